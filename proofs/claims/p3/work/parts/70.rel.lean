/-! THE RELATION: the reference's row -/
/-- rows: 0 kind, 1 parent, 2 way, 3 weight, 4 place, 5 active; 6 exists, 7 wide, 8 high, 9 in, 10 tab, 11 hidden; 12 exists, 13 x, 14 y, 15 columns, 16 rows, 17 root; 18, 19 floats; 20, 21 focus; 22 to 24 slots -/
def mw (j : Nat) : Nat := if j < 6 then 24 else if j < 12 then 12 else if j < 18 then 5 else if j = 18 then 1 else if j = 19 then 4 else if j = 20 then 1 else if j = 21 then 12 else if j < 25 then 219 else 0
def ma (j i : Nat) : Nat := if j < 6 then 72 + 6 * i + j else if j < 12 then 6 * i + (j - 6) else if j < 18 then 216 + 6 * i + (j - 12) else if j = 18 then 246 else if j = 19 then 247 + i else if j = 20 then 251 else if j = 21 then 252 + i else 264 + 219 * (j - 22) + i
theorem ma_inj {j i j' i' : Nat} (h : i < mw j) (h' : i' < mw j') (e : ma j i = ma j' i') : j = j' ∧ i = i' := by
  unfold mw at h h'
  unfold ma at e
  by_cases a1 : j < 6
  · rw [if_pos a1] at h e
    by_cases b1 : j' < 6
    · rw [if_pos b1] at h' e
      omega
    · rw [if_neg b1] at h' e
      by_cases b2 : j' < 12
      · rw [if_pos b2] at h' e
        omega
      · rw [if_neg b2] at h' e
        by_cases b3 : j' < 18
        · rw [if_pos b3] at h' e
          omega
        · rw [if_neg b3] at h' e
          revert h' e
          split <;> (try split) <;> (try split) <;> (try split) <;> (try split) <;> intro h' e <;> omega
  · rw [if_neg a1] at h e
    by_cases a2 : j < 12
    · rw [if_pos a2] at h e
      by_cases b1 : j' < 6
      · rw [if_pos b1] at h' e
        omega
      · rw [if_neg b1] at h' e
        by_cases b2 : j' < 12
        · rw [if_pos b2] at h' e
          omega
        · rw [if_neg b2] at h' e
          by_cases b3 : j' < 18
          · rw [if_pos b3] at h' e
            omega
          · rw [if_neg b3] at h' e
            revert h' e
            split <;> (try split) <;> (try split) <;> (try split) <;> (try split) <;> intro h' e <;> omega
    · rw [if_neg a2] at h e
      by_cases a3 : j < 18
      · rw [if_pos a3] at h e
        by_cases b1 : j' < 6
        · rw [if_pos b1] at h' e
          omega
        · rw [if_neg b1] at h' e
          by_cases b2 : j' < 12
          · rw [if_pos b2] at h' e
            omega
          · rw [if_neg b2] at h' e
            by_cases b3 : j' < 18
            · rw [if_pos b3] at h' e
              omega
            · rw [if_neg b3] at h' e
              revert h' e
              split <;> (try split) <;> (try split) <;> (try split) <;> (try split) <;> intro h' e <;> omega
      · rw [if_neg a3] at h e
        by_cases b1 : j' < 6
        · rw [if_pos b1] at h' e
          revert h e
          split <;> (try split) <;> (try split) <;> (try split) <;> (try split) <;> intro h e <;> omega
        · rw [if_neg b1] at h' e
          by_cases b2 : j' < 12
          · rw [if_pos b2] at h' e
            revert h e
            split <;> (try split) <;> (try split) <;> (try split) <;> (try split) <;> intro h e <;> omega
          · rw [if_neg b2] at h' e
            by_cases b3 : j' < 18
            · rw [if_pos b3] at h' e
              revert h e
              split <;> (try split) <;> (try split) <;> (try split) <;> (try split) <;> intro h e <;> omega
            · rw [if_neg b3] at h' e
              have c : j = 18 ∨ j = 19 ∨ j = 20 ∨ j = 21 ∨ j = 22 ∨ j = 23 ∨ j = 24 := by
                revert h
                split <;> (try split) <;> (try split) <;> (try split) <;> (try split) <;> intro h <;> omega
              have c' : j' = 18 ∨ j' = 19 ∨ j' = 20 ∨ j' = 21 ∨ j' = 22 ∨ j' = 23 ∨ j' = 24 := by
                revert h'
                split <;> (try split) <;> (try split) <;> (try split) <;> (try split) <;> intro h' <;> omega
              rcases c with rfl | rfl | rfl | rfl | rfl | rfl | rfl <;> rcases c' with rfl | rfl | rfl | rfl | rfl | rfl | rfl <;> simp at h h' e <;> omega
theorem ma_lt {j i : Nat} (h : i < mw j) : ma j i < 921 := by
  unfold mw at h
  unfold ma
  revert h
  split
  · intro h; omega
  · split
    · intro h; omega
    · split
      · intro h; omega
      · split
        · intro h; omega
        · split
          · intro h; omega
          · split
            · intro h; omega
            · split
              · intro h; omega
              · split <;> intro h <;> omega
def mv (f : Nat → Int32) : VW := fun j i => if i < mw j then (f (ma j i)).toInt else 0
def mu (U : VW) (j i : Nat) (x : Int) : VW := fun j' i' => if j' = j ∧ i' = i then x else U j' i'
theorem mu_def (U : VW) (j i : Nat) (x : Int) (j' i' : Nat) : mu U j i x j' i' = if j' = j ∧ i' = i then x else U j' i' := rfl
theorem mu_ne {U : VW} {j i : Nat} {x : Int} {j' : Nat} (h : j' ≠ j) : mu U j i x j' = U j' := by
  funext i'
  exact if_neg (fun q => h q.1)
theorem mu_at {U : VW} {j i : Nat} {x : Int} (i' : Nat) : mu U j i x j i' = if i' = i then x else U j i' := by
  unfold mu
  by_cases h : i' = i
  · rw [if_pos ⟨rfl, h⟩, if_pos h]
  · rw [if_neg (fun q => h q.2), if_neg h]
theorem mv_in {f : Nat → Int32} {j i : Nat} (h : i < mw j) : mv f j i = (f (ma j i)).toInt := if_pos h
theorem mv_rg (f : Nat → Int32) (j i : Nat) : -2147483648 ≤ mv f j i ∧ mv f j i < 2147483648 := by
  unfold mv
  split
  · exact ⟨j_lo _, j_hi _⟩
  · omega
theorem mv_oI {f : Nat → Int32} {j i : Nat} (h : i < mw j) : f (ma j i) = oI (mv f j i) := by rw [mv_in h, j_oIt]
theorem t_mv {f : Nat → Int32} {j i : Nat} : (oI (mv f j i)).toInt = mv f j i := j_oI (mv_rg f j i).1 (mv_rg f j i).2
theorem mv_su {σ : Sg} {c j i : Nat} {v : Int32} (h : i < mw j) : mv ((su σ c (ma j i) v).1 c) = mu (mv (σ.1 c)) j i v.toInt := by
  funext j' i'
  rw [mu_def]
  unfold mv
  by_cases q : i' < mw j'
  · rw [if_pos q, if_pos q, su_at]
    by_cases e : j' = j ∧ i' = i
    · rw [if_pos e, if_pos ⟨rfl, by rw [e.1, e.2]⟩]
    · rw [if_neg e, if_neg (fun z => e (ma_inj q h z.2))]
  · rw [if_neg q, if_neg q, if_neg]
    rintro ⟨rfl, rfl⟩
    exact q h
theorem mw_n {k : Nat} (h : k < 6) : mw k = 24 := if_pos h
theorem mw_p {k : Nat} (h : k < 6) : mw (6 + k) = 12 := by
  unfold mw
  rw [if_neg (by omega), if_pos (by omega)]
theorem mw_w {k : Nat} (h : k < 6) : mw (12 + k) = 5 := by
  unfold mw
  rw [if_neg (by omega), if_neg (by omega), if_pos (by omega)]
theorem ma_n {k : Nat} (h : k < 6) (n : Nat) : ma k n = 72 + 6 * n + k := if_pos h
theorem ma_p {k : Nat} (h : k < 6) (p : Nat) : ma (6 + k) p = 6 * p + k := by
  unfold ma
  rw [if_neg (by omega), if_pos (by omega)]
  omega
theorem ma_w {k : Nat} (h : k < 6) (w : Nat) : ma (12 + k) w = 216 + 6 * w + k := by
  unfold ma
  rw [if_neg (by omega), if_neg (by omega), if_pos (by omega)]
  omega
/-- an index in the row -/
theorem mx (o m : Nat) {a : Int32} {n k : Nat} (ha : a.toInt = n) (hn : n < 1000) (hk : k < 1000) (hm : m ≤ 6) (ho : o < 1000) : ((nI o + nI m * a) + nI k).toInt = ((o + m * n + k : Nat) : Int) := by
  have e : a = nI n := j_eq.mpr (by rw [ha, j_nI (by omega)])
  rw [e, show nI m * nI n = nI (m * n) from (Int32.ofNat_mul m n).symm, j_a, j_a, j_nI]
  have : m * n ≤ 6 * 1000 := Nat.mul_le_mul hm (by omega)
  omega
section MP
variable {σ : Sg}
theorem m_of {a : Int32} {p k : Nat} (ha : a.toInt = p) (hp : p < 12) (hk : k < 6) : fX9_of σ 462 a (nI k) = some (oI (mv (σ.1 463) (6 + k) p)) := by
  have e := mx 0 6 (k := k) ha (by omega) (by omega) (by decide) (by decide)
  have e2 : (nI 0 + nI 6 * a) + nI k = 6 * a + nI k := by rw [show nI 0 + nI 6 * a = nI 6 * a from Int32.zero_add _]; rfl
  rw [e2] at e
  unfold fX9_of
  rw [if_pos (by rw [j_ck, e]; omega), ← mv_oI (by rw [mw_p hk]; exact hp), ma_p hk]
  have e3 : (6 * a + nI k).toNatClampNeg = 6 * p + k := by
    show (6 * a + nI k).toInt.toNat = _
    rw [e]
    omega
  rw [e3]
theorem m_its {a : Int32} {n k : Nat} (ha : a.toInt = n) (hn : n < 24) (hk : k < 6) : fX9_its σ 462 a (nI k) = some (oI (mv (σ.1 463) k n)) := by
  have e := mx 72 6 (k := k) ha (by omega) (by omega) (by decide) (by decide)
  have e2 : (nI 72 + nI 6 * a) + nI k = 72 + 6 * a + nI k := rfl
  rw [e2] at e
  unfold fX9_its
  rw [if_pos (by rw [j_ck, e]; omega), ← mv_oI (by rw [mw_n hk]; exact hn), ma_n hk]
  have e3 : (72 + 6 * a + nI k).toNatClampNeg = 72 + 6 * n + k := by
    show (72 + 6 * a + nI k).toInt.toNat = _
    rw [e]
    omega
  rw [e3]
theorem m_window {a b : Int32} {n k : Nat} (ha : a.toInt = n) (hn : n < 5) (hk : k < 6) : fX9_window σ 462 a (nI k) b = some (oI (mv (σ.1 463) (12 + k) n)) := by
  have e := mx 216 6 (k := k) ha (by omega) (by omega) (by decide) (by decide)
  have e2 : (nI 216 + nI 6 * a) + nI k = 216 + 6 * a + nI k := rfl
  rw [e2] at e
  unfold fX9_window
  rw [if_pos (by rw [j_ck, e]; omega), ← mv_oI (by rw [mw_w hk]; exact hn), ma_w hk]
  have e3 : (216 + 6 * a + nI k).toNatClampNeg = 216 + 6 * n + k := by
    show (216 + 6 * a + nI k).toInt.toNat = _
    rw [e]
    omega
  rw [e3]
/-- it makes the row U', and nothing else -/
def Mo (F : Option Sg) (σ : Sg) (U' : VW) : Prop := ∃ σ', F = some σ' ∧ Out σ σ' 463 463 ∧ mv (σ'.1 463) = U'
theorem m_put {a : Int32} {p k : Nat} (ha : a.toInt = p) (hp : p < 12) (hk : k < 6) (v : Int32) : Mo (fX9_put σ 462 a (nI k) v) σ (mu (mv (σ.1 463)) (6 + k) p v.toInt) := by
  have e := mx 0 6 (k := k) ha (by omega) (by omega) (by decide) (by decide)
  have e2 : (nI 0 + nI 6 * a) + nI k = 6 * a + nI k := by rw [show nI 0 + nI 6 * a = nI 6 * a from Int32.zero_add _]; rfl
  rw [e2] at e
  have e3 : (6 * a + nI k).toNatClampNeg = ma (6 + k) p := by
    rw [ma_p hk]
    show (6 * a + nI k).toInt.toNat = _
    rw [e]
    omega
  unfold Mo fX9_put
  rw [if_pos (by rw [j_ck, e]; omega), j_nm, e3]
  exact ⟨_, rfl, su_out, mv_su (by rw [mw_p hk]; exact hp)⟩
theorem m_lay {a : Int32} {n k : Nat} (ha : a.toInt = n) (hn : n < 24) (hk : k < 6) (v : Int32) : Mo (fX9_lay σ 462 a (nI k) v) σ (mu (mv (σ.1 463)) k n v.toInt) := by
  have e := mx 72 6 (k := k) ha (by omega) (by omega) (by decide) (by decide)
  have e2 : (nI 72 + nI 6 * a) + nI k = 72 + 6 * a + nI k := rfl
  rw [e2] at e
  have e3 : (72 + 6 * a + nI k).toNatClampNeg = ma k n := by
    rw [ma_n hk]
    show (72 + 6 * a + nI k).toInt.toNat = _
    rw [e]
    omega
  unfold Mo fX9_lay
  rw [if_pos (by rw [j_ck, e]; omega), j_nm, e3]
  exact ⟨_, rfl, su_out, mv_su (by rw [mw_n hk]; exact hn)⟩
theorem m_puts {a : Int32} {n k : Nat} (ha : a.toInt = n) (hn : n < 5) (hk : k < 6) (v : Int32) : Mo (fX9_puts σ 462 a (nI k) v) σ (mu (mv (σ.1 463)) (12 + k) n v.toInt) := by
  have e := mx 216 6 (k := k) ha (by omega) (by omega) (by decide) (by decide)
  have e2 : (nI 216 + nI 6 * a) + nI k = 216 + 6 * a + nI k := rfl
  rw [e2] at e
  have e3 : (216 + 6 * a + nI k).toNatClampNeg = ma (12 + k) n := by
    rw [ma_w hk]
    show (216 + 6 * a + nI k).toInt.toNat = _
    rw [e]
    omega
  unfold Mo fX9_puts
  rw [if_pos (by rw [j_ck, e]; omega), j_nm, e3]
  exact ⟨_, rfl, su_out, mv_su (by rw [mw_w hk]; exact hn)⟩
theorem m_within (a l h : Int32) : fX9_within σ a l h = some (decide (l.toInt ≤ a.toInt ∧ a.toInt ≤ h.toInt)) := by
  unfold fX9_within
  by_cases q : a < l
  · rw [if_pos q, decide_eq_false (fun z => by rw [j_lt] at q; omega)]
  · rw [if_neg q]
    rw [j_lt] at q
    by_cases q2 : h < a
    · rw [if_pos q2, decide_eq_false (fun z => by rw [j_lt] at q2; omega)]
    · rw [if_neg q2, decide_eq_true]
      rw [j_lt] at q2
      omega
theorem m_isPane (a : Int32) : fX9_isPane σ 462 a = some (decide (0 ≤ a.toInt ∧ a.toInt < 12) && decide (mv (σ.1 463) 6 a.toInt.toNat = 1)) := by
  unfold fX9_isPane
  rw [m_within, j_b]
  have e11 : (11 : Int32).toInt = 11 := rfl
  by_cases q : 0 ≤ a.toInt ∧ a.toInt < 12
  · have q' : (0 : Int32).toInt ≤ a.toInt ∧ a.toInt ≤ (11 : Int32).toInt := by rw [jz0, e11]; omega
    rw [if_pos (by rw [decide_eq_true q']), show (0 : Int32) = nI 0 from rfl, m_of (p := a.toInt.toNat) (by omega) (by omega) (by decide), j_b]
    by_cases z : mv (σ.1 463) (6 + 0) a.toInt.toNat = 1
    · rw [if_pos (by rw [j_eq, t_mv, z]; rfl), decide_eq_true q, decide_eq_true z]
      rfl
    · rw [if_neg (by rw [j_eq, t_mv]; exact z), decide_eq_true q, decide_eq_false z]
      rfl
  · have q' : ¬ ((0 : Int32).toInt ≤ a.toInt ∧ a.toInt ≤ (11 : Int32).toInt) := by rw [jz0, e11]; omega
    rw [if_neg (by rw [decide_eq_false q']; decide), decide_eq_false q]
    rfl
theorem m_isWindow (a : Int32) : fX9_isWindow σ 462 a = some (decide (0 ≤ a.toInt ∧ a.toInt < 5) && decide (mv (σ.1 463) 12 a.toInt.toNat = 1)) := by
  unfold fX9_isWindow
  rw [m_within, j_b]
  have e4 : (4 : Int32).toInt = 4 := rfl
  by_cases q : 0 ≤ a.toInt ∧ a.toInt < 5
  · have q' : (0 : Int32).toInt ≤ a.toInt ∧ a.toInt ≤ (4 : Int32).toInt := by rw [jz0, e4]; omega
    rw [if_pos (by rw [decide_eq_true q']), show (0 : Int32) = nI 0 from rfl, m_window (n := a.toInt.toNat) (by omega) (by omega) (by decide), j_b]
    by_cases z : mv (σ.1 463) (12 + 0) a.toInt.toNat = 1
    · rw [if_pos (by rw [j_eq, t_mv, z]; rfl), decide_eq_true q, decide_eq_true z]
      rfl
    · rw [if_neg (by rw [j_eq, t_mv]; exact z), decide_eq_true q, decide_eq_false z]
      rfl
  · have q' : ¬ ((0 : Int32).toInt ≤ a.toInt ∧ a.toInt ≤ (4 : Int32).toInt) := by rw [jz0, e4]; omega
    rw [if_neg (by rw [decide_eq_false q']; decide), decide_eq_false q]
    rfl
theorem m_isPlaced {a : Int32} {p : Nat} (ha : a.toInt = p) (hp : p < 12) : fX9_isPlaced σ 462 a = some (decide (mv (σ.1 463) 9 p ≠ -1)) := by
  unfold fX9_isPlaced
  rw [show (3 : Int32) = nI 3 from rfl, m_of ha hp (by decide), j_b]
  by_cases z : mv (σ.1 463) (6 + 3) p = -1
  · rw [if_pos (by rw [j_eq, t_mv, z]; rfl), decide_eq_false (fun q => q z)]
  · rw [if_neg (by rw [j_eq, t_mv, jm1]; exact z), decide_eq_true z]
theorem m_isShown {a : Int32} {p : Nat} (ha : a.toInt = p) (hp : p < 12) : fX9_isShown σ 462 a = some (decide (mv (σ.1 463) 9 p ≠ -1) && decide (mv (σ.1 463) 11 p = 0)) := by
  unfold fX9_isShown
  rw [m_isPlaced ha hp, j_b]
  by_cases z : mv (σ.1 463) 9 p = -1
  · rw [if_neg (by simp [z])]
    simp [z]
  · rw [if_pos (by simp [z]), show (5 : Int32) = nI 5 from rfl, m_of ha hp (by decide), j_b]
    by_cases y : mv (σ.1 463) (6 + 5) p = 0
    · rw [if_pos (by rw [j_eq, t_mv, y]; rfl)]
      have y' : mv (σ.1 463) 11 p = 0 := y
      simp [z, y']
    · rw [if_neg (by rw [j_eq, t_mv, jz0]; exact y)]
      have y' : ¬ mv (σ.1 463) 11 p = 0 := y
      simp [y']
theorem m_isChild {a s : Int32} {n : Nat} (ha : a.toInt = n) (hn : n < 24) : fX9_isChild σ 462 a s = some (decide (mv (σ.1 463) 0 n ≠ 0) && decide (mv (σ.1 463) 1 n = s.toInt)) := by
  unfold fX9_isChild
  rw [show (0 : Int32) = nI 0 from rfl, m_its ha hn (by decide), j_b]
  by_cases z : mv (σ.1 463) 0 n = 0
  · rw [if_pos (by rw [j_eq, t_mv, z]; rfl)]
    simp [z]
  · rw [if_neg (by rw [j_eq, t_mv]; exact z), show (1 : Int32) = nI 1 from rfl, m_its ha hn (by decide), j_b]
    by_cases y : mv (σ.1 463) 1 n = s.toInt
    · rw [if_pos (by rw [j_eq, t_mv]; exact y)]
      simp [z, y]
    · rw [if_neg (by rw [j_eq, t_mv]; exact y)]
      simp [y]
end MP
section MQ
variable {σ : Sg}
theorem m_i0 {a : Int32} {n : Nat} (ha : a.toInt = n) (hn : n < 24) : fX9_its σ 462 a 0 = some (oI (mv (σ.1 463) 0 n)) := m_its (k := 0) ha hn (by decide)
theorem m_o0 {a : Int32} {p : Nat} (ha : a.toInt = p) (hp : p < 12) : fX9_of σ 462 a 0 = some (oI (mv (σ.1 463) 6 p)) := m_of (k := 0) ha hp (by decide)
theorem m_w0 {a b : Int32} {w : Nat} (ha : a.toInt = w) (hw : w < 5) : fX9_window σ 462 a 0 b = some (oI (mv (σ.1 463) 12 w)) := m_window (k := 0) ha hw (by decide)
theorem m_l0 {a : Int32} {n : Nat} (ha : a.toInt = n) (hn : n < 24) (v : Int32) : Mo (fX9_lay σ 462 a 0 v) σ (mu (mv (σ.1 463)) 0 n v.toInt) := m_lay (k := 0) ha hn (by decide) v
theorem m_p0 {a : Int32} {p : Nat} (ha : a.toInt = p) (hp : p < 12) (v : Int32) : Mo (fX9_put σ 462 a 0 v) σ (mu (mv (σ.1 463)) 6 p v.toInt) := m_put (k := 0) ha hp (by decide) v
theorem m_s0 {a : Int32} {w : Nat} (ha : a.toInt = w) (hw : w < 5) (v : Int32) : Mo (fX9_puts σ 462 a 0 v) σ (mu (mv (σ.1 463)) 12 w v.toInt) := m_puts (k := 0) ha hw (by decide) v
theorem m_i1 {a : Int32} {n : Nat} (ha : a.toInt = n) (hn : n < 24) : fX9_its σ 462 a 1 = some (oI (mv (σ.1 463) 1 n)) := m_its (k := 1) ha hn (by decide)
theorem m_o1 {a : Int32} {p : Nat} (ha : a.toInt = p) (hp : p < 12) : fX9_of σ 462 a 1 = some (oI (mv (σ.1 463) 7 p)) := m_of (k := 1) ha hp (by decide)
theorem m_w1 {a b : Int32} {w : Nat} (ha : a.toInt = w) (hw : w < 5) : fX9_window σ 462 a 1 b = some (oI (mv (σ.1 463) 13 w)) := m_window (k := 1) ha hw (by decide)
theorem m_l1 {a : Int32} {n : Nat} (ha : a.toInt = n) (hn : n < 24) (v : Int32) : Mo (fX9_lay σ 462 a 1 v) σ (mu (mv (σ.1 463)) 1 n v.toInt) := m_lay (k := 1) ha hn (by decide) v
theorem m_p1 {a : Int32} {p : Nat} (ha : a.toInt = p) (hp : p < 12) (v : Int32) : Mo (fX9_put σ 462 a 1 v) σ (mu (mv (σ.1 463)) 7 p v.toInt) := m_put (k := 1) ha hp (by decide) v
theorem m_s1 {a : Int32} {w : Nat} (ha : a.toInt = w) (hw : w < 5) (v : Int32) : Mo (fX9_puts σ 462 a 1 v) σ (mu (mv (σ.1 463)) 13 w v.toInt) := m_puts (k := 1) ha hw (by decide) v
theorem m_i2 {a : Int32} {n : Nat} (ha : a.toInt = n) (hn : n < 24) : fX9_its σ 462 a 2 = some (oI (mv (σ.1 463) 2 n)) := m_its (k := 2) ha hn (by decide)
theorem m_o2 {a : Int32} {p : Nat} (ha : a.toInt = p) (hp : p < 12) : fX9_of σ 462 a 2 = some (oI (mv (σ.1 463) 8 p)) := m_of (k := 2) ha hp (by decide)
theorem m_w2 {a b : Int32} {w : Nat} (ha : a.toInt = w) (hw : w < 5) : fX9_window σ 462 a 2 b = some (oI (mv (σ.1 463) 14 w)) := m_window (k := 2) ha hw (by decide)
theorem m_l2 {a : Int32} {n : Nat} (ha : a.toInt = n) (hn : n < 24) (v : Int32) : Mo (fX9_lay σ 462 a 2 v) σ (mu (mv (σ.1 463)) 2 n v.toInt) := m_lay (k := 2) ha hn (by decide) v
theorem m_p2 {a : Int32} {p : Nat} (ha : a.toInt = p) (hp : p < 12) (v : Int32) : Mo (fX9_put σ 462 a 2 v) σ (mu (mv (σ.1 463)) 8 p v.toInt) := m_put (k := 2) ha hp (by decide) v
theorem m_s2 {a : Int32} {w : Nat} (ha : a.toInt = w) (hw : w < 5) (v : Int32) : Mo (fX9_puts σ 462 a 2 v) σ (mu (mv (σ.1 463)) 14 w v.toInt) := m_puts (k := 2) ha hw (by decide) v
theorem m_i3 {a : Int32} {n : Nat} (ha : a.toInt = n) (hn : n < 24) : fX9_its σ 462 a 3 = some (oI (mv (σ.1 463) 3 n)) := m_its (k := 3) ha hn (by decide)
theorem m_o3 {a : Int32} {p : Nat} (ha : a.toInt = p) (hp : p < 12) : fX9_of σ 462 a 3 = some (oI (mv (σ.1 463) 9 p)) := m_of (k := 3) ha hp (by decide)
theorem m_w3 {a b : Int32} {w : Nat} (ha : a.toInt = w) (hw : w < 5) : fX9_window σ 462 a 3 b = some (oI (mv (σ.1 463) 15 w)) := m_window (k := 3) ha hw (by decide)
theorem m_l3 {a : Int32} {n : Nat} (ha : a.toInt = n) (hn : n < 24) (v : Int32) : Mo (fX9_lay σ 462 a 3 v) σ (mu (mv (σ.1 463)) 3 n v.toInt) := m_lay (k := 3) ha hn (by decide) v
theorem m_p3 {a : Int32} {p : Nat} (ha : a.toInt = p) (hp : p < 12) (v : Int32) : Mo (fX9_put σ 462 a 3 v) σ (mu (mv (σ.1 463)) 9 p v.toInt) := m_put (k := 3) ha hp (by decide) v
theorem m_s3 {a : Int32} {w : Nat} (ha : a.toInt = w) (hw : w < 5) (v : Int32) : Mo (fX9_puts σ 462 a 3 v) σ (mu (mv (σ.1 463)) 15 w v.toInt) := m_puts (k := 3) ha hw (by decide) v
theorem m_i4 {a : Int32} {n : Nat} (ha : a.toInt = n) (hn : n < 24) : fX9_its σ 462 a 4 = some (oI (mv (σ.1 463) 4 n)) := m_its (k := 4) ha hn (by decide)
theorem m_o4 {a : Int32} {p : Nat} (ha : a.toInt = p) (hp : p < 12) : fX9_of σ 462 a 4 = some (oI (mv (σ.1 463) 10 p)) := m_of (k := 4) ha hp (by decide)
theorem m_w4 {a b : Int32} {w : Nat} (ha : a.toInt = w) (hw : w < 5) : fX9_window σ 462 a 4 b = some (oI (mv (σ.1 463) 16 w)) := m_window (k := 4) ha hw (by decide)
theorem m_l4 {a : Int32} {n : Nat} (ha : a.toInt = n) (hn : n < 24) (v : Int32) : Mo (fX9_lay σ 462 a 4 v) σ (mu (mv (σ.1 463)) 4 n v.toInt) := m_lay (k := 4) ha hn (by decide) v
theorem m_p4 {a : Int32} {p : Nat} (ha : a.toInt = p) (hp : p < 12) (v : Int32) : Mo (fX9_put σ 462 a 4 v) σ (mu (mv (σ.1 463)) 10 p v.toInt) := m_put (k := 4) ha hp (by decide) v
theorem m_s4 {a : Int32} {w : Nat} (ha : a.toInt = w) (hw : w < 5) (v : Int32) : Mo (fX9_puts σ 462 a 4 v) σ (mu (mv (σ.1 463)) 16 w v.toInt) := m_puts (k := 4) ha hw (by decide) v
theorem m_i5 {a : Int32} {n : Nat} (ha : a.toInt = n) (hn : n < 24) : fX9_its σ 462 a 5 = some (oI (mv (σ.1 463) 5 n)) := m_its (k := 5) ha hn (by decide)
theorem m_o5 {a : Int32} {p : Nat} (ha : a.toInt = p) (hp : p < 12) : fX9_of σ 462 a 5 = some (oI (mv (σ.1 463) 11 p)) := m_of (k := 5) ha hp (by decide)
theorem m_w5 {a b : Int32} {w : Nat} (ha : a.toInt = w) (hw : w < 5) : fX9_window σ 462 a 5 b = some (oI (mv (σ.1 463) 17 w)) := m_window (k := 5) ha hw (by decide)
theorem m_l5 {a : Int32} {n : Nat} (ha : a.toInt = n) (hn : n < 24) (v : Int32) : Mo (fX9_lay σ 462 a 5 v) σ (mu (mv (σ.1 463)) 5 n v.toInt) := m_lay (k := 5) ha hn (by decide) v
theorem m_p5 {a : Int32} {p : Nat} (ha : a.toInt = p) (hp : p < 12) (v : Int32) : Mo (fX9_put σ 462 a 5 v) σ (mu (mv (σ.1 463)) 11 p v.toInt) := m_put (k := 5) ha hp (by decide) v
theorem m_s5 {a : Int32} {w : Nat} (ha : a.toInt = w) (hw : w < 5) (v : Int32) : Mo (fX9_puts σ 462 a 5 v) σ (mu (mv (σ.1 463)) 17 w v.toInt) := m_puts (k := 5) ha hw (by decide) v
end MQ
