/-! THE RELATION: read (6): a tab that is made, in the reference -/
section RBB
variable {n : Nat} {c : Nat → Int32} {σ s : Sg} {p m : Nat}
/-- the reference's rows after a tab -/
def tbU (U : VW) (g q j : Nat) (hid : Bool) (st : Bool) : VW := mu (mu (mu (mu U 9 q g) 10 q j) 11 q (if hid then 1 else 0)) 5 g (if st = true ∨ (hid = false ∧ U 5 g = -1) then (q : Int) else U 5 g)
def Fh (s s1 : Sg) : Prop := s1.2 = s.2 ∧ (∀ x, x ≠ 462 → x ≠ 463 → s1.1 x = s.1 x) ∧ ∀ j, j ≠ 15 → j ≠ 16 → j ≠ 20 → s1.1 462 j = s.1 462 j
theorem Fh.rf : Fh s s := ⟨rfl, fun _ _ _ => rfl, fun _ _ _ _ => rfl⟩
theorem Fh.tr {s1 s2 : Sg} (h : Fh s s1) (h2 : Fh s1 s2) : Fh s s2 := ⟨h2.1.trans h.1, fun x a b => (h2.2.1 x a b).trans (h.2.1 x a b), fun j a b e => (h2.2.2 j a b e).trans (h.2.2 j a b e)⟩
theorem Fh.st {j : Nat} {v : Int32} (h : j = 15 ∨ j = 16 ∨ j = 20) : Fh s (su s 462 j v) := ⟨rfl, fun x a _ => su_ne a, fun k a b e => by rw [su_at, if_neg (by omega)]⟩
theorem Fh.ou {s1 : Sg} (o : Out s s1 463 463) : Fh s s1 := ⟨o.1, fun x _ b => o.2 x (by omega), fun j _ _ _ => by rw [o.2 462 (by omega)]⟩
theorem MT.fh {s1 : Sg} {q : Nat} (h : MT n c s p) (f : Fh s s1) (e : s1.1 462 15 = nI q) : MT n c s1 q :=
  ⟨by rw [f.2.2 5 (by omega) (by omega) (by omega)]; exact h.1, fun i hi => by rw [f.2.1 465 (by omega) (by omega)]; exact h.2.1 i hi, e⟩
theorem m_h121 (K : Sg → Int32 → Int32 → Int32 → Option Sg) (st : Bool) (l3 l4 l5 l6 s1 s2 : Int32) : fX9_readsGroup_121 462 K s 1 (b2i st) l3 l4 l5 l6 s1 s2 = fX9_readsGroup_139 462 K (su s 462 15 (s1 + s2)) 1 l3 l4 l5 l6 (b2i (st || !decide (l6 = 0))) := by
  unfold fX9_readsGroup_121 fX9_readsGroup_134
  rw [j_nm]
  cases st
  · rw [show b2i false = 0 from rfl, if_pos rfl]
    by_cases z : l6 = 0
    · rw [if_pos z, decide_eq_true z]
      rfl
    · rw [if_neg z, decide_eq_false z]
      rfl
  · rw [show b2i true = 1 from rfl, if_neg (show ¬ ((1 : Int32) = 0) by decide)]
    rfl
theorem m_h99 (K : Sg → Int32 → Int32 → Int32 → Option Sg) (st : Bool) (l3 l4 l5 l6 : Int32) : fX9_readsGroup_99 462 K s 1 (b2i st) l3 l4 l5 l6 = fX9_readsGroup_121 462 K s 1 (b2i st) l3 l4 l5 l6 (s.1 462 15) (if l5 = 0 ∧ l6 = 0 then 0 else 1) := by
  unfold fX9_readsGroup_99 fX9_readsGroup_116
  by_cases z : l5 = 0
  · by_cases y : l6 = 0
    · rw [if_pos z, if_pos y, if_pos ⟨z, y⟩]
    · rw [if_pos z, if_neg y, if_neg (fun w => y w.2)]
  · rw [if_neg z, if_neg (fun w => z w.1)]
theorem m_h139 (K : Sg → Int32 → Int32 → Int32 → Option Sg) {q g j : Nat} (hq : q < 12) (hg : g < 23) (hj : j < 12) (e21 : s.1 462 21 = oI g) (hid st : Bool) (s0 : Int32) : ∃ s', fX9_readsGroup_139 462 K s 1 (nI j) (nI q) (b2i hid) (b2i st) s0 = fX9_readsGroup_238 462 K s' 1 s0 (nI j) ∧ Out s s' 463 463 ∧ mv (s'.1 463) = tbU (mv (s.1 463)) g q j hid st := by
  have tq : (nI q).toInt = q := j_nI (by omega)
  have tg : (oI (g : Int)).toInt = g := j_oI (by omega) (by omega)
  obtain ⟨s1, a1, a2, a3⟩ := m_p3 (σ := s) tq hq (oI g)
  obtain ⟨s2, b1, b2, b3⟩ := m_p4 (σ := s1) tq hq (nI j)
  have f21 : ∀ x : Sg, Out s x 463 463 → x.1 462 21 = oI g := fun x o => by rw [o.2 462 (by omega)]; exact e21
  obtain ⟨s3, d1, d2, d3⟩ := m_p5 (σ := s2) tq hq (if hid then 1 else 0)
  have o3 : Out s s3 463 463 := (a2.tr b2).tr d2
  have r5 : mv (s3.1 463) 5 g = mv (s.1 463) 5 g := by rw [d3, mu_ne (by decide), b3, mu_ne (by decide), a3, mu_ne (by decide)]
  have rows : mv (s3.1 463) = mu (mu (mu (mv (s.1 463)) 9 q g) 10 q j) 11 q (if hid then 1 else 0) := by
    rw [d3, b3, a3, tg, j_nI (by omega)]
    cases hid <;> rfl
  obtain ⟨s4, g1, g2, g3⟩ := m_l5 (σ := s3) tg (by omega) (nI q)
  obtain ⟨s5, h1, h2, h3⟩ := m_l5 (σ := s3) tg (by omega) (oI (mv (s.1 463) 5 g))
  have e203 : ∀ l5 l6 : Int32, fX9_readsGroup_203 462 K s3 1 s0 (nI j) (nI q) = fX9_readsGroup_238 462 K s4 1 s0 (nI j) := fun _ _ => by
    unfold fX9_readsGroup_203 fX9_readsGroup_208 fX9_readsGroup_235
    rw [if_neg (show ¬ ((1 : Int32) = 0) by decide), f21 s3 o3, g1, j_b]
  have e207 : fX9_readsGroup_207 462 K s3 1 s0 (nI j) (nI q) = fX9_readsGroup_238 462 K s5 1 s0 (nI j) := by
    unfold fX9_readsGroup_207 fX9_readsGroup_208 fX9_readsGroup_235
    rw [if_pos rfl, f21 s3 o3, m_i5 tg (by omega), j_b, r5, h1, j_b]
  have e177 : ∀ x : Int32, x = (if hid then 1 else 0) → fX9_readsGroup_177 462 K s2 1 s0 (nI j) (nI q) (b2i hid) (b2i st) (nI q) 5 x = if st = true ∨ (hid = false ∧ mv (s.1 463) 5 g = -1) then fX9_readsGroup_238 462 K s4 1 s0 (nI j) else fX9_readsGroup_238 462 K s5 1 s0 (nI j) := fun x hx => by
    unfold fX9_readsGroup_177
    rw [hx, d1, j_b]
    cases st
    · rw [if_pos (show b2i false = 0 from rfl)]
      cases hid
      · rw [if_pos (show b2i false = 0 from rfl), f21 s3 o3, m_i5 tg (by omega), j_b, r5]
        by_cases z : mv (s.1 463) 5 g = -1
        · rw [if_pos (by rw [z]; rfl), e203 0 0, if_pos (Or.inr ⟨rfl, z⟩)]
        · rw [if_neg (by rw [j_eq, t_mv, jm1]; exact z), e207, if_neg (fun y => y.elim (fun u => by cases u) (fun u => z u.2))]
      · rw [if_neg (show ¬ b2i true = 0 by decide), e207, if_neg (fun y => y.elim (fun u => by cases u) (fun u => by cases u.1))]
    · rw [if_neg (show ¬ b2i true = 0 by decide), e203 0 0, if_pos (Or.inl rfl)]
  have start : fX9_readsGroup_139 462 K s 1 (nI j) (nI q) (b2i hid) (b2i st) s0 = fX9_readsGroup_177 462 K s2 1 s0 (nI j) (nI q) (b2i hid) (b2i st) (nI q) 5 (if hid then 1 else 0) := by
    unfold fX9_readsGroup_139
    rw [if_neg (show ¬ ((1 : Int32) = 0) by decide), e21, a1, j_b, b1, j_b]
    cases hid
    · rw [if_pos (show b2i false = 0 from rfl)]
      rfl
    · rw [if_neg (show ¬ b2i true = 0 by decide)]
      rfl
  rw [start, e177 _ rfl]
  by_cases z : st = true ∨ (hid = false ∧ mv (s.1 463) 5 g = -1)
  · refine ⟨s4, by rw [if_pos z], o3.tr g2, ?_⟩
    rw [g3, rows, tq]
    unfold tbU
    rw [if_pos z]
  · refine ⟨s5, by rw [if_neg z], o3.tr h2, ?_⟩
    rw [h3, rows, t_mv]
    unfold tbU
    rw [if_neg z]
/-- the letter of a pane that may stand there -/
theorem m_ipn1 (T : Tt n c) (mt : MT n c s p) {q : Nat} (hq : q < 12) (hp : p < n) (e : c p = nI (97 + q)) {u : Nat} (hu : s.1 462 20 = nI u) (u4 : u < 4096) (a2 : Nat.testBit u q = false) (e6 : mv (s.1 463) 6 q = 1) (e9 : mv (s.1 463) 9 q = -1) : fX9_isPaneNext s 462 = some true := by
  have tq : (nI q).toInt = q := j_nI (by omega)
  unfold fX9_isPaneNext
  rw [m_next mt T.1 (by omega), j_b, (cd_in hp).2, e, l_sub hq, j_nm, m_isPane, j_b, tq, decide_eq_true (by omega), Bool.true_and, Int.toNat_natCast, e6, decide_eq_true rfl, if_pos rfl, hu, bt_one u4 hq, a2, if_neg Bool.false_ne_true, if_pos (show nI 0 = (0 : Int32) from rfl), m_isPlaced tq hq, j_b, e9, decide_eq_false (fun y => y rfl), if_neg Bool.false_ne_true]
/-- one tab on the reference's side, when it is made -/
theorem m_tab1 (T : Tt n c) (mt : MT n c s p) {q : Nat} (hq : q < 12) (hp : p < n) (e : c p = nI (97 + q)) (w : s.1 462 16 = -1) {u : Nat} (hu : s.1 462 20 = nI u) (u4 : u < 4096) (a2 : Nat.testBit u q = false) (e6 : mv (s.1 463) 6 q = 1) (e9 : mv (s.1 463) 9 q = -1) {g : Nat} (hg : g < 23) (e21 : s.1 462 21 = oI g) {st st' : Bool} {kk p2 : Nat} (k : Mk n c st (p + 1) kk p2 st') (h2 : p2 ≤ n) (f : Nat) {j : Nat} (hj : j < 12) : ∃ s2, Fh s s2 ∧ MT n c s2 p2 ∧ s2.1 462 16 = -1 ∧ s2.1 462 20 = nI (u ||| 2 ^ q) ∧ mv (s2.1 463) = tbU (mv (s.1 463)) g q j (decide (kk = 1)) (decide (kk = 2)) ∧ fX9_readsGroup_17 462 (f + 1) s 1 (b2i st) (nI j) = (if ltr n c p2 = true then fX9_readsGroup_17 462 f s2 1 (b2i st') (nI (j + 1)) else some s2) := by
  have n120 := T.1
  obtain ⟨w3, hw3⟩ : ∃ w3 : Sg, w3 = su s 462 20 (nI (u ||| 2 ^ q)) := ⟨_, rfl⟩
  have w315 : w3.1 462 15 = nI p := by rw [hw3, su_at, if_neg (by omega)]; exact mt.2.2
  obtain ⟨w4, hw4⟩ : ∃ w4 : Sg, w4 = su w3 462 15 (nI (p + 1)) := ⟨_, rfl⟩
  have f4 : Fh s w4 := by rw [hw4, hw3]; exact (Fh.st (by omega)).tr (Fh.st (by omega))
  have mt4 : MT n c w4 (p + 1) := mt.fh f4 (by rw [hw4, su_at, if_pos ⟨rfl, rfl⟩])
  have g16 : w4.1 462 16 = -1 := by rw [hw4, su_at, if_neg (by omega), hw3, su_at, if_neg (by omega)]; exact w
  have g20 : w4.1 462 20 = nI (u ||| 2 ^ q) := by rw [hw4, su_at, if_neg (by omega), hw3, su_at, if_pos ⟨rfl, rfl⟩]
  have g21 : w4.1 462 21 = oI g := by rw [f4.2.2 21 (by omega) (by omega) (by omega)]; exact e21
  have g63 : w4.1 463 = s.1 463 := by rw [hw4, su_ne (by omega), hw3, su_ne (by omega)]
  have start : fX9_readsGroup_17 462 (f + 1) s 1 (b2i st) (nI j) = if cdm n c (p + 1) = 45 then fX9_readsGroup_79 462 (fX9_readsGroup_17 462 f) w4 1 (b2i st) (nI j) (nI q) 1 else fX9_readsGroup_79 462 (fX9_readsGroup_17 462 f) w4 1 (b2i st) (nI j) (nI q) 0 := by
    rw [fX9_readsGroup_17, m_ipn1 T mt hq hp e hu u4 a2 e6 e9, j_b, if_pos rfl, m_next mt n120 (by omega), j_b, (cd_in hp).2, e, l_sub hq, j_nm, hu, bt_or hq, ← hw3, j_nm, w315, j_s, ← hw4, j_nm, m_next mt4 n120 (by omega), j_b]
  have n79 : ∀ s0 : Int32, fX9_readsGroup_79 462 (fX9_readsGroup_17 462 f) w4 1 (b2i st) (nI j) (nI q) s0 = if cdm n c (p + 1) = 42 then (if b2i st = 0 then fX9_readsGroup_99 462 (fX9_readsGroup_17 462 f) w4 1 (b2i st) (nI j) (nI q) s0 1 else fX9_readsGroup_98 462 (fX9_readsGroup_17 462 f) w4 1 (b2i st) (nI j) (nI q) s0) else fX9_readsGroup_98 462 (fX9_readsGroup_17 462 f) w4 1 (b2i st) (nI j) (nI q) s0 := fun s0 => by
    unfold fX9_readsGroup_79
    rw [m_next mt4 n120 (by omega), j_b]
  -- the end of one turn
  have fin : ∀ (hid sr b : Bool) (a : Int32), w4.1 462 15 + a = nI p2 → ∃ s2, Fh s s2 ∧ MT n c s2 p2 ∧ s2.1 462 16 = -1 ∧ s2.1 462 20 = nI (u ||| 2 ^ q) ∧ mv (s2.1 463) = tbU (mv (s.1 463)) g q j hid sr ∧ fX9_readsGroup_139 462 (fX9_readsGroup_17 462 f) (su w4 462 15 (w4.1 462 15 + a)) 1 (nI j) (nI q) (b2i hid) (b2i sr) (b2i b) = (if ltr n c p2 = true then fX9_readsGroup_17 462 f s2 1 (b2i b) (nI (j + 1)) else some s2) := fun hid sr b a ea => by
    obtain ⟨w5, hw5⟩ : ∃ w5 : Sg, w5 = su w4 462 15 (nI p2) := ⟨_, rfl⟩
    have f5 : Fh s w5 := by rw [hw5]; exact f4.tr (Fh.st (by omega))
    have g21' : w5.1 462 21 = oI g := by rw [hw5, su_at, if_neg (by omega)]; exact g21
    have g63' : w5.1 463 = s.1 463 := by rw [hw5, su_ne (by omega)]; exact g63
    obtain ⟨s2, b1, b2, b3⟩ := m_h139 (s := w5) (fX9_readsGroup_17 462 f) hq hg hj g21' hid sr (b2i b)
    have k62 : ∀ i, s2.1 462 i = w5.1 462 i := fun i => by rw [b2.2 462 (by omega)]
    have mt2 : MT n c s2 p2 := mt.fh (f5.tr (Fh.ou b2)) (by rw [k62, hw5, su_at, if_pos ⟨rfl, rfl⟩])
    refine ⟨s2, f5.tr (Fh.ou b2), mt2, by rw [k62, hw5, su_at, if_neg (by omega)]; exact g16, by rw [k62, hw5, su_at, if_neg (by omega)]; exact g20, by rw [b3, g63'], ?_⟩
    rw [ea, ← hw5, b1]
    unfold fX9_readsGroup_238
    rw [m_next mt2 n120 h2, j_b, m_within, j_b, i97, i108, j_s]
    rfl
  have a0 : nI (p + 1) + 0 = nI (p + 1) := j_a (p + 1) 0
  rcases k with ⟨k1, k2, k3, k4⟩ | ⟨k1, k0, k2, k3, k4⟩ | ⟨k1, k2, k0, k3, k4⟩
  · obtain ⟨s2, x1, x2, x3, x4, x5, x6⟩ := fin true false (st || !true) 1 (by rw [mt4.2.2, j_s, k3])
    refine ⟨s2, x1, x2, x3, x4, by rw [x5, k1]; rfl, ?_⟩
    rw [start, if_pos k2, n79, if_neg (by rw [k2]; decide), fX9_readsGroup_98, m_h99, if_neg (by decide), m_h121, decide_eq_true rfl]
    have : st' = (st || !true) := by rw [k4]; cases st <;> rfl
    rw [this]
    exact x6
  · obtain ⟨s2, x1, x2, x3, x4, x5, x6⟩ := fin false true (st || !false) 1 (by rw [mt4.2.2, j_s, k3])
    refine ⟨s2, x1, x2, x3, x4, by rw [x5, k1]; rfl, ?_⟩
    rw [start, if_neg (by rw [k2]; decide), n79, if_pos k2, if_pos (by rw [k0]; rfl), m_h99, if_neg (by decide), m_h121, decide_eq_false (by decide)]
    have : st' = (st || !false) := by rw [k4]; cases st <;> rfl
    rw [this]
    exact x6
  · have e98 : (if cdm n c (p + 1) = 42 then (if b2i st = 0 then fX9_readsGroup_99 462 (fX9_readsGroup_17 462 f) w4 1 (b2i st) (nI j) (nI q) 0 1 else fX9_readsGroup_98 462 (fX9_readsGroup_17 462 f) w4 1 (b2i st) (nI j) (nI q) 0) else fX9_readsGroup_98 462 (fX9_readsGroup_17 462 f) w4 1 (b2i st) (nI j) (nI q) 0) = fX9_readsGroup_98 462 (fX9_readsGroup_17 462 f) w4 1 (b2i st) (nI j) (nI q) 0 := by
      by_cases z : cdm n c (p + 1) = 42
      · cases hs : st
        · exact absurd z (k0 hs)
        · rw [if_pos z, if_neg (by decide)]
      · rw [if_neg z]
    obtain ⟨s2, x1, x2, x3, x4, x5, x6⟩ := fin false false (st || !true) 0 (by rw [mt4.2.2, a0, k3])
    refine ⟨s2, x1, x2, x3, x4, by rw [x5, k1]; rfl, ?_⟩
    rw [start, if_neg k2, n79, e98, fX9_readsGroup_98, m_h99, if_pos ⟨rfl, rfl⟩, m_h121, decide_eq_true rfl]
    have : st' = (st || !true) := by rw [k4]; cases st <;> rfl
    rw [this]
    exact x6
end RBB
