/-! THE RELATION: dividers -/
section RAH
def nbE (side : Int) : Int := if v_beh side = 0 then -1 else 1
def nbB (V P : VW) (n : Nat) (side : Int) (j : Nat) : Bool := decide (1 ≤ j) && decide (ga (P 1) 23 (v_ca V (V 9 n) (V 10 n + j * nbE side)) = 1)
def nbj (V P : VW) (n : Nat) (side : Int) : Int := fnd (nbB V P n side) 23
def snb (V P : VW) (n : Nat) (side : Int) : Int := if V 9 n = -1 then -1 else if ga (V 8) 23 (V 9 n) = v_dir side then (if nbj V P n side = -1 then -1 else v_ca V (V 9 n) (V 10 n + nbj V P n side * nbE side)) else -1
def nad (V P : VW) (side : Int) : Nat → Int → Int
  | 0, _ => -1
  | k + 1, n => if n = -1 then -1 else if snb V P n.toNat side = -1 then nad V P side k (ga (V 9) 23 n) else n
theorem nbE_c (side : Int) : nbE side = -1 ∨ nbE side = 1 := by
  unfold nbE
  split
  · exact Or.inl rfl
  · exact Or.inr rfl
theorem snb_rg (V P : VW) (n : Nat) (side : Int) : -1 ≤ snb V P n side ∧ snb V P n side < 23 := by
  unfold snb
  split
  · omega
  · split
    · split
      · omega
      · exact v_ca_rg _ _ _
    · omega
/-- what is found is a child that is shown -/
theorem snb_ex {V P : VW} {d : Nat → Nat} {wn : Nat → Int} {X : Nat → Bool} (t : Tree V d wn X) {n : Nat} (hn : n < 23) {side : Int} (h : snb V P n side ≠ -1) : ∃ s o : Nat, s < 23 ∧ V 9 n = s ∧ V 8 s ≤ 1 ∧ V 8 s = v_dir side ∧ o < 23 ∧ snb V P n side = o ∧ V 9 o = s ∧ P 1 o = 1 ∧ o ≠ n := by
  unfold snb at h ⊢
  by_cases z : V 9 n = -1
  · rw [if_pos z] at h
    exact absurd rfl h
  · rw [if_neg z] at h ⊢
    obtain ⟨s, hs, es, ks, -, -⟩ := t.pa hn z
    by_cases w : ga (V 8) 23 (V 9 n) = v_dir side
    · rw [if_pos w] at h ⊢
      have w8 : V 8 s = v_dir side := by
        rw [es, ga_in hs] at w
        exact w
      by_cases y : nbj V P n side = -1
      · rw [if_pos y] at h
        exact absurd rfl h
      · rw [if_neg y] at h ⊢
        rcases fnd_spec (nbB V P n side) 23 with ⟨a, -⟩ | ⟨j, hj, a, b, -⟩
        · exact absurd a y
        · have ej : nbj V P n side = j := a
          rw [ej] at h ⊢
          unfold nbB at b
          simp only [Bool.and_eq_true, decide_eq_true_eq] at b
          have sp : v_ca V (V 9 n) (V 10 n + j * nbE side) = -1 ∨ ∃ q : Nat, q < 23 ∧ v_ca V (V 9 n) (V 10 n + j * nbE side) = q ∧ V 9 q = V 9 n ∧ V 10 q = V 10 n + j * nbE side := by
            unfold v_ca
            rw [if_neg z]
            rcases fnd_spec (fun n1 => decide (V 9 n1 = V 9 n) && decide (V 10 n1 = V 10 n + j * nbE side)) 23 with ⟨a, -⟩ | ⟨q, hq, a, b, -⟩
            · exact Or.inl a
            · simp only [Bool.and_eq_true, decide_eq_true_eq] at b
              exact Or.inr ⟨q, hq, a, b.1, b.2⟩
          obtain ⟨q, hq, e, e9, e10⟩ := sp.resolve_left h
          refine ⟨s, q, hs, es, ks, w8, hq, e, by rw [e9, es], ?_, fun u => ?_⟩
          · have := b.2
            rw [e, ga_in hq] at this
            exact this
          · rw [u] at e10
            rcases nbE_c side with v | v
            · rw [v] at e10
              omega
            · rw [v] at e10
              omega
    · rw [if_neg w] at h
      exact absurd rfl h
/-! the class -/
theorem s_dirb {σ : Sg} (s : Int32) : fX8_directionOf σ s = some (oI (v_dir s.toInt)) := s_dir s
theorem s_sn62 {σ : Sg} {V P : VW} (hV : pv σ (1 + 5) = V) (hP : qv σ = P) {n s : Nat} (e9 : V 9 n = s) (hs : s < 23) (p10 : 0 ≤ V 10 n ∧ V 10 n < 23) {side : Int} (w8 : V 8 s = v_dir side) {l5 : Int32} (e5 : l5.toInt = nbE side) : fX8_shownNeighbour_62 σ FU (oI (s : Int)) l5 (oI (V 10 n)) 1 = some (oI (snb V P n side)) := by
  subst hV
  subst hP
  have ts : (oI (s : Int)).toInt = s := j_oI (by omega) (by omega)
  have t10 : (oI (pv σ (1 + 5) 10 n)).toInt = pv σ (1 + 5) 10 n := j_oI (by omega) (by omega)
  have u : snb (pv σ (1 + 5)) (qv σ) n side = if nbj (pv σ (1 + 5)) (qv σ) n side = -1 then -1 else v_ca (pv σ (1 + 5)) s (pv σ (1 + 5) 10 n + nbj (pv σ (1 + 5)) (qv σ) n side * nbE side) := by
    unfold snb
    rw [if_neg (by omega), e9, ga_in hs, if_pos w8]
  rw [u]
  have pos : ∀ j : Nat, j < 24 → (oI (pv σ (1 + 5) 10 n) + (nI j * l5)).toInt = pv σ (1 + 5) 10 n + j * nbE side := fun j hj => by
    have tj : (nI j).toInt = j := j_nI (by omega)
    have m : (nI j * l5).toInt = j * nbE side := by
      rcases nbE_c side with v | v
      · rw [j_mul (by rw [tj, e5, v]; omega) (by rw [tj, e5, v]; omega), tj, e5]
      · rw [j_mul (by rw [tj, e5, v]; omega) (by rw [tj, e5, v]; omega), tj, e5]
    have b : -24 ≤ (j : Int) * nbE side ∧ (j : Int) * nbE side ≤ 24 := by
      rcases nbE_c side with v | v <;> rw [v] <;> omega
    rw [j_add (by rw [t10, m]; omega) (by rw [t10, m]; omega), t10, m]
  refine lpx (F := fun f (x : Int32) => fX8_shownNeighbour_62 σ f (oI (s : Int)) l5 (oI (pv σ (1 + 5) 10 n)) x) (Q := fun o => o = some (oI (if nbj (pv σ (1 + 5)) (qv σ) n side = -1 then -1 else v_ca (pv σ (1 + 5)) s (pv σ (1 + 5) 10 n + nbj (pv σ (1 + 5)) (qv σ) n side * nbE side)))) (fun i x => x = nI (i + 1) ∧ ∀ j, j ≤ i → nbB (pv σ (1 + 5)) (qv σ) n side j = false) 22 ?_ ?_ 22 0 FU 1 rfl (by decide) ⟨rfl, fun j hj => by
    rw [show j = 0 by omega]
    rfl⟩
  · rintro f i _ hi ⟨rfl, hl⟩
    have nle : ¬ (23 : Int32) ≤ nI (i + 1) := n_ge 23 (m := 23) rfl (by omega) (by decide)
    have key : fX8_shownNeighbour_62 σ (f + 1) (oI (s : Int)) l5 (oI (pv σ (1 + 5) 10 n)) (nI (i + 1)) = if nbB (pv σ (1 + 5)) (qv σ) n side (i + 1) = true then some (oI (v_ca (pv σ (1 + 5)) s (pv σ (1 + 5) 10 n + (i + 1 : Nat) * nbE side))) else fX8_shownNeighbour_62 σ f (oI (s : Int)) l5 (oI (pv σ (1 + 5) 10 n)) (nI (i + 1 + 1)) := by
      rw [fX8_shownNeighbour_62, if_neg nle, s_childAt, j_b, ts, pos (i + 1) (by omega), s_isShown, j_b, t_ca, j_s]
      unfold nbB
      rw [e9, decide_eq_true (show 1 ≤ i + 1 by omega), Bool.true_and]
    cases q : nbB (pv σ (1 + 5)) (qv σ) n side (i + 1)
    · right
      rw [q, if_neg Bool.false_ne_true] at key
      exact ⟨nI (i + 1 + 1), ⟨rfl, fun j hj => by
        by_cases z : j = i + 1
        · rw [z]; exact q
        · exact hl j (by omega)⟩, key⟩
    · left
      show fX8_shownNeighbour_62 σ (f + 1) (oI (s : Int)) l5 (oI (pv σ (1 + 5) 10 n)) (nI (i + 1)) = _
      rw [q, if_pos rfl] at key
      have : nbj (pv σ (1 + 5)) (qv σ) n side = ((i + 1 : Nat) : Int) := fnd_at (by omega) q (fun k hk => hl k (by omega))
      rw [key, this, if_neg (by omega)]
  · rintro f _ ⟨rfl, hl⟩
    show fX8_shownNeighbour_62 σ (f + 1) (oI (s : Int)) l5 (oI (pv σ (1 + 5) 10 n)) (nI 23) = _
    have : nbj (pv σ (1 + 5)) (qv σ) n side = -1 := fnd_no (fun k hk => hl k (by omega))
    rw [fX8_shownNeighbour_62, if_pos (n_le 23 (m := 23) rfl (by decide)), this, if_pos rfl]
    rfl
theorem s_snb {σ : Sg} {V P : VW} (hV : pv σ (1 + 5) = V) (hP : qv σ = P) {d : Nat → Nat} {wn : Nat → Int} {X : Nat → Bool} (t : Tree V d wn X) {n : Nat} (hn : n < 23) {a side : Int32} (ha : a.toInt = n) (hs : side = 0 ∨ side = 1 ∨ side = 2 ∨ side = 3) : fX8_shownNeighbour σ a side = some (oI (snb V P n side.toInt)) := by
  have r9 : -2147483648 ≤ V 9 n ∧ V 9 n < 2147483648 := by rw [← hV]; exact pv_rg σ (1 + 5) 9 n
  have t9 : (oI (V 9 n)).toInt = V 9 n := j_oI r9.1 r9.2
  unfold fX8_shownNeighbour
  rw [s_parentOf, j_b, hV, ha, ga_in hn]
  by_cases z : V 9 n = -1
  · rw [if_pos (by rw [z]; rfl)]
    unfold snb
    rw [if_pos z]
    rfl
  · obtain ⟨s, hs23, es, ks, -, -⟩ := t.pa hn z
    have p10 := (t.sp hs23 ks).1.1 n hn (by simp [es])
    have c23 := cnt_le (fun n => decide (V 9 n = s)) 23
    have k8 := t.ki hs23
    have t8 : (oI (V 8 s)).toInt = V 8 s := j_oI (by omega) (by omega)
    have td := t_dir side.toInt
    rw [if_neg (fun y => z (by rw [j_eq, t9, jm1] at y; exact y)), s_kindOf, j_b, s_dirb, j_b, hV, t9, es, ga_in hs23]
    by_cases w : V 8 s = v_dir side.toInt
    · rw [if_pos (by rw [w])]
      unfold fX8_shownNeighbour_45 fX8_shownNeighbour_50
      rw [s_placeOf, j_b, hV, ha, ga_in hn]
      have key := fun (l5 : Int32) (e5 : l5.toInt = nbE side.toInt) => s_sn62 hV hP es hs23 ⟨p10.1, by omega⟩ w e5
      rcases hs with rfl | rfl | rfl | rfl
      · rw [if_pos rfl]
        exact key (-1) rfl
      · rw [if_neg (by decide), if_neg (by decide)]
        exact key 1 rfl
      · rw [if_neg (by decide), if_pos rfl]
        exact key (-1) rfl
      · rw [if_neg (by decide), if_neg (by decide)]
        exact key 1 rfl
    · rw [if_neg (fun y => w (by rw [j_eq, t8, td] at y; exact y))]
      unfold snb
      rw [if_neg z, es, ga_in hs23, if_neg w]
      rfl
theorem nad_m1 (V P : VW) (side : Int) : ∀ k, nad V P side k (-1) = -1
  | 0 => rfl
  | k + 1 => if_pos rfl
theorem s_nad5 {σ : Sg} {V P : VW} (hV : pv σ (1 + 5) = V) (hP : qv σ = P) {d : Nat → Nat} {wn : Nat → Int} {X : Nat → Bool} (t : Tree V d wn X) {side : Int32} (hs : side = 0 ∨ side = 1 ∨ side = 2 ∨ side = 3) : ∀ (k i fuel : Nat) (a : Int32), i + k = 23 → k < fuel → (a.toInt = -1 ∨ ∃ n : Nat, n < 23 ∧ a.toInt = n) → fX8_nodeAtDivider_5 σ fuel side a (nI i) = some (oI (nad V P side.toInt k a.toInt)) := by
  intro k
  induction k with
  | zero =>
    intro i fuel a hi hf _
    match fuel with
    | f + 1 =>
      rw [fX8_nodeAtDivider_5, if_pos (by rw [j_le, j_nI (by omega)]; show (23 : Int) ≤ _; omega)]
      rfl
  | succ k ih =>
    intro i fuel a hi hf ha
    match fuel with
    | f + 1 =>
      have nle : ¬ (23 : Int32) ≤ nI i := n_ge 23 (m := 23) rfl (by omega) (by decide)
      rw [fX8_nodeAtDivider_5, if_neg nle]
      rcases ha with z | ⟨n, hn, ea⟩
      · rw [if_pos (j_eq.mpr (by rw [z, jm1])), z, nad_m1]
        rfl
      · have na : ¬ a = -1 := fun y => by rw [y, jm1] at ea; omega
        have sr := snb_rg V P n side.toInt
        have tb : (oI (snb V P n side.toInt)).toInt = snb V P n side.toInt := j_oI (by omega) (by omega)
        rw [if_neg na, s_snb hV hP t hn ea hs, j_b]
        have u : nad V P side.toInt (k + 1) a.toInt = if snb V P n side.toInt = -1 then nad V P side.toInt k (ga (V 9) 23 a.toInt) else a.toInt := by
          rw [ea]
          show (if (n : Int) = -1 then -1 else if snb V P (n : Int).toNat side.toInt = -1 then _ else (n : Int)) = _
          rw [if_neg (by omega), Int.toNat_natCast]
        rw [u]
        by_cases w : snb V P n side.toInt = -1
        · have r9 : -2147483648 ≤ V 9 n ∧ V 9 n < 2147483648 := by rw [← hV]; exact pv_rg σ (1 + 5) 9 n
          have t9 : (oI (V 9 n)).toInt = V 9 n := j_oI r9.1 r9.2
          rw [if_pos w, if_pos (by rw [w]; rfl), s_parentOf, j_b, hV, ea, ga_in hn, j_s, ih (i + 1) f (oI (V 9 n)) (by omega) (by omega) (by
            rw [t9]
            by_cases z : V 9 n = -1
            · exact Or.inl z
            · obtain ⟨s, hs23, es, -⟩ := t.pa hn z
              exact Or.inr ⟨s, hs23, es⟩), t9]
        · rw [if_neg w, if_neg (fun y => w (by rw [j_eq, tb, jm1] at y; exact y)), j_oIt]
theorem s_nad {σ : Sg} {V P : VW} (hV : pv σ (1 + 5) = V) (hP : qv σ = P) {d : Nat → Nat} {wn : Nat → Int} {X : Nat → Bool} (t : Tree V d wn X) {side : Int32} (hs : side = 0 ∨ side = 1 ∨ side = 2 ∨ side = 3) {n : Nat} (hn : n < 23) {a : Int32} (ha : a.toInt = n) : fX8_nodeAtDivider σ a side = some (oI (nad V P side.toInt 23 n)) := by
  unfold fX8_nodeAtDivider
  rw [j_0, s_nad5 hV hP t hs 23 0 FU a rfl (by decide) (Or.inr ⟨n, hn, ha⟩), ha]
theorem nad_ex {V P : VW} {d : Nat → Nat} {wn : Nat → Int} {X : Nat → Bool} (t : Tree V d wn X) {side : Int} : ∀ (k n : Nat), n < 23 → nad V P side k n ≠ -1 → ∃ m : Nat, m < 23 ∧ nad V P side k n = m ∧ snb V P m side ≠ -1 := by
  intro k
  induction k with
  | zero => exact fun n _ h => absurd rfl h
  | succ k ih =>
    intro n hn h
    have u : nad V P side (k + 1) n = if snb V P n side = -1 then nad V P side k (ga (V 9) 23 n) else n := by
      show (if (n : Int) = -1 then -1 else if snb V P (n : Int).toNat side = -1 then _ else (n : Int)) = _
      rw [if_neg (by omega), Int.toNat_natCast]
    rw [u] at h ⊢
    by_cases w : snb V P n side = -1
    · rw [if_pos w] at h ⊢
      rw [ga_in hn] at h ⊢
      by_cases z : V 9 n = -1
      · rw [z, nad_m1] at h
        exact absurd rfl h
      · obtain ⟨s, hs23, es, -⟩ := t.pa hn z
        rw [es] at h ⊢
        exact ih s hs23 h
    · rw [if_neg w]
      exact ⟨n, hn, rfl, w⟩
end RAH
