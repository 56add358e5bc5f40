/-! THE RELATION: read (16): the reference reads a group and makes it -/
section RBL
variable {n : Nat} {c : Nat → Int32} {s : Sg} {V V1 : VW} {d : Nat → Nat} {wn : Nat → Int} {X : Nat → Bool}
theorem m_grp1 (T : Tt n c) {p u D : Nat} {cn : Nat → Nat} (ms : MS n c s p u D cn) {O : Nat → Bool} (h : BMr (mv (s.1 463)) V O) (t0 : Tree V d wn X) (tb : Tabs V (fun _ => false)) {f : Nat} (hf : f < 23) (hk : V 8 f = 3) (hl : ∀ k, k < f → V 8 k ≠ 3) (a : AT V V1 f 2) {m : Nat} (hm : m < 4096) (mk0 : Msk V m) (u4 : u < 4096) (al : ∀ q, q < 12 → Nat.testBit m q = true → Nat.testBit u q = false ∧ mv (s.1 463) 6 q = 1) {t : List (Nat × Nat)} {p' m' : Nat} (ht : Tb n c t false p m p' m') (tn : t ≠ []) (lp : ltr n c p' = false) (pn : p' ≤ n) : ∃ s' u', fX9_readsGroup s 462 1 = some s' ∧ Fy1 s s' ∧ MT n c s' p' ∧ s'.1 462 16 = -1 ∧ s'.1 462 20 = nI u' ∧ s'.1 462 21 = oI f ∧ u' < 4096 ∧ m' < 4096 ∧ (∀ q, q < 12 → Nat.testBit m' q = true → Nat.testBit u' q = false ∧ Nat.testBit m q = true) ∧ BMr (mv (s'.1 463)) (fing f (star t) (btab f t V1)) (fun i => O i || i == f) ∧ (∀ k, (6 ≤ k ∧ k ≤ 8) ∨ 12 ≤ k → mv (s'.1 463) k = mv (s.1 463) k) ∧ (∀ x, x ≠ 462 → x ≠ 463 → s'.1 x = s.1 x) ∧ s'.1 462 19 = s.1 462 19 ∧ s'.1 462 22 = s.1 462 22 := by
  have fu : FU = 6000 := rfl
  obtain ⟨w1, a1, a2, a3⟩ := m_newNode (σ := s) (n0 := f) (by omega) ((h.1 f hf).1 hk) (fun i hi z => hl i hi ((h.k0 (by omega) (t0.ki (by omega))).mp z)) 2
  have a3 : mv (w1.1 463) = nn (mv (s.1 463)) f 2 := a3
  obtain ⟨n0, n1, n2, n3, n4, n5, nj⟩ := nn_rows (U := mv (s.1 463)) (n := f) (k := 2)
  rw [← a3] at n0 n1 n2 n3 n4 n5 nj
  obtain ⟨w2, hw2⟩ : ∃ w2 : Sg, w2 = su w1 462 21 (oI f) := ⟨_, rfl⟩
  have r63 : w2.1 463 = w1.1 463 := by rw [hw2, su_ne (by omega)]
  have k62 : ∀ i, i ≠ 21 → w2.1 462 i = s.1 462 i := fun i hi => by rw [hw2, su_at, if_neg (fun w => hi w.2), a2.2 462 (by omega)]
  have kx : ∀ x, x ≠ 462 → x ≠ 463 → w2.1 x = s.1 x := fun x q1 q2 => by rw [hw2, su_ne q1, a2.2 x (by omega)]
  obtain ⟨a8, a9, a5, aj⟩ := id a
  have j13 := aj 13 (by decide) (by decide) (by decide) (by decide) (by decide)
  have j14 := aj 14 (by decide) (by decide) (by decide) (by decide) (by decide)
  have j15 := aj 15 (by decide) (by decide) (by decide) (by decide) (by decide)
  have j12 := aj 12 (by decide) (by decide) (by decide) (by decide) (by decide)
  obtain ⟨tv, tc0⟩ := att_tabg (V' := V1) (Z' := fun i => i == f) tb hf hk a8 j12 j13 j14 j15 (by simp) (fun i hi => by simp [hi])
  have mk1 : Msk V1 m := fun q hq b => by rw [j13, j15]; exact mk0 q hq b
  have k2 : V1 8 f = 2 := by rw [a8 f hf, if_pos rfl]
  have pr1 : PR (mv (w2.1 463)) V1 := fun q hq => by
    rw [r63, nj 9 (by decide), nj 10 (by decide), nj 11 (by decide), j13, j14, j15]
    exact h.2.2.2.2.2.1 q hq
  have mt2 : MT n c w2 p := ⟨by rw [k62 5 (by omega)]; exact ms.1.1, fun i hi => by rw [kx 465 (by omega) (by omega)]; exact ms.1.2.1 i hi, by rw [k62 15 (by omega)]; exact ms.1.2.2⟩
  have tl : t.length ≤ 12 := by
    have : t.length < 13 := by
      refine Classical.byContradiction (fun z => ?_)
      obtain ⟨s', u', -, -, -, -, -, -, -, -, -, -, -, -, y12, -⟩ := g_loop T hf (Z := fun i => i == f) (by simp) t false p m p' m' V1 w2 u 0 (t.length + 1) ht tn lp pn hm tv k2 mk1 pr1 tc0 mt2 (by rw [k62 16 (by omega)]; exact ms.2.1) (by rw [k62 20 (by omega)]; exact ms.2.2.2.1) u4 (fun q hq b => ⟨(al q hq b).1, by rw [r63, nj 6 (by decide)]; exact (al q hq b).2⟩) (by rw [hw2, su_at, if_pos ⟨rfl, rfl⟩]) (by omega)
      have := v_tc_rg (btab f t V1) f
      omega
    omega
  obtain ⟨s', u', y1, y2, y3, y4, y5, y6, y6', y7, y8, y9, y10, y11, y12, y13, y14, y15, y16⟩ := g_loop T hf (Z := fun i => i == f) (by simp) t false p m p' m' V1 w2 u 0 FU ht tn lp pn hm tv k2 mk1 pr1 tc0 mt2 (by rw [k62 16 (by omega)]; exact ms.2.1) (by rw [k62 20 (by omega)]; exact ms.2.2.2.1) u4 (fun q hq b => ⟨(al q hq b).1, by rw [r63, nj 6 (by decide)]; exact (al q hq b).2⟩) (by rw [hw2, su_at, if_pos ⟨rfl, rfl⟩]) (by omega)
  have e5 : mv (w2.1 463) 5 f = -1 := by rw [r63, n5 f, if_pos rfl]
  have act := act_eq hf (Z := fun i => i == f) (by simp) ht hm tv k2 mk1 tc0 y11 (by rw [y14 8 (by decide) (by decide) (by decide) (by decide)]; exact k2) (by rw [y12, Nat.zero_add])
  have cx : ∀ x, x ≠ 462 → x ≠ 463 → s'.1 x = s.1 x := fun x q1 q2 => (y2.2.1 x q1 q2).trans (kx x q1 q2)
  have c62 : ∀ i, i ≠ 15 → i ≠ 16 → i ≠ 20 → i ≠ 21 → s'.1 462 i = s.1 462 i := fun i q1 q2 q3 q4 => (y2.2.2 i q1 q2 q3).trans (k62 i q4)
  refine ⟨s', u', ?_, ⟨?_, fun x q1 q2 _ _ _ => cx x q1 q2, fun i hi => c62 i (by omega) (by omega) (by omega) (by omega)⟩, y3, y4, y5, ?_, y6, y6', y7, ?_, fun k hk => ?_, cx, c62 19 (by omega) (by omega) (by omega) (by omega), c62 22 (by omega) (by omega) (by omega) (by omega)⟩
  · unfold fX9_readsGroup
    rw [if_neg (show ¬ ((1 : Int32) = 0) by decide), a1, j_b]
    dsimp only
    rw [← hw2, j_nm]
    exact y1
  · rw [y2.1, hw2]
    exact a2.1
  · rw [y2.2.2 21 (by omega) (by omega) (by omega), hw2, su_at, if_pos ⟨rfl, rfl⟩]
  · unfold fing
    rw [act]
    refine h.grp (U1 := mv (w2.1 463)) hf a (fun i => by rw [r63]; exact n0 i) (fun i ne => ?_) (fun j hj => by rw [r63]; exact nj j (by omega)) y8 (fun i => by rw [y9 i, e5]) y10 y14 y15
    rw [r63, n1 i, n2 i, n3 i, n4 i, n5 i, if_neg ne, if_neg ne, if_neg ne, if_neg ne, if_neg ne]
    exact ⟨rfl, rfl, rfl, rfl, rfl⟩
  · rw [y10 k (by omega) (by omega) (by omega) (by omega), r63, nj k (by omega)]
end RBL
