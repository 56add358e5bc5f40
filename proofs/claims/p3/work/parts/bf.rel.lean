/-! THE RELATION: read (10): a split is opened when it is made -/
section RBF
variable {n : Nat} {c : Nat → Int32} {s : Sg} {p u D : Nat} {cn : Nat → Nat} {nd : Nat → Nat} {wt : Nat → Int}
theorem m_open1 (T : Tt n c) (h : MS n c s p u D cn) (hs : NS s D nd wt) (hp : p < n) (hD : D < 100) {n0 : Nat} (h0 : n0 < 23) (hk : mv (s.1 463) 0 n0 = 0) (hl : ∀ k, k < n0 → mv (s.1 463) 0 k ≠ 0) (e40 : cdm n c (p + 1) = 40) : ∃ s5, (∀ s6, fX9_readsWeight s5 462 = some s6 → fX9_opens s 462 1 = some s6) ∧ Fy1 s s5 ∧ MS n c s5 (p + 2) u (D + 1) (fun i => if i = D then 0 else cn i) ∧ NS s5 (D + 1) (fun i => if i = D then n0 else nd i) (fun i => if i = D then (s.1 462 22).toInt else wt i) ∧ mv (s5.1 463) = mu (nn (mv (s.1 463)) n0 1) 2 n0 (if cdm n c p = 86 then 1 else 0) := by
  have n120 := T.1
  have t0 : (oI (n0 : Int)).toInt = n0 := j_oI (by omega) (by omega)
  obtain ⟨w2, hw2⟩ : ∃ w2 : Sg, w2 = su s 462 15 (nI (p + 1)) := ⟨_, rfl⟩
  have m2 : MS n c w2 (p + 1) u D cn := by rw [hw2]; exact h.at _
  have tk := (m_take m2.1 n120 (by omega) 40).1 m2.2.1 e40
  obtain ⟨w3, hw3⟩ : ∃ w3 : Sg, w3 = su w2 462 15 (nI (p + 1 + 1)) := ⟨_, rfl⟩
  rw [← hw3] at tk
  have m3 : MS n c w3 (p + 2) u D cn := by rw [hw3]; exact m2.at _
  have f23 : Fk s w3 := by rw [hw3, hw2]; exact (Fk.st (by omega)).tr (Fk.st (by omega))
  have g22 : w3.1 462 22 = s.1 462 22 := by rw [hw3, su_at, if_neg (by omega), hw2, su_at, if_neg (by omega)]
  have cell3 : ∀ x, x ≠ 462 → w3.1 x = s.1 x := fun x hx => by rw [hw3, su_ne hx, hw2, su_ne hx]
  obtain ⟨w4, hw4⟩ : ∃ w4 : Sg, w4 = su w3 474 D (s.1 462 22) := ⟨_, rfl⟩
  obtain ⟨w5, hw5⟩ : ∃ w5 : Sg, w5 = su w4 473 D 0 := ⟨_, rfl⟩
  have cell5 : ∀ x, x ≠ 473 → x ≠ 474 → w5.1 x = w3.1 x := fun x a b => by rw [hw5, su_ne a, hw4, su_ne b]
  have e4 : w4.1 462 19 = nI D := by rw [hw4, su_ne (by omega)]; exact m3.2.2.1
  have e5 : w5.1 462 19 = nI D := by rw [cell5 462 (by omega) (by omega)]; exact m3.2.2.1
  have r63 : w5.1 463 = s.1 463 := by rw [cell5 463 (by omega) (by omega), cell3 463 (by omega)]
  obtain ⟨w6, a1, a2, a3⟩ := m_newNode (σ := w5) (n0 := n0) (by omega) (by rw [r63]; exact hk) (by rw [r63]; exact hl) 1
  have c6 : ∀ x, x ≠ 463 → w6.1 x = w5.1 x := fun x hx => a2.2 x (by omega)
  obtain ⟨w7, hw7⟩ : ∃ w7 : Sg, w7 = su w6 472 D (oI n0) := ⟨_, rfl⟩
  have e7 : w7.1 462 19 = nI D := by rw [hw7, su_ne (by omega), c6 462 (by omega)]; exact e5
  have s7 : w7.1 472 D = oI n0 := by rw [hw7, su_at, if_pos ⟨rfl, rfl⟩]
  obtain ⟨w8, b1, b2, b3⟩ := m_l2 (σ := w7) t0 (by omega) (if cdm n c p = 86 then 1 else 0)
  have c8 : ∀ x, x ≠ 463 → w8.1 x = w7.1 x := fun x hx => b2.2 x (by omega)
  have e8 : w8.1 462 19 = nI D := by rw [c8 462 (by omega)]; exact e7
  obtain ⟨s5, hs5⟩ : ∃ s5 : Sg, s5 = su w8 462 19 (nI (D + 1)) := ⟨_, rfl⟩
  have ckD : ck (nI D) 130 := j_ckn (by omega) (by decide)
  have core : ∀ s0 : Int32, s0 = (if cdm n c p = 86 then 1 else 0) → ∀ s6, fX9_readsWeight s5 462 = some s6 → fX9_opens_14 462 s 1 s0 = some s6 := fun s0 hs0 s6 h6 => by
    rw [← hs0] at b1
    unfold fX9_opens_14 fX9_opens_89
    rw [h.1.2.2, j_s, j_nm, ← hw2, tk, j_b]
    show (if ck (w3.1 462 19) 130 then nm (su w3 (462 + 12) (w3.1 462 19).toNatClampNeg (w3.1 462 22)) _ else none) = _
    rw [m3.2.2.1, if_pos ckD, j_cl _ (by omega), show (462 + 12 : Nat) = 474 from rfl, g22, ← hw4, j_nm, e4, if_pos ckD, j_cl _ (by omega), show (462 + 11 : Nat) = 473 from rfl, ← hw5, j_nm, if_neg (show ¬ ((1 : Int32) = 0) by decide), a1, j_b, e5, if_pos ckD, j_cl _ (by omega), show (462 + 10 : Nat) = 472 from rfl]
    dsimp only
    rw [← hw7, j_nm, e7, if_pos ckD, j_cl _ (by omega), s7, b1, j_b, e8, j_s, j_nm, ← hs5, h6, j_b]
  have k62 : ∀ j, j ≠ 19 → s5.1 462 j = w3.1 462 j := fun j hj => by
    rw [hs5, su_at, if_neg (fun w => hj w.2), c8 462 (by omega), hw7, su_ne (by omega), c6 462 (by omega), cell5 462 (by omega) (by omega)]
  have cellx : ∀ x, x ≠ 462 → x ≠ 463 → x ≠ 472 → x ≠ 473 → x ≠ 474 → s5.1 x = s.1 x := fun x q1 q2 q3 q4 q5 => by
    rw [hs5, su_ne q1, c8 x q2, hw7, su_ne q3, c6 x q2, cell5 x q4 q5, cell3 x q1]
  refine ⟨s5, fun s6 h6 => ?_, ⟨?_, cellx, fun j hj => ?_⟩, ⟨⟨?_, fun i hi => ?_, ?_⟩, ?_, ?_, ?_, fun i hi => ?_⟩, fun i hi => ?_, ?_⟩
  · unfold fX9_opens
    rw [m_next h.1 n120 (by omega), j_b]
    by_cases z : cdm n c p = 86
    · rw [if_pos z]
      exact core 1 (by rw [if_pos z]) s6 h6
    · rw [if_neg z]
      exact core 0 (by rw [if_neg z]) s6 h6
  · rw [hs5]
    show w8.2 = s.2
    rw [b2.1, hw7]
    show w6.2 = s.2
    rw [a2.1, hw5, hw4]
    exact f23.1
  · rw [k62 j (by omega)]
    exact f23.2.2 j hj
  · rw [k62 5 (by omega)]; exact m3.1.1
  · rw [cellx 465 (by omega) (by omega) (by omega) (by omega) (by omega)]; exact h.1.2.1 i hi
  · rw [k62 15 (by omega)]; exact m3.1.2.2
  · rw [k62 16 (by omega)]; exact m3.2.1
  · rw [hs5, su_at, if_pos ⟨rfl, rfl⟩]
  · rw [k62 20 (by omega)]; exact m3.2.2.2.1
  · show s5.1 473 i = nI (if i = D then 0 else cn i)
    rw [hs5, su_ne (by omega), c8 473 (by omega), hw7, su_ne (by omega), c6 473 (by omega), hw5, su_at]
    by_cases y : i = D
    · rw [if_pos ⟨rfl, y⟩, if_pos y]; rfl
    · rw [if_neg (fun w => y w.2), if_neg y, hw4, su_ne (by omega)]
      exact m3.2.2.2.2 i (by omega)
  · show s5.1 472 i = oI ((if i = D then n0 else nd i : Nat) : Int) ∧ s5.1 474 i = oI (if i = D then (s.1 462 22).toInt else wt i)
    have x472 : s5.1 472 i = if i = D then oI (n0 : Int) else s.1 472 i := by
      rw [hs5, su_ne (by omega), c8 472 (by omega), hw7, su_at]
      by_cases y : i = D
      · rw [if_pos (show 472 = 472 ∧ i = D from ⟨rfl, y⟩), if_pos y]
      · rw [if_neg (show ¬ (472 = 472 ∧ i = D) from fun w => y w.2), if_neg y, c6 472 (by omega), cell5 472 (by omega) (by omega), cell3 472 (by omega)]
    have x474 : s5.1 474 i = if i = D then s.1 462 22 else s.1 474 i := by
      rw [hs5, su_ne (by omega), c8 474 (by omega), hw7, su_ne (show (474 : Nat) ≠ 472 by decide), c6 474 (by omega), hw5, su_ne (show (474 : Nat) ≠ 473 by decide), hw4, su_at]
      by_cases y : i = D
      · rw [if_pos (show 474 = 474 ∧ i = D from ⟨rfl, y⟩), if_pos y]
      · rw [if_neg (show ¬ (474 = 474 ∧ i = D) from fun w => y w.2), if_neg y, cell3 474 (by omega)]
    rw [x472, x474]
    by_cases y : i = D
    · rw [if_pos y, if_pos y, if_pos y, if_pos y, j_oIt]
      exact ⟨rfl, rfl⟩
    · rw [if_neg y, if_neg y, if_neg y, if_neg y]
      exact hs i (by omega)
  · rw [hs5, su_ne (by omega), b3, hw7, su_ne (by omega), a3, r63]
    have : (if cdm n c p = 86 then (1 : Int32) else 0).toInt = if cdm n c p = 86 then 1 else 0 := by
      by_cases z : cdm n c p = 86
      · rw [if_pos z, if_pos z]; rfl
      · rw [if_neg z, if_neg z]; rfl
    rw [this]
    rfl
end RBF
