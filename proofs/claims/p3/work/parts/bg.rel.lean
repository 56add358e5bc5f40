/-! THE RELATION: read (11): behind a tree that is made -/
section RBG
variable {n : Nat} {c : Nat → Int32} {s : Sg} {p u D : Nat} {cn : Nat → Nat} {nd : Nat → Nat} {wt : Nat → Int}
theorem k1_close (T : Tt n c) (h : MS n c s p u D cn) (hs : NS s D nd wt) (hp : p ≤ n) (hD : 0 < D) (h99 : D < 100) (e : cdm n c p = 41) (c2 : 2 ≤ cn (D - 1)) (hc : ∀ i, i < D → cn i < 1000 ∧ nd i < 23) (k f : Nat) : ∃ s4 s1, Kont1 (k + 1) f s = Kont1 k f s1 ∧ Fy1 s s1 ∧ MS n c s1 (p + 1) u (D - 1) (bump cn (D - 1)) ∧ NS s1 (D - 1) nd wt ∧ s1.1 462 21 = oI (nd (D - 1)) ∧ s4.1 463 = s.1 463 ∧ (D - 1 = 0 → s1 = s4) ∧ (0 < D - 1 → mv (s1.1 463) = mu (mu (mu (mv (s.1 463)) 1 (nd (D - 1)) (nd (D - 1 - 1))) 4 (nd (D - 1)) (cn (D - 1 - 1))) 3 (nd (D - 1)) (oI (wt (D - 1))).toInt) := by
  obtain ⟨n1, n2⟩ := hs (D - 1) (by omega)
  obtain ⟨q1, q2⟩ := hc (D - 1) (by omega)
  obtain ⟨w2, hw2⟩ : ∃ w2 : Sg, w2 = su s 462 15 (nI (p + 1)) := ⟨_, rfl⟩
  have m2 : MS n c w2 (p + 1) u D cn := by rw [hw2]; exact h.at _
  obtain ⟨w3, hw3⟩ : ∃ w3 : Sg, w3 = su w2 462 19 (nI (D - 1)) := ⟨_, rfl⟩
  have e3 : w3.1 462 19 = nI (D - 1) := by rw [hw3, su_at, if_pos ⟨rfl, rfl⟩]
  obtain ⟨w4, hw4⟩ : ∃ w4 : Sg, w4 = su w3 462 21 (oI (nd (D - 1))) := ⟨_, rfl⟩
  have cell : ∀ x, x ≠ 462 → w4.1 x = s.1 x := fun x hx => by rw [hw4, su_ne hx, hw3, su_ne hx, hw2, su_ne hx]
  have e4 : w4.1 462 19 = nI (D - 1) := by rw [hw4, su_at, if_neg (by omega)]; exact e3
  have f4 : Fk w2 w4 := by rw [hw4, hw3]; exact (Fk.st (by omega)).tr (Fk.st (by omega))
  have m4 : MS n c w4 (p + 1) u (D - 1) cn := ⟨m2.1.fm f4 (by rw [hw4, su_at, if_neg (by omega), hw3, su_at, if_neg (by omega)]; exact m2.1.2.2), by rw [hw4, su_at, if_neg (by omega), hw3, su_at, if_neg (by omega)]; exact m2.2.1, e4, by rw [hw4, su_at, if_neg (by omega), hw3, su_at, if_neg (by omega)]; exact m2.2.2.2.1, fun i hi => by rw [cell 473 (by omega)]; exact h.2.2.2.2 i (by omega)⟩
  have s4 : NS w4 (D - 1) nd wt := fun i hi => by rw [cell 472 (by omega), cell 474 (by omega)]; exact hs i (by omega)
  have r3 : w3.1 472 (D - 1) = oI (nd (D - 1)) := by rw [hw3, su_ne (by omega), hw2, su_ne (by omega)]; exact n1
  have r4 : w4.1 474 (D - 1) = oI (wt (D - 1)) := by rw [cell 474 (by omega)]; exact n2
  obtain ⟨s1, a1, a2, a3, a4, a5, a6, a7⟩ := m_join1 m4 s4 (by omega) q2 (by rw [hw4, su_at, if_pos ⟨rfl, rfl⟩]) (oI (wt (D - 1))) (fun i hi => hc i (by omega))
  refine ⟨w4, s1, ?_, (Fy1.fk (Fk.tr (by rw [hw2]; exact Fk.st (by omega)) f4)).tr a2, a3, a4, a5, cell 463 (by omega), a6, fun y => ?_⟩
  · unfold Kont1
    rw [fX9_ends_0, h.2.2.1, if_neg (by rw [j_le, j_nI (by omega), jz0]; omega), if_pos h.2.1, m_next h.1 T.1 hp, j_b, if_pos e, dm1 hD h99, if_pos (j_ckn (by omega) (by decide)), j_cl _ (by omega), show (462 + 11 : Nat) = 473 from rfl, h.2.2.2.2 (D - 1) (by omega), if_neg (by rw [j_le, j_nI (by omega), jz1]; omega), h.1.2.2, j_s, ← hw2, j_nm, m2.2.2.1, dm1 hD h99, ← hw3, j_nm, e3, if_pos (j_ckn (by omega) (by decide)), j_cl _ (by omega), show (462 + 10 : Nat) = 472 from rfl, r3, ← hw4, j_nm, e4, if_pos (j_ckn (by omega) (by decide)), j_cl _ (by omega), show (462 + 12 : Nat) = 474 from rfl, r4, a1, j_b]
  · rw [a7 y, cell 463 (by omega)]
theorem k1_comma (T : Tt n c) (h : MS n c s p u D cn) (hp : p ≤ n) (hD : 0 < D) (h99 : D < 100) (e : cdm n c p = 44) (k f : Nat) {s7 : Sg} (h7 : fX9_readsWeight (su s 462 15 (nI (p + 1))) 462 = some s7) (w : s7.1 462 16 = -1) : Kont1 (k + 1) f s = fX9_goes_27 462 f s7 1 1 := by
  have m2 : MS n c (su s 462 15 (nI (p + 1))) (p + 1) u D cn := h.at _
  unfold Kont1
  rw [fX9_ends_0, h.2.2.1, if_neg (by rw [j_le, j_nI (by omega), jz0]; omega), if_pos h.2.1, m_next h.1 T.1 hp, j_b, if_neg (by rw [e]; decide)]
  unfold fX9_ends_89 fX9_ends_126
  rw [h.2.2.1, if_neg (by rw [j_eq, j_nI (by omega), jz0]; omega), if_pos h.2.1, (m_take h.1 T.1 hp 44).1 h.2.1 e, j_b]
  dsimp only
  rw [m2.2.1, if_pos rfl, h7, j_b, if_pos w, j_b]
  rfl
theorem k1_root (h : MS n c s p u 0 cn) (hn : n ≤ 120) (k f : Nat) (e : p = n) : Kont1 (k + 1) (f + 1) s = some (-1, s) := by
  unfold Kont1
  rw [fX9_ends_0, h.2.2.1, if_pos (show nI 0 ≤ (0 : Int32) by decide), fX9_ends_89, h.2.2.1, if_pos (show nI 0 = (0 : Int32) from rfl), j_b]
  dsimp only
  rw [show b2i false = 0 from rfl, fX9_goes_27, if_pos rfl]
  unfold fX9_goes_96 fX9_goes_123
  rw [if_pos h.2.1, h.1.1, h.1.2.2, if_pos (by rw [j_le, j_nI (by omega), j_nI (by omega)]; omega), h.2.1]
end RBG
