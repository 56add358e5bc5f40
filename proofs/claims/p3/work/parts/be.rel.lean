/-! THE RELATION: read (9): the reference's stack when a tree is made -/
section RBE
variable {n : Nat} {c : Nat → Int32} {s : Sg} {p u D : Nat} {cn : Nat → Nat} {nd : Nat → Nat} {wt : Nat → Int}
def NS (s : Sg) (D : Nat) (nd : Nat → Nat) (wt : Nat → Int) : Prop := ∀ i, i < D → s.1 472 i = oI (nd i) ∧ s.1 474 i = oI (wt i)
def Kont1 (k f : Nat) (s : Sg) : Option (Int32 × Sg) := (fX9_ends_0 462 k s 1).bind fun r10 => fX9_goes_27 462 f r10.2 1 (b2i r10.1)
/-- what is left alone when a tree is made -/
def Fy1 (s s1 : Sg) : Prop := s1.2 = s.2 ∧ (∀ x, x ≠ 462 → x ≠ 463 → x ≠ 472 → x ≠ 473 → x ≠ 474 → s1.1 x = s.1 x) ∧ ∀ j, j < 15 ∨ 22 < j ∨ j = 17 ∨ j = 18 → s1.1 462 j = s.1 462 j
theorem Fy1.rf : Fy1 s s := ⟨rfl, fun _ _ _ _ _ _ => rfl, fun _ _ => rfl⟩
theorem Fy1.tr {s1 s2 : Sg} (h : Fy1 s s1) (h2 : Fy1 s1 s2) : Fy1 s s2 := ⟨h2.1.trans h.1, fun x a b d e g => (h2.2.1 x a b d e g).trans (h.2.1 x a b d e g), fun j a => (h2.2.2 j a).trans (h.2.2 j a)⟩
theorem Fy1.fk {s1 : Sg} (h : Fk s s1) : Fy1 s s1 := ⟨h.1, fun x a _ d e g => h.2.1 x a d e g, h.2.2⟩
theorem Fy1.ou {s1 : Sg} (o : Out s s1 463 463) : Fy1 s s1 := ⟨o.1, fun x _ b _ _ _ => o.2 x (by omega), fun j _ => by rw [o.2 462 (by omega)]⟩
theorem Fy1.fh {s1 : Sg} (h : Fh s s1) : Fy1 s s1 := ⟨h.1, fun x a b _ _ _ => h.2.1 x a b, fun j a => h.2.2 j (by omega) (by omega) (by omega)⟩
theorem MS.ou {s1 : Sg} (h : MS n c s p u D cn) (o : Out s s1 463 463) : MS n c s1 p u D cn := by
  have k : ∀ x, x ≠ 463 → s1.1 x = s.1 x := fun x hx => o.2 x (by omega)
  refine ⟨⟨by rw [k 462 (by omega)]; exact h.1.1, fun i hi => by rw [k 465 (by omega)]; exact h.1.2.1 i hi, by rw [k 462 (by omega)]; exact h.1.2.2⟩, by rw [k 462 (by omega)]; exact h.2.1, by rw [k 462 (by omega)]; exact h.2.2.1, by rw [k 462 (by omega)]; exact h.2.2.2.1, fun i hi => by rw [k 473 (by omega)]; exact h.2.2.2.2 i hi⟩
theorem m_join1 (h : MS n c s p u D cn) (hs : NS s D nd wt) (hD : D < 100) {g : Nat} (hg : g < 23) (e21 : s.1 462 21 = oI g) (x : Int32) (hc : ∀ i, i < D → cn i < 1000 ∧ nd i < 23) : ∃ s1, fX9_joins s 462 x 1 = some s1 ∧ Fy1 s s1 ∧ MS n c s1 p u D (bump cn D) ∧ NS s1 D nd wt ∧ s1.1 462 21 = oI g ∧ (D = 0 → s1 = s) ∧ (0 < D → mv (s1.1 463) = mu (mu (mu (mv (s.1 463)) 1 g (nd (D - 1))) 4 g (cn (D - 1))) 3 g x.toInt) := by
  have tg : (oI (g : Int)).toInt = g := j_oI (by omega) (by omega)
  by_cases z : D = 0
  · refine ⟨s, ?_, Fy1.rf, h.cg (fun i hi => absurd hi (by omega)), hs, e21, fun _ => rfl, fun y => absurd y (by omega)⟩
    unfold fX9_joins
    rw [h.2.2.1, z, if_pos (show nI 0 ≤ (0 : Int32) by decide)]
  · obtain ⟨c1, c2⟩ := hc (D - 1) (by omega)
    obtain ⟨n1, n2⟩ := hs (D - 1) (by omega)
    have c473 := h.2.2.2.2 (D - 1) (by omega)
    have ed := dm1 (D := D) (by omega) hD
    obtain ⟨w1, a1, a2, a3⟩ := m_l1 (σ := s) tg (by omega) (oI (nd (D - 1)))
    have m1 := h.ou a2
    have k1 : ∀ y, y ≠ 463 → w1.1 y = s.1 y := fun y hy => a2.2 y (by omega)
    obtain ⟨w2, b1, b2, b3⟩ := m_l4 (σ := w1) tg (by omega) (nI (cn (D - 1)))
    have m2 := m1.ou b2
    have k2 : ∀ y, y ≠ 463 → w2.1 y = s.1 y := fun y hy => (b2.2 y (by omega)).trans (k1 y hy)
    obtain ⟨w3, d1, d2, d3⟩ := m_l3 (σ := w2) tg (by omega) x
    have m3 := m2.ou d2
    have k3 : ∀ y, y ≠ 463 → w3.1 y = s.1 y := fun y hy => (d2.2 y (by omega)).trans (k2 y hy)
    obtain ⟨w4, hw4⟩ : ∃ w4 : Sg, w4 = su w3 473 (D - 1) (nI (cn (D - 1) + 1)) := ⟨_, rfl⟩
    have le : ¬ nI D ≤ (0 : Int32) := by rw [j_le, j_nI (by omega), jz0]; omega
    have ckd : ck (nI (D - 1)) 130 := j_ckn (by omega) (by decide)
    refine ⟨w4, ?_, ?_, ?_, fun i hi => ?_, ?_, fun y => absurd y z, fun _ => ?_⟩
    · unfold fX9_joins fX9_joins_61
      rw [h.2.2.1, if_neg le, if_neg (show ¬ ((1 : Int32) = 0) by decide), ed, if_pos ckd, j_cl _ (by omega), show (462 + 10 : Nat) = 472 from rfl, n1, e21, a1, j_b, m1.2.2.1, ed, if_pos ckd, j_cl _ (by omega), show (462 + 11 : Nat) = 473 from rfl, show w1.1 462 21 = oI g by rw [k1 462 (by omega)]; exact e21, show w1.1 473 (D - 1) = nI (cn (D - 1)) by rw [k1 473 (by omega)]; exact c473, b1, j_b, show w2.1 462 21 = oI g by rw [k2 462 (by omega)]; exact e21, d1, j_b, m3.2.2.1, ed, j_nm, if_pos ckd, if_pos ckd, j_cl _ (by omega), show w3.1 473 (D - 1) = nI (cn (D - 1)) by rw [k3 473 (by omega)]; exact c473, j_s, j_nm, hw4]
    · refine ((Fy1.ou a2).tr ((Fy1.ou b2).tr (Fy1.ou d2))).tr (Fy1.fk ?_)
      rw [hw4]
      exact Fk.ar (by omega)
    · refine ⟨m3.1.fm (by rw [hw4]; exact Fk.ar (by omega)) (by rw [hw4, su_ne (by omega)]; exact m3.1.2.2), by rw [hw4, su_ne (by omega)]; exact m3.2.1, by rw [hw4, su_ne (by omega)]; exact m3.2.2.1, by rw [hw4, su_ne (by omega)]; exact m3.2.2.2.1, fun i hi => ?_⟩
      unfold bump
      rw [hw4]
      by_cases y : i = D - 1
      · rw [su_at, if_pos ⟨rfl, y⟩, if_pos (by omega), y]
      · rw [su_at, if_neg (fun w => y w.2), if_neg (by omega)]
        exact m3.2.2.2.2 i hi
    · rw [hw4, su_ne (by omega), su_ne (by omega), k3 472 (by omega), k3 474 (by omega)]
      exact hs i hi
    · rw [hw4, su_ne (by omega), k3 462 (by omega)]
      exact e21
    · rw [hw4, su_ne (by omega), d3, b3, a3, j_oI (by omega) (by omega), j_nI (by omega)]
end RBE
