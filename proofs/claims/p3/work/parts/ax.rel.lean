/-! THE RELATION: texts (5): behind a tree; what a text says -/
section RAX
variable {n : Nat} {c : Nat → Int32} {σ s : Sg} {p m u D : Nat} {cn : Nat → Nat}
theorem dm1 (hD : 0 < D) (h : D < 100) : nI D - 1 = nI (D - 1) := by
  refine j_eq.mpr ?_
  rw [j_sub (by rw [j_nI (by omega), jz1]; omega) (by rw [j_nI (by omega), jz1]; omega), j_nI (by omega), j_nI (by omega), jz1]
  omega
/-- a split ends -/
theorem k_close (T : Tt n c) (h : MS n c s p u D cn) (hp : p ≤ n) (hD : 0 < D) (h99 : D < 100) (e : cdm n c p = 41) (c2 : 2 ≤ cn (D - 1)) (c9 : cn (D - 1) < 1000) (k f : Nat) : ∃ s1, Kont (k + 1) f s = Kont k f s1 ∧ Fk s s1 ∧ MS n c s1 (p + 1) u (D - 1) (bump cn (D - 1)) := by
  obtain ⟨w2, hw2⟩ : ∃ w2 : Sg, w2 = su s 462 15 (nI (p + 1)) := ⟨_, rfl⟩
  have m2 : MS n c w2 (p + 1) u D cn := by rw [hw2]; exact h.at _
  obtain ⟨w3, hw3⟩ : ∃ w3 : Sg, w3 = su w2 462 19 (nI (D - 1)) := ⟨_, rfl⟩
  have e3 : w3.1 462 19 = nI (D - 1) := by rw [hw3, su_at, if_pos ⟨rfl, rfl⟩]
  obtain ⟨w4, hw4⟩ : ∃ w4 : Sg, w4 = su w3 462 21 (w3.1 472 (D - 1)) := ⟨_, rfl⟩
  have e4 : w4.1 462 19 = nI (D - 1) := by rw [hw4, su_at, if_neg (by omega)]; exact e3
  have f4 : Fk w2 w4 := by rw [hw4, hw3]; exact (Fk.st (by omega)).tr (Fk.st (by omega))
  have m4 : MS n c w4 (p + 1) u (D - 1) cn := ⟨m2.1.fm f4 (by rw [hw4, su_at, if_neg (by omega), hw3, su_at, if_neg (by omega)]; exact m2.1.2.2), by rw [hw4, su_at, if_neg (by omega), hw3, su_at, if_neg (by omega)]; exact m2.2.1, e4, by rw [hw4, su_at, if_neg (by omega), hw3, su_at, if_neg (by omega)]; exact m2.2.2.2.1, fun i hi => by rw [hw4, su_ne (by omega), hw3, su_ne (by omega)]; exact m2.2.2.2.2 i (by omega)⟩
  obtain ⟨s1, a1, a2, a3⟩ := m_join0 m4 (by omega) (w4.1 474 (D - 1))
  refine ⟨s1, ?_, Fk.tr (by rw [hw2]; exact Fk.st (by omega)) (f4.tr a2), a3⟩
  unfold Kont
  rw [fX9_ends_0, h.2.2.1, if_neg (by rw [j_le, j_nI (by omega), jz0]; omega), if_pos h.2.1, m_next h.1 T.1 hp, j_b, if_pos e, dm1 hD h99, if_pos (j_ckn (by omega) (by decide)), j_cl _ (by omega), show (462 + 11 : Nat) = 473 from rfl, h.2.2.2.2 (D - 1) (by omega), if_neg (by rw [j_le, j_nI (by omega), jz1]; omega), h.1.2.2, j_s, ← hw2, j_nm, m2.2.2.1, dm1 hD h99, ← hw3, j_nm, e3, if_pos (j_ckn (by omega) (by decide)), j_cl _ (by omega), show (462 + 10 : Nat) = 472 from rfl, ← hw4, j_nm, e4, if_pos (j_ckn (by omega) (by decide)), j_cl _ (by omega), show (462 + 12 : Nat) = 474 from rfl, a1, j_b]
theorem k_89 (T : Tt n c) (h : MS n c s p u D cn) (hp : p ≤ n) (hD : 0 < D) (h99 : D < 100) (e : cdm n c p ≠ 41 ∨ cn (D - 1) ≤ 1) (k f : Nat) : Kont (k + 1) f s = (fX9_ends_89 462 s).bind fun r10 => fX9_goes_27 462 f r10.2 0 (b2i r10.1) := by
  unfold Kont
  rw [fX9_ends_0, h.2.2.1, if_neg (by rw [j_le, j_nI (by omega), jz0]; omega), if_pos h.2.1, m_next h.1 T.1 hp, j_b]
  by_cases z : cdm n c p = 41
  · have c1 : cn (D - 1) ≤ 1 := by
      rcases e with y | y
      · exact absurd z y
      · exact y
    rw [if_pos z, dm1 hD h99, if_pos (j_ckn (by omega) (by decide)), j_cl _ (by omega), show (462 + 11 : Nat) = 473 from rfl, h.2.2.2.2 (D - 1) (by omega), if_pos (by rw [j_le, j_nI (by omega), jz1]; omega)]
  · rw [if_neg z]
/-- another tree follows -/
theorem k_comma (T : Tt n c) (h : MS n c s p u D cn) (hp : p ≤ n) (hD : 0 < D) (h99 : D < 100) (e : cdm n c p = 44) (k f : Nat) {s7 : Sg} (h7 : fX9_readsWeight (su s 462 15 (nI (p + 1))) 462 = some s7) (w : s7.1 462 16 = -1 ∨ ∃ q, q < 1000 ∧ s7.1 462 16 = nI q) : Kont (k + 1) (f + 1) s = fX9_goes_27 462 (f + 1) s7 0 1 := by
  have m2 : MS n c (su s 462 15 (nI (p + 1))) (p + 1) u D cn := h.at _
  rw [k_89 T h hp hD h99 (Or.inl (by rw [e]; decide)) k]
  unfold fX9_ends_89 fX9_ends_126
  rw [h.2.2.1, if_neg (by rw [j_eq, j_nI (by omega), jz0]; omega), if_pos h.2.1, (m_take h.1 T.1 hp 44).1 h.2.1 e, j_b]
  dsimp only
  rw [m2.2.1, if_pos rfl, h7, j_b]
  rcases w with w | ⟨q, hq, w⟩
  · rw [if_pos w, j_b]
    rfl
  · rw [if_neg (by rw [w]; exact nI_m1 (by omega)), j_b]
    dsimp only
    rw [g27_dead hq w, g27_dead hq w]
/-- nothing that may stand there -/
theorem k_dead (T : Tt n c) (h : MS n c s p u D cn) (hp : p ≤ n) (hD : 0 < D) (h99 : D < 100) (e : cdm n c p ≠ 44) (e2 : cdm n c p ≠ 41 ∨ cn (D - 1) ≤ 1) (k f : Nat) : ∃ s1, Kont (k + 1) (f + 1) s = some (nI p, s1) ∧ Fk s s1 := by
  have n120 := T.1
  refine ⟨su s 462 16 (nI p), ?_, Fk.st (by omega)⟩
  rw [k_89 T h hp hD h99 e2 k]
  unfold fX9_ends_89 fX9_ends_126
  have w : (su s 462 16 (nI p)).1 462 16 = nI p := by rw [su_at, if_pos ⟨rfl, rfl⟩]
  have ne : ¬ (su s 462 16 (nI p)).1 462 16 = -1 := by rw [w]; exact nI_m1 (by omega)
  rw [h.2.2.1, if_neg (by rw [j_eq, j_nI (by omega), jz0]; omega), if_pos h.2.1, (m_take h.1 T.1 hp 44).2.1 h.2.1 e, j_b]
  dsimp only
  rw [if_neg ne, if_neg ne, j_b]
  dsimp only
  rw [g27_dead (by omega) w]
/-- the text ends, or goes on behind its tree -/
theorem k_root (h : MS n c s p u 0 cn) (hp : p ≤ n) (hn : n ≤ 120) (k f : Nat) : (p = n → Kont (k + 1) (f + 1) s = some (-1, s)) ∧ (p < n → ∃ s1, Kont (k + 1) (f + 1) s = some (nI p, s1) ∧ Fk s s1) := by
  have e : Kont (k + 1) (f + 1) s = fX9_goes_96 462 s := by
    unfold Kont
    rw [fX9_ends_0, h.2.2.1, if_pos (show nI 0 ≤ (0 : Int32) by decide), fX9_ends_89, h.2.2.1, if_pos (show nI 0 = (0 : Int32) from rfl), j_b]
    dsimp only
    rw [show b2i false = 0 from rfl, fX9_goes_27, if_pos rfl]
  rw [e]
  unfold fX9_goes_96 fX9_goes_123
  rw [if_pos h.2.1, h.1.1, h.1.2.2]
  refine ⟨fun z => ?_, fun z => ?_⟩
  · rw [if_pos (by rw [j_le, j_nI (by omega), j_nI (by omega)]; omega), h.2.1]
  · refine ⟨su s 462 16 (nI p), ?_, Fk.st (by omega)⟩
    rw [if_neg (by rw [j_le, j_nI (by omega), j_nI (by omega)]; omega), j_nm, su_at, if_pos ⟨rfl, rfl⟩]
/-! what a text says: the relations that the rules of the grammar generate -/
def att (rt : Bool) (V : VW) (k sp w : Int) : VW := if rt then up (up V 8 (v_mn V) k) 5 0 (v_mn V) else v_attach (up V 8 (v_mn V) k) (v_mn V) sp (v_cc (up V 8 (v_mn V) k) sp) w
def bgrp (rt : Bool) (V : VW) (sp w : Int) (t : List (Nat × Nat)) : VW := fing (v_mn V) (star t) (btab (v_mn V) t (att rt V 2 sp w))
def Wt (n : Nat) (c : Nat → Int32) (p : Nat) (w : Int) (p1 : Nat) : Prop := (1 ≤ w ∧ w ≤ 1000000) ∧ p < p1 ∧ p1 ≤ n ∧ ∀ s, MT n c s p → s.1 462 16 = -1 → ∃ s1, fX9_readsWeight s 462 = some s1 ∧ Fz s s1 ∧ MT n c s1 p1 ∧ s1.1 462 16 = -1 ∧ s1.1 462 22 = oI w
def Clo (n : Nat) (c : Nat → Int32) (RT : Bool → Int → Int → Nat → Nat → VW → Nat → Nat → VW → Prop) (RK : Int → Nat → Nat → Nat → VW → Nat → Nat → VW → Prop) : Prop :=
  (∀ rt sp w p m V p' m' t, t ≠ [] → Tb n c t false p m p' m' → p' ≤ n → ltr n c p' = false → RT rt sp w p m V p' m' (bgrp rt V sp w t)) ∧
  (∀ rt sp w p m V p2 m2 V2 (k : Int), (k = 0 ∧ cdm n c p = 72) ∨ (k = 1 ∧ cdm n c p = 86) → cdm n c (p + 1) = 40 → RK (v_mn V) 0 (p + 2) m (att rt V k sp w) p2 m2 V2 → cdm n c p2 = 41 → RT rt sp w p m V (p2 + 1) m2 V2) ∧
  (∀ sp j p m V w p1 p2 m2 V2 p' m' V', Wt n c p w p1 → RT false sp w p1 m V p2 m2 V2 → cdm n c p2 = 44 → RK sp (j + 1) (p2 + 1) m2 V2 p' m' V' → RK sp j p m V p' m' V') ∧
  (∀ sp j p m V w p1 p2 m2 V2, 1 ≤ j → Wt n c p w p1 → RT false sp w p1 m V p2 m2 V2 → cdm n c p2 = 41 → RK sp j p m V p2 m2 V2)
def ParT (n : Nat) (c : Nat → Int32) (rt : Bool) (sp w : Int) (p m : Nat) (V : VW) (p' m' : Nat) (V' : VW) : Prop := ∀ RT RK, Clo n c RT RK → RT rt sp w p m V p' m' V'
def ParK (n : Nat) (c : Nat → Int32) (sp : Int) (j p m : Nat) (V : VW) (p' m' : Nat) (V' : VW) : Prop := ∀ RT RK, Clo n c RT RK → RK sp j p m V p' m' V'
theorem par_clo : Clo n c (ParT n c) (ParK n c) :=
  ⟨fun rt sp w p m V p' m' t a1 a2 a3 a4 RT RK h => h.1 rt sp w p m V p' m' t a1 a2 a3 a4, fun rt sp w p m V p2 m2 V2 k a1 a2 a3 a4 RT RK h => h.2.1 rt sp w p m V p2 m2 V2 k a1 a2 (a3 RT RK h) a4, fun sp j p m V w p1 p2 m2 V2 p' m' V' a1 a2 a3 a4 RT RK h => h.2.2.1 sp j p m V w p1 p2 m2 V2 p' m' V' a1 (a2 RT RK h) a3 (a4 RT RK h), fun sp j p m V w p1 p2 m2 V2 a1 a2 a3 a4 RT RK h => h.2.2.2 sp j p m V w p1 p2 m2 V2 a1 a2 (a3 RT RK h) a4⟩
/-- a node is made and put into its place -/
theorem t_node (rc : Sg → Nat → Int32 → Int32 → Int32 → Option (Bool × Sg)) (h : CS n c σ p m) (sp w k : Int32) {dep : Nat} (hd : dep < 1000) : ∃ σ1, fX6_passTree_35 440 rc σ sp w (nI dep) k = fX6_passTree_84 440 rc σ1 (nI dep) k (oI (v_mn (pv σ 443))) ∧ CS n c σ1 p m ∧ Fc σ σ1 ∧ pv σ1 443 = att (decide (dep = 0)) (pv σ 443) k.toInt sp.toInt w.toInt := by
  obtain ⟨w1, a1, a2, a3⟩ := s_makeNode (σ := σ) (b := 440 + 3) k
  have a3' : pv w1 443 = up (pv σ 443) 8 (v_mn (pv σ 443)) k.toInt := a3
  unfold fX6_passTree_35 att
  rw [a1, j_b]
  dsimp only
  by_cases z : dep = 0
  · obtain ⟨w2, b1, b2, b3⟩ := s_setRoot (σ := w1) (b := 440 + 3) 0 (oI (v_mn (pv σ (440 + 3))))
    refine ⟨w2, ?_, (h.ou a2).ou b2, (Fc.ou a2).tr (Fc.ou b2), ?_⟩
    · rw [z, if_pos (show nI 0 = (0 : Int32) from rfl), b1, j_b]
    · rw [decide_eq_true z, if_pos rfl]
      have : pv w2 443 = up (pv w1 443) 5 (0 : Int32).toInt (oI (v_mn (pv σ 443))).toInt := b3
      rw [this, a3', t_mn, jz0]
  · obtain ⟨w2, b1, b2, b3⟩ := s_attach (σ := w1) (b := 440 + 3) (oI (v_mn (pv σ (440 + 3)))) sp (oI (v_cc (pv w1 (440 + 3)) sp.toInt)) w
    refine ⟨w2, ?_, (h.ou a2).ou b2, (Fc.ou a2).tr (Fc.ou b2), ?_⟩
    · rw [if_neg (by rw [j_eq, j_nI (by omega), jz0]; omega), s_childCount, j_b, b1, j_b]
    · rw [decide_eq_false z, if_neg Bool.false_ne_true]
      have : pv w2 443 = v_attach (pv w1 443) (oI (v_mn (pv σ 443))).toInt sp.toInt (oI (v_cc (pv w1 443) sp.toInt)).toInt w.toInt := b3
      rw [this, t_mn, t_cc, a3']
end RAX
