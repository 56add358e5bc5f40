/-! THE RELATION: the reference's plan (15): the sizes of a split's children -/
section MO9
variable {σ : Sg} {V : VW} {d : Nat → Nat} {wn : Nat → Int} {X Y : Nat → Bool}
theorem j_sn {a b : Nat} (h : b ≤ a) (ha : a < 1000) : nI a - nI b = nI (a - b) := by
  refine j_eq.mpr ?_
  rw [j_sub (by rw [j_nI (by omega), j_nI (by omega)]; omega) (by rw [j_nI (by omega), j_nI (by omega)]; omega), j_nI (by omega), j_nI (by omega), j_nI (by omega)]
  omega
theorem m_laysShares (h : VM (mv (σ.1 463)) V X) (t : Tree V d wn Y) {n : Nat} (hn : n < 23) (k1 : V 8 n ≤ 1) (hc : ∀ i, i < 23 → V 9 i = n → mq σ 1 i = 0 ∨ mq σ 1 i = 1) (h12 : σ.1 462 12 = nI n) (hb : ∀ c ∈ pls V (mq σ) n, 0 ≤ mq σ (2 + dr V n) c ∧ mq σ (2 + dr V n) c ≤ 965) (ne : pls V (mq σ) n ≠ []) {ext : Int32} (he : ext.toInt = mq σ (6 + dr V n) n) (hE : 0 ≤ ext.toInt ∧ ext.toInt ≤ 400) : ∃ σ', fX9_laysShares σ 462 (nI n) ext = some σ' ∧ Out σ σ' 470 471 ∧ ∀ c ∈ pls V (mq σ) n, (σ'.1 470 c).toInt = lsh V (mq σ) n c := by
  obtain ⟨d1, d2⟩ := t.drs hn k1
  have en : (nI n).toInt = n := j_nI (by omega)
  have way : fX9_its σ 462 (nI n) 2 = some (nI (dr V n)) := by
    rw [m_i2 en (by omega), (h.k1 hn k1).2, d2, j_nIo _ (by omega)]
  obtain ⟨σ1, a1, o1, f1⟩ := m_ls16 h t hn d1 hc ext
  have o17 : Out σ σ1 470 471 := o1.mo (by omega) (by omega)
  have q1 : mq σ1 = mq σ := mq_o7 o17
  have nd := t.pls_nd (P := mq σ) hn k1
  have len := t.pls_len (P := mq σ) hn k1
  have mem := fun c => t.pls_mem (P := mq σ) hn k1 (c := c)
  have memc : ∀ c, c ∈ pls V (mq σ) n ↔ c < 23 ∧ cs V (mq σ) n c = true := fun c => by
    rw [mem c]
    unfold cs
    simp only [Bool.and_eq_true, decide_eq_true_eq]
  have lc := list_cnt (cs V (mq σ) n) nd memc
  have ssum : sm (fun k => if cs V (mq σ) n k then mq σ (2 + dr V n) k else 0) 23 = Sm (mq σ (2 + dr V n)) (pls V (mq σ) n) := by
    rw [list_sm (mq σ (2 + dr V n)) (N := 23) nd (fun c hc => ((mem c).mp hc).1)]
    exact sm_congr (fun i hi => by
      by_cases y : cs V (mq σ) n i = true
      · rw [if_pos y, if_pos ((memc i).mpr ⟨hi, y⟩)]
      · rw [if_neg y, if_neg (fun z => y ((memc i).mp z).2)])
  have lmv : ∀ f c, c ∈ pls V (mq σ) n → lm (pls V (mq σ) n) f c = f c := fun f c hc => if_pos hc
  have slm : Sm (lm (pls V (mq σ) n) (mq σ (2 + dr V n))) (pls V (mq σ) n) = Sm (mq σ (2 + dr V n)) (pls V (mq σ) n) := Sm_congr (fun c hc => lmv _ c hc)
  have xb : XB (pls V (mq σ) n) (lm (pls V (mq σ) n) (mq σ (2 + dr V n))) (lm (pls V (mq σ) n) (V 11)) := by
    refine ⟨⟨nd, fun c hc => ?_, fun c hc => ?_⟩, len, fun c hc => ?_, fun c hc => ?_⟩
    · rw [lmv _ c hc]; exact (hb c hc).1
    · rw [lmv _ c hc]; exact (t.we ((mem c).mp hc).1 (by have := ((mem c).mp hc).2.1; omega)).1
    · rw [lmv _ c hc]; exact (hb c hc).2
    · rw [lmv _ c hc]; exact (t.we ((mem c).mp hc).1 (by have := ((mem c).mp hc).2.1; omega)).2
  have lpos : 1 ≤ (pls V (mq σ) n).length := by
    cases hp : pls V (mq σ) n with
    | nil => exact absurd hp ne
    | cons y u => simp
  have hroom : 0 ≤ lrm V (mq σ) n ∧ lrm V (mq σ) n ≤ 400 := by
    unfold lrm
    rw [← he]
    split <;> omega
  have c23 : cnt (cs V (mq σ) n) 23 = (pls V (mq σ) n).length := by omega
  rw [c23, ssum, ← slm] at a1
  have lm1 : (nI (pls V (mq σ) n).length - 1).toInt = (pls V (mq σ) n).length - 1 := by
    rw [j_sub (by rw [j_nI (by omega), jz1]; omega) (by rw [j_nI (by omega), jz1]; omega), j_nI (by omega), jz1]
  have rm : (ext - (nI (pls V (mq σ) n).length - 1)).toInt = ext.toInt - ((pls V (mq σ) n).length - 1) := by
    rw [j_sub (by rw [lm1]; omega) (by rw [lm1]; omega), lm1]
  have eroom : (if (ext - (nI (pls V (mq σ) n).length - 1)) ≤ 0 then fX9_laysShares_130 462 σ1 (nI n) (nI (dr V n)) (oI (Sm (lm (pls V (mq σ) n) (mq σ (2 + dr V n))) (pls V (mq σ) n))) 0 else fX9_laysShares_130 462 σ1 (nI n) (nI (dr V n)) (oI (Sm (lm (pls V (mq σ) n) (mq σ (2 + dr V n))) (pls V (mq σ) n))) (ext - (nI (pls V (mq σ) n).length - 1))) = fX9_laysShares_130 462 σ1 (nI n) (nI (dr V n)) (oI (Sm (lm (pls V (mq σ) n) (mq σ (2 + dr V n))) (pls V (mq σ) n))) (oI (lrm V (mq σ) n)) := by
    have hl : lrm V (mq σ) n = if 0 < ext.toInt - (((pls V (mq σ) n).length : Int) - 1) then ext.toInt - ((pls V (mq σ) n).length - 1) else 0 := by
      unfold lrm
      rw [← he]
    by_cases z : 0 < ext.toInt - (((pls V (mq σ) n).length : Int) - 1)
    · rw [if_pos z] at hl
      rw [if_neg (fun y => by rw [j_le, jz0, rm] at y; omega), hl, ← rm, j_oIt]
    · rw [if_neg z] at hl
      rw [if_pos (by rw [j_le, jz0, rm]; omega), hl]
      rfl
  have smB : 0 ≤ Sm (lm (pls V (mq σ) n) (mq σ (2 + dr V n))) (pls V (mq σ) n) ∧ Sm (lm (pls V (mq σ) n) (mq σ (2 + dr V n))) (pls V (mq σ) n) ≤ 965 * 23 := by
    have a := Sm_up (f := lm (pls V (mq σ) n) (mq σ (2 + dr V n))) (B := 965) (l := pls V (mq σ) n) xb.2.2.1
    exact ⟨Sm_nn xb.1.2.1, by omega⟩
  unfold fX9_laysShares
  rw [way, j_b, a1, eroom]
  unfold fX9_laysShares_130
  have h' : VM (mv (σ1.1 463)) V X := by rw [o1.2 463 (by omega)]; exact h
  by_cases q : Sm (lm (pls V (mq σ) n) (mq σ (2 + dr V n))) (pls V (mq σ) n) < lrm V (mq σ) n
  · rw [if_pos (by rw [j_lt, j_oI (by omega) (by omega), j_oI (by omega) (by omega)]; exact q)]
    have n1 : 1 ≤ xn (pls V (mq σ) n) (fun c => decide (c ∈ pls V (mq σ) n)) := by
      cases hp : pls V (mq σ) n with
      | nil => exact absurd hp ne
      | cons y u => exact xn_pos (c := y) (List.mem_cons_self ..) (decide_eq_true (List.mem_cons_self ..))
    have n2 := (xn_le (fun c => decide (c ∈ pls V (mq σ) n)) (pls V (mq σ) n)).2
    obtain ⟨σ2, a2, o2, v2⟩ := m_ls236 (P := mq σ) t hn k1 d1 hc hroom xb q (fun c hc => lmv _ c hc) (fun c hc => lmv _ c hc) 24 FU σ1 (fun c => decide (c ∈ pls V (mq σ) n)) h' (by rw [o1.2 462 (by omega)]; exact h12) q1 ⟨fun c z => of_decide_eq_true z, fun c hc => by
      rw [f1 c hc]
      by_cases y : c ∈ pls V (mq σ) n
      · rw [if_pos ((memc c).mp y), if_pos (decide_eq_true y)]
      · rw [if_neg (fun z => y ((memc c).mpr z)), if_neg (fun z => y (of_decide_eq_true z))]⟩ (fun c hc z => by
      simp only [decide_eq_true hc] at z
      cases z) n1 (by omega) (by decide)
    refine ⟨σ2, a2, o17.tr o2, fun c hc => ?_⟩
    rw [v2 c hc]
    unfold lsh share
    rw [if_pos q]
  · rw [if_neg (fun z => q (by rw [j_lt, j_oI (by omega) (by omega), j_oI (by omega) (by omega)] at z; exact z))]
    obtain ⟨σ2, a2, o2, v2⟩ := m_ls146 (σ := σ1) h' t hn k1 d1 (by rw [q1]; exact hc) (m := lm (pls V (mq σ) n) (mq σ (2 + dr V n))) (by rw [q1]; exact fun c hc => ⟨lmv _ c hc, xb.1.2.1 c hc, xb.2.2.1 c hc⟩) hroom
    rw [q1] at v2
    refine ⟨σ2, a2, o17.tr (o2.mo (by omega) (by omega)), fun c hc => ?_⟩
    rw [v2 c hc]
    unfold lsh share
    rw [if_neg q]
end MO9
