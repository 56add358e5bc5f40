/-! THE RELATION: the reference's plan (6): who shares -/
section MF
variable {σ : Sg} {V : VW} {d : Nat → Nat} {wn : Nat → Int} {X Y : Nat → Bool}
theorem mqL {n D : Nat} (hn : n < 24) (hD : D ≤ 1) : mq σ (2 + D) n = (σ.1 468 (2 * n + D)).toInt := by
  have : D = 0 ∨ D = 1 := by omega
  rcases this with rfl | rfl
  · exact mq2 hn
  · exact mq3 hn
theorem cs_24 (t : Tree V d wn Y) {P : VW} {n i : Nat} (hi : i < 23) : (cs V P n i = true) ↔ V 9 i = n ∧ P 1 i = 1 := by
  unfold cs
  simp only [Bool.and_eq_true, decide_eq_true_eq]
/-- the flags of the children seen, their number and their least sizes -/
theorem m_ls16 (h : VM (mv (σ.1 463)) V X) (t : Tree V d wn Y) {n D : Nat} (hn : n < 23) (hD : D ≤ 1) (hc : ∀ i, i < 23 → V 9 i = n → mq σ 1 i = 0 ∨ mq σ 1 i = 1) (ext : Int32) : ∃ σ', fX9_laysShares_16 462 FU σ (nI n) ext (nI D) 0 0 0 = (if (ext - (nI (cnt (cs V (mq σ) n) 23) - 1)) ≤ 0 then fX9_laysShares_130 462 σ' (nI n) (nI D) (oI (sm (fun k => if cs V (mq σ) n k then mq σ (2 + D) k else 0) 23)) 0 else fX9_laysShares_130 462 σ' (nI n) (nI D) (oI (sm (fun k => if cs V (mq σ) n k then mq σ (2 + D) k else 0) 23)) (ext - (nI (cnt (cs V (mq σ) n) 23) - 1))) ∧ Out σ σ' 471 471 ∧ ∀ c, c < 24 → σ'.1 471 c = if c < 23 ∧ cs V (mq σ) n c = true then 1 else 0 := by
  have en : (nI n).toInt = n := j_nI (by omega)
  have b0 : vp_nar .boolean (0 : Int32) = 0 := by decide
  have b1 : vp_nar .boolean (1 : Int32) = 1 := by decide
  have n10 : ¬ (1 : Int32) = 0 := by decide
  refine lp (F := fun m (s : Sg × Int32 × Int32 × Int32) => fX9_laysShares_16 462 m s.1 (nI n) ext (nI D) s.2.1 s.2.2.1 s.2.2.2) (Q := fun o => ∃ σ', o = (if (ext - (nI (cnt (cs V (mq σ) n) 23) - 1)) ≤ 0 then fX9_laysShares_130 462 σ' (nI n) (nI D) (oI (sm (fun k => if cs V (mq σ) n k then mq σ (2 + D) k else 0) 23)) 0 else fX9_laysShares_130 462 σ' (nI n) (nI D) (oI (sm (fun k => if cs V (mq σ) n k then mq σ (2 + D) k else 0) 23)) (ext - (nI (cnt (cs V (mq σ) n) 23) - 1))) ∧ Out σ σ' 471 471 ∧ ∀ c, c < 24 → σ'.1 471 c = if c < 23 ∧ cs V (mq σ) n c = true then 1 else 0) (fun i s => Out σ s.1 471 471 ∧ s.2.1 = nI (cnt (cs V (mq σ) n) (min i 23)) ∧ s.2.2.1 = oI (sm (fun k => if cs V (mq σ) n k then mq σ (2 + D) k else 0) (min i 23)) ∧ s.2.2.2 = nI i ∧ ∀ c, c < i → s.1.1 471 c = if c < 23 ∧ cs V (mq σ) n c = true then 1 else 0) 24 ?_ ?_ 24 0 FU (σ, 0, 0, 0) rfl (by decide) ⟨Out.rf, rfl, rfl, rfl, fun c hc => absurd hc (by omega)⟩
  · rintro m i ⟨s, a, b, l⟩ hi ⟨ho, ha, hb, rfl, hv⟩
    simp only at ho ha hb hv
    have ei : (nI i).toInt = i := j_nI (by omega)
    have e63 : s.1 463 = σ.1 463 := ho.2 463 (by omega)
    have nle : ¬ (24 : Int32) ≤ nI i := n_ge 24 (m := 24) rfl hi (by decide)
    have cki : ck (nI i) 24 := j_ckn hi (by decide)
    have e2 : (2 : Int32) * nI i + nI D = nI (2 * i + D) := by
      rw [show (2 : Int32) * nI i = nI (2 * i) from (Int32.ofNat_mul 2 i).symm, j_a]
    -- not open
    have no : ¬ (i < 23 ∧ cs V (mq σ) n i = true) → ∃ s' : Sg × Int32 × Int32 × Int32, (Out σ s'.1 471 471 ∧ s'.2.1 = nI (cnt (cs V (mq σ) n) (min (i + 1) 23)) ∧ s'.2.2.1 = oI (sm (fun k => if cs V (mq σ) n k then mq σ (2 + D) k else 0) (min (i + 1) 23)) ∧ s'.2.2.2 = nI (i + 1) ∧ ∀ c, c < i + 1 → s'.1.1 471 c = if c < 23 ∧ cs V (mq σ) n c = true then 1 else 0) ∧ fX9_laysShares_53 462 (fX9_laysShares_16 462 m) s (nI n) ext (nI D) a b (nI i) (nI i) = fX9_laysShares_16 462 m s'.1 (nI n) ext (nI D) s'.2.1 s'.2.2.1 s'.2.2.2 := fun v0 => by
      have g0 : (su s 471 i 0).1 (462 + 9) i = 0 := by
        show (su s 471 i 0).1 471 i = 0
        rw [su_at, if_pos ⟨rfl, rfl⟩]
      unfold fX9_laysShares_53 fX9_laysShares_54
      have ec : (nI i).toNatClampNeg = i := j_cl _ (by omega)
      have g0' : (su s (462 + 9) (nI i).toNatClampNeg 0).1 (462 + 9) (nI i).toNatClampNeg = 0 := by rw [ec]; exact g0
      rw [if_pos cki, b0, j_nm, if_pos cki, if_pos g0']
      unfold fX9_laysShares_72
      rw [j_nm, if_pos cki, if_pos g0']
      unfold fX9_laysShares_102
      rw [j_nm, j_s, ec, show su s (462 + 9) i 0 = su s 471 i 0 from rfl]
      have z0 : ∀ x : Int32, x + 0 = x := fun x => by simp
      rw [z0, z0]
      refine ⟨(su s 471 i 0, a, b, nI (i + 1)), ⟨ho.tr su_out, ?_, ?_, rfl, fun c hc => ?_⟩, rfl⟩
      · show a = _
        by_cases y : i < 23
        · have c0 : cs V (mq σ) n i = false := by
            cases z : cs V (mq σ) n i
            · rfl
            · exact absurd ⟨y, z⟩ v0
          rw [ha, show min i 23 = i by omega, show min (i + 1) 23 = i + 1 by omega, cnt_nx, c0]
          rfl
        · rw [ha, show min i 23 = min (i + 1) 23 by omega]
      · show b = _
        by_cases y : i < 23
        · have c0 : cs V (mq σ) n i = false := by
            cases z : cs V (mq σ) n i
            · rfl
            · exact absurd ⟨y, z⟩ v0
          rw [hb, show min i 23 = i by omega, show min (i + 1) 23 = i + 1 by omega]
          refine congrArg oI ?_
          show _ = sm (fun k => if cs V (mq σ) n k then mq σ (2 + D) k else 0) i + (if cs V (mq σ) n i then mq σ (2 + D) i else 0)
          rw [c0]
          exact (Int.add_zero _).symm
        · rw [hb, show min i 23 = min (i + 1) 23 by omega]
      · show (su s 471 i 0).1 471 c = _
        rw [su_at]
        by_cases q : c = i
        · rw [if_pos ⟨rfl, q⟩, q, if_neg v0]
        · rw [if_neg (fun z => q z.2)]
          exact hv c (by omega)
    show ∃ s' : Sg × Int32 × Int32 × Int32, _ ∧ fX9_laysShares_16 462 (m + 1) s (nI n) ext (nI D) a b (nI i) = _
    rw [fX9_laysShares_16, if_neg nle, m_isChild ei hi, j_b, en, e63]
    by_cases i23 : i < 23
    · rw [h.ch t i23 (by omega)]
      by_cases q : V 9 i = n
      · have q' : decide (V 9 i = (n : Int)) = true := decide_eq_true q
        have s7 : s.1 467 i = 0 ↔ mq σ 1 i = 0 := by rw [ho.2 467 (by omega), mq1 (by omega), j_eq, jz0]
        rw [if_pos q', if_pos cki, j_cl _ (by omega), show (462 + 5 : Nat) = 467 from rfl]
        rcases hc i i23 q with z | z
        · rw [if_pos (s7.mpr z)]
          exact no (fun y => by
            have := ((cs_24 t i23).mp y.2).2
            omega)
        · have n7 : ¬ s.1 467 i = 0 := fun y => by rw [s7] at y; omega
          have v1 : cs V (mq σ) n i = true := (cs_24 t i23).mpr ⟨q, z⟩
          have g1 : (su s 471 i 1).1 (462 + 9) i = 1 := by
            show (su s 471 i 1).1 471 i = 1
            rw [su_at, if_pos ⟨rfl, rfl⟩]
          have g8 : (su s 471 i 1).1 (462 + 6) (2 * i + D) = oI (mq σ (2 + D) i) := by
            show (su s 471 i 1).1 468 (2 * i + D) = _
            rw [su_ne (by omega), ho.2 468 (by omega), mqL (by omega) hD, j_oIt]
          rw [if_neg n7]
          unfold fX9_laysShares_54
          have ec : (nI i).toNatClampNeg = i := j_cl _ (by omega)
          have ec2 : (nI (2 * i + D)).toNatClampNeg = 2 * i + D := j_cl _ (by omega)
          have g1' : ¬ (su s (462 + 9) (nI i).toNatClampNeg 1).1 (462 + 9) (nI i).toNatClampNeg = 0 := by rw [ec]; exact fun z => n10 (g1.symm.trans z)
          rw [if_pos cki, b1, j_nm, if_pos cki, if_neg g1']
          unfold fX9_laysShares_72
          rw [j_nm, if_pos cki, if_neg g1', e2, if_pos (j_ckn (by omega) (by decide))]
          unfold fX9_laysShares_102
          rw [j_nm, j_s, ec, ec2, show su s (462 + 9) i 1 = su s 471 i 1 from rfl, g8]
          refine ⟨(su s 471 i 1, _, _, nI (i + 1)), ⟨ho.tr su_out, ?_, ?_, rfl, fun c hc => ?_⟩, rfl⟩
          · show a + 1 = _
            rw [ha, show min i 23 = i by omega, show min (i + 1) 23 = i + 1 by omega, cnt_nx, v1, j_s]
            rfl
          · show b + oI _ = _
            rw [hb, show min i 23 = i by omega, show min (i + 1) 23 = i + 1 by omega, j_oa]
            refine congrArg oI ?_
            show _ = sm (fun k => if cs V (mq σ) n k then mq σ (2 + D) k else 0) i + (if cs V (mq σ) n i then mq σ (2 + D) i else 0)
            rw [v1]
            rfl
          · show (su s 471 i 1).1 471 c = _
            rw [su_at]
            by_cases w : c = i
            · rw [if_pos ⟨rfl, w⟩, w, if_pos ⟨i23, v1⟩]
            · rw [if_neg (fun z => w z.2)]
              exact hv c (by omega)
      · have q' : ¬ decide (V 9 i = (n : Int)) = true := fun y => q (of_decide_eq_true y)
        rw [if_neg q']
        exact no (fun y => q ((cs_24 t i23).mp y.2).1)
    · have i3 : i = 23 := by omega
      subst i3
      have q' : ¬ (decide (mv (σ.1 463) 0 23 ≠ 0) && decide (mv (σ.1 463) 1 23 = (n : Int))) = true := fun y => by
        rw [h.l] at y
        simp at y
      rw [if_neg q']
      exact no (fun y => i23 y.1)
  · rintro m ⟨s, a, b, l⟩ ⟨ho, ha, hb, rfl, hv⟩
    simp only at ho ha hb hv
    show ∃ σ', fX9_laysShares_16 462 (m + 1) s (nI n) ext (nI D) a b (nI 24) = _ ∧ _
    rw [fX9_laysShares_16, if_pos (n_le 24 (m := 24) rfl (by decide)), ha, hb]
    exact ⟨s, rfl, ho, hv⟩
end MF
