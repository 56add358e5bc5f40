/-! THE RELATION: the reference's plan (10): a round closes parts -/
section MJ9
variable {σ : Sg} {pl : List Nat} {m w : Nat → Int} {room : Int}
theorem m_tight153 {D : Nat} (hD : D ≤ 1) (mem : ∀ c ∈ pl, c < 23) {op : Nat → Bool} (ho : MO σ pl op) (hm : ∀ c ∈ pl, m c = mq σ (2 + D) c) (hq : ∀ c, op c = true → (σ.1 470 c).toInt = xq pl room m w op c) : ∃ σ', fX9_tightens_153 462 FU σ (nI D) 0 = some (true, σ') ∧ Out σ σ' 470 471 ∧ MO σ' pl (xo pl room m w op) ∧ (∀ c, xo pl room m w op c = true → (σ'.1 470 c).toInt = xq pl room m w op c) ∧ (∀ c, op c = true → xo pl room m w op c = false → (σ'.1 470 c).toInt = m c) ∧ ∀ c, op c = false → σ'.1 470 c = σ.1 470 c := by
  refine lp (F := fun f (s : Sg × Int32) => fX9_tightens_153 462 f s.1 (nI D) s.2) (Q := fun o => ∃ σ', o = some (true, σ') ∧ Out σ σ' 470 471 ∧ MO σ' pl (xo pl room m w op) ∧ (∀ c, xo pl room m w op c = true → (σ'.1 470 c).toInt = xq pl room m w op c) ∧ (∀ c, op c = true → xo pl room m w op c = false → (σ'.1 470 c).toInt = m c) ∧ ∀ c, op c = false → σ'.1 470 c = σ.1 470 c) (fun i s => s.2 = nI i ∧ Out σ s.1 470 471 ∧ (∀ c, c < 24 → s.1.1 471 c = if (if c < i then xo pl room m w op c else op c) then 1 else 0) ∧ (∀ c, op c = true → (c < i → xo pl room m w op c = true) → (s.1.1 470 c).toInt = xq pl room m w op c) ∧ (∀ c, c < i → op c = true → xo pl room m w op c = false → (s.1.1 470 c).toInt = m c) ∧ ∀ c, op c = false → s.1.1 470 c = σ.1 470 c) 24 ?_ ?_ 24 0 FU (σ, 0) rfl (by decide) ⟨rfl, Out.rf, fun c hc => by
    rw [if_neg (show ¬ c < 0 by omega)]
    exact ho.2 c hc, fun c oc _ => hq c oc, fun c hc => absurd hc (by omega), fun _ _ => rfl⟩
  · rintro f i ⟨s, l⟩ hi ⟨rfl, hO, h1, h2, h3, h4⟩
    simp only at hO h1 h2 h3 h4
    have nle : ¬ (24 : Int32) ≤ nI i := n_ge 24 (m := 24) rfl hi (by decide)
    have cki : ck (nI i) 24 := j_ckn hi (by decide)
    have ecl : (nI i).toNatClampNeg = i := j_cl _ (by omega)
    have f9 := h1 i hi
    rw [if_neg (show ¬ i < i by omega)] at f9
    have s9 : s.1 (462 + 9) (nI i).toNatClampNeg = 0 ↔ op i = false := by
      rw [ecl, show (462 + 9 : Nat) = 471 from rfl, f9]
      cases op i
      · exact ⟨fun _ => rfl, fun _ => rfl⟩
      · exact ⟨fun z => absurd z (by decide), fun z => by cases z⟩
    have e2 : (2 : Int32) * nI i + nI D = nI (2 * i + D) := by
      rw [show (2 : Int32) * nI i = nI (2 * i) from (Int32.ofNat_mul 2 i).symm, j_a]
    have ec2 : (nI (2 * i + D)).toNatClampNeg = 2 * i + D := j_cl _ (by omega)
    have ck2 : ck (nI (2 * i + D)) 48 := j_ckn (by omega) (by decide)
    -- nothing changes
    have same : xo pl room m w op i = op i → ∃ s' : Sg × Int32, (s'.2 = nI (i + 1) ∧ Out σ s'.1 470 471 ∧ (∀ c, c < 24 → s'.1.1 471 c = if (if c < i + 1 then xo pl room m w op c else op c) then 1 else 0) ∧ (∀ c, op c = true → (c < i + 1 → xo pl room m w op c = true) → (s'.1.1 470 c).toInt = xq pl room m w op c) ∧ (∀ c, c < i + 1 → op c = true → xo pl room m w op c = false → (s'.1.1 470 c).toInt = m c) ∧ ∀ c, op c = false → s'.1.1 470 c = σ.1 470 c) ∧ fX9_tightens_217 462 (fX9_tightens_153 462 f) s (nI D) (nI i) = fX9_tightens_153 462 f s'.1 (nI D) s'.2 := fun e => by
      unfold fX9_tightens_217
      rw [j_s]
      refine ⟨(s, nI (i + 1)), ⟨rfl, hO, fun c hc => ?_, fun c oc y => h2 c oc (fun z => y (by omega)), fun c hc oc xc => ?_, h4⟩, rfl⟩
      · show s.1 471 c = _
        rw [h1 c hc]
        by_cases z : c = i
        · rw [z, if_neg (show ¬ i < i by omega), if_pos (show i < i + 1 by omega), e]
        · by_cases y : c < i
          · rw [if_pos y, if_pos (show c < i + 1 by omega)]
          · rw [if_neg y, if_neg (show ¬ c < i + 1 by omega)]
      · have : c ≠ i := fun z => by rw [z, e] at xc; rw [z, xc] at oc; cases oc
        exact h3 c (by omega) oc xc
    show ∃ s' : Sg × Int32, _ ∧ fX9_tightens_153 462 (f + 1) s (nI D) (nI i) = _
    rw [fX9_tightens_153, if_neg nle, if_pos cki]
    cases oi : op i
    · rw [if_pos (s9.mpr oi)]
      exact same (by unfold xo; rw [oi, Bool.false_and])
    · have n9 : ¬ s.1 (462 + 9) (nI i).toNatClampNeg = 0 := fun y => by
        rw [s9, oi] at y
        cases y
      have iin := ho.1 i oi
      have g8 : (s.1 (462 + 8) (nI i).toNatClampNeg).toInt = xq pl room m w op i := by
        rw [ecl]
        exact h2 i oi (fun z => absurd z (by omega))
      have g6 : (s.1 (462 + 6) (nI (2 * i + D)).toNatClampNeg).toInt = m i := by
        rw [ec2, show (462 + 6 : Nat) = 468 from rfl, hO.2 468 (by omega), ← mqL (by omega) hD, hm i iin]
      rw [if_neg n9, if_pos cki, e2, if_pos ck2]
      by_cases q : m i ≤ xq pl room m w op i
      · have pq : s.1 (462 + 6) (nI (2 * i + D)).toNatClampNeg ≤ s.1 (462 + 8) (nI i).toNatClampNeg := by
          rw [j_le, g6, g8]
          exact q
        rw [if_pos pq]
        exact same (by unfold xo; rw [oi, decide_eq_true q]; rfl)
      · have nq : ¬ s.1 (462 + 6) (nI (2 * i + D)).toNatClampNeg ≤ s.1 (462 + 8) (nI i).toNatClampNeg := by
          rw [j_le, g6, g8]
          exact q
        have b0 : vp_nar .boolean (0 : Int32) = 0 := by decide
        have xi : xo pl room m w op i = false := by unfold xo; rw [decide_eq_false q, Bool.and_false]
        rw [if_neg nq, if_pos ck2, if_pos cki, j_nm, if_pos cki, j_nm, b0]
        unfold fX9_tightens_217
        rw [j_s, ecl]
        generalize hv : s.1 (462 + 6) (nI (2 * i + D)).toNatClampNeg = v at g6
        refine ⟨(su (su s 470 i v) 471 i 0, nI (i + 1)), ⟨rfl, (hO.tr (su_out.mo (by omega) (by omega))).tr (su_out.mo (by omega) (by omega)), fun c hc => ?_, fun c oc y => ?_, fun c hc oc xc => ?_, fun c oc => ?_⟩, rfl⟩
        · show (su (su s 470 i v) 471 i 0).1 471 c = _
          rw [su_at]
          by_cases z : c = i
          · rw [if_pos ⟨rfl, z⟩, z, if_pos (show i < i + 1 by omega), xi]
            rfl
          · rw [if_neg (fun u => z u.2), su_at, if_neg (by omega), h1 c hc]
            by_cases y : c < i
            · rw [if_pos y, if_pos (show c < i + 1 by omega)]
            · rw [if_neg y, if_neg (show ¬ c < i + 1 by omega)]
        · have z : c ≠ i := fun z => by
            have := y (by omega)
            rw [z, xi] at this
            cases this
          show ((su (su s 470 i v) 471 i 0).1 470 c).toInt = _
          rw [su_at, if_neg (by omega), su_at, if_neg (fun u => z u.2)]
          exact h2 c oc (fun u => y (by omega))
        · show ((su (su s 470 i v) 471 i 0).1 470 c).toInt = _
          rw [su_at, if_neg (by omega), su_at]
          by_cases z : c = i
          · rw [if_pos ⟨rfl, z⟩, g6, z]
          · rw [if_neg (fun u => z u.2)]
            exact h3 c (by omega) oc xc
        · have z : c ≠ i := fun z => by rw [z, oi] at oc; cases oc
          show (su (su s 470 i v) 471 i 0).1 470 c = _
          rw [su_at, if_neg (by omega), su_at, if_neg (fun u => z u.2)]
          exact h4 c oc
  · rintro f ⟨s, l⟩ ⟨rfl, hO, h1, h2, h3, h4⟩
    simp only at hO h1 h2 h3 h4
    show ∃ σ', fX9_tightens_153 462 (f + 1) s (nI D) (nI 24) = _ ∧ _
    rw [fX9_tightens_153, if_pos (n_le 24 (m := 24) rfl (by decide))]
    have lt : ∀ c, op c = true → c < 24 := fun c oc => by have := mem c (ho.1 c oc); omega
    refine ⟨s, rfl, hO, ⟨fun c xc => ho.1 c (xo_in c xc), fun c hc => ?_⟩, fun c xc => h2 c (xo_in c xc) (fun _ => xc), fun c oc xc => h3 c (lt c oc) oc xc, h4⟩
    rw [h1 c hc, if_pos hc]
end MJ9
