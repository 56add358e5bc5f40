/-! THE RELATION: the reference's plan (9): a round of shares -/
section MI
variable {σ : Sg} {V : VW} {d : Nat → Nat} {wn : Nat → Int} {X Y : Nat → Bool} {pl : List Nat} {m w : Nat → Int} {room : Int}
/-- who gets less than the least -/
def sml (pl : List Nat) (room : Int) (m w : Nat → Int) (op : Nat → Bool) (c : Nat) : Bool := op c && !xo pl room m w op c
theorem xa_cnt (mem : ∀ c ∈ pl, c < 24) {op : Nat → Bool} (sub : ∀ c, op c = true → c ∈ pl) : xa pl op (xo pl room m w op) = decide (1 ≤ cnt (sml pl room m w op) 24) := by
  cases q : xa pl op (xo pl room m w op)
  · refine (decide_eq_false (fun z => ?_)).symm
    obtain ⟨c, _, e⟩ := cnt_ex z
    have oc : op c = true := by
      unfold sml at e
      simp only [Bool.and_eq_true] at e
      exact e.1
    have : xa pl op (xo pl room m w op) = true := by
      unfold xa
      rw [List.any_eq_true]
      exact ⟨c, sub c oc, e⟩
    rw [q] at this
    cases this
  · unfold xa at q
    rw [List.any_eq_true] at q
    obtain ⟨c, hc, e⟩ := q
    exact (decide_eq_true (cnt_pos (mem c hc) e)).symm
theorem m_tight59 (h : VM (mv (σ.1 463)) V X) {D : Nat} (hD : D ≤ 1) (mem : ∀ c ∈ pl, c < 23 ∧ V 9 c ≠ -1) (x : XB pl m w) (h0 : 0 ≤ room ∧ room ≤ 400) (hs : Sm m pl < room) {op : Nat → Bool} (ho1 : 1 ≤ xn pl op) (ho : MO σ pl op) (hm : ∀ c ∈ pl, m c = mq σ (2 + D) c) (hw : ∀ c ∈ pl, w c = V 11 c) {L5 W : Int64} (e5 : L5.toInt = room - xc pl m op) (eW : W.toInt = xw pl w op) : ∃ σ', fX9_tightens_59 462 FU σ (nI D) W L5 0 0 = (if xa pl op (xo pl room m w op) then fX9_tightens_153 462 FU σ' (nI D) 0 else (fX9_evens σ' 462 L5 W).bind fun σ5 => some (false, σ5)) ∧ Out σ σ' 470 470 ∧ (∀ c, op c = true → (σ'.1 470 c).toInt = xq pl room m w op c) ∧ ∀ c, op c = false → σ'.1 470 c = σ.1 470 c := by
  obtain ⟨y, hy, ey⟩ := xn_ex ho1
  have wp := xw_pos x.1 hy ey
  obtain ⟨c0, c1⟩ := xc_rg x hs op
  have zW : ¬ W = 0 := by rw [k_eq, eW, kz0]; omega
  rw [xa_cnt (fun c hc => by have := (mem c hc).1; omega) ho.1]
  have n10 : ¬ (1 : Int32) = 0 := by decide
  refine lp (F := fun f (s : Sg × Int32 × Int32) => fX9_tightens_59 462 f s.1 (nI D) W L5 s.2.1 s.2.2) (Q := fun o => ∃ σ', o = (if decide (1 ≤ cnt (sml pl room m w op) 24) then fX9_tightens_153 462 FU σ' (nI D) 0 else (fX9_evens σ' 462 L5 W).bind fun σ5 => some (false, σ5)) ∧ Out σ σ' 470 470 ∧ (∀ c, op c = true → (σ'.1 470 c).toInt = xq pl room m w op c) ∧ ∀ c, op c = false → σ'.1 470 c = σ.1 470 c) (fun i s => s.2.2 = nI i ∧ s.2.1 = (if decide (1 ≤ cnt (sml pl room m w op) i) then 1 else 0) ∧ Out σ s.1 470 470 ∧ (∀ c, c < i → op c = true → (s.1.1 470 c).toInt = xq pl room m w op c) ∧ ∀ c, op c = false → s.1.1 470 c = σ.1 470 c) 24 ?_ ?_ 24 0 FU (σ, 0, 0) rfl (by decide) ⟨rfl, rfl, Out.rf, fun c hc => absurd hc (by omega), fun _ _ => rfl⟩
  · rintro f i ⟨s, g, l⟩ hi ⟨rfl, hg, hO, hv, hk⟩
    simp only at hg hO hv hk
    have ei : (nI i).toInt = i := j_nI (by omega)
    have nle : ¬ (24 : Int32) ≤ nI i := n_ge 24 (m := 24) rfl hi (by decide)
    have cki : ck (nI i) 24 := j_ckn hi (by decide)
    have ecl : (nI i).toNatClampNeg = i := j_cl _ (by omega)
    have s9 : s.1 (462 + 9) (nI i).toNatClampNeg = 0 ↔ op i = false := by
      rw [ecl, show (462 + 9 : Nat) = 471 from rfl, hO.2 471 (by omega)]
      exact ho.f hi
    show ∃ s' : Sg × Int32 × Int32, _ ∧ fX9_tightens_59 462 (f + 1) s (nI D) W L5 g (nI i) = _
    rw [fX9_tightens_59, if_neg nle, if_pos cki]
    cases oi : op i
    · rw [if_pos (s9.mpr oi)]
      unfold fX9_tightens_130
      rw [j_s]
      have v0 : sml pl room m w op i = false := by unfold sml; rw [oi, Bool.false_and]
      refine ⟨(s, g, nI (i + 1)), ⟨rfl, ?_, hO, fun c hc oc => ?_, hk⟩, rfl⟩
      · rw [cnt_nx, v0]
        exact hg
      · have : c ≠ i := fun z => by rw [z, oi] at oc; cases oc
        exact hv c (by omega) oc
    · have n9 : ¬ s.1 (462 + 9) (nI i).toNatClampNeg = 0 := fun y => by
        rw [s9, oi] at y
        cases y
      have iin := ho.1 i oi
      obtain ⟨i23, ip⟩ := mem i iin
      have w1 := x.1.2.2 i iin
      have wB := x.2.2.2 i iin
      have qr := xq_rg x h0 hs iin oi
      have n0 : 0 ≤ (room - xc pl m op) * w i := Int.mul_nonneg (by omega) (by omega)
      have n1 : (room - xc pl m op) * w i ≤ 400 * 1000000 := Int.mul_le_mul (by omega) (by omega) (by omega) (by omega)
      have e63 : s.1 463 = σ.1 463 := hO.2 463 (by omega)
      have wt : (oI (mv (s.1 463) 3 i)).toInt64.toInt = w i := by rw [k_64, t_mv, e63, h.we i23 ip, hw i iin]
      have v6 : (L5 * (oI (mv (s.1 463) 3 i)).toInt64).toInt = (room - xc pl m op) * w i := by
        rw [k_mul (by rw [wt, e5]; omega) (by rw [wt, e5]; omega), wt, e5]
      have vq : ((L5 * (oI (mv (s.1 463) 3 i)).toInt64) / W).toInt = xq pl room m w op i := by
        rw [k_div (by rw [v6]; exact n0) (by rw [eW]; omega), v6, eW]
        rfl
      have v32 : ((L5 * (oI (mv (s.1 463) 3 i)).toInt64) / W).toInt32.toInt = xq pl room m w op i := by rw [k_32 (by rw [vq]; omega) (by rw [vq]; omega), vq]
      rw [if_neg n9, m_i3 ei hi, j_b, if_neg zW, if_pos cki, j_nm]
      have e2 : (2 : Int32) * nI i + nI D = nI (2 * i + D) := by
        rw [show (2 : Int32) * nI i = nI (2 * i) from (Int32.ofNat_mul 2 i).symm, j_a]
      have ec2 : (nI (2 * i + D)).toNatClampNeg = 2 * i + D := j_cl _ (by omega)
      have ck2 : ck (nI (2 * i + D)) 48 := j_ckn (by omega) (by decide)
      have g8 : (su s (462 + 8) (nI i).toNatClampNeg ((L5 * (oI (mv (s.1 463) 3 i)).toInt64) / W).toInt32).1 (462 + 8) (nI i).toNatClampNeg = ((L5 * (oI (mv (s.1 463) 3 i)).toInt64) / W).toInt32 := by
        show (su s 470 (nI i).toNatClampNeg ((L5 * (oI (mv (s.1 463) 3 i)).toInt64) / W).toInt32).1 470 (nI i).toNatClampNeg = ((L5 * (oI (mv (s.1 463) 3 i)).toInt64) / W).toInt32
        rw [su_at, if_pos ⟨rfl, rfl⟩]
      have g6 : ((su s (462 + 8) (nI i).toNatClampNeg ((L5 * (oI (mv (s.1 463) 3 i)).toInt64) / W).toInt32).1 (462 + 6) (nI (2 * i + D)).toNatClampNeg).toInt = m i := by
        rw [ec2]
        show ((su s 470 (nI i).toNatClampNeg ((L5 * (oI (mv (s.1 463) 3 i)).toInt64) / W).toInt32).1 468 (2 * i + D)).toInt = m i
        rw [su_ne (by omega), hO.2 468 (by omega), ← mqL (by omega) hD, hm i iin]
      have fin : ∀ g' : Int32, g' = (if decide (1 ≤ cnt (sml pl room m w op) (i + 1)) then 1 else 0) → ∃ s' : Sg × Int32 × Int32, (s'.2.2 = nI (i + 1) ∧ s'.2.1 = (if decide (1 ≤ cnt (sml pl room m w op) (i + 1)) then 1 else 0) ∧ Out σ s'.1 470 470 ∧ (∀ c, c < i + 1 → op c = true → (s'.1.1 470 c).toInt = xq pl room m w op c) ∧ ∀ c, op c = false → s'.1.1 470 c = σ.1 470 c) ∧ fX9_tightens_128 462 (fX9_tightens_59 462 f) (su s (462 + 8) (nI i).toNatClampNeg ((L5 * (oI (mv (s.1 463) 3 i)).toInt64) / W).toInt32) (nI D) W L5 (nI i) g' = fX9_tightens_59 462 f s'.1 (nI D) W L5 s'.2.1 s'.2.2 := fun g' hg' => by
        unfold fX9_tightens_128 fX9_tightens_130
        rw [j_s, ecl]
        refine ⟨(su s 470 i ((L5 * (oI (mv (s.1 463) 3 i)).toInt64) / W).toInt32, g', nI (i + 1)), ⟨rfl, hg', hO.tr su_out, fun c hc oc => ?_, fun c oc => ?_⟩, rfl⟩
        · show ((su s 470 i ((L5 * (oI (mv (s.1 463) 3 i)).toInt64) / W).toInt32).1 470 c).toInt = _
          rw [su_at]
          by_cases z : c = i
          · rw [if_pos ⟨rfl, z⟩, v32, z]
          · rw [if_neg (fun u => z u.2)]
            exact hv c (by omega) oc
        · show (su s 470 i ((L5 * (oI (mv (s.1 463) 3 i)).toInt64) / W).toInt32).1 470 c = _
          have z : c ≠ i := fun z => by rw [z, oi] at oc; cases oc
          rw [su_at, if_neg (fun u => z u.2)]
          exact hk c oc
      by_cases z : 1 ≤ cnt (sml pl room m w op) i
      · have g1 : ¬ g = 0 := fun y => by rw [hg, decide_eq_true z] at y; exact absurd y (by decide)
        rw [if_neg g1]
        unfold fX9_tightens_123
        exact fin 1 (by
          rw [cnt_nx, decide_eq_true (show 1 ≤ cnt (sml pl room m w op) i + _ by omega)]
          rfl)
      · have g0 : g = 0 := by rw [hg, decide_eq_false z]; rfl
        rw [if_pos g0, if_pos cki, e2, if_pos ck2]
        by_cases q : m i ≤ xq pl room m w op i
        · have pq : (su s (462 + 8) (nI i).toNatClampNeg ((L5 * (oI (mv (s.1 463) 3 i)).toInt64) / W).toInt32).1 (462 + 6) (nI (2 * i + D)).toNatClampNeg ≤ (su s (462 + 8) (nI i).toNatClampNeg ((L5 * (oI (mv (s.1 463) 3 i)).toInt64) / W).toInt32).1 (462 + 8) (nI i).toNatClampNeg := by
            rw [j_le, g6, g8, v32]
            exact q
          rw [if_pos pq]
          have v0 : sml pl room m w op i = false := by
            unfold sml xo
            rw [oi, decide_eq_true q]
            rfl
          exact fin 0 (by
            rw [cnt_nx, v0, decide_eq_false (show ¬ 1 ≤ cnt (sml pl room m w op) i + (if false = true then 1 else 0) by simp only [Bool.false_eq_true, if_false]; omega)]
            rfl)
        · have nq : ¬ (su s (462 + 8) (nI i).toNatClampNeg ((L5 * (oI (mv (s.1 463) 3 i)).toInt64) / W).toInt32).1 (462 + 6) (nI (2 * i + D)).toNatClampNeg ≤ (su s (462 + 8) (nI i).toNatClampNeg ((L5 * (oI (mv (s.1 463) 3 i)).toInt64) / W).toInt32).1 (462 + 8) (nI i).toNatClampNeg := by
            rw [j_le, g6, g8, v32]
            exact q
          rw [if_neg nq]
          have v1 : sml pl room m w op i = true := by
            unfold sml xo
            rw [oi, decide_eq_false q]
            rfl
          unfold fX9_tightens_123
          exact fin 1 (by
            rw [cnt_nx, v1, decide_eq_true (show 1 ≤ cnt (sml pl room m w op) i + (if true = true then 1 else 0) by simp only [if_true]; omega)]
            rfl)
  · rintro f ⟨s, g, l⟩ ⟨rfl, hg, hO, hv, hk⟩
    simp only at hg hO hv hk
    show ∃ σ', fX9_tightens_59 462 (f + 1) s (nI D) W L5 g (nI 24) = _ ∧ _
    rw [fX9_tightens_59, if_pos (n_le 24 (m := 24) rfl (by decide))]
    refine ⟨s, ?_, hO, fun c oc => hv c (by have := (mem c (ho.1 c oc)).1; omega) oc, hk⟩
    by_cases z : 1 ≤ cnt (sml pl room m w op) 24
    · rw [decide_eq_true z] at hg ⊢
      have g1 : ¬ g = 0 := fun y => n10 (hg.symm.trans y)
      rw [if_neg g1, if_pos rfl]
    · rw [decide_eq_false z] at hg ⊢
      have g0 : g = 0 := hg
      rw [if_pos g0]
      rfl
end MI
