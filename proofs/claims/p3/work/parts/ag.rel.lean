/-! THE RELATION: weights; even -/
section RAG
/-- other weights -/
def wgV (V : VW) (D : Nat → Bool) (g : Nat → Int) : VW := fun j i => if j = 11 ∧ i < 23 ∧ D i = true then g i else V j i
theorem wg_ne {V : VW} {D : Nat → Bool} {g : Nat → Int} {j : Nat} (h : j ≠ 11) : wgV V D g j = V j := by
  funext i
  unfold wgV
  rw [if_neg (fun z => h z.1)]
theorem wg_at {V : VW} {D : Nat → Bool} {g : Nat → Int} {i : Nat} (h : i < 23) : wgV V D g 11 i = if D i = true then g i else V 11 i := by
  unfold wgV
  by_cases z : D i = true
  · rw [if_pos ⟨rfl, h, z⟩, if_pos z]
  · rw [if_neg (fun w => z w.2.2), if_neg z]
theorem wg_up {V : VW} {D D' : Nat → Bool} {g : Nat → Int} {c : Nat} (hc : c < 23) (hD : ∀ i, i < 23 → D' i = (D i || decide (i = c))) : up (wgV V D g) 11 c (g c) = wgV V D' g := by
  funext j i
  rw [up_def]
  by_cases j11 : j = 11
  · subst j11
    by_cases i23 : i < 23
    · have e : inr 11 i = true := by rw [inr_11, decide_eq_true i23]
      rw [wg_at i23, wg_at i23, hD i i23]
      by_cases z : i = c
      · rw [if_pos ⟨rfl, by omega, e⟩, decide_eq_true z, Bool.or_true, if_pos rfl, z]
      · rw [if_neg (fun w => z (by omega)), decide_eq_false z, Bool.or_false]
    · have e : inr 11 i = false := by rw [inr_11, decide_eq_false i23]
      rw [if_neg (fun w => by rw [e] at w; exact absurd w.2.2 Bool.false_ne_true)]
      unfold wgV
      rw [if_neg (fun w => i23 w.2.1), if_neg (fun w => i23 w.2.1)]
  · rw [if_neg (fun w => j11 w.1), wg_ne j11, wg_ne j11]
theorem wg_cg {V : VW} {D D' : Nat → Bool} {g g' : Nat → Int} (h : ∀ i, i < 23 → D' i = D i ∧ (D i = true → g' i = g i)) : wgV V D' g' = wgV V D g := by
  funext j i
  unfold wgV
  by_cases z : j = 11 ∧ i < 23 ∧ D i = true
  · rw [if_pos z, if_pos ⟨z.1, z.2.1, by rw [(h i z.2.1).1]; exact z.2.2⟩, (h i z.2.1).2 z.2.2]
  · rw [if_neg z, if_neg (fun w => z ⟨w.1, w.2.1, by rw [← (h i w.2.1).1]; exact w.2.2⟩)]
theorem wg_no {V : VW} {g : Nat → Int} : wgV V (fun _ => false) g = V := by
  funext j i
  unfold wgV
  rw [if_neg (fun w => Bool.false_ne_true w.2.2)]
theorem Inv.wg {V : VW} {d : Nat → Nat} {wn : Nat → Int} (h : Inv V d wn) {D : Nat → Bool} {g : Nat → Int} (b : ∀ n, n < 23 → D n = true → 1 ≤ g n ∧ g n ≤ 1000000) : Inv (wgV V D g) d wn := by
  obtain ⟨t, tb, lo, ge⟩ := h
  have e : ∀ j, j ≠ 11 → wgV V D g j = V j := fun j hj => wg_ne hj
  refine ⟨t.cg (fun n _ => by rw [e 8 (by omega)]) (fun n _ => by rw [e 9 (by omega)]) (fun n _ => by rw [e 10 (by omega)]) (fun n hn q => ?_) (fun w _ => by rw [e 5 (by omega)]), tb.cg (fun g _ => by rw [e 8 (by omega)]) (fun g _ _ => by rw [e 12 (by omega)]) (fun p _ => by rw [e 13 (by omega)]) (fun p _ => by rw [e 14 (by omega)]) (fun p _ => by rw [e 15 (by omega)]), ?_, ge.cg (e 1 (by omega)) (e 2 (by omega)) (e 3 (by omega)) (e 4 (by omega))⟩
  · rw [wg_at hn]
    split
    · exact b n hn (by assumption)
    · exact t.we hn q
  · have : odp (wgV V D g) = odp V := by
      unfold odp
      rw [e 6 (by omega), e 7 (by omega)]
    rw [this]
    exact lo.cg (fun i _ => by unfold flw; rw [e 5 (by omega)])
theorem SI.wg {S : ST} (h : SI S) {D : Nat → Bool} {g : Nat → Int} (b : ∀ n, n < 23 → D n = true → 1 ≤ g n ∧ g n ≤ 1000000) : SI (pfS S (S_fo S) (wgV (S_pl S) D g)) := by
  obtain ⟨h1, h2, h3, h4, ⟨d, wn, i⟩, h6, h7⟩ := h
  exact SI.pf (S := S) ⟨h1, h2, h3, h4, ⟨d, wn, i⟩, h6, h7⟩ (i.wg b) (fun p hp z => h4 p hp (by rw [← wg_ne (V := S_pl S) (D := D) (g := g) (j := 13) (by omega)]; exact z)) (h6.cg (fun p _ => by unfold plc; rw [wg_ne (by omega)]))
theorem VM.wg {U U' V : VW} {X : Nat → Bool} (h : VM U V X) {D : Nat → Bool} {g : Nat → Int} (e : ∀ j, j ≠ 3 → j < 20 → U' j = U j) (g3 : ∀ n, n < 23 → V 9 n ≠ -1 → U' 3 n = if D n = true then g n else U 3 n) : VM U' (wgV V D g) X := by
  obtain ⟨a1, a2, a3, a4, a5, a6, a7, a8, a9⟩ := h
  have w : ∀ j, j ≠ 11 → wgV V D g j = V j := fun j hj => wg_ne hj
  unfold VM
  rw [e 0 (by omega) (by omega), e 1 (by omega) (by omega), e 2 (by omega) (by omega), e 4 (by omega) (by omega), e 5 (by omega) (by omega), e 9 (by omega) (by omega), e 10 (by omega) (by omega), e 11 (by omega) (by omega), e 12 (by omega) (by omega), e 13 (by omega) (by omega), e 14 (by omega) (by omega), e 15 (by omega) (by omega), e 16 (by omega) (by omega), e 17 (by omega) (by omega), e 18 (by omega) (by omega), e 19 (by omega) (by omega), w 1 (by omega), w 2 (by omega), w 3 (by omega), w 4 (by omega), w 5 (by omega), w 6 (by omega), w 7 (by omega), w 8 (by omega), w 9 (by omega), w 10 (by omega), w 12 (by omega), w 13 (by omega), w 14 (by omega), w 15 (by omega)]
  refine ⟨a1, a2, a3, fun n hn q => ⟨?_, (a4 n hn q).2⟩, a5, a6, a7, a8, a9⟩
  rw [g3 n hn q, wg_at hn, (a4 n hn q).1]
/-- which nodes are children at a place before k -/
def chB (V : VW) (s k : Nat) (n : Nat) : Bool := decide (V 9 n = s) && decide (V 10 n < k)
theorem chB_s {V : VW} {d : Nat → Nat} {wn : Nat → Int} {X : Nat → Bool} (t : Tree V d wn X) {s c k : Nat} (hs : s < 23) (ks : V 8 s ≤ 1) (hc : c < 23) (e9 : V 9 c = s) (e10 : V 10 c = k) (i : Nat) (hi : i < 23) : chB V s (k + 1) i = (chB V s k i || decide (i = c)) := by
  unfold chB
  by_cases e : V 9 i = s
  · rw [decide_eq_true e, Bool.true_and, Bool.true_and]
    by_cases z : i = c
    · rw [decide_eq_true z, Bool.or_true, decide_eq_true (by rw [z, e10]; omega)]
    · have ne : V 10 i ≠ k := fun y => z ((t.sp hs ks).1.2.2 i c hi hc (by simp [e]) (by simp [e9]) (by omega))
      rw [decide_eq_false z, Bool.or_false]
      by_cases w : V 10 i < k
      · rw [decide_eq_true w, decide_eq_true (by omega)]
      · rw [decide_eq_false w, decide_eq_false (by omega)]
  · rw [decide_eq_false e, Bool.false_and, Bool.false_and, Bool.false_or, decide_eq_false (fun z => e (by rw [z]; exact e9))]
theorem chB_all {V : VW} {d : Nat → Nat} {wn : Nat → Int} {X : Nat → Bool} (t : Tree V d wn X) {s : Nat} (hs : s < 23) (ks : V 8 s ≤ 1) (i : Nat) (hi : i < 23) : chB V s (v_cc V s) i = decide (V 9 i = s) := by
  unfold chB
  by_cases e : V 9 i = s
  · have m := (t.sp hs ks).1.1 i hi (by simp [e])
    have : v_cc V s = cnt (fun n => decide (V 9 n = (s : Int))) 23 := by
      unfold v_cc
      rw [if_neg (by omega)]
    rw [decide_eq_true e, Bool.true_and, decide_eq_true (by rw [this]; exact m.2)]
  · rw [decide_eq_false e, Bool.false_and]
theorem chB_0 {V : VW} {d : Nat → Nat} {wn : Nat → Int} {X : Nat → Bool} (t : Tree V d wn X) {s : Nat} (hs : s < 23) (ks : V 8 s ≤ 1) (i : Nat) (hi : i < 23) : chB V s 0 i = false := by
  unfold chB
  by_cases e : V 9 i = s
  · have m := (t.sp hs ks).1.1 i hi (by simp [e])
    rw [decide_eq_false (show ¬ V 10 i < ((0 : Nat) : Int) by omega), Bool.and_false]
  · rw [decide_eq_false e, Bool.false_and]
theorem wg_cc {V : VW} {D : Nat → Bool} {g : Nat → Int} (s : Int) : v_cc (wgV V D g) s = v_cc V s := by
  unfold v_cc
  rw [wg_ne (by omega)]
theorem wg_ca {V : VW} {D : Nat → Bool} {g : Nat → Int} (s k : Int) : v_ca (wgV V D g) s k = v_ca V s k := by
  unfold v_ca
  rw [wg_ne (by omega), wg_ne (by omega)]
/-- the class's step: a weight -/
theorem s_sw {σ : Sg} {S : ST} {D D' : Nat → Bool} {g : Nat → Int} {V : VW} (hs : stv σ 1 = pfS S (S_fo S) (wgV V D g)) {a w : Int32} {c : Nat} (ha : a.toInt = c) (hc : c < 23) (hw : w.toInt = g c) (hD : ∀ i, i < 23 → D' i = (D i || decide (i = c))) : ∃ σ', fX1_setWeight σ (1 + 5) a w = some σ' ∧ Out σ σ' 1 70 ∧ stv σ' 1 = pfS S (S_fo S) (wgV V D' g) := by
  obtain ⟨σ', a1, o, v⟩ := s_do hs (s_setWeight (σ := σ) (b := 1 + 5) a w)
  refine ⟨σ', a1, o, ?_⟩
  rw [v, S_pv hs, ha, hw]
  show pfS S (S_fo S) (up (wgV V D g) 11 c (g c)) = _
  rw [wg_up hc hD]
/-! even -/
def evG : Nat → Int := fun _ => 1000
theorem c_even {σ : Sg} (h : RR σ) (p : Int32) : PI (fL_even σ p 476 1) (fun s => fX9_even s 462 p) := by
  obtain ⟨S, l, c, m, tx⟩ := h
  have h1 := c.1
  have hS := c.2.2.1
  have hR : RR σ := ⟨S, l, c, m, tx⟩
  cases q : exP S p
  · refine pi_no (k := 1) (b := 0) hR ?_ (by decide) ?_
    · unfold fL_even fX8_even
      rw [s_reqP (by rw [h1]; exact hS), h1, q]
      rfl
    · show fX9_even σ 462 p = _
      unfold fX9_even fX9_even_37 fX9_even_38 fX9_even_57
      rw [m_isP m.2, j_b, q, rf1]
      rfl
  · obtain ⟨k, hk, hk12, ek⟩ := exP_n q
    obtain ⟨-, -, -, -, ⟨d, wn, hI⟩, hO, -⟩ := id hS
    obtain ⟨t, tb, lo, ge⟩ := id hI
    have hpv : pv σ (1 + 5) = S_pl S := S_pv h1
    have r13 : -2147483648 ≤ S_pl S 13 k ∧ S_pl S 13 k < 2147483648 := by rw [← hpv]; exact pv_rg σ (1 + 5) 13 k
    have t13 : (oI (S_pl S 13 k)).toInt = S_pl S 13 k := j_oI r13.1 r13.2
    have pre8 : ∀ r, (if oI (ga (S_pl S 9) 23 (S_pl S 13 k)) = -1 then some ((.inr 2 : Int32 ⊕ Nat), σ) else (fX8_keepRecord σ).bind fun σ6 => (fX1_childCount σ6 (1 + 5) (oI (ga (S_pl S 9) 23 (S_pl S 13 k)))).bind fun r7 => (fX8_even_53 FU σ6 (oI (ga (S_pl S 9) 23 (S_pl S 13 k))) r7 0)) = r → fX8_even σ p = r := fun r e => by
      unfold fX8_even
      rw [s_reqP (by rw [h1]; exact hS), h1, q, j_b, if_pos rfl, j_xl, s_groupOf, j_b, s_parentOf, j_b, hpv, hk, ga_in hk12, t13]
      exact e
    have no : fX9_even_57 462 σ p 2 = some (0, su σ 462 3 2) := by
      unfold fX9_even_57
      rw [rf2]
      rfl
    have n10 : ¬ (1 : Int32) = 0 := by decide
    have nb : ¬ b2i true = 0 := by decide
    cases qp : plc (S_pl S) k
    · have z : S_pl S 13 k = -1 := by
        unfold plc at qp
        exact Classical.byContradiction (fun y => by rw [decide_eq_true y] at qp; cases qp)
      refine pi_no (k := 2) (b := 0) hR ?_ (by decide) ?_
      · unfold fL_even
        rw [pre8 _ rfl, z, ga_m1, if_pos (show oI (-1) = (-1 : Int32) from rfl)]
        rfl
      · show fX9_even σ 462 p = _
        unfold fX9_even fX9_even_37 fX9_even_38
        rw [m_isP m.2, j_b, q, if_pos rfl, m_isL m.2.2.1 hk hk12, qp, j_b, if_neg Bool.false_ne_true, if_neg nb, if_pos rfl]
        exact no
    · have np : S_pl S 13 k ≠ -1 := by
        unfold plc at qp
        exact of_decide_eq_true qp
      obtain ⟨g, hg, eg, kg⟩ := (tb.gr hk12).resolve_left np
      have u3 : S_pl S 8 g ≠ 3 := by omega
      have ei : (oI (S_pl S 13 k)).toInt = g := by rw [t13, eg]
      have e9 := fun (s : Sg) (ms : MR s S l) => ms.2.2.1.pa hg u3
      have r9 : -2147483648 ≤ S_pl S 9 g ∧ S_pl S 9 g < 2147483648 := by rw [← e9 σ m]; exact mv_rg _ _ _
      have y9 := oi_m1 r9.1 r9.2
      have pre9 : ∀ s, MR s S l → fX9_even s 462 p = if S_pl S 9 g = -1 then fX9_even_57 462 s p 2 else fX9_even_57 462 s p 0 := fun s ms => by
        unfold fX9_even fX9_even_37 fX9_even_38
        rw [m_isP ms.2, j_b, q, if_pos rfl, m_isL ms.2.2.1 hk hk12, qp, j_b, if_pos rfl, m_o3 hk hk12, j_b, ms.2.2.1.gr hk12, m_i1 ei (by omega), j_b, e9 s ms, if_neg nb, if_neg nb, if_neg n10, if_pos rfl]
        by_cases z : S_pl S 9 g = -1
        · rw [if_pos z, if_pos (y9.mpr z)]
        · rw [if_neg z, if_neg (fun y => z (y9.mp y))]
      by_cases z : S_pl S 9 g = -1
      · refine pi_no (k := 2) (b := 0) hR ?_ (by decide) ?_
        · unfold fL_even
          rw [pre8 _ rfl, eg, ga_in hg, if_pos (y9.mpr z)]
          rfl
        · show fX9_even σ 462 p = _
          rw [pre9 σ m, if_pos z]
          exact no
      · obtain ⟨s, hs23, es, ks, -, -⟩ := t.pa hg z
        have ts : (oI (s : Int)).toInt = s := j_oI (by omega) (by omega)
        have ccr := v_cc_rg (S_pl S) s
        have tcc : (oI (v_cc (S_pl S) s : Int)) = nI (v_cc (S_pl S) s) := (j_nIo _ (by omega)).symm
        obtain ⟨σ1, a1, f1, c1⟩ := s_kr c
        have hpv1 := S_pv c1.1
        have hSI : SI (pfS S (S_fo S) (wgV (S_pl S) (fun n => decide (S_pl S 9 n = s)) evG)) := hS.wg (fun n _ _ => by unfold evG; omega)
        -- the class's loop
        have loop : ∃ σ3, fX8_even_53 FU σ1 (oI (s : Int)) (nI (v_cc (S_pl S) s)) 0 = some (.inl (nI (v_cc (S_pl S) s)), σ3) ∧ (∀ c, 438 ≤ c → σ3.1 c = σ1.1 c) ∧ CR σ3 (pfS S (S_fo S) (wgV (S_pl S) (fun n => decide (S_pl S 9 n = s)) evG)) (keep l S) := by
          refine lp (F := fun f (x : Sg × Int32) => fX8_even_53 f x.1 (oI (s : Int)) (nI (v_cc (S_pl S) s)) x.2) (Q := fun o => ∃ σ3, o = some (.inl (nI (v_cc (S_pl S) s)), σ3) ∧ (∀ c, 438 ≤ c → σ3.1 c = σ1.1 c) ∧ CR σ3 (pfS S (S_fo S) (wgV (S_pl S) (fun n => decide (S_pl S 9 n = s)) evG)) (keep l S)) (fun i x => x.2 = nI i ∧ Out σ1 x.1 1 70 ∧ stv x.1 1 = pfS S (S_fo S) (wgV (S_pl S) (chB (S_pl S) s i) evG)) (v_cc (S_pl S) s) ?_ ?_ (v_cc (S_pl S) s) 0 FU (σ1, 0) (by omega) (by show _ < 6000; omega) ⟨rfl, Out.rf, ?_⟩
          · rintro f i ⟨x, y⟩ hi ⟨rfl, hO', hv⟩
            simp only at hO' hv
            obtain ⟨c, hc, ec, e9c, e10c, -⟩ := t.kid hs23 ks hi
            have ex := S_pv hv
            have ti : (nI i).toInt = i := j_nI (by omega)
            have tc : (oI (c : Int)).toInt = c := j_oI (by omega) (by omega)
            obtain ⟨x2, b2, w2, v2⟩ := s_sw hv (a := oI (c : Int)) (w := 1000) tc hc rfl (chB_s t hs23 ks hc e9c e10c)
            show ∃ x' : Sg × Int32, _ ∧ fX8_even_53 (f + 1) x (oI (s : Int)) (nI (v_cc (S_pl S) s)) (nI i) = _
            have nle : ¬ nI (v_cc (S_pl S) s) ≤ nI i := by rw [j_le, j_nI (by omega), j_nI (by omega)]; omega
            have ca : fX1_childAt x (1 + 5) (oI (s : Int)) (nI i) = some (oI (c : Int)) := by
              rw [s_childAt, ex, ts, ti]
              show some (oI (v_ca (wgV (S_pl S) (chB (S_pl S) s i) evG) s i)) = _
              rw [wg_ca, ec]
            rw [fX8_even_53, if_neg nle, ca, j_b, b2, j_b, j_s]
            exact ⟨(x2, nI (i + 1)), ⟨rfl, hO'.tr w2, v2⟩, rfl⟩
          · rintro f ⟨x, y⟩ ⟨rfl, hO', hv⟩
            simp only at hO' hv
            show ∃ σ3, fX8_even_53 (f + 1) x (oI (s : Int)) (nI (v_cc (S_pl S) s)) (nI (v_cc (S_pl S) s)) = _ ∧ _
            rw [wg_cg (D := fun n => decide (S_pl S 9 n = s)) (g := evG) (fun i hi => ⟨chB_all t hs23 ks i hi, fun _ => rfl⟩)] at hv
            obtain ⟨σ3, a3, o3, c3⟩ := c1.mod (fun x hx => hO'.2 x (by omega)) hv hSI
            rw [fX8_even_53, if_pos (by rw [j_le]; exact Int.le_refl _), a3, j_b]
            exact ⟨σ3, rfl, fun c hc => by rw [o3.2 c (by omega), hO'.2 c (by omega)], c3⟩
          · show stv σ1 1 = _
            rw [wg_cg (D := fun _ => false) (g := evG) (fun i hi => ⟨chB_0 t hs23 ks i hi, fun _ => rfl⟩), wg_no]
            exact c1.1
        obtain ⟨σ3, a3, e3, c3⟩ := loop
        refine pi_ok (v := nI (v_cc (S_pl S) s)) tx m ?_ (fun x hx => by rw [e3 x hx]; exact f1 x hx) c3 (fun x ms => ?_)
        · unfold fL_even
          rw [pre8 _ rfl, eg, ga_in hg, if_neg (fun y => z (y9.mp y)), a1, j_b, es, s_childCount, j_b, hpv1, ts, tcc, a3, j_b, j_xl, if_pos (by decide), j_nm]
          rfl
        · have ms0 := ms.s3 (k := 0)
          obtain ⟨s1, b1, g1, x1, m1⟩ := m_kr ms0
          have vm := m1.2.2.1
          have ch : ∀ n, n < 23 → (decide (mv (s1.1 463) 0 n ≠ 0) && decide (mv (s1.1 463) 1 n = s)) = decide (S_pl S 9 n = s) := fun n hn => vm.ch t hn (by omega)
          have loop9 : ∃ s3, fX9_even_85 462 FU s1 (oI (s : Int)) 0 = some (nI (v_cc (S_pl S) s), s3) ∧ Out s1 s3 463 463 ∧ (∀ j, j ≠ 3 → mv (s3.1 463) j = mv (s1.1 463) j) ∧ ∀ n, n < 23 → mv (s3.1 463) 3 n = if S_pl S 9 n = s then 1000 else mv (s1.1 463) 3 n := by
            refine lp (F := fun f (x : Sg × Int32) => fX9_even_85 462 f x.1 (oI (s : Int)) x.2) (Q := fun o => ∃ s3, o = some (nI (v_cc (S_pl S) s), s3) ∧ Out s1 s3 463 463 ∧ (∀ j, j ≠ 3 → mv (s3.1 463) j = mv (s1.1 463) j) ∧ ∀ n, n < 23 → mv (s3.1 463) 3 n = if S_pl S 9 n = s then 1000 else mv (s1.1 463) 3 n) (fun i x => x.2 = nI i ∧ Out s1 x.1 463 463 ∧ (∀ j, j ≠ 3 → mv (x.1.1 463) j = mv (s1.1 463) j) ∧ ∀ n, n < 23 → mv (x.1.1 463) 3 n = if n < i ∧ S_pl S 9 n = s then 1000 else mv (s1.1 463) 3 n) 24 ?_ ?_ 24 0 FU (s1, 0) rfl (by decide) ⟨rfl, Out.rf, fun _ _ => rfl, fun n _ => by rw [if_neg (by omega)]⟩
            · rintro f i ⟨x, y⟩ hi ⟨rfl, hO', hr, h3⟩
              simp only at hO' hr h3
              have ti : (nI i).toInt = i := j_nI (by omega)
              have nle : ¬ (24 : Int32) ≤ nI i := n_ge 24 (m := 24) rfl hi (by decide)
              show ∃ x' : Sg × Int32, _ ∧ fX9_even_85 462 (f + 1) x (oI (s : Int)) (nI i) = _
              rw [fX9_even_85, if_neg nle, m_isChild ti hi, j_b, ts, hr 0 (by omega), hr 1 (by omega)]
              unfold fX9_even_113
              by_cases y : (decide (mv (s1.1 463) 0 i ≠ 0) && decide (mv (s1.1 463) 1 i = s)) = true
              · obtain ⟨x2, b2, w2, u2⟩ := m_l3 (σ := x) ti hi 1000
                have e1000 : (1000 : Int32).toInt = 1000 := rfl
                rw [if_pos y, b2, j_b, j_s]
                refine ⟨(x2, nI (i + 1)), ⟨rfl, hO'.tr w2, fun j hj => ?_, fun n hn => ?_⟩, rfl⟩
                · show mv (x2.1 463) j = _
                  rw [u2, mu_ne hj]
                  exact hr j hj
                · show mv (x2.1 463) 3 n = _
                  rw [u2, mu_at, e1000]
                  by_cases w : n = i
                  · subst w
                    rw [ch n hn] at y
                    rw [if_pos rfl, if_pos ⟨by omega, of_decide_eq_true y⟩]
                  · rw [if_neg w, h3 n hn]
                    by_cases v : n < i ∧ S_pl S 9 n = s
                    · rw [if_pos v, if_pos ⟨by omega, v.2⟩]
                    · rw [if_neg v, if_neg (fun u => v ⟨by omega, u.2⟩)]
              · rw [if_neg y, j_s]
                refine ⟨(x, nI (i + 1)), ⟨rfl, hO', hr, fun n hn => ?_⟩, rfl⟩
                show mv (x.1 463) 3 n = _
                rw [h3 n hn]
                by_cases v : n < i ∧ S_pl S 9 n = s
                · rw [if_pos v, if_pos ⟨by omega, v.2⟩]
                · rw [if_neg v, if_neg (fun u => v ⟨by
                    have : n ≠ i := fun w => y (by rw [← w, ch n hn]; exact decide_eq_true u.2)
                    omega, u.2⟩)]
            · rintro f ⟨x, y⟩ ⟨rfl, hO', hr, h3⟩
              simp only at hO' hr h3
              show ∃ s3, fX9_even_85 462 (f + 1) x (oI (s : Int)) (nI 24) = _ ∧ _
              have cm : m_cc (mv (x.1 463)) s = v_cc (S_pl S) s := by
                have : m_cc (mv (x.1 463)) s = m_cc (mv (s1.1 463)) s := by
                  unfold m_cc
                  rw [hr 0 (by omega), hr 1 (by omega)]
                rw [this, vm.cc t (by omega)]
              rw [fX9_even_85, if_pos (n_le 24 (m := 24) rfl (by decide)), m_childMany, j_b, ts, cm, tcc]
              refine ⟨x, rfl, hO', hr, fun n hn => ?_⟩
              rw [h3 n hn]
              by_cases v : S_pl S 9 n = s
              · rw [if_pos v, if_pos ⟨by omega, v⟩]
              · rw [if_neg v, if_neg (fun u => v u.2)]
          obtain ⟨s3, b3, w3, r3, h3⟩ := loop9
          refine ⟨s3, ?_, (G9.s3.tr g1).tr (F9.ou w3), m1.mod w3 (m1.2.pf (fun j hj => r3 j (by omega)) (vm.wg (fun j hj _ => r3 j hj) (fun n hn _ => ?_)) ?_)⟩
          · show fX9_even x 462 p = _
            rw [pre9 x ms, if_neg z]
            unfold fX9_even_57
            rw [rf0, j_b]
            show (fX9_of (su x 462 3 0) 462 p 3).bind _ = _
            rw [m_o3 hk hk12, j_b, ms0.2.2.1.gr hk12, m_i1 ei (by omega), j_b, ms0.2.2.1.pa hg u3, es, b1, j_b, b3]
          · rw [h3 n hn]
            by_cases v : S_pl S 9 n = s
            · rw [if_pos v, decide_eq_true v, if_pos rfl]
              rfl
            · rw [if_neg v, decide_eq_false v, if_neg Bool.false_ne_true]
          · have : mo (mv (s3.1 463)) 20 = mo (mv (s1.1 463)) 20 := by
              unfold mo
              rw [r3 20 (by omega), r3 21 (by omega)]
            rw [this]
            exact m1.2.2.2.1
end RAG
