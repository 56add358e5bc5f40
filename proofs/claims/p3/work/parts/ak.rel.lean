/-! THE RELATION: drag, the class's weights (2) -/
section RAK
theorem j_neg {x : Int} (h0 : -2147483647 ≤ x) (h1 : x < 2147483648) : -(oI x) = oI (-x) := by
  refine j_eq.mpr ?_
  rw [Int32.toInt_neg, j_oI (by omega) (by omega), j_oI (by omega) (by omega), Int.bmod_def]
  split <;> omega
theorem kf_le {V P : VW} {n i : Nat} : (kf V P n i).length ≤ i := by
  unfold kf
  exact Nat.le_trans (List.length_filter_le ..) (by rw [List.length_take]; omega)
theorem sm_kf {V P : VW} {n i : Nat} {f : Nat → Int} {B : Int} (hB : 0 ≤ B) (h : ∀ c ∈ kf V P n i, 0 ≤ f c ∧ f c ≤ B) (hi : i ≤ 23) : 0 ≤ Sm f (kf V P n i) ∧ Sm f (kf V P n i) ≤ B * 23 := by
  have a := Sm_up (f := f) (B := B) (l := kf V P n i) (fun c hc => (h c hc).2)
  have b : (kf V P n i).length ≤ i := kf_le
  refine ⟨Sm_nn (fun c hc => (h c hc).1), Int.le_trans a (Int.mul_le_mul_of_nonneg_left (by omega) hB)⟩
def D1 (V P : VW) (s i : Nat) (n : Nat) : Bool := chB V s i n && decide (P 1 n = 1)
def D2 (V P : VW) (s i : Nat) (n : Nat) : Bool := decide (V 9 n = s) && (decide (P 1 n = 1) || decide (V 10 n < i))
theorem s_we160 {σ : Sg} {S : ST} {P : VW} {d : Nat → Nat} {wn : Nat → Int} {X : Nat → Bool} (t : Tree (S_pl S) d wn X) (hP : qv σ = P) {s : Nat} (hs : s < 23) (ks : S_pl S 8 s ≤ 1) {G : Nat → Int} {T B : Int} {l8 l10 : Int64} (e8 : l8.toInt = B) (e10 : l10.toInt = T) (hB : 1 ≤ B ∧ B ≤ 23000000) (hT : 0 ≤ T ∧ T ≤ 1840000) (hG : ∀ c, c < 23 → S_pl S 9 c = s → ¬ P 1 c = 1 → G c = wcl (S_pl S) T B c) (hs1 : stv σ 1 = pfS S (S_fo S) (wgV (S_pl S) (D2 (S_pl S) P s 0) G)) : ∃ σ', fX8_weighBySizes_160 FU σ (oI (s : Int)) (nI (v_cc (S_pl S) s)) l8 l10 0 = some σ' ∧ Out σ σ' 1 70 ∧ stv σ' 1 = pfS S (S_fo S) (wgV (S_pl S) (fun n => decide (S_pl S 9 n = s)) G) := by
  have ts : (oI (s : Int)).toInt = s := j_oI (by omega) (by omega)
  have cc23 := v_cc_rg (S_pl S) s
  have nl8 : ¬ (lg_cmp l8 (0 : Int64)) ≤ 0 := by rw [k_le, e8, kz0]; omega
  have n8 : ¬ l8 = 0 := by rw [k_eq, e8, kz0]; omega
  refine lp (F := fun f (x : Sg × Int32) => fX8_weighBySizes_160 f x.1 (oI (s : Int)) (nI (v_cc (S_pl S) s)) l8 l10 x.2) (Q := fun o => ∃ σ', o = some σ' ∧ Out σ σ' 1 70 ∧ stv σ' 1 = pfS S (S_fo S) (wgV (S_pl S) (fun n => decide (S_pl S 9 n = s)) G)) (fun i x => x.2 = nI i ∧ Out σ x.1 1 70 ∧ stv x.1 1 = pfS S (S_fo S) (wgV (S_pl S) (D2 (S_pl S) P s i) G)) (v_cc (S_pl S) s) ?_ ?_ (v_cc (S_pl S) s) 0 FU (σ, 0) (by omega) (by show _ < 6000; omega) ⟨rfl, Out.rf, hs1⟩
  · rintro f i ⟨x, y⟩ hi ⟨rfl, hO, hv⟩
    simp only at hO hv
    obtain ⟨c, hc, ec, e9c, e10c, -⟩ := t.kid hs ks hi
    have ex := S_pv hv
    have ti : (nI i).toInt = i := j_nI (by omega)
    have tc : (oI (c : Int)).toInt = c := j_oI (by omega) (by omega)
    have nle : ¬ nI (v_cc (S_pl S) s) ≤ nI i := by rw [j_le, j_nI (by omega), j_nI (by omega)]; omega
    have qx : qv x = P := by rw [← hP]; exact qv_c (fun c a b => hO.2 c (by omega))
    have ca : fX1_childAt x (1 + 5) (oI (s : Int)) (nI i) = some (oI (c : Int)) := by
      rw [s_childAt, ex, ts, ti]
      show some (oI (v_ca (wgV (S_pl S) (D2 (S_pl S) P s i) G) s i)) = _
      rw [wg_ca, ec]
    have chs := chB_s t hs ks hc e9c e10c
    show ∃ x' : Sg × Int32, _ ∧ fX8_weighBySizes_160 (f + 1) x (oI (s : Int)) (nI (v_cc (S_pl S) s)) l8 l10 (nI i) = _
    rw [fX8_weighBySizes_160, if_neg nle, if_neg nl8, ca, j_b, s_isShown, j_b, qx, tc, ga_in hc]
    by_cases y : P 1 c = 1
    · rw [decide_eq_true y, if_pos rfl]
      unfold fX8_weighBySizes_233
      rw [j_s]
      refine ⟨(x, nI (i + 1)), ⟨rfl, hO, ?_⟩, rfl⟩
      show stv x 1 = _
      rw [hv, wg_cg (D := D2 (S_pl S) P s i) (D' := D2 (S_pl S) P s (i + 1)) (g := G) (fun n hn => ⟨?_, fun _ => rfl⟩)]
      have := chs n hn
      unfold chB at this
      unfold D2
      by_cases z : n = c
      · rw [z, decide_eq_true y, Bool.true_or, Bool.true_or]
      · rw [decide_eq_false z, Bool.or_false] at this
        by_cases e : S_pl S 9 n = s
        · rw [decide_eq_true e, Bool.true_and, Bool.true_and] at this
          rw [this]
        · rw [decide_eq_false e, Bool.false_and, Bool.false_and]
    · have w1 := t.we hc (show S_pl S 9 c ≠ -1 by omega)
      have Dc : D2 (S_pl S) P s i c = false := by
        unfold D2
        rw [decide_eq_false y, Bool.false_or, decide_eq_false (show ¬ S_pl S 10 c < i by omega), Bool.and_false]
      have wo : fX1_weightOf x (1 + 5) (oI (c : Int)) = some (oI (S_pl S 11 c)) := by
        rw [s_weightOf, ex, tc, ga_in hc]
        show some (oI (wgV (S_pl S) (D2 (S_pl S) P s i) G 11 c)) = _
        rw [wg_at hc, Dc, if_neg Bool.false_ne_true]
      have t11 : (oI (S_pl S 11 c)).toInt64.toInt = S_pl S 11 c := by rw [k_64, j_oI (by omega) (by omega)]
      have m0 : 0 ≤ S_pl S 11 c * T := Int.mul_nonneg (by omega) hT.1
      have m1 : S_pl S 11 c * T ≤ 1000000 * 1840000 := Int.mul_le_mul w1.2 hT.2 hT.1 (by omega)
      have vm : ((oI (S_pl S 11 c)).toInt64 * l10).toInt = S_pl S 11 c * T := by
        rw [k_mul (by rw [t11, e10]; omega) (by rw [t11, e10]; omega), t11, e10]
      have vd : (((oI (S_pl S 11 c)).toInt64 * l10) / l8).toInt = S_pl S 11 c * T / B := by
        rw [k_div (by rw [vm]; exact m0) (by rw [e8]; omega), vm, e8]
      have q0 : 0 ≤ S_pl S 11 c * T / B := Int.ediv_nonneg m0 (by omega)
      have qB : S_pl S 11 c * T / B ≤ 1000000 * 1840000 := Int.le_trans (Int.ediv_le_self _ m0) m1
      generalize hz : ((oI (S_pl S 11 c)).toInt64 * l10) / l8 = v11 at vd
      have e6 : (1000000 : Int64).toInt = 1000000 := rfl
      have e1 : (1 : Int64).toInt = 1 := rfl
      have fin : (if (if (1000000 : Int64) < v11 then (1000000 : Int64) else v11) < (1 : Int64) then (1 : Int64) else (if (1000000 : Int64) < v11 then (1000000 : Int64) else v11)).toInt32.toInt = G c := by
        rw [hG c hc e9c y]
        unfold wcl
        by_cases a : 1000000 < S_pl S 11 c * T / B
        · rw [if_pos (show (1000000 : Int64) < v11 by rw [k_lt, vd, e6]; exact a), if_neg (by decide), if_neg (show ¬ S_pl S 11 c * T / B < 1 by omega), if_pos a]
          rfl
        · rw [if_neg (show ¬ (1000000 : Int64) < v11 by rw [k_lt, vd, e6]; exact a)]
          by_cases b : S_pl S 11 c * T / B < 1
          · rw [if_pos (show v11 < (1 : Int64) by rw [k_lt, vd, e1]; exact b), if_pos b]
            rfl
          · rw [if_neg (show ¬ v11 < (1 : Int64) by rw [k_lt, vd, e1]; exact b), if_neg b, if_neg a, k_32 (by rw [vd]; omega) (by rw [vd]; omega), vd]
      obtain ⟨x2, b2, w2, v2⟩ := s_sw hv (a := oI (c : Int)) (w := (if (if (1000000 : Int64) < v11 then (1000000 : Int64) else v11) < (1 : Int64) then (1 : Int64) else (if (1000000 : Int64) < v11 then (1000000 : Int64) else v11)).toInt32) tc hc fin (D' := D2 (S_pl S) P s (i + 1)) (fun n hn => by
        have := chs n hn
        unfold chB at this
        unfold D2
        by_cases z : n = c
        · rw [z, decide_eq_true rfl, Bool.or_true, decide_eq_true e9c, decide_eq_true (show S_pl S 10 c < ((i + 1 : Nat) : Int) by omega), Bool.or_true, Bool.true_and]
        · rw [decide_eq_false z, Bool.or_false] at this ⊢
          by_cases e : S_pl S 9 n = s
          · rw [decide_eq_true e, Bool.true_and, Bool.true_and] at this
            rw [this]
          · rw [decide_eq_false e, Bool.false_and, Bool.false_and])
      rw [decide_eq_false y, if_neg Bool.false_ne_true, wo, j_b, if_neg n8, hz, j_nm, j_nm, j_nm, b2, j_b]
      unfold fX8_weighBySizes_233
      rw [j_s]
      exact ⟨(x2, nI (i + 1)), ⟨rfl, hO.tr w2, v2⟩, rfl⟩
  · rintro f ⟨x, y⟩ ⟨rfl, hO, hv⟩
    simp only at hO hv
    show ∃ σ', fX8_weighBySizes_160 (f + 1) x (oI (s : Int)) (nI (v_cc (S_pl S) s)) l8 l10 (nI (v_cc (S_pl S) s)) = _ ∧ _
    rw [fX8_weighBySizes_160, if_pos (by rw [j_le]; exact Int.le_refl _)]
    refine ⟨x, rfl, hO, ?_⟩
    rw [hv, wg_cg (D := fun n => decide (S_pl S 9 n = s)) (g := G) (fun n hn => ⟨?_, fun _ => rfl⟩)]
    have := chB_all t hs ks n hn
    unfold chB at this
    unfold D2
    by_cases e : S_pl S 9 n = s
    · rw [decide_eq_true e, Bool.true_and] at this ⊢
      rw [this, Bool.or_true]
    · rw [decide_eq_false e, Bool.false_and]
theorem s_weigh {σ : Sg} {S : ST} {P : VW} {d : Nat → Nat} {wn : Nat → Int} {X : Nat → Bool} (hs0 : stv σ 1 = S) (t : Tree (S_pl S) d wn X) (hP : qv σ = P) {a b s D : Nat} (ha : a < 23) (hb : b < 23) (e9a : S_pl S 9 a = s) (hs : s < 23) (ks : S_pl S 8 s ≤ 1) (wd : S_pl S 8 s = D) (hD : D ≤ 1) (pa : P 1 a = 1) {x : Int} (hx : -400 ≤ x ∧ x ≤ 400) (bn : ∀ n, n < 23 → S_pl S 9 n = s → P 1 n = 1 → 0 ≤ P (6 + D) n ∧ P (6 + D) n ≤ 400) : ∃ σ', fX8_weighBySizes σ (oI (a : Int)) (oI (b : Int)) (oI x) = some σ' ∧ Out σ σ' 1 70 ∧ stv σ' 1 = pfS S (S_fo S) (wgV (S_pl S) (fun n => decide (S_pl S 9 n = s)) (wG (S_pl S) P D a b s x)) := by
  have ta : (oI (a : Int)).toInt = a := j_oI (by omega) (by omega)
  have tb : (oI (b : Int)).toInt = b := j_oI (by omega) (by omega)
  have ts : (oI (s : Int)).toInt = s := j_oI (by omega) (by omega)
  have cc23 := v_cc_rg (S_pl S) s
  have hpv := S_pv hs0
  have kin : ∀ c i, c ∈ kf (S_pl S) P s i → c < 23 ∧ S_pl S 9 c = s ∧ P 1 c = 1 := fun c i hc => (t.pls_mem hs ks).mp (kf_sub hc)
  have B1 : ∀ i, i ≤ 23 → 0 ≤ Sm (S_pl S 11) (kf (S_pl S) P s i) ∧ Sm (S_pl S 11) (kf (S_pl S) P s i) ≤ 1000000 * 23 := fun i hi => sm_kf (by omega) (fun c hc => by
    obtain ⟨h1, h2, h3⟩ := kin c i hc
    have := t.we h1 (by omega)
    omega) hi
  have T1 : ∀ i, i ≤ 23 → 0 ≤ Sm (wsz P D a b x) (kf (S_pl S) P s i) ∧ Sm (wsz P D a b x) (kf (S_pl S) P s i) ≤ 80000 * 23 := fun i hi => sm_kf (by omega) (fun c hc => by
    obtain ⟨h1, h2, h3⟩ := kin c i hc
    have := wsz_rg (a := a) (b := b) hx (bn c h1 h2 h3)
    omega) hi
  have hDl : (oI (D : Int) = 0 ∧ D = 0) ∨ (¬ oI (D : Int) = 0 ∧ D = 1) := by
    have : D = 0 ∨ D = 1 := by omega
    rcases this with rfl | rfl
    · exact Or.inl ⟨rfl, rfl⟩
    · exact Or.inr ⟨by decide, rfl⟩
  have ng := j_neg (x := x) (by omega) (by omega)
  unfold fX8_weighBySizes
  rw [s_parentOf, j_b, hpv, ta, ga_in ha, e9a, s_kindOf, j_b, hpv, ts, ga_in hs, wd, s_childCount, j_b, hpv, ts, j_nm, j_nm, ← j_nIo _ (show v_cc (S_pl S) s < 2147483648 by omega)]
  refine lp (F := fun f (y : Sg × Int64 × Int64 × Int32) => fX8_weighBySizes_44 f y.1 (oI (a : Int)) (oI (b : Int)) (oI x) (oI (s : Int)) (oI (D : Int)) (nI (v_cc (S_pl S) s)) y.2.1 y.2.2.1 y.2.2.2) (Q := fun o => ∃ σ', o = some σ' ∧ Out σ σ' 1 70 ∧ stv σ' 1 = pfS S (S_fo S) (wgV (S_pl S) (fun n => decide (S_pl S 9 n = s)) (wG (S_pl S) P D a b s x))) (fun i y => y.2.2.2 = nI i ∧ Out σ y.1 1 70 ∧ stv y.1 1 = pfS S (S_fo S) (wgV (S_pl S) (D1 (S_pl S) P s i) (wG (S_pl S) P D a b s x)) ∧ y.2.1.toInt = Sm (S_pl S 11) (kf (S_pl S) P s i) ∧ y.2.2.1.toInt = Sm (wsz P D a b x) (kf (S_pl S) P s i)) (v_cc (S_pl S) s) ?_ ?_ (v_cc (S_pl S) s) 0 FU (σ, 0, 0, 0) (by omega) (by show _ < 6000; omega) ⟨rfl, Out.rf, ?_, ?_, ?_⟩
  · rintro f i ⟨y, l8, l10, l⟩ hi ⟨rfl, hO, hv, h8, h10⟩
    simp only at hO hv h8 h10
    obtain ⟨c, hc, ec, e9c, e10c, gk⟩ := t.kid hs ks hi
    have ex := S_pv hv
    have ti : (nI i).toInt = i := j_nI (by omega)
    have tc : (oI (c : Int)).toInt = c := j_oI (by omega) (by omega)
    have nle : ¬ nI (v_cc (S_pl S) s) ≤ nI i := by rw [j_le, j_nI (by omega), j_nI (by omega)]; omega
    have qx : qv y = P := by rw [← hP]; exact qv_c (fun c a b => hO.2 c (by omega))
    have ca : fX1_childAt y (1 + 5) (oI (s : Int)) (nI i) = some (oI (c : Int)) := by
      rw [s_childAt, ex, ts, ti]
      show some (oI (v_ca (wgV (S_pl S) (D1 (S_pl S) P s i) (wG (S_pl S) P D a b s x)) s i)) = _
      rw [wg_ca, ec]
    have chs := chB_s t hs ks hc e9c e10c
    show ∃ x' : Sg × Int64 × Int64 × Int32, _ ∧ fX8_weighBySizes_44 (f + 1) y (oI (a : Int)) (oI (b : Int)) (oI x) (oI (s : Int)) (oI (D : Int)) (nI (v_cc (S_pl S) s)) l8 l10 (nI i) = _
    rw [fX8_weighBySizes_44, if_neg nle, ca, j_b, s_isShown, j_b, qx, tc, ga_in hc]
    by_cases z : P 1 c = 1
    · have w1 := t.we hc (show S_pl S 9 c ≠ -1 by omega)
      have Dc : D1 (S_pl S) P s i c = false := by
        unfold D1 chB
        rw [decide_eq_false (show ¬ S_pl S 10 c < i by omega), Bool.and_false, Bool.false_and]
      have wo : fX1_weightOf y (1 + 5) (oI (c : Int)) = some (oI (S_pl S 11 c)) := by
        rw [s_weightOf, ex, tc, ga_in hc]
        show some (oI (wgV (S_pl S) (D1 (S_pl S) P s i) (wG (S_pl S) P D a b s x) 11 c)) = _
        rw [wg_at hc, Dc, if_neg Bool.false_ne_true]
      have t11 : (oI (S_pl S 11 c)).toInt64.toInt = S_pl S 11 c := by rw [k_64, j_oI (by omega) (by omega)]
      have bc := bn c hc e9c z
      have ch : -400 ≤ chg a b x c ∧ chg a b x c ≤ 400 := by
        unfold chg
        repeat' split
        all_goals omega
      -- the three cases of the change
      have cs : (if oI (c : Int) = oI (a : Int) then fX8_weighBySizes_96 (fX8_weighBySizes_44 f) y (oI (a : Int)) (oI (b : Int)) (oI x) (oI (s : Int)) (oI (D : Int)) (nI (v_cc (S_pl S) s)) l8 l10 (nI i) (oI (c : Int)) (oI x) else if oI (c : Int) = oI (b : Int) then fX8_weighBySizes_96 (fX8_weighBySizes_44 f) y (oI (a : Int)) (oI (b : Int)) (oI x) (oI (s : Int)) (oI (D : Int)) (nI (v_cc (S_pl S) s)) l8 l10 (nI i) (oI (c : Int)) (-(oI x)) else fX8_weighBySizes_96 (fX8_weighBySizes_44 f) y (oI (a : Int)) (oI (b : Int)) (oI x) (oI (s : Int)) (oI (D : Int)) (nI (v_cc (S_pl S) s)) l8 l10 (nI i) (oI (c : Int)) 0) = fX8_weighBySizes_96 (fX8_weighBySizes_44 f) y (oI (a : Int)) (oI (b : Int)) (oI x) (oI (s : Int)) (oI (D : Int)) (nI (v_cc (S_pl S) s)) l8 l10 (nI i) (oI (c : Int)) (oI (chg a b x c)) := by
        unfold chg
        by_cases y1 : c = a
        · rw [if_pos (by rw [y1]), if_pos y1]
        · rw [if_neg (fun u => y1 (by rw [j_eq, tc, ta] at u; omega)), if_neg y1]
          by_cases y2 : c = b
          · rw [if_pos (by rw [y2]), if_pos y2, ng]
          · rw [if_neg (fun u => y2 (by rw [j_eq, tc, tb] at u; omega)), if_neg y2]
            rfl
      rw [decide_eq_true z, if_pos rfl, cs]
      unfold fX8_weighBySizes_96
      have tP : (oI (P (6 + D) c)).toInt = P (6 + D) c := j_oI (by omega) (by omega)
      have tch : (oI (chg a b x c)).toInt = chg a b x c := j_oI (by omega) (by omega)
      have e100 : (100 : Int32).toInt = 100 := rfl
      have ad : (oI (P (6 + D) c) + oI (chg a b x c)).toInt = P (6 + D) c + chg a b x c := by
        rw [j_add (by rw [tP, tch]; omega) (by rw [tP, tch]; omega), tP, tch]
      have mu : (100 * (oI (P (6 + D) c) + oI (chg a b x c))).toInt = 100 * (P (6 + D) c + chg a b x c) := by
        rw [j_mul (by rw [ad, e100]; omega) (by rw [ad, e100]; omega), ad, e100]
      rw [s_ex2 hDl, j_b, qx, tc, ga_in hc]
      generalize 100 * (oI (P (6 + D) c) + oI (chg a b x c)) = v at mu
      have vz : (if 1 < v then v else 1).toInt = wsz P D a b x c := by
        unfold wsz
        by_cases u : 1 < 100 * (P (6 + D) c + chg a b x c)
        · rw [if_pos u, if_pos (show (1 : Int32) < v by rw [j_lt, mu, jz1]; exact u), mu]
        · rw [if_neg u, if_neg (show ¬ (1 : Int32) < v by rw [j_lt, mu, jz1]; exact u)]
          rfl
      generalize (if 1 < v then v else 1) = v16 at vz
      have v64 : v16.toInt64.toInt = wsz P D a b x c := by rw [k_64, vz]
      have wsr := wsz_rg (a := a) (b := b) hx bc
      have b1 := B1 i (by omega)
      have b2 := T1 i (by omega)
      obtain ⟨y2, c2, w2, v2⟩ := s_sw hv (a := oI (c : Int)) (w := v16) tc hc (by rw [vz]; unfold wG; rw [if_pos z]) (D' := D1 (S_pl S) P s (i + 1)) (fun n hn => by
        unfold D1
        rw [chs n hn]
        by_cases u : n = c
        · rw [u, decide_eq_true z, decide_eq_true rfl, Bool.or_true, Bool.or_true, Bool.true_and]
        · rw [decide_eq_false u, Bool.or_false, Bool.or_false])
      rw [j_nm, wo, j_b, j_nm, j_nm, c2, j_b]
      unfold fX8_weighBySizes_151
      rw [j_s]
      have kf1 := kf_1 (P := P) gk z
      refine ⟨(y2, l8 + (oI (S_pl S 11 c)).toInt64, l10 + v16.toInt64, nI (i + 1)), ⟨rfl, hO.tr w2, v2, ?_, ?_⟩, rfl⟩
      · show (l8 + (oI (S_pl S 11 c)).toInt64).toInt = _
        rw [k_add (by rw [h8, t11]; omega) (by rw [h8, t11]; omega), h8, t11, kf1, Sm_app]
        show _ = _ + (S_pl S 11 c + 0)
        omega
      · show (l10 + v16.toInt64).toInt = _
        rw [k_add (by rw [h10, v64]; omega) (by rw [h10, v64]; omega), h10, v64, kf1, Sm_app]
        show _ = _ + (wsz P D a b x c + 0)
        omega
    · rw [decide_eq_false z, if_neg Bool.false_ne_true]
      unfold fX8_weighBySizes_151
      rw [j_s]
      have kf0 := kf_0 (P := P) gk z
      refine ⟨(y, l8, l10, nI (i + 1)), ⟨rfl, hO, ?_, by rw [kf0]; exact h8, by rw [kf0]; exact h10⟩, rfl⟩
      show stv y 1 = _
      rw [hv, wg_cg (D := D1 (S_pl S) P s i) (D' := D1 (S_pl S) P s (i + 1)) (g := wG (S_pl S) P D a b s x) (fun n hn => ⟨?_, fun _ => rfl⟩)]
      unfold D1
      rw [chs n hn]
      by_cases u : n = c
      · rw [u, decide_eq_false z, Bool.and_false, Bool.and_false]
      · rw [decide_eq_false u, Bool.or_false]
  · rintro f ⟨y, l8, l10, l⟩ ⟨rfl, hO, hv, h8, h10⟩
    simp only at hO hv h8 h10
    rw [kf_all] at h8 h10
    have bl := B1 (v_cc (S_pl S) s) (by omega)
    have tl := T1 (v_cc (S_pl S) s) (by omega)
    rw [kf_all] at bl tl
    have apl : a ∈ pls (S_pl S) P s := (t.pls_mem hs ks).mpr ⟨ha, e9a, pa⟩
    have b1 : S_pl S 11 a ≤ Sm (S_pl S 11) (pls (S_pl S) P s) := Sm_mem (fun c hc => by
      have := (t.pls_mem hs ks).mp hc
      have := (t.we this.1 (by omega)).1
      omega) apl
    have w1 := t.we ha (show S_pl S 9 a ≠ -1 by omega)
    show ∃ σ', fX8_weighBySizes_44 (f + 1) y (oI (a : Int)) (oI (b : Int)) (oI x) (oI (s : Int)) (oI (D : Int)) (nI (v_cc (S_pl S) s)) l8 l10 (nI (v_cc (S_pl S) s)) = _ ∧ _
    rw [fX8_weighBySizes_44, if_pos (by rw [j_le]; exact Int.le_refl _)]
    obtain ⟨σ', a1, o1, v1⟩ := s_we160 (σ := y) (S := S) (P := P) t (by rw [← hP]; exact qv_c (fun c a b => hO.2 c (by omega))) hs ks (G := wG (S_pl S) P D a b s x) (T := Sm (wsz P D a b x) (pls (S_pl S) P s)) (B := Sm (S_pl S 11) (pls (S_pl S) P s)) h8 h10 (by omega) (by omega) (fun c hc e z => by unfold wG; rw [if_neg z]) (by
      rw [hv, wg_cg (D := D2 (S_pl S) P s 0) (g := wG (S_pl S) P D a b s x) (fun n hn => ⟨?_, fun _ => rfl⟩)]
      have c0 := chB_0 t hs ks n hn
      unfold chB at c0
      unfold D1 D2
      rw [chB_all t hs ks n hn]
      by_cases e : S_pl S 9 n = s
      · rw [decide_eq_true e, Bool.true_and] at c0
        rw [decide_eq_true e, c0, Bool.true_and, Bool.or_false, Bool.true_and]
      · rw [decide_eq_false e, Bool.false_and, Bool.false_and])
    exact ⟨σ', a1, hO.tr o1, v1⟩
  · show stv σ 1 = _
    rw [wg_cg (D := fun _ => false) (g := wG (S_pl S) P D a b s x) (fun n hn => ⟨by unfold D1; rw [chB_0 t hs ks n hn, Bool.false_and], fun _ => rfl⟩), wg_no]
    exact hs0
  · have : kf (S_pl S) P s 0 = [] := by unfold kf; simp
    rw [this]
    rfl
  · have : kf (S_pl S) P s 0 = [] := by unfold kf; simp
    rw [this]
    rfl
end RAK
