/-! THE RELATION: read (19): what a text says, made on both sides: the children of a split; the whole text -/
section RBO
variable {n : Nat} {c : Nat → Int32} {V : VW} {d : Nat → Nat} {wn : Nat → Int} {X : Nat → Bool}
theorem QQ.we {m : Nat} {s s1 : Sg} {p u D p1 : Nat} {cn nd : Nat → Nat} {wt : Nat → Int} (h : QQ n c V d wn X m s p u D cn nd wt) (f : Fz s s1) (mt : MT n c s1 p1) (w : s1.1 462 16 = -1) : QQ n c V d wn X m s1 p1 u D cn nd wt := by
  obtain ⟨tr, tb, mk, ms, ns, bm, ⟨u4, al, ax⟩, cd, D99, ox⟩ := h
  have e : s1.1 463 = s.1 463 := f.2.1 463 (by omega)
  exact ⟨tr, tb, mk, ms.we f mt w, fun i hi => by rw [f.2.1 472 (by omega), f.2.1 474 (by omega)]; exact ns i hi, by rw [e]; exact bm, ⟨u4, by rw [e]; exact al, by rw [e]; exact ax⟩, cd, D99, ox⟩
/-- the next child -/
theorem r_child (T : Tt n c) {sp : Int} {j p m : Nat} {w : Int} {p1 p2 m2 : Nat} {V2 : VW} {N : Nat} (wt0 : Wt n c p w p1) (ih : ∀ d wn X s u D cn nd wt f, QQ n c V d wn X m s p1 u D cn nd wt → N ≤ frees V → 3 * D ≤ p1 → 200 ≤ f + p1 → false = decide (D = 0) → (false = true → V 5 0 = -1) → (false = false → (1 ≤ w ∧ w ≤ 1000000) ∧ sp = (nd (D - 1) : Int) ∧ V 8 (nd (D - 1)) ≤ 1 ∧ cn (D - 1) = v_cc V sp ∧ s.1 462 22 = oI w) → ∃ d' wn' s1 u1 k f1, fX9_goes_27 462 f s 1 1 = Kont1 k f1 s1 ∧ QQ n c V2 d' wn' X m2 s1 p2 u1 D (bump cn D) nd wt ∧ SR V s s1 ∧ KP false V V2 ∧ frees V2 + N = frees V ∧ 200 ≤ k + p2 ∧ 200 ≤ f1 + p2 ∧ (∀ t : Nat, t < 23 → V 8 t ≤ 1 → v_cc V2 t = v_cc V t + (if false = false ∧ (t : Int) = sp then 1 else 0)) ∧ (false = true → ∃ g : Nat, g < 23 ∧ V2 5 0 = g ∧ s1.1 462 21 = oI g)) {s : Sg} {u D : Nat} {cn nd : Nat → Nat} {wt : Nat → Int} {f : Nat} (qq : QQ n c V d wn X m s p u D cn nd wt) (nf : N ≤ frees V) (D0 : 0 < D) (D3 : 3 * D ≤ p + 1) (hfu : 200 ≤ f + p) (hsp : sp = (nd (D - 1) : Int)) (h8 : V 8 (nd (D - 1)) ≤ 1) (hj : v_cc V sp = j) (hc : cn (D - 1) = j) : ∃ d' wn' s6 s1 u1 k f1, fX9_readsWeight s 462 = some s6 ∧ s6.1 462 16 = -1 ∧ fX9_goes_27 462 f s6 1 1 = Kont1 k f1 s1 ∧ QQ n c V2 d' wn' X m2 s1 p2 u1 D (bump cn D) nd wt ∧ SR V s s1 ∧ KP false V V2 ∧ frees V2 + N = frees V ∧ 200 ≤ k + p2 ∧ 200 ≤ f1 + p2 ∧ v_cc V2 sp = j + 1 ∧ bump cn D (D - 1) = j + 1 ∧ ∀ t : Nat, t < 23 → V 8 t ≤ 1 → (t : Int) ≠ sp → v_cc V2 t = v_cc V t := by
  obtain ⟨w1, w2, w3, w4⟩ := wt0
  obtain ⟨s6, x1, x2, x3, x4, x5⟩ := w4 s qq.2.2.2.1.1 qq.2.2.2.1.2.1
  have n23 := (qq.2.2.2.2.2.2.2.1 (D - 1) (by omega)).2
  obtain ⟨d', wn', s1, u1, k, f1, y1, y2, y3, y4, y5, y6, y7, y8, -⟩ := ih d wn X s6 u D cn nd wt f (qq.we x2 x3 x4) nf (by omega) (by omega) (decide_eq_false (by omega)).symm (fun z => by cases z) (fun _ => ⟨w1, hsp, h8, by rw [hc, hj], x5⟩)
  have f0 : SR V s s6 := SR.fk (Fk.fz x2)
  have sr : SR V s s1 := ⟨f0.1.tr y3.1, fun i hi q => (y3.2.1 i hi q).trans (f0.2.1 i hi q), fun k hk => (y3.2.2 k hk).trans (f0.2.2 k hk)⟩
  refine ⟨d', wn', s6, s1, u1, k, f1, x1, x4, y1, y2, sr, y4, y5, y6, y7, ?_, ?_, fun t ht ht1 ne => ?_⟩
  · have := y8 (nd (D - 1)) n23 h8
    rw [if_pos ⟨rfl, hsp.symm⟩, ← hsp, hj] at this
    exact this
  · unfold bump
    rw [if_pos (by omega), hc]
  · rw [y8 t ht ht1, if_neg (fun z => ne z.2)]
    omega
theorem r_more (T : Tt n c) : ∀ sp j p m V w p1 p2 m2 V2 p' m' V', Wt n c p w p1 → RTi n c false sp w p1 m V p2 m2 V2 → cdm n c p2 = 44 → RKi n c sp (j + 1) (p2 + 1) m2 V2 p' m' V' → RKi n c sp j p m V p' m' V' := by
  intro sp j p m V w p1 p2 m2 V2 p' m' V' wt0 rt e44 rk hm
  have n120 := T.1
  have p2n : p2 < n := cd_lt (by decide) e44
  obtain ⟨N1, b1, b2, b3, b4, ih1⟩ := rt hm
  obtain ⟨N2, c1, c2, c3, c4, ih2⟩ := rk b1
  rw [if_neg (show ¬ j + 1 = 0 by omega)] at c2
  have pp : p < p1 := wt0.2.1
  refine ⟨N1 + N2, c1, ?_, by omega, c4, ?_⟩
  · by_cases z : j = 0
    · rw [if_pos z]
      omega
    · rw [if_neg z]
      omega
  intro d wn X s u D cn nd wt f qq nf D0 D3 hfu hsp h8 hj hc
  obtain ⟨d2, wn2, s6, s2, u2, k2, f2, x1, x2, x3, x4, x5, x6, x7, x8, x9, x10, x11, x12⟩ := r_child T wt0 ih1 qq (by omega) D0 D3 hfu hsp h8 hj hc
  obtain ⟨k', rfl⟩ : ∃ k', k2 = k' + 1 := ⟨k2 - 1, by omega⟩
  have n23 := (qq.2.2.2.2.2.2.2.1 (D - 1) (by omega)).2
  have D99 := qq.2.2.2.2.2.2.2.2.1
  obtain ⟨s3, hs3⟩ : ∃ s3 : Sg, s3 = su s2 462 15 (nI (p2 + 1)) := ⟨_, rfl⟩
  have fz : Fz s2 s3 := by rw [hs3]; exact Fz.st (by omega)
  have ms3 : MS n c s3 (p2 + 1) u2 D (bump cn D) := by rw [hs3]; exact x4.2.2.2.1.at _
  have h82 : V2 8 (nd (D - 1)) ≤ 1 := by
    rw [(x6.1 (nd (D - 1)) n23 (by omega)).1]
    exact h8
  obtain ⟨d3, wn3, s7, s1, u1, k1, f1, cn', y1, y2, y3, y4, y5, y6, y7, y8, y9, y10, y11, y12, y13⟩ := ih2 d2 wn2 X s3 u2 D (bump cn D) nd wt f2 (x4.we fz ms3.1 ms3.2.1) (by omega) D0 (by omega) (by omega) hsp h82 x10 x11
  have kc := k1_comma T x4.2.2.2.1 (by omega) D0 D99 e44 k' f2 (by rw [← hs3]; exact y1) y2
  have f0 : SR V2 s2 s3 := SR.fk (Fk.fz fz)
  have sr3 : SR V2 s2 s1 := ⟨f0.1.tr y8.1, fun i hi q => (y8.2.1 i hi q).trans (f0.2.1 i hi q), fun k hk => (y8.2.2 k hk).trans (f0.2.2 k hk)⟩
  refine ⟨d3, wn3, s6, s1, u1, k1, f1, cn', x1, x2, ?_, y4, fun i hi => ?_, y6, y7, x5.tr x6 sr3, x6.tr y9, by omega, y11, y12, fun t ht ht1 ne => ?_⟩
  · rw [x3, kc, y3]
  · rw [y5 i hi]
    unfold bump
    rw [if_neg (by omega)]
  · have u1 : V2 8 t ≤ 1 := by
      rw [(x6.1 t ht (by omega)).1]
      exact ht1
    rw [y13 t ht u1 ne, x12 t ht ht1 ne]
theorem r_last (T : Tt n c) : ∀ sp j p m V w p1 p2 m2 V2, 1 ≤ j → Wt n c p w p1 → RTi n c false sp w p1 m V p2 m2 V2 → cdm n c p2 = 41 → RKi n c sp j p m V p2 m2 V2 := by
  intro sp j p m V w p1 p2 m2 V2 hj1 wt0 rt e41 hm
  obtain ⟨N1, b1, b2, b3, b4, ih1⟩ := rt hm
  have pp : p < p1 := wt0.2.1
  refine ⟨N1, b1, ?_, by omega, b4, ?_⟩
  · rw [if_neg (by omega)]
    omega
  intro d wn X s u D cn nd wt f qq nf D0 D3 hfu hsp h8 hj hc
  obtain ⟨d2, wn2, s6, s2, u2, k2, f2, x1, x2, x3, x4, x5, x6, x7, x8, x9, x10, x11, x12⟩ := r_child T wt0 ih1 qq nf D0 D3 hfu hsp h8 hj hc
  exact ⟨d2, wn2, s6, s2, u2, k2, f2, bump cn D, x1, x2, x3, x4, fun i hi => by unfold bump; rw [if_neg (by omega)], by rw [x11, x10], by rw [x10]; omega, x5, x6, x7, x8, x9, x12⟩
theorem r_clo (T : Tt n c) : Clo n c (RTi n c) (RKi n c) := ⟨r_grp T, r_split T, r_more T, r_last T⟩
/-- the reference makes the whole text -/
theorem r_all (T : Tt n c) {m m1 : Nat} {V' : VW} (par : ParT n c true (-1) 0 0 m V n m1 V') (hm : m < 4096) (tr : Tree V d wn (fun _ => false)) (tb : Tabs V (fun _ => false)) (mk : Msk V m) (h0 : V 5 0 = -1) (fr : 2 * bits m ≤ frees V + 1) {s : Sg} {cn : Nat → Nat} (ms : MS n c s 0 0 0 cn) (vm : VM (mv (s.1 463)) V (fun _ => false)) (al : ∀ q, q < 12 → Nat.testBit m q = true → mv (s.1 463) 6 q = 1) (ax : ∀ q, q < 12 → V 13 q ≠ -1 → mv (s.1 463) 6 q = 1) : ∃ d' wn' s1, fX9_goes_27 462 FU s 1 1 = some (-1, s1) ∧ Fy1 s s1 ∧ Tree V' d' wn' (fun _ => false) ∧ Tabs V' (fun _ => false) ∧ BMr (mv (s1.1 463)) V' (fun _ => false) ∧ KP true V V' ∧ (∀ k, (6 ≤ k ∧ k ≤ 8) ∨ 12 ≤ k → mv (s1.1 463) k = mv (s.1 463) k) ∧ ∃ g : Nat, g < 23 ∧ V' 5 0 = g ∧ s1.1 462 21 = oI g ∧ ∀ q, q < 12 → V' 13 q ≠ -1 → mv (s1.1 463) 6 q = 1 := by
  have n120 := T.1
  obtain ⟨N, c1, c2, c3, c4, ih⟩ := par _ _ (r_clo T) hm
  have fu : FU = 6000 := rfl
  have qq : QQ n c V d wn (fun _ => false) m s 0 0 0 cn (fun _ => 0) (fun _ => 0) := ⟨tr, tb, mk, ms, fun i hi => absurd hi (by omega), vm.bm _, ⟨by omega, fun q hq b => ⟨Nat.zero_testBit q, al q hq b⟩, ax⟩, fun i hi => absurd hi (by omega), by omega, fun i hi x => by cases x⟩
  obtain ⟨d', wn', s1, u1, k, f1, y1, y2, y3, y4, y5, y6, y7, y8, y9⟩ := ih d wn _ s 0 0 cn _ _ FU qq (by omega) (by omega) (by omega) (decide_eq_true rfl).symm (fun _ => h0) (fun z => by cases z)
  obtain ⟨k', rfl⟩ : ∃ k', k = k' + 1 := ⟨k - 1, by omega⟩
  obtain ⟨f', rfl⟩ : ∃ f', f1 = f' + 1 := ⟨f1 - 1, by omega⟩
  obtain ⟨tr', tb', mk', ms', ns', bm', ⟨-, -, ax'⟩, -⟩ := y2
  obtain ⟨g, hg, g5, g21⟩ := y9 rfl
  exact ⟨d', wn', s1, by rw [y1, k1_root ms' n120 k' f' rfl], y3.1, tr', tb', bm', y4, y3.2.2, g, hg, g5, g21, ax'⟩
end RBO
