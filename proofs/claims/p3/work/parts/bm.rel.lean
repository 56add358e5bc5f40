/-! THE RELATION: read (17): what a text says, made on both sides: a group -/
section RBM
def QQ (n : Nat) (c : Nat → Int32) (V : VW) (d : Nat → Nat) (wn : Nat → Int) (X : Nat → Bool) (m : Nat) (s : Sg) (p u D : Nat) (cn nd : Nat → Nat) (wt : Nat → Int) : Prop :=
  Tree V d wn X ∧ Tabs V (fun _ => false) ∧ Msk V m ∧ MS n c s p u D cn ∧ NS s D nd wt ∧ BMr (mv (s.1 463)) V X ∧ (u < 4096 ∧ (∀ q, q < 12 → Nat.testBit m q = true → Nat.testBit u q = false ∧ mv (s.1 463) 6 q = 1) ∧ ∀ q, q < 12 → V 13 q ≠ -1 → mv (s.1 463) 6 q = 1) ∧ (∀ i, i < D → cn i < 1000 ∧ nd i < 23) ∧ D < 100 ∧ ∀ i, i < 23 → X i = true → V 8 i ≤ 1
def KP (rt : Bool) (V V' : VW) : Prop := (∀ i, i < 23 → V 8 i ≠ 3 → V' 8 i = V 8 i ∧ V' 9 i = V 9 i ∧ V' 10 i = V 10 i ∧ V' 11 i = V 11 i) ∧ (∀ j, j < 5 ∨ j = 6 ∨ j = 7 → V' j = V j) ∧ ∀ w, w < 5 → (w ≠ 0 ∨ rt = false) → V' 5 w = V 5 w
def SR (V : VW) (s s1 : Sg) : Prop := Fy1 s s1 ∧ (∀ i, i < 23 → V 8 i ≠ 3 → mv (s1.1 463) 1 i = mv (s.1 463) 1 i) ∧ ∀ k, (6 ≤ k ∧ k ≤ 8) ∨ 12 ≤ k → mv (s1.1 463) k = mv (s.1 463) k
def bits (m : Nat) : Nat := cnt (fun q => Nat.testBit m q) 12
def RTi (n : Nat) (c : Nat → Int32) (rt : Bool) (sp w : Int) (p m : Nat) (V : VW) (p' m' : Nat) (V' : VW) : Prop := m < 4096 → ∃ N, m' < 4096 ∧ N + 1 + 2 * bits m' ≤ 2 * bits m ∧ p < p' ∧ p' ≤ n ∧ ∀ d wn X s u D cn nd wt f, QQ n c V d wn X m s p u D cn nd wt → N ≤ frees V → 3 * D ≤ p → 200 ≤ f + p → rt = decide (D = 0) → (rt = true → V 5 0 = -1) → (rt = false → (1 ≤ w ∧ w ≤ 1000000) ∧ sp = (nd (D - 1) : Int) ∧ V 8 (nd (D - 1)) ≤ 1 ∧ cn (D - 1) = v_cc V sp ∧ s.1 462 22 = oI w) → ∃ d' wn' s1 u1 k f1, fX9_goes_27 462 f s 1 1 = Kont1 k f1 s1 ∧ QQ n c V' d' wn' X m' s1 p' u1 D (bump cn D) nd wt ∧ SR V s s1 ∧ KP rt V V' ∧ frees V' + N = frees V ∧ 200 ≤ k + p' ∧ 200 ≤ f1 + p' ∧ (∀ t : Nat, t < 23 → V 8 t ≤ 1 → v_cc V' t = v_cc V t + (if rt = false ∧ (t : Int) = sp then 1 else 0)) ∧ (rt = true → ∃ g : Nat, g < 23 ∧ V' 5 0 = g ∧ s1.1 462 21 = oI g)
def RKi (n : Nat) (c : Nat → Int32) (sp : Int) (j p m : Nat) (V : VW) (p' m' : Nat) (V' : VW) : Prop := m < 4096 → ∃ N, m' < 4096 ∧ N + 1 + (if j = 0 then 1 else 0) + 2 * bits m' ≤ 2 * bits m ∧ p < p' ∧ p' ≤ n ∧ ∀ d wn X s u D cn nd wt f, QQ n c V d wn X m s p u D cn nd wt → N ≤ frees V → 0 < D → 3 * D ≤ p + 1 → 200 ≤ f + p → sp = (nd (D - 1) : Int) → V 8 (nd (D - 1)) ≤ 1 → v_cc V sp = j → cn (D - 1) = j → ∃ d' wn' s6 s1 u1 k f1 cn', fX9_readsWeight s 462 = some s6 ∧ s6.1 462 16 = -1 ∧ fX9_goes_27 462 f s6 1 1 = Kont1 k f1 s1 ∧ QQ n c V' d' wn' X m' s1 p' u1 D cn' nd wt ∧ (∀ i, i + 1 < D → cn' i = cn i) ∧ cn' (D - 1) = v_cc V' sp ∧ 2 ≤ v_cc V' sp ∧ SR V s s1 ∧ KP false V V' ∧ frees V' + N = frees V ∧ 200 ≤ k + p' ∧ 200 ≤ f1 + p' ∧ ∀ t : Nat, t < 23 → V 8 t ≤ 1 → (t : Int) ≠ sp → v_cc V' t = v_cc V t
variable {n : Nat} {c : Nat → Int32} {V : VW} {d : Nat → Nat} {wn : Nat → Int} {X : Nat → Bool}
theorem v_cc_in {V : VW} {t : Nat} : v_cc V t = cnt (fun n => decide (V 9 n = (t : Int))) 23 := by
  unfold v_cc
  rw [if_neg (by omega)]
theorem v_cc_le (V : VW) (t : Int) : v_cc V t ≤ 23 := by
  unfold v_cc
  by_cases z : t = -1
  · rw [if_pos z]
    omega
  · rw [if_neg z]
    exact cnt_le _ 23
theorem att_all (tr : Tree V d wn X) {g : Nat} (mn : v_mn V = g) (hg : g < 23) (kg : V 8 g = 3) {rt : Bool} {sp w k : Int} (k2 : 0 ≤ k ∧ k ≤ 2) (h0 : rt = true → V 5 0 = -1) (hin : rt = false → (1 ≤ w ∧ w ≤ 1000000) ∧ ∃ s0 : Nat, s0 < 23 ∧ sp = s0 ∧ V 8 s0 ≤ 1) {X' : Nat → Bool} (hx : k ≤ 1 → X' g = true) (hX : ∀ i, i ≠ g → X' i = X i) : ∃ d1 wn1, AT V (att rt V k sp w) g k ∧ Tree (att rt V k sp w) d1 wn1 X' ∧ (rt = false → att rt V k sp w 9 g = sp ∧ att rt V k sp w 10 g = (v_cc V sp : Int) ∧ att rt V k sp w 11 g = w ∧ att rt V k sp w 5 0 = V 5 0) ∧ (rt = true → att rt V k sp w 9 g = -1 ∧ att rt V k sp w 5 0 = g) ∧ (∀ i, i < 23 → att rt V k sp w 9 i ≠ g) ∧ ∀ t : Nat, t < 23 → V 8 t ≤ 1 → v_cc (att rt V k sp w) t = v_cc V t + (if rt = false ∧ (t : Int) = sp then 1 else 0) := by
  have g9 : V 9 g = -1 := tr.fr hg kg
  cases rt
  · obtain ⟨w1, s0, hs, es, hs1⟩ := hin rfl
    subst es
    obtain ⟨r8, r9, r10, r11, rj⟩ := att_in tr mn hg kg hs hs1 k w
    have r5 : att false V k s0 w 5 = V 5 := rj 5 (by decide) (by decide) (by decide) (by decide)
    have ne : s0 ≠ g := fun z => by rw [z] at hs1; omega
    refine ⟨_, _, at_in tr mn hg kg hs hs1 k w, att_tree tr mn hg kg hs hs1 k2 w1 hx hX, fun _ => ⟨by rw [r9 g hg, if_pos rfl], by rw [r10 g hg, if_pos rfl], by rw [r11 g hg, if_pos rfl], by rw [r5]⟩, fun z => (by (cases z)), fun i hi => ?_, fun t ht ht1 => ?_⟩
    · rw [r9 i hi]
      by_cases z : i = g
      · rw [if_pos z]
        omega
      · rw [if_neg z]
        exact tr.nof hg (Or.inl kg) hi
    · rw [v_cc_in, v_cc_in]
      by_cases z : t = s0
      · rw [if_pos ⟨rfl, by omega⟩]
        refine cnt_one_more (i0 := g) hg (fun i hi ne => by rw [r9 i hi, if_neg ne]) (decide_eq_false (by omega)) ?_
        rw [r9 g hg, if_pos rfl, z]
        exact decide_eq_true rfl
      · rw [if_neg (fun y => z (by omega)), Nat.add_zero]
        refine cnt_congr (fun i hi => ?_)
        rw [r9 i hi]
        by_cases y : i = g
        · rw [if_pos y, y, g9, decide_eq_false (by omega), decide_eq_false (by omega)]
        · rw [if_neg y]
  · obtain ⟨r8, r5, rj⟩ := att_rt mn hg k sp w
    have r9 : att true V k sp w 9 = V 9 := rj 9 (by decide) (by decide)
    refine ⟨_, _, at_rt mn hg k sp w, att_rtree tr mn hg kg (h0 rfl) k2 hx hX, fun z => (by (cases z)), fun _ => ⟨by rw [r9]; exact g9, by rw [r5 0 (by omega), if_pos rfl]⟩, fun i hi => by rw [r9]; exact tr.nof hg (Or.inl kg) hi, fun t ht ht1 => ?_⟩
    rw [if_neg (fun y => by cases y.1), Nat.add_zero]
    unfold v_cc
    rw [r9]
theorem KP.at {V1 : VW} {rt : Bool} {f : Nat} {k : Int} (a : AT V V1 f k) (kf : V 8 f = 3) (h5 : rt = false → V1 5 0 = V 5 0) : KP rt V V1 := by
  obtain ⟨a8, a9, a5, aj⟩ := a
  refine ⟨fun i hi u => ?_, fun j hj => aj j (by omega) (by omega) (by omega) (by omega) (by omega), fun w hw z => ?_⟩
  · have ne : i ≠ f := fun z => u (by rw [z]; exact kf)
    obtain ⟨q1, q2, q3⟩ := a9 i hi ne
    exact ⟨by rw [a8 i hi, if_neg ne], q1, q2, q3⟩
  · by_cases y : w = 0
    · rcases z with z | z
      · exact absurd y z
      · rw [y]
        exact h5 z
    · exact a5 w hw y
theorem KP.tr {V1 V2 : VW} {rt : Bool} (h : KP rt V V1) (h2 : KP false V1 V2) : KP rt V V2 := by
  obtain ⟨a, b, e⟩ := h
  obtain ⟨a', b', e'⟩ := h2
  refine ⟨fun i hi u => ?_, fun j hj => (b' j hj).trans (b j hj), fun w hw z => (e' w hw (Or.inr rfl)).trans (e w hw z)⟩
  obtain ⟨q1, q2, q3, q4⟩ := a i hi u
  obtain ⟨o1, o2, o3, o4⟩ := a' i hi (by rw [q1]; exact u)
  exact ⟨o1.trans q1, o2.trans q2, o3.trans q3, o4.trans q4⟩
theorem KP.us {V1 : VW} {rt : Bool} (h : KP rt V V1) {i : Nat} (hi : i < 23) (u : V 8 i ≠ 3) : V1 8 i ≠ 3 := by
  rw [(h.1 i hi u).1]
  exact u
theorem SR.tr {V1 : VW} {rt : Bool} {s s1 s2 : Sg} (h : SR V s s1) (k : KP rt V V1) (h2 : SR V1 s1 s2) : SR V s s2 :=
  ⟨h.1.tr h2.1, fun i hi u => (h2.2.1 i hi (k.us hi u)).trans (h.2.1 i hi u), fun k hk => (h2.2.2 k hk).trans (h.2.2 k hk)⟩
theorem SR.fk {s s1 : Sg} (h : Fk s s1) : SR V s s1 := by
  have e : s1.1 463 = s.1 463 := h.2.1 463 (by omega) (by omega) (by omega) (by omega)
  exact ⟨Fy1.fk h, fun i _ _ => by rw [e], fun k _ => by rw [e]⟩
theorem r_grp (T : Tt n c) : ∀ rt sp w p m V p' m' t, t ≠ [] → Tb n c t false p m p' m' → p' ≤ n → ltr n c p' = false → RTi n c rt sp w p m V p' m' (bgrp rt V sp w t) := by
  intro rt sp w p m V p' m' t tn ht pn lp hm
  have n120 := T.1
  obtain ⟨c1, c2⟩ := tb_cnt ht hm
  obtain ⟨c3, q0, hq0, hp0, e0⟩ := tb_hd ht tn
  have tl := ln_pos tn
  refine ⟨1, c1, ?_, c3, pn, ?_⟩
  · unfold bits
    omega
  intro d wn X s u D cn nd wt f qq nf D3 hfu hrt h0 hin
  obtain ⟨tr, tb, mk, ms, ns, bm, ⟨u4, al, ax⟩, cd, D99, ox⟩ := qq
  obtain ⟨g, hg, mn, kg, lg⟩ := v_mn_sp (show 1 ≤ cnt (fun n => decide (V 8 n = 3)) 23 from nf)
  have hD : rt = false → 0 < D := fun z => by
    rw [z] at hrt
    have := of_decide_eq_false hrt.symm
    omega
  obtain ⟨d1, wn1, a1, tr1, i1, i2, i3, i4⟩ := att_all (X' := X) tr mn hg kg (rt := rt) (sp := sp) (w := w) (k := 2) (by omega) h0 (fun z => ⟨(hin z).1, nd (D - 1), (cd (D - 1) (by have := hD z; omega)).2, (hin z).2.1, (hin z).2.2.1⟩) (fun z => absurd z (by decide)) (fun _ _ => rfl)
  obtain ⟨s', u', b1, b2, b3, b4, b5, b6, b7, b8, b9, b10, b11, b12, b13, b14, b15, b16, b17, b18, b19⟩ := m_grp1 T ms bm tr tb hg kg lg a1 hm mk u4 al ht tn lp pn
  have eb : bgrp rt V sp w t = fing g (star t) (btab g t (att rt V 2 sp w)) := by
    unfold bgrp
    rw [mn]
  rw [eb]
  obtain ⟨V', hV'⟩ : ∃ V' : VW, V' = fing g (star t) (btab g t (att rt V 2 sp w)) := ⟨_, rfl⟩
  rw [← hV'] at b10 b16 b17 b18 b19 ⊢
  obtain ⟨V1, hV1⟩ : ∃ V1 : VW, V1 = att rt V 2 sp w := ⟨_, rfl⟩
  rw [← hV1] at a1 tr1 i1 i2 i3 i4 b18
  have x8 := b18 8 (by decide) (by decide) (by decide) (by decide)
  have x9 := b18 9 (by decide) (by decide) (by decide) (by decide)
  have x10 := b18 10 (by decide) (by decide) (by decide) (by decide)
  have x11 := b18 11 (by decide) (by decide) (by decide) (by decide)
  have x5 := b18 5 (by decide) (by decide) (by decide) (by decide)
  have ms' : MS n c s' p' u' D cn := ⟨b3, b4, by rw [b13]; exact ms.2.2.1, b5, fun i hi => by rw [b12 473 (by omega) (by omega)]; exact ms.2.2.2.2 i hi⟩
  have ns' : NS s' D nd wt := fun i hi => by rw [b12 472 (by omega) (by omega), b12 474 (by omega) (by omega)]; exact ns i hi
  obtain ⟨s1, e1, e2, e3, e4, e5, e6, e7⟩ := m_join1 ms' ns' D99 hg b6 (s'.1 462 22) cd
  have rk : ∀ k, k ≠ 1 → k ≠ 3 → k ≠ 4 → mv (s1.1 463) k = mv (s'.1 463) k := fun k q1 q3 q4 => by
    by_cases z : D = 0
    · rw [e6 z]
    · rw [e7 (by omega), mu_ne q3, mu_ne q4, mu_ne q1]
  have r1 : ∀ i, i ≠ g → mv (s1.1 463) 1 i = mv (s.1 463) 1 i := fun i hi => by
    by_cases z : D = 0
    · rw [e6 z, b15 i, if_neg hi]
    · rw [e7 (by omega), mu_ne (by decide), mu_ne (by decide), mu_at, if_neg hi, b15 i, if_neg hi]
  have bm1 : BMr (mv (s1.1 463)) V' X := by
    refine BMr.oc (O := fun i => (X i || i == g) && i != g) ?_ (fun i hi => ?_)
    · by_cases z : D = 0
      · rw [e6 z]
        refine b10.rt ?_ (by rw [b15 g, if_pos rfl])
        rw [x9]
        exact (i2 (by rw [hrt]; exact decide_eq_true z)).1
      · have rf : rt = false := by rw [hrt]; exact decide_eq_false z
        obtain ⟨j1, j2, j3, j4⟩ := i1 rf
        obtain ⟨o1, o2, o3, o4, o5⟩ := hin rf
        have e22 : (s'.1 462 22).toInt = w := by rw [b14, o5, j_oI (by omega) (by omega)]
        rw [e7 (by omega), e22]
        exact b10.jn (by rw [x9, j1, o2]) (by rw [x10, j2, o4]) (by rw [x11, j3])
    · show X i = ((X i || i == g) && i != g)
      by_cases z : i = g
      · rw [z]
        cases hx : X g
        · simp
        · have := ox g hg hx
          omega
      · have y1 : (i == g) = false := by simpa using z
        have y2 : (i != g) = true := by simpa using z
        rw [y1, y2, Bool.or_false, Bool.and_true]
  have kp : KP rt V V' := by
    have k1 : KP rt V V1 := KP.at a1 kg (fun z => (i1 z).2.2.2)
    refine ⟨fun i hi q => ?_, fun j hj => ?_, fun w hw z => ?_⟩
    · rw [x8, x9, x10, x11]
      exact k1.1 i hi q
    · rw [b18 j (by omega) (by omega) (by omega) (by omega)]
      exact k1.2.1 j hj
    · rw [x5]
      exact k1.2.2 w hw z
  have fu : FU = 6000 := rfl
  obtain ⟨f', rfl⟩ : ∃ f', f = f' + 1 := ⟨f - 1, by omega⟩
  have cp : cdm n c p = nI (97 + q0) := by rw [(cd_in hp0).2, e0]
  have cpi : (cdm n c p).toInt = 97 + q0 := by
    rw [cp, j_nI (by omega)]
    omega
  have h72 : cdm n c p ≠ 72 := fun z => by
    rw [z] at cpi
    have : (72 : Int32).toInt = 72 := rfl
    omega
  have h86 : cdm n c p ≠ 86 := fun z => by
    rw [z] at cpi
    have : (86 : Int32).toInt = 86 := rfl
    omega
  have ge : fX9_goes_27 462 (f' + 1) s 1 1 = (fX9_joins s' 462 (s'.1 462 22) 1).bind fun σ9 => (fX9_ends σ9 462 1).bind fun r10 => fX9_goes_27 462 f' r10.2 1 (b2i r10.1) := by
    rw [fX9_goes_27, if_neg (show ¬ ((1 : Int32) = 0) by decide), if_pos ms.2.1, m_next ms.1 n120 (by omega), j_b, if_neg h72, j_b, if_neg h86, b1, j_b, if_pos b4]
  have sr : SR V s s1 := by
    refine ⟨b2.tr e2, fun i hi q => r1 i (fun z => q (by rw [z]; exact kg)), fun k hk => ?_⟩
    rw [rk k (by omega) (by omega) (by omega)]
    exact b11 k hk
  refine ⟨d1, wn1, s1, u', FU, f', ?_, ⟨?_, b16, b17, e3, e4, bm1, ⟨b7, fun q hq b => ?_, fun q hq b => ?_⟩, fun i hi => ?_, D99, fun i hi x => ?_⟩, sr, kp, ?_, by omega, by omega, fun t ht ht1 => ?_, fun z => ?_⟩
  · rw [ge, e1, j_b]
    rfl
  · exact tr1.cg (fun i _ => by rw [x8]) (fun i _ => by rw [x9]) (fun i _ => by rw [x10]) (fun i hi q => by rw [x11]; exact tr1.we hi q) (fun i _ => by rw [x5])
  · obtain ⟨o1, o2⟩ := b9 q hq b
    refine ⟨o1, ?_⟩
    rw [rk 6 (by decide) (by decide) (by decide), b11 6 (by omega)]
    exact (al q hq o2).2
  · rw [rk 6 (by decide) (by decide) (by decide), b11 6 (by omega)]
    rcases b19 q hq with e | e
    · exact ax q hq (by rw [← e]; exact b)
    · exact (al q hq e).2
  · refine ⟨?_, (cd i hi).2⟩
    unfold bump
    by_cases z : i + 1 = D
    · rw [if_pos z]
      have rf : rt = false := by rw [hrt]; exact decide_eq_false (by omega)
      have o4 := (hin rf).2.2.2.1
      have := v_cc_le V sp
      have : i = D - 1 := by omega
      rw [this]
      omega
    · rw [if_neg z]
      exact (cd i hi).1
  · have h1 := ox i hi x
    rw [(kp.1 i hi (by omega)).1]
    exact h1
  · have := frees_one (V := V) (V' := V') hg kg (k := 2) (by omega) (fun i hi => by rw [x8]; exact a1.1 i hi)
    omega
  · have : v_cc V' t = v_cc V1 t := by
      unfold v_cc
      rw [x9]
    rw [this]
    exact i4 t ht ht1
  · exact ⟨g, hg, by rw [x5]; exact (i2 z).2, e5⟩
end RBM
