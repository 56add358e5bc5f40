section
/-! THE RELATION: show, moveTab, activate -/
section RA9
def PB (F : Option (Int32 × Sg)) (G : Sg → Option (Bool × Sg)) : Prop := ∃ k σ1 b σ2, F = some (k, σ1) ∧ G σ1 = some (b, σ2) ∧ σ2.1 462 3 = k ∧ RR σ2 ∧ (k = 0 → σ2.2 476 0 = if b = true then 1 else 0)
theorem pb_no {σ : Sg} {F : Option (Int32 × Sg)} {G : Sg → Option (Bool × Sg)} {k : Int32} {b : Bool} (h : RR σ) (hF : F = some (k, σ)) (hk : k ≠ 0) (hG : G σ = some (b, su σ 462 3 k)) : PB F G :=
  ⟨k, σ, b, su σ 462 3 k, hF, hG, by rw [su_at, if_pos ⟨rfl, rfl⟩], h.s3, fun z => absurd z hk⟩
theorem pb_ok {σ σ1 : Sg} {F : Option (Int32 × Sg)} {G : Sg → Option (Bool × Sg)} {v : Bool} {S S' : ST} {l l' : List ST} (tx : TX σ) (m : MR σ S l) (hF : F = some (0, sul σ1 476 0 (if v = true then 1 else 0))) (f8 : ∀ c, 438 ≤ c → σ1.1 c = σ.1 c) (c1 : CR σ1 S' l') (hG : ∀ s, MR s S l → ∃ s', G s = some (v, s') ∧ G9 s s' 0 ∧ MR s' S' l') : PB F G := by
  obtain ⟨s', a, g, m'⟩ := hG (sul σ1 476 0 (if v = true then 1 else 0)) (m.c (by show σ1.1 462 2 = _; rw [f8 462 (by omega)]) (f8 463 (by omega)) (f8 464 (by omega)))
  have tx1 : TX (sul σ1 476 0 (if v = true then 1 else 0)) := tx.c (by show σ1.1 438 1 = _; rw [f8 438 (by omega)]) (f8 439 (by omega)) (by show σ1.1 462 5 = _; rw [f8 462 (by omega)]) (f8 465 (by omega))
  refine ⟨0, sul σ1 476 0 (if v = true then 1 else 0), v, s', hF, a, g.2.2.2.2, ⟨S', l', c1.c (fun c hc => g.1 c (by omega)), m', tx1.c (by rw [g.1 438 (by omega)]) (g.1 439 (by omega)) g.2.2.1 g.2.1⟩, fun _ => ?_⟩
  rw [g.2.2.2.1]
  show vp_updL ((σ1.2) 476) 0 (if v = true then 1 else 0) 0 = _
  rfl
theorem hide_same {V : VW} (h : Tabs V (fun _ => false)) {p g : Nat} (hp : p < 12) (e : V 13 p = g) (q : V 15 p = 1) : v_hide V p = V := by
  obtain ⟨hg, kg⟩ := h.g2 hp e
  obtain ⟨r15, r12, rr⟩ := hide_rows hp hg e
  have n12 : V 12 g ≠ p := fun z => by
    rcases (h.fu hg kg rfl).2 with ⟨a, b⟩ | ⟨a, ha, ea, e13, e15⟩
    · omega
    · have : a = p := by omega
      rw [this] at e15
      omega
  funext j i
  by_cases j12 : j = 12
  · rw [j12, r12, if_neg (fun w => n12 w.2)]
  · by_cases j15 : j = 15
    · rw [j15, r15]
      by_cases z : i = p
      · rw [if_pos z, z, q]
      · rw [if_neg z]
    · rw [rr j j12 j15]
theorem rev_same {V : VW} (h : Tabs V (fun _ => false)) {p g : Nat} (hp : p < 12) (e : V 13 p = g) (q : V 15 p = 0) : v_reveal V p = V := by
  obtain ⟨hg, kg⟩ := h.g2 hp e
  obtain ⟨r15, r12, rr⟩ := rev_rows hp hg e
  have n12 : V 12 g ≠ -1 := fun z => by
    rcases (h.fu hg kg rfl).2 with ⟨a, b⟩ | ⟨a, ha, ea, e13, e15⟩
    · have := b p hp e
      omega
    · omega
  funext j i
  by_cases j12 : j = 12
  · rw [j12, r12, if_neg (fun w => n12 w.2)]
  · by_cases j15 : j = 15
    · rw [j15, r15]
      by_cases z : i = p
      · rw [if_pos z, z, q]
      · rw [if_neg z]
    · rw [rr j j12 j15]
def shV (V : VW) (p : Int) (w : Int32) : VW := if w = 0 then v_hide V p else v_reveal V p
theorem c_show {σ : Sg} (h : RR σ) (p w : Int32) : PB (fL_show σ p w 476 1) (fun s => fX9_show s 462 p w) := by
  obtain ⟨S, l, c, m, tx⟩ := h
  have h1 := c.1
  have hS := c.2.2.1
  have hR : RR σ := ⟨S, l, c, m, tx⟩
  cases q : exP S p
  · refine pb_no (k := 1) (b := false) hR ?_ (by decide) ?_
    · unfold fL_show fX8_show
      rw [s_reqP (by rw [h1]; exact hS), h1, q]
      rfl
    · show fX9_show σ 462 p w = _
      unfold fX9_show fX9_show_28
      rw [m_isP m.2, j_b, q, rf1]
      rfl
  · obtain ⟨k, hk, hk12, ek⟩ := exP_n q
    cases qp : plc (S_pl S) k
    · refine pb_no (k := 2) (b := false) hR ?_ (by decide) ?_
      · unfold fL_show fX8_show
        rw [s_reqP (by rw [h1]; exact hS), h1, q, j_b, if_pos rfl, j_xl, s_reqL hk hk12, h1, qp]
        rfl
      · show fX9_show σ 462 p w = _
        unfold fX9_show fX9_show_28
        rw [m_isP m.2, j_b, q, if_pos rfl, m_isL m.2.2.1 hk hk12, qp, rf2]
        rfl
    · obtain ⟨σ1, a1, f1, c1⟩ := s_kr c
      obtain ⟨-, -, -, -, ⟨d, wn, hI⟩, hO, -⟩ := id hS
      have tb := hI.2.1
      have np : S_pl S 13 k ≠ -1 := by
        unfold plc at qp
        exact of_decide_eq_true qp
      obtain ⟨g, hg, eg, kg⟩ := (tb.gr hk12).resolve_left np
      have hpv := S_pv c1.1
      have sp := tb.sp2 p.toInt
      have hid : fX1_isHidden σ1 (1 + 5) p = some (decide (S_pl S 15 k = 1)) := by
        rw [s_isHidden, hpv, hk, v_hd_in hk12]
      -- the class's step
      have stp : ∃ σ2, (if w = 0 then fX1_hide σ1 (1 + 5) p else fX1_reveal σ1 (1 + 5) p) = some σ2 ∧ Out σ1 σ2 1 70 ∧ stv σ2 1 = pfS S (S_fo S) (shV (S_pl S) k w) := by
        unfold shV
        by_cases w0 : w = 0
        · rw [if_pos w0, if_pos w0]
          have := s_do c1.1 (s_hide (σ := σ1) (b := 1 + 5) p (by rw [hpv]; exact sp.1) (by rw [hpv]; exact sp.2))
          rw [hpv, hk] at this
          exact this
        · rw [if_neg w0, if_neg w0]
          have := s_do c1.1 (s_reveal (σ := σ1) (b := 1 + 5) p)
          rw [hpv, hk] at this
          exact this
      obtain ⟨σ2, a2, o2, v2⟩ := stp
      have hSI : SI (pfS S (S_fo S) (shV (S_pl S) k w)) := by
        unfold shV
        by_cases w0 : w = 0
        · rw [if_pos w0]
          exact hS.tb (fun j h12 _ h15 => (hide_rows hk12 hg eg).2.2 j h12 h15) (tb.hide hk12 eg)
        · rw [if_neg w0]
          exact hS.tb (fun j h12 _ h15 => (rev_rows hk12 hg eg).2.2 j h12 h15) (tb.reveal hk12 eg)
      obtain ⟨σ3, a3, o3, c3⟩ := c1.mod (fun x hx => o2.2 x (by omega)) v2 hSI
      refine pb_ok (v := !decide (S_pl S 15 k = 1)) tx m ?_ (fun x hx => by rw [o3.2 x (by omega), o2.2 x (by omega)]; exact f1 x hx) c3 (fun s ms => ?_)
      · unfold fL_show fX8_show fX8_show_33 fX8_show_63
        rw [s_reqP (by rw [h1]; exact hS), h1, q, j_b, if_pos rfl, j_xl, s_reqL hk hk12, h1, qp, j_b, if_pos rfl, j_xl, a1, j_b, hid, j_b]
        have fin : ∀ l3 : Int32, (if w = 0 then (fX1_hide σ1 (1 + 5) p).bind fun σ9 => (fX2_compute σ9 422 1).bind fun σ11 => if l3 = 0 then some ((.inl false : Bool ⊕ Nat), σ11) else if l3 = 1 then some (.inl true, σ11) else none else (fX1_reveal σ1 (1 + 5) p).bind fun σ10 => (fX2_compute σ10 422 1).bind fun σ11 => if l3 = 0 then some (.inl false, σ11) else if l3 = 1 then some (.inl true, σ11) else none) = if l3 = 0 then some (.inl false, σ3) else if l3 = 1 then some (.inl true, σ3) else none := fun l3 => by
          by_cases w0 : w = 0
          · rw [if_pos w0] at a2 ⊢
            rw [a2, j_b, a3, j_b]
          · rw [if_neg w0] at a2 ⊢
            rw [a2, j_b, a3, j_b]
        by_cases z : S_pl S 15 k = 1
        · rw [decide_eq_true z, if_pos rfl, fin]
          rfl
        · rw [decide_eq_false z, if_neg Bool.false_ne_true, fin]
          rfl
      · have ms0 := ms.s3 (k := 0)
        obtain ⟨s1, b1, g1, x1, m1⟩ := m_kr ms0
        have vm := m1.2.2.1
        have e15 : fX9_of (su s 462 3 0) 462 p 5 = some (oI (S_pl S 15 k)) := by
          rw [m_o5 hk hk12, ms0.2.2.1.hi hk12]
        -- what is to be shown of the last state
        have done : ∀ s2 : Sg, Out s1 s2 463 463 → VM (mv (s2.1 463)) (shV (S_pl S) k w) (fun _ => false) → FS (mv (s1.1 463)) (mv (s2.1 463)) → mo (mv (s2.1 463)) 20 = mo (mv (s1.1 463)) 20 → G9 s s2 0 ∧ MR s2 (pfS S (S_fo S) (shV (S_pl S) k w)) (keep l S) := fun s2 o v f e => ⟨(G9.s3.tr g1).tr (F9.ou o), m1.mod o (m1.2.pf f v (by rw [e]; exact m1.2.2.2.1))⟩
        have pre : ∀ r : Option (Bool × Sg), fX9_show_28 462 s p w 0 = r → fX9_show s 462 p w = r := fun r e => by
          unfold fX9_show
          rw [m_isP ms.2, j_b, q, if_pos rfl, m_isL ms.2.2.1 hk hk12, qp, j_b, if_pos rfl]
          exact e
        have n10 : ¬ (1 : Int32) = 0 := by decide
        rcases tb.hi hk12 with y | y
        · -- shown before
          have ny : ¬ S_pl S 15 k = 1 := by omega
          rw [decide_eq_false ny]
          by_cases w0 : w = 0
          · -- it is hidden
            obtain ⟨s2, b2, w2, u2⟩ := m_yields (σ := s1) vm tb hk hk12 eg
            obtain ⟨s3, b3, w3, u3⟩ := m_p5 (σ := s2) hk hk12 1
            have hr := hide_rows hk12 hg eg
            have e1 : (1 : Int32).toInt = 1 := rfl
            have U5 : ∀ n, mv (s3.1 463) 5 n = if n = g ∧ S_pl S 12 g = k then v_ai (up (S_pl S) 15 k 1) g (S_pl S 14 k) else mv (s1.1 463) 5 n := fun n => by
              rw [u3, u2, mu_ne (by omega)]
              by_cases z : S_pl S 12 g = k
              · rw [if_pos z, mu_at]
                by_cases y : n = g
                · rw [if_pos y, if_pos ⟨y, z⟩]
                · rw [if_neg y, if_neg (fun w => y w.1)]
              · rw [if_neg z, if_neg (fun w => z w.2)]
            have Uo : ∀ j, j ≠ 5 → j ≠ 11 → mv (s3.1 463) j = mv (s1.1 463) j := fun j j5 j11 => by
              rw [u3, u2, mu_ne j11]
              by_cases z : S_pl S 12 g = k
              · rw [if_pos z, mu_ne j5]
              · rw [if_neg z]
            have U11 : ∀ n, mv (s3.1 463) 11 n = if n = k then 1 else mv (s1.1 463) 11 n := fun n => by
              rw [u3, u2, mu_at, e1]
              by_cases z : S_pl S 12 g = k
              · rw [if_pos z, mu_ne (by omega)]
              · rw [if_neg z]
            have vs : shV (S_pl S) k w = v_hide (S_pl S) k := by unfold shV; rw [if_pos w0]
            obtain ⟨D1, D2⟩ := done s3 (w2.tr w3) (by
              rw [vs]
              refine vm.tb (fun j hj => Uo j (by omega) (by omega)) (fun j h12 _ h15 => hr.2.2 j h12 h15) (fun n hn kn => ?_) (fun n hn kn => by rw [U5, if_neg (fun y => by rw [y.1] at kn; omega)]) (fun i hi z => ?_) (fun i hi => ?_)
              · rw [U5, hr.2.1, vm.ac hn kn rfl]
              · rw [Uo 10 (by omega) (by omega), hr.2.2 14 (by omega) (by omega)]
                exact vm.sp hi z
              · rw [U11, hr.1, vm.hi hi]) (fun j hj => Uo j (by omega) (by omega)) (by
              unfold mo
              rw [Uo 20 (by omega) (by omega), Uo 21 (by omega) (by omega)])
            refine ⟨s3, pre _ ?_, D1, D2⟩
            unfold fX9_show_28 fX9_show_50
            rw [rf0, j_b]
            show (fX9_of (su s 462 3 0) 462 p 5).bind _ = _
            rw [e15, j_b, y, if_pos (show oI (0 : Int) = (0 : Int32) from rfl)]
            show (fX9_saves (su s 462 3 0) 462).bind _ = _
            rw [b1, j_b, if_neg n10, if_pos w0, b2, j_b, b3, j_b]
            rfl
          · -- nothing
            have vs : shV (S_pl S) k w = S_pl S := by unfold shV; rw [if_neg w0, rev_same tb hk12 eg y]
            obtain ⟨D1, D2⟩ := done s1 Out.rf (by rw [vs]; exact vm) (fun _ _ => rfl) rfl
            refine ⟨s1, pre _ ?_, D1, D2⟩
            unfold fX9_show_28 fX9_show_50 fX9_show_80
            rw [rf0, j_b]
            show (fX9_of (su s 462 3 0) 462 p 5).bind _ = _
            rw [e15, j_b, y, if_pos (show oI (0 : Int) = (0 : Int32) from rfl)]
            show (fX9_saves (su s 462 3 0) 462).bind _ = _
            rw [b1, j_b, if_neg n10, if_neg w0]
            rfl
        · rw [decide_eq_true y]
          by_cases w0 : w = 0
          · have vs : shV (S_pl S) k w = S_pl S := by unfold shV; rw [if_pos w0, hide_same tb hk12 eg y]
            obtain ⟨D1, D2⟩ := done s1 Out.rf (by rw [vs]; exact vm) (fun _ _ => rfl) rfl
            refine ⟨s1, pre _ ?_, D1, D2⟩
            unfold fX9_show_28 fX9_show_50 fX9_show_80
            rw [rf0, j_b]
            show (fX9_of (su s 462 3 0) 462 p 5).bind _ = _
            rw [e15, j_b, y, if_neg (show ¬ oI (1 : Int) = (0 : Int32) by decide)]
            show (fX9_saves (su s 462 3 0) 462).bind _ = _
            rw [b1, j_b, if_pos rfl, if_pos w0]
            rfl
          · -- it is shown
            obtain ⟨s2, b2, w2, u2⟩ := m_p5 (σ := s1) hk hk12 0
            have hr := rev_rows hk12 hg eg
            have e63 : ∀ j, j ≠ 11 → mv (s2.1 463) j = mv (s1.1 463) j := fun j hj => by rw [u2, mu_ne hj]
            have g9 : mv (s2.1 463) 9 k = S_pl S 13 k := by rw [e63 9 (by omega)]; exact vm.gr hk12
            have r13 : -2147483648 ≤ S_pl S 13 k ∧ S_pl S 13 k < 2147483648 := by rw [← g9]; exact mv_rg _ _ _
            have ei : (oI (S_pl S 13 k)).toInt = g := by rw [j_oI r13.1 r13.2, eg]
            have a5 : mv (s2.1 463) 5 g = S_pl S 12 g := by rw [e63 5 (by omega)]; exact vm.ac hg kg rfl
            have r12 : -2147483648 ≤ S_pl S 12 g ∧ S_pl S 12 g < 2147483648 := by rw [← a5]; exact mv_rg _ _ _
            have y12 := oi_m1 r12.1 r12.2
            obtain ⟨s3, b3, w3, u3⟩ := m_l5 (σ := s2) ei (by omega) (if S_pl S 12 g = -1 then p else oI (S_pl S 12 g))
            have U5 : ∀ n, n < 23 → S_pl S 8 n = 2 → mv (s3.1 463) 5 n = v_reveal (S_pl S) k 12 n := fun n hn kn => by
              rw [u3, mu_at, hr.2.1]
              by_cases y : n = g
              · by_cases z : S_pl S 12 g = -1
                · rw [if_pos y, if_pos z, if_pos ⟨y, z⟩, hk]
                · rw [if_pos y, if_neg z, if_neg (fun w => z w.2), j_oI r12.1 r12.2, y]
              · rw [if_neg y, if_neg (fun w => y w.1), e63 5 (by omega), vm.ac hn kn rfl]
            have Uo : ∀ j, j ≠ 5 → j ≠ 11 → mv (s3.1 463) j = mv (s1.1 463) j := fun j j5 j11 => by
              rw [u3, mu_ne j5, e63 j j11]
            have vs : shV (S_pl S) k w = v_reveal (S_pl S) k := by unfold shV; rw [if_neg w0]
            obtain ⟨D1, D2⟩ := done s3 (w2.tr w3) (by
              rw [vs]
              refine vm.tb (fun j hj => Uo j (by omega) (by omega)) (fun j h12 _ h15 => hr.2.2 j h12 h15) U5 (fun n hn kn => by rw [u3, mu_at, if_neg (fun y => by rw [y] at kn; omega), e63 5 (by omega)]) (fun i hi z => ?_) (fun i hi => ?_)
              · rw [Uo 10 (by omega) (by omega), hr.2.2 14 (by omega) (by omega)]
                exact vm.sp hi z
              · rw [u3, mu_ne (by omega), u2, mu_at, hr.1, vm.hi hi]
                rfl) (fun j hj => Uo j (by omega) (by omega)) (by
              unfold mo
              rw [Uo 20 (by omega) (by omega), Uo 21 (by omega) (by omega)])
            refine ⟨s3, pre _ ?_, D1, D2⟩
            unfold fX9_show_28 fX9_show_50 fX9_show_80 fX9_show_130
            rw [rf0, j_b]
            show (fX9_of (su s 462 3 0) 462 p 5).bind _ = _
            rw [e15, j_b, y, if_neg (show ¬ oI (1 : Int) = (0 : Int32) by decide)]
            show (fX9_saves (su s 462 3 0) 462).bind _ = _
            rw [b1, j_b, if_pos rfl, if_pos rfl, if_neg w0, b2, j_b, m_o3 hk hk12, j_b, g9, m_i5 ei (by omega), j_b, a5]
            by_cases z : S_pl S 12 g = -1
            · rw [if_pos (y12.mpr z)]
              rw [if_pos z] at b3
              rw [b3, j_b]
              rfl
            · rw [if_neg (fun u => z (y12.mp u)), j_b]
              rw [if_neg z] at b3
              rw [b3, j_b]
              rfl
end RA9
end
section
/-! THE RELATION: moveTab, activate -/
section RAA
theorem v_step_rg (o k t : Int) : -1 ≤ v_step o k t ∧ v_step o k t ≤ 1 := by
  unfold v_step
  split
  · omega
  · split <;> omega
/-- the reference's row behind the loop -/
def mtU (U : VW) (p : Nat) (o k : Int) (n : Nat) : VW := fun j i => if j = 10 ∧ i < n ∧ U 9 i = U 9 p then U 10 i + v_step o k (U 10 i) else U j i
theorem mtU_s {U : VW} {p n : Nat} {o k : Int} (h : U 9 n = U 9 p) : mtU U p o k (n + 1) = mu (mtU U p o k n) 10 n (U 10 n + v_step o k (U 10 n)) := by
  funext j i
  rw [mu_def]
  unfold mtU
  by_cases a : j = 10 ∧ i = n
  · rw [if_pos ⟨a.1, by omega, by rw [a.2]; exact h⟩, if_pos a, a.2]
  · rw [if_neg a]
    by_cases b : j = 10 ∧ i < n ∧ U 9 i = U 9 p
    · rw [if_pos b, if_pos ⟨b.1, by omega, b.2.2⟩]
    · rw [if_neg b, if_neg (fun z => b ⟨z.1, by omega, z.2.2⟩)]
theorem mtU_n {U : VW} {p n : Nat} {o k : Int} (h : U 9 n ≠ U 9 p) : mtU U p o k (n + 1) = mtU U p o k n := by
  funext j i
  unfold mtU
  by_cases b : j = 10 ∧ i < n ∧ U 9 i = U 9 p
  · rw [if_pos b, if_pos ⟨b.1, by omega, b.2.2⟩]
  · rw [if_neg b, if_neg (fun z => b ⟨z.1, by
      have : i ≠ n := fun y => h (by rw [← y]; exact z.2.2)
      omega, z.2.2⟩)]
theorem m_mt91 {σ : Sg} {p : Int32} {k : Nat} (hp : p.toInt = k) (hk : k < 12) {t o : Int32} (hr : ∀ i, i < 12 → mv (σ.1 463) 9 i = mv (σ.1 463) 9 k → 0 ≤ mv (σ.1 463) 10 i ∧ mv (σ.1 463) 10 i < 12) : ∃ σ', fX9_moveTab_91 462 FU σ p t o 0 = some (o, σ') ∧ Out σ σ' 463 463 ∧ mv (σ'.1 463) = mu (mtU (mv (σ.1 463)) k o.toInt t.toInt 12) 10 k t.toInt := by
  refine lp (F := fun f (s : Sg × Int32) => fX9_moveTab_91 462 f s.1 p t o s.2) (Q := fun r => ∃ σ', r = some (o, σ') ∧ Out σ σ' 463 463 ∧ mv (σ'.1 463) = mu (mtU (mv (σ.1 463)) k o.toInt t.toInt 12) 10 k t.toInt) (fun i s => s.2 = nI i ∧ Out σ s.1 463 463 ∧ mv (s.1.1 463) = mtU (mv (σ.1 463)) k o.toInt t.toInt i) 12 ?_ ?_ 12 0 FU (σ, 0) rfl (by decide) ⟨rfl, Out.rf, by
    funext j i
    unfold mtU
    rw [if_neg (by omega)]⟩
  · rintro f i ⟨s, l⟩ hi ⟨rfl, hO, hU⟩
    simp only at hO hU
    have ei : (nI i).toInt = i := j_nI (by omega)
    have nle : ¬ (12 : Int32) ≤ nI i := n_ge 12 (m := 12) rfl hi (by decide)
    have U9 : ∀ n, mv (s.1 463) 9 n = mv (σ.1 463) 9 n := fun n => by
      rw [hU]
      unfold mtU
      rw [if_neg (by omega)]
    have U10 : mv (s.1 463) 10 i = mv (σ.1 463) 10 i := by
      rw [hU]
      unfold mtU
      rw [if_neg (by omega)]
    show ∃ s' : Sg × Int32, _ ∧ fX9_moveTab_91 462 (f + 1) s p t o (nI i) = _
    rw [fX9_moveTab_91, if_neg nle, m_o3 ei hi, j_b, m_o3 hp hk, j_b, U9, U9]
    by_cases q : mv (σ.1 463) 9 i = mv (σ.1 463) 9 k
    · obtain ⟨r0, r1⟩ := hr i hi q
      rw [if_pos (by rw [q]), m_o4 ei hi, j_b, U10]
      have tv : (oI (mv (σ.1 463) 10 i)).toInt = mv (σ.1 463) 10 i := t_mv
      have one : (1 : Int32).toInt = 1 := rfl
      -- one row is written
      have wr1 : ∀ v : Int32, v.toInt = mv (σ.1 463) 10 i + v_step o.toInt t.toInt (mv (σ.1 463) 10 i) → ∃ s' : Sg × Int32, (s'.2 = nI (i + 1) ∧ Out σ s'.1 463 463 ∧ mv (s'.1.1 463) = mtU (mv (σ.1 463)) k o.toInt t.toInt (i + 1)) ∧ fX9_moveTab_169 462 (fX9_moveTab_91 462 f) s p t o (nI i) (nI i) 4 v = fX9_moveTab_91 462 f s'.1 p t o s'.2 := fun v hv => by
        obtain ⟨s2, b2, w2, u2⟩ := m_p4 (σ := s) ei hi v
        unfold fX9_moveTab_169 fX9_moveTab_172
        rw [b2, j_b, j_s]
        refine ⟨(s2, nI (i + 1)), ⟨rfl, hO.tr w2, ?_⟩, rfl⟩
        show mv (s2.1 463) = _
        rw [u2, hU, hv, mtU_s q]
      have c147 : (o.toInt ≤ mv (σ.1 463) 10 i → v_step o.toInt t.toInt (mv (σ.1 463) 10 i) = 0) → ∃ s' : Sg × Int32, (s'.2 = nI (i + 1) ∧ Out σ s'.1 463 463 ∧ mv (s'.1.1 463) = mtU (mv (σ.1 463)) k o.toInt t.toInt (i + 1)) ∧ fX9_moveTab_147 462 (fX9_moveTab_91 462 f) s p t o (nI i) (oI (mv (σ.1 463) 10 i)) (nI i) 4 = fX9_moveTab_91 462 f s'.1 p t o s'.2 := fun h0 => by
        unfold fX9_moveTab_147 fX9_moveTab_167
        by_cases a : o ≤ oI (mv (σ.1 463) 10 i)
        · rw [if_pos a]
          rw [j_le, tv] at a
          exact wr1 _ (by rw [tv, h0 a]; omega)
        · rw [if_neg a]
          rw [j_le, tv] at a
          by_cases b : oI (mv (σ.1 463) 10 i) < t
          · rw [if_pos b]
            rw [j_lt, tv] at b
            refine wr1 _ ?_
            have : v_step o.toInt t.toInt (mv (σ.1 463) 10 i) = 0 := by
              unfold v_step
              rw [if_neg (by omega), if_neg (by omega)]
            rw [tv, this]
            omega
          · rw [if_neg b]
            rw [j_lt, tv] at b
            refine wr1 _ ?_
            have : v_step o.toInt t.toInt (mv (σ.1 463) 10 i) = 1 := by
              unfold v_step
              rw [if_neg (by omega), if_pos (by omega)]
            rw [this, j_add (by rw [tv, one]; omega) (by rw [tv, one]; omega), tv, one]
      by_cases a : oI (mv (σ.1 463) 10 i) ≤ o
      · rw [if_pos a]
        rw [j_le, tv] at a
        refine c147 (fun z => ?_)
        unfold v_step
        rw [if_neg (by omega), if_neg (by omega)]
      · rw [if_neg a]
        rw [j_le, tv] at a
        by_cases b : t < oI (mv (σ.1 463) 10 i)
        · rw [if_pos b]
          rw [j_lt, tv] at b
          refine c147 (fun z => ?_)
          unfold v_step
          rw [if_neg (by omega), if_neg (by omega)]
        · rw [if_neg b]
          rw [j_lt, tv] at b
          refine wr1 _ ?_
          have : v_step o.toInt t.toInt (mv (σ.1 463) 10 i) = -1 := by
            unfold v_step
            rw [if_pos (by omega)]
          rw [this, j_sub (by rw [tv, one]; omega) (by rw [tv, one]; omega), tv, one]
          omega
    · have ne : ¬ oI (mv (σ.1 463) 9 i) = oI (mv (σ.1 463) 9 k) := fun z => q (by
        rw [j_eq, t_mv, t_mv] at z
        exact z)
      rw [if_neg ne]
      unfold fX9_moveTab_172
      rw [j_s]
      exact ⟨(s, nI (i + 1)), ⟨rfl, hO, by rw [mtU_n q]; exact hU⟩, rfl⟩
  · rintro f ⟨s, l⟩ ⟨rfl, hO, hU⟩
    simp only at hO hU
    show ∃ σ', fX9_moveTab_91 462 (f + 1) s p t o (nI 12) = _ ∧ _
    obtain ⟨s2, b2, w2, u2⟩ := m_p4 (σ := s) hp hk t
    rw [fX9_moveTab_91, if_pos (n_le 12 (m := 12) rfl (by decide)), b2, j_b]
    exact ⟨s2, rfl, hO.tr w2, by rw [u2, hU]⟩
theorem move_rows {V : VW} {X : Nat → Bool} (h : Tabs V X) {p g : Nat} (hp : p < 12) (e : V 13 p = g) (k : Int) : (∀ i, i < 12 → v_move V p k 14 i = if i = p then k else if V 13 i = g then V 14 i + v_step (V 14 p) k (V 14 i) else V 14 i) := by
  intro i hi
  unfold v_move
  rw [up14 hp, ga_in hp, ga_in hp, e]
  by_cases z : i = p
  · rw [if_pos z, if_pos z]
  · rw [if_neg z, if_neg z]
    show (if 14 = 14 ∧ i < 12 ∧ V 13 i = g then _ else _) = _
    by_cases q : V 13 i = g
    · have a := h.sp hi
      have b := v_step_rg (V 14 p) k (V 14 i)
      rw [if_pos ⟨rfl, hi, q⟩, if_pos q, wr_id (by omega) (by omega)]
    · rw [if_neg (fun w => q w.2.2), if_neg q]
theorem Tabs.mov {V : VW} (h : Tabs V (fun _ => false)) {p g : Nat} (hp : p < 12) (e : V 13 p = g) {k : Int} (hk : 0 ≤ k ∧ k < v_tc V g) : Tabs (v_move V p k) (fun _ => false) := by
  have rr := fun j (hj : j ≠ 14) => v_move_ne (V := V) (p := p) (k := k) hj
  have r14 := move_rows h hp e k
  refine ⟨fun q hq => ?_, fun q hq z => ?_, fun q hq => ?_, fun s hs ks => ?_⟩
  · rw [rr 13 (by omega), rr 8 (by omega)]
    exact h.gr hq
  · rw [rr 13 (by omega)] at z
    rw [rr 15 (by omega), r14 q hq, if_neg (fun w => by rw [w] at z; omega), if_neg (by omega)]
    exact h.no hq z
  · rw [rr 15 (by omega)]
    exact h.hi hq
  · rw [rr 8 (by omega)] at ks
    obtain ⟨f1, f2⟩ := h.fu hs ks rfl
    have m := h.nu hs ks
    rw [rr 13 (by omega)]
    refine ⟨?_, fun _ => ⟨f1, f2.cg (by rw [rr 12 (by omega)]) (fun q _ => by rw [rr 13 (by omega)]) (fun q _ _ => by rw [rr 15 (by omega)])⟩⟩
    by_cases z : s = g
    · subst z
      refine m.mov (i0 := p) (k0 := k) hp (by simp [e]) ?_ ?_ (fun i hi ne hm => ?_)
      · unfold v_tc at hk
        exact hk
      · rw [r14 p hp, if_pos rfl]
      · simp only [decide_eq_true_eq] at hm
        rw [r14 i hi, if_neg ne, if_pos hm]
    · refine m.cg (fun i hi => rfl) (fun i hi hm => ?_)
      simp only [decide_eq_true_eq] at hm
      have : i ≠ p := fun w => by
        rw [w, e] at hm
        omega
      rw [r14 i hi, if_neg this, if_neg (by omega)]
theorem c_moveTab {σ : Sg} (h : RR σ) (p t : Int32) : PI (fL_moveTab σ p t 476 1) (fun s => fX9_moveTab s 462 p t) := by
  obtain ⟨S, l, c, m, tx⟩ := h
  have h1 := c.1
  have hS := c.2.2.1
  have hR : RR σ := ⟨S, l, c, m, tx⟩
  cases q : exP S p
  · refine pi_no (k := 1) (b := 0) hR ?_ (by decide) ?_
    · unfold fL_moveTab fX8_moveTab
      rw [s_reqP (by rw [h1]; exact hS), h1, q]
      rfl
    · show fX9_moveTab σ 462 p t = _
      unfold fX9_moveTab fX9_moveTab_22 fX9_moveTab_23 fX9_moveTab_68
      rw [m_isP m.2, j_b, q, rf1]
      rfl
  · obtain ⟨k, hk, hk12, ek⟩ := exP_n q
    cases qp : plc (S_pl S) k
    · refine pi_no (k := 2) (b := 0) hR ?_ (by decide) ?_
      · unfold fL_moveTab fX8_moveTab
        rw [s_reqP (by rw [h1]; exact hS), h1, q, j_b, if_pos rfl, j_xl, s_reqL hk hk12, h1, qp]
        rfl
      · show fX9_moveTab σ 462 p t = _
        unfold fX9_moveTab fX9_moveTab_22 fX9_moveTab_23 fX9_moveTab_68
        rw [m_isP m.2, j_b, q, if_pos rfl, m_isL m.2.2.1 hk hk12, qp, rf2]
        rfl
    · obtain ⟨-, -, -, -, ⟨d, wn, hI⟩, hO, -⟩ := id hS
      have tb := hI.2.1
      have np : S_pl S 13 k ≠ -1 := by
        unfold plc at qp
        exact of_decide_eq_true qp
      obtain ⟨g, hg, eg, kg⟩ := (tb.gr hk12).resolve_left np
      have r13 : -2147483648 ≤ S_pl S 13 k ∧ S_pl S 13 k < 2147483648 := by omega
      have t13 : (oI (S_pl S 13 k)).toInt = S_pl S 13 k := j_oI r13.1 r13.2
      have tc12 := v_tc_rg (S_pl S) g
      have em : (oI (v_tc (S_pl S) g) - 1).toInt = (v_tc (S_pl S) g : Int) - 1 := by
        rw [j_sub (by rw [j_oI (by omega) (by omega), jz1]; omega) (by rw [j_oI (by omega) (by omega), jz1]; omega), j_oI (by omega) (by omega), jz1]
      have hpv : pv σ (1 + 5) = S_pl S := S_pv h1
      have pre8 : fX8_moveTab σ p t = (fX8_requireRange σ t 0 (oI (v_tc (S_pl S) g) - 1)).bind fun r9 => xcat r9 (fun e11 => some (.inr e11, σ)) fun w10 => (fX8_keepRecord σ).bind fun σ12 => (fX1_spotOf σ12 (1 + 5) p).bind fun r13 => (fX1_moveToSpot σ12 (1 + 5) p t).bind fun σ14 => some (.inl r13, σ14) := by
        unfold fX8_moveTab
        rw [s_reqP (by rw [h1]; exact hS), h1, q, j_b, if_pos rfl, j_xl, s_reqL hk hk12, h1, qp, j_b, if_pos rfl, j_xl, s_groupOf, j_b, s_tabCount, j_b, hpv, hk, ga_in hk12, t13, eg]
      have pre9 : ∀ s, MR s S l → fX9_moveTab s 462 p t = if decide (0 ≤ t.toInt ∧ t.toInt ≤ (v_tc (S_pl S) g : Int) - 1) = true then fX9_moveTab_68 462 s p t 0 else fX9_moveTab_68 462 s p t 3 := fun s ms => by
        unfold fX9_moveTab fX9_moveTab_23
        rw [m_isP ms.2, j_b, q, if_pos rfl, m_isL ms.2.2.1 hk hk12, qp, j_b, if_pos rfl, if_neg (show ¬ b2i true = 0 by decide), if_neg (show ¬ (1 : Int32) = 0 by decide), m_o3 hk hk12, j_b, m_tabMany, j_b, ms.2.2.1.gr hk12, t13, eg, ms.2.2.1.tc, m_within, j_b, jz0, em]
      by_cases ht : 0 ≤ t.toInt ∧ t.toInt ≤ (v_tc (S_pl S) g : Int) - 1
      · obtain ⟨σ1, a1, f1, c1⟩ := s_kr c
        have hpv1 := S_pv c1.1
        obtain ⟨σ2, a2, o2, v2⟩ := s_do c1.1 (s_moveToSpot (σ := σ1) (b := 1 + 5) p t)
        rw [hpv1, hk] at v2
        have rr := fun j (hj : j ≠ 14) => v_move_ne (V := S_pl S) (p := (k : Int)) (k := t.toInt) hj
        have hSI : SI (pfS S (S_fo S) (v_move (S_pl S) k t.toInt)) := hS.tb (fun j _ h14 _ => rr j h14) (tb.mov hk12 eg (by omega))
        have c2 := c1.mod0 (fun x hx => o2.2 x (by omega)) v2 hSI (fun pl => pl.vc (fun j _ _ _ h14 => rr j h14))
        refine pi_ok (v := oI (S_pl S 14 k)) tx m ?_ (fun x hx => by rw [o2.2 x (by omega)]; exact f1 x hx) c2 (fun s ms => ?_)
        · unfold fL_moveTab
          rw [pre8, s_reqR, j_b, jz0, em, decide_eq_true ht, if_pos rfl, j_xl, a1, j_b, s_spotOf, j_b, hpv1, hk, ga_in hk12, a2, j_b, j_b, j_xl, if_pos (by decide), j_nm]
          rfl
        · have ms0 := ms.s3 (k := 0)
          obtain ⟨s1, b1, g1, x1, m1⟩ := m_kr ms0
          have vm := m1.2.2.1
          have sp14 := vm.sp hk12 np
          have r14 : -2147483648 ≤ S_pl S 14 k ∧ S_pl S 14 k < 2147483648 := by rw [← sp14]; exact mv_rg _ _ _
          have t14 : (oI (S_pl S 14 k)).toInt = S_pl S 14 k := j_oI r14.1 r14.2
          obtain ⟨s2, b2, w2, u2⟩ := m_mt91 (σ := s1) hk hk12 (t := t) (o := oI (S_pl S 14 k)) (fun i hi z => by
            rw [vm.gr hi, vm.gr hk12, eg] at z
            rw [vm.sp hi (by omega)]
            have mm := (tb.nu hg kg).1 i hi (by simp [z])
            have := v_tc_rg (S_pl S) g
            unfold v_tc at this
            omega)
          rw [t14] at u2
          have Uo : ∀ j, j ≠ 10 → mv (s2.1 463) j = mv (s1.1 463) j := fun j hj => by
            rw [u2, mu_ne hj]
            funext i
            unfold mtU
            rw [if_neg (fun z => hj z.1)]
          refine ⟨s2, ?_, (G9.s3.tr g1).tr (F9.ou w2), m1.mod w2 (m1.2.pf (fun j hj => Uo j (by omega)) ?_ ?_)⟩
          · show fX9_moveTab s 462 p t = _
            rw [pre9 s ms, decide_eq_true ht, if_pos rfl]
            unfold fX9_moveTab_68
            rw [rf0, j_b]
            show (fX9_of (su s 462 3 0) 462 p 4).bind _ = _
            rw [m_o4 hk hk12, j_b, b1, j_b, ms0.2.2.1.sp hk12 np, b2]
          · refine vm.tb (fun j hj => Uo j (by omega)) (fun j _ h14 _ => rr j h14) (fun n hn kn => ?_) (fun n hn kn => by rw [Uo 5 (by omega)]) (fun i hi z => ?_) (fun i hi => ?_)
            · rw [Uo 5 (by omega), rr 12 (by omega)]
              exact vm.ac hn kn rfl
            · rw [u2, mu_at, move_rows tb hk12 eg t.toInt i hi]
              by_cases y : i = k
              · rw [if_pos y, if_pos y]
              · rw [if_neg y, if_neg y]
                unfold mtU
                rw [vm.gr hi, vm.gr hk12, eg, vm.sp hi z]
                by_cases w : S_pl S 13 i = g
                · rw [if_pos ⟨rfl, hi, w⟩, if_pos w]
                · rw [if_neg (fun u => w u.2.2), if_neg w]
            · rw [Uo 11 (by omega), rr 15 (by omega)]
              exact vm.hi hi
          · have : mo (mv (s2.1 463)) 20 = mo (mv (s1.1 463)) 20 := by
              unfold mo
              rw [Uo 20 (by omega), Uo 21 (by omega)]
            rw [this]
            exact m1.2.2.2.1
      · refine pi_no (k := 3) (b := 0) hR ?_ (by decide) ?_
        · unfold fL_moveTab
          rw [pre8, s_reqR, j_b, jz0, em, decide_eq_false ht]
          rfl
        · show fX9_moveTab σ 462 p t = _
          rw [pre9 σ m, decide_eq_false ht]
          unfold fX9_moveTab_68
          rw [rf3]
          rfl
end RAA
end
section
/-! THE RELATION: activate -/
section RAB
theorem act_tabs {V : VW} (h : Tabs V (fun _ => false)) {p g : Nat} (hp : p < 12) (e : V 13 p = g) (q : V 15 p = 0) : Tabs (up V 12 g p) (fun _ => false) := by
  obtain ⟨hg, kg⟩ := h.g2 hp e
  have rr : ∀ j, j ≠ 12 → up V 12 g p j = V j := fun j hj => up_ne hj
  refine ⟨fun q hq => ?_, fun q hq z => ?_, fun q hq => ?_, fun s hs ks => ?_⟩
  · rw [rr 13 (by omega), rr 8 (by omega)]
    exact h.gr hq
  · rw [rr 13 (by omega)] at z
    rw [rr 14 (by omega), rr 15 (by omega)]
    exact h.no hq z
  · rw [rr 15 (by omega)]
    exact h.hi hq
  · rw [rr 8 (by omega)] at ks
    obtain ⟨f1, f2⟩ := h.fu hs ks rfl
    rw [rr 13 (by omega), rr 14 (by omega)]
    refine ⟨h.nu hs ks, fun _ => ⟨f1, ?_⟩⟩
    by_cases z : s = g
    · subst z
      exact Or.inr ⟨p, hp, by rw [up12 hg, if_pos rfl], by rw [rr 13 (by omega)]; exact e, by rw [rr 15 (by omega)]; exact q⟩
    · exact f2.cg (by rw [up12 hg, if_neg z]) (fun q _ => by rw [rr 13 (by omega)]) (fun q _ _ => by rw [rr 15 (by omega)])
/-- the first one in the order of focus -/
theorem s_pfo {σ : Sg} {S : ST} (hs : stv σ 1 = S) (ok : OkO (S_fo S)) (p : Int32) : ∃ σ', fX0_putFirst σ (1 + 3) p = some σ' ∧ Out σ σ' 1 70 ∧ stv σ' 1 = pfS S (o_pf (S_fo S) p.toInt) (S_pl S) := by
  subst hs
  obtain ⟨σ', a, b, c⟩ := s_putFirst (σ := σ) (c := 1 + 3) ok p
  refine ⟨σ', a, b.mo (by omega) (by omega), ?_⟩
  rw [stv_fo (b := 1) b, c]
  rfl
theorem SI.fo {S : ST} (h : SI S) {k : Nat} (hk : k < 12) (qp : plc (S_pl S) k = true) : SI (pfS S (o_pf (S_fo S) k) (S_pl S)) := by
  obtain ⟨h1, h2, h3, h4, ⟨d, wn, i⟩, h6, h7⟩ := h
  exact SI.pf (S := S) ⟨h1, h2, h3, h4, ⟨d, wn, i⟩, h6, h7⟩ i h4 (h6.pf (by decide) hk qp (fun _ _ _ => rfl))
def acV (V : VW) (g k : Nat) : VW := if v_wo V g = 0 then up V 12 g k else v_od (up V 12 g k) (o_pl (odp V) (v_wo V g))
theorem c_activate {σ : Sg} (h : RR σ) (p : Int32) : PI (fL_activate σ p 476 1) (fun s => fX9_activate s 462 p) := by
  obtain ⟨S, l, c, m, tx⟩ := h
  have h1 := c.1
  have hS := c.2.2.1
  have hR : RR σ := ⟨S, l, c, m, tx⟩
  cases q : exP S p
  · refine pi_no (k := 1) (b := 0) hR ?_ (by decide) ?_
    · unfold fL_activate fX8_activate
      rw [s_reqP (by rw [h1]; exact hS), h1, q]
      rfl
    · show fX9_activate σ 462 p = _
      unfold fX9_activate fX9_activate_28
      rw [m_isP m.2, j_b, q, rf1]
      rfl
  · obtain ⟨k, hk, hk12, ek⟩ := exP_n q
    have isS : ∀ s, MR s S l → fX9_isShown s 462 p = some (plc (S_pl S) k && decide (S_pl S 15 k = 0)) := fun s ms => by
      rw [m_isShown hk hk12, ms.2.2.1.gr hk12, ms.2.2.1.hi hk12]
      rfl
    cases qp : plc (S_pl S) k
    · refine pi_no (k := 2) (b := 0) hR ?_ (by decide) ?_
      · unfold fL_activate fX8_activate
        rw [s_reqP (by rw [h1]; exact hS), h1, q, j_b, if_pos rfl, j_xl, s_reqL hk hk12, h1, qp]
        rfl
      · show fX9_activate σ 462 p = _
        unfold fX9_activate fX9_activate_28
        rw [m_isP m.2, j_b, q, if_pos rfl, isS σ m, qp, rf2]
        rfl
    · obtain ⟨-, -, -, -, ⟨d, wn, hI⟩, hO, -⟩ := id hS
      have tb := hI.2.1
      have t := hI.1
      have np : S_pl S 13 k ≠ -1 := by
        unfold plc at qp
        exact of_decide_eq_true qp
      obtain ⟨g, hg, eg, kg⟩ := (tb.gr hk12).resolve_left np
      have r13 : -2147483648 ≤ S_pl S 13 k ∧ S_pl S 13 k < 2147483648 := by omega
      have t13 : (oI (S_pl S 13 k)).toInt = S_pl S 13 k := j_oI r13.1 r13.2
      have hpv : pv σ (1 + 5) = S_pl S := S_pv h1
      have hid : fX1_isHidden σ (1 + 5) p = some (decide (S_pl S 15 k = 1)) := by
        rw [s_isHidden, hpv, hk, v_hd_in hk12]
      rcases tb.hi hk12 with y | y
      · have ny : ¬ S_pl S 15 k = 1 := by omega
        obtain ⟨w, hw5, ew, e5⟩ := t.wr5 hg (by omega)
        have vw : v_wo (S_pl S) g = w := by rw [t.wo hg (by omega), ew]
        obtain ⟨σ1, a1, f1, c1⟩ := s_kr c
        have hpv1 := S_pv c1.1
        obtain ⟨σ2, a2, o2, v2⟩ := s_do c1.1 (s_setActive (σ := σ1) (b := 1 + 5) (oI (S_pl S 13 k)) p)
        rw [hpv1, hk, t13, eg] at v2
        have rr : ∀ j, j ≠ 12 → up (S_pl S) 12 g k j = S_pl S j := fun j hj => up_ne hj
        have SI2 : SI (pfS S (S_fo S) (up (S_pl S) 12 g k)) := hS.tb (fun j h12 _ _ => rr j h12) (act_tabs tb hk12 eg y)
        obtain ⟨σ3, a3, o3, v3⟩ := s_pfo v2 (hO.ok (by decide)) p
        rw [hk] at v3
        have SI3 := SI2.fo hk12 (by show plc (up (S_pl S) 12 g k) k = true; unfold plc at qp ⊢; rw [rr 13 (by omega)]; exact qp)
        have o : Out σ1 σ3 1 70 := o2.tr o3
        have w3 : fX1_windowOf σ3 (1 + 5) (oI (S_pl S 13 k)) = some (oI w) := by
          rw [s_windowOf, t13, eg, S_pv v3]
          show some (oI (v_wo (up (S_pl S) 12 g k) g)) = _
          have : v_wo (up (S_pl S) 12 g k) g = v_wo (S_pl S) g := by
            obtain ⟨-, -, -, -, ⟨d', wn', hI'⟩, -, -⟩ := SI3
            have t' : Tree (up (S_pl S) 12 g k) d wn (fun _ => false) := t.cg (fun n _ => by rw [rr 8 (by omega)]) (fun n _ => by rw [rr 9 (by omega)]) (fun n _ => by rw [rr 10 (by omega)]) (fun n hn q => by rw [rr 11 (by omega)]; exact t.we hn q) (fun w _ => by rw [rr 5 (by omega)])
            rw [t'.wo hg (by rw [rr 8 (by omega)]; omega), t.wo hg (by omega)]
          rw [this, vw]
        have od1 : odp (up (S_pl S) 12 g k) = odp (S_pl S) := odp_up (by omega) (by omega)
        have r12 : ga (S_pl S 12) 23 g = S_pl S 12 g := ga_in hg
        -- the reference, up to the windows
        have ref : ∀ s, MR s S l → ∃ s1 s3, fX9_activate s 462 p = ((fX9_windowOf s3 462 (oI (S_pl S 13 k))).bind fun r9 => if r9 ≤ 0 then some (oI (S_pl S 12 g), s3) else (fX9_windowOf s3 462 (oI (S_pl S 13 k))).bind fun r10 => (fX9_comesLast s3 462 246 r10).bind fun σ11 => some (oI (S_pl S 12 g), σ11)) ∧ G9 s s3 0 ∧ MR s1 S (keep l S) ∧ Out s1 s3 463 463 ∧ SM (mv (s3.1 463)) (pfS S (o_pf (S_fo S) k) (up (S_pl S) 12 g k)) ∧ fX9_windowOf s3 462 (oI (S_pl S 13 k)) = some (oI w) := fun s ms => by
          have ms0 := ms.s3 (k := 0)
          obtain ⟨s1, b1, g1, x1, m1⟩ := m_kr ms0
          have vm := m1.2.2.1
          obtain ⟨s2, b2, w2, u2⟩ := m_l5 (σ := s1) (a := oI (S_pl S 13 k)) (n := g) (by rw [t13, eg]) (by omega) p
          have Uo : ∀ j, j ≠ 5 → mv (s2.1 463) j = mv (s1.1 463) j := fun j hj => by rw [u2, mu_ne hj]
          have mo2 : mo (mv (s2.1 463)) 20 = mo (mv (s1.1 463)) 20 := by
            unfold mo
            rw [Uo 20 (by omega), Uo 21 (by omega)]
          have vm2 : VM (mv (s2.1 463)) (up (S_pl S) 12 g k) (fun _ => false) := vm.tb (fun j hj => Uo j (by omega)) (fun j h12 _ _ => rr j h12) (fun n hn kn => by
            rw [u2, mu_at, up12 hg, hk]
            by_cases z : n = g
            · rw [if_pos z, if_pos z]
            · rw [if_neg z, if_neg z]
              exact vm.ac hn kn rfl) (fun n hn kn => by rw [u2, mu_at, if_neg (fun y => by rw [y] at kn; omega)]) (fun i hi z => by
            rw [Uo 10 (by omega), rr 14 (by omega)]
            exact vm.sp hi z) (fun i hi => by
            rw [Uo 11 (by omega), rr 15 (by omega)]
            exact vm.hi hi)
          have oe := m1.2.2.2.1
          have ok := hO.ok (by decide)
          obtain ⟨s3, b3, w3', u3, r3⟩ := m_comesFirst (σ := s2) (j := 20) (c := 251) (cap := 12) (Or.inr ⟨rfl, rfl, rfl⟩) (by rw [mo2, oe.1]; exact ok) p (by rw [mo2, (oe.lv p.toInt).1, hk]; exact hO.lt hk12)
          rw [mo2, hk] at u3
          have oe3 := u3.tr (oe.pf k)
          have vm3 : VM (mv (s3.1 463)) (up (S_pl S) 12 g k) (fun _ => false) := vm2.rows (fun j hj => r3 j (by omega) (by omega))
          have t' : Tree (up (S_pl S) 12 g k) d wn (fun _ => false) := t.cg (fun n _ => by rw [rr 8 (by omega)]) (fun n _ => by rw [rr 9 (by omega)]) (fun n _ => by rw [rr 10 (by omega)]) (fun n hn q => by rw [rr 11 (by omega)]; exact t.we hn q) (fun w _ => by rw [rr 5 (by omega)])
          refine ⟨s1, s3, ?_, (G9.s3.tr g1).tr (F9.ou (w2.tr w3')), m1, w2.tr w3', m1.2.pf (fun j hj => by rw [r3 j (by omega) (by omega)]; exact Uo j (by omega)) vm3 oe3, ?_⟩
          · show fX9_activate s 462 p = _
            unfold fX9_activate fX9_activate_28
            rw [m_isP ms.2, j_b, q, if_pos rfl, isS s ms, qp, y, j_b, if_pos (by decide), rf0, j_b]
            show (fX9_of (su s 462 3 0) 462 p 3).bind _ = _
            rw [m_o3 hk hk12, j_b, ms0.2.2.1.gr hk12, m_i5 (n := g) (by rw [t13, eg]) (by omega), j_b, ms0.2.2.1.ac hg kg rfl, b1, j_b, b2, j_b, show (251 : Int32) = nI 251 from rfl, b3, j_b]
          · rw [m_windowOf vm3 t' (n := g) (by rw [t13, eg]) hg (by rw [rr 8 (by omega)]; omega), ew]
        by_cases w0 : w = 0
        · have SIf : SI (pfS S (o_pf (S_fo S) k) (acV (S_pl S) g k)) := by
            unfold acV
            rw [vw, if_pos (by omega)]
            exact SI3
          have vf : stv σ3 1 = pfS S (o_pf (S_fo S) k) (acV (S_pl S) g k) := by
            unfold acV
            rw [vw, if_pos (show (w : Int) = 0 by omega)]
            exact v3
          have c3 := c1.mod0 (fun x hx => o.2 x (by omega)) vf SIf (fun pl => pl.vc (fun j _ _ h12 _ => by
            unfold acV
            rw [vw, if_pos (by omega)]
            exact rr j h12))
          refine pi_ok (v := oI (S_pl S 12 g)) tx m ?_ (fun x hx => by rw [o.2 x (by omega)]; exact f1 x hx) c3 (fun s ms => ?_)
          · unfold fL_activate fX8_activate
            rw [s_reqP (by rw [h1]; exact hS), h1, q, j_b, if_pos rfl, j_xl, s_reqL hk hk12, h1, qp, j_b, if_pos rfl, j_xl, hid, j_b, decide_eq_false ny, if_neg Bool.false_ne_true, a1, j_b, s_groupOf, j_b, hpv1, hk, ga_in hk12, s_activeOf, j_b, hpv1, t13, eg, r12]
            rw [eg] at a2 w3
            rw [a2, j_b, a3, j_b, w3, j_b, if_pos (show oI (w : Int) = 0 by rw [w0]; rfl), j_b, j_xl, if_pos (by decide), j_nm]
            rfl
          · obtain ⟨s1, s3, b, gg, m1, oo, sm, ww⟩ := ref s ms
            refine ⟨s3, ?_, gg, m1.mod oo ?_⟩
            · show fX9_activate s 462 p = _
              rw [b, ww, j_b, if_pos (by rw [w0]; decide)]
            · unfold acV
              rw [vw, if_pos (show (w : Int) = 0 by omega)]
              exact sm
        · have fw : flw (S_pl S) w = true := flw_k (Or.inr e5) w0
          have F := fl4 hI.2.2.1
          obtain ⟨σ4, a4, o4, v4⟩ := s_do v3 (s_flLast (σ := σ3) (b := 1 + 5) (oI w) (by
            rw [S_pv v3]
            show OkO (odp (up (S_pl S) 12 g k))
            rw [od1]
            exact hI.2.2.1.ok (by decide)))
          rw [S_pv v3, j_oI (by omega) (by omega)] at v4
          have evV : v_od (S_pl (pfS S (o_pf (S_fo S) k) (up (S_pl S) 12 g k))) (o_pl (odp (S_pl (pfS S (o_pf (S_fo S) k) (up (S_pl S) 12 g k)))) w) = acV (S_pl S) g k := by
            show v_od (up (S_pl S) 12 g k) (o_pl (odp (up (S_pl S) 12 g k)) w) = _
            unfold acV
            rw [vw, if_neg (show ¬ (w : Int) = 0 by omega), od1]
          have SI4 : SI (pfS S (o_pf (S_fo S) k) (v_od (S_pl (pfS S (o_pf (S_fo S) k) (up (S_pl S) 12 g k))) (o_pl (odp (S_pl (pfS S (o_pf (S_fo S) k) (up (S_pl S) 12 g k)))) w))) := SI3.fl (k := w) hw5 (Or.inr (by show up (S_pl S) 12 g k 5 w ≠ -1; rw [rr 5 (by omega)]; exact e5)) w0
          rw [evV] at SI4
          have vf : stv σ4 1 = pfS S (o_pf (S_fo S) k) (acV (S_pl S) g k) := by
            rw [v4]
            show pfS S (o_pf (S_fo S) k) (v_od (S_pl (pfS S (o_pf (S_fo S) k) (up (S_pl S) 12 g k))) (o_pl (odp (S_pl (pfS S (o_pf (S_fo S) k) (up (S_pl S) 12 g k)))) w)) = _
            rw [evV]
          have SIf : SI (pfS S (o_pf (S_fo S) k) (acV (S_pl S) g k)) := SI4
          have o' : Out σ1 σ4 1 70 := o.tr o4
          have c4 := c1.mod0 (fun x hx => o'.2 x (by omega)) vf SIf (fun pl => pl.vc (fun j h6 h7 h12 _ => by
            unfold acV
            rw [vw, if_neg (show ¬ (w : Int) = 0 by omega), v_od_ne h6 h7]
            exact rr j h12))
          refine pi_ok (v := oI (S_pl S 12 g)) tx m ?_ (fun x hx => by rw [o'.2 x (by omega)]; exact f1 x hx) c4 (fun s ms => ?_)
          · unfold fL_activate fX8_activate
            rw [s_reqP (by rw [h1]; exact hS), h1, q, j_b, if_pos rfl, j_xl, s_reqL hk hk12, h1, qp, j_b, if_pos rfl, j_xl, hid, j_b, decide_eq_false ny, if_neg Bool.false_ne_true, a1, j_b, s_groupOf, j_b, hpv1, hk, ga_in hk12, s_activeOf, j_b, hpv1, t13, eg, r12]
            rw [eg] at a2 w3
            rw [a2, j_b, a3, j_b, w3, j_b, if_neg (fun z => by rw [j_eq, j_oI (by omega) (by omega), jz0] at z; omega), a4, j_b, j_b, j_xl, if_pos (by decide), j_nm]
            rfl
          · obtain ⟨s1, s3, b, gg, m1, oo, sm, ww⟩ := ref s ms
            have oe := sm.2.1.oe
            have oe : OE (mo (mv (s3.1 463)) 18) (odp (S_pl S)) := by
              have z : odp (S_pl (pfS S (o_pf (S_fo S) k) (up (S_pl S) 12 g k))) = odp (S_pl S) := od1
              rw [z] at oe
              exact oe
            have tw : (oI (w : Int)).toInt = w := j_oI (by omega) (by omega)
            obtain ⟨s4, b4, w4, u4, r4⟩ := m_comesLast (σ := s3) (j := 18) (c := 246) (cap := 4) (Or.inl ⟨rfl, rfl, rfl⟩) (by rw [oe.1]; exact F) (oI w) (by rw [(oe.lv _).1, tw]; exact hI.2.2.1.lt4 hw5 (by omega))
            have oe4 : OE (mo (mv (s4.1 463)) 18) (o_pl (odp (S_pl S)) w) := by
              rw [tw] at u4
              exact u4.tr (oe.pl w)
            refine ⟨s4, ?_, gg.tr (F9.ou w4), m1.mod (oo.tr w4) ?_⟩
            · show fX9_activate s 462 p = _
              rw [b, ww, j_b, if_neg (fun z => by rw [j_le, tw, jz0] at z; omega), j_b, show (246 : Int32) = nI 246 from rfl, b4, j_b]
            · have := sm.pf (fun j hj => r4 j (by omega) (by omega)) (sm.2.1.fl (fun j hj => r4 j (by omega) (by omega)) oe4) (by
                have : mo (mv (s4.1 463)) 20 = mo (mv (s3.1 463)) 20 := by
                  unfold mo
                  rw [r4 20 (by omega) (by omega), r4 21 (by omega) (by omega)]
                rw [this]
                exact sm.2.2.1)
              have e : pfS S (o_pf (S_fo S) k) (acV (S_pl S) g k) = pfS (pfS S (o_pf (S_fo S) k) (up (S_pl S) 12 g k)) (S_fo (pfS S (o_pf (S_fo S) k) (up (S_pl S) 12 g k))) (v_od (S_pl (pfS S (o_pf (S_fo S) k) (up (S_pl S) 12 g k))) (o_pl (odp (S_pl S)) w)) := by
                unfold acV
                rw [vw, if_neg (show ¬ (w : Int) = 0 by omega)]
                rfl
              rw [e]
              exact this
      · refine pi_no (k := 2) (b := 0) hR ?_ (by decide) ?_
        · unfold fL_activate fX8_activate
          rw [s_reqP (by rw [h1]; exact hS), h1, q, j_b, if_pos rfl, j_xl, s_reqL hk hk12, h1, qp, j_b, if_pos rfl, j_xl, hid, j_b, decide_eq_true y]
          rfl
        · show fX9_activate σ 462 p = _
          unfold fX9_activate fX9_activate_28
          rw [m_isP m.2, j_b, q, if_pos rfl, isS σ m, qp, y, rf2]
          rfl
end RAB
end
section
/-! THE RELATION: dock -/
section RAC
theorem dk_SI {S : ST} (hS : SI S) {k : Nat} (hk : k < 12) (ex : exB S k = true) {V' : VW} {d' : Nat → Nat} {wn' : Nat → Int} (hI : Inv V' d' wn') (h13 : ∀ i, i < 12 → i ≠ k → V' 13 i = S_pl S 13 i) (hk13 : V' 13 k ≠ -1) : SI (pfS S (o_pf (S_fo S) k) V') := by
  have h := hS
  obtain ⟨-, -, -, h4, -, hO, -⟩ := h
  refine hS.pf hI (fun p hp z => ?_) (hO.pf (by decide) hk (by unfold plc; exact decide_eq_true hk13) (fun i hi ne => by unfold plc; rw [h13 i hi ne]))
  by_cases q : p = k
  · rw [q]; exact ex
  · exact h4 p hp (by rw [← h13 p hp q]; exact z)
theorem free_V {V : VW} {d : Nat → Nat} {wn : Nat → Int} (h : Inv V d wn) {k : Nat} (hk : k < 12) (hu : V 13 k = -1) : 1 ≤ cnt (fun n => decide (V 8 n = 3)) 23 ∧ (∀ t, t < 12 → V 13 t ≠ -1 → 2 ≤ cnt (fun n => decide (V 8 n = 3)) 23) := by
  have fw := few_nodes h.1 h.2.1
  have fr := cnt_free V
  have le : cnt (fun p => decide (V 13 p ≠ -1)) 12 ≤ 11 := by
    have a := cnt_one_more (c := fun p => decide (V 13 p ≠ -1)) (d := fun p => decide (V 13 p ≠ -1) || decide (p = k)) (n := 12) hk (fun i _ hi => by simp [hi]) (by simp [hu]) (by simp)
    have b := cnt_le (fun p => decide (V 13 p ≠ -1) || decide (p = k)) 12
    omega
  constructor
  · split at fw <;> omega
  · intro t ht hp
    have : 1 ≤ cnt (fun p => decide (V 13 p ≠ -1)) 12 := cnt_pos ht (decide_eq_true hp)
    rw [if_neg (by omega)] at fw
    omega
theorem s_dk84 {σ σ1 : Sg} {S : ST} {L : List ST} {V2 : VW} {k g : Nat} {p : Int32} (hp : p.toInt = k) (hk : k < 12) (hg : g < 23) (c1 : CR σ1 S L) (o : Out σ1 σ 1 70) (hs : stv σ 1 = pfS S (S_fo S) V2) (hSI : SI (pfS S (o_pf (S_fo S) k) (v_join V2 k g))) : ∃ σ', fX8_dock_84 σ p p (oI g) = some (.inl (oI (v_wo (v_join V2 k g) g)), σ') ∧ (∀ c, 438 ≤ c → σ'.1 c = σ1.1 c) ∧ CR σ' (pfS S (o_pf (S_fo S) k) (v_join V2 k g)) L := by
  have tg : (oI (g : Int)).toInt = g := j_oI (by omega) (by omega)
  have ok : OkO (S_fo S) := by
    have := c1.2.2.1
    exact this.2.2.2.2.2.1.ok (by decide)
  obtain ⟨σ2, a2, o2, v2⟩ := s_do hs (s_join (σ := σ) (b := 1 + 5) p (oI g))
  rw [S_pv hs, hp, tg] at v2
  obtain ⟨σ3, a3, o3, v3⟩ := s_pfo v2 ok p
  rw [hp] at v3
  have O : Out σ1 σ3 1 70 := (o.tr o2).tr o3
  obtain ⟨σ4, a4, o4, c4⟩ := c1.mod (fun x hx => O.2 x (by omega)) (show stv σ3 1 = pfS S (o_pf (S_fo S) k) (v_join V2 k g) from v3) hSI
  refine ⟨σ4, ?_, fun c hc => by rw [o4.2 c (by omega), O.2 c (by omega)], c4⟩
  unfold fX8_dock_84
  have e13 : v_join V2 k g 13 k = g := by rw [(join_rows hk hg).1 k, if_pos rfl]
  rw [a2, j_b, a3, j_b, a4, j_b, s_groupOf, j_b, S_pv c4.1, hp, ga_in hk]
  show (fX1_windowOf σ4 (1 + 5) (oI (v_join V2 k g 13 k))).bind _ = _
  rw [e13, s_windowOf, j_b, S_pv c4.1, tg]
  rfl
theorem m_dk {s s1 : Sg} {S : ST} {L : List ST} {V2 : VW} {X : Nat → Bool} {k g : Nat} {p : Int32} (hp : p.toInt = k) (hk : k < 12) (hg : g < 23) (hg2 : V2 8 g = 2) (hS : SI S) (m1 : MR s1 S L) (o : Out s1 s 463 463) (h : VM (mv (s.1 463)) V2 X) (f : FS (mv (s1.1 463)) (mv (s.1 463))) (e20 : mo (mv (s.1 463)) 20 = mo (mv (s1.1 463)) 20) (hu : V2 13 k = -1) (hh : V2 15 k = 0) (hX : ∀ n, n ≠ g → X n = false) : ∃ s', fX9_settles s 462 p (oI g) = some s' ∧ Out s1 s' 463 463 ∧ VM (mv (s'.1 463)) (v_join V2 k g) (fun _ => false) ∧ MR s' (pfS S (o_pf (S_fo S) k) (v_join V2 k g)) L := by
  have tg : (oI (g : Int)).toInt = g := j_oI (by omega) (by omega)
  have oe := m1.2.2.2.1
  have hO := hS.2.2.2.2.2.1
  obtain ⟨s2, b2, w2, v2, oe2, f2⟩ := m_settles h hp hk tg hg hg2 hu hh (o := S_fo S) (by rw [e20]; exact oe) (hO.ok (by decide)) (hO.lt hk)
  have v2' : VM (mv (s2.1 463)) (v_join V2 k g) (fun _ => false) := v2.fx (fun n _ _ _ => by
    show (X n && n != g) = false
    by_cases q : n = g
    · simp [q]
    · rw [hX n q]
      rfl)
  exact ⟨s2, b2, o.tr w2, v2', m1.mod (o.tr w2) (m1.2.pf (f.tr f2) v2' oe2)⟩
/-- the placement behind dock -/
def dkV (V : VW) (k t : Nat) (side : Int) : VW := if side = 4 then v_join (v_withdraw V k) k (v_withdraw V k 13 t) else v_join (v_bes (v_withdraw V k) (v_withdraw V k 13 t) side) k (v_mn (v_withdraw V k))
theorem c_dock {σ : Sg} (h : RR σ) (p u side : Int32) : PI (fL_dock σ p u side 476 1) (fun s => fX9_dock s 462 p u side) := by
  obtain ⟨S, l, c, m, tx⟩ := h
  have h1 := c.1
  have hS := c.2.2.1
  have hR : RR σ := ⟨S, l, c, m, tx⟩
  have z4 : (4 : Int32).toInt = 4 := rfl
  have no : ∀ (x : Int32), x = 1 ∨ x = 2 ∨ x = 3 → fX9_dock_81 462 σ p u side x = some (0, su σ 462 3 x) := fun x hx => by
    unfold fX9_dock_81
    rcases hx with rfl | rfl | rfl
    · rw [rf1]; rfl
    · rw [rf2]; rfl
    · rw [rf3]; rfl
  cases q : exP S p
  · refine pi_no (k := 1) (b := 0) hR ?_ (by decide) ?_
    · unfold fL_dock fX8_dock
      rw [s_reqP (by rw [h1]; exact hS), h1, q]
      rfl
    · show fX9_dock σ 462 p u side = _
      unfold fX9_dock fX9_dock_20 fX9_dock_21 fX9_dock_46 fX9_dock_47
      rw [m_isP m.2, j_b, q]
      exact no 1 (Or.inl rfl)
  cases qu : exP S u
  · refine pi_no (k := 1) (b := 0) hR ?_ (by decide) ?_
    · unfold fL_dock fX8_dock
      rw [s_reqP (by rw [h1]; exact hS), h1, q, j_b, if_pos rfl, j_xl, s_reqP (by rw [h1]; exact hS), h1, qu]
      rfl
    · show fX9_dock σ 462 p u side = _
      unfold fX9_dock fX9_dock_20 fX9_dock_21 fX9_dock_46 fX9_dock_47
      rw [m_isP m.2, j_b, q, if_pos rfl, m_isP m.2, j_b, qu]
      exact no 1 (Or.inl rfl)
  by_cases pu : p = u
  · refine pi_no (k := 2) (b := 0) hR ?_ (by decide) ?_
    · unfold fL_dock fX8_dock
      rw [s_reqP (by rw [h1]; exact hS), h1, q, j_b, if_pos rfl, j_xl, s_reqP (by rw [h1]; exact hS), h1, qu, j_b, if_pos rfl, j_xl, if_pos pu]
      rfl
    · show fX9_dock σ 462 p u side = _
      unfold fX9_dock fX9_dock_21 fX9_dock_46 fX9_dock_47
      rw [m_isP m.2, j_b, q, if_pos rfl, m_isP m.2, j_b, qu, if_pos rfl, if_neg (show ¬ (1 : Int32) = 0 by decide), if_pos pu, if_neg (show ¬ (1 : Int32) = 0 by decide), if_pos rfl]
      exact no 2 (Or.inr (Or.inl rfl))
  by_cases sd : 0 ≤ side.toInt ∧ side.toInt ≤ 4
  · obtain ⟨k, hk, hk12, ek⟩ := exP_n q
    obtain ⟨t, ht, ht12, et⟩ := exP_n qu
    have kt : t ≠ k := fun z => pu (j_eq.mpr (by rw [hk, ht, z]))
    have pre8 : fX8_dock σ p u side = (fX8_requirePlaced σ u).bind fun r10 => xcat r10 (fun e12 => some (.inr e12, σ)) fun w11 => (fX8_keepRecord σ).bind fun σ13 => (fX1_withdraw σ13 (1 + 5) p).bind fun σ14 => (fX1_groupOf σ14 (1 + 5) u).bind fun r15 => if side = 4 then (fX8_dock_84 σ14 p p r15) else (fX1_makeGroupBeside σ14 (1 + 5) r15 side).bind fun r16 => (fX8_dock_84 r16.2 p p r16.1) := by
      unfold fX8_dock
      rw [s_reqP (by rw [h1]; exact hS), h1, q, j_b, if_pos rfl, j_xl, s_reqP (by rw [h1]; exact hS), h1, qu, j_b, if_pos rfl, j_xl, if_neg pu, s_reqR, j_b, jz0, z4, decide_eq_true sd, if_pos rfl, j_xl]
    have pre9 : ∀ s, MR s S l → fX9_dock s 462 p u side = if plc (S_pl S) t = true then fX9_dock_81 462 s p u side 0 else fX9_dock_81 462 s p u side 3 := fun s ms => by
      unfold fX9_dock fX9_dock_21 fX9_dock_47
      rw [m_isP ms.2, j_b, q, if_pos rfl, m_isP ms.2, j_b, qu, if_pos rfl, if_neg (show ¬ (1 : Int32) = 0 by decide), if_neg pu, m_within, j_b, jz0, z4, decide_eq_true sd, if_pos rfl, if_neg (show ¬ (1 : Int32) = 0 by decide), if_neg (show ¬ (1 : Int32) = 0 by decide), m_isL ms.2.2.1 ht ht12, j_b]
    cases qp : plc (S_pl S) t
    · refine pi_no (k := 3) (b := 0) hR ?_ (by decide) ?_
      · unfold fL_dock
        rw [pre8, s_reqL ht ht12, h1, qp]
        rfl
      · show fX9_dock σ 462 p u side = _
        rw [pre9 σ m, qp]
        exact no 3 (Or.inr (Or.inr rfl))
    · obtain ⟨-, -, -, -, ⟨d, wn, hI⟩, hO, -⟩ := id hS
      have np : S_pl S 13 t ≠ -1 := by
        unfold plc at qp
        exact of_decide_eq_true qp
      obtain ⟨hI1, wd⟩ := withdraw_ok hI hk12
      have k1 : v_withdraw (S_pl S) k 13 k = -1 := by rw [wd.1 k hk12, if_pos rfl]
      have t1 : v_withdraw (S_pl S) k 13 t = S_pl S 13 t := by rw [wd.1 t ht12, if_neg kt]
      have h15 : v_withdraw (S_pl S) k 15 k = 0 := by rw [wd.2.1 k hk12, if_pos rfl]
      obtain ⟨g, hg, eg, kg⟩ := (hI1.2.1.gr ht12).resolve_left (by rw [t1]; exact np)
      have tg : (oI (g : Int)).toInt = g := j_oI (by omega) (by omega)
      obtain ⟨σ1, a1, f1, c1⟩ := s_kr c
      obtain ⟨σ2, a2, o2, v2⟩ := s_wd c1.1 hI p
      rw [hk] at v2
      have gr : fX1_groupOf σ2 (1 + 5) u = some (oI (g : Int)) := by
        rw [s_groupOf, S_pv v2, ht, ga_in ht12]
        show some (oI (v_withdraw (S_pl S) k 13 t)) = _
        rw [eg]
      -- the reference up to the group
      have ref : ∀ s, MR s S l → ∃ s1 s2, MR s1 S (keep l S) ∧ Out s1 s2 463 463 ∧ VM (mv (s2.1 463)) (v_withdraw (S_pl S) k) (fun _ => false) ∧ FR (mv (s1.1 463)) (mv (s2.1 463)) ∧ G9 s s1 0 ∧ fX9_dock s 462 p u side = if side = 4 then fX9_dock_125 462 s2 (oI (g : Int)) p (oI (g : Int)) else (fX9_beside s2 462 (oI (g : Int)) side).bind fun r9 => fX9_dock_125 462 r9.2 (oI (g : Int)) p r9.1 := fun s ms => by
        obtain ⟨s1, b1, g1, x1, m1⟩ := m_kr (ms.s3 (k := 0))
        obtain ⟨s2, b2, w2, vm2, fr2⟩ := m_takes m1.2.2.1 hI.1 hI.2.1 hI.2.2.1 hk hk12
        refine ⟨s1, s2, m1, w2, vm2, fr2, G9.s3.tr g1, ?_⟩
        rw [pre9 s ms, qp, if_pos rfl]
        unfold fX9_dock_81
        rw [rf0, j_b]
        show (fX9_saves (su s 462 3 0) 462).bind _ = _
        rw [b1, j_b, b2, j_b, m_o3 ht ht12, j_b, vm2.gr ht12, eg]
      by_cases s4 : side = 4
      · have hJ := inv_tab hI1 hk12 k1 hg kg
        have jr := join_rows (V := v_withdraw (S_pl S) k) hk12 hg
        have hSI : SI (pfS S (o_pf (S_fo S) k) (v_join (v_withdraw (S_pl S) k) k g)) := dk_SI hS hk12 ek hJ (fun i hi ne => by rw [jr.1 i, if_neg ne, wd.1 i hi, if_neg ne]) (by rw [jr.1 k, if_pos rfl]; omega)
        obtain ⟨σ3, a3, e3, c3⟩ := s_dk84 hk hk12 hg c1 o2 v2 hSI
        refine pi_ok (v := oI (v_wo (v_join (v_withdraw (S_pl S) k) k g) g)) tx m ?_ (fun x hx => by rw [e3 x hx]; exact f1 x hx) c3 (fun s ms => ?_)
        · unfold fL_dock
          rw [pre8, s_reqL ht ht12, h1, qp, j_b, if_pos rfl, j_xl, a1, j_b, a2, j_b, gr, j_b, if_pos s4, a3, j_b, j_xl, if_pos (by decide), j_nm]
          rfl
        · obtain ⟨s1, s2, m1, w2, vm2, fr2, g9, e⟩ := ref s ms
          obtain ⟨s3, b3, w3, vm3, m3⟩ := m_dk hk hk12 hg kg hS m1 w2 vm2 fr2.fs (by
            unfold mo
            rw [fr2 20 (by omega), fr2 21 (by omega)]) k1 h15 (fun _ _ => rfl)
          refine ⟨s3, ?_, g9.tr (F9.ou w3), m3⟩
          show fX9_dock s 462 p u side = _
          rw [e, if_pos s4]
          unfold fX9_dock_125
          have k8 : v_join (v_withdraw (S_pl S) k) k g 8 g = 2 := by rw [jr.2.2.2 8 (by omega) (by omega) (by omega)]; exact kg
          rw [b3, j_b, m_windowOf vm3 hJ.1 tg hg (by omega), j_b, hJ.1.wo hg (by omega)]
      · have sd4 : side = 0 ∨ side = 1 ∨ side = 2 ∨ side = 3 := by
          have n4 : side.toInt ≠ 4 := fun z => s4 (j_eq.mpr z)
          have : side.toInt = 0 ∨ side.toInt = 1 ∨ side.toInt = 2 ∨ side.toInt = 3 := by omega
          rcases this with z | z | z | z
          · exact Or.inl (j_eq.mpr z)
          · exact Or.inr (Or.inl (j_eq.mpr z))
          · exact Or.inr (Or.inr (Or.inl (j_eq.mpr z)))
          · exact Or.inr (Or.inr (Or.inr (j_eq.mpr z)))
        obtain ⟨f, mm, tw⟩ := two_ex ((free_V hI1 hk12 k1).2 t ht12 (by rw [t1]; exact np))
        obtain ⟨f23, f3, fl, fm, -⟩ := id tw
        obtain ⟨d', wn', hJ, e1, e2, tJ, k8f, e13, e15, -⟩ := inv_bes hI1 hk12 k1 hg kg tw side.toInt
        have jr := join_rows (V := v_bes (v_withdraw (S_pl S) k) g side.toInt) hk12 f23
        have hSI : SI (pfS S (o_pf (S_fo S) k) (v_join (v_bes (v_withdraw (S_pl S) k) g side.toInt) k f)) := dk_SI hS hk12 ek hJ (fun i hi ne => by rw [jr.1 i, if_neg ne, e13, wd.1 i hi, if_neg ne]) (by rw [jr.1 k, if_pos rfl]; omega)
        obtain ⟨σ3, a3, o3, v3⟩ := s_makeGroupBeside (σ := σ2) (b := 1 + 5) (oI (g : Int)) side
        have pv2 : pv σ2 (1 + 5) = v_withdraw (S_pl S) k := S_pv v2
        rw [pv2, tg] at v3
        rw [pv2, fm] at a3
        have v3' : stv σ3 1 = pfS S (S_fo S) (v_bes (v_withdraw (S_pl S) k) g side.toInt) := by
          rw [stv_pl (b := 1) o3, v3, v2]
          rfl
        have o23 : Out σ1 σ3 1 70 := o2.tr (o3.mo (by omega) (by omega))
        obtain ⟨σ4, a4, e4, c4⟩ := s_dk84 hk hk12 f23 c1 o23 v3' hSI
        have wgf : wn' g = wn' f := by rw [(e2 g hg (by omega)).2, e1]
        have k8g : v_bes (v_withdraw (S_pl S) k) g side.toInt 8 g = 2 := by rw [(e2 g hg (by omega)).1]; exact kg
        have J8 : ∀ n, v_join (v_bes (v_withdraw (S_pl S) k) g side.toInt) k f 8 n = v_bes (v_withdraw (S_pl S) k) g side.toInt 8 n := fun n => by rw [jr.2.2.2 8 (by omega) (by omega) (by omega)]
        refine pi_ok (v := oI (v_wo (v_join (v_bes (v_withdraw (S_pl S) k) g side.toInt) k f) f)) tx m ?_ (fun x hx => by rw [e4 x hx]; exact f1 x hx) c4 (fun s ms => ?_)
        · unfold fL_dock
          rw [pre8, s_reqL ht ht12, h1, qp, j_b, if_pos rfl, j_xl, a1, j_b, a2, j_b, gr, j_b, if_neg s4, a3, j_b]
          show ((fX8_dock_84 σ3 p p (oI (f : Int))).bind _) = _
          rw [a4, j_b, j_xl, if_pos (by decide), j_nm]
          rfl
        · obtain ⟨s1, s2, m1, w2, vm2, fr2, g9, e⟩ := ref s ms
          obtain ⟨s3, b3, w3, vm3, fr3⟩ := m_beside vm2 hI1.1 hg kg tw sd4
          have fr := fr2.tr fr3
          obtain ⟨s4', b4, w4, vm4, m4⟩ := m_dk hk hk12 f23 k8f hS m1 (w2.tr w3) vm3 fr.fs (by
            unfold mo
            rw [fr 20 (by omega), fr 21 (by omega)]) (by rw [e13]; exact k1) (by rw [e15]; exact h15) (fun n ne => by
            show (n == f) = false
            simp [ne])
          refine ⟨s4', ?_, g9.tr (F9.ou w4), m4⟩
          show fX9_dock s 462 p u side = _
          rw [e, if_neg s4, b3, j_b]
          unfold fX9_dock_125
          rw [b4, j_b, m_windowOf vm4 hJ.1 tg hg (by rw [J8, k8g]; omega), j_b, hJ.1.wo f23 (by rw [J8, k8f]; omega), wgf]
  · refine pi_no (k := 2) (b := 0) hR ?_ (by decide) ?_
    · unfold fL_dock fX8_dock
      rw [s_reqP (by rw [h1]; exact hS), h1, q, j_b, if_pos rfl, j_xl, s_reqP (by rw [h1]; exact hS), h1, qu, j_b, if_pos rfl, j_xl, if_neg pu, s_reqR, j_b, jz0, z4, decide_eq_false sd]
      rfl
    · show fX9_dock σ 462 p u side = _
      unfold fX9_dock fX9_dock_21 fX9_dock_46 fX9_dock_47
      rw [m_isP m.2, j_b, q, if_pos rfl, m_isP m.2, j_b, qu, if_pos rfl, if_neg (show ¬ (1 : Int32) = 0 by decide), if_neg pu, m_within, j_b, jz0, z4, decide_eq_false sd, if_neg Bool.false_ne_true, if_neg (show ¬ (1 : Int32) = 0 by decide), if_pos rfl]
      exact no 2 (Or.inr (Or.inl rfl))
end RAC
end
section
/-! THE RELATION: start -/
section RAD
theorem Tree.down {V : VW} {d : Nat → Nat} {wn : Nat → Int} (t : Tree V d wn (fun _ => false)) (j : Nat) : ∀ (n : Nat), 22 ≤ dq V n + j → n < 23 → V 8 n ≠ 3 → ∃ g, g < 23 ∧ V 8 g = 2 ∧ wn g = wn n := by
  induction j with
  | zero =>
    intro n hj hn hu
    have kr := t.ki hn
    by_cases k2 : V 8 n = 2
    · exact ⟨n, hn, k2, rfl⟩
    · have two := (t.sp hn (by omega)).2 rfl
      obtain ⟨c, hc, e⟩ := cnt_ex (c := fun i => decide (V 9 i = n)) (n := 23) (by omega)
      have e := of_decide_eq_true e
      have dc := t.dqc hc e
      have d22 := (t.dqs hc (t.us hc (show V 9 c ≠ -1 by omega))).1
      omega
  | succ j ih =>
    intro n hj hn hu
    have kr := t.ki hn
    by_cases k2 : V 8 n = 2
    · exact ⟨n, hn, k2, rfl⟩
    · have two := (t.sp hn (by omega)).2 rfl
      obtain ⟨c, hc, e⟩ := cnt_ex (c := fun i => decide (V 9 i = n)) (n := 23) (by omega)
      have e := of_decide_eq_true e
      have dc := t.dqc hc e
      have wc := (t.par hc e).2.2.2
      obtain ⟨g, h1, h2, h3⟩ := ih c (by omega) hc (t.us hc (show V 9 c ≠ -1 by omega))
      exact ⟨g, h1, h2, h3.trans wc⟩
/-- a window with a tree has a pane -/
theorem Inv.pane {V : VW} {d : Nat → Nat} {wn : Nat → Int} (h : Inv V d wn) {w : Nat} (hw : w < 5) (hr : V 5 w ≠ -1) : ∃ i g : Nat, i < 12 ∧ g < 23 ∧ V 13 i = g ∧ V 8 g = 2 ∧ wn g = w := by
  obtain ⟨t, tb, -, -⟩ := h
  rcases t.wi hw with z | ⟨n, hn, e5, un, -, wnn⟩
  · exact absurd z hr
  · obtain ⟨g, hg, kg, wg⟩ := t.down 22 n (by omega) hn un
    obtain ⟨f1, -⟩ := tb.fu hg kg rfl
    obtain ⟨i, hi, e⟩ := cnt_ex f1
    exact ⟨i, g, hi, hg, of_decide_eq_true e, kg, by rw [wg, wnn]⟩
theorem Inv.pi_p {V : VW} {d : Nat → Nat} {wn : Nat → Int} (h : Inv V d wn) {i g w : Nat} (hi : i < 12) (e : V 13 i = g) (wg : wn g = w) : (decide (V 13 i ≠ -1) && decide (v_wo V (V 13 i) = w)) = true := by
  obtain ⟨hg, kg⟩ := h.2.1.g2 hi e
  rw [e, h.1.wo hg (by omega), wg, decide_eq_true (by omega), decide_eq_true rfl]
  rfl
/-- the window of a pane; -1 -/
def own (V : VW) (k : Nat) : Bool := decide (v_wo V (V 13 k) = 0)
theorem start_ok {V : VW} {d : Nat → Nat} {wn : Nat → Int} (h : Inv V d wn) {k : Nat} (hk : k < 12) (hp : (v_pi V 0 : Int) ≤ if own V k then 1 else 0) : v_withdraw V k 5 0 = -1 := by
  refine Classical.byContradiction (fun hr => ?_)
  obtain ⟨h1, wd⟩ := withdraw_ok h hk
  obtain ⟨i, g, hi, hg, e, kg, wg⟩ := h1.pane (w := 0) (by omega) hr
  have ne : i ≠ k := fun z => by
    rw [z, wd.1 k hk, if_pos rfl] at e
    omega
  rw [wd.1 i hi, if_neg ne] at e
  have ci : (decide (V 13 i ≠ -1) && decide (v_wo V (V 13 i) = 0)) = true := h.pi_p hi e wg
  have c1 : 1 ≤ v_pi V 0 := cnt_pos hi ci
  cases q : own V k
  · rw [q] at hp
    simp only [Bool.false_eq_true, if_false] at hp
    omega
  · rw [q] at hp
    simp only [if_true] at hp
    unfold own at q
    have q := of_decide_eq_true q
    have np : V 13 k ≠ -1 := fun z => by
      rw [z, v_wo_m1] at q
      omega
    have ck : (decide (V 13 k ≠ -1) && decide (v_wo V (V 13 k) = 0)) = true := by
      rw [decide_eq_true np, q]
      rfl
    have := cnt_uniq (c := fun p => decide (V 13 p ≠ -1) && decide (v_wo V (V 13 p) = 0)) (n := 12) (by unfold v_pi at hp; omega) hi hk ci ck
    exact ne this
/-- a new group as the root of a window -/
def rtV (V : VW) (w : Nat) : VW := up (up V 8 (v_mn V) 2) 5 w (v_mn V)
theorem rt_roo {V : VW} {f w : Nat} (hf : f < 23) (fm : v_mn V = f) (hw : w < 5) : Roo V (rtV V w) f w := by
  unfold rtV
  rw [fm]
  refine ⟨fun i hi => by rw [up_ne (by omega), up8 hf], fun i hi => by rw [up5 hw, up_ne (by omega)], fun j hj => by rw [up_ne (by omega), up_ne (by omega)]⟩
theorem rt_odp {V : VW} {w : Nat} : odp (rtV V w) = odp V := by
  unfold rtV
  rw [odp_up (by omega) (by omega), odp_up (by omega) (by omega)]
theorem rt_geo {V : VW} {w : Nat} (h : Geo V) : Geo (rtV V w) := by
  unfold rtV
  exact h.cg (by rw [up_ne (by omega), up_ne (by omega)]) (by rw [up_ne (by omega), up_ne (by omega)]) (by rw [up_ne (by omega), up_ne (by omega)]) (by rw [up_ne (by omega), up_ne (by omega)])
def stV (V : VW) (k : Nat) : VW := v_join (rtV (v_withdraw V k) 0) k (v_mn (v_withdraw V k))
theorem c_start {σ : Sg} (h : RR σ) (p : Int32) : PI (fL_start σ p 476 1) (fun s => fX9_start s 462 p) := by
  obtain ⟨S, l, c, m, tx⟩ := h
  have h1 := c.1
  have hS := c.2.2.1
  have hR : RR σ := ⟨S, l, c, m, tx⟩
  cases q : exP S p
  · refine pi_no (k := 1) (b := 0) hR ?_ (by decide) ?_
    · unfold fL_start fX8_start
      rw [s_reqP (by rw [h1]; exact hS), h1, q]
      rfl
    · show fX9_start σ 462 p = _
      unfold fX9_start fX9_start_46 fX9_start_65
      rw [m_isP m.2, j_b, q, rf1]
      rfl
  · obtain ⟨k, hk, hk12, ek⟩ := exP_n q
    obtain ⟨-, -, -, -, ⟨d, wn, hI⟩, hO, -⟩ := id hS
    have hpv : pv σ (1 + 5) = S_pl S := S_pv h1
    have r13 : -2147483648 ≤ S_pl S 13 k ∧ S_pl S 13 k < 2147483648 := by rw [← hpv]; exact pv_rg σ (1 + 5) 13 k
    have t13 : (oI (S_pl S 13 k)).toInt = S_pl S 13 k := j_oI r13.1 r13.2
    have wr := v_wo_rg (S_pl S) (S_pl S 13 k)
    have two : (oI (v_wo (S_pl S) (S_pl S 13 k))).toInt = v_wo (S_pl S) (S_pl S 13 k) := t_wo _ _
    have pr12 : v_pi (S_pl S) 0 ≤ 12 := cnt_le _ _
    have tpi : (oI (v_pi (S_pl S) 0 : Int)).toInt = v_pi (S_pl S) 0 := t_pi _ _
    have z0 : (0 : Int32).toInt = 0 := rfl
    -- the class
    have pre8 : fX8_start σ p = fX8_start_30 σ p (if own (S_pl S) k then 1 else 0) := by
      unfold fX8_start
      rw [s_reqP (by rw [h1]; exact hS), h1, q, j_b, if_pos rfl, j_xl, s_groupOf, j_b, s_windowOf, j_b, hpv, hk, ga_in hk12, t13]
      unfold own
      by_cases z : v_wo (S_pl S) (S_pl S 13 k) = 0
      · rw [if_pos (by rw [z]; rfl), decide_eq_true z, if_pos rfl]
      · rw [if_neg (fun y => z (by rw [j_eq, two, jz0] at y; exact y)), decide_eq_false z, if_neg Bool.false_ne_true]
    -- the reference
    have pre9 : ∀ s, MR s S l → fX9_start s 462 p = if (v_pi (S_pl S) 0 : Int) ≤ (if own (S_pl S) k then 1 else 0) then fX9_start_65 462 s p 0 else fX9_start_65 462 s p 2 := fun s ms => by
      have vm := ms.2.2.1
      have e46 : ∀ x : Int32, x.toInt = 0 ∨ x.toInt = 1 → fX9_start_46 462 s p (b2i true) (oI (v_pi (S_pl S) 0 : Int) - x) = if (v_pi (S_pl S) 0 : Int) ≤ x.toInt then fX9_start_65 462 s p 0 else fX9_start_65 462 s p 2 := fun x hx => by
        unfold fX9_start_46
        rw [if_neg (show ¬ b2i true = 0 by decide)]
        have es : (oI (v_pi (S_pl S) 0 : Int) - x).toInt = v_pi (S_pl S) 0 - x.toInt := by
          rw [j_sub (by rw [tpi]; omega) (by rw [tpi]; omega), tpi]
        by_cases z : (v_pi (S_pl S) 0 : Int) ≤ x.toInt
        · rw [if_pos z, if_pos (by rw [j_le, es, jz0]; omega)]
        · rw [if_neg z, if_neg (fun y => by rw [j_le, es, jz0] at y; omega)]
      unfold fX9_start
      rw [m_isP ms.2, j_b, q, if_pos rfl, m_placedIn vm hI.1 hI.2.1, j_b, z0, m_isL vm hk hk12, j_b]
      unfold own
      cases qp : plc (S_pl S) k
      · have z : S_pl S 13 k = -1 := by
          unfold plc at qp
          exact Classical.byContradiction (fun y => by rw [decide_eq_true y] at qp; cases qp)
        rw [if_neg Bool.false_ne_true, z, v_wo_m1, decide_eq_false (by omega), if_neg Bool.false_ne_true]
        unfold fX9_start_40 fX9_start_41
        exact e46 0 (Or.inl rfl)
      · have np : S_pl S 13 k ≠ -1 := by
          unfold plc at qp
          exact of_decide_eq_true qp
        obtain ⟨g, hg, eg, kg⟩ := (hI.2.1.gr hk12).resolve_left np
        rw [if_pos rfl, m_o3 hk hk12, j_b, vm.gr hk12, m_windowOf vm hI.1 (n := g) (by rw [t13, eg]) hg (by omega), j_b, eg, hI.1.wo hg (by omega)]
        have wo := hI.1.wo hg (by omega)
        rw [eg, wo] at wr two
        by_cases z : wn g = 0
        · rw [if_pos (by rw [z]; rfl), decide_eq_true z, if_pos rfl]
          unfold fX9_start_41
          exact e46 1 (Or.inr rfl)
        · rw [if_neg (fun y => z (by rw [j_eq, two, jz0] at y; exact y)), decide_eq_false z, if_neg Bool.false_ne_true]
          unfold fX9_start_40 fX9_start_41
          exact e46 0 (Or.inl rfl)
    have ts0 : (if own (S_pl S) k then (1 : Int32) else 0).toInt = if own (S_pl S) k then 1 else 0 := by
      split <;> rfl
    have pre8' : fX8_start_30 σ p (if own (S_pl S) k then 1 else 0) = if (v_pi (S_pl S) 0 : Int) ≤ (if own (S_pl S) k then 1 else 0) then ((fX8_keepRecord σ).bind fun σ7 => (fX1_withdraw σ7 (1 + 5) p).bind fun σ8 => (fX1_makeRootGroup σ8 (1 + 5) 0).bind fun r9 => (fX1_joinGroup r9.2 (1 + 5) p r9.1).bind fun σ10 => (fX0_putFirst σ10 (1 + 3) p).bind fun σ11 => (fX2_compute σ11 422 1).bind fun σ12 => some (.inl 0, σ12)) else some (.inr 2, σ) := by
      unfold fX8_start_30
      rw [s_panesIn, j_b, hpv, z0]
      by_cases z : (v_pi (S_pl S) 0 : Int) ≤ (if own (S_pl S) k then 1 else 0)
      · rw [if_pos z, if_pos (by rw [j_le, tpi, ts0]; exact z)]
      · rw [if_neg z, if_neg (fun y => z (by rw [j_le, tpi, ts0] at y; exact y))]
    by_cases ok : (v_pi (S_pl S) 0 : Int) ≤ (if own (S_pl S) k then 1 else 0)
    · obtain ⟨hI1, wd⟩ := withdraw_ok hI hk12
      have root0 := start_ok hI hk12 ok
      have k1 : v_withdraw (S_pl S) k 13 k = -1 := by rw [wd.1 k hk12, if_pos rfl]
      have h15 : v_withdraw (S_pl S) k 15 k = 0 := by rw [wd.2.1 k hk12, if_pos rfl]
      obtain ⟨f, hf, fm, f3, fl⟩ := v_mn_sp (free_V hI1 hk12 k1).1
      have roo := rt_roo (V := v_withdraw (S_pl S) k) hf fm (w := 0) (by omega)
      have hO1 := hI1.2.2.1
      have loR : LO (odp (rtV (v_withdraw (S_pl S) k) 0)) 5 (flw (rtV (v_withdraw (S_pl S) k) 0)) := by
        rw [rt_odp]
        refine hO1.cg (fun i hi => ?_)
        unfold flw
        by_cases z : i = 0
        · rw [z]; rfl
        · rw [roo.2.1 i hi, if_neg z]
      have hJ := inv_root hI1 hk12 k1 hf f3 (w := 0) (by omega) root0 roo loR (rt_geo hI1.2.2.2)
      have jr := join_rows (V := rtV (v_withdraw (S_pl S) k) 0) hk12 hf
      have e13 : rtV (v_withdraw (S_pl S) k) 0 13 = v_withdraw (S_pl S) k 13 := roo.2.2 13 (by omega)
      have vS : stV (S_pl S) k = v_join (rtV (v_withdraw (S_pl S) k) 0) k f := by unfold stV; rw [fm]
      have hSI : SI (pfS S (o_pf (S_fo S) k) (stV (S_pl S) k)) := by
        rw [vS]
        exact dk_SI hS hk12 ek hJ (fun i hi ne => by rw [jr.1 i, if_neg ne, e13, wd.1 i hi, if_neg ne]) (by rw [jr.1 k, if_pos rfl]; omega)
      obtain ⟨σ1, a1, f1, c1⟩ := s_kr c
      obtain ⟨σ2, a2, o2, v2⟩ := s_wd c1.1 hI p
      rw [hk] at v2
      obtain ⟨σ3, a3, o3, v3⟩ := s_makeRootGroup (σ := σ2) (b := 1 + 5) 0
      have pv2 : pv σ2 (1 + 5) = v_withdraw (S_pl S) k := S_pv v2
      rw [pv2] at v3
      rw [pv2, fm] at a3
      have v3' : stv σ3 1 = pfS S (S_fo S) (rtV (v_withdraw (S_pl S) k) 0) := by
        rw [stv_pl (b := 1) o3, v3, v2]
        rfl
      have tf : (oI (f : Int)).toInt = f := j_oI (by omega) (by omega)
      obtain ⟨σ4, a4, o4, v4⟩ := s_do v3' (s_join (σ := σ3) (b := 1 + 5) p (oI (f : Int)))
      rw [S_pv v3', hk, tf] at v4
      obtain ⟨σ5, a5, o5, v5⟩ := s_pfo v4 (hO.ok (by decide)) p
      rw [hk] at v5
      have O : Out σ1 σ5 1 70 := ((o2.tr (o3.mo (by omega) (by omega))).tr o4).tr o5
      obtain ⟨σ6, a6, o6, c6⟩ := c1.mod (fun x hx => O.2 x (by omega)) (show stv σ5 1 = pfS S (o_pf (S_fo S) k) (stV (S_pl S) k) by rw [vS]; exact v5) hSI
      refine pi_ok (v := 0) tx m ?_ (fun x hx => by rw [o6.2 x (by omega), O.2 x (by omega)]; exact f1 x hx) c6 (fun s ms => ?_)
      · unfold fL_start
        rw [pre8, pre8', if_pos ok, a1, j_b, a2, j_b, a3, j_b]
        show (((fX1_joinGroup σ3 (1 + 5) p (oI (f : Int))).bind _).bind _) = _
        rw [a4, j_b, a5, j_b, a6, j_b, j_b, j_xl, if_pos (by decide), j_nm]
        rfl
      · obtain ⟨s1, b1, g1, x1, m1⟩ := m_kr (ms.s3 (k := 0))
        obtain ⟨s2, b2, w2, vm2, fr2⟩ := m_takes m1.2.2.1 hI.1 hI.2.1 hI.2.2.1 hk hk12
        have oe := m1.2.2.2.1
        have mo2 : mo (mv (s2.1 463)) 20 = mo (mv (s1.1 463)) 20 := by
          unfold mo
          rw [fr2 20 (by omega), fr2 21 (by omega)]
        have r5 : ∀ v, v < 5 → rtV (v_withdraw (S_pl S) k) 0 5 v = if v = 0 then (f : Int) else v_withdraw (S_pl S) k 5 v := roo.2.1
        have gr : ∀ j, j ≤ 4 → rtV (v_withdraw (S_pl S) k) 0 j = v_withdraw (S_pl S) k j := fun j hj => by
          unfold rtV
          rw [up_ne (by omega), up_ne (by omega)]
        obtain ⟨s3, b3, w3, vm3, oe3, fs3⟩ := m_roots (σ := s2) (U := mv (s2.1 463)) (V := v_withdraw (S_pl S) k) (V' := rtV (v_withdraw (S_pl S) k) 0) (d := d) (wn := wn) vm2 hI1.1 hf f3 fl (w := 0) (by omega) roo (fun _ _ => rfl) (fun v hv => by
          rw [vm2.ex hv, r5 v hv]
          by_cases z : v = 0
          · rw [if_pos (Or.inl z), if_pos (Or.inl z)]
          · rw [if_neg z]) (fun v hv z => by
          rw [gr 1 (by omega), gr 2 (by omega), gr 3 (by omega), gr 4 (by omega)]
          refine vm2.geo hv ?_
          rw [r5 v hv] at z
          by_cases y : v = 0
          · exact Or.inl y
          · rw [if_neg y] at z
            exact z) (by rw [rt_odp]; exact vm2.oe) (a := p) (b := 0) hk hk12 rfl k1 h15 (o := S_fo S) (by rw [mo2]; exact oe) (hO.ok (by decide)) (hO.lt hk12)
        refine ⟨s3, ?_, (G9.s3.tr g1).tr (F9.ou (w2.tr w3)), m1.mod (w2.tr w3) ?_⟩
        · show fX9_start s 462 p = _
          rw [pre9 s ms, if_pos ok]
          unfold fX9_start_65
          rw [rf0, j_b]
          show (fX9_saves (su s 462 3 0) 462).bind _ = _
          rw [b1, j_b, b2, j_b, b3, j_b]
        · rw [vS]
          exact m1.2.pf (fr2.fs.tr fs3) vm3 oe3
    · refine pi_no (k := 2) (b := 0) hR ?_ (by decide) ?_
      · unfold fL_start
        rw [pre8, pre8', if_neg ok]
        rfl
      · show fX9_start σ 462 p = _
        rw [pre9 σ m, if_neg ok]
        unfold fX9_start_65
        rw [rf2]
        rfl
end RAD
end
section
/-! THE RELATION: floatAt -/
section RAE
theorem fw_ex {V : VW} {d : Nat → Nat} {wn : Nat → Int} (h : Inv V d wn) (hc : (odp V).1 < 4) : ∃ w, 1 ≤ w ∧ w < 5 ∧ V 5 w = -1 := by
  refine Classical.byContradiction (fun z => ?_)
  have f : ∀ w, 1 ≤ w → w < 5 → flw V w = true := fun w h1 h5 => by
    have : V 5 w ≠ -1 := fun y => z ⟨w, h1, h5, y⟩
    exact flw_k (Or.inr this) (by omega)
  have e : cnt (flw V) 5 = 4 := by
    unfold cnt cnt cnt cnt cnt cnt
    rw [f 1 (by omega) (by omega), f 2 (by omega) (by omega), f 3 (by omega) (by omega), f 4 (by omega) (by omega)]
    rfl
  have := h.2.2.1.1
  omega
theorem wd_5 {V : VW} {d : Nat → Nat} {wn : Nat → Int} (h : Inv V d wn) {k w : Nat} (hk : k < 12) (hw : w < 5) (e : V 5 w = -1) : v_withdraw V k 5 w = -1 := by
  obtain ⟨-, wd⟩ := withdraw_ok h hk
  obtain ⟨-, -, -, -, -, -, w5, -⟩ := wd
  rw [w5 w hw (fun g eg z => ?_)]
  · exact e
  · obtain ⟨hg, kg⟩ := h.2.1.g2 hk eg
    obtain ⟨w', h5, e1, e2⟩ := h.1.wr5 hg (by omega)
    have : w' = w := by omega
    rw [this] at e2
    exact e2 e
theorem v_od_join {V : VW} {o : OD} {k : Nat} {g : Int} : v_od (v_join V k g) o = v_join (v_od V o) k g := by
  have tc : v_tc (v_od V o) g = v_tc V g := by
    unfold v_tc
    rw [v_od_ne (by omega) (by omega)]
  unfold v_join
  rw [tc]
  funext j i
  by_cases h6 : j = 6
  · subst h6
    rw [up_ne (by omega), up_ne (by omega), up_ne (by omega)]
    unfold v_od
    rw [if_pos rfl, if_pos rfl, up_ne (by omega), up_ne (by omega), up_ne (by omega)]
  · by_cases h7 : j = 7
    · subst h7
      rw [up_ne (by omega), up_ne (by omega), up_ne (by omega)]
      unfold v_od
      rw [if_neg (by omega), if_pos rfl, if_neg (by omega), if_pos rfl]
    · rw [v_od_ne h6 h7, up_def, up_def, up_def, up_def, up_def, up_def, v_od_ne h6 h7]
def geV (V : VW) (w : Nat) (x y a b : Int) : VW := up (up (up (up V 1 w x) 2 w y) 3 w a) 4 w b
theorem ge_hi {V : VW} {w : Nat} {x y a b : Int} {j : Nat} (h : 5 ≤ j) : geV V w x y a b j = V j := by
  unfold geV
  rw [up_ne (by omega), up_ne (by omega), up_ne (by omega), up_ne (by omega)]
theorem ge_lo {V : VW} {w : Nat} {x y a b : Int} (hw : w < 5) : (∀ i, geV V w x y a b 1 i = if i = w then x else V 1 i) ∧ (∀ i, geV V w x y a b 2 i = if i = w then y else V 2 i) ∧ (∀ i, geV V w x y a b 3 i = if i = w then a else V 3 i) ∧ ∀ i, geV V w x y a b 4 i = if i = w then b else V 4 i := by
  unfold geV
  refine ⟨fun i => ?_, fun i => ?_, fun i => ?_, fun i => ?_⟩
  · rw [up_ne (by omega), up_ne (by omega), up_ne (by omega), up1 hw]
  · rw [up_ne (by omega), up_ne (by omega), up2 hw, up_ne (by omega)]
  · rw [up_ne (by omega), up3 hw, up_ne (by omega), up_ne (by omega)]
  · rw [up4 hw, up_ne (by omega), up_ne (by omega), up_ne (by omega)]
theorem ge_mn {V : VW} {w : Nat} {x y a b : Int} : v_mn (geV V w x y a b) = v_mn V := by
  unfold v_mn
  rw [ge_hi (by omega)]
theorem ge_odp {V : VW} {w : Nat} {x y a b : Int} : odp (geV V w x y a b) = odp V := by
  unfold odp
  rw [ge_hi (by omega), ge_hi (by omega)]
def fpV (V : VW) (w : Nat) (x y a b : Int) : VW := v_od (rtV (geV V w x y a b) w) (o_pl (odp V) w)
theorem fp_rows {V : VW} {w f : Nat} {x y a b : Int} (hw : w < 5) (hf : f < 23) (fm : v_mn V = f) : Roo V (fpV V w x y a b) f w ∧ (∀ j, 1 ≤ j → j ≤ 4 → fpV V w x y a b j = geV V w x y a b j) ∧ odp (fpV V w x y a b) = o_pl (odp V) w := by
  have roo := rt_roo (V := geV V w x y a b) hf (by rw [ge_mn, fm]) hw
  have v : ∀ j, j ≠ 6 → j ≠ 7 → fpV V w x y a b j = rtV (geV V w x y a b) w j := fun j h6 h7 => v_od_ne h6 h7
  refine ⟨⟨fun i hi => ?_, fun i hi => ?_, fun j hj => ?_⟩, fun j h1 h4 => ?_, v_od_odp⟩
  · rw [v 8 (by omega) (by omega), roo.1 i hi, ge_hi (by omega)]
  · rw [v 5 (by omega) (by omega), roo.2.1 i hi, ge_hi (by omega)]
  · rw [v j (by omega) (by omega), roo.2.2 j hj, ge_hi (by omega)]
  · rw [v j (by omega) (by omega)]
    unfold rtV
    rw [up_ne (by omega), up_ne (by omega)]
/-- the reference's search for a window that is free -/
theorem m_fl118 {σ : Sg} {V : VW} (h : VM (mv (σ.1 463)) V (fun _ => false)) {w : Nat} (hw : w < 5) (h1 : 1 ≤ w) (hr : V 5 w = -1) (hl : ∀ v, 1 ≤ v → v < w → V 5 v ≠ -1) (p x y a b : Int32) : ∃ n, fX9_floatAt_118 462 FU σ p x y a b 1 = (fX9_floatAt_118 462 (n + 1) σ p x y a b (nI w)) := by
  have step : ∀ n v, 1 ≤ v → v < w → fX9_floatAt_118 462 (n + 1) σ p x y a b (nI v) = fX9_floatAt_118 462 n σ p x y a b (nI (v + 1)) := fun n v v1 vw => by
    have : v_we V (nI v).toInt = true := by
      rw [j_nI (by omega), v_we_k (by omega), decide_eq_true (hl v v1 vw), Bool.or_true]
    rw [fX9_floatAt_118, m_isW h, j_b, this, if_pos rfl, j_s]
  have key : ∀ j v n, 1 ≤ v → v + j = w → fX9_floatAt_118 462 (n + j) σ p x y a b (nI v) = fX9_floatAt_118 462 n σ p x y a b (nI w) := by
    intro j
    induction j with
    | zero =>
      intro v n _ e
      rw [show v = w by omega]
      rfl
    | succ j ih =>
      intro v n v1 e
      rw [show n + (j + 1) = (n + j) + 1 by omega, step (n + j) v v1 (by omega)]
      exact ih (v + 1) n (by omega) (by omega)
  refine ⟨FU - (w - 1) - 1, ?_⟩
  have := key (w - 1) 1 (FU - (w - 1)) (by omega) (by omega)
  rw [show FU - (w - 1) + (w - 1) = FU by show 6000 - (w - 1) + (w - 1) = 6000; omega] at this
  rw [show FU - (w - 1) - 1 + 1 = FU - (w - 1) by show 6000 - (w - 1) - 1 + 1 = 6000 - (w - 1); omega]
  exact this
theorem c_floatAt {σ : Sg} (h : RR σ) (p x y a b : Int32) : PI (fL_floatAt σ p x y a b 476 1) (fun s => fX9_floatAt s 462 p x y a b) := by
  obtain ⟨S, l, c, m, tx⟩ := h
  have h1 := c.1
  have hS := c.2.2.1
  have hR : RR σ := ⟨S, l, c, m, tx⟩
  have em : (-400 : Int32).toInt = -400 := rfl
  have e400 : (400 : Int32).toInt = 400 := rfl
  have e10 : (10 : Int32).toInt = 10 := rfl
  have no : ∀ (z : Int32), z = 1 ∨ z = 2 ∨ z = 3 → fX9_floatAt_98 462 σ p x y a b z = some (0, su σ 462 3 z) := fun z hz => by
    unfold fX9_floatAt_98
    rcases hz with rfl | rfl | rfl
    · rw [rf1]; rfl
    · rw [rf2]; rfl
    · rw [rf3]; rfl
  -- the reference's first tests
  have may : ∀ s, fX9_floatAt s 462 p x y a b = if (decide (-400 ≤ x.toInt ∧ x.toInt ≤ 400) && decide (-400 ≤ y.toInt ∧ y.toInt ≤ 400) && decide (10 ≤ a.toInt ∧ a.toInt ≤ 400) && decide (10 ≤ b.toInt ∧ b.toInt ≤ 400)) = true then fX9_floatAt_57 462 s p x y a b 1 else fX9_floatAt_57 462 s p x y a b 0 := fun s => by
    unfold fX9_floatAt fX9_floatAt_56
    rw [m_within, m_within, m_within, m_within, em, e400, e10]
    simp only [j_b]
    cases decide (-400 ≤ x.toInt ∧ x.toInt ≤ 400) <;> cases decide (-400 ≤ y.toInt ∧ y.toInt ≤ 400) <;> cases decide (10 ≤ a.toInt ∧ a.toInt ≤ 400) <;> cases decide (10 ≤ b.toInt ∧ b.toInt ≤ 400) <;> rfl
  cases q : exP S p
  · refine pi_no (k := 1) (b := 0) hR ?_ (by decide) ?_
    · unfold fL_floatAt fX8_floatAt
      rw [s_reqP (by rw [h1]; exact hS), h1, q]
      rfl
    · show fX9_floatAt σ 462 p x y a b = _
      rw [may σ]
      have : ∀ s0, fX9_floatAt_57 462 σ p x y a b s0 = some (0, su σ 462 3 1) := fun s0 => by
        unfold fX9_floatAt_57
        rw [m_isP m.2, j_b, q]
        exact no 1 (Or.inl rfl)
      rw [this, this]
      split <;> rfl
  have bad : (decide (-400 ≤ x.toInt ∧ x.toInt ≤ 400) && decide (-400 ≤ y.toInt ∧ y.toInt ≤ 400) && decide (10 ≤ a.toInt ∧ a.toInt ≤ 400) && decide (10 ≤ b.toInt ∧ b.toInt ≤ 400)) = false → fX9_floatAt σ 462 p x y a b = some (0, su σ 462 3 2) := fun z => by
    rw [may σ, z, if_neg Bool.false_ne_true]
    unfold fX9_floatAt_57
    rw [m_isP m.2, j_b, q, if_pos rfl, if_pos rfl]
    exact no 2 (Or.inr (Or.inl rfl))
  by_cases hx : -400 ≤ x.toInt ∧ x.toInt ≤ 400
  · by_cases hy : -400 ≤ y.toInt ∧ y.toInt ≤ 400
    · by_cases ha : 10 ≤ a.toInt ∧ a.toInt ≤ 400
      · by_cases hb : 10 ≤ b.toInt ∧ b.toInt ≤ 400
        · obtain ⟨k, hk, hk12, ek⟩ := exP_n q
          obtain ⟨-, -, -, -, ⟨d, wn, hI⟩, hO, -⟩ := id hS
          have F := fl4 hI.2.2.1
          have hpv : pv σ (1 + 5) = S_pl S := S_pv h1
          have eo : (odp (S_pl S)).1 = S_pl S 6 1 := rfl
          have pre8 : fX8_floatAt σ p x y a b = if S_pl S 6 1 < 4 then ((fX8_keepRecord σ).bind fun σ17 => (fX1_withdraw σ17 (1 + 5) p).bind fun σ18 => (fX1_lowestFreeWindow σ18 (1 + 5)).bind fun r19 => (fX1_setCorner σ18 (1 + 5) r19 x y).bind fun σ20 => (fX1_setSize σ20 (1 + 5) r19 a b).bind fun σ21 => (fX1_makeRootGroup σ21 (1 + 5) r19).bind fun r22 => (fX1_joinGroup r22.2 (1 + 5) p r22.1).bind fun σ23 => (fX0_putLast σ23 ((1 + 5) + 6) r19).bind fun σ24 => (fX0_putFirst σ24 (1 + 3) p).bind fun σ25 => (fX2_compute σ25 422 1).bind fun σ26 => some (.inl r19, σ26)) else some (.inr 2, σ) := by
            unfold fX8_floatAt
            rw [s_reqP (by rw [h1]; exact hS), h1, q, j_b, if_pos rfl, j_xl, s_reqR, j_b, em, e400, decide_eq_true hx, if_pos rfl, j_xl, s_reqR, j_b, em, e400, decide_eq_true hy, if_pos rfl, j_xl, s_reqR, j_b, e10, e400, decide_eq_true ha, if_pos rfl, j_xl, s_reqR, j_b, e10, e400, decide_eq_true hb, if_pos rfl, j_xl, s_size, j_b, ← odp_odv, hpv, eo]
            have t : (oI (S_pl S 6 1)).toInt = S_pl S 6 1 := j_oI (by omega) (by omega)
            have t4 : (4 : Int32).toInt = 4 := rfl
            by_cases z : S_pl S 6 1 < 4
            · rw [if_pos z, if_pos (by rw [j_lt, t, t4]; exact z)]
            · rw [if_neg z, if_neg (fun w => z (by rw [j_lt, t, t4] at w; exact w))]
          have pre9 : ∀ s, MR s S l → fX9_floatAt s 462 p x y a b = if S_pl S 6 1 < 4 then fX9_floatAt_98 462 s p x y a b 0 else fX9_floatAt_98 462 s p x y a b 3 := fun s ms => by
            have ct := mo_ct (σ := s) (j := 18) (c := 246) (cap := 4) (Or.inl ⟨rfl, rfl, rfl⟩)
            rw [ms.2.2.1.oe.1, eo] at ct
            rw [may s, decide_eq_true hx, decide_eq_true hy, decide_eq_true ha, decide_eq_true hb, if_pos (by rfl)]
            unfold fX9_floatAt_57
            rw [m_isP ms.2, j_b, q, if_pos rfl, if_neg (show ¬ (1 : Int32) = 0 by decide), if_pos (show ck 246 921 from by decide)]
            have e246 : (246 : Int32).toNatClampNeg = 246 := by decide
            rw [e246]
            show (if s.1 463 246 = 4 then _ else _) = _
            have t4 : (4 : Int32).toInt = 4 := rfl
            by_cases z : S_pl S 6 1 < 4
            · rw [if_pos z, if_neg (fun w => by rw [j_eq, ct, t4] at w; omega)]
            · rw [if_neg z, if_pos (by rw [j_eq, ct, t4]; omega)]
          by_cases fc : S_pl S 6 1 < 4
          · obtain ⟨hI1, wd⟩ := withdraw_ok hI hk12
            have k1 : v_withdraw (S_pl S) k 13 k = -1 := by rw [wd.1 k hk12, if_pos rfl]
            have h15 : v_withdraw (S_pl S) k 15 k = 0 := by rw [wd.2.1 k hk12, if_pos rfl]
            obtain ⟨f, hf, fm, f3, fl⟩ := v_mn_sp (free_V hI1 hk12 k1).1
            -- the window
            obtain ⟨w9, w91, w95, w9r⟩ := fw_ex hI fc
            have w9r' := wd_5 hI hk12 w95 w9r
            obtain ⟨w, hw5, lw, hw1, hwr, hwl⟩ : ∃ w : Nat, w < 5 ∧ v_lw (v_withdraw (S_pl S) k) = w ∧ 1 ≤ w ∧ v_withdraw (S_pl S) k 5 w = -1 ∧ ∀ v, 1 ≤ v → v < w → v_withdraw (S_pl S) k 5 v ≠ -1 := by
              rcases fnd_spec (fun w => decide (1 ≤ w) && decide (v_withdraw (S_pl S) k 5 w = -1)) 5 with ⟨-, z⟩ | ⟨i, hi, z, u, v⟩
              · have := z w9 w95
                rw [decide_eq_true w91, decide_eq_true w9r'] at this
                cases this
              · simp only [Bool.and_eq_true, decide_eq_true_eq] at u
                refine ⟨i, hi, z, u.1, u.2, fun v' v1 vi zz => ?_⟩
                have := v v' vi
                rw [decide_eq_true v1, decide_eq_true zz] at this
                cases this
            have tw : (oI (w : Int)).toInt = w := j_oI (by omega) (by omega)
            have tf : (oI (f : Int)).toInt = f := j_oI (by omega) (by omega)
            obtain ⟨roo, glo, ood⟩ := fp_rows (V := v_withdraw (S_pl S) k) (x := x.toInt) (y := y.toInt) (a := a.toInt) (b := b.toInt) hw5 hf fm
            have gl := ge_lo (V := v_withdraw (S_pl S) k) (x := x.toInt) (y := y.toInt) (a := a.toInt) (b := b.toInt) hw5
            have lo' : LO (odp (fpV (v_withdraw (S_pl S) k) w x.toInt y.toInt a.toInt b.toInt)) 5 (flw (fpV (v_withdraw (S_pl S) k) w x.toInt y.toInt a.toInt b.toInt)) := by
              rw [ood]
              refine hI1.2.2.1.pl (by decide) hw5 ?_ (fun i hi ne => ?_)
              · unfold flw
                rw [roo.2.1 w hw5, if_pos rfl, decide_eq_true hw1, decide_eq_true (show (f : Int) ≠ -1 by omega)]
                rfl
              · unfold flw
                rw [roo.2.1 i hi, if_neg ne]
            have ge' : Geo (fpV (v_withdraw (S_pl S) k) w x.toInt y.toInt a.toInt b.toInt) := fun v hv => by
              obtain ⟨g1, g2, g3, g4⟩ := hI1.2.2.2 v hv
              rw [glo 1 (by omega) (by omega), glo 2 (by omega) (by omega), glo 3 (by omega) (by omega), glo 4 (by omega) (by omega), gl.1, gl.2.1, gl.2.2.1, gl.2.2.2]
              by_cases z : v = w
              · rw [if_pos z, if_pos z, if_pos z, if_pos z]
                exact ⟨hx, hy, ha, hb⟩
              · rw [if_neg z, if_neg z, if_neg z, if_neg z]
                exact ⟨g1, g2, g3, g4⟩
            have hJ := inv_root hI1 hk12 k1 hf f3 hw5 hwr roo lo' ge'
            have jr := join_rows (V := fpV (v_withdraw (S_pl S) k) w x.toInt y.toInt a.toInt b.toInt) hk12 hf
            have e13 : fpV (v_withdraw (S_pl S) k) w x.toInt y.toInt a.toInt b.toInt 13 = v_withdraw (S_pl S) k 13 := roo.2.2 13 (by omega)
            have hSI : SI (pfS S (o_pf (S_fo S) k) (v_join (fpV (v_withdraw (S_pl S) k) w x.toInt y.toInt a.toInt b.toInt) k f)) := dk_SI hS hk12 ek hJ (fun i hi ne => by rw [jr.1 i, if_neg ne, e13, wd.1 i hi, if_neg ne]) (by rw [jr.1 k, if_pos rfl]; omega)
            obtain ⟨σ1, a1, f1, c1⟩ := s_kr c
            obtain ⟨σ2, a2, o2, v2⟩ := s_wd c1.1 hI p
            rw [hk] at v2
            obtain ⟨σ3, a3, o3, v3⟩ := s_do v2 (s_setCorner (σ := σ2) (b := 1 + 5) (oI (w : Int)) x y)
            rw [S_pv v2, tw] at v3
            obtain ⟨σ4, a4, o4, v4⟩ := s_do v3 (s_setSize (σ := σ3) (b := 1 + 5) (oI (w : Int)) a b)
            rw [S_pv v3, tw] at v4
            have v4 : stv σ4 1 = pfS S (S_fo S) (geV (v_withdraw (S_pl S) k) w x.toInt y.toInt a.toInt b.toInt) := v4
            obtain ⟨σ5, a5, o5, v5⟩ := s_makeRootGroup (σ := σ4) (b := 1 + 5) (oI (w : Int))
            have pv4 : pv σ4 (1 + 5) = geV (v_withdraw (S_pl S) k) w x.toInt y.toInt a.toInt b.toInt := S_pv v4
            rw [pv4, tw] at v5
            rw [pv4, ge_mn, fm] at a5
            have v5' : stv σ5 1 = pfS S (S_fo S) (rtV (geV (v_withdraw (S_pl S) k) w x.toInt y.toInt a.toInt b.toInt) w) := by
              rw [stv_pl (b := 1) o5, v5, v4]
              rfl
            obtain ⟨σ6, a6, o6, v6⟩ := s_do v5' (s_join (σ := σ5) (b := 1 + 5) p (oI (f : Int)))
            rw [S_pv v5', hk, tf] at v6
            have jod : odp (v_join (rtV (geV (v_withdraw (S_pl S) k) w x.toInt y.toInt a.toInt b.toInt) w) k f) = odp (v_withdraw (S_pl S) k) := by
              have j2 := join_rows (V := rtV (geV (v_withdraw (S_pl S) k) w x.toInt y.toInt a.toInt b.toInt) w) hk12 hf
              have : odp (v_join (rtV (geV (v_withdraw (S_pl S) k) w x.toInt y.toInt a.toInt b.toInt) w) k f) = odp (rtV (geV (v_withdraw (S_pl S) k) w x.toInt y.toInt a.toInt b.toInt) w) := by
                unfold odp
                rw [j2.2.2.2 6 (by omega) (by omega) (by omega), j2.2.2.2 7 (by omega) (by omega) (by omega)]
              rw [this, rt_odp, ge_odp]
            have pv6 : pv σ6 (1 + 5) = v_join (rtV (geV (v_withdraw (S_pl S) k) w x.toInt y.toInt a.toInt b.toInt) w) k f := S_pv v6
            obtain ⟨σ7, a7, o7, v7⟩ := s_do v6 (s_flLast (σ := σ6) (b := 1 + 5) (oI (w : Int)) (by rw [pv6, jod]; exact hI1.2.2.1.ok (by decide)))
            rw [pv6, tw, jod, v_od_join] at v7
            obtain ⟨σ8, a8, o8, v8⟩ := s_pfo v7 (hO.ok (by decide)) p
            rw [hk] at v8
            have O : Out σ1 σ8 1 70 := ((((((o2.tr o3).tr o4).tr (o5.mo (by omega) (by omega))).tr o6).tr o7).tr o8)
            obtain ⟨σ9, a9, o9, c9⟩ := c1.mod (fun x hx => O.2 x (by omega)) (show stv σ8 1 = pfS S (o_pf (S_fo S) k) (v_join (fpV (v_withdraw (S_pl S) k) w x.toInt y.toInt a.toInt b.toInt) k f) from v8) hSI
            refine pi_ok (v := oI (w : Int)) tx m ?_ (fun x hx => by rw [o9.2 x (by omega), O.2 x (by omega)]; exact f1 x hx) c9 (fun s ms => ?_)
            · unfold fL_floatAt
              have lw2 : v_lw (pv σ2 (1 + 5)) = w := by
                rw [S_pv v2]
                exact lw
              rw [pre8, if_pos fc, a1, j_b, a2, j_b, s_lowestFreeWindow, j_b, lw2]
              rw [a3, j_b, a4, j_b, a5, j_b]
              show (((fX1_joinGroup σ5 (1 + 5) p (oI (f : Int))).bind _).bind _) = _
              rw [a6, j_b, a7, j_b, a8, j_b, a9, j_b, j_b, j_xl, if_pos (by decide), j_nm]
              rfl
            · obtain ⟨s1, b1, g1, x1, m1⟩ := m_kr (ms.s3 (k := 0))
              obtain ⟨s2, b2, w2, vm2, fr2⟩ := m_takes m1.2.2.1 hI.1 hI.2.1 hI.2.2.1 hk hk12
              have ew : (nI w).toInt = w := j_nI (by omega)
              obtain ⟨n, en⟩ := m_fl118 vm2 hw5 hw1 hwr hwl p x y a b
              obtain ⟨s3, b3, w3, u3⟩ := m_s0 (σ := s2) ew hw5 1
              obtain ⟨s4, b4, w4, u4⟩ := m_s1 (σ := s3) ew hw5 x
              obtain ⟨s5, b5, w5, u5⟩ := m_s2 (σ := s4) ew hw5 y
              obtain ⟨s6, b6, w6, u6⟩ := m_s3 (σ := s5) ew hw5 a
              obtain ⟨s7, b7, w7, u7⟩ := m_s4 (σ := s6) ew hw5 b
              have U7 : mv (s7.1 463) = mu (mu (mu (mu (mu (mv (s2.1 463)) 12 w (1 : Int32).toInt) 13 w x.toInt) 14 w y.toInt) 15 w a.toInt) 16 w b.toInt := by rw [u7, u6, u5, u4, u3]
              have Uo : ∀ j, (j < 12 ∨ 17 ≤ j) → mv (s7.1 463) j = mv (s2.1 463) j := fun j hj => by rw [U7, mu_ne (by omega), mu_ne (by omega), mu_ne (by omega), mu_ne (by omega), mu_ne (by omega)]
              have oe2 := vm2.oe
              have mo7 : mo (mv (s7.1 463)) 18 = mo (mv (s2.1 463)) 18 := by
                unfold mo
                rw [Uo 18 (by omega), Uo 19 (by omega)]
              have F1 := fl4 hI1.2.2.1
              obtain ⟨s8, b8, w8, u8, r8⟩ := m_comesLast (σ := s7) (j := 18) (c := 246) (cap := 4) (Or.inl ⟨rfl, rfl, rfl⟩) (by rw [mo7, oe2.1]; exact F1) (nI w) (by rw [mo7, (oe2.lv _).1, ew]; exact hI1.2.2.1.lt4 hw5 hw1)
              rw [mo7, ew] at u8
              have mo8 : mo (mv (s8.1 463)) 20 = mo (mv (s1.1 463)) 20 := by
                unfold mo
                rw [r8 20 (by omega) (by omega), r8 21 (by omega) (by omega), Uo 20 (by omega), Uo 21 (by omega), fr2 20 (by omega), fr2 21 (by omega)]
              have r5 := roo.2.1
              have E : ∀ (U : VW) (z1 z2 z3 z4 z5 : Int) (v : Nat), mu (mu (mu (mu (mu U 12 w z1) 13 w z2) 14 w z3) 15 w z4) 16 w z5 12 v = (if v = w then z1 else U 12 v) ∧ mu (mu (mu (mu (mu U 12 w z1) 13 w z2) 14 w z3) 15 w z4) 16 w z5 13 v = (if v = w then z2 else U 13 v) ∧ mu (mu (mu (mu (mu U 12 w z1) 13 w z2) 14 w z3) 15 w z4) 16 w z5 14 v = (if v = w then z3 else U 14 v) ∧ mu (mu (mu (mu (mu U 12 w z1) 13 w z2) 14 w z3) 15 w z4) 16 w z5 15 v = (if v = w then z4 else U 15 v) ∧ mu (mu (mu (mu (mu U 12 w z1) 13 w z2) 14 w z3) 15 w z4) 16 w z5 16 v = if v = w then z5 else U 16 v := fun U z1 z2 z3 z4 z5 v => ⟨by rw [mu_ne (by omega), mu_ne (by omega), mu_ne (by omega), mu_ne (by omega), mu_at], by rw [mu_ne (by omega), mu_ne (by omega), mu_ne (by omega), mu_at, mu_ne (by omega)], by rw [mu_ne (by omega), mu_ne (by omega), mu_at, mu_ne (by omega), mu_ne (by omega)], by rw [mu_ne (by omega), mu_at, mu_ne (by omega), mu_ne (by omega), mu_ne (by omega)], by rw [mu_at, mu_ne (by omega), mu_ne (by omega), mu_ne (by omega), mu_ne (by omega)]⟩
              obtain ⟨s9, b9, w9', vm9, oe9, fs9⟩ := m_roots (σ := s8) (U := mv (s2.1 463)) (V := v_withdraw (S_pl S) k) (V' := fpV (v_withdraw (S_pl S) k) w x.toInt y.toInt a.toInt b.toInt) (d := d) (wn := wn) vm2 hI1.1 hf f3 fl hw5 roo (fun j hj => by rw [r8 j (by omega) (by omega), Uo j (by omega)]) (fun v hv => by
                rw [r8 12 (by omega) (by omega), U7, (E _ _ _ _ _ _ v).1, r5 v hv]
                by_cases z : v = w
                · rw [if_pos z, if_pos z, if_pos (Or.inr (show (f : Int) ≠ -1 by omega))]
                  rfl
                · rw [if_neg z, if_neg z, vm2.ex hv]) (fun v hv z => by
                obtain ⟨-, E1, E2, E3, E4⟩ := E (mv (s2.1 463)) (1 : Int32).toInt x.toInt y.toInt a.toInt b.toInt v
                rw [r8 13 (by omega) (by omega), r8 14 (by omega) (by omega), r8 15 (by omega) (by omega), r8 16 (by omega) (by omega), U7, E1, E2, E3, E4, glo 1 (by omega) (by omega), glo 2 (by omega) (by omega), glo 3 (by omega) (by omega), glo 4 (by omega) (by omega), gl.1, gl.2.1, gl.2.2.1, gl.2.2.2]
                rw [r5 v hv] at z
                by_cases zw : v = w
                · rw [if_pos zw, if_pos zw, if_pos zw, if_pos zw, if_pos zw, if_pos zw, if_pos zw, if_pos zw]
                  exact ⟨rfl, rfl, rfl, rfl⟩
                · rw [if_neg zw] at z
                  rw [if_neg zw, if_neg zw, if_neg zw, if_neg zw, if_neg zw, if_neg zw, if_neg zw, if_neg zw]
                  exact vm2.geo hv z) (by rw [ood]; exact u8.tr (oe2.pl w)) (a := p) (b := nI w) hk hk12 ew (by rw [k1]) (by rw [h15]) (o := S_fo S) (by rw [mo8]; exact m1.2.2.2.1) (hO.ok (by decide)) (hO.lt hk12)
              have W : Out s1 s9 463 463 := (((((((w2.tr w3).tr w4).tr w5).tr w6).tr w7).tr w8).tr w9')
              have fs8 : FS (mv (s1.1 463)) (mv (s8.1 463)) := fun j hj => by rw [r8 j (by omega) (by omega), Uo j (by omega)]; exact fr2.fs j hj
              refine ⟨s9, ?_, (G9.s3.tr g1).tr (F9.ou W), m1.mod W (m1.2.pf (fs8.tr fs9) vm9 oe9)⟩
              show fX9_floatAt s 462 p x y a b = _
              rw [pre9 s ms, if_pos fc]
              unfold fX9_floatAt_98
              rw [rf0, j_b]
              show (fX9_saves (su s 462 3 0) 462).bind _ = _
              have nw : v_we (v_withdraw (S_pl S) k) (nI w).toInt = false := by
                rw [ew, v_we_k hw5, hwr, decide_eq_false (by omega)]
                rfl
              rw [b1, j_b, b2, j_b, en, fX9_floatAt_118, m_isW vm2, j_b, nw, if_neg Bool.false_ne_true, b3, j_b, b4, j_b, b5, j_b, b6, j_b, b7, j_b, show (246 : Int32) = nI 246 from rfl, b8, j_b, b9, j_b, j_nIo w (by omega)]
          · refine pi_no (k := 3) (b := 0) hR ?_ (by decide) ?_
            · unfold fL_floatAt
              rw [pre8, if_neg fc]
              rfl
            · show fX9_floatAt σ 462 p x y a b = _
              rw [pre9 σ m, if_neg fc]
              exact no 3 (Or.inr (Or.inr rfl))
        · refine pi_no (k := 2) (b := 0) hR ?_ (by decide) (bad (by rw [decide_eq_false hb, Bool.and_false]))
          unfold fL_floatAt fX8_floatAt
          rw [s_reqP (by rw [h1]; exact hS), h1, q, j_b, if_pos rfl, j_xl, s_reqR, j_b, em, e400, decide_eq_true hx, if_pos rfl, j_xl, s_reqR, j_b, em, e400, decide_eq_true hy, if_pos rfl, j_xl, s_reqR, j_b, e10, e400, decide_eq_true ha, if_pos rfl, j_xl, s_reqR, j_b, e10, e400, decide_eq_false hb]
          rfl
      · refine pi_no (k := 2) (b := 0) hR ?_ (by decide) (bad (by rw [decide_eq_false ha, Bool.and_false, Bool.false_and]))
        unfold fL_floatAt fX8_floatAt
        rw [s_reqP (by rw [h1]; exact hS), h1, q, j_b, if_pos rfl, j_xl, s_reqR, j_b, em, e400, decide_eq_true hx, if_pos rfl, j_xl, s_reqR, j_b, em, e400, decide_eq_true hy, if_pos rfl, j_xl, s_reqR, j_b, e10, e400, decide_eq_false ha]
        rfl
    · refine pi_no (k := 2) (b := 0) hR ?_ (by decide) (bad (by rw [decide_eq_false hy, Bool.and_false, Bool.false_and, Bool.false_and]))
      unfold fL_floatAt fX8_floatAt
      rw [s_reqP (by rw [h1]; exact hS), h1, q, j_b, if_pos rfl, j_xl, s_reqR, j_b, em, e400, decide_eq_true hx, if_pos rfl, j_xl, s_reqR, j_b, em, e400, decide_eq_false hy]
      rfl
  · refine pi_no (k := 2) (b := 0) hR ?_ (by decide) (bad (by rw [decide_eq_false hx, Bool.false_and, Bool.false_and, Bool.false_and]))
    unfold fL_floatAt fX8_floatAt
    rw [s_reqP (by rw [h1]; exact hS), h1, q, j_b, if_pos rfl, j_xl, s_reqR, j_b, em, e400, decide_eq_false hx]
    rfl
end RAE
end
section
/-! THE RELATION: store, restore, undo -/
section RAF
theorem s_reqS {σ : Sg} (p : Int32) : fX8_requireSlot σ p = some (if decide (0 ≤ p.toInt ∧ p.toInt ≤ 2) then .inl () else .inr 0) := by
  unfold fX8_requireSlot fX8_requireSlot_9
  have e3 : (3 : Int32).toInt = 3 := rfl
  by_cases a : p < 0
  · rw [if_pos a, decide_eq_false (by rw [j_lt, jz0] at a; omega)]
    rfl
  · rw [if_neg a]
    by_cases b : p < 3
    · rw [if_pos b, decide_eq_true (by rw [j_lt, jz0] at a; rw [j_lt, e3] at b; omega)]
      rfl
    · rw [if_neg b, decide_eq_false (by rw [j_lt, e3] at b; omega)]
      rfl
theorem or_lt3 : ∀ m, m < 8 → ∀ k, k < 3 → m ||| 2 ^ k < 8 := by decide
def stoS (S : ST) (k : Nat) : ST := ((S_ex S, (((S_sv S).toNat ||| 2 ^ k : Nat) : Int)), S.2.1, S.2.2.1, S.2.2.2.1, S.2.2.2.2.1, us (S_sl S) k (S_pl S))
theorem sto_sv {S : ST} {k s : Nat} : svB (stoS S k) s = (svB S s || decide (s = k)) := by
  unfold svB stoS
  show Nat.testBit ((((S_sv S).toNat ||| 2 ^ k : Nat) : Int)).toNat s = _
  rw [Int.toNat_natCast, or_bit]
theorem sto_SI {S : ST} (h : SI S) {k : Nat} (hk : k < 3) : SI (stoS S k) := by
  obtain ⟨h1, h2, h3, h4, h5, h6, h7⟩ := h
  refine ⟨h1, ?_, h3, h4, h5, h6, fun s hs z => ?_⟩
  · have := or_lt3 (S_sv S).toNat (by omega) k hk
    show (0 : Int) ≤ (((S_sv S).toNat ||| 2 ^ k : Nat) : Int) ∧ (((S_sv S).toNat ||| 2 ^ k : Nat) : Int) < 8
    omega
  · show ∃ d wn, Inv (us (S_sl S) k (S_pl S) s) d wn
    unfold us
    by_cases q : s = k
    · rw [if_pos q]
      exact h5
    · rw [if_neg q]
      rw [sto_sv, decide_eq_false q, Bool.or_false] at z
      exact h7 s hs z
theorem m_pm_c {f g : Nat → Int32} (e : ∀ c, c < 264 → g c = f c) : m_pm (mv g) = m_pm (mv f) := by
  unfold m_pm
  refine cnt_congr (fun i hi => ?_)
  rw [mv_in (by show i < mw 9; exact hi), mv_in (by show i < mw 9; exact hi), e (ma 9 i) (by show 6 * i + (9 - 6) < 264; omega)]
theorem c_store {σ : Sg} (h : RR σ) (p : Int32) : PI (fL_store σ p 476 1) (fun s => fX9_store s 462 p) := by
  obtain ⟨S, l, c, m, tx⟩ := h
  have h1 := c.1
  have hS := c.2.2.1
  have hR : RR σ := ⟨S, l, c, m, tx⟩
  have e2 : (2 : Int32).toInt = 2 := rfl
  by_cases q : 0 ≤ p.toInt ∧ p.toInt ≤ 2
  · obtain ⟨k, hk⟩ : ∃ k : Nat, p.toInt = k := ⟨p.toInt.toNat, by omega⟩
    have hk3 : k < 3 := by omega
    obtain ⟨σ1, a1, f1, c1⟩ := s_kr c
    obtain ⟨σ2, a2, o2, v2⟩ := s_saveSlot (σ := σ1) (b := 1) (by rw [c1.1]; exact hS.2.1) hk hk3
    have hv : stv σ2 1 = stoS S k := by
      rw [v2, c1.1]
      rfl
    have c2 := c1.mod0 (fun x hx => o2.2 x (by omega)) hv (sto_SI hS hk3) (fun pl => pl)
    have sz : odv σ2 (1 + 3) = S_fo S := congrArg S_fo hv
    refine pi_ok (v := oI (S_fo S).1) tx m ?_ (fun x hx => by rw [o2.2 x (by omega)]; exact f1 x hx) c2 (fun s ms => ?_)
    · unfold fL_store fX8_store
      rw [s_reqS, decide_eq_true q, j_b, if_pos rfl, j_xl, a1, j_b, a2, j_b, s_size, sz, j_b, j_b, j_xl, if_pos (by decide), j_nm]
      rfl
    · obtain ⟨s1, b1, g1, x1, m1⟩ := m_kr (ms.s3 (k := 0))
      have ea : 264 + (219 * p) = nI (264 + 219 * k) := by
        have : p = nI k := j_eq.mpr (by rw [hk, j_nI (by omega)])
        rw [this, show (219 : Int32) * nI k = nI (219 * k) from (Int32.ofNat_mul 219 k).symm, show (264 : Int32) = nI 264 from rfl, j_a]
      have pm : ∀ s : Sg, (∀ c, c < 264 → s.1 463 c = (su s1 463 (264 + 219 * k) 1).1 463 c) → fX9_placedMany s 462 = some (oI (m_pm (mv (s1.1 463)))) := fun s hs => by
        rw [m_placedMany, m_pm_c (f := s1.1 463) (fun c hc => by
          rw [hs c hc, su_row]
          show (if c = 264 + 219 * k then _ else _) = _
          rw [if_neg (by omega)])]
      obtain ⟨s2, b2, w2, u2⟩ := m_st46 (σ := su s1 463 (264 + 219 * k) 1) (at_ := 264 + 219 * k) (by omega) pm
      rw [su_row] at u2
      obtain ⟨r1, r2, r3, r4⟩ := st_row (s1.1 463) hk3 u2
      have W : Out s1 s2 463 463 := su_out.tr w2
      have vm := m1.2.2.1
      have cn := LO.cn hS
      have pmS : (m_pm (mv (s1.1 463)) : Int) = (S_fo S).1 := by rw [vm.pm, cn]; rfl
      refine ⟨s2, ?_, (G9.s3.tr g1).tr (F9.ou W), m1.mod W ?_⟩
      · show fX9_store s 462 p = _
        unfold fX9_store fX9_store_15
        rw [m_within, jz0, e2, decide_eq_true q, j_b, if_pos rfl, rf0, j_b]
        show (fX9_saves (su s 462 3 0) 462).bind _ = _
        rw [b1, j_b, j_nm, ea, if_pos (j_ckn (by omega) (by decide)), j_nm, j_cl _ (by omega)]
        show fX9_store_46 462 FU (su s1 463 (264 + 219 * k) 1) (nI (264 + 219 * k)) (nI 0) = _
        rw [show nI 0 = (0 : Int32) from rfl, b2, pmS]
      · obtain ⟨t1, t2, t3, t4⟩ := m1.2
        refine ⟨fun i hi => ?_, t2.rows (fun j hj => r1 j (by omega)), ?_, fun t ht => ?_⟩
        · rw [r1 6 (by omega), r1 7 (by omega), r1 8 (by omega)]
          exact t1 i hi
        · show OE (_, _) _
          rw [r1 20 (by omega), r1 21 (by omega)]
          exact t3
        · rw [sto_sv]
          by_cases z : t = k
          · rw [z, r3, decide_eq_true rfl, Bool.or_true]
            refine ⟨rfl, fun _ => ?_⟩
            show VM (sr (mv (s2.1 463) (22 + k))) (us (S_sl S) k (S_pl S) k) _
            unfold us
            rw [if_pos rfl]
            obtain ⟨-, -, -, -, ⟨d, wn, hI⟩, -, -⟩ := hS
            exact t2.cg (fl4 hI.2.2.1).2 (fun j i hj hi => r4 j i hj hi)
          · rw [r2 t ht z, decide_eq_false z, Bool.or_false]
            show _ ∧ (_ → VM (sr (mv (s1.1 463) (22 + t))) (us (S_sl S) k (S_pl S) t) _)
            unfold us
            rw [if_neg z]
            exact t4 t ht
  · refine pi_no (k := 1) (b := 0) hR ?_ (by decide) ?_
    · unfold fL_store fX8_store
      rw [s_reqS, decide_eq_false q]
      rfl
    · show fX9_store σ 462 p = _
      unfold fX9_store fX9_store_15
      rw [m_within, jz0, e2, decide_eq_false q, rf1]
      rfl
/-! restore -/
theorem fc_LO {c m : Nat → Bool} {o : OD} (h : LO o 12 m) : ∀ n, n ≤ 12 → LO (fc c o n) 12 (fun i => if i < n then c i else m i) := by
  intro n
  induction n with
  | zero => exact fun _ => h.cg (fun i _ => by rw [if_neg (by omega)])
  | succ n ih =>
    intro hn
    have ih := ih (by omega)
    show LO (if c n then (if o_ix (fc c o n) n = -1 then o_pl (fc c o n) n else fc c o n) else o_lv (fc c o n) n) 12 _
    have oth : ∀ i, i < 12 → i ≠ n → (if i < n + 1 then c i else m i) = if i < n then c i else m i := fun i _ ne => by
      by_cases z : i < n
      · rw [if_pos z, if_pos (by omega)]
      · rw [if_neg z, if_neg (by omega)]
    cases q : c n
    · simp only [Bool.false_eq_true, if_false]
      exact ih.lv2 (by omega) (by rw [if_pos (by omega)]; exact q) oth
    · simp only [if_true]
      by_cases z : o_ix (fc c o n) n = -1
      · rw [if_pos z]
        exact ih.pl (by decide) (by omega) (by rw [if_pos (by omega)]; exact q) oth
      · rw [if_neg z]
        refine ih.cg (fun i hi => ?_)
        by_cases y : i = n
        · rw [y, if_pos (by omega), if_neg (by omega), q]
          cases w : m n
          · exact absurd (ih.ix_no (by rw [if_neg (by omega)]; exact w)) z
          · rfl
        · exact oth i hi y
def rsV (S : ST) (k : Nat) : VW := wds (fun q => !exB S q) (v_load (S_sl S k) (S_pl S)) 12
def rsS (S : ST) (k : Nat) : ST := pfS S (fc (plc (rsV S k)) (S_fo S) 12) (rsV S k)
theorem ld_inv {S : ST} (h : SI S) {k : Nat} (hk : k < 3) (sv : svB S k = true) : ∃ d wn, Inv (v_load (S_sl S k) (S_pl S)) d wn := by
  obtain ⟨h1, h2, h3, h4, ⟨d0, wn0, i0⟩, h6, h7⟩ := h
  obtain ⟨d, wn, i⟩ := h7 k hk sv
  have e : ∀ j, 5 ≤ j → v_load (S_sl S k) (S_pl S) j = S_sl S k j := fun j hj => by
    unfold v_load
    rw [up_ne (by omega), up_ne (by omega)]
  refine ⟨d, wn, i.rows (fun j hj => e j (by omega)) ?_ (fun w hw => ?_)⟩
  · have : odp (v_load (S_sl S k) (S_pl S)) = odp (S_sl S k) := by
      unfold odp
      rw [e 6 (by omega), e 7 (by omega)]
    rw [this]
    exact i.2.2.1
  · obtain ⟨g1, g2, g3, g4⟩ := i.2.2.2 w hw
    obtain ⟨-, -, m3, m4⟩ := i0.2.2.2 0 (by omega)
    have u3 : ∀ i, up (up (S_sl S k) 3 0 (S_pl S 3 0)) 4 0 (S_pl S 4 0) 3 i = if i = 0 then S_pl S 3 0 else S_sl S k 3 i := fun i => by
      rw [up_ne (by omega)]
      exact up3 (w := 0) (by omega) i
    have u4 : ∀ i, up (up (S_sl S k) 3 0 (S_pl S 3 0)) 4 0 (S_pl S 4 0) 4 i = if i = 0 then S_pl S 4 0 else S_sl S k 4 i := fun i => by
      have a := up4 (V := up (S_sl S k) 3 0 (S_pl S 3 0)) (w := 0) (x := S_pl S 4 0) (by omega) i
      have b : up (S_sl S k) 3 0 (S_pl S 3 0) 4 = S_sl S k 4 := up_ne (by omega)
      exact a.trans (by rw [b])
    unfold v_load
    rw [u3, u4, up_ne (by omega), up_ne (by omega), up_ne (by omega), up_ne (by omega)]
    refine ⟨g1, g2, ?_, ?_⟩
    · split <;> omega
    · split <;> omega
theorem rs_SI {S : ST} (h : SI S) {k : Nat} (hk : k < 3) (sv : svB S k = true) : SI (rsS S k) := by
  obtain ⟨d, wn, i⟩ := ld_inv h hk sv
  obtain ⟨i', w13⟩ := wds_inv (c := fun q => !exB S q) i 12 (by omega)
  have hO := h.2.2.2.2.2.1
  refine h.pf i' (fun p hp z => ?_) ((fc_LO hO 12 (by omega)).cg (fun i hi => by rw [if_pos hi]))
  cases q : exB S p
  · exact absurd (by show wds _ _ 12 13 p = -1; rw [w13 p hp, if_pos ⟨hp, by simp [q]⟩]) z
  · rfl
theorem c_restore {σ : Sg} (h : RR σ) (p : Int32) : PI (fL_restore σ p 476 1) (fun s => fX9_restore s 462 p) := by
  obtain ⟨S, l, c, m, tx⟩ := h
  have h1 := c.1
  have hS := c.2.2.1
  have hR : RR σ := ⟨S, l, c, m, tx⟩
  have e2 : (2 : Int32).toInt = 2 := rfl
  have no : ∀ (z v : Int32), z = 1 ∨ z = 2 → fX9_restore_38 462 σ v z = some (0, su σ 462 3 z) := fun z v hz => by
    unfold fX9_restore_38
    rcases hz with rfl | rfl
    · rw [rf1]; rfl
    · rw [rf2]; rfl
  by_cases q : 0 ≤ p.toInt ∧ p.toInt ≤ 2
  · obtain ⟨k, hk⟩ : ∃ k : Nat, p.toInt = k := ⟨p.toInt.toNat, by omega⟩
    have hk3 : k < 3 := by omega
    have ea : 264 + (219 * p) = nI (264 + 219 * k) := by
      have : p = nI k := j_eq.mpr (by rw [hk, j_nI (by omega)])
      rw [this, show (219 : Int32) * nI k = nI (219 * k) from (Int32.ofNat_mul 219 k).symm, show (264 : Int32) = nI 264 from rfl, j_a]
    have pre9 : ∀ s, MR s S l → fX9_restore s 462 p = if svB S k = true then fX9_restore_38 462 s (nI (264 + 219 * k)) 0 else fX9_restore_38 462 s (nI (264 + 219 * k)) 2 := fun s ms => by
      have sl := (ms.2.2.2.2 k hk3).1
      have mvs : mv (s.1 463) (22 + k) 0 = (s.1 463 (264 + 219 * k)).toInt := by
        have : k = 0 ∨ k = 1 ∨ k = 2 := by omega
        rcases this with rfl | rfl | rfl
        · rw [mv_in (by decide)]; rfl
        · rw [mv_in (by decide)]; rfl
        · rw [mv_in (by decide)]; rfl
      rw [mvs] at sl
      unfold fX9_restore
      rw [j_nm, m_within, jz0, e2, decide_eq_true q, j_b, if_pos rfl, ea, if_pos (j_ckn (by omega) (by decide)), j_cl _ (by omega)]
      show (if s.1 463 (264 + 219 * k) = 0 then _ else _) = _
      cases v : svB S k
      · rw [v] at sl
        rw [if_pos (j_eq.mpr (by rw [sl, jz0]; rfl))]
        rfl
      · rw [v] at sl
        rw [if_neg (fun z => by rw [z, jz0] at sl; simp at sl)]
        rfl
    cases sv : svB S k
    · refine pi_no (k := 2) (b := 0) hR ?_ (by decide) ?_
      · unfold fL_restore fX8_restore
        rw [s_reqS, decide_eq_true q, j_b, if_pos rfl, j_xl, s_isSaved (b := 1) (by rw [h1]; exact hS.2.1) hk hk3, h1, sv]
        rfl
      · show fX9_restore σ 462 p = _
        rw [pre9 σ m, sv]
        exact no 2 _ (Or.inr rfl)
    · obtain ⟨d, wn, hL⟩ := ld_inv hS hk3 sv
      have hO := hS.2.2.2.2.2.1
      obtain ⟨σ1, a1, f1, c1⟩ := s_kr c
      have x1 := c1.1
      obtain ⟨σ2, a2, o2, v2⟩ := s_loadSlot (σ := σ1) (b := 1) (d := d) (wn := wn) (by rw [x1]; exact hS.1) hk hk3 (by rw [x1]; exact hL) (by rw [x1]; exact hO.di (by decide)) (by rw [x1]; exact hO.pn)
      have hv : stv σ2 1 = rsS S k := by
        rw [v2, x1]
        rfl
      have hSI := rs_SI hS hk3 sv
      obtain ⟨σ3, a3, o3, c3⟩ := c1.mod (fun x hx => o2.2 x (by omega)) hv hSI
      have sz : odv σ3 (1 + 3) = fc (plc (rsV S k)) (S_fo S) 12 := congrArg S_fo c3.1
      refine pi_ok (v := oI (fc (plc (rsV S k)) (S_fo S) 12).1) tx m ?_ (fun x hx => by rw [o3.2 x (by omega), o2.2 x (by omega)]; exact f1 x hx) c3 (fun s ms => ?_)
      · unfold fL_restore fX8_restore
        rw [s_reqS, decide_eq_true q, j_b, if_pos rfl, j_xl, s_isSaved (b := 1) (by rw [h1]; exact hS.2.1) hk hk3, h1, sv, j_b, if_pos rfl, a1, j_b, a2, j_b, a3, j_b, s_size, sz, j_b, j_b, j_xl, if_pos (by decide), j_nm]
        rfl
      · obtain ⟨s1, b1, g1, x1, m1⟩ := m_kr (ms.s3 (k := 0))
        obtain ⟨s2, b2, w2, sm2⟩ := m_restore (σ := s1) hk3 m1.2 sv hL (hO.di (by decide)) hO.pn
        have sm2 : SM (mv (s2.1 463)) (rsS S k) := sm2
        have cn := LO.cn hSI
        have cn : (fc (plc (rsV S k)) (S_fo S) 12).1 = cnt (plc (rsV S k)) 12 := cn
        have pm : m_pm (mv (s2.1 463)) = cnt (plc (rsV S k)) 12 := sm2.2.1.pm
        refine ⟨s2, ?_, (G9.s3.tr g1).tr (F9.ou w2), m1.mod w2 sm2⟩
        show fX9_restore s 462 p = _
        rw [pre9 s ms, sv, if_pos rfl]
        unfold fX9_restore_38
        rw [rf0, j_b]
        show (fX9_saves (su s 462 3 0) 462).bind _ = _
        rw [b1, j_b, m_w3 (w := 0) jz0 (by omega), j_b, m_w4 (w := 0) jz0 (by omega), j_b, b2, pm, ← cn]
  · refine pi_no (k := 1) (b := 0) hR ?_ (by decide) ?_
    · unfold fL_restore fX8_restore
      rw [s_reqS, decide_eq_false q]
      rfl
    · show fX9_restore σ 462 p = _
      unfold fX9_restore
      rw [j_nm, m_within, jz0, e2, decide_eq_false q]
      exact no 1 (264 + (219 * p)) (Or.inl rfl)
/-! undo -/
theorem snoc_ex {α : Type} (l : List α) : l = [] ∨ ∃ l' a, l = l' ++ [a] := by
  cases l with
  | nil => exact Or.inl rfl
  | cons x t => exact Or.inr ⟨(x :: t).dropLast, (x :: t).getLast (by simp), (List.dropLast_concat_getLast (by simp)).symm⟩
theorem c_undo {σ : Sg} (h : RR σ) : PI (fL_undo σ 476 1) (fun s => fX9_undo s 462) := by
  obtain ⟨S, l, c, m, tx⟩ := h
  have hR : RR σ := ⟨S, l, c, m, tx⟩
  obtain ⟨h1, ⟨hd, hd5, hh, ll, hn, hr⟩, hS, hl, hP⟩ := id c
  rcases snoc_ex l with e | ⟨l', T, e⟩
  · have l0 : σ.1 0 3 = 0 := by rw [hn, e]; rfl
    refine pi_no (k := 1) (b := 0) hR ?_ (by decide) ?_
    · unfold fL_undo fX8_undo
      rw [if_pos l0]
      rfl
    · show fX9_undo σ 462 = _
      have m0 : σ.1 462 2 = 0 := by rw [m.1.2.1, e]; rfl
      unfold fX9_undo fX9_undo_13
      rw [if_pos m0, rf1]
      rfl
  · have len : l.length = l'.length + 1 := by rw [e, List.length_append]; rfl
    have l5 : l'.length < 5 := by omega
    have gT : l[l'.length]? = some T := by
      rw [e, List.getElem?_append_right (Nat.le_refl _), Nat.sub_self]
      rfl
    have sub : ∀ (k : Nat) (U : ST), l'[k]? = some U → l[k]? = some U := fun k U g => by
      rw [e, List.getElem?_append_left (List.getElem?_eq_some_iff.mp g).1]
      exact g
    have n0 : ¬ nI (l'.length + 1) = 0 := fun z => by rw [j_eq, j_nI (by omega), jz0] at z; omega
    have nm1 : nI (l'.length + 1) - 1 = nI l'.length := by
      rw [show (1 : Int32) = nI 1 from rfl, j_sn (by omega) (by omega)]
      rfl
    have SIT : SI T := hl T (by rw [e]; exact List.mem_append_right _ (List.mem_singleton.mpr rfl))
    -- the class
    have hn : σ.1 0 3 = nI (l'.length + 1) := by rw [hn, len]
    have ch1 : Ch (su σ 0 3 (nI l'.length)) l' := by
      refine ⟨hd, hd5, by rw [su_at, if_neg (by omega)]; exact hh, by omega, by rw [su_at, if_pos ⟨rfl, rfl⟩], fun k U g => ?_⟩
      have := rb_lo hd k
      rw [stv_c (fun c a b => su_ne (by omega))]
      exact hr k U (sub k U g)
    have c1 : CR (su σ 0 3 (nI l'.length)) S l' := ⟨(stv_c (fun c a b => su_ne (by omega))).trans h1, ch1, hS, fun U hU => hl U (by rw [e]; exact List.mem_append_left _ hU), hP.c (fun c a b => su_ne (by omega))⟩
    have ra := s_recordAt (σ := su σ 0 3 (nI l'.length)) (h := hd) (k := l'.length) (by rw [su_at, if_neg (by omega)]; exact hh) hd5 (by omega)
    have rl := rb_lo hd l'.length
    obtain ⟨σ2, a2, o2, v2⟩ := s_stcopy (σ := su σ 0 3 (nI l'.length)) (b := 1) (c := rb hd l'.length) (by omega)
    have hv : stv σ2 1 = T := by
      rw [v2, stv_c (fun c a b => su_ne (by omega))]
      exact hr l'.length T gT
    obtain ⟨σ3, a3, o3, c3⟩ := c1.mod (fun x hx => o2.2 x (by omega)) hv SIT
    have f3 : σ3.1 0 3 = nI l'.length := by rw [o3.2 0 (by omega), o2.2 0 (by omega), su_at, if_pos ⟨rfl, rfl⟩]
    refine pi_ok (v := nI l'.length) tx m ?_ (fun x hx => by rw [o3.2 x (by omega), o2.2 x (by omega)]; exact su_ne (by omega)) c3 (fun s ms => ?_)
    · unfold fL_undo fX8_undo
      rw [hn, if_neg n0, nm1, j_nm, su_at, if_pos ⟨rfl, rfl⟩, ra, j_b, a2, j_b, a3, j_b, f3, j_b, j_xl, if_pos (by decide), j_nm]
      rfl
    · have ms0 := ms.s3 (k := 0)
      obtain ⟨q1, q2, q3⟩ := ms0.1
      rw [len] at q2
      have e22 : (su (su s 462 3 0) 462 2 (nI l'.length)).1 462 2 = nI l'.length := by rw [su_at, if_pos ⟨rfl, rfl⟩]
      obtain ⟨s2, b2, w2, u2⟩ := m_undo33 (σ := su (su s 462 3 0) 462 2 (nI l'.length)) l5 e22
      have e4 : s2.1 464 = (su s 462 3 0).1 464 := by rw [w2.2 464 (by omega), su_ne (by omega)]
      refine ⟨s2, ?_, ?_, ⟨by omega, by rw [w2.2 462 (by omega)]; exact e22, fun k U g => ?_⟩, ?_⟩
      · show fX9_undo s 462 = _
        have sq : s.1 462 2 = nI (l'.length + 1) := by
          have : (su s 462 3 0).1 462 2 = s.1 462 2 := by rw [su_at, if_neg (by omega)]
          rw [← this]
          exact q2
        unfold fX9_undo fX9_undo_13
        rw [sq, if_neg n0, rf0, j_b]
        show nm (su (su s 462 3 0) 462 2 ((su s 462 3 0).1 462 2 - 1)) (fun σ2 => fX9_undo_33 462 FU σ2 0) = _
        rw [j_nm, q2, nm1]
        exact b2
      · refine G9.s3.tr ?_
        have fs : F9 (su s 462 3 0) (su (su s 462 3 0) 462 2 (nI l'.length)) := ⟨fun c hc => su_ne (by omega), su_ne (by omega), by rw [su_at, if_neg (by omega)], rfl, by rw [su_at, if_neg (by omega)]⟩
        exact fs.tr (F9.ou w2)
      · have : pr s2 k = pr (su s 462 3 0) k := by
          funext i
          unfold pr
          rw [e4]
        rw [this]
        exact q3 k U (sub k U g)
      · have := q3 l'.length T gT
        rw [mv_cg (f := s2.1 463) (g := pr (su s 462 3 0) l'.length) (fun i hi => by
          rw [u2 i hi, su_ne (by omega)]
          rfl)]
        exact this
end RAF
end
section
/-! THE RELATION: weights; even -/
section RAG
/-- other weights -/
def wgV (V : VW) (D : Nat → Bool) (g : Nat → Int) : VW := fun j i => if j = 11 ∧ i < 23 ∧ D i = true then g i else V j i
theorem wg_ne {V : VW} {D : Nat → Bool} {g : Nat → Int} {j : Nat} (h : j ≠ 11) : wgV V D g j = V j := by
  funext i
  unfold wgV
  rw [if_neg (fun z => h z.1)]
theorem wg_at {V : VW} {D : Nat → Bool} {g : Nat → Int} {i : Nat} (h : i < 23) : wgV V D g 11 i = if D i = true then g i else V 11 i := by
  unfold wgV
  by_cases z : D i = true
  · rw [if_pos ⟨rfl, h, z⟩, if_pos z]
  · rw [if_neg (fun w => z w.2.2), if_neg z]
theorem wg_up {V : VW} {D D' : Nat → Bool} {g : Nat → Int} {c : Nat} (hc : c < 23) (hD : ∀ i, i < 23 → D' i = (D i || decide (i = c))) : up (wgV V D g) 11 c (g c) = wgV V D' g := by
  funext j i
  rw [up_def]
  by_cases j11 : j = 11
  · subst j11
    by_cases i23 : i < 23
    · have e : inr 11 i = true := by rw [inr_11, decide_eq_true i23]
      rw [wg_at i23, wg_at i23, hD i i23]
      by_cases z : i = c
      · rw [if_pos ⟨rfl, by omega, e⟩, decide_eq_true z, Bool.or_true, if_pos rfl, z]
      · rw [if_neg (fun w => z (by omega)), decide_eq_false z, Bool.or_false]
    · have e : inr 11 i = false := by rw [inr_11, decide_eq_false i23]
      rw [if_neg (fun w => by rw [e] at w; exact absurd w.2.2 Bool.false_ne_true)]
      unfold wgV
      rw [if_neg (fun w => i23 w.2.1), if_neg (fun w => i23 w.2.1)]
  · rw [if_neg (fun w => j11 w.1), wg_ne j11, wg_ne j11]
theorem wg_cg {V : VW} {D D' : Nat → Bool} {g g' : Nat → Int} (h : ∀ i, i < 23 → D' i = D i ∧ (D i = true → g' i = g i)) : wgV V D' g' = wgV V D g := by
  funext j i
  unfold wgV
  by_cases z : j = 11 ∧ i < 23 ∧ D i = true
  · rw [if_pos z, if_pos ⟨z.1, z.2.1, by rw [(h i z.2.1).1]; exact z.2.2⟩, (h i z.2.1).2 z.2.2]
  · rw [if_neg z, if_neg (fun w => z ⟨w.1, w.2.1, by rw [← (h i w.2.1).1]; exact w.2.2⟩)]
theorem wg_no {V : VW} {g : Nat → Int} : wgV V (fun _ => false) g = V := by
  funext j i
  unfold wgV
  rw [if_neg (fun w => Bool.false_ne_true w.2.2)]
theorem Inv.wg {V : VW} {d : Nat → Nat} {wn : Nat → Int} (h : Inv V d wn) {D : Nat → Bool} {g : Nat → Int} (b : ∀ n, n < 23 → D n = true → 1 ≤ g n ∧ g n ≤ 1000000) : Inv (wgV V D g) d wn := by
  obtain ⟨t, tb, lo, ge⟩ := h
  have e : ∀ j, j ≠ 11 → wgV V D g j = V j := fun j hj => wg_ne hj
  refine ⟨t.cg (fun n _ => by rw [e 8 (by omega)]) (fun n _ => by rw [e 9 (by omega)]) (fun n _ => by rw [e 10 (by omega)]) (fun n hn q => ?_) (fun w _ => by rw [e 5 (by omega)]), tb.cg (fun g _ => by rw [e 8 (by omega)]) (fun g _ _ => by rw [e 12 (by omega)]) (fun p _ => by rw [e 13 (by omega)]) (fun p _ => by rw [e 14 (by omega)]) (fun p _ => by rw [e 15 (by omega)]), ?_, ge.cg (e 1 (by omega)) (e 2 (by omega)) (e 3 (by omega)) (e 4 (by omega))⟩
  · rw [wg_at hn]
    split
    · exact b n hn (by assumption)
    · exact t.we hn q
  · have : odp (wgV V D g) = odp V := by
      unfold odp
      rw [e 6 (by omega), e 7 (by omega)]
    rw [this]
    exact lo.cg (fun i _ => by unfold flw; rw [e 5 (by omega)])
theorem SI.wg {S : ST} (h : SI S) {D : Nat → Bool} {g : Nat → Int} (b : ∀ n, n < 23 → D n = true → 1 ≤ g n ∧ g n ≤ 1000000) : SI (pfS S (S_fo S) (wgV (S_pl S) D g)) := by
  obtain ⟨h1, h2, h3, h4, ⟨d, wn, i⟩, h6, h7⟩ := h
  exact SI.pf (S := S) ⟨h1, h2, h3, h4, ⟨d, wn, i⟩, h6, h7⟩ (i.wg b) (fun p hp z => h4 p hp (by rw [← wg_ne (V := S_pl S) (D := D) (g := g) (j := 13) (by omega)]; exact z)) (h6.cg (fun p _ => by unfold plc; rw [wg_ne (by omega)]))
theorem VM.wg {U U' V : VW} {X : Nat → Bool} (h : VM U V X) {D : Nat → Bool} {g : Nat → Int} (e : ∀ j, j ≠ 3 → j < 20 → U' j = U j) (g3 : ∀ n, n < 23 → V 9 n ≠ -1 → U' 3 n = if D n = true then g n else U 3 n) : VM U' (wgV V D g) X := by
  obtain ⟨a1, a2, a3, a4, a5, a6, a7, a8, a9⟩ := h
  have w : ∀ j, j ≠ 11 → wgV V D g j = V j := fun j hj => wg_ne hj
  unfold VM
  rw [e 0 (by omega) (by omega), e 1 (by omega) (by omega), e 2 (by omega) (by omega), e 4 (by omega) (by omega), e 5 (by omega) (by omega), e 9 (by omega) (by omega), e 10 (by omega) (by omega), e 11 (by omega) (by omega), e 12 (by omega) (by omega), e 13 (by omega) (by omega), e 14 (by omega) (by omega), e 15 (by omega) (by omega), e 16 (by omega) (by omega), e 17 (by omega) (by omega), e 18 (by omega) (by omega), e 19 (by omega) (by omega), w 1 (by omega), w 2 (by omega), w 3 (by omega), w 4 (by omega), w 5 (by omega), w 6 (by omega), w 7 (by omega), w 8 (by omega), w 9 (by omega), w 10 (by omega), w 12 (by omega), w 13 (by omega), w 14 (by omega), w 15 (by omega)]
  refine ⟨a1, a2, a3, fun n hn q => ⟨?_, (a4 n hn q).2⟩, a5, a6, a7, a8, a9⟩
  rw [g3 n hn q, wg_at hn, (a4 n hn q).1]
/-- which nodes are children at a place before k -/
def chB (V : VW) (s k : Nat) (n : Nat) : Bool := decide (V 9 n = s) && decide (V 10 n < k)
theorem chB_s {V : VW} {d : Nat → Nat} {wn : Nat → Int} {X : Nat → Bool} (t : Tree V d wn X) {s c k : Nat} (hs : s < 23) (ks : V 8 s ≤ 1) (hc : c < 23) (e9 : V 9 c = s) (e10 : V 10 c = k) (i : Nat) (hi : i < 23) : chB V s (k + 1) i = (chB V s k i || decide (i = c)) := by
  unfold chB
  by_cases e : V 9 i = s
  · rw [decide_eq_true e, Bool.true_and, Bool.true_and]
    by_cases z : i = c
    · rw [decide_eq_true z, Bool.or_true, decide_eq_true (by rw [z, e10]; omega)]
    · have ne : V 10 i ≠ k := fun y => z ((t.sp hs ks).1.2.2 i c hi hc (by simp [e]) (by simp [e9]) (by omega))
      rw [decide_eq_false z, Bool.or_false]
      by_cases w : V 10 i < k
      · rw [decide_eq_true w, decide_eq_true (by omega)]
      · rw [decide_eq_false w, decide_eq_false (by omega)]
  · rw [decide_eq_false e, Bool.false_and, Bool.false_and, Bool.false_or, decide_eq_false (fun z => e (by rw [z]; exact e9))]
theorem chB_all {V : VW} {d : Nat → Nat} {wn : Nat → Int} {X : Nat → Bool} (t : Tree V d wn X) {s : Nat} (hs : s < 23) (ks : V 8 s ≤ 1) (i : Nat) (hi : i < 23) : chB V s (v_cc V s) i = decide (V 9 i = s) := by
  unfold chB
  by_cases e : V 9 i = s
  · have m := (t.sp hs ks).1.1 i hi (by simp [e])
    have : v_cc V s = cnt (fun n => decide (V 9 n = (s : Int))) 23 := by
      unfold v_cc
      rw [if_neg (by omega)]
    rw [decide_eq_true e, Bool.true_and, decide_eq_true (by rw [this]; exact m.2)]
  · rw [decide_eq_false e, Bool.false_and]
theorem chB_0 {V : VW} {d : Nat → Nat} {wn : Nat → Int} {X : Nat → Bool} (t : Tree V d wn X) {s : Nat} (hs : s < 23) (ks : V 8 s ≤ 1) (i : Nat) (hi : i < 23) : chB V s 0 i = false := by
  unfold chB
  by_cases e : V 9 i = s
  · have m := (t.sp hs ks).1.1 i hi (by simp [e])
    rw [decide_eq_false (show ¬ V 10 i < ((0 : Nat) : Int) by omega), Bool.and_false]
  · rw [decide_eq_false e, Bool.false_and]
theorem wg_cc {V : VW} {D : Nat → Bool} {g : Nat → Int} (s : Int) : v_cc (wgV V D g) s = v_cc V s := by
  unfold v_cc
  rw [wg_ne (by omega)]
theorem wg_ca {V : VW} {D : Nat → Bool} {g : Nat → Int} (s k : Int) : v_ca (wgV V D g) s k = v_ca V s k := by
  unfold v_ca
  rw [wg_ne (by omega), wg_ne (by omega)]
/-- the class's step: a weight -/
theorem s_sw {σ : Sg} {S : ST} {D D' : Nat → Bool} {g : Nat → Int} {V : VW} (hs : stv σ 1 = pfS S (S_fo S) (wgV V D g)) {a w : Int32} {c : Nat} (ha : a.toInt = c) (hc : c < 23) (hw : w.toInt = g c) (hD : ∀ i, i < 23 → D' i = (D i || decide (i = c))) : ∃ σ', fX1_setWeight σ (1 + 5) a w = some σ' ∧ Out σ σ' 1 70 ∧ stv σ' 1 = pfS S (S_fo S) (wgV V D' g) := by
  obtain ⟨σ', a1, o, v⟩ := s_do hs (s_setWeight (σ := σ) (b := 1 + 5) a w)
  refine ⟨σ', a1, o, ?_⟩
  rw [v, S_pv hs, ha, hw]
  show pfS S (S_fo S) (up (wgV V D g) 11 c (g c)) = _
  rw [wg_up hc hD]
/-! even -/
def evG : Nat → Int := fun _ => 1000
theorem c_even {σ : Sg} (h : RR σ) (p : Int32) : PI (fL_even σ p 476 1) (fun s => fX9_even s 462 p) := by
  obtain ⟨S, l, c, m, tx⟩ := h
  have h1 := c.1
  have hS := c.2.2.1
  have hR : RR σ := ⟨S, l, c, m, tx⟩
  cases q : exP S p
  · refine pi_no (k := 1) (b := 0) hR ?_ (by decide) ?_
    · unfold fL_even fX8_even
      rw [s_reqP (by rw [h1]; exact hS), h1, q]
      rfl
    · show fX9_even σ 462 p = _
      unfold fX9_even fX9_even_37 fX9_even_38 fX9_even_57
      rw [m_isP m.2, j_b, q, rf1]
      rfl
  · obtain ⟨k, hk, hk12, ek⟩ := exP_n q
    obtain ⟨-, -, -, -, ⟨d, wn, hI⟩, hO, -⟩ := id hS
    obtain ⟨t, tb, lo, ge⟩ := id hI
    have hpv : pv σ (1 + 5) = S_pl S := S_pv h1
    have r13 : -2147483648 ≤ S_pl S 13 k ∧ S_pl S 13 k < 2147483648 := by rw [← hpv]; exact pv_rg σ (1 + 5) 13 k
    have t13 : (oI (S_pl S 13 k)).toInt = S_pl S 13 k := j_oI r13.1 r13.2
    have pre8 : ∀ r, (if oI (ga (S_pl S 9) 23 (S_pl S 13 k)) = -1 then some ((.inr 2 : Int32 ⊕ Nat), σ) else (fX8_keepRecord σ).bind fun σ6 => (fX1_childCount σ6 (1 + 5) (oI (ga (S_pl S 9) 23 (S_pl S 13 k)))).bind fun r7 => (fX8_even_53 FU σ6 (oI (ga (S_pl S 9) 23 (S_pl S 13 k))) r7 0)) = r → fX8_even σ p = r := fun r e => by
      unfold fX8_even
      rw [s_reqP (by rw [h1]; exact hS), h1, q, j_b, if_pos rfl, j_xl, s_groupOf, j_b, s_parentOf, j_b, hpv, hk, ga_in hk12, t13]
      exact e
    have no : fX9_even_57 462 σ p 2 = some (0, su σ 462 3 2) := by
      unfold fX9_even_57
      rw [rf2]
      rfl
    have n10 : ¬ (1 : Int32) = 0 := by decide
    have nb : ¬ b2i true = 0 := by decide
    cases qp : plc (S_pl S) k
    · have z : S_pl S 13 k = -1 := by
        unfold plc at qp
        exact Classical.byContradiction (fun y => by rw [decide_eq_true y] at qp; cases qp)
      refine pi_no (k := 2) (b := 0) hR ?_ (by decide) ?_
      · unfold fL_even
        rw [pre8 _ rfl, z, ga_m1, if_pos (show oI (-1) = (-1 : Int32) from rfl)]
        rfl
      · show fX9_even σ 462 p = _
        unfold fX9_even fX9_even_37 fX9_even_38
        rw [m_isP m.2, j_b, q, if_pos rfl, m_isL m.2.2.1 hk hk12, qp, j_b, if_neg Bool.false_ne_true, if_neg nb, if_pos rfl]
        exact no
    · have np : S_pl S 13 k ≠ -1 := by
        unfold plc at qp
        exact of_decide_eq_true qp
      obtain ⟨g, hg, eg, kg⟩ := (tb.gr hk12).resolve_left np
      have u3 : S_pl S 8 g ≠ 3 := by omega
      have ei : (oI (S_pl S 13 k)).toInt = g := by rw [t13, eg]
      have e9 := fun (s : Sg) (ms : MR s S l) => ms.2.2.1.pa hg u3
      have r9 : -2147483648 ≤ S_pl S 9 g ∧ S_pl S 9 g < 2147483648 := by rw [← e9 σ m]; exact mv_rg _ _ _
      have y9 := oi_m1 r9.1 r9.2
      have pre9 : ∀ s, MR s S l → fX9_even s 462 p = if S_pl S 9 g = -1 then fX9_even_57 462 s p 2 else fX9_even_57 462 s p 0 := fun s ms => by
        unfold fX9_even fX9_even_37 fX9_even_38
        rw [m_isP ms.2, j_b, q, if_pos rfl, m_isL ms.2.2.1 hk hk12, qp, j_b, if_pos rfl, m_o3 hk hk12, j_b, ms.2.2.1.gr hk12, m_i1 ei (by omega), j_b, e9 s ms, if_neg nb, if_neg nb, if_neg n10, if_pos rfl]
        by_cases z : S_pl S 9 g = -1
        · rw [if_pos z, if_pos (y9.mpr z)]
        · rw [if_neg z, if_neg (fun y => z (y9.mp y))]
      by_cases z : S_pl S 9 g = -1
      · refine pi_no (k := 2) (b := 0) hR ?_ (by decide) ?_
        · unfold fL_even
          rw [pre8 _ rfl, eg, ga_in hg, if_pos (y9.mpr z)]
          rfl
        · show fX9_even σ 462 p = _
          rw [pre9 σ m, if_pos z]
          exact no
      · obtain ⟨s, hs23, es, ks, -, -⟩ := t.pa hg z
        have ts : (oI (s : Int)).toInt = s := j_oI (by omega) (by omega)
        have ccr := v_cc_rg (S_pl S) s
        have tcc : (oI (v_cc (S_pl S) s : Int)) = nI (v_cc (S_pl S) s) := (j_nIo _ (by omega)).symm
        obtain ⟨σ1, a1, f1, c1⟩ := s_kr c
        have hpv1 := S_pv c1.1
        have hSI : SI (pfS S (S_fo S) (wgV (S_pl S) (fun n => decide (S_pl S 9 n = s)) evG)) := hS.wg (fun n _ _ => by unfold evG; omega)
        -- the class's loop
        have loop : ∃ σ3, fX8_even_53 FU σ1 (oI (s : Int)) (nI (v_cc (S_pl S) s)) 0 = some (.inl (nI (v_cc (S_pl S) s)), σ3) ∧ (∀ c, 438 ≤ c → σ3.1 c = σ1.1 c) ∧ CR σ3 (pfS S (S_fo S) (wgV (S_pl S) (fun n => decide (S_pl S 9 n = s)) evG)) (keep l S) := by
          refine lp (F := fun f (x : Sg × Int32) => fX8_even_53 f x.1 (oI (s : Int)) (nI (v_cc (S_pl S) s)) x.2) (Q := fun o => ∃ σ3, o = some (.inl (nI (v_cc (S_pl S) s)), σ3) ∧ (∀ c, 438 ≤ c → σ3.1 c = σ1.1 c) ∧ CR σ3 (pfS S (S_fo S) (wgV (S_pl S) (fun n => decide (S_pl S 9 n = s)) evG)) (keep l S)) (fun i x => x.2 = nI i ∧ Out σ1 x.1 1 70 ∧ stv x.1 1 = pfS S (S_fo S) (wgV (S_pl S) (chB (S_pl S) s i) evG)) (v_cc (S_pl S) s) ?_ ?_ (v_cc (S_pl S) s) 0 FU (σ1, 0) (by omega) (by show _ < 6000; omega) ⟨rfl, Out.rf, ?_⟩
          · rintro f i ⟨x, y⟩ hi ⟨rfl, hO', hv⟩
            simp only at hO' hv
            obtain ⟨c, hc, ec, e9c, e10c, -⟩ := t.kid hs23 ks hi
            have ex := S_pv hv
            have ti : (nI i).toInt = i := j_nI (by omega)
            have tc : (oI (c : Int)).toInt = c := j_oI (by omega) (by omega)
            obtain ⟨x2, b2, w2, v2⟩ := s_sw hv (a := oI (c : Int)) (w := 1000) tc hc rfl (chB_s t hs23 ks hc e9c e10c)
            show ∃ x' : Sg × Int32, _ ∧ fX8_even_53 (f + 1) x (oI (s : Int)) (nI (v_cc (S_pl S) s)) (nI i) = _
            have nle : ¬ nI (v_cc (S_pl S) s) ≤ nI i := by rw [j_le, j_nI (by omega), j_nI (by omega)]; omega
            have ca : fX1_childAt x (1 + 5) (oI (s : Int)) (nI i) = some (oI (c : Int)) := by
              rw [s_childAt, ex, ts, ti]
              show some (oI (v_ca (wgV (S_pl S) (chB (S_pl S) s i) evG) s i)) = _
              rw [wg_ca, ec]
            rw [fX8_even_53, if_neg nle, ca, j_b, b2, j_b, j_s]
            exact ⟨(x2, nI (i + 1)), ⟨rfl, hO'.tr w2, v2⟩, rfl⟩
          · rintro f ⟨x, y⟩ ⟨rfl, hO', hv⟩
            simp only at hO' hv
            show ∃ σ3, fX8_even_53 (f + 1) x (oI (s : Int)) (nI (v_cc (S_pl S) s)) (nI (v_cc (S_pl S) s)) = _ ∧ _
            rw [wg_cg (D := fun n => decide (S_pl S 9 n = s)) (g := evG) (fun i hi => ⟨chB_all t hs23 ks i hi, fun _ => rfl⟩)] at hv
            obtain ⟨σ3, a3, o3, c3⟩ := c1.mod (fun x hx => hO'.2 x (by omega)) hv hSI
            rw [fX8_even_53, if_pos (by rw [j_le]; exact Int.le_refl _), a3, j_b]
            exact ⟨σ3, rfl, fun c hc => by rw [o3.2 c (by omega), hO'.2 c (by omega)], c3⟩
          · show stv σ1 1 = _
            rw [wg_cg (D := fun _ => false) (g := evG) (fun i hi => ⟨chB_0 t hs23 ks i hi, fun _ => rfl⟩), wg_no]
            exact c1.1
        obtain ⟨σ3, a3, e3, c3⟩ := loop
        refine pi_ok (v := nI (v_cc (S_pl S) s)) tx m ?_ (fun x hx => by rw [e3 x hx]; exact f1 x hx) c3 (fun x ms => ?_)
        · unfold fL_even
          rw [pre8 _ rfl, eg, ga_in hg, if_neg (fun y => z (y9.mp y)), a1, j_b, es, s_childCount, j_b, hpv1, ts, tcc, a3, j_b, j_xl, if_pos (by decide), j_nm]
          rfl
        · have ms0 := ms.s3 (k := 0)
          obtain ⟨s1, b1, g1, x1, m1⟩ := m_kr ms0
          have vm := m1.2.2.1
          have ch : ∀ n, n < 23 → (decide (mv (s1.1 463) 0 n ≠ 0) && decide (mv (s1.1 463) 1 n = s)) = decide (S_pl S 9 n = s) := fun n hn => vm.ch t hn (by omega)
          have loop9 : ∃ s3, fX9_even_85 462 FU s1 (oI (s : Int)) 0 = some (nI (v_cc (S_pl S) s), s3) ∧ Out s1 s3 463 463 ∧ (∀ j, j ≠ 3 → mv (s3.1 463) j = mv (s1.1 463) j) ∧ ∀ n, n < 23 → mv (s3.1 463) 3 n = if S_pl S 9 n = s then 1000 else mv (s1.1 463) 3 n := by
            refine lp (F := fun f (x : Sg × Int32) => fX9_even_85 462 f x.1 (oI (s : Int)) x.2) (Q := fun o => ∃ s3, o = some (nI (v_cc (S_pl S) s), s3) ∧ Out s1 s3 463 463 ∧ (∀ j, j ≠ 3 → mv (s3.1 463) j = mv (s1.1 463) j) ∧ ∀ n, n < 23 → mv (s3.1 463) 3 n = if S_pl S 9 n = s then 1000 else mv (s1.1 463) 3 n) (fun i x => x.2 = nI i ∧ Out s1 x.1 463 463 ∧ (∀ j, j ≠ 3 → mv (x.1.1 463) j = mv (s1.1 463) j) ∧ ∀ n, n < 23 → mv (x.1.1 463) 3 n = if n < i ∧ S_pl S 9 n = s then 1000 else mv (s1.1 463) 3 n) 24 ?_ ?_ 24 0 FU (s1, 0) rfl (by decide) ⟨rfl, Out.rf, fun _ _ => rfl, fun n _ => by rw [if_neg (by omega)]⟩
            · rintro f i ⟨x, y⟩ hi ⟨rfl, hO', hr, h3⟩
              simp only at hO' hr h3
              have ti : (nI i).toInt = i := j_nI (by omega)
              have nle : ¬ (24 : Int32) ≤ nI i := n_ge 24 (m := 24) rfl hi (by decide)
              show ∃ x' : Sg × Int32, _ ∧ fX9_even_85 462 (f + 1) x (oI (s : Int)) (nI i) = _
              rw [fX9_even_85, if_neg nle, m_isChild ti hi, j_b, ts, hr 0 (by omega), hr 1 (by omega)]
              unfold fX9_even_113
              by_cases y : (decide (mv (s1.1 463) 0 i ≠ 0) && decide (mv (s1.1 463) 1 i = s)) = true
              · obtain ⟨x2, b2, w2, u2⟩ := m_l3 (σ := x) ti hi 1000
                have e1000 : (1000 : Int32).toInt = 1000 := rfl
                rw [if_pos y, b2, j_b, j_s]
                refine ⟨(x2, nI (i + 1)), ⟨rfl, hO'.tr w2, fun j hj => ?_, fun n hn => ?_⟩, rfl⟩
                · show mv (x2.1 463) j = _
                  rw [u2, mu_ne hj]
                  exact hr j hj
                · show mv (x2.1 463) 3 n = _
                  rw [u2, mu_at, e1000]
                  by_cases w : n = i
                  · subst w
                    rw [ch n hn] at y
                    rw [if_pos rfl, if_pos ⟨by omega, of_decide_eq_true y⟩]
                  · rw [if_neg w, h3 n hn]
                    by_cases v : n < i ∧ S_pl S 9 n = s
                    · rw [if_pos v, if_pos ⟨by omega, v.2⟩]
                    · rw [if_neg v, if_neg (fun u => v ⟨by omega, u.2⟩)]
              · rw [if_neg y, j_s]
                refine ⟨(x, nI (i + 1)), ⟨rfl, hO', hr, fun n hn => ?_⟩, rfl⟩
                show mv (x.1 463) 3 n = _
                rw [h3 n hn]
                by_cases v : n < i ∧ S_pl S 9 n = s
                · rw [if_pos v, if_pos ⟨by omega, v.2⟩]
                · rw [if_neg v, if_neg (fun u => v ⟨by
                    have : n ≠ i := fun w => y (by rw [← w, ch n hn]; exact decide_eq_true u.2)
                    omega, u.2⟩)]
            · rintro f ⟨x, y⟩ ⟨rfl, hO', hr, h3⟩
              simp only at hO' hr h3
              show ∃ s3, fX9_even_85 462 (f + 1) x (oI (s : Int)) (nI 24) = _ ∧ _
              have cm : m_cc (mv (x.1 463)) s = v_cc (S_pl S) s := by
                have : m_cc (mv (x.1 463)) s = m_cc (mv (s1.1 463)) s := by
                  unfold m_cc
                  rw [hr 0 (by omega), hr 1 (by omega)]
                rw [this, vm.cc t (by omega)]
              rw [fX9_even_85, if_pos (n_le 24 (m := 24) rfl (by decide)), m_childMany, j_b, ts, cm, tcc]
              refine ⟨x, rfl, hO', hr, fun n hn => ?_⟩
              rw [h3 n hn]
              by_cases v : S_pl S 9 n = s
              · rw [if_pos v, if_pos ⟨by omega, v⟩]
              · rw [if_neg v, if_neg (fun u => v u.2)]
          obtain ⟨s3, b3, w3, r3, h3⟩ := loop9
          refine ⟨s3, ?_, (G9.s3.tr g1).tr (F9.ou w3), m1.mod w3 (m1.2.pf (fun j hj => r3 j (by omega)) (vm.wg (fun j hj _ => r3 j hj) (fun n hn _ => ?_)) ?_)⟩
          · show fX9_even x 462 p = _
            rw [pre9 x ms, if_neg z]
            unfold fX9_even_57
            rw [rf0, j_b]
            show (fX9_of (su x 462 3 0) 462 p 3).bind _ = _
            rw [m_o3 hk hk12, j_b, ms0.2.2.1.gr hk12, m_i1 ei (by omega), j_b, ms0.2.2.1.pa hg u3, es, b1, j_b, b3]
          · rw [h3 n hn]
            by_cases v : S_pl S 9 n = s
            · rw [if_pos v, decide_eq_true v, if_pos rfl]
              rfl
            · rw [if_neg v, decide_eq_false v, if_neg Bool.false_ne_true]
          · have : mo (mv (s3.1 463)) 20 = mo (mv (s1.1 463)) 20 := by
              unfold mo
              rw [r3 20 (by omega), r3 21 (by omega)]
            rw [this]
            exact m1.2.2.2.1
end RAG
end
section
/-! THE RELATION: dividers -/
section RAH
def nbE (side : Int) : Int := if v_beh side = 0 then -1 else 1
def nbB (V P : VW) (n : Nat) (side : Int) (j : Nat) : Bool := decide (1 ≤ j) && decide (ga (P 1) 23 (v_ca V (V 9 n) (V 10 n + j * nbE side)) = 1)
def nbj (V P : VW) (n : Nat) (side : Int) : Int := fnd (nbB V P n side) 23
def snb (V P : VW) (n : Nat) (side : Int) : Int := if V 9 n = -1 then -1 else if ga (V 8) 23 (V 9 n) = v_dir side then (if nbj V P n side = -1 then -1 else v_ca V (V 9 n) (V 10 n + nbj V P n side * nbE side)) else -1
def nad (V P : VW) (side : Int) : Nat → Int → Int
  | 0, _ => -1
  | k + 1, n => if n = -1 then -1 else if snb V P n.toNat side = -1 then nad V P side k (ga (V 9) 23 n) else n
theorem nbE_c (side : Int) : nbE side = -1 ∨ nbE side = 1 := by
  unfold nbE
  split
  · exact Or.inl rfl
  · exact Or.inr rfl
theorem snb_rg (V P : VW) (n : Nat) (side : Int) : -1 ≤ snb V P n side ∧ snb V P n side < 23 := by
  unfold snb
  split
  · omega
  · split
    · split
      · omega
      · exact v_ca_rg _ _ _
    · omega
/-- what is found is a child that is shown -/
theorem snb_ex {V P : VW} {d : Nat → Nat} {wn : Nat → Int} {X : Nat → Bool} (t : Tree V d wn X) {n : Nat} (hn : n < 23) {side : Int} (h : snb V P n side ≠ -1) : ∃ s o : Nat, s < 23 ∧ V 9 n = s ∧ V 8 s ≤ 1 ∧ V 8 s = v_dir side ∧ o < 23 ∧ snb V P n side = o ∧ V 9 o = s ∧ P 1 o = 1 ∧ o ≠ n := by
  unfold snb at h ⊢
  by_cases z : V 9 n = -1
  · rw [if_pos z] at h
    exact absurd rfl h
  · rw [if_neg z] at h ⊢
    obtain ⟨s, hs, es, ks, -, -⟩ := t.pa hn z
    by_cases w : ga (V 8) 23 (V 9 n) = v_dir side
    · rw [if_pos w] at h ⊢
      have w8 : V 8 s = v_dir side := by
        rw [es, ga_in hs] at w
        exact w
      by_cases y : nbj V P n side = -1
      · rw [if_pos y] at h
        exact absurd rfl h
      · rw [if_neg y] at h ⊢
        rcases fnd_spec (nbB V P n side) 23 with ⟨a, -⟩ | ⟨j, hj, a, b, -⟩
        · exact absurd a y
        · have ej : nbj V P n side = j := a
          rw [ej] at h ⊢
          unfold nbB at b
          simp only [Bool.and_eq_true, decide_eq_true_eq] at b
          have sp : v_ca V (V 9 n) (V 10 n + j * nbE side) = -1 ∨ ∃ q : Nat, q < 23 ∧ v_ca V (V 9 n) (V 10 n + j * nbE side) = q ∧ V 9 q = V 9 n ∧ V 10 q = V 10 n + j * nbE side := by
            unfold v_ca
            rw [if_neg z]
            rcases fnd_spec (fun n1 => decide (V 9 n1 = V 9 n) && decide (V 10 n1 = V 10 n + j * nbE side)) 23 with ⟨a, -⟩ | ⟨q, hq, a, b, -⟩
            · exact Or.inl a
            · simp only [Bool.and_eq_true, decide_eq_true_eq] at b
              exact Or.inr ⟨q, hq, a, b.1, b.2⟩
          obtain ⟨q, hq, e, e9, e10⟩ := sp.resolve_left h
          refine ⟨s, q, hs, es, ks, w8, hq, e, by rw [e9, es], ?_, fun u => ?_⟩
          · have := b.2
            rw [e, ga_in hq] at this
            exact this
          · rw [u] at e10
            rcases nbE_c side with v | v
            · rw [v] at e10
              omega
            · rw [v] at e10
              omega
    · rw [if_neg w] at h
      exact absurd rfl h
/-! the class -/
theorem s_dirb {σ : Sg} (s : Int32) : fX8_directionOf σ s = some (oI (v_dir s.toInt)) := s_dir s
theorem s_sn62 {σ : Sg} {V P : VW} (hV : pv σ (1 + 5) = V) (hP : qv σ = P) {n s : Nat} (e9 : V 9 n = s) (hs : s < 23) (p10 : 0 ≤ V 10 n ∧ V 10 n < 23) {side : Int} (w8 : V 8 s = v_dir side) {l5 : Int32} (e5 : l5.toInt = nbE side) : fX8_shownNeighbour_62 σ FU (oI (s : Int)) l5 (oI (V 10 n)) 1 = some (oI (snb V P n side)) := by
  subst hV
  subst hP
  have ts : (oI (s : Int)).toInt = s := j_oI (by omega) (by omega)
  have t10 : (oI (pv σ (1 + 5) 10 n)).toInt = pv σ (1 + 5) 10 n := j_oI (by omega) (by omega)
  have u : snb (pv σ (1 + 5)) (qv σ) n side = if nbj (pv σ (1 + 5)) (qv σ) n side = -1 then -1 else v_ca (pv σ (1 + 5)) s (pv σ (1 + 5) 10 n + nbj (pv σ (1 + 5)) (qv σ) n side * nbE side) := by
    unfold snb
    rw [if_neg (by omega), e9, ga_in hs, if_pos w8]
  rw [u]
  have pos : ∀ j : Nat, j < 24 → (oI (pv σ (1 + 5) 10 n) + (nI j * l5)).toInt = pv σ (1 + 5) 10 n + j * nbE side := fun j hj => by
    have tj : (nI j).toInt = j := j_nI (by omega)
    have m : (nI j * l5).toInt = j * nbE side := by
      rcases nbE_c side with v | v
      · rw [j_mul (by rw [tj, e5, v]; omega) (by rw [tj, e5, v]; omega), tj, e5]
      · rw [j_mul (by rw [tj, e5, v]; omega) (by rw [tj, e5, v]; omega), tj, e5]
    have b : -24 ≤ (j : Int) * nbE side ∧ (j : Int) * nbE side ≤ 24 := by
      rcases nbE_c side with v | v <;> rw [v] <;> omega
    rw [j_add (by rw [t10, m]; omega) (by rw [t10, m]; omega), t10, m]
  refine lpx (F := fun f (x : Int32) => fX8_shownNeighbour_62 σ f (oI (s : Int)) l5 (oI (pv σ (1 + 5) 10 n)) x) (Q := fun o => o = some (oI (if nbj (pv σ (1 + 5)) (qv σ) n side = -1 then -1 else v_ca (pv σ (1 + 5)) s (pv σ (1 + 5) 10 n + nbj (pv σ (1 + 5)) (qv σ) n side * nbE side)))) (fun i x => x = nI (i + 1) ∧ ∀ j, j ≤ i → nbB (pv σ (1 + 5)) (qv σ) n side j = false) 22 ?_ ?_ 22 0 FU 1 rfl (by decide) ⟨rfl, fun j hj => by
    rw [show j = 0 by omega]
    rfl⟩
  · rintro f i _ hi ⟨rfl, hl⟩
    have nle : ¬ (23 : Int32) ≤ nI (i + 1) := n_ge 23 (m := 23) rfl (by omega) (by decide)
    have key : fX8_shownNeighbour_62 σ (f + 1) (oI (s : Int)) l5 (oI (pv σ (1 + 5) 10 n)) (nI (i + 1)) = if nbB (pv σ (1 + 5)) (qv σ) n side (i + 1) = true then some (oI (v_ca (pv σ (1 + 5)) s (pv σ (1 + 5) 10 n + (i + 1 : Nat) * nbE side))) else fX8_shownNeighbour_62 σ f (oI (s : Int)) l5 (oI (pv σ (1 + 5) 10 n)) (nI (i + 1 + 1)) := by
      rw [fX8_shownNeighbour_62, if_neg nle, s_childAt, j_b, ts, pos (i + 1) (by omega), s_isShown, j_b, t_ca, j_s]
      unfold nbB
      rw [e9, decide_eq_true (show 1 ≤ i + 1 by omega), Bool.true_and]
    cases q : nbB (pv σ (1 + 5)) (qv σ) n side (i + 1)
    · right
      rw [q, if_neg Bool.false_ne_true] at key
      exact ⟨nI (i + 1 + 1), ⟨rfl, fun j hj => by
        by_cases z : j = i + 1
        · rw [z]; exact q
        · exact hl j (by omega)⟩, key⟩
    · left
      show fX8_shownNeighbour_62 σ (f + 1) (oI (s : Int)) l5 (oI (pv σ (1 + 5) 10 n)) (nI (i + 1)) = _
      rw [q, if_pos rfl] at key
      have : nbj (pv σ (1 + 5)) (qv σ) n side = ((i + 1 : Nat) : Int) := fnd_at (by omega) q (fun k hk => hl k (by omega))
      rw [key, this, if_neg (by omega)]
  · rintro f _ ⟨rfl, hl⟩
    show fX8_shownNeighbour_62 σ (f + 1) (oI (s : Int)) l5 (oI (pv σ (1 + 5) 10 n)) (nI 23) = _
    have : nbj (pv σ (1 + 5)) (qv σ) n side = -1 := fnd_no (fun k hk => hl k (by omega))
    rw [fX8_shownNeighbour_62, if_pos (n_le 23 (m := 23) rfl (by decide)), this, if_pos rfl]
    rfl
theorem s_snb {σ : Sg} {V P : VW} (hV : pv σ (1 + 5) = V) (hP : qv σ = P) {d : Nat → Nat} {wn : Nat → Int} {X : Nat → Bool} (t : Tree V d wn X) {n : Nat} (hn : n < 23) {a side : Int32} (ha : a.toInt = n) (hs : side = 0 ∨ side = 1 ∨ side = 2 ∨ side = 3) : fX8_shownNeighbour σ a side = some (oI (snb V P n side.toInt)) := by
  have r9 : -2147483648 ≤ V 9 n ∧ V 9 n < 2147483648 := by rw [← hV]; exact pv_rg σ (1 + 5) 9 n
  have t9 : (oI (V 9 n)).toInt = V 9 n := j_oI r9.1 r9.2
  unfold fX8_shownNeighbour
  rw [s_parentOf, j_b, hV, ha, ga_in hn]
  by_cases z : V 9 n = -1
  · rw [if_pos (by rw [z]; rfl)]
    unfold snb
    rw [if_pos z]
    rfl
  · obtain ⟨s, hs23, es, ks, -, -⟩ := t.pa hn z
    have p10 := (t.sp hs23 ks).1.1 n hn (by simp [es])
    have c23 := cnt_le (fun n => decide (V 9 n = s)) 23
    have k8 := t.ki hs23
    have t8 : (oI (V 8 s)).toInt = V 8 s := j_oI (by omega) (by omega)
    have td := t_dir side.toInt
    rw [if_neg (fun y => z (by rw [j_eq, t9, jm1] at y; exact y)), s_kindOf, j_b, s_dirb, j_b, hV, t9, es, ga_in hs23]
    by_cases w : V 8 s = v_dir side.toInt
    · rw [if_pos (by rw [w])]
      unfold fX8_shownNeighbour_45 fX8_shownNeighbour_50
      rw [s_placeOf, j_b, hV, ha, ga_in hn]
      have key := fun (l5 : Int32) (e5 : l5.toInt = nbE side.toInt) => s_sn62 hV hP es hs23 ⟨p10.1, by omega⟩ w e5
      rcases hs with rfl | rfl | rfl | rfl
      · rw [if_pos rfl]
        exact key (-1) rfl
      · rw [if_neg (by decide), if_neg (by decide)]
        exact key 1 rfl
      · rw [if_neg (by decide), if_pos rfl]
        exact key (-1) rfl
      · rw [if_neg (by decide), if_neg (by decide)]
        exact key 1 rfl
    · rw [if_neg (fun y => w (by rw [j_eq, t8, td] at y; exact y))]
      unfold snb
      rw [if_neg z, es, ga_in hs23, if_neg w]
      rfl
theorem nad_m1 (V P : VW) (side : Int) : ∀ k, nad V P side k (-1) = -1
  | 0 => rfl
  | k + 1 => if_pos rfl
theorem s_nad5 {σ : Sg} {V P : VW} (hV : pv σ (1 + 5) = V) (hP : qv σ = P) {d : Nat → Nat} {wn : Nat → Int} {X : Nat → Bool} (t : Tree V d wn X) {side : Int32} (hs : side = 0 ∨ side = 1 ∨ side = 2 ∨ side = 3) : ∀ (k i fuel : Nat) (a : Int32), i + k = 23 → k < fuel → (a.toInt = -1 ∨ ∃ n : Nat, n < 23 ∧ a.toInt = n) → fX8_nodeAtDivider_5 σ fuel side a (nI i) = some (oI (nad V P side.toInt k a.toInt)) := by
  intro k
  induction k with
  | zero =>
    intro i fuel a hi hf _
    match fuel with
    | f + 1 =>
      rw [fX8_nodeAtDivider_5, if_pos (by rw [j_le, j_nI (by omega)]; show (23 : Int) ≤ _; omega)]
      rfl
  | succ k ih =>
    intro i fuel a hi hf ha
    match fuel with
    | f + 1 =>
      have nle : ¬ (23 : Int32) ≤ nI i := n_ge 23 (m := 23) rfl (by omega) (by decide)
      rw [fX8_nodeAtDivider_5, if_neg nle]
      rcases ha with z | ⟨n, hn, ea⟩
      · rw [if_pos (j_eq.mpr (by rw [z, jm1])), z, nad_m1]
        rfl
      · have na : ¬ a = -1 := fun y => by rw [y, jm1] at ea; omega
        have sr := snb_rg V P n side.toInt
        have tb : (oI (snb V P n side.toInt)).toInt = snb V P n side.toInt := j_oI (by omega) (by omega)
        rw [if_neg na, s_snb hV hP t hn ea hs, j_b]
        have u : nad V P side.toInt (k + 1) a.toInt = if snb V P n side.toInt = -1 then nad V P side.toInt k (ga (V 9) 23 a.toInt) else a.toInt := by
          rw [ea]
          show (if (n : Int) = -1 then -1 else if snb V P (n : Int).toNat side.toInt = -1 then _ else (n : Int)) = _
          rw [if_neg (by omega), Int.toNat_natCast]
        rw [u]
        by_cases w : snb V P n side.toInt = -1
        · have r9 : -2147483648 ≤ V 9 n ∧ V 9 n < 2147483648 := by rw [← hV]; exact pv_rg σ (1 + 5) 9 n
          have t9 : (oI (V 9 n)).toInt = V 9 n := j_oI r9.1 r9.2
          rw [if_pos w, if_pos (by rw [w]; rfl), s_parentOf, j_b, hV, ea, ga_in hn, j_s, ih (i + 1) f (oI (V 9 n)) (by omega) (by omega) (by
            rw [t9]
            by_cases z : V 9 n = -1
            · exact Or.inl z
            · obtain ⟨s, hs23, es, -⟩ := t.pa hn z
              exact Or.inr ⟨s, hs23, es⟩), t9]
        · rw [if_neg w, if_neg (fun y => w (by rw [j_eq, tb, jm1] at y; exact y)), j_oIt]
theorem s_nad {σ : Sg} {V P : VW} (hV : pv σ (1 + 5) = V) (hP : qv σ = P) {d : Nat → Nat} {wn : Nat → Int} {X : Nat → Bool} (t : Tree V d wn X) {side : Int32} (hs : side = 0 ∨ side = 1 ∨ side = 2 ∨ side = 3) {n : Nat} (hn : n < 23) {a : Int32} (ha : a.toInt = n) : fX8_nodeAtDivider σ a side = some (oI (nad V P side.toInt 23 n)) := by
  unfold fX8_nodeAtDivider
  rw [j_0, s_nad5 hV hP t hs 23 0 FU a rfl (by decide) (Or.inr ⟨n, hn, ha⟩), ha]
theorem nad_ex {V P : VW} {d : Nat → Nat} {wn : Nat → Int} {X : Nat → Bool} (t : Tree V d wn X) {side : Int} : ∀ (k n : Nat), n < 23 → nad V P side k n ≠ -1 → ∃ m : Nat, m < 23 ∧ nad V P side k n = m ∧ snb V P m side ≠ -1 := by
  intro k
  induction k with
  | zero => exact fun n _ h => absurd rfl h
  | succ k ih =>
    intro n hn h
    have u : nad V P side (k + 1) n = if snb V P n side = -1 then nad V P side k (ga (V 9) 23 n) else n := by
      show (if (n : Int) = -1 then -1 else if snb V P (n : Int).toNat side = -1 then _ else (n : Int)) = _
      rw [if_neg (by omega), Int.toNat_natCast]
    rw [u] at h ⊢
    by_cases w : snb V P n side = -1
    · rw [if_pos w] at h ⊢
      rw [ga_in hn] at h ⊢
      by_cases z : V 9 n = -1
      · rw [z, nad_m1] at h
        exact absurd rfl h
      · obtain ⟨s, hs23, es, -⟩ := t.pa hn z
        rw [es] at h ⊢
        exact ih s hs23 h
    · rw [if_neg w]
      exact ⟨n, hn, rfl, w⟩
end RAH
end
section
/-! THE RELATION: dividers in the reference -/
section RAI
variable {σ : Sg} {V : VW} {d : Nat → Nat} {wn : Nat → Int} {X Y : Nat → Bool}
theorem v_ca_out {V : VW} {d : Nat → Nat} {wn : Nat → Int} {X : Nat → Bool} (t : Tree V d wn X) {s : Nat} (hs : s < 23) (ks : V 8 s ≤ 1) {x : Int} (hx : ¬ (0 ≤ x ∧ x < v_cc V s)) : v_ca V s x = -1 := by
  unfold v_ca
  rw [if_neg (by omega)]
  refine fnd_no (fun i hi => ?_)
  by_cases e : V 9 i = s
  · have m := (t.sp hs ks).1.1 i hi (by simp [e])
    have : v_cc V s = cnt (fun n => decide (V 9 n = (s : Int))) 23 := by
      unfold v_cc
      rw [if_neg (by omega)]
    rw [decide_eq_false (show ¬ V 10 i = x by omega), Bool.and_false]
  · rw [decide_eq_false e, Bool.false_and]
theorem side_c {side : Int32} (hs : side = 0 ∨ side = 1 ∨ side = 2 ∨ side = 3) : ((side - side / 2 * 2) = 0 ∧ nbE side.toInt = -1) ∨ (¬ (side - side / 2 * 2) = 0 ∧ nbE side.toInt = 1) := by
  rcases hs with rfl | rfl | rfl | rfl
  · exact Or.inl ⟨by decide, rfl⟩
  · exact Or.inr ⟨by decide, rfl⟩
  · exact Or.inl ⟨by decide, rfl⟩
  · exact Or.inr ⟨by decide, rfl⟩
/-- the nodes on the two sides of the divider -/
def ahN (V P : VW) (m : Nat) (side : Int) : Int := if nbE side = -1 then snb V P m side else m
def beN (V P : VW) (m : Nat) (side : Int) : Int := if nbE side = -1 then m else snb V P m side
theorem m_hd44 (h : VM (mv (σ.1 463)) V X) (t : Tree V d wn Y) {n s : Nat} (hn : n < 23) (e9 : V 9 n = s) (hs : s < 23) (ks : V 8 s ≤ 1) {side l5 : Int32} (hsd : side = 0 ∨ side = 1 ∨ side = 2 ∨ side = 3) (e5 : l5.toInt = nbE side.toInt) (b01 : ∀ i, i < 23 → V 9 i = s → mq σ 1 i = 0 ∨ mq σ 1 i = 1) {l6 : Int32} (e6 : l6.toInt = V 10 n + nbE side.toInt) (K : Sg → Int32 → Int32 → Option (Bool × Sg)) : fX9_hasDivider_44 462 K FU σ side (oI (n : Int)) (oI (s : Int)) l5 l6 = if snb V (mq σ) n side.toInt = -1 then K σ side (oI (s : Int)) else some (true, su (su σ 462 13 (oI (ahN V (mq σ) n side.toInt))) 462 14 (oI (beN V (mq σ) n side.toInt))) := by
  have ts : (oI (s : Int)).toInt = s := j_oI (by omega) (by omega)
  have tcc : v_cc V s = cnt (fun n => decide (V 9 n = (s : Int))) 23 := by
    unfold v_cc
    rw [if_neg (by omega)]
  have cc23 := v_cc_rg V s
  have p10 := (t.sp hs ks).1.1 n hn (by simp [e9])
  have r6 : fX9_childMany σ 462 (oI (s : Int)) = some (nI (v_cc V s)) := by
    have := m_many h t hs
    rw [j_nIo s (by omega)] at this
    exact this
  have way : fX9_its σ 462 (oI (s : Int)) 2 = some (oI (V 8 s)) := by
    rw [m_i2 ts (by omega), (h.k1 hs ks).2]
  have kr := t.ki hs
  have t8 : (oI (V 8 s)).toInt = V 8 s := j_oI (by omega) (by omega)
  have sd := (sd4 hsd).1
  have one : nbE side.toInt = -1 ∨ nbE side.toInt = 1 := nbE_c _
  by_cases w : V 8 s = v_dir side.toInt
  · have weq : oI (V 8 s) = side / 2 := j_eq.mpr (by rw [t8, sd, w])
    have u : snb V (mq σ) n side.toInt = if nbj V (mq σ) n side.toInt = -1 then -1 else v_ca V s (V 10 n + nbj V (mq σ) n side.toInt * nbE side.toInt) := by
      unfold snb
      rw [if_neg (by omega), e9, ga_in hs, if_pos w]
    -- behind the last child nothing is shown
    have outj : ∀ j : Nat, ¬ (0 ≤ V 10 n + j * nbE side.toInt ∧ V 10 n + j * nbE side.toInt < v_cc V s) → nbB V (mq σ) n side.toInt j = false := fun j hj => by
      unfold nbB
      rw [e9, v_ca_out t hs ks hj, ga_m1 (f := mq σ 1), decide_eq_false (show ¬ (-1 : Int) = 1 by omega), Bool.and_false]
    have over : ∀ i : Nat, (∀ j, j ≤ i → nbB V (mq σ) n side.toInt j = false) → ¬ (0 ≤ V 10 n + ((i + 1 : Nat) : Int) * nbE side.toInt ∧ V 10 n + ((i + 1 : Nat) : Int) * nbE side.toInt < v_cc V s) → nbj V (mq σ) n side.toInt = -1 := fun i hl ho => fnd_no (fun j _ => by
      by_cases z : j ≤ i
      · exact hl j z
      · refine outj j (fun y => ho ?_)
        rcases one with v | v
        · rw [v] at y ⊢
          omega
        · rw [v] at y ⊢
          omega)
    refine lpx (F := fun f (x : Int32) => fX9_hasDivider_44 462 K f σ side (oI (n : Int)) (oI (s : Int)) l5 x) (Q := fun o => o = if snb V (mq σ) n side.toInt = -1 then K σ side (oI (s : Int)) else some (true, su (su σ 462 13 (oI (ahN V (mq σ) n side.toInt))) 462 14 (oI (beN V (mq σ) n side.toInt)))) (fun i x => x.toInt = V 10 n + ((i + 1 : Nat) : Int) * nbE side.toInt ∧ ∀ j, j ≤ i → nbB V (mq σ) n side.toInt j = false) 22 ?_ ?_ 22 0 FU l6 rfl (by decide) ⟨by rw [e6]; show _ = _ + (1 : Int) * _; omega, fun j hj => by
      rw [show j = 0 by omega]
      rfl⟩
    · rintro f i l hi ⟨el, hl⟩
      by_cases lo : V 10 n + ((i + 1 : Nat) : Int) * nbE side.toInt < 0
      · left
        show fX9_hasDivider_44 462 K (f + 1) σ side (oI (n : Int)) (oI (s : Int)) l5 l = _
        have nj := over i hl (by omega)
        rw [fX9_hasDivider_44, way, j_b, if_pos weq, if_pos (by rw [j_lt, el, jz0]; exact lo), u, nj, if_pos rfl, if_pos rfl]
        rfl
      · by_cases hi2 : (v_cc V s : Int) ≤ V 10 n + ((i + 1 : Nat) : Int) * nbE side.toInt
        · left
          show fX9_hasDivider_44 462 K (f + 1) σ side (oI (n : Int)) (oI (s : Int)) l5 l = _
          have nj := over i hl (by omega)
          rw [fX9_hasDivider_44, way, j_b, if_pos weq, if_neg (fun y => lo (by rw [j_lt, el, jz0] at y; exact y)), r6, j_b, if_pos (by rw [j_le, j_nI (by omega), el]; exact hi2), u, nj, if_pos rfl, if_pos rfl]
          rfl
        · obtain ⟨q, hq⟩ : ∃ q : Nat, V 10 n + ((i + 1 : Nat) : Int) * nbE side.toInt = q := ⟨(V 10 n + ((i + 1 : Nat) : Int) * nbE side.toInt).toNat, by omega⟩
          obtain ⟨c, hc, ec, e9c, e10c, -⟩ := t.kid hs ks (show q < v_cc V s by omega)
          have chd : fX9_child σ 462 (oI (s : Int)) l = some (nI c) := by
            rw [m_child, ts, el, hq, h.ca t (by omega), ec, j_nIo c (by omega)]
          have bj : nbB V (mq σ) n side.toInt (i + 1) = decide (mq σ 1 c = 1) := by
            unfold nbB
            rw [e9, hq, ec, ga_in hc, decide_eq_true (show 1 ≤ i + 1 by omega), Bool.true_and]
          have q01 := b01 c hc e9c
          have ecl : (nI c).toNatClampNeg = c := j_cl _ (by omega)
          have s5 : σ.1 (462 + 5) (nI c).toNatClampNeg = 0 ↔ ¬ mq σ 1 c = 1 := by
            rw [ecl, mq1 (by omega)] at *
            show σ.1 467 c = 0 ↔ _
            rw [j_eq, jz0]
            omega
          by_cases y : mq σ 1 c = 1
          · left
            show fX9_hasDivider_44 462 K (f + 1) σ side (oI (n : Int)) (oI (s : Int)) l5 l = _
            have nj : nbj V (mq σ) n side.toInt = ((i + 1 : Nat) : Int) := fnd_at (by omega) (by rw [bj]; exact decide_eq_true y) (fun k hk => hl k (by omega))
            have us : snb V (mq σ) n side.toInt = c := by rw [u, nj, if_neg (by omega), hq, ec]
            have ecI : nI c = oI (c : Int) := j_nIo c (by omega)
            rw [fX9_hasDivider_44, way, j_b, if_pos weq, if_neg (fun y => lo (by rw [j_lt, el, jz0] at y; exact y)), r6, j_b, if_neg (fun y => hi2 (by rw [j_le, j_nI (by omega), el] at y; exact y)), chd, j_b, if_pos (j_ckn (by omega) (by decide)), if_neg (fun z => (s5.mp z) y), us, if_neg (show ¬ (c : Int) = -1 by omega)]
            unfold ahN beN fX9_hasDivider_105 fX9_hasDivider_120
            rw [us]
            rcases one with v | v
            · have c1 : l5 ≤ 0 := by rw [j_le, e5, jz0]; omega
              rw [if_pos c1, j_nm, if_pos c1, j_nm, v, if_pos rfl, if_pos rfl, ecI]
            · have c1 : ¬ l5 ≤ 0 := by rw [j_le, e5, jz0]; omega
              rw [if_neg c1, j_nm, if_neg c1, j_nm, v, if_neg (by decide), if_neg (by decide), ecI]
          · right
            have add : (l + l5).toInt = V 10 n + ((i + 1 + 1 : Nat) : Int) * nbE side.toInt := by
              rw [j_add (by rw [el, e5, hq]; omega) (by rw [el, e5, hq]; omega), el, e5]
              rcases one with v | v <;> rw [v] <;> omega
            refine ⟨l + l5, ⟨add, fun j hj => ?_⟩, ?_⟩
            · by_cases z : j = i + 1
              · rw [z, bj]
                exact decide_eq_false y
              · exact hl j (by omega)
            · show fX9_hasDivider_44 462 K (f + 1) σ side (oI (n : Int)) (oI (s : Int)) l5 l = fX9_hasDivider_44 462 K f σ side (oI (n : Int)) (oI (s : Int)) l5 (l + l5)
              rw [fX9_hasDivider_44, way, j_b, if_pos weq, if_neg (fun y => lo (by rw [j_lt, el, jz0] at y; exact y)), r6, j_b, if_neg (fun y => hi2 (by rw [j_le, j_nI (by omega), el] at y; exact y)), chd, j_b, if_pos (j_ckn (by omega) (by decide)), if_pos (s5.mpr y), j_nm]
    · rintro f l ⟨el, hl⟩
      show fX9_hasDivider_44 462 K (f + 1) σ side (oI (n : Int)) (oI (s : Int)) l5 l = _
      have outr : ¬ (0 ≤ V 10 n + ((22 + 1 : Nat) : Int) * nbE side.toInt ∧ V 10 n + ((22 + 1 : Nat) : Int) * nbE side.toInt < v_cc V s) := by
        rcases one with v | v <;> rw [v] <;> omega
      have nj := over 22 hl outr
      rw [fX9_hasDivider_44, way, j_b, if_pos weq, u, nj, if_pos rfl, if_pos rfl]
      by_cases lo : l < 0
      · rw [if_pos lo]
        rfl
      · rw [if_neg lo, r6, j_b, if_pos (by rw [j_le, j_nI (by omega), el]; rw [j_lt, el, jz0] at lo; omega)]
        rfl
  · have u : snb V (mq σ) n side.toInt = -1 := by
      unfold snb
      rw [if_neg (by omega), e9, ga_in hs, if_neg w]
    rw [show FU = 5999 + 1 from rfl, fX9_hasDivider_44, way, j_b, if_neg (fun y => w (by rw [j_eq, t8, sd] at y; exact y)), u, if_pos rfl]
    rfl
theorem m_hd2 (h : VM (mv (σ.1 463)) V X) (t : Tree V d wn Y) {side : Int32} (hsd : side = 0 ∨ side = 1 ∨ side = 2 ∨ side = 3) (b01 : ∀ i, i < 23 → V 8 i ≠ 3 → mq σ 1 i = 0 ∨ mq σ 1 i = 1) : ∀ (k n fuel : Nat), n < 23 → V 8 n ≠ 3 → dq V n < k → k < fuel → fX9_hasDivider_2 462 fuel σ side (oI (n : Int)) = if nad V (mq σ) side.toInt k n = -1 then some (false, σ) else some (true, su (su σ 462 13 (oI (ahN V (mq σ) (nad V (mq σ) side.toInt k n).toNat side.toInt))) 462 14 (oI (beN V (mq σ) (nad V (mq σ) side.toInt k n).toNat side.toInt))) := by
  intro k
  induction k with
  | zero => exact fun n fuel _ _ hd => absurd hd (by omega)
  | succ k ih =>
    intro n fuel hn hu hd hf
    match fuel with
    | f + 1 =>
      have tn : (oI (n : Int)).toInt = n := j_oI (by omega) (by omega)
      have e1 := h.pa hn hu
      have r9 : -2147483648 ≤ V 9 n ∧ V 9 n < 2147483648 := by rw [← e1]; exact mv_rg _ _ _
      have y9 := oi_m1 r9.1 r9.2
      have u : nad V (mq σ) side.toInt (k + 1) n = if snb V (mq σ) n side.toInt = -1 then nad V (mq σ) side.toInt k (ga (V 9) 23 n) else n := by
        show (if (n : Int) = -1 then -1 else if snb V (mq σ) (n : Int).toNat side.toInt = -1 then _ else (n : Int)) = _
        rw [if_neg (by omega), Int.toNat_natCast]
      rw [fX9_hasDivider_2, m_i1 tn (by omega), j_b, e1, u]
      by_cases z : V 9 n = -1
      · have : snb V (mq σ) n side.toInt = -1 := by
          unfold snb
          rw [if_pos z]
        rw [if_pos (y9.mpr z), this, if_pos rfl, ga_in hn, z, nad_m1, if_pos rfl]
      · obtain ⟨s, hs, es, ks, -, -⟩ := t.pa hn z
        have us : V 8 s ≠ 3 := by omega
        have ds := t.dqc hn es
        have e4 := h.pl hn z
        have p10 := (t.sp hs ks).1.1 n hn (by simp [es])
        have c23 := cnt_le (fun n => decide (V 9 n = s)) 23
        have t10 : (oI (V 10 n)).toInt = V 10 n := j_oI (by omega) (by omega)
        rw [if_neg (fun y => z (y9.mp y)), j_b, es]
        have key : ∀ l5 : Int32, l5.toInt = nbE side.toInt → fX9_hasDivider_31 462 (fX9_hasDivider_2 462 f) σ side (oI (n : Int)) (oI (s : Int)) l5 = if (if snb V (mq σ) n side.toInt = -1 then nad V (mq σ) side.toInt k (ga (V 9) 23 n) else n) = -1 then some (false, σ) else some (true, su (su σ 462 13 (oI (ahN V (mq σ) (if snb V (mq σ) n side.toInt = -1 then nad V (mq σ) side.toInt k (ga (V 9) 23 n) else n).toNat side.toInt))) 462 14 (oI (beN V (mq σ) (if snb V (mq σ) n side.toInt = -1 then nad V (mq σ) side.toInt k (ga (V 9) 23 n) else n).toNat side.toInt))) := fun l5 e5 => by
          unfold fX9_hasDivider_31
          have l6 : (oI (V 10 n) + l5).toInt = V 10 n + nbE side.toInt := by
            rcases nbE_c side.toInt with v | v
            · rw [j_add (by rw [t10, e5, v]; omega) (by rw [t10, e5, v]; omega), t10, e5]
            · rw [j_add (by rw [t10, e5, v]; omega) (by rw [t10, e5, v]; omega), t10, e5]
          rw [m_i4 tn (by omega), j_b, e4, j_nm, m_hd44 h t hn es hs ks hsd e5 (fun i hi e => b01 i hi (t.us hi (by omega))) l6]
          by_cases w : snb V (mq σ) n side.toInt = -1
          · rw [if_pos w, if_pos w, ga_in hn, es]
            exact ih s f hs us (by omega) (by omega)
          · rw [if_neg w, if_neg w, if_neg (by omega), Int.toNat_natCast]
        rcases side_c hsd with ⟨a, b⟩ | ⟨a, b⟩
        · rw [if_pos a]
          exact key (-1) (by rw [b]; rfl)
        · rw [if_neg a]
          exact key 1 (by rw [b]; rfl)
/-- both find the same divider -/
theorem snb_cg {V P Q : VW} {d : Nat → Nat} {wn : Nat → Int} {X : Nat → Bool} (t : Tree V d wn X) (h : ∀ i, i < 23 → V 8 i ≠ 3 → P 1 i = Q 1 i) (n : Nat) (side : Int) (hn : n < 23) : snb V P n side = snb V Q n side := by
  by_cases z : V 9 n = -1
  · unfold snb
    rw [if_pos z, if_pos z]
  · have e : nbB V P n side = nbB V Q n side := by
      funext j
      unfold nbB
      congr 2
      have rg := v_ca_rg V (V 9 n) (V 10 n + j * nbE side)
      by_cases y : v_ca V (V 9 n) (V 10 n + j * nbE side) = -1
      · rw [y, ga_m1 (f := P 1), ga_m1 (f := Q 1)]
      · obtain ⟨q, hq⟩ : ∃ q : Nat, v_ca V (V 9 n) (V 10 n + j * nbE side) = q := ⟨(v_ca V (V 9 n) (V 10 n + j * nbE side)).toNat, by omega⟩
        rw [hq, ga_in (by omega), ga_in (by omega)]
        unfold v_ca at hq
        rw [if_neg z] at hq
        rcases fnd_spec (fun n1 => decide (V 9 n1 = V 9 n) && decide (V 10 n1 = V 10 n + j * nbE side)) 23 with ⟨a, -⟩ | ⟨i, hi, a, b, -⟩
        · omega
        · have : i = q := by omega
          subst this
          simp only [Bool.and_eq_true, decide_eq_true_eq] at b
          rw [h i hi (t.us hi (by rw [b.1]; exact z))]
    unfold snb nbj
    rw [e]
theorem nad_cg {V P Q : VW} {d : Nat → Nat} {wn : Nat → Int} {X : Nat → Bool} (t : Tree V d wn X) (h : ∀ i, i < 23 → V 8 i ≠ 3 → P 1 i = Q 1 i) (side : Int) : ∀ (k n : Nat), n < 23 → nad V P side k n = nad V Q side k n := by
  intro k
  induction k with
  | zero => exact fun n _ => rfl
  | succ k ih =>
    intro n hn
    show (if (n : Int) = -1 then -1 else if snb V P (n : Int).toNat side = -1 then nad V P side k (ga (V 9) 23 n) else (n : Int)) = (if (n : Int) = -1 then -1 else if snb V Q (n : Int).toNat side = -1 then nad V Q side k (ga (V 9) 23 n) else (n : Int))
    rw [Int.toNat_natCast, snb_cg t h n side hn, ga_in hn]
    by_cases z : V 9 n = -1
    · rw [z, nad_m1, nad_m1]
    · obtain ⟨s, hs, es, -⟩ := t.pa hn z
      rw [es, ih s hs]
end RAI
end
section
/-! THE RELATION: drag, the class's weights -/
section RAJ
theorem k_ge {a b : Int64} : 0 ≤ (lg_cmp a b) ↔ b.toInt ≤ a.toInt := by rw [lg_cmp_ge, Int64.le_iff_toInt_le]
theorem k_lt {a b : Int64} : a < b ↔ a.toInt < b.toInt := Int64.lt_iff_toInt_lt
/-- the extents of what is shown lie within -/
theorem Lay.bx {V : VW} {mw mh : Nat → Int} {P : VW} {d : Nat → Nat} {wn : Nat → Int} {X : Nat → Bool} (t : Tree V d wn X) (ge : Geo V) (h : Lay V mw mh P) (hw : ∀ p, p < 12 → 0 ≤ mw p ∧ mw p ≤ 40) (hh : ∀ p, p < 12 → 0 ≤ mh p ∧ mh p ≤ 40) : ∀ (j n : Nat), dq V n ≤ j → n < 23 → V 8 n ≠ 3 → P 1 n = 1 → Bx P n := by
  have EMa : ∀ n, n < 23 → V 8 n ≠ 3 → EM V mw mh P n := fun n hn hu => ⟨h.1 n hn, h.2.1 n hn⟩
  intro j
  induction j with
  | zero =>
    intro n hd hn hu p
    have q9 : V 9 n = -1 := by
      refine Classical.byContradiction (fun q9 => ?_)
      obtain ⟨u, hu23, e, -⟩ := t.pa hn q9
      have := t.dqc hn e
      omega
    obtain ⟨w, hw5, -, e5⟩ := t.ro hn hu q9
    obtain ⟨-, -, l6, l7⟩ := h.2.2.1 w n hw5 e5
    obtain ⟨-, -, g3, g4⟩ := ge w hw5
    unfold Bx
    rw [l6, l7]
    omega
  | succ j ih =>
    intro n hd hn hu p
    by_cases q9 : V 9 n = -1
    · exact ih n (by rw [t.dqr hn q9]; omega) hn hu p
    · obtain ⟨u, hu23, e, ku, -, -⟩ := t.pa hn q9
      have du := t.dqc hn e
      have uu : V 8 u ≠ 3 := by omega
      have pu : P 1 u = 1 := (h.2.1 u hu23 ku).2.1.mpr ⟨n, hn, e, p⟩
      have la := h.2.2.2 u hu23 ku pu
      have np : n ∈ pls V P u := (t.pls_mem hu23 ku).mpr ⟨hn, e, p⟩
      obtain ⟨a, ga⟩ := List.mem_iff_getElem?.mp np
      obtain ⟨w1, w2, -, -⟩ := la a n ga
      have bu := ih u (by omega) hu23 uu pu
      obtain ⟨d1, d2⟩ := t.drs hu23 ku
      have nd := t.pls_nd (P := P) hu23 ku
      have len := t.pls_len (P := P) hu23 ku
      have memu := fun c => t.pls_mem (P := P) hu23 ku (c := c)
      have lmv : ∀ f c, c ∈ pls V P u → lm (pls V P u) f c = f c := fun f c hc => if_pos hc
      have z : dr V u = 0 ∨ dr V u = 1 := by omega
      have rmB : 0 ≤ lrm V P u ∧ lrm V P u ≤ 400 := by
        have : 0 ≤ P (6 + dr V u) u ∧ P (6 + dr V u) u ≤ 400 := by
          rcases z with z | z
          · rw [z]; exact bu.1
          · rw [z]; exact bu.2
        have lp1 : 1 ≤ (pls V P u).length := by
          cases hp : pls V P u with
          | nil => rw [hp] at np; cases np
          | cons y u => simp
        unfold lrm
        split <;> omega
      have sh := share_rg (pl := pls V P u) (room := lrm V P u) (m := lm (pls V P u) (P (2 + dr V u))) (w := lm (pls V P u) (V 11)) ⟨nd, fun c hc => by
        rw [lmv _ c hc]
        exact (EM.ls t EMa hw hh ((memu c).mp hc).1 (t.us ((memu c).mp hc).1 (by have := ((memu c).mp hc).2.1; omega)) ((memu c).mp hc).2.2 _ (by omega)).1, fun c hc => by
        rw [lmv _ c hc]
        exact (t.we ((memu c).mp hc).1 (by have := ((memu c).mp hc).2.1; omega)).1⟩ rmB.1 (by omega) np
      have w1 : P (6 + dr V u) n = share _ _ _ _ n := w1
      unfold Bx
      rcases z with z | z
      · rw [z] at w1 w2 sh
        exact ⟨⟨by rw [w1]; exact sh.1, by rw [w1]; omega⟩, by rw [w2]; exact bu.2.1, by rw [w2]; exact bu.2.2⟩
      · rw [z] at w1 w2 sh
        exact ⟨⟨by rw [w2]; exact bu.1.1, by rw [w2]; exact bu.1.2⟩, by rw [w1]; exact sh.1, by rw [w1]; omega⟩
/-! how far a divider moves, and the weights then -/
def mvI (P : VW) (D a b : Nat) (by_ : Int) : Int := if P (6 + D) a - P (2 + D) a < 0 then 0 else if 0 ≤ P (6 + D) b - P (2 + D) b then (if -(P (6 + D) a - P (2 + D) a) < (if P (6 + D) b - P (2 + D) b < by_ then P (6 + D) b - P (2 + D) b else by_) then (if P (6 + D) b - P (2 + D) b < by_ then P (6 + D) b - P (2 + D) b else by_) else -(P (6 + D) a - P (2 + D) a)) else 0
def chg (a b : Nat) (x : Int) (n : Nat) : Int := if n = a then x else if n = b then -x else 0
def wsz (P : VW) (D a b : Nat) (x : Int) (n : Nat) : Int := if 1 < 100 * (P (6 + D) n + chg a b x n) then 100 * (P (6 + D) n + chg a b x n) else 1
def wcl (V : VW) (T B : Int) (n : Nat) : Int := if V 11 n * T / B < 1 then 1 else if 1000000 < V 11 n * T / B then 1000000 else V 11 n * T / B
def wG (V P : VW) (D a b s : Nat) (x : Int) (n : Nat) : Int := if P 1 n = 1 then wsz P D a b x n else wcl V (Sm (wsz P D a b x) (pls V P s)) (Sm (V 11) (pls V P s)) n
theorem s_min {σ : Sg} {p l3 : Int32} {D : Nat} (hD : (l3 = 0 ∧ D = 0) ∨ (¬ l3 = 0 ∧ D = 1)) : fX2_minimumOf σ 422 p l3 = some (oI (ga (qv σ (2 + D)) 23 p.toInt)) := by
  unfold fX2_minimumOf fX2_minimumOf_15
  rcases hD with ⟨z, rfl⟩ | ⟨z, rfl⟩
  · rw [if_pos z, show (422 + 2 : Nat) = 422 + 2 from rfl, s_q (j := 2) (by decide) (by decide), j_b]
  · rw [if_neg z, show (422 + 3 : Nat) = 422 + 3 from rfl, s_q (j := 3) (by decide) (by decide), j_b]
theorem s_ex2 {σ : Sg} {p l3 : Int32} {D : Nat} (hD : (l3 = 0 ∧ D = 0) ∨ (¬ l3 = 0 ∧ D = 1)) : fX2_extentOf σ 422 p l3 = some (oI (ga (qv σ (6 + D)) 23 p.toInt)) := by
  unfold fX2_extentOf fX2_extentOf_15
  rcases hD with ⟨z, rfl⟩ | ⟨z, rfl⟩
  · rw [if_pos z, s_q (j := 6) (by decide) (by decide), j_b]
  · rw [if_neg z, s_q (j := 7) (by decide) (by decide), j_b]
theorem s_step {σ : Sg} {P : VW} (hP : qv σ = P) {l3 : Int32} {D : Nat} (hD : (l3 = 0 ∧ D = 0) ∨ (¬ l3 = 0 ∧ D = 1)) {a b : Nat} (ha : a < 23) (hb : b < 23) {by_ : Int32} (ba : (0 ≤ P (6 + D) a ∧ P (6 + D) a ≤ 400) ∧ 0 ≤ P (2 + D) a ∧ P (2 + D) a ≤ 965) (bb : (0 ≤ P (6 + D) b ∧ P (6 + D) b ≤ 400) ∧ 0 ≤ P (2 + D) b ∧ P (2 + D) b ≤ 965) : fX2_dividerStep σ 422 (oI (a : Int)) (oI (b : Int)) l3 by_ = some (oI (mvI P D a b by_.toInt)) := by
  subst hP
  have ta : (oI (a : Int)).toInt = a := j_oI (by omega) (by omega)
  have tb : (oI (b : Int)).toInt = b := j_oI (by omega) (by omega)
  unfold fX2_dividerStep
  rw [s_ex2 hD, j_b, s_min hD, j_b, j_nm, s_ex2 hD, j_b, s_min hD, j_b, j_nm, ta, tb, ga_in ha, ga_in ha, ga_in hb, ga_in hb, j_os, j_os]
  generalize hx : qv σ (6 + D) a - qv σ (2 + D) a = x
  generalize hy : qv σ (6 + D) b - qv σ (2 + D) b = y
  have tx : (oI x).toInt = x := j_oI (by omega) (by omega)
  have ty : (oI y).toInt = y := j_oI (by omega) (by omega)
  unfold mvI
  rw [hx, hy]
  by_cases z : x < 0
  · rw [if_pos z, if_pos (by rw [j_lt, tx, jz0]; exact z)]
    rfl
  · rw [if_neg z, if_neg (fun w => z (by rw [j_lt, tx, jz0] at w; exact w))]
    by_cases z2 : 0 ≤ y
    · rw [if_pos z2, if_pos (by rw [j_le, ty, jz0]; exact z2), j_nm, j_nm]
      have e7 : (if oI y < by_ then oI y else by_) = oI (if y < by_.toInt then y else by_.toInt) := by
        by_cases w : y < by_.toInt
        · rw [if_pos w, if_pos (by rw [j_lt, ty]; exact w)]
        · rw [if_neg w, if_neg (fun v => w (by rw [j_lt, ty] at v; exact v)), j_oIt]
      rw [e7]
      have bl := j_lo by_
      have t7 : (oI (if y < by_.toInt then y else by_.toInt)).toInt = if y < by_.toInt then y else by_.toInt := by
        refine j_oI ?_ ?_ <;> split <;> omega
      have tn : (-(oI x)).toInt = -x := by
        have : -(oI x) = oI (-x) := by
          refine j_eq.mpr ?_
          rw [Int32.toInt_neg, tx, j_oI (by omega) (by omega), Int.bmod_def]
          split <;> omega
        rw [this, j_oI (by omega) (by omega)]
      have en : -(oI x) = oI (-x) := j_eq.mpr (by rw [tn, j_oI (by omega) (by omega)])
      by_cases w : -x < (if y < by_.toInt then y else by_.toInt)
      · rw [if_pos w, if_pos (by rw [j_lt, tn, t7]; exact w)]
      · rw [if_neg w, if_neg (fun v => w (by rw [j_lt, tn, t7] at v; exact v)), en]
    · rw [if_neg z2, if_neg (fun w => z2 (by rw [j_le, ty, jz0] at w; exact w))]
      rfl
theorem mvI_rg {P : VW} {D a b : Nat} {by_ : Int} (ba : (0 ≤ P (6 + D) a ∧ P (6 + D) a ≤ 400) ∧ 0 ≤ P (2 + D) a) (bb : (0 ≤ P (6 + D) b ∧ P (6 + D) b ≤ 400) ∧ 0 ≤ P (2 + D) b) : -400 ≤ mvI P D a b by_ ∧ mvI P D a b by_ ≤ 400 := by
  unfold mvI
  repeat' split
  all_goals omega
theorem wsz_rg {P : VW} {D a b n : Nat} {x : Int} (hx : -400 ≤ x ∧ x ≤ 400) (bn : 0 ≤ P (6 + D) n ∧ P (6 + D) n ≤ 400) : 1 ≤ wsz P D a b x n ∧ wsz P D a b x n ≤ 80000 := by
  unfold wsz chg
  repeat' split
  all_goals omega
end RAJ
end
section
/-! THE RELATION: drag, the class's weights (2) -/
section RAK
theorem j_neg {x : Int} (h0 : -2147483647 ≤ x) (h1 : x < 2147483648) : -(oI x) = oI (-x) := by
  refine j_eq.mpr ?_
  rw [Int32.toInt_neg, j_oI (by omega) (by omega), j_oI (by omega) (by omega), Int.bmod_def]
  split <;> omega
theorem kf_le {V P : VW} {n i : Nat} : (kf V P n i).length ≤ i := by
  unfold kf
  exact Nat.le_trans (List.length_filter_le ..) (by rw [List.length_take]; omega)
theorem sm_kf {V P : VW} {n i : Nat} {f : Nat → Int} {B : Int} (hB : 0 ≤ B) (h : ∀ c ∈ kf V P n i, 0 ≤ f c ∧ f c ≤ B) (hi : i ≤ 23) : 0 ≤ Sm f (kf V P n i) ∧ Sm f (kf V P n i) ≤ B * 23 := by
  have a := Sm_up (f := f) (B := B) (l := kf V P n i) (fun c hc => (h c hc).2)
  have b : (kf V P n i).length ≤ i := kf_le
  refine ⟨Sm_nn (fun c hc => (h c hc).1), Int.le_trans a (Int.mul_le_mul_of_nonneg_left (by omega) hB)⟩
def D1 (V P : VW) (s i : Nat) (n : Nat) : Bool := chB V s i n && decide (P 1 n = 1)
def D2 (V P : VW) (s i : Nat) (n : Nat) : Bool := decide (V 9 n = s) && (decide (P 1 n = 1) || decide (V 10 n < i))
theorem s_we160 {σ : Sg} {S : ST} {P : VW} {d : Nat → Nat} {wn : Nat → Int} {X : Nat → Bool} (t : Tree (S_pl S) d wn X) (hP : qv σ = P) {s : Nat} (hs : s < 23) (ks : S_pl S 8 s ≤ 1) {G : Nat → Int} {T B : Int} {l8 l10 : Int64} (e8 : l8.toInt = B) (e10 : l10.toInt = T) (hB : 1 ≤ B ∧ B ≤ 23000000) (hT : 0 ≤ T ∧ T ≤ 1840000) (hG : ∀ c, c < 23 → S_pl S 9 c = s → ¬ P 1 c = 1 → G c = wcl (S_pl S) T B c) (hs1 : stv σ 1 = pfS S (S_fo S) (wgV (S_pl S) (D2 (S_pl S) P s 0) G)) : ∃ σ', fX8_weighBySizes_160 FU σ (oI (s : Int)) (nI (v_cc (S_pl S) s)) l8 l10 0 = some σ' ∧ Out σ σ' 1 70 ∧ stv σ' 1 = pfS S (S_fo S) (wgV (S_pl S) (fun n => decide (S_pl S 9 n = s)) G) := by
  have ts : (oI (s : Int)).toInt = s := j_oI (by omega) (by omega)
  have cc23 := v_cc_rg (S_pl S) s
  have nl8 : ¬ (lg_cmp l8 (0 : Int64)) ≤ 0 := by rw [k_le, e8, kz0]; omega
  have n8 : ¬ l8 = 0 := by rw [k_eq, e8, kz0]; omega
  refine lp (F := fun f (x : Sg × Int32) => fX8_weighBySizes_160 f x.1 (oI (s : Int)) (nI (v_cc (S_pl S) s)) l8 l10 x.2) (Q := fun o => ∃ σ', o = some σ' ∧ Out σ σ' 1 70 ∧ stv σ' 1 = pfS S (S_fo S) (wgV (S_pl S) (fun n => decide (S_pl S 9 n = s)) G)) (fun i x => x.2 = nI i ∧ Out σ x.1 1 70 ∧ stv x.1 1 = pfS S (S_fo S) (wgV (S_pl S) (D2 (S_pl S) P s i) G)) (v_cc (S_pl S) s) ?_ ?_ (v_cc (S_pl S) s) 0 FU (σ, 0) (by omega) (by show _ < 6000; omega) ⟨rfl, Out.rf, hs1⟩
  · rintro f i ⟨x, y⟩ hi ⟨rfl, hO, hv⟩
    simp only at hO hv
    obtain ⟨c, hc, ec, e9c, e10c, -⟩ := t.kid hs ks hi
    have ex := S_pv hv
    have ti : (nI i).toInt = i := j_nI (by omega)
    have tc : (oI (c : Int)).toInt = c := j_oI (by omega) (by omega)
    have nle : ¬ nI (v_cc (S_pl S) s) ≤ nI i := by rw [j_le, j_nI (by omega), j_nI (by omega)]; omega
    have qx : qv x = P := by rw [← hP]; exact qv_c (fun c a b => hO.2 c (by omega))
    have ca : fX1_childAt x (1 + 5) (oI (s : Int)) (nI i) = some (oI (c : Int)) := by
      rw [s_childAt, ex, ts, ti]
      show some (oI (v_ca (wgV (S_pl S) (D2 (S_pl S) P s i) G) s i)) = _
      rw [wg_ca, ec]
    have chs := chB_s t hs ks hc e9c e10c
    show ∃ x' : Sg × Int32, _ ∧ fX8_weighBySizes_160 (f + 1) x (oI (s : Int)) (nI (v_cc (S_pl S) s)) l8 l10 (nI i) = _
    rw [fX8_weighBySizes_160, if_neg nle, if_neg nl8, ca, j_b, s_isShown, j_b, qx, tc, ga_in hc]
    by_cases y : P 1 c = 1
    · rw [decide_eq_true y, if_pos rfl]
      unfold fX8_weighBySizes_233
      rw [j_s]
      refine ⟨(x, nI (i + 1)), ⟨rfl, hO, ?_⟩, rfl⟩
      show stv x 1 = _
      rw [hv, wg_cg (D := D2 (S_pl S) P s i) (D' := D2 (S_pl S) P s (i + 1)) (g := G) (fun n hn => ⟨?_, fun _ => rfl⟩)]
      have := chs n hn
      unfold chB at this
      unfold D2
      by_cases z : n = c
      · rw [z, decide_eq_true y, Bool.true_or, Bool.true_or]
      · rw [decide_eq_false z, Bool.or_false] at this
        by_cases e : S_pl S 9 n = s
        · rw [decide_eq_true e, Bool.true_and, Bool.true_and] at this
          rw [this]
        · rw [decide_eq_false e, Bool.false_and, Bool.false_and]
    · have w1 := t.we hc (show S_pl S 9 c ≠ -1 by omega)
      have Dc : D2 (S_pl S) P s i c = false := by
        unfold D2
        rw [decide_eq_false y, Bool.false_or, decide_eq_false (show ¬ S_pl S 10 c < i by omega), Bool.and_false]
      have wo : fX1_weightOf x (1 + 5) (oI (c : Int)) = some (oI (S_pl S 11 c)) := by
        rw [s_weightOf, ex, tc, ga_in hc]
        show some (oI (wgV (S_pl S) (D2 (S_pl S) P s i) G 11 c)) = _
        rw [wg_at hc, Dc, if_neg Bool.false_ne_true]
      have t11 : (oI (S_pl S 11 c)).toInt64.toInt = S_pl S 11 c := by rw [k_64, j_oI (by omega) (by omega)]
      have m0 : 0 ≤ S_pl S 11 c * T := Int.mul_nonneg (by omega) hT.1
      have m1 : S_pl S 11 c * T ≤ 1000000 * 1840000 := Int.mul_le_mul w1.2 hT.2 hT.1 (by omega)
      have vm : ((oI (S_pl S 11 c)).toInt64 * l10).toInt = S_pl S 11 c * T := by
        rw [k_mul (by rw [t11, e10]; omega) (by rw [t11, e10]; omega), t11, e10]
      have vd : (((oI (S_pl S 11 c)).toInt64 * l10) / l8).toInt = S_pl S 11 c * T / B := by
        rw [k_div (by rw [vm]; exact m0) (by rw [e8]; omega), vm, e8]
      have q0 : 0 ≤ S_pl S 11 c * T / B := Int.ediv_nonneg m0 (by omega)
      have qB : S_pl S 11 c * T / B ≤ 1000000 * 1840000 := Int.le_trans (Int.ediv_le_self _ m0) m1
      generalize hz : ((oI (S_pl S 11 c)).toInt64 * l10) / l8 = v11 at vd
      have e6 : (1000000 : Int64).toInt = 1000000 := rfl
      have e1 : (1 : Int64).toInt = 1 := rfl
      have fin : (if (if (1000000 : Int64) < v11 then (1000000 : Int64) else v11) < (1 : Int64) then (1 : Int64) else (if (1000000 : Int64) < v11 then (1000000 : Int64) else v11)).toInt32.toInt = G c := by
        rw [hG c hc e9c y]
        unfold wcl
        by_cases a : 1000000 < S_pl S 11 c * T / B
        · rw [if_pos (show (1000000 : Int64) < v11 by rw [k_lt, vd, e6]; exact a), if_neg (by decide), if_neg (show ¬ S_pl S 11 c * T / B < 1 by omega), if_pos a]
          rfl
        · rw [if_neg (show ¬ (1000000 : Int64) < v11 by rw [k_lt, vd, e6]; exact a)]
          by_cases b : S_pl S 11 c * T / B < 1
          · rw [if_pos (show v11 < (1 : Int64) by rw [k_lt, vd, e1]; exact b), if_pos b]
            rfl
          · rw [if_neg (show ¬ v11 < (1 : Int64) by rw [k_lt, vd, e1]; exact b), if_neg b, if_neg a, k_32 (by rw [vd]; omega) (by rw [vd]; omega), vd]
      obtain ⟨x2, b2, w2, v2⟩ := s_sw hv (a := oI (c : Int)) (w := (if (if (1000000 : Int64) < v11 then (1000000 : Int64) else v11) < (1 : Int64) then (1 : Int64) else (if (1000000 : Int64) < v11 then (1000000 : Int64) else v11)).toInt32) tc hc fin (D' := D2 (S_pl S) P s (i + 1)) (fun n hn => by
        have := chs n hn
        unfold chB at this
        unfold D2
        by_cases z : n = c
        · rw [z, decide_eq_true rfl, Bool.or_true, decide_eq_true e9c, decide_eq_true (show S_pl S 10 c < ((i + 1 : Nat) : Int) by omega), Bool.or_true, Bool.true_and]
        · rw [decide_eq_false z, Bool.or_false] at this ⊢
          by_cases e : S_pl S 9 n = s
          · rw [decide_eq_true e, Bool.true_and, Bool.true_and] at this
            rw [this]
          · rw [decide_eq_false e, Bool.false_and, Bool.false_and])
      rw [decide_eq_false y, if_neg Bool.false_ne_true, wo, j_b, if_neg n8, hz, j_nm, j_nm, j_nm, b2, j_b]
      unfold fX8_weighBySizes_233
      rw [j_s]
      exact ⟨(x2, nI (i + 1)), ⟨rfl, hO.tr w2, v2⟩, rfl⟩
  · rintro f ⟨x, y⟩ ⟨rfl, hO, hv⟩
    simp only at hO hv
    show ∃ σ', fX8_weighBySizes_160 (f + 1) x (oI (s : Int)) (nI (v_cc (S_pl S) s)) l8 l10 (nI (v_cc (S_pl S) s)) = _ ∧ _
    rw [fX8_weighBySizes_160, if_pos (by rw [j_le]; exact Int.le_refl _)]
    refine ⟨x, rfl, hO, ?_⟩
    rw [hv, wg_cg (D := fun n => decide (S_pl S 9 n = s)) (g := G) (fun n hn => ⟨?_, fun _ => rfl⟩)]
    have := chB_all t hs ks n hn
    unfold chB at this
    unfold D2
    by_cases e : S_pl S 9 n = s
    · rw [decide_eq_true e, Bool.true_and] at this ⊢
      rw [this, Bool.or_true]
    · rw [decide_eq_false e, Bool.false_and]
theorem s_weigh {σ : Sg} {S : ST} {P : VW} {d : Nat → Nat} {wn : Nat → Int} {X : Nat → Bool} (hs0 : stv σ 1 = S) (t : Tree (S_pl S) d wn X) (hP : qv σ = P) {a b s D : Nat} (ha : a < 23) (hb : b < 23) (e9a : S_pl S 9 a = s) (hs : s < 23) (ks : S_pl S 8 s ≤ 1) (wd : S_pl S 8 s = D) (hD : D ≤ 1) (pa : P 1 a = 1) {x : Int} (hx : -400 ≤ x ∧ x ≤ 400) (bn : ∀ n, n < 23 → S_pl S 9 n = s → P 1 n = 1 → 0 ≤ P (6 + D) n ∧ P (6 + D) n ≤ 400) : ∃ σ', fX8_weighBySizes σ (oI (a : Int)) (oI (b : Int)) (oI x) = some σ' ∧ Out σ σ' 1 70 ∧ stv σ' 1 = pfS S (S_fo S) (wgV (S_pl S) (fun n => decide (S_pl S 9 n = s)) (wG (S_pl S) P D a b s x)) := by
  have ta : (oI (a : Int)).toInt = a := j_oI (by omega) (by omega)
  have tb : (oI (b : Int)).toInt = b := j_oI (by omega) (by omega)
  have ts : (oI (s : Int)).toInt = s := j_oI (by omega) (by omega)
  have cc23 := v_cc_rg (S_pl S) s
  have hpv := S_pv hs0
  have kin : ∀ c i, c ∈ kf (S_pl S) P s i → c < 23 ∧ S_pl S 9 c = s ∧ P 1 c = 1 := fun c i hc => (t.pls_mem hs ks).mp (kf_sub hc)
  have B1 : ∀ i, i ≤ 23 → 0 ≤ Sm (S_pl S 11) (kf (S_pl S) P s i) ∧ Sm (S_pl S 11) (kf (S_pl S) P s i) ≤ 1000000 * 23 := fun i hi => sm_kf (by omega) (fun c hc => by
    obtain ⟨h1, h2, h3⟩ := kin c i hc
    have := t.we h1 (by omega)
    omega) hi
  have T1 : ∀ i, i ≤ 23 → 0 ≤ Sm (wsz P D a b x) (kf (S_pl S) P s i) ∧ Sm (wsz P D a b x) (kf (S_pl S) P s i) ≤ 80000 * 23 := fun i hi => sm_kf (by omega) (fun c hc => by
    obtain ⟨h1, h2, h3⟩ := kin c i hc
    have := wsz_rg (a := a) (b := b) hx (bn c h1 h2 h3)
    omega) hi
  have hDl : (oI (D : Int) = 0 ∧ D = 0) ∨ (¬ oI (D : Int) = 0 ∧ D = 1) := by
    have : D = 0 ∨ D = 1 := by omega
    rcases this with rfl | rfl
    · exact Or.inl ⟨rfl, rfl⟩
    · exact Or.inr ⟨by decide, rfl⟩
  have ng := j_neg (x := x) (by omega) (by omega)
  unfold fX8_weighBySizes
  rw [s_parentOf, j_b, hpv, ta, ga_in ha, e9a, s_kindOf, j_b, hpv, ts, ga_in hs, wd, s_childCount, j_b, hpv, ts, j_nm, j_nm, ← j_nIo _ (show v_cc (S_pl S) s < 2147483648 by omega)]
  refine lp (F := fun f (y : Sg × Int64 × Int64 × Int32) => fX8_weighBySizes_44 f y.1 (oI (a : Int)) (oI (b : Int)) (oI x) (oI (s : Int)) (oI (D : Int)) (nI (v_cc (S_pl S) s)) y.2.1 y.2.2.1 y.2.2.2) (Q := fun o => ∃ σ', o = some σ' ∧ Out σ σ' 1 70 ∧ stv σ' 1 = pfS S (S_fo S) (wgV (S_pl S) (fun n => decide (S_pl S 9 n = s)) (wG (S_pl S) P D a b s x))) (fun i y => y.2.2.2 = nI i ∧ Out σ y.1 1 70 ∧ stv y.1 1 = pfS S (S_fo S) (wgV (S_pl S) (D1 (S_pl S) P s i) (wG (S_pl S) P D a b s x)) ∧ y.2.1.toInt = Sm (S_pl S 11) (kf (S_pl S) P s i) ∧ y.2.2.1.toInt = Sm (wsz P D a b x) (kf (S_pl S) P s i)) (v_cc (S_pl S) s) ?_ ?_ (v_cc (S_pl S) s) 0 FU (σ, 0, 0, 0) (by omega) (by show _ < 6000; omega) ⟨rfl, Out.rf, ?_, ?_, ?_⟩
  · rintro f i ⟨y, l8, l10, l⟩ hi ⟨rfl, hO, hv, h8, h10⟩
    simp only at hO hv h8 h10
    obtain ⟨c, hc, ec, e9c, e10c, gk⟩ := t.kid hs ks hi
    have ex := S_pv hv
    have ti : (nI i).toInt = i := j_nI (by omega)
    have tc : (oI (c : Int)).toInt = c := j_oI (by omega) (by omega)
    have nle : ¬ nI (v_cc (S_pl S) s) ≤ nI i := by rw [j_le, j_nI (by omega), j_nI (by omega)]; omega
    have qx : qv y = P := by rw [← hP]; exact qv_c (fun c a b => hO.2 c (by omega))
    have ca : fX1_childAt y (1 + 5) (oI (s : Int)) (nI i) = some (oI (c : Int)) := by
      rw [s_childAt, ex, ts, ti]
      show some (oI (v_ca (wgV (S_pl S) (D1 (S_pl S) P s i) (wG (S_pl S) P D a b s x)) s i)) = _
      rw [wg_ca, ec]
    have chs := chB_s t hs ks hc e9c e10c
    show ∃ x' : Sg × Int64 × Int64 × Int32, _ ∧ fX8_weighBySizes_44 (f + 1) y (oI (a : Int)) (oI (b : Int)) (oI x) (oI (s : Int)) (oI (D : Int)) (nI (v_cc (S_pl S) s)) l8 l10 (nI i) = _
    rw [fX8_weighBySizes_44, if_neg nle, ca, j_b, s_isShown, j_b, qx, tc, ga_in hc]
    by_cases z : P 1 c = 1
    · have w1 := t.we hc (show S_pl S 9 c ≠ -1 by omega)
      have Dc : D1 (S_pl S) P s i c = false := by
        unfold D1 chB
        rw [decide_eq_false (show ¬ S_pl S 10 c < i by omega), Bool.and_false, Bool.false_and]
      have wo : fX1_weightOf y (1 + 5) (oI (c : Int)) = some (oI (S_pl S 11 c)) := by
        rw [s_weightOf, ex, tc, ga_in hc]
        show some (oI (wgV (S_pl S) (D1 (S_pl S) P s i) (wG (S_pl S) P D a b s x) 11 c)) = _
        rw [wg_at hc, Dc, if_neg Bool.false_ne_true]
      have t11 : (oI (S_pl S 11 c)).toInt64.toInt = S_pl S 11 c := by rw [k_64, j_oI (by omega) (by omega)]
      have bc := bn c hc e9c z
      have ch : -400 ≤ chg a b x c ∧ chg a b x c ≤ 400 := by
        unfold chg
        repeat' split
        all_goals omega
      -- the three cases of the change
      have cs : (if oI (c : Int) = oI (a : Int) then fX8_weighBySizes_96 (fX8_weighBySizes_44 f) y (oI (a : Int)) (oI (b : Int)) (oI x) (oI (s : Int)) (oI (D : Int)) (nI (v_cc (S_pl S) s)) l8 l10 (nI i) (oI (c : Int)) (oI x) else if oI (c : Int) = oI (b : Int) then fX8_weighBySizes_96 (fX8_weighBySizes_44 f) y (oI (a : Int)) (oI (b : Int)) (oI x) (oI (s : Int)) (oI (D : Int)) (nI (v_cc (S_pl S) s)) l8 l10 (nI i) (oI (c : Int)) (-(oI x)) else fX8_weighBySizes_96 (fX8_weighBySizes_44 f) y (oI (a : Int)) (oI (b : Int)) (oI x) (oI (s : Int)) (oI (D : Int)) (nI (v_cc (S_pl S) s)) l8 l10 (nI i) (oI (c : Int)) 0) = fX8_weighBySizes_96 (fX8_weighBySizes_44 f) y (oI (a : Int)) (oI (b : Int)) (oI x) (oI (s : Int)) (oI (D : Int)) (nI (v_cc (S_pl S) s)) l8 l10 (nI i) (oI (c : Int)) (oI (chg a b x c)) := by
        unfold chg
        by_cases y1 : c = a
        · rw [if_pos (by rw [y1]), if_pos y1]
        · rw [if_neg (fun u => y1 (by rw [j_eq, tc, ta] at u; omega)), if_neg y1]
          by_cases y2 : c = b
          · rw [if_pos (by rw [y2]), if_pos y2, ng]
          · rw [if_neg (fun u => y2 (by rw [j_eq, tc, tb] at u; omega)), if_neg y2]
            rfl
      rw [decide_eq_true z, if_pos rfl, cs]
      unfold fX8_weighBySizes_96
      have tP : (oI (P (6 + D) c)).toInt = P (6 + D) c := j_oI (by omega) (by omega)
      have tch : (oI (chg a b x c)).toInt = chg a b x c := j_oI (by omega) (by omega)
      have e100 : (100 : Int32).toInt = 100 := rfl
      have ad : (oI (P (6 + D) c) + oI (chg a b x c)).toInt = P (6 + D) c + chg a b x c := by
        rw [j_add (by rw [tP, tch]; omega) (by rw [tP, tch]; omega), tP, tch]
      have mu : (100 * (oI (P (6 + D) c) + oI (chg a b x c))).toInt = 100 * (P (6 + D) c + chg a b x c) := by
        rw [j_mul (by rw [ad, e100]; omega) (by rw [ad, e100]; omega), ad, e100]
      rw [s_ex2 hDl, j_b, qx, tc, ga_in hc]
      generalize 100 * (oI (P (6 + D) c) + oI (chg a b x c)) = v at mu
      have vz : (if 1 < v then v else 1).toInt = wsz P D a b x c := by
        unfold wsz
        by_cases u : 1 < 100 * (P (6 + D) c + chg a b x c)
        · rw [if_pos u, if_pos (show (1 : Int32) < v by rw [j_lt, mu, jz1]; exact u), mu]
        · rw [if_neg u, if_neg (show ¬ (1 : Int32) < v by rw [j_lt, mu, jz1]; exact u)]
          rfl
      generalize (if 1 < v then v else 1) = v16 at vz
      have v64 : v16.toInt64.toInt = wsz P D a b x c := by rw [k_64, vz]
      have wsr := wsz_rg (a := a) (b := b) hx bc
      have b1 := B1 i (by omega)
      have b2 := T1 i (by omega)
      obtain ⟨y2, c2, w2, v2⟩ := s_sw hv (a := oI (c : Int)) (w := v16) tc hc (by rw [vz]; unfold wG; rw [if_pos z]) (D' := D1 (S_pl S) P s (i + 1)) (fun n hn => by
        unfold D1
        rw [chs n hn]
        by_cases u : n = c
        · rw [u, decide_eq_true z, decide_eq_true rfl, Bool.or_true, Bool.or_true, Bool.true_and]
        · rw [decide_eq_false u, Bool.or_false, Bool.or_false])
      rw [j_nm, wo, j_b, j_nm, j_nm, c2, j_b]
      unfold fX8_weighBySizes_151
      rw [j_s]
      have kf1 := kf_1 (P := P) gk z
      refine ⟨(y2, l8 + (oI (S_pl S 11 c)).toInt64, l10 + v16.toInt64, nI (i + 1)), ⟨rfl, hO.tr w2, v2, ?_, ?_⟩, rfl⟩
      · show (l8 + (oI (S_pl S 11 c)).toInt64).toInt = _
        rw [k_add (by rw [h8, t11]; omega) (by rw [h8, t11]; omega), h8, t11, kf1, Sm_app]
        show _ = _ + (S_pl S 11 c + 0)
        omega
      · show (l10 + v16.toInt64).toInt = _
        rw [k_add (by rw [h10, v64]; omega) (by rw [h10, v64]; omega), h10, v64, kf1, Sm_app]
        show _ = _ + (wsz P D a b x c + 0)
        omega
    · rw [decide_eq_false z, if_neg Bool.false_ne_true]
      unfold fX8_weighBySizes_151
      rw [j_s]
      have kf0 := kf_0 (P := P) gk z
      refine ⟨(y, l8, l10, nI (i + 1)), ⟨rfl, hO, ?_, by rw [kf0]; exact h8, by rw [kf0]; exact h10⟩, rfl⟩
      show stv y 1 = _
      rw [hv, wg_cg (D := D1 (S_pl S) P s i) (D' := D1 (S_pl S) P s (i + 1)) (g := wG (S_pl S) P D a b s x) (fun n hn => ⟨?_, fun _ => rfl⟩)]
      unfold D1
      rw [chs n hn]
      by_cases u : n = c
      · rw [u, decide_eq_false z, Bool.and_false, Bool.and_false]
      · rw [decide_eq_false u, Bool.or_false]
  · rintro f ⟨y, l8, l10, l⟩ ⟨rfl, hO, hv, h8, h10⟩
    simp only at hO hv h8 h10
    rw [kf_all] at h8 h10
    have bl := B1 (v_cc (S_pl S) s) (by omega)
    have tl := T1 (v_cc (S_pl S) s) (by omega)
    rw [kf_all] at bl tl
    have apl : a ∈ pls (S_pl S) P s := (t.pls_mem hs ks).mpr ⟨ha, e9a, pa⟩
    have b1 : S_pl S 11 a ≤ Sm (S_pl S 11) (pls (S_pl S) P s) := Sm_mem (fun c hc => by
      have := (t.pls_mem hs ks).mp hc
      have := (t.we this.1 (by omega)).1
      omega) apl
    have w1 := t.we ha (show S_pl S 9 a ≠ -1 by omega)
    show ∃ σ', fX8_weighBySizes_44 (f + 1) y (oI (a : Int)) (oI (b : Int)) (oI x) (oI (s : Int)) (oI (D : Int)) (nI (v_cc (S_pl S) s)) l8 l10 (nI (v_cc (S_pl S) s)) = _ ∧ _
    rw [fX8_weighBySizes_44, if_pos (by rw [j_le]; exact Int.le_refl _)]
    obtain ⟨σ', a1, o1, v1⟩ := s_we160 (σ := y) (S := S) (P := P) t (by rw [← hP]; exact qv_c (fun c a b => hO.2 c (by omega))) hs ks (G := wG (S_pl S) P D a b s x) (T := Sm (wsz P D a b x) (pls (S_pl S) P s)) (B := Sm (S_pl S 11) (pls (S_pl S) P s)) h8 h10 (by omega) (by omega) (fun c hc e z => by unfold wG; rw [if_neg z]) (by
      rw [hv, wg_cg (D := D2 (S_pl S) P s 0) (g := wG (S_pl S) P D a b s x) (fun n hn => ⟨?_, fun _ => rfl⟩)]
      have c0 := chB_0 t hs ks n hn
      unfold chB at c0
      unfold D1 D2
      rw [chB_all t hs ks n hn]
      by_cases e : S_pl S 9 n = s
      · rw [decide_eq_true e, Bool.true_and] at c0
        rw [decide_eq_true e, c0, Bool.true_and, Bool.or_false, Bool.true_and]
      · rw [decide_eq_false e, Bool.false_and, Bool.false_and])
    exact ⟨σ', a1, hO.tr o1, v1⟩
  · show stv σ 1 = _
    rw [wg_cg (D := fun _ => false) (g := wG (S_pl S) P D a b s x) (fun n hn => ⟨by unfold D1; rw [chB_0 t hs ks n hn, Bool.false_and], fun _ => rfl⟩), wg_no]
    exact hs0
  · have : kf (S_pl S) P s 0 = [] := by unfold kf; simp
    rw [this]
    rfl
  · have : kf (S_pl S) P s 0 = [] := by unfold kf; simp
    rw [this]
    rfl
end RAK
end
section
/-! THE RELATION: drag, the reference's weights -/
section RAL
variable {V : VW} {d : Nat → Nat} {wn : Nat → Int} {X Y : Nat → Bool}
/-- row 3 alone has changed -/
def W3 (U U' : VW) (D : Nat → Bool) (g : Nat → Int) : Prop := (∀ j, j ≠ 3 → U' j = U j) ∧ ∀ n, n < 23 → U' 3 n = if D n = true then g n else U 3 n
theorem W3.ch {U U' : VW} {D : Nat → Bool} {g : Nat → Int} (w : W3 U U' D g) (h : VM U V X) (t : Tree V d wn Y) {s i : Nat} (hi : i < 24) : (decide (U' 0 i ≠ 0) && decide (U' 1 i = s)) = (decide (i < 23) && decide (V 9 i = s)) := by
  rw [w.1 0 (by omega), w.1 1 (by omega)]
  by_cases z : i < 23
  · rw [h.ch t z (show (s : Int) ≠ -1 by omega), decide_eq_true z, Bool.true_and]
  · have : i = 23 := by omega
    rw [this, h.l]
    rfl
theorem W3.up {σ σ' : Sg} {U : VW} {D D' : Nat → Bool} {g : Nat → Int} {c : Nat} (w : W3 U (mv (σ.1 463)) D g) (u : mv (σ'.1 463) = mu (mv (σ.1 463)) 3 c (g c)) (hD : ∀ n, n < 23 → D' n = (D n || decide (n = c))) : W3 U (mv (σ'.1 463)) D' g := by
  refine ⟨fun j hj => by rw [u, mu_ne hj]; exact w.1 j hj, fun n hn => ?_⟩
  rw [u, mu_at, hD n hn]
  by_cases z : n = c
  · rw [if_pos z, decide_eq_true z, Bool.or_true, if_pos rfl, z]
  · rw [if_neg z, decide_eq_false z, Bool.or_false]
    exact w.2 n hn
theorem W3.cg {U U' : VW} {D D' : Nat → Bool} {g : Nat → Int} (w : W3 U U' D g) (hD : ∀ n, n < 23 → D' n = D n) : W3 U U' D' g :=
  ⟨w.1, fun n hn => by rw [hD n hn]; exact w.2 n hn⟩
def E1 (V P : VW) (s i n : Nat) : Bool := decide (n < i) && cs V P s n
def E2 (V P : VW) (s i n : Nat) : Bool := decide (V 9 n = s) && (decide (P 1 n = 1) || decide (n < i))
theorem m_we105 {σ : Sg} {U P : VW} (h : VM U V X) (t : Tree V d wn Y) {s : Nat} (hs : s < 23) {G : Nat → Int} {T B : Int} {l3 l5 : Int64} (e3 : l3.toInt = B) (e5 : l5.toInt = T) (hB : 1 ≤ B ∧ B ≤ 23000000) (hT : 0 ≤ T ∧ T ≤ 1840000) (hG : ∀ c, c < 23 → V 9 c = s → ¬ P 1 c = 1 → G c = wcl V T B c) (hp : ∀ c, c < 23 → V 9 c = s → (σ.1 467 c = 0 ↔ ¬ P 1 c = 1)) (w : W3 U (mv (σ.1 463)) (E2 V P s 0) G) : ∃ σ', fX9_weighs_105 462 FU σ (oI (s : Int)) l3 l5 0 = some σ' ∧ Out σ σ' 463 463 ∧ W3 U (mv (σ'.1 463)) (fun n => decide (V 9 n = s)) G := by
  have ts : (oI (s : Int)).toInt = s := j_oI (by omega) (by omega)
  have n3 : ¬ l3 = 0 := by rw [k_eq, e3, kz0]; omega
  refine lp (F := fun f (x : Sg × Int32) => fX9_weighs_105 462 f x.1 (oI (s : Int)) l3 l5 x.2) (Q := fun o => ∃ σ', o = some σ' ∧ Out σ σ' 463 463 ∧ W3 U (mv (σ'.1 463)) (fun n => decide (V 9 n = s)) G) (fun i x => x.2 = nI i ∧ Out σ x.1 463 463 ∧ W3 U (mv (x.1.1 463)) (E2 V P s i) G) 24 ?_ ?_ 24 0 FU (σ, 0) rfl (by decide) ⟨rfl, Out.rf, w⟩
  · rintro f i ⟨x, y⟩ hi ⟨rfl, hO, hW⟩
    simp only at hO hW
    have ti : (nI i).toInt = i := j_nI (by omega)
    have nle : ¬ (24 : Int32) ≤ nI i := n_ge 24 (m := 24) rfl hi (by decide)
    have cki : ck (nI i) 24 := j_ckn hi (by decide)
    have ecl : (nI i).toNatClampNeg = i := j_cl _ (by omega)
    have skip : (∀ n, n < 23 → E2 V P s (i + 1) n = E2 V P s i n) → ∃ x' : Sg × Int32, (x'.2 = nI (i + 1) ∧ Out σ x'.1 463 463 ∧ W3 U (mv (x'.1.1 463)) (E2 V P s (i + 1)) G) ∧ fX9_weighs_182 462 (fX9_weighs_105 462 f) x (oI (s : Int)) l3 l5 (nI i) = fX9_weighs_105 462 f x'.1 (oI (s : Int)) l3 l5 x'.2 := fun e => by
      unfold fX9_weighs_182
      rw [j_s]
      exact ⟨(x, nI (i + 1)), ⟨rfl, hO, hW.cg e⟩, rfl⟩
    show ∃ x' : Sg × Int32, _ ∧ fX9_weighs_105 462 (f + 1) x (oI (s : Int)) l3 l5 (nI i) = _
    rw [fX9_weighs_105, if_neg nle, m_isChild ti hi, j_b, ts, hW.ch h t hi]
    by_cases z : i < 23 ∧ V 9 i = s
    · obtain ⟨i23, e9⟩ := z
      rw [decide_eq_true i23, decide_eq_true e9, if_pos (by rfl), if_pos cki]
      have s5 : x.1 (462 + 5) (nI i).toNatClampNeg = 0 ↔ ¬ P 1 i = 1 := by
        rw [ecl]
        show x.1 467 i = 0 ↔ _
        rw [hO.2 467 (by omega)]
        exact hp i i23 e9
      by_cases y : P 1 i = 1
      · rw [if_neg (fun v => (s5.mp v) y)]
        refine skip (fun n hn => ?_)
        unfold E2
        by_cases v : n = i
        · rw [v, decide_eq_true y, Bool.true_or, Bool.true_or]
        · have : decide (n < i + 1) = decide (n < i) := by
            by_cases u : n < i
            · rw [decide_eq_true u, decide_eq_true (by omega)]
            · rw [decide_eq_false u, decide_eq_false (by omega)]
          rw [this]
      · have w1 := t.we i23 (show V 9 i ≠ -1 by omega)
        have Di : E2 V P s i i = false := by
          unfold E2
          rw [decide_eq_false y, decide_eq_false (show ¬ i < i by omega), Bool.or_false, Bool.and_false]
        have u3 : mv (x.1 463) 3 i = V 11 i := by
          rw [hW.2 i i23, Di, if_neg Bool.false_ne_true]
          exact h.we i23 (by omega)
        have t11 : (oI (mv (x.1 463) 3 i)).toInt64.toInt = V 11 i := by rw [k_64, t_mv, u3]
        have m0 : 0 ≤ V 11 i * T := Int.mul_nonneg (by omega) hT.1
        have m1 : V 11 i * T ≤ 1000000 * 1840000 := Int.mul_le_mul w1.2 hT.2 hT.1 (by omega)
        have vm : ((oI (mv (x.1 463) 3 i)).toInt64 * l5).toInt = V 11 i * T := by
          rw [k_mul (by rw [t11, e5]; omega) (by rw [t11, e5]; omega), t11, e5]
        have vd : (((oI (mv (x.1 463) 3 i)).toInt64 * l5) / l3).toInt = V 11 i * T / B := by
          rw [k_div (by rw [vm]; exact m0) (by rw [e3]; omega), vm, e3]
        have q0 : 0 ≤ V 11 i * T / B := Int.ediv_nonneg m0 (by omega)
        have qB : V 11 i * T / B ≤ 1000000 * 1840000 := Int.le_trans (Int.ediv_le_self _ m0) m1
        rw [if_pos (s5.mpr y), m_i3 ti hi, j_b, if_neg n3, j_nm]
        generalize ((oI (mv (x.1 463) 3 i)).toInt64 * l5) / l3 = v9 at vd
        have e6 : (1000000 : Int64).toInt = 1000000 := rfl
        have e1 : (1 : Int64).toInt = 1 := rfl
        have put : ∀ v : Int32, v.toInt = G i → ∃ x' : Sg × Int32, (x'.2 = nI (i + 1) ∧ Out σ x'.1 463 463 ∧ W3 U (mv (x'.1.1 463)) (E2 V P s (i + 1)) G) ∧ fX9_weighs_179 462 (fX9_weighs_105 462 f) x (oI (s : Int)) l3 l5 (nI i) (nI i) 3 v = fX9_weighs_105 462 f x'.1 (oI (s : Int)) l3 l5 x'.2 := fun v hv => by
          obtain ⟨x2, b2, w2, u2⟩ := m_l3 (σ := x) ti hi v
          unfold fX9_weighs_179 fX9_weighs_182
          rw [b2, j_b, j_s]
          refine ⟨(x2, nI (i + 1)), ⟨rfl, hO.tr w2, hW.up (c := i) (by rw [u2, hv]) (fun n hn => ?_)⟩, rfl⟩
          unfold E2
          by_cases v : n = i
          · rw [v, decide_eq_true e9, decide_eq_true (show i < i + 1 by omega), decide_eq_true rfl, Bool.or_true, Bool.or_true, Bool.true_and]
          · have : decide (n < i + 1) = decide (n < i) := by
              by_cases u : n < i
              · rw [decide_eq_true u, decide_eq_true (by omega)]
              · rw [decide_eq_false u, decide_eq_false (by omega)]
            rw [this, decide_eq_false v, Bool.or_false]
        have hg := hG i i23 e9 y
        unfold wcl at hg
        by_cases a : 1 ≤ V 11 i * T / B
        · rw [if_pos (show 0 ≤ (lg_cmp v9 (1 : Int64)) by rw [k_ge, vd, e1]; exact a)]
          rw [if_neg (show ¬ V 11 i * T / B < 1 by omega)] at hg
          by_cases b : V 11 i * T / B ≤ 1000000
          · rw [if_pos (show (lg_cmp v9 (1000000 : Int64)) ≤ 0 by rw [k_le, vd, e6]; exact b)]
            rw [if_neg (show ¬ 1000000 < V 11 i * T / B by omega)] at hg
            exact put _ (by rw [k_32 (by rw [vd]; omega) (by rw [vd]; omega), vd, hg])
          · rw [if_neg (show ¬ (lg_cmp v9 (1000000 : Int64)) ≤ 0 by rw [k_le, vd, e6]; exact b)]
            rw [if_pos (show 1000000 < V 11 i * T / B by omega)] at hg
            exact put _ (by rw [hg]; rfl)
        · rw [if_neg (show ¬ 0 ≤ (lg_cmp v9 (1 : Int64)) by rw [k_ge, vd, e1]; exact a)]
          rw [if_pos (show V 11 i * T / B < 1 by omega)] at hg
          exact put _ (by rw [hg]; rfl)
    · have c0 : ¬ (decide (i < 23) && decide (V 9 i = s)) = true := fun v => by
        simp only [Bool.and_eq_true, decide_eq_true_eq] at v
        exact z v
      rw [if_neg c0]
      refine skip (fun n hn => ?_)
      unfold E2
      by_cases v : n = i
      · have e9 : ¬ V 9 n = s := fun u => z ⟨by omega, by rw [← v]; exact u⟩
        rw [decide_eq_false e9, Bool.false_and, Bool.false_and]
      · have : decide (n < i + 1) = decide (n < i) := by
          by_cases u : n < i
          · rw [decide_eq_true u, decide_eq_true (by omega)]
          · rw [decide_eq_false u, decide_eq_false (by omega)]
        rw [this]
  · rintro f ⟨x, y⟩ ⟨rfl, hO, hW⟩
    simp only at hO hW
    show ∃ σ', fX9_weighs_105 462 (f + 1) x (oI (s : Int)) l3 l5 (nI 24) = _ ∧ _
    rw [fX9_weighs_105, if_pos (n_le 24 (m := 24) rfl (by decide))]
    refine ⟨x, rfl, hO, hW.cg (fun n hn => ?_)⟩
    unfold E2
    rw [decide_eq_true (show n < 24 by omega), Bool.or_true, Bool.and_true]
theorem m_weighs {σ : Sg} {P : VW} (h : VM (mv (σ.1 463)) V X) (t : Tree V d wn Y) {a b s D : Nat} (ha : a < 23) (e9a : V 9 a = s) (hs : s < 23) (ks : V 8 s ≤ 1) (hD : D ≤ 1) (pa : P 1 a = 1) {x : Int} (hx : -400 ≤ x ∧ x ≤ 400) (bn : ∀ n, n < 23 → V 9 n = s → P 1 n = 1 → 0 ≤ P (6 + D) n ∧ P (6 + D) n ≤ 400) (hp : ∀ c, c < 23 → V 9 c = s → (σ.1 467 c = 0 ↔ ¬ P 1 c = 1)) (hq : ∀ c, c < 23 → V 9 c = s → P 1 c = 1 → (σ.1 469 (4 * c + 2 + D)).toInt = P (6 + D) c + chg a b x c) : ∃ σ', fX9_weighs σ 462 (oI (s : Int)) (nI D) = some σ' ∧ Out σ σ' 463 463 ∧ W3 (mv (σ.1 463)) (mv (σ'.1 463)) (fun n => decide (V 9 n = s)) (wG V P D a b s x) := by
  have ts : (oI (s : Int)).toInt = s := j_oI (by omega) (by omega)
  have nd := t.pls_nd (P := P) hs ks
  have mem := fun c => t.pls_mem (P := P) hs ks (c := c)
  have memc : ∀ c, c ∈ pls V P s ↔ c < 23 ∧ cs V P s c = true := fun c => by
    rw [mem c]
    unfold cs
    simp only [Bool.and_eq_true, decide_eq_true_eq]
  have SmE : ∀ g : Nat → Int, sm (fun k => if cs V P s k then g k else 0) 23 = Sm g (pls V P s) := fun g => by
    rw [list_sm g (N := 23) nd (fun c hc => ((mem c).mp hc).1)]
    exact sm_congr (fun i hi => by
      by_cases y : cs V P s i = true
      · rw [if_pos y, if_pos ((memc i).mpr ⟨hi, y⟩)]
      · rw [if_neg y, if_neg (fun z => y ((memc i).mp z).2)])
  have csI : ∀ n, n < 23 → cs V P s n = true → V 9 n = s ∧ P 1 n = 1 := fun n hn z => by
    unfold cs at z
    simp only [Bool.and_eq_true, decide_eq_true_eq] at z
    exact z
  have bnd : ∀ (g : Nat → Int) (B : Int), 0 ≤ B → (∀ n, n < 23 → cs V P s n = true → 0 ≤ g n ∧ g n ≤ B) → ∀ i : Nat, i ≤ 23 → 0 ≤ sm (fun k => if cs V P s k then g k else 0) i ∧ sm (fun k => if cs V P s k then g k else 0) i ≤ B * (i : Int) := fun g B hB hg i => by
    induction i with
    | zero => exact fun _ => ⟨Int.le_refl _, by show (0 : Int) ≤ B * ((0 : Nat) : Int); rw [Int.natCast_zero, Int.mul_zero]; exact Int.le_refl _⟩
    | succ i ih =>
      intro hi
      have := ih (by omega)
      have e : sm (fun k => if cs V P s k then g k else 0) (i + 1) = sm (fun k => if cs V P s k then g k else 0) i + (if cs V P s i then g i else 0) := rfl
      have e2 : B * ((i + 1 : Nat) : Int) = B * (i : Int) + B := by
        rw [Int.natCast_add, Int.mul_add]
        show _ + B * 1 = _
        omega
      rw [e, e2]
      by_cases y : cs V P s i = true
      · have := hg i (by omega) y
        rw [if_pos y]
        omega
      · rw [if_neg y]
        omega
  have bV := bnd (V 11) 1000000 (by omega) (fun n hn z => by
    obtain ⟨e, -⟩ := csI n hn z
    have := t.we hn (by omega)
    omega)
  have bW := bnd (wsz P D a b x) 80000 (by omega) (fun n hn z => by
    obtain ⟨e, p⟩ := csI n hn z
    have := wsz_rg (a := a) (b := b) hx (bn n hn e p)
    omega)
  unfold fX9_weighs
  rw [j_nm, j_nm]
  refine lp (F := fun f (y : Sg × Int64 × Int64 × Int32) => fX9_weighs_8 462 f y.1 (oI (s : Int)) (nI D) y.2.1 y.2.2.1 y.2.2.2) (Q := fun o => ∃ σ', o = some σ' ∧ Out σ σ' 463 463 ∧ W3 (mv (σ.1 463)) (mv (σ'.1 463)) (fun n => decide (V 9 n = s)) (wG V P D a b s x)) (fun i y => y.2.2.2 = nI i ∧ Out σ y.1 463 463 ∧ W3 (mv (σ.1 463)) (mv (y.1.1 463)) (E1 V P s i) (wG V P D a b s x) ∧ y.2.1.toInt = sm (fun k => if cs V P s k then V 11 k else 0) (min i 23) ∧ y.2.2.1.toInt = sm (fun k => if cs V P s k then wsz P D a b x k else 0) (min i 23)) 24 ?_ ?_ 24 0 FU (σ, 0, 0, 0) rfl (by decide) ⟨rfl, Out.rf, ⟨fun _ _ => rfl, fun n hn => by
    unfold E1
    rw [decide_eq_false (show ¬ n < 0 by omega), Bool.false_and, if_neg Bool.false_ne_true]⟩, rfl, rfl⟩
  · rintro f i ⟨y, l3, l5, l⟩ hi ⟨rfl, hO, hW, h3, h5⟩
    simp only at hO hW h3 h5
    have ti : (nI i).toInt = i := j_nI (by omega)
    have nle : ¬ (24 : Int32) ≤ nI i := n_ge 24 (m := 24) rfl hi (by decide)
    have cki : ck (nI i) 24 := j_ckn hi (by decide)
    have ecl : (nI i).toNatClampNeg = i := j_cl _ (by omega)
    have skip : (i < 23 → cs V P s i = false) → ∃ x' : Sg × Int64 × Int64 × Int32, (x'.2.2.2 = nI (i + 1) ∧ Out σ x'.1 463 463 ∧ W3 (mv (σ.1 463)) (mv (x'.1.1 463)) (E1 V P s (i + 1)) (wG V P D a b s x) ∧ x'.2.1.toInt = sm (fun k => if cs V P s k then V 11 k else 0) (min (i + 1) 23) ∧ x'.2.2.1.toInt = sm (fun k => if cs V P s k then wsz P D a b x k else 0) (min (i + 1) 23)) ∧ fX9_weighs_96 462 (fX9_weighs_8 462 f) y (oI (s : Int)) (nI D) l3 l5 (nI i) = fX9_weighs_8 462 f x'.1 (oI (s : Int)) (nI D) x'.2.1 x'.2.2.1 x'.2.2.2 := fun e => by
      unfold fX9_weighs_96
      rw [j_s]
      have nx : ∀ g : Nat → Int, sm (fun k => if cs V P s k then g k else 0) (min (i + 1) 23) = sm (fun k => if cs V P s k then g k else 0) (min i 23) := fun g => by
        by_cases u : i < 23
        · rw [Nat.min_eq_left (show i + 1 ≤ 23 by omega), Nat.min_eq_left (show i ≤ 23 by omega)]
          show _ + (if cs V P s i then g i else 0) = _
          rw [e u, if_neg Bool.false_ne_true]
          omega
        · rw [Nat.min_eq_right (show 23 ≤ i + 1 by omega), Nat.min_eq_right (show 23 ≤ i by omega)]
      refine ⟨(y, l3, l5, nI (i + 1)), ⟨rfl, hO, hW.cg (fun n hn => ?_), by rw [nx]; exact h3, by rw [nx]; exact h5⟩, rfl⟩
      unfold E1
      by_cases v : n = i
      · rw [v, e (by omega), Bool.and_false, Bool.and_false]
      · have : decide (n < i + 1) = decide (n < i) := by
          by_cases u : n < i
          · rw [decide_eq_true u, decide_eq_true (by omega)]
          · rw [decide_eq_false u, decide_eq_false (by omega)]
        rw [this]
    show ∃ x' : Sg × Int64 × Int64 × Int32, _ ∧ fX9_weighs_8 462 (f + 1) y (oI (s : Int)) (nI D) l3 l5 (nI i) = _
    rw [fX9_weighs_8, if_neg nle, m_isChild ti hi, j_b, ts, hW.ch h t hi]
    by_cases z : i < 23 ∧ V 9 i = s
    · obtain ⟨i23, e9⟩ := z
      rw [decide_eq_true i23, decide_eq_true e9, if_pos (by rfl), if_pos cki]
      have s5 : y.1 (462 + 5) (nI i).toNatClampNeg = 0 ↔ ¬ P 1 i = 1 := by
        rw [ecl]
        show y.1 467 i = 0 ↔ _
        rw [hO.2 467 (by omega)]
        exact hp i i23 e9
      by_cases pi : P 1 i = 1
      · have ci : cs V P s i = true := by
          unfold cs
          rw [decide_eq_true e9, decide_eq_true pi]
          rfl
        have w1 := t.we i23 (show V 9 i ≠ -1 by omega)
        have Di : E1 V P s i i = false := by
          unfold E1
          rw [decide_eq_false (show ¬ i < i by omega), Bool.false_and]
        have u3 : mv (y.1 463) 3 i = V 11 i := by
          rw [hW.2 i i23, Di, if_neg Bool.false_ne_true]
          exact h.we i23 (by omega)
        have t11 : (oI (mv (y.1 463) 3 i)).toInt64.toInt = V 11 i := by rw [k_64, t_mv, u3]
        have bc := bn i i23 e9 pi
        have wsr := wsz_rg (a := a) (b := b) hx bc
        have b1 := bV i (by omega)
        have b2 := bW i (by omega)
        rw [Nat.min_eq_left (show i ≤ 23 by omega)] at h3 h5
        have e4 : (4 : Int32) * nI i + 2 + nI D = nI (4 * i + 2 + D) := by
          rw [show (4 : Int32) * nI i = nI (4 * i) from (Int32.ofNat_mul 4 i).symm, show (2 : Int32) = nI 2 from rfl, j_a, j_a]
        have e469 : y.1 (462 + 7) (nI (4 * i + 2 + D)).toNatClampNeg = σ.1 469 (4 * i + 2 + D) := by
          rw [j_cl _ (by omega)]
          show y.1 469 _ = _
          rw [hO.2 469 (by omega)]
        have qi := hq i i23 e9 pi
        have ch : -400 ≤ chg a b x i ∧ chg a b x i ≤ 400 := by
          unfold chg
          repeat' split
          all_goals omega
        have e100 : (100 : Int32).toInt = 100 := rfl
        have v6 : (100 * σ.1 469 (4 * i + 2 + D)).toInt = 100 * (P (6 + D) i + chg a b x i) := by
          rw [j_mul (by rw [qi, e100]; omega) (by rw [qi, e100]; omega), qi, e100]
        rw [if_neg (fun v => (s5.mp v) pi), m_i3 ti hi, j_b, j_nm, e4, if_pos (j_ckn (by omega) (by decide)), e469, j_nm]
        generalize 100 * σ.1 469 (4 * i + 2 + D) = v at v6
        have put : ∀ u : Int32, u.toInt = wsz P D a b x i → ∃ x' : Sg × Int64 × Int64 × Int32, (x'.2.2.2 = nI (i + 1) ∧ Out σ x'.1 463 463 ∧ W3 (mv (σ.1 463)) (mv (x'.1.1 463)) (E1 V P s (i + 1)) (wG V P D a b s x) ∧ x'.2.1.toInt = sm (fun k => if cs V P s k then V 11 k else 0) (min (i + 1) 23) ∧ x'.2.2.1.toInt = sm (fun k => if cs V P s k then wsz P D a b x k else 0) (min (i + 1) 23)) ∧ fX9_weighs_80 462 (fX9_weighs_8 462 f) y (oI (s : Int)) (nI D) (l3 + (oI (mv (y.1 463) 3 i)).toInt64) l5 (nI i) (nI i) 3 u = fX9_weighs_8 462 f x'.1 (oI (s : Int)) (nI D) x'.2.1 x'.2.2.1 x'.2.2.2 := fun u hu => by
          obtain ⟨x2, b2', w2, u2⟩ := m_l3 (σ := y) ti hi u
          have r12 : mv (x2.1 463) 3 i = wsz P D a b x i := by rw [u2, mu_at, if_pos rfl, hu]
          have t12 : (oI (mv (x2.1 463) 3 i)).toInt64.toInt = wsz P D a b x i := by rw [k_64, t_mv, r12]
          unfold fX9_weighs_80 fX9_weighs_96
          rw [b2', j_b, m_i3 ti hi, j_b, j_nm, j_s]
          refine ⟨(x2, l3 + (oI (mv (y.1 463) 3 i)).toInt64, l5 + (oI (mv (x2.1 463) 3 i)).toInt64, nI (i + 1)), ⟨rfl, hO.tr w2, hW.up (c := i) (by rw [u2, hu]; unfold wG; rw [if_pos pi]) (fun n hn => ?_), ?_, ?_⟩, rfl⟩
          · unfold E1
            by_cases v : n = i
            · rw [v, decide_eq_true (show i < i + 1 by omega), ci, decide_eq_true rfl, Bool.or_true]
              rfl
            · have : decide (n < i + 1) = decide (n < i) := by
                by_cases u : n < i
                · rw [decide_eq_true u, decide_eq_true (by omega)]
                · rw [decide_eq_false u, decide_eq_false (by omega)]
              rw [this, decide_eq_false v, Bool.or_false]
          · show (l3 + (oI (mv (y.1 463) 3 i)).toInt64).toInt = _
            rw [Nat.min_eq_left (show i + 1 ≤ 23 by omega), k_add (by rw [h3, t11]; omega) (by rw [h3, t11]; omega), h3, t11]
            show _ = _ + (if cs V P s i then V 11 i else 0)
            rw [if_pos ci]
          · show (l5 + (oI (mv (x2.1 463) 3 i)).toInt64).toInt = _
            rw [Nat.min_eq_left (show i + 1 ≤ 23 by omega), k_add (by rw [h5, t12]; omega) (by rw [h5, t12]; omega), h5, t12]
            show _ = _ + (if cs V P s i then wsz P D a b x i else 0)
            rw [if_pos ci]
        by_cases u : 1 < 100 * (P (6 + D) i + chg a b x i)
        · rw [if_neg (show ¬ v ≤ 1 by rw [j_le, v6, jz1]; omega)]
          exact put v (by rw [v6]; unfold wsz; rw [if_pos u])
        · rw [if_pos (show v ≤ 1 by rw [j_le, v6, jz1]; omega)]
          exact put 1 (by unfold wsz; rw [if_neg u]; rfl)
      · rw [if_pos (s5.mpr pi)]
        exact skip (fun _ => by
          unfold cs
          rw [decide_eq_false pi, Bool.and_false])
    · have c0 : ¬ (decide (i < 23) && decide (V 9 i = s)) = true := fun v => by
        simp only [Bool.and_eq_true, decide_eq_true_eq] at v
        exact z v
      rw [if_neg c0]
      exact skip (fun u => by
        unfold cs
        rw [decide_eq_false (fun w => z ⟨u, w⟩), Bool.false_and])
  · rintro f ⟨y, l3, l5, l⟩ ⟨rfl, hO, hW, h3, h5⟩
    simp only at hO hW h3 h5
    rw [Nat.min_eq_right (show 23 ≤ 24 by omega)] at h3 h5
    have bl := bV 23 (by omega)
    have tl := bW 23 (by omega)
    rw [SmE] at h3 h5 bl tl
    have apl : a ∈ pls V P s := (mem a).mpr ⟨ha, e9a, pa⟩
    have b1 : V 11 a ≤ Sm (V 11) (pls V P s) := Sm_mem (fun c hc => by
      have := (mem c).mp hc
      have := (t.we this.1 (by omega)).1
      omega) apl
    have w1 := t.we ha (show V 9 a ≠ -1 by omega)
    show ∃ σ', fX9_weighs_8 462 (f + 1) y (oI (s : Int)) (nI D) l3 l5 (nI 24) = _ ∧ _
    rw [fX9_weighs_8, if_pos (n_le 24 (m := 24) rfl (by decide))]
    obtain ⟨σ', a1, o1, v1⟩ := m_we105 (σ := y) (P := P) h t hs (G := wG V P D a b s x) (T := Sm (wsz P D a b x) (pls V P s)) (B := Sm (V 11) (pls V P s)) h3 h5 (by omega) (by omega) (fun c hc e z => by unfold wG; rw [if_neg z]) (fun c hc e => by rw [hO.2 467 (by omega)]; exact hp c hc e) (hW.cg (fun n hn => by
      unfold E1 E2 cs
      rw [decide_eq_true (show n < 24 by omega), decide_eq_false (show ¬ n < 0 by omega), Bool.true_and, Bool.or_false]))
    exact ⟨σ', a1, hO.tr o1, v1⟩
end RAL
end
section
/-! THE RELATION: drag -/
section RAM
theorem RR.mk9 {σ σ' : Sg} {S : ST} {l : List ST} (c : CR σ S l) (tx : TX σ) (f : F9 σ σ' ∨ ∃ k, G9 σ σ' k) (m : MR σ' S l) : RR σ' := by
  have a : (∀ c, c < 462 → σ'.1 c = σ.1 c) ∧ σ'.1 465 = σ.1 465 ∧ σ'.1 462 5 = σ.1 462 5 := by
    rcases f with f | ⟨k, f⟩
    · exact ⟨f.1, f.2.1, f.2.2.1⟩
    · exact ⟨f.1, f.2.1, f.2.2.1⟩
  exact ⟨S, l, c.c (fun x hx => a.1 x (by omega)), m, tx.c (by rw [a.1 438 (by omega)]) (a.1 439 (by omega)) a.2.2 a.2.1⟩
theorem pi_no2 {σ σ2 : Sg} {F : Option (Int32 × Sg)} {G : Sg → Option (Int32 × Sg)} {k b : Int32} (hF : F = some (k, σ)) (hk : k ≠ 0) (hG : G σ = some (b, σ2)) (h3 : σ2.1 462 3 = k) (h : RR σ2) : PI F G :=
  ⟨k, σ, b, σ2, hF, hG, h3, h, fun z => absurd z hk⟩
theorem nad_sh {V P : VW} {d : Nat → Nat} {wn : Nat → Int} {X : Nat → Bool} (t : Tree V d wn X) {side : Int} (hp : ∀ c s : Nat, c < 23 → V 9 c = s → P 1 c = 1 → P 1 s = 1) : ∀ (k n : Nat), n < 23 → P 1 n = 1 → nad V P side k n ≠ -1 → ∃ m : Nat, m < 23 ∧ nad V P side k n = m ∧ snb V P m side ≠ -1 ∧ P 1 m = 1 := by
  intro k
  induction k with
  | zero => exact fun n _ _ h => absurd rfl h
  | succ k ih =>
    intro n hn pn h
    have u : nad V P side (k + 1) n = if snb V P n side = -1 then nad V P side k (ga (V 9) 23 n) else n := by
      show (if (n : Int) = -1 then -1 else if snb V P (n : Int).toNat side = -1 then _ else (n : Int)) = _
      rw [if_neg (by omega), Int.toNat_natCast]
    rw [u] at h ⊢
    by_cases w : snb V P n side = -1
    · rw [if_pos w] at h ⊢
      rw [ga_in hn] at h ⊢
      by_cases z : V 9 n = -1
      · rw [z, nad_m1] at h
        exact absurd rfl h
      · obtain ⟨s, hs23, es, -⟩ := t.pa hn z
        rw [es] at h ⊢
        exact ih s hs23 (hp n s hn es pn) h
    · rw [if_neg w]
      exact ⟨n, hn, rfl, w, pn⟩
/-- the divider -/
def Dv (V P : VW) (side : Int) (a b s D : Nat) : Prop := a < 23 ∧ b < 23 ∧ a ≠ b ∧ s < 23 ∧ V 9 a = s ∧ V 9 b = s ∧ V 8 s ≤ 1 ∧ V 8 s = D ∧ D ≤ 1 ∧ v_dir side = D ∧ P 1 a = 1 ∧ P 1 b = 1
theorem dv_ex {V P : VW} {d : Nat → Nat} {wn : Nat → Int} {X : Nat → Bool} (t : Tree V d wn X) {side : Int} {m : Nat} (hm : m < 23) (pm : P 1 m = 1) (h : snb V P m side ≠ -1) : ∃ a b s D : Nat, Dv V P side a b s D ∧ ahN V P m side = a ∧ beN V P m side = b := by
  obtain ⟨s, o, hs, e9, ks, w8, ho, eo, e9o, po, ne⟩ := snb_ex t hm h
  have dc := dir_rg side
  have eD : V 8 s = (v_dir side).toNat := by omega
  rcases nbE_c side with v | v
  · refine ⟨o, m, s, (v_dir side).toNat, ⟨ho, hm, ne, hs, e9o, e9, ks, eD, by omega, by omega, po, pm⟩, ?_, ?_⟩
    · unfold ahN
      rw [if_pos v, eo]
    · unfold beN
      rw [if_pos v]
  · refine ⟨m, o, s, (v_dir side).toNat, ⟨hm, ho, fun z => ne z.symm, hs, e9, e9o, ks, eD, by omega, by omega, pm, po⟩, ?_, ?_⟩
    · unfold ahN
      rw [if_neg (by omega)]
    · unfold beN
      rw [if_neg (by omega), eo]
theorem s_132 {σ σ1 : Sg} {S : ST} {L : List ST} {P : VW} (c1 : CR σ1 S L) (hP : qv σ1 = P) {side by_ : Int32} {a b s D : Nat} (dv : Dv (S_pl S) P side.toInt a b s D) : ∃ σ2, fX8_drag_132 σ1 side by_ (oI (a : Int)) (oI (b : Int)) = some (.inl (oI (mvI P D a b by_.toInt)), σ2) ∧ (∀ c, 438 ≤ c → σ2.1 c = σ1.1 c) ∧ CR σ2 (pfS S (S_fo S) (wgV (S_pl S) (fun n => decide (S_pl S 9 n = s)) (wG (S_pl S) P D a b s (mvI P D a b by_.toInt)))) L := by
  have hS := c1.2.2.1
  obtain ⟨-, -, h3, -, ⟨d, wn, t, tb, lo, ge⟩, -, -⟩ := id hS
  obtain ⟨ha, hb, ne, hs, e9a, e9b, ks, wd, hD, dd, pa, pb⟩ := dv
  have hL := c1.2.2.2.2.1
  rw [hP] at hL
  have hw := fun p hp => (h3 p hp).1
  have hh := fun p hp => (h3 p hp).2.1
  have bx := fun n (hn : n < 23) (hu : S_pl S 8 n ≠ 3) (p : P 1 n = 1) => Lay.bx t ge hL hw hh 22 n (t.dqs hn hu).1 hn hu p
  have ls := fun n (hn : n < 23) (hu : S_pl S 8 n ≠ 3) (p : P 1 n = 1) => Lay.ls t hL hw hh hn hu p
  have uc : ∀ n, n < 23 → S_pl S 9 n = s → S_pl S 8 n ≠ 3 := fun n hn e => t.us hn (by omega)
  have cD : D = 0 ∨ D = 1 := by omega
  have bnd : ∀ n, n < 23 → S_pl S 9 n = s → P 1 n = 1 → (0 ≤ P (6 + D) n ∧ P (6 + D) n ≤ 400) ∧ 0 ≤ P (2 + D) n ∧ P (2 + D) n ≤ 965 := fun n hn e p => by
    have b := bx n hn (uc n hn e) p
    have l := ls n hn (uc n hn e) p
    rcases cD with rfl | rfl
    · exact ⟨b.1, l.1⟩
    · exact ⟨b.2, l.2⟩
  have ba := bnd a ha e9a pa
  have bb := bnd b hb e9b pb
  have hDl : (oI (v_dir side.toInt) = 0 ∧ D = 0) ∨ (¬ oI (v_dir side.toInt) = 0 ∧ D = 1) := by
    rw [dd]
    rcases cD with rfl | rfl
    · exact Or.inl ⟨rfl, rfl⟩
    · exact Or.inr ⟨by decide, rfl⟩
  have mr := mvI_rg (P := P) (D := D) (a := a) (b := b) (by_ := by_.toInt) ⟨ba.1, ba.2.1⟩ ⟨bb.1, bb.2.1⟩
  obtain ⟨σ2, a2, o2, v2⟩ := s_weigh c1.1 t hP ha hb e9a hs ks wd hD pa mr (fun n hn e p => (bnd n hn e p).1)
  have gB : ∀ n, n < 23 → decide (S_pl S 9 n = s) = true → 1 ≤ wG (S_pl S) P D a b s (mvI P D a b by_.toInt) n ∧ wG (S_pl S) P D a b s (mvI P D a b by_.toInt) n ≤ 1000000 := fun n hn e => by
    have e := of_decide_eq_true e
    unfold wG
    by_cases p : P 1 n = 1
    · rw [if_pos p]
      have := wsz_rg (a := a) (b := b) mr (bnd n hn e p).1
      omega
    · rw [if_neg p]
      unfold wcl
      repeat' split
      all_goals omega
  have hSI := hS.wg (D := fun n => decide (S_pl S 9 n = s)) (g := wG (S_pl S) P D a b s (mvI P D a b by_.toInt)) gB
  obtain ⟨σ3, a3, o3, c3⟩ := c1.mod (fun x hx => o2.2 x (by omega)) v2 hSI
  refine ⟨σ3, ?_, fun c hc => by rw [o3.2 c (by omega), o2.2 c (by omega)], c3⟩
  unfold fX8_drag_132
  rw [s_dirb, j_b, s_step hP hDl ha hb ba bb, j_b, a2, j_b, a3, j_b]
/-- the reference, behind its tests -/
theorem m_238 {s0 : Sg} {S : ST} {l : List ST} {P : VW} (m0 : MR s0 S l) (hS : SI S) (hLP : Lay (S_pl S) (S_mw S) (S_mh S) P) (hLQ : Lay (S_pl S) (S_mw S) (S_mh S) (mq s0)) {side : Int} {a b s D : Nat} (dv : Dv (S_pl S) P side a b s D) (e13 : s0.1 462 13 = oI (a : Int)) (e14 : s0.1 462 14 = oI (b : Int)) {x : Int} (hx : -400 ≤ x ∧ x ≤ 400) : ∃ s1, fX9_drag_238 462 s0 (nI D) (oI x) = some (oI x, s1) ∧ F9 s0 s1 ∧ MR s1 (pfS S (S_fo S) (wgV (S_pl S) (fun n => decide (S_pl S 9 n = s)) (wG (S_pl S) P D a b s x))) (keep l S) := by
  obtain ⟨-, -, h3, -, ⟨d, wn, t, tb, lo, ge⟩, -, -⟩ := id hS
  obtain ⟨ha, hb, ne, hs, e9a, e9b, ks, wd, hD, dd, pa, pb⟩ := dv
  have hw := fun p hp => (h3 p hp).1
  have hh := fun p hp => (h3 p hp).2.1
  have uc : ∀ n, n < 23 → S_pl S 9 n = s → S_pl S 8 n ≠ 3 := fun n hn e => t.us hn (by omega)
  have bx := fun n (hn : n < 23) (hu : S_pl S 8 n ≠ 3) (p : P 1 n = 1) => Lay.bx t ge hLP hw hh 22 n (t.dqs hn hu).1 hn hu p
  have cD : D = 0 ∨ D = 1 := by omega
  have bnd : ∀ n, n < 23 → S_pl S 9 n = s → P 1 n = 1 → 0 ≤ P (6 + D) n ∧ P (6 + D) n ≤ 400 := fun n hn e p => by
    have b := bx n hn (uc n hn e) p
    rcases cD with rfl | rfl
    · exact b.1
    · exact b.2
  obtain ⟨s1, b1, g1, x1, m1⟩ := m_kr m0
  -- saves leaves the plan as it is
  obtain ⟨σs, bs, os, ms⟩ := m_saves m0.1 m0.2
  have es : σs = s1 := by
    rw [b1] at bs
    exact ((Option.some.inj bs)).symm
  subst es
  have f13 : σs.1 462 13 = oI (a : Int) := by rw [os.2.2 13 (by omega)]; exact e13
  have f14 : σs.1 462 14 = oI (b : Int) := by rw [os.2.2 14 (by omega)]; exact e14
  have f67 : ∀ c, 466 ≤ c → σs.1 c = s0.1 c := fun c hc => os.2.1 c (by omega) (by omega)
  have eidx : ∀ n : Nat, n < 23 → 4 * oI (n : Int) + 2 + nI D = nI (4 * n + 2 + D) := fun n hn => by
    rw [← j_nIo n (by omega), show (4 : Int32) * nI n = nI (4 * n) from (Int32.ofNat_mul 4 n).symm, show (2 : Int32) = nI 2 from rfl, j_a, j_a]
  obtain ⟨w1, hw1⟩ : ∃ w1 : Sg, w1 = su σs 469 (4 * a + 2 + D) (σs.1 469 (4 * a + 2 + D) + oI x) := ⟨_, rfl⟩
  obtain ⟨w2, hw2⟩ : ∃ w2 : Sg, w2 = su w1 469 (4 * b + 2 + D) (w1.1 469 (4 * b + 2 + D) - oI x) := ⟨_, rfl⟩
  have W : Out σs w2 469 469 := by
    rw [hw2, hw1]
    exact su_out.tr su_out
  have w63 : w2.1 463 = σs.1 463 := W.2 463 (by omega)
  have vm1 := m1.2.2.1
  have vm2 : VM (mv (w2.1 463)) (S_pl S) (fun _ => false) := by rw [w63]; exact vm1
  have tx : (oI x).toInt = x := j_oI (by omega) (by omega)
  have le1 := fun n (hn : n < 23) (e : S_pl S 9 n = s) => lay_eq hS hLP hLQ hn (uc n hn e)
  have cell : ∀ n : Nat, n < 23 → (s0.1 469 (4 * n + 2 + D)).toInt = mq s0 (6 + D) n := fun n hn => by
    rw [show 6 + D = 4 + (2 + D) by omega, mqR (by omega) (by omega), show 4 * n + (2 + D) = 4 * n + 2 + D by omega]
  have hq : ∀ c, c < 23 → S_pl S 9 c = s → P 1 c = 1 → (w2.1 469 (4 * c + 2 + D)).toInt = P (6 + D) c + chg a b x c := fun c hc e p => by
    have bc := bnd c hc e p
    have pq := (le1 c hc e).2 p (6 + D) (by omega) (by omega)
    have c0 : (σs.1 469 (4 * c + 2 + D)).toInt = P (6 + D) c := by rw [f67 469 (by omega), cell c hc, pq]
    unfold chg
    rw [hw2, su_at]
    by_cases zb : c = b
    · rw [if_pos ⟨rfl, by omega⟩, if_neg (show ¬ c = a by omega), if_pos zb]
      have cb : w1.1 469 (4 * b + 2 + D) = σs.1 469 (4 * b + 2 + D) := by
        rw [hw1, su_at, if_neg (by omega)]
      rw [cb, ← zb, j_sub (by rw [c0, tx]; omega) (by rw [c0, tx]; omega), c0, tx]
      omega
    · rw [if_neg (by omega), hw1, su_at]
      by_cases za : c = a
      · rw [if_pos ⟨rfl, by omega⟩, if_pos za, ← za, j_add (by rw [c0, tx]; omega) (by rw [c0, tx]; omega), c0, tx]
      · rw [if_neg (by omega), if_neg za, if_neg zb, c0]
        omega
  have hp : ∀ c, c < 23 → S_pl S 9 c = s → (w2.1 467 c = 0 ↔ ¬ P 1 c = 1) := fun c hc e => by
    rw [W.2 467 (by omega), f67 467 (by omega)]
    have pe := (le1 c hc e).1
    have b01 : mq s0 1 c = 0 ∨ mq s0 1 c = 1 := by
      have kr := t.ki hc
      have : S_pl S 8 c = 2 ∨ S_pl S 8 c ≤ 1 := by have := uc c hc e; omega
      rcases this with u | u
      · exact (hLQ.1 c hc u).1
      · exact (hLQ.2.1 c hc u).1
    rw [mq1 (by omega)] at b01 pe
    rw [j_eq, jz0, pe]
    omega
  obtain ⟨w3, c3, o3, v3⟩ := m_weighs (σ := w2) (P := P) vm2 t (b := b) ha e9a hs ks hD pa hx bnd hp hq
  have O : F9 σs w3 := by
    refine ⟨fun c hc => by rw [o3.2 c (by omega), W.2 c (by omega)], by rw [o3.2 465 (by omega), W.2 465 (by omega)], by rw [o3.2 462 (by omega), W.2 462 (by omega)], by rw [o3.1, W.1], by rw [o3.2 462 (by omega), W.2 462 (by omega)]⟩
  have M3 : MR w3 (pfS S (S_fo S) (wgV (S_pl S) (fun n => decide (S_pl S 9 n = s)) (wG (S_pl S) P D a b s x))) (keep l S) := by
    refine ⟨m1.1.c (by rw [o3.2 462 (by omega), W.2 462 (by omega)]) (by rw [o3.2 464 (by omega), W.2 464 (by omega)]), ?_⟩
    have r : ∀ j, j ≠ 3 → mv (w3.1 463) j = mv (σs.1 463) j := fun j hj => by rw [v3.1 j hj, w63]
    refine m1.2.pf (fun j hj => r j (by omega)) (vm1.wg (fun j hj _ => r j hj) (fun n hn _ => ?_)) ?_
    · rw [v3.2 n hn, w63]
    · have : mo (mv (w3.1 463)) 20 = mo (mv (σs.1 463)) 20 := by
        unfold mo
        rw [r 20 (by omega), r 21 (by omega)]
      rw [this]
      exact m1.2.2.2.1
  refine ⟨w3, ?_, g1.tr O, M3⟩
  have ta : (oI (a : Int)).toInt = a := j_oI (by omega) (by omega)
  unfold fX9_drag_238
  rw [b1, j_b, f13, eidx a ha, j_nm, if_pos (j_ckn (by omega) (by decide)), if_pos (j_ckn (by omega) (by decide)), j_cl _ (by omega)]
  show nm (su σs 469 (4 * a + 2 + D) (σs.1 469 (4 * a + 2 + D) + oI x)) _ = _
  rw [← hw1, j_nm]
  have g14 : w1.1 462 14 = oI (b : Int) := by rw [hw1, su_ne (by omega)]; exact f14
  rw [g14, eidx b hb, j_nm, if_pos (j_ckn (by omega) (by decide)), if_pos (j_ckn (by omega) (by decide)), j_cl _ (by omega)]
  show nm (su w1 469 (4 * b + 2 + D) (w1.1 469 (4 * b + 2 + D) - oI x)) _ = _
  rw [← hw2, j_nm]
  have g13 : w2.1 462 13 = oI (a : Int) := by rw [W.2 462 (by omega)]; exact f13
  rw [g13, m_i1 ta (by omega), j_b, vm2.pa ha (uc a ha e9a), e9a, c3, j_b]
end RAM
end
section
/-! THE RELATION: drag, the call -/
section RAN
theorem half_d {s : Int32} (h : s = 0 ∨ s = 1 ∨ s = 2 ∨ s = 3) : (s / 2).toInt = v_dir s.toInt := (sd4 h).1
theorem m_hd {σ : Sg} {V : VW} {d : Nat → Nat} {wn : Nat → Int} {X Y : Nat → Bool} (h : VM (mv (σ.1 463)) V X) (t : Tree V d wn Y) {side : Int32} (hsd : side = 0 ∨ side = 1 ∨ side = 2 ∨ side = 3) (b01 : ∀ i, i < 23 → V 8 i ≠ 3 → mq σ 1 i = 0 ∨ mq σ 1 i = 1) {n : Nat} (hn : n < 23) (hu : V 8 n ≠ 3) : fX9_hasDivider σ 462 (oI (n : Int)) side = if nad V (mq σ) side.toInt 23 n = -1 then some (false, σ) else some (true, su (su σ 462 13 (oI (ahN V (mq σ) (nad V (mq σ) side.toInt 23 n).toNat side.toInt))) 462 14 (oI (beN V (mq σ) (nad V (mq σ) side.toInt 23 n).toNat side.toInt))) := by
  have d22 := (t.dqs hn hu).1
  unfold fX9_hasDivider
  exact m_hd2 h t hsd b01 23 n FU hn hu (by omega) (by decide)
theorem c_drag {σ : Sg} (h : RR σ) (p side by_ : Int32) : PI (fL_drag σ p side by_ 476 1) (fun s => fX9_drag s 462 p side by_) := by
  obtain ⟨S, l, c, m, tx⟩ := h
  have h1 := c.1
  have hS := c.2.2.1
  have hR : RR σ := ⟨S, l, c, m, tx⟩
  have e3 : (3 : Int32).toInt = 3 := rfl
  have em : (-400 : Int32).toInt = -400 := rfl
  have e400 : (400 : Int32).toInt = 400 := rfl
  have n10 : ¬ (1 : Int32) = 0 := by decide
  have nb : ¬ b2i true = 0 := by decide
  -- the reference refuses
  have no : ∀ (s : Sg) (k : Int32), k = 1 ∨ k = 2 ∨ k = 3 → fX9_drag_122 462 s side by_ k = some (0, su s 462 3 k) := fun s k hk => by
    unfold fX9_drag_122
    rcases hk with rfl | rfl | rfl
    · rw [rf1]; rfl
    · rw [rf2]; rfl
    · rw [rf3]; rfl
  obtain ⟨s4, b4, g4, m4, x4, L4⟩ := m_ly m hS
  have R4 : RR s4 := RR.mk9 c tx (Or.inl g4) m4
  have fin : ∀ k : Int32, fX9_drag σ 462 p side by_ = some (0, su s4 462 3 k) → k ≠ 0 → fL_drag σ p side by_ 476 1 = some (k, σ) → PI (fL_drag σ p side by_ 476 1) (fun s => fX9_drag s 462 p side by_) := fun k hG hk hF =>
    pi_no2 hF hk hG (by rw [su_at, if_pos ⟨rfl, rfl⟩]) R4.s3
  cases q : exP S p
  · refine fin 1 ?_ (by decide) ?_
    · unfold fX9_drag fX9_drag_38 fX9_drag_39 fX9_drag_90 fX9_drag_91
      rw [m_isP m.2, j_b, q, if_neg Bool.false_ne_true, b4, j_b]
      exact no s4 1 (Or.inl rfl)
    · unfold fL_drag fX8_drag
      rw [s_reqP (by rw [h1]; exact hS), h1, q]
      rfl
  have bad : ∀ k : Int32, fX9_drag_38 462 σ p side by_ (b2i true) = some (0, su s4 462 3 2) := fun k => by
    unfold fX9_drag_38 fX9_drag_39 fX9_drag_90 fX9_drag_91
    rw [b4, j_b, if_pos rfl, if_neg nb, if_pos rfl]
    exact no s4 2 (Or.inr (Or.inl rfl))
  by_cases hs : 0 ≤ side.toInt ∧ side.toInt ≤ 3
  · by_cases hb : -400 ≤ by_.toInt ∧ by_.toInt ≤ 400
    · obtain ⟨k, hk, hk12, ek⟩ := exP_n q
      have sd4 : side = 0 ∨ side = 1 ∨ side = 2 ∨ side = 3 := by
        have : side.toInt = 0 ∨ side.toInt = 1 ∨ side.toInt = 2 ∨ side.toInt = 3 := by omega
        rcases this with z | z | z | z
        · exact Or.inl (j_eq.mpr z)
        · exact Or.inr (Or.inl (j_eq.mpr z))
        · exact Or.inr (Or.inr (Or.inl (j_eq.mpr z)))
        · exact Or.inr (Or.inr (Or.inr (j_eq.mpr z)))
      obtain ⟨-, -, hm3, -, ⟨d, wn, t, tb, lo, ge⟩, -, -⟩ := id hS
      have hw := fun p hp => (hm3 p hp).1
      have hh := fun p hp => (hm3 p hp).2.1
      have hpv : pv σ (1 + 5) = S_pl S := S_pv h1
      have r13 : -2147483648 ≤ S_pl S 13 k ∧ S_pl S 13 k < 2147483648 := by rw [← hpv]; exact pv_rg σ (1 + 5) 13 k
      have t13 : (oI (S_pl S 13 k)).toInt = S_pl S 13 k := j_oI r13.1 r13.2
      have L0 := c.2.2.2.2.1
      have pre8 : fX8_drag σ p side by_ = if ga (qv σ 1) 23 (S_pl S 13 k) = 1 then (fX8_nodeAtDivider σ (oI (S_pl S 13 k)) side).bind (fun r12 => fX8_drag_57 σ side by_ r12) else fX8_drag_57 σ side by_ (-1) := by
        unfold fX8_drag
        rw [s_reqP (by rw [h1]; exact hS), h1, q, j_b, if_pos rfl, j_xl, s_reqR, j_b, jz0, e3, decide_eq_true hs, if_pos rfl, j_xl, s_reqR, j_b, em, e400, decide_eq_true hb, if_pos rfl, j_xl, s_groupOf, j_b, hpv, hk, ga_in hk12, s_isShown, j_b, t13]
        by_cases z : ga (qv σ 1) 23 (S_pl S 13 k) = 1
        · rw [if_pos z, decide_eq_true z, if_pos rfl]
        · rw [if_neg z, decide_eq_false z, if_neg Bool.false_ne_true]
      have no8 : fX8_drag_57 σ side by_ (-1) = some (.inr 2, σ) := by
        unfold fX8_drag_57
        rw [if_pos rfl]
      have pre9 : fX9_drag σ 462 p side by_ = fX9_drag_39 462 σ p side by_ (b2i true) 1 := by
        unfold fX9_drag
        rw [m_isP m.2, j_b, q, if_pos rfl, m_within, j_b, jz0, e3, decide_eq_true hs, if_pos rfl, m_within, j_b, em, e400, decide_eq_true hb, if_pos rfl]
      have no9 : ∀ s, fX9_drag_90 462 s side by_ (b2i true) 1 = some (0, su s 462 3 3) := fun s => by
        unfold fX9_drag_90 fX9_drag_91
        rw [if_neg nb, if_neg n10, if_pos rfl]
        exact no s 3 (Or.inr (Or.inr rfl))
      have vm4 := m4.2.2.1
      cases qp : plc (S_pl S) k
      · have z : S_pl S 13 k = -1 := by
          unfold plc at qp
          exact Classical.byContradiction (fun y => by rw [decide_eq_true y] at qp; cases qp)
        refine fin 3 ?_ (by decide) ?_
        · rw [pre9]
          unfold fX9_drag_39
          rw [b4, j_b, if_neg n10, m_isL vm4 hk hk12, qp, j_b, if_neg Bool.false_ne_true]
          exact no9 s4
        · unfold fL_drag
          rw [pre8, z, ga_m1 (f := qv σ 1), if_neg (by decide), no8]
          rfl
      · have np : S_pl S 13 k ≠ -1 := by
          unfold plc at qp
          exact of_decide_eq_true qp
        obtain ⟨g, hg, eg, kg⟩ := (tb.gr hk12).resolve_left np
        have u3 : S_pl S 8 g ≠ 3 := by omega
        have ecg : oI (S_pl S 13 k) = nI g := by rw [eg, j_nIo g (by omega)]
        have eqL := fun (n : Nat) (hn : n < 23) (hu : S_pl S 8 n ≠ 3) => lay_eq hS L0 L4 hn hu
        have b01 : ∀ i, i < 23 → S_pl S 8 i ≠ 3 → mq s4 1 i = 0 ∨ mq s4 1 i = 1 := fun i hi hu => by
          have kr := t.ki hi
          have : S_pl S 8 i = 2 ∨ S_pl S 8 i ≤ 1 := by omega
          rcases this with u | u
          · exact (L4.1 i hi u).1
          · exact (L4.2.1 i hi u).1
        have r9 : fX9_drag_39 462 σ p side by_ (b2i true) 1 = if mq s4 1 g = 1 then (fX9_hasDivider s4 462 (oI (g : Int)) side).bind (fun r8 => if r8.1 = true then fX9_drag_91 462 r8.2 side by_ (b2i true) 1 1 else fX9_drag_90 462 r8.2 side by_ (b2i true) 1) else fX9_drag_90 462 s4 side by_ (b2i true) 1 := by
          unfold fX9_drag_39
          rw [b4, j_b, if_neg n10, m_isL vm4 hk hk12, qp, j_b, if_pos rfl, m_o3 hk hk12, j_b, vm4.gr hk12, ecg, if_pos (j_ckn (by omega) (by decide)), j_cl _ (by omega)]
          have b := b01 g hg u3
          by_cases z : mq s4 1 g = 1
          · have n0 : ¬ s4.1 (462 + 5) g = 0 := fun y => by
              rw [mq1 (by omega)] at z
              have : s4.1 467 g = 0 := y
              rw [this, jz0] at z
              omega
            rw [if_pos z, if_neg n0, j_b, j_nIo g (by omega)]
          · have z0 : s4.1 (462 + 5) g = 0 := by
              refine j_eq.mpr ?_
              rw [mq1 (by omega)] at z b
              show (s4.1 467 g).toInt = _
              rw [jz0]
              omega
            rw [if_neg z, if_pos z0]
        have tg : (oI (g : Int)).toInt = g := j_oI (by omega) (by omega)
        by_cases sh : mq s4 1 g = 1
        · have sh8 : qv σ 1 g = 1 := by rw [(eqL g hg u3).1]; exact sh
          have d22 := (t.dqs hg u3).1
          have hd9 := m_hd (σ := s4) vm4 t sd4 b01 hg u3
          have nd8 : fX8_nodeAtDivider σ (oI (S_pl S 13 k)) side = some (oI (nad (S_pl S) (qv σ) side.toInt 23 g)) := s_nad hpv rfl t sd4 hg (by rw [t13, eg])
          have nade := nad_cg t (fun i hi hu => (eqL i hi hu).1) side.toInt 23 g hg
          by_cases nn : nad (S_pl S) (mq s4) side.toInt 23 g = -1
          · refine fin 3 ?_ (by decide) ?_
            · rw [pre9, r9, if_pos sh, hd9, if_pos nn, j_b, if_neg Bool.false_ne_true]
              exact no9 s4
            · unfold fL_drag
              rw [pre8, eg, ga_in hg, if_pos sh8, ← eg, nd8, j_b, nade, nn]
              rw [show oI (-1) = (-1 : Int32) from rfl, no8]
              rfl
          · -- a divider
            obtain ⟨σ1, a1, f1, c1⟩ := s_kr c
            have L1 := c1.2.2.2.2.1
            have eq1 := fun (n : Nat) (hn : n < 23) (hu : S_pl S 8 n ≠ 3) => lay_eq hS L1 L4 hn hu
            have shL : ∀ (P : VW), Lay (S_pl S) (S_mw S) (S_mh S) P → ∀ c s : Nat, c < 23 → S_pl S 9 c = s → P 1 c = 1 → P 1 s = 1 := fun P hP c s hc e p => Lay.sh t hP hc e p
            have nad1 := nad_cg t (fun i hi hu => (eq1 i hi hu).1) side.toInt 23 g hg
            obtain ⟨mm, hmm, emm, snm, pm⟩ := nad_sh (P := qv σ1) t (side := side.toInt) (shL _ L1) 23 g hg (by rw [(eq1 g hg u3).1]; exact sh) (by rw [nad1]; exact nn)
            obtain ⟨a, b, s, D, dv, ea, eb⟩ := dv_ex t hmm pm snm
            have sn4 := snb_cg t (fun i hi hu => (eq1 i hi hu).1) mm side.toInt hmm
            obtain ⟨ha, hb23, ne, hs23, e9a, e9b, ks, wd, hD, dd, pa, pb⟩ := id dv
            have uc : ∀ n, n < 23 → S_pl S 9 n = s → S_pl S 8 n ≠ 3 := fun n hn e => t.us hn (by omega)
            obtain ⟨σ2, a2, f2, c2⟩ := s_132 (σ := σ) (by_ := by_) (side := side) c1 rfl dv
            -- bounds
            have bxl : ∀ n, n < 23 → S_pl S 9 n = s → qv σ1 1 n = 1 → (0 ≤ qv σ1 (6 + D) n ∧ qv σ1 (6 + D) n ≤ 400) ∧ 0 ≤ qv σ1 (2 + D) n ∧ qv σ1 (2 + D) n ≤ 965 := fun n hn e p => by
              have b := Lay.bx t ge L1 hw hh 22 n (t.dqs hn (uc n hn e)).1 hn (uc n hn e) p
              have l := Lay.ls t L1 hw hh hn (uc n hn e) p
              have cD : D = 0 ∨ D = 1 := by omega
              rcases cD with rfl | rfl
              · exact ⟨b.1, l.1⟩
              · exact ⟨b.2, l.2⟩
            have ba := bxl a ha e9a pa
            have bb := bxl b hb23 e9b pb
            have mr := mvI_rg (P := qv σ1) (D := D) (a := a) (b := b) (by_ := by_.toInt) ⟨ba.1, ba.2.1⟩ ⟨bb.1, bb.2.1⟩
            refine pi_ok (v := oI (mvI (qv σ1) D a b by_.toInt)) tx m ?_ (fun x hx => by rw [f2 x hx]; exact f1 x hx) c2 (fun x ms => ?_)
            · -- the class
              have sb8 : fX8_shownNeighbour σ1 (oI (mm : Int)) side = some (oI (snb (S_pl S) (qv σ1) mm side.toInt)) := s_snb (S_pv c1.1) rfl t hmm (j_oI (by omega) (by omega)) sd4
              have nm1 : ¬ oI (mm : Int) = -1 := fun y => by rw [j_eq, j_oI (by omega) (by omega), jm1] at y; omega
              have d57 : fX8_drag_57 σ side by_ (oI (mm : Int)) = fX8_drag_132 σ1 side by_ (oI (a : Int)) (oI (b : Int)) := by
                unfold fX8_drag_57 fX8_drag_99 fX8_drag_104 fX8_drag_118
                rw [if_neg nm1, a1, j_b, sb8, j_b]
                unfold ahN at ea
                unfold beN at eb
                rcases sd4 with rfl | rfl | rfl | rfl
                · have v : nbE (0 : Int32).toInt = -1 := rfl
                  rw [v, if_pos rfl] at ea eb
                  rw [if_neg (by decide), if_neg (by decide), if_pos rfl, if_pos rfl, ea, eb]
                · have v : ¬ nbE (1 : Int32).toInt = -1 := by decide
                  rw [if_neg v] at ea eb
                  rw [if_pos rfl, if_neg n10, if_neg n10, ea, eb]
                · have v : nbE (2 : Int32).toInt = -1 := rfl
                  rw [v, if_pos rfl] at ea eb
                  rw [if_neg (by decide), if_neg (by decide), if_pos rfl, if_pos rfl, ea, eb]
                · have v : ¬ nbE (3 : Int32).toInt = -1 := by decide
                  rw [if_neg v] at ea eb
                  rw [if_neg (by decide), if_pos rfl, if_neg n10, if_neg n10, ea, eb]
              unfold fL_drag
              rw [pre8, eg, ga_in hg, if_pos sh8, ← eg, nd8, j_b, nade, ← nad1, emm, d57, a2, j_b, j_xl, if_pos (by decide), j_nm]
              rfl
            · -- the reference
              obtain ⟨y4, d4, h4, n4, z4, K4⟩ := m_ly ms hS
              have ym4 := n4.2.2.1
              have eqy := fun (n : Nat) (hn : n < 23) (hu : S_pl S 8 n ≠ 3) => lay_eq hS L1 K4 hn hu
              have yb01 : ∀ i, i < 23 → S_pl S 8 i ≠ 3 → mq y4 1 i = 0 ∨ mq y4 1 i = 1 := fun i hi hu => by
                have kr := t.ki hi
                have : S_pl S 8 i = 2 ∨ S_pl S 8 i ≤ 1 := by omega
                rcases this with u | u
                · exact (K4.1 i hi u).1
                · exact (K4.2.1 i hi u).1
              have yad := nad_cg t (fun i hi hu => (eqy i hi hu).1) side.toInt 23 g hg
              have ysn := snb_cg t (fun i hi hu => (eqy i hi hu).1) mm side.toInt hmm
              have yhd := m_hd (σ := y4) ym4 t sd4 yb01 hg u3
              have ysh : mq y4 1 g = 1 := by rw [← (eqy g hg u3).1, (eq1 g hg u3).1]; exact sh
              have eay : ahN (S_pl S) (mq y4) mm side.toInt = a := by
                unfold ahN at ea ⊢
                rw [← ysn]
                exact ea
              have eby : beN (S_pl S) (mq y4) mm side.toInt = b := by
                unfold beN at eb ⊢
                rw [← ysn]
                exact eb
              rw [← yad, emm, if_neg (show ¬ (mm : Int) = -1 by omega), Int.toNat_natCast, eay, eby] at yhd
              obtain ⟨y5, hy5⟩ : ∃ y5 : Sg, y5 = su (su y4 462 13 (oI (a : Int))) 462 14 (oI (b : Int)) := ⟨_, rfl⟩
              rw [← hy5] at yhd
              obtain ⟨y6, hy6⟩ : ∃ y6 : Sg, y6 = su y5 462 3 0 := ⟨_, rfl⟩
              have c5 : ∀ c, c ≠ 462 → y6.1 c = y4.1 c := fun c hc => by rw [hy6, hy5, su_ne hc, su_ne hc, su_ne hc]
              have c6 : ∀ j, j ≠ 13 → j ≠ 14 → j ≠ 3 → y6.1 462 j = y4.1 462 j := fun j h1 h2 h3 => by rw [hy6, hy5, su_at, if_neg (fun z => h3 z.2), su_at, if_neg (fun z => h2 z.2), su_at, if_neg (fun z => h1 z.2)]
              have m6 : MR y6 S l := n4.c (c6 2 (by omega) (by omega) (by omega)) (c5 463 (by omega)) (c5 464 (by omega))
              have q6 : mq y6 = mq y4 := by
                funext j n
                unfold mq
                rw [c5 467 (by omega), c5 468 (by omega), c5 469 (by omega)]
              have e13 : y6.1 462 13 = oI (a : Int) := by rw [hy6, hy5, su_at, if_neg (by omega), su_at, if_neg (by omega), su_at, if_pos ⟨rfl, rfl⟩]
              have e14 : y6.1 462 14 = oI (b : Int) := by rw [hy6, hy5, su_at, if_neg (by omega), su_at, if_pos ⟨rfl, rfl⟩]
              obtain ⟨y7, d7, g7, m7⟩ := m_238 (s0 := y6) m6 hS L1 (by rw [q6]; exact K4) (side := side.toInt) dv e13 e14 mr
              have G6 : G9 x y6 0 := ⟨fun c hc => by rw [c5 c (by omega)]; exact h4.1 c hc, by rw [c5 465 (by omega)]; exact h4.2.1, by rw [c6 5 (by omega) (by omega) (by omega)]; exact h4.2.2.1, by rw [hy6, hy5]; exact h4.2.2.2.1, by rw [hy6, su_at, if_pos ⟨rfl, rfl⟩]⟩
              refine ⟨y7, ?_, G6.tr g7, m7⟩
              show fX9_drag x 462 p side by_ = _
              have ypre : fX9_drag x 462 p side by_ = fX9_drag_122 462 y5 side by_ 0 := by
                unfold fX9_drag fX9_drag_39
                rw [m_isP ms.2, j_b, q, if_pos rfl, m_within, j_b, jz0, e3, decide_eq_true hs, if_pos rfl, m_within, j_b, em, e400, decide_eq_true hb, if_pos rfl, d4, j_b, if_neg n10, m_isL ym4 hk hk12, qp, j_b, if_pos rfl, m_o3 hk hk12, j_b, ym4.gr hk12, ecg, if_pos (j_ckn (by omega) (by decide)), j_cl _ (by omega)]
                have n0 : ¬ y4.1 (462 + 5) g = 0 := fun y => by
                  rw [mq1 (by omega)] at ysh
                  have : y4.1 467 g = 0 := y
                  rw [this, jz0] at ysh
                  omega
                rw [if_neg n0, j_b, j_nIo g (by omega), yhd, j_b, if_pos rfl]
                unfold fX9_drag_91
                rw [if_neg nb, if_neg n10, if_neg n10]
              have half : side / 2 = nI D := by
                refine j_eq.mpr ?_
                have := half_d sd4
                rw [this, dd, j_nI (by omega)]
              have cell6 : ∀ n : Nat, n < 23 → y6.1 469 (4 * n + 2 + D) = oI (mq y6 (6 + D) n) := fun n hn => by
                rw [show 6 + D = 4 + (2 + D) by omega, mqR (by omega) (by omega), show 4 * n + (2 + D) = 4 * n + 2 + D by omega, j_oIt]
              have cell2 : ∀ n : Nat, n < 23 → y6.1 468 (2 * n + D) = oI (mq y6 (2 + D) n) := fun n hn => by
                rw [mqL (by omega) hD, j_oIt]
              have val : ∀ n, n < 23 → S_pl S 9 n = s → qv σ1 1 n = 1 → mq y6 (6 + D) n = qv σ1 (6 + D) n ∧ mq y6 (2 + D) n = qv σ1 (2 + D) n := fun n hn e p => by
                have := (eqy n hn (uc n hn e)).2 p
                rw [q6]
                exact ⟨(this (6 + D) (by omega) (by omega)).symm, (this (2 + D) (by omega) (by omega)).symm⟩
              obtain ⟨va6, va2⟩ := val a ha e9a pa
              obtain ⟨vb6, vb2⟩ := val b hb23 e9b pb
              have i2 : ∀ n : Nat, n < 23 → 2 * oI (n : Int) + nI D = nI (2 * n + D) := fun n hn => by
                rw [← j_nIo n (by omega), show (2 : Int32) * nI n = nI (2 * n) from (Int32.ofNat_mul 2 n).symm, j_a]
              have i4 : ∀ n : Nat, n < 23 → 4 * oI (n : Int) + 2 + nI D = nI (4 * n + 2 + D) := fun n hn => by
                rw [← j_nIo n (by omega), show (4 : Int32) * nI n = nI (4 * n) from (Int32.ofNat_mul 4 n).symm, show (2 : Int32) = nI 2 from rfl, j_a, j_a]
              rw [ypre]
              unfold fX9_drag_122
              rw [rf0, j_b, if_neg (show ¬ ((false, su y5 462 3 0) : Bool × Sg).1 = true from Bool.false_ne_true)]
              dsimp only
              rw [← hy6, j_nm, half, e13, e14, i2 a ha, i4 a ha, i2 b hb23, i4 b hb23, if_pos (j_ckn (by omega) (by decide)), if_pos (j_ckn (by omega) (by decide)), j_nm, if_pos (j_ckn (by omega) (by decide)), if_pos (j_ckn (by omega) (by decide)), j_nm, j_cl _ (by omega), j_cl _ (by omega), j_cl _ (by omega), j_cl _ (by omega), show (462 + 6 : Nat) = 468 from rfl, show (462 + 7 : Nat) = 469 from rfl, cell6 a ha, cell6 b hb23, cell2 a ha, cell2 b hb23, va6, va2, vb6, vb2, j_os, j_os]
              generalize hA6 : qv σ1 (6 + D) a = A6 at *
              generalize hA2 : qv σ1 (2 + D) a = A2 at *
              generalize hB6 : qv σ1 (6 + D) b = B6 at *
              generalize hB2 : qv σ1 (2 + D) b = B2 at *
              have tv1 : (oI (A2 - A6)).toInt = A2 - A6 := j_oI (by omega) (by omega)
              have tv2 : (oI (B6 - B2)).toInt = B6 - B2 := j_oI (by omega) (by omega)
              have go : ∀ v : Int32, v.toInt = mvI (qv σ1) D a b by_.toInt → fX9_drag_238 462 y6 (nI D) v = some (oI (mvI (qv σ1) D a b by_.toInt), y7) := fun v hv => by
                have : v = oI (mvI (qv σ1) D a b by_.toInt) := by rw [← hv, j_oIt]
                rw [this]
                exact d7
              unfold fX9_drag_211
              have mvE : mvI (qv σ1) D a b by_.toInt = if A6 - A2 < 0 then 0 else if 0 ≤ B6 - B2 then (if -(A6 - A2) < (if B6 - B2 < by_.toInt then B6 - B2 else by_.toInt) then (if B6 - B2 < by_.toInt then B6 - B2 else by_.toInt) else -(A6 - A2)) else 0 := by
                unfold mvI
                rw [hA6, hA2, hB6, hB2]
              by_cases y1 : 0 < A2 - A6
              · rw [if_pos (by rw [j_lt, tv1, jz0]; exact y1)]
                exact go 0 (by rw [mvE, if_pos (by omega)]; rfl)
              · rw [if_neg (fun z => y1 (by rw [j_lt, tv1, jz0] at z; exact z))]
                rw [if_neg (show ¬ A6 - A2 < 0 by omega)] at mvE
                by_cases y2 : 0 ≤ B6 - B2
                · rw [if_pos (by rw [j_le, tv2, jz0]; exact y2)]
                  rw [if_pos y2] at mvE
                  by_cases y3 : A2 - A6 ≤ by_.toInt
                  · rw [if_pos (by rw [j_le, tv1]; exact y3)]
                    by_cases y5 : by_.toInt ≤ B6 - B2
                    · rw [if_pos (by rw [j_le, tv2]; exact y5)]
                      refine go by_ ?_
                      rw [mvE, if_neg (show ¬ B6 - B2 < by_.toInt by omega)]
                      split <;> omega
                    · rw [if_neg (fun z => y5 (by rw [j_le, tv2] at z; exact z))]
                      refine go _ ?_
                      rw [tv2, mvE, if_pos (show B6 - B2 < by_.toInt by omega)]
                      split <;> omega
                  · rw [if_neg (fun z => y3 (by rw [j_le, tv1] at z; exact z))]
                    refine go _ ?_
                    rw [tv1, mvE, if_neg (show ¬ B6 - B2 < by_.toInt by omega)]
                    split <;> omega
                · rw [if_neg (fun z => y2 (by rw [j_le, tv2, jz0] at z; exact z))]
                  exact go 0 (by rw [mvE, if_neg y2]; rfl)
        · have sh8 : ¬ qv σ 1 g = 1 := by rw [(eqL g hg u3).1]; exact sh
          refine fin 3 ?_ (by decide) ?_
          · rw [pre9, r9, if_neg sh]
            exact no9 s4
          · unfold fL_drag
            rw [pre8, eg, ga_in hg, if_neg sh8, no8]
            rfl
    · refine fin 2 ?_ (by decide) ?_
      · unfold fX9_drag
        rw [m_isP m.2, j_b, q, if_pos rfl, m_within, j_b, jz0, e3, decide_eq_true hs, if_pos rfl, m_within, j_b, em, e400, decide_eq_false hb]
        exact bad 2
      · unfold fL_drag fX8_drag
        rw [s_reqP (by rw [h1]; exact hS), h1, q, j_b, if_pos rfl, j_xl, s_reqR, j_b, jz0, e3, decide_eq_true hs, if_pos rfl, j_xl, s_reqR, j_b, em, e400, decide_eq_false hb]
        rfl
  · refine fin 2 ?_ (by decide) ?_
    · unfold fX9_drag
      rw [m_isP m.2, j_b, q, if_pos rfl, m_within, j_b, jz0, e3, decide_eq_false hs]
      exact bad 2
    · unfold fL_drag fX8_drag
      rw [s_reqP (by rw [h1]; exact hS), h1, q, j_b, if_pos rfl, j_xl, s_reqR, j_b, jz0, e3, decide_eq_false hs]
      rfl
end RAN
end
section
/-! THE RELATION: type, clearText, character -/
section RAO
theorem CR.t {σ σ' : Sg} {S : ST} {l : List ST} (h : CR σ S l) (e : ∀ c, c < 438 → σ'.1 c = σ.1 c) : CR σ' S l := h.c e
theorem c_type {σ : Sg} (h : RR σ) (p : Int32) : PI (fL_type σ p 476 1) (fun s => fX9_type s 462 p) := by
  obtain ⟨S, l, c, m, tx⟩ := h
  have hR : RR σ := ⟨S, l, c, m, tx⟩
  obtain ⟨n, n120, t1, t2, t3⟩ := id tx
  have e32 : (32 : Int32).toInt = 32 := rfl
  have e126 : (126 : Int32).toInt = 126 := rfl
  by_cases q : 32 ≤ p.toInt ∧ p.toInt ≤ 126
  · by_cases z : n = 120
    · subst z
      refine pi_no (k := 2) (b := 0) hR ?_ (by decide) ?_
      · unfold fL_type fX8_type fX5_length
        rw [s_reqR, j_b, e32, e126, decide_eq_true q, if_pos rfl, j_xl, j_b, t1, if_neg (by decide)]
        rfl
      · show fX9_type σ 462 p = _
        unfold fX9_type fX9_type_30
        rw [m_within, j_b, e32, e126, decide_eq_true q, if_pos rfl, t2, if_pos (show nI 120 = (120 : Int32) from rfl), rf2]
        rfl
    · have lt : n < 120 := by omega
      have l8 : nI n < 120 := by rw [j_lt, j_nI (by omega)]; show (n : Int) < 120; omega
      obtain ⟨w1, hw1⟩ : ∃ w1 : Sg, w1 = su (su σ 439 n p) 438 1 (nI (n + 1)) := ⟨_, rfl⟩
      have a1 : fX8_type σ p = some (.inl (nI (n + 1)), w1) := by
        unfold fX8_type fX5_length fX5_append
        rw [s_reqR, j_b, e32, e126, decide_eq_true q, if_pos rfl, j_xl, j_b, t1, if_pos l8, show (438 + 1 : Nat) = 439 from rfl, s_putn (by decide) lt, j_b]
        have e : (su σ 439 n p).1 438 1 = nI n := by rw [su_at, if_neg (by omega), t1]
        rw [e, j_s, j_nm, j_b, ← hw1, j_b]
        have : w1.1 438 1 = nI (n + 1) := by rw [hw1, su_at, if_pos ⟨rfl, rfl⟩]
        rw [this]
      have cell : ∀ c, c ≠ 438 → c ≠ 439 → w1.1 c = σ.1 c := fun c h1 h2 => by rw [hw1, su_ne h1, su_ne h2]
      obtain ⟨s1, hs1⟩ : ∃ s1 : Sg, s1 = sul w1 476 0 (nI (n + 1)).toInt64 := ⟨_, rfl⟩
      have s11 : s1.1 = w1.1 := by rw [hs1]; rfl
      obtain ⟨s2, hs2⟩ : ∃ s2 : Sg, s2 = su s1 462 3 0 := ⟨_, rfl⟩
      obtain ⟨s3, hs3⟩ : ∃ s3 : Sg, s3 = su (su s2 465 n p) 462 5 (nI (n + 1)) := ⟨_, rfl⟩
      have f5 : s2.1 462 5 = nI n := by rw [hs2, su_at, if_neg (by omega), s11, cell 462 (by omega) (by omega)]; exact t2
      have G : fX9_type s1 462 p = some (nI (n + 1), s3) := by
        unfold fX9_type fX9_type_30
        have c5 : s1.1 462 5 = nI n := by rw [s11, cell 462 (by omega) (by omega)]; exact t2
        rw [m_within, j_b, e32, e126, decide_eq_true q, if_pos rfl, c5, if_neg (fun y => by rw [j_eq, j_nI (by omega)] at y; have : (120 : Int32).toInt = 120 := rfl; omega), rf0, j_b]
        show (if ck (s1.1 462 5) 120 then _ else none) = _
        have g5 : (su s1 462 3 0).1 462 5 = nI n := by rw [← hs2]; exact f5
        show (if ck ((su s1 462 3 0).1 462 5) 120 then nm (su (su s1 462 3 0) (462 + 3) ((su s1 462 3 0).1 462 5).toNatClampNeg p) (fun σ3 => nm (su σ3 462 5 ((σ3.1 462 5) + 1)) fun σ4 => some (σ4.1 462 5, σ4)) else none) = _
        rw [← hs2, f5, if_pos (j_ckn lt (by decide)), j_nm, j_cl _ (by omega), show (462 + 3 : Nat) = 465 from rfl]
        have e : (su s2 465 n p).1 462 5 = nI n := by rw [su_at, if_neg (by omega)]; exact f5
        rw [e, j_s, j_nm, ← hs3]
        have : s3.1 462 5 = nI (n + 1) := by rw [hs3, su_at, if_pos ⟨rfl, rfl⟩]
        rw [this]
      have c3 : ∀ c, c ≠ 438 → c ≠ 439 → c ≠ 462 → c ≠ 465 → s3.1 c = σ.1 c := fun c h1 h2 h3 h4 => by
        rw [hs3, su_ne h3, su_ne h4, hs2, su_ne h3, s11, cell c h1 h2]
      refine ⟨0, s1, nI (n + 1), s3, ?_, G, ?_, ⟨S, l, c.c (fun x hx => c3 x (by omega) (by omega) (by omega) (by omega)), m.c ?_ (c3 463 (by omega) (by omega) (by omega) (by omega)) (c3 464 (by omega) (by omega) (by omega) (by omega)), ⟨n + 1, by omega, ?_, ?_, fun i hi => ?_⟩⟩, fun _ => ?_⟩
      · unfold fL_type
        rw [a1, j_b, j_xl, if_pos (by decide), j_nm, hs1]
        rfl
      · rw [hs3, su_at, if_neg (by omega), su_ne (by omega), hs2, su_at, if_pos ⟨rfl, rfl⟩]
      · rw [hs3, su_at, if_neg (by omega), su_ne (by omega), hs2, su_at, if_neg (by omega), s11, cell 462 (by omega) (by omega)]
      · rw [hs3, su_ne (by omega), su_ne (by omega), hs2, su_ne (by omega), s11, hw1, su_at, if_pos ⟨rfl, rfl⟩]
      · rw [hs3, su_at, if_pos ⟨rfl, rfl⟩]
      · have v1 : s3.1 439 i = if i = n then p else σ.1 439 i := by
          rw [hs3, su_ne (by omega), su_ne (by omega), hs2, su_ne (by omega), s11, hw1, su_ne (by omega), su_at]
          by_cases w : i = n
          · rw [if_pos ⟨rfl, w⟩, if_pos w]
          · rw [if_neg (fun u => w u.2), if_neg w]
        have v2 : s3.1 465 i = if i = n then p else σ.1 465 i := by
          rw [hs3, su_ne (by omega), su_at]
          by_cases w : i = n
          · rw [if_pos ⟨rfl, w⟩, if_pos w]
          · rw [if_neg (fun u => w u.2), if_neg w, hs2, su_ne (by omega), s11, cell 465 (by omega) (by omega)]
        rw [v1, v2]
        by_cases w : i = n
        · rw [if_pos w, if_pos w]
          exact ⟨rfl, q.1, q.2⟩
        · rw [if_neg w, if_neg w]
          exact t3 i (by omega)
      · rw [hs3, hs2, hs1]
        rfl
  · refine pi_no (k := 1) (b := 0) hR ?_ (by decide) ?_
    · unfold fL_type fX8_type
      rw [s_reqR, j_b, e32, e126, decide_eq_false q]
      rfl
    · show fX9_type σ 462 p = _
      unfold fX9_type fX9_type_30
      rw [m_within, j_b, e32, e126, decide_eq_false q, rf1]
      rfl
/-- a call that throws nothing and changes the object -/
def PS (F : Option (Int32 × Sg)) (G : Sg → Option (Int32 × Sg)) : Prop := ∃ v σ1 σ2, F = some (v, σ1) ∧ G σ1 = some (v, σ2) ∧ RR σ2
theorem c_clear {σ : Sg} (h : RR σ) : PS (fX8_clearText σ) (fun s => fX9_clearText s 462) := by
  obtain ⟨S, l, c, m, tx⟩ := h
  obtain ⟨n, n120, t1, t2, t3⟩ := id tx
  refine ⟨nI n, su σ 438 1 0, su (su (su σ 438 1 0) 462 3 0) 462 5 0, ?_, ?_, ⟨S, l, c.c (fun x hx => by rw [su_ne (by omega), su_ne (by omega), su_ne (by omega)]), m.c (by rw [su_at, if_neg (by omega), su_at, if_neg (by omega), su_ne (by omega)]) (by rw [su_ne (by omega), su_ne (by omega), su_ne (by omega)]) (by rw [su_ne (by omega), su_ne (by omega), su_ne (by omega)]), ⟨0, by omega, ?_, ?_, fun i hi => absurd hi (by omega)⟩⟩⟩
  · unfold fX8_clearText fX5_length fX5_empty
    rw [j_b, j_nm, j_b, t1]
  · show fX9_clearText (su σ 438 1 0) 462 = _
    unfold fX9_clearText
    rw [j_nm, su_at, if_neg (by omega), su_ne (by omega), t2, j_nm, j_nm]
  · rw [su_ne (by omega), su_ne (by omega), su_at, if_pos ⟨rfl, rfl⟩]
    rfl
  · rw [su_at, if_pos ⟨rfl, rfl⟩]
    rfl
theorem c_character {σ : Sg} (h : RR σ) (p : Int32) : PQ (fX8_character σ p) (fX9_character σ 462 p) := by
  obtain ⟨S, l, c, m, tx⟩ := h
  have hR : RR σ := ⟨S, l, c, m, tx⟩
  obtain ⟨n, n120, t1, t2, t3⟩ := id tx
  have f5 : (su σ 462 3 0).1 462 5 = nI n := by rw [su_at, if_neg (by omega)]; exact t2
  have em : (nI n - 1).toInt = (n : Int) - 1 := by
    rw [j_sub (by rw [j_nI (by omega), jz1]; omega) (by rw [j_nI (by omega), jz1]; omega), j_nI (by omega), jz1]
  by_cases q : 0 ≤ p.toInt ∧ p.toInt ≤ (n : Int) - 1
  · obtain ⟨k, hk⟩ : ∃ k : Nat, p.toInt = k := ⟨p.toInt.toNat, by omega⟩
    have ep : p = nI k := j_eq.mpr (by rw [hk, j_nI (by omega)])
    refine ⟨σ.1 439 k, su σ 462 3 0, ?_, ?_, hR.s3⟩
    · unfold fX8_character fX5_code
      rw [t1, if_neg (by rw [j_le, j_nI (by omega), hk]; omega), ep, show (438 + 1 : Nat) = 439 from rfl, s_atn (by decide) (by omega), j_b, j_b]
    · unfold fX9_character
      rw [j_nm, f5, m_within, j_b, jz0, em, decide_eq_true q, if_pos rfl, ep, if_pos (j_ckn (by omega) (by decide)), j_cl _ (by omega), show (462 + 3 : Nat) = 465 from rfl, su_ne (by omega), (t3 k (by omega)).1]
  · refine ⟨-1, su σ 462 3 0, ?_, ?_, hR.s3⟩
    · unfold fX8_character fX5_code
      by_cases z : (n : Int) ≤ p.toInt
      · rw [t1, if_pos (by rw [j_le, j_nI (by omega)]; exact z), j_b]
      · rw [t1, if_neg (fun y => z (by rw [j_le, j_nI (by omega)] at y; exact y)), s_at (by decide), j_b, j_b]
        unfold ga
        rw [if_neg (by omega)]
        rfl
    · unfold fX9_character
      rw [j_nm, f5, m_within, j_b, jz0, em, decide_eq_false q, if_neg Bool.false_ne_true]
end RAO
end
section
/-! THE RELATION: checksum -/
section RAP
def mxs (f : Nat → Int32) : Nat → Int64 → Int64
  | 0, h => h
  | n + 1, h => (31 : Int64) * mxs f n h + (f n).toInt64
theorem mxs_cg {f g : Nat → Int32} : ∀ {n : Nat} {h : Int64}, (∀ i, i < n → f i = g i) → mxs f n h = mxs g n h
  | 0, _, _ => rfl
  | n + 1, h, e => by
    show (31 : Int64) * mxs f n h + (f n).toInt64 = (31 : Int64) * mxs g n h + (g n).toInt64
    rw [mxs_cg (fun i hi => e i (by omega)), e n (by omega)]
def mxP (S : ST) (P : VW) (k : Nat) (h : Int64) : Int64 := mxs (fun w => lyV P S k w) 4 (mxs (fun w => tlV S k (nI w)) 9 h)
def mxA (S : ST) (P : VW) : Nat → Int64 → Int64
  | 0, h => h
  | k + 1, h => if exB S k then mxP S P k (mxA S P k h) else mxA S P k h
def mxW (S : ST) (P : VW) : Nat → Int64 → Int64
  | 0, h => h
  | k + 1, h => if v_we (S_pl S) k then mxs (fun w => wtV P S k (nI w)) 8 (mxW S P k h) else mxW S P k h
def mxF (S : ST) (n : Nat) (h : Int64) : Int64 := mxs (fun i => oI (o_it (S_fo S) i)) n h
def mxT (S : ST) (h : Int64) : Int64 := mxs (fun s => if svB S s then 1 else 0) 3 h
theorem wj_n : ∀ w, w < 4 → wj (nI w) = w := by decide
/-! the class -/
variable {σ : Sg} {S : ST}
theorem s_mx6 (h : stv σ 1 = S) (hS : SI S) {p : Int32} {k : Nat} (hp : p.toInt = k) (hk : k < 12) (hx : exP S p = true) (a : Int64) : fX8_mixPaneN σ a p = some (mxP S (qv σ) k a) := by
  have fin : ∀ b : Int64, fX8_mixPaneN_36 σ FU p b 0 = some (mxs (fun w => lyV (qv σ) S k w) 4 b) := fun b => by
    refine lp (F := fun f (s : Int64 × Int32) => fX8_mixPaneN_36 σ f p s.1 s.2) (Q := fun o => o = some (mxs (fun w => lyV (qv σ) S k w) 4 b)) (fun i s => s = (mxs (fun w => lyV (qv σ) S k w) i b, nI i)) 4 ?_ ?_ 4 0 FU (b, 0) rfl (by decide) rfl
    · rintro f i _ hi rfl
      refine ⟨_, rfl, ?_⟩
      have ti : (nI i).toInt = i := j_nI (by omega)
      show fX8_mixPaneN_36 σ (f + 1) p (mxs (fun w => lyV (qv σ) S k w) i b) (nI i) = fX8_mixPaneN_36 σ f p (mxs (fun w => lyV (qv σ) S k w) (i + 1) b) (nI (i + 1))
      rw [fX8_mixPaneN_36, if_neg (by rw [j_lt, ti]; show ¬ (3 : Int) < i; omega), (s_rect h hS hp hk hx (w := nI i) (by omega)).2, j_b, wj_n i hi]
      unfold fX8_mix
      rw [j_b, j_s]
      rfl
    · rintro f _ rfl
      show fX8_mixPaneN_36 σ (f + 1) p (mxs (fun w => lyV (qv σ) S k w) 4 b) (nI 4) = _
      rw [fX8_mixPaneN_36, if_pos (by decide)]
  unfold fX8_mixPaneN
  refine lp (F := fun f (s : Int64 × Int32) => fX8_mixPaneN_6 σ f p s.1 s.2) (Q := fun o => o = some (mxP S (qv σ) k a)) (fun i s => s = (mxs (fun w => tlV S k (nI w)) i a, nI i)) 9 ?_ ?_ 9 0 FU (a, 0) rfl (by decide) rfl
  · rintro f i _ hi rfl
    refine ⟨_, rfl, ?_⟩
    have ti : (nI i).toInt = i := j_nI (by omega)
    show fX8_mixPaneN_6 σ (f + 1) p (mxs (fun w => tlV S k (nI w)) i a) (nI i) = fX8_mixPaneN_6 σ f p (mxs (fun w => tlV S k (nI w)) (i + 1) a) (nI (i + 1))
    rw [fX8_mixPaneN_6, if_neg (by rw [j_lt, ti]; show ¬ (8 : Int) < i; omega), (s_told h hS hp hk hx (w := nI i) (by omega)).2, j_b]
    unfold fX8_mix
    rw [j_b, j_s]
    rfl
  · rintro f _ rfl
    show fX8_mixPaneN_6 σ (f + 1) p (mxs (fun w => tlV S k (nI w)) 9 a) (nI 9) = _
    rw [fX8_mixPaneN_6, if_pos (by decide), fin]
    rfl
theorem s_mxw (h : stv σ 1 = S) (hS : SI S) {p : Int32} {k : Nat} (hp : p.toInt = k) (hk : k < 5) (hx : v_we (S_pl S) p.toInt = true) (a : Int64) : fX8_mixWindowN σ a p = some (mxs (fun w => wtV (qv σ) S k (nI w)) 8 a) := by
  unfold fX8_mixWindowN
  refine lp (F := fun f (s : Int64 × Int32) => fX8_mixWindowN_6 σ f p s.1 s.2) (Q := fun o => o = some (mxs (fun w => wtV (qv σ) S k (nI w)) 8 a)) (fun i s => s = (mxs (fun w => wtV (qv σ) S k (nI w)) i a, nI i)) 8 ?_ ?_ 8 0 FU (a, 0) rfl (by decide) rfl
  · rintro f i _ hi rfl
    refine ⟨_, rfl, ?_⟩
    have ti : (nI i).toInt = i := j_nI (by omega)
    show fX8_mixWindowN_6 σ (f + 1) p (mxs (fun w => wtV (qv σ) S k (nI w)) i a) (nI i) = fX8_mixWindowN_6 σ f p (mxs (fun w => wtV (qv σ) S k (nI w)) (i + 1) a) (nI (i + 1))
    rw [fX8_mixWindowN_6, if_neg (by rw [j_lt, ti]; show ¬ (7 : Int) < i; omega), (s_wtold h hS hp hk hx (w := nI i) (by omega)).2, j_b]
    unfold fX8_mix
    rw [j_b, j_s]
    rfl
  · rintro f _ rfl
    show fX8_mixWindowN_6 σ (f + 1) p (mxs (fun w => wtV (qv σ) S k (nI w)) 8 a) (nI 8) = _
    rw [fX8_mixWindowN_6, if_pos (by decide)]
def mxZ (S : ST) (P : VW) (n m : Int32) : Int64 := (31 : Int64) * ((31 : Int64) * mxT S (mxF S (S_fo S).1.toNat (mxW S P 5 (mxA S P 12 ((31 : Int64) * 18323 + (nI (S_ex S).toNat).toInt64)))) + n.toInt64) + m.toInt64
theorem s_checksum (h : stv σ 1 = S) (hS : SI S) : fX8_checksumN σ = some (mxZ S (qv σ) (σ.1 438 1) (σ.1 0 3)) := by
  have f4 : ∀ a, fX8_checksumN_128 σ FU a 0 = some ((31 : Int64) * ((31 : Int64) * mxT S a + (σ.1 438 1).toInt64) + (σ.1 0 3).toInt64) := fun a => by
    refine lp (F := fun f (s : Int64 × Int32) => fX8_checksumN_128 σ f s.1 s.2) (Q := fun o => o = some ((31 : Int64) * ((31 : Int64) * mxT S a + (σ.1 438 1).toInt64) + (σ.1 0 3).toInt64)) (fun i s => s = (mxs (fun s => if svB S s then 1 else 0) i a, nI i)) 3 ?_ ?_ 3 0 FU (a, 0) rfl (by decide) rfl
    · rintro f i _ hi rfl
      refine ⟨_, rfl, ?_⟩
      have ti : (nI i).toInt = i := j_nI (by omega)
      show fX8_checksumN_128 σ (f + 1) (mxs (fun s => if svB S s then 1 else 0) i a) (nI i) = fX8_checksumN_128 σ f (mxs (fun s => if svB S s then 1 else 0) (i + 1) a) (nI (i + 1))
      rw [fX8_checksumN_128, if_neg (n_ge 3 (m := 3) rfl hi (by decide)), s_isSaved (b := 1) (by rw [h]; exact hS.2.1) ti hi, j_b, h]
      have e : mxs (fun s => if svB S s = true then (1 : Int32) else 0) (i + 1) a = (31 : Int64) * mxs (fun s => if svB S s = true then (1 : Int32) else 0) i a + (if svB S i = true then (1 : Int32) else 0).toInt64 := rfl
      unfold fX8_checksumN_150 fX8_mix
      rw [j_b, j_b, j_s, e]
      cases svB S i <;> rfl
    · rintro f _ rfl
      show fX8_checksumN_128 σ (f + 1) (mxs (fun s => if svB S s then 1 else 0) 3 a) (nI 3) = _
      rw [fX8_checksumN_128, if_pos (n_le 3 (m := 3) rfl (by decide))]
      unfold fX5_length fX8_mix
      rw [j_b, j_b, j_b]
      rfl
  have hO := hS.2.2.2.2.2.1
  have ok := hO.ok (by decide)
  have f3 : ∀ a, fX8_checksumN_90 σ FU a 0 = fX8_checksumN_128 σ FU (mxF S (S_fo S).1.toNat a) 0 := fun a => by
    have sz : odv σ (1 + 3) = S_fo S := by rw [← h]; rfl
    refine lp (F := fun f (s : Int64 × Int32) => fX8_checksumN_90 σ f s.1 s.2) (Q := fun o => o = fX8_checksumN_128 σ FU (mxF S (S_fo S).1.toNat a) 0) (fun i s => s = (mxF S i a, nI i)) (S_fo S).1.toNat ?_ ?_ (S_fo S).1.toNat 0 FU (a, 0) (by omega) (by have := ok.2; show _ < 6000; omega) rfl
    · rintro f i _ hi rfl
      refine ⟨_, rfl, ?_⟩
      have o2 := ok.2
      have ti : (nI i).toInt = i := j_nI (by omega)
      show fX8_checksumN_90 σ (f + 1) (mxF S i a) (nI i) = fX8_checksumN_90 σ f (mxF S (i + 1) a) (nI (i + 1))
      rw [fX8_checksumN_90, s_size, j_b, sz, if_neg (by rw [j_le, j_oI (by have := ok.1; omega) (by omega), ti]; omega), s_item, j_b, sz, ti]
      unfold fX8_mix
      rw [j_b, j_s]
      rfl
    · rintro f _ rfl
      have o1 := ok.1
      have o2 := ok.2
      show fX8_checksumN_90 σ (f + 1) (mxF S (S_fo S).1.toNat a) (nI (S_fo S).1.toNat) = _
      rw [fX8_checksumN_90, s_size, j_b, sz, if_pos (by rw [j_le, j_oI (by omega) (by omega), j_nI (by omega)]; omega)]
  have f2 : ∀ a, fX8_checksumN_52 σ FU a 0 = fX8_checksumN_90 σ FU (mxW S (qv σ) 5 a) 0 := fun a => by
    refine lp (F := fun f (s : Int64 × Int32) => fX8_checksumN_52 σ f s.1 s.2) (Q := fun o => o = fX8_checksumN_90 σ FU (mxW S (qv σ) 5 a) 0) (fun i s => s = (mxW S (qv σ) i a, nI i)) 5 ?_ ?_ 5 0 FU (a, 0) rfl (by decide) rfl
    · rintro f i _ hi rfl
      refine ⟨_, rfl, ?_⟩
      have ti : (nI i).toInt = i := j_nI (by omega)
      have e : mxW S (qv σ) (i + 1) a = if v_we (S_pl S) i then mxs (fun w => wtV (qv σ) S i (nI w)) 8 (mxW S (qv σ) i a) else mxW S (qv σ) i a := rfl
      show fX8_checksumN_52 σ (f + 1) (mxW S (qv σ) i a) (nI i) = fX8_checksumN_52 σ f (mxW S (qv σ) (i + 1) a) (nI (i + 1))
      rw [fX8_checksumN_52, if_neg (n_ge 5 (m := 5) rfl hi (by decide)), s_windowExists, j_b, S_pv h, ti, e]
      unfold fX8_checksumN_81
      rw [j_s]
      cases q : v_we (S_pl S) i
      · rfl
      · rw [if_pos rfl, s_mxw h hS ti hi (by rw [ti]; exact q), j_b]
        rfl
    · rintro f _ rfl
      show fX8_checksumN_52 σ (f + 1) (mxW S (qv σ) 5 a) (nI 5) = _
      rw [fX8_checksumN_52, if_pos (n_le 5 (m := 5) rfl (by decide))]
  have f1 : ∀ a, fX8_checksumN_16 σ FU a 0 = fX8_checksumN_52 σ FU (mxA S (qv σ) 12 a) 0 := fun a => by
    refine lp (F := fun f (s : Int64 × Int32) => fX8_checksumN_16 σ f s.1 s.2) (Q := fun o => o = fX8_checksumN_52 σ FU (mxA S (qv σ) 12 a) 0) (fun i s => s = (mxA S (qv σ) i a, nI i)) 12 ?_ ?_ 12 0 FU (a, 0) rfl (by decide) rfl
    · rintro f i _ hi rfl
      refine ⟨_, rfl, ?_⟩
      have ti : (nI i).toInt = i := j_nI (by omega)
      have ex : exP S (nI i) = exB S i := by
        unfold exP
        rw [ti, decide_eq_true (by omega), Int.toNat_natCast]
        rfl
      have e : mxA S (qv σ) (i + 1) a = if exB S i then mxP S (qv σ) i (mxA S (qv σ) i a) else mxA S (qv σ) i a := rfl
      show fX8_checksumN_16 σ (f + 1) (mxA S (qv σ) i a) (nI i) = fX8_checksumN_16 σ f (mxA S (qv σ) (i + 1) a) (nI (i + 1))
      rw [fX8_checksumN_16, if_neg (n_ge 12 (m := 12) rfl hi (by decide)), s_exists (b := 1) (by rw [h]; exact hS.1), j_b, h, e]
      show (if exP S (nI i) = true then _ else _) = _
      unfold fX8_checksumN_43
      rw [j_s, ex]
      cases q : exB S i
      · rfl
      · rw [if_pos rfl, s_mx6 h hS ti hi (by rw [ex]; exact q), j_b]
        rfl
    · rintro f _ rfl
      show fX8_checksumN_16 σ (f + 1) (mxA S (qv σ) 12 a) (nI 12) = _
      rw [fX8_checksumN_16, if_pos (n_le 12 (m := 12) rfl (by decide))]
  unfold fX8_checksumN fX8_mix
  rw [j_b, f1, f2, f3, f4, ex_get (b := 1) (by rw [h]; exact hS.1), h]
  rfl
/-! the reference -/
def Hs (s x : Sg) (a : Int64) : Prop := x.1 = s.1 ∧ x.2 476 = s.2 476 ∧ x.2 462 26 = a
theorem m_mix {s x : Sg} {a : Int64} (h : Hs s x a) (v : Int32) : ∃ x', fX9_mix x 462 v.toInt64 = some x' ∧ Hs s x' ((31 : Int64) * a + v.toInt64) := by
  unfold fX9_mix
  rw [j_nm]
  refine ⟨_, rfl, h.1, ?_, ?_⟩
  · rw [← h.2.1]
    rfl
  · rw [h.2.2]
    rfl
theorem m_mxs {s : Sg} {F : Nat → Sg → Int32 → Option (Int64 × Sg)} {N : Nat} {g : Nat → Int32} {a : Int64} {Q : Option (Int64 × Sg) → Prop} (hN : N < 100) (hs : ∀ n i x, i < N → (∃ b, Hs s x b) → F (n + 1) x (nI i) = (fX9_mix x 462 (g i).toInt64).bind fun x' => F n x' (nI (i + 1))) (he : ∀ n x, Hs s x (mxs g N a) → Q (F (n + 1) x (nI N))) {x : Sg} (hx : Hs s x a) : Q (F FU x 0) := by
  refine lp (F := fun f (y : Sg × Int32) => F f y.1 y.2) (Q := Q) (fun i y => y.2 = nI i ∧ Hs s y.1 (mxs g i a)) N ?_ ?_ N 0 FU (x, 0) (by omega) (by show N < 6000; omega) ⟨rfl, hx⟩
  · rintro f i ⟨y, l⟩ hi ⟨rfl, hy⟩
    simp only at hy
    obtain ⟨y', b, hy'⟩ := m_mix hy (g i)
    exact ⟨(y', nI (i + 1)), ⟨rfl, hy'⟩, by
      show F (f + 1) y (nI i) = F f y' (nI (i + 1))
      rw [hs f i y hi ⟨_, hy⟩, b, j_b]⟩
  · rintro f ⟨y, l⟩ ⟨rfl, hy⟩
    exact he f y hy
theorem m_cks {s x : Sg} {l : List ST} (hS : SI S) (ms : MR s S l) (hL : Lay (S_pl S) (S_mw S) (S_mh S) (mq s)) {a : Int64} (hx : Hs s x a) : ∃ x', fX9_checksum_27 462 FU x 0 = some ((31 : Int64) * ((31 : Int64) * mxT S (mxF S (S_fo S).1.toNat (mxW S (mq s) 5 (mxA S (mq s) 12 a))) + (s.1 462 5).toInt64) + (s.1 462 2).toInt64, x') ∧ x'.1 = s.1 ∧ x'.2 476 = s.2 476 := by
  have mvx : ∀ {y : Sg} {b : Int64}, Hs s y b → SM (mv (y.1 463)) S := fun h => by rw [h.1]; exact ms.2
  have mqx : ∀ {y : Sg} {b : Int64}, Hs s y b → mq y = mq s := fun h => by
    funext j n
    unfold mq
    rw [h.1]
  have hO := hS.2.2.2.2.2.1
  have ok := hO.ok (by decide)
  have o1 := ok.1
  have o2 := ok.2
  -- the slots and the end
  have f4 : ∀ (y : Sg) (b : Int64), Hs s y b → ∃ x', fX9_checksum_187 462 FU y 0 = some ((31 : Int64) * ((31 : Int64) * mxT S b + (s.1 462 5).toInt64) + (s.1 462 2).toInt64, x') ∧ x'.1 = s.1 ∧ x'.2 476 = s.2 476 := fun y b hy => by
    refine m_mxs (F := fun f y i => fX9_checksum_187 462 f y i) (N := 3) (g := fun s => if svB S s then 1 else 0) (a := b) (Q := fun o => ∃ x', o = some ((31 : Int64) * ((31 : Int64) * mxT S b + (s.1 462 5).toInt64) + (s.1 462 2).toInt64, x') ∧ x'.1 = s.1 ∧ x'.2 476 = s.2 476) (by omega) (fun n i x hi hx => ?_) (fun n x hx => ?_) hy
    · obtain ⟨b', hx⟩ := hx
      have ea : 264 + (219 * nI i) = nI (264 + 219 * i) := by
        rw [show (219 : Int32) * nI i = nI (219 * i) from (Int32.ofNat_mul 219 i).symm, show (264 : Int32) = nI 264 from rfl, j_a]
      have sl := ((mvx hx).2.2.2 i hi).1
      have mvs : mv (x.1 463) (22 + i) 0 = (x.1 463 (264 + 219 * i)).toInt := by
        have : i = 0 ∨ i = 1 ∨ i = 2 := by omega
        rcases this with rfl | rfl | rfl
        · rw [mv_in (by decide)]; rfl
        · rw [mv_in (by decide)]; rfl
        · rw [mv_in (by decide)]; rfl
      have cv : x.1 (462 + 1) (264 + 219 * i) = if svB S i = true then 1 else 0 := by
        refine j_eq.mpr ?_
        show (x.1 463 (264 + 219 * i)).toInt = _
        rw [← mvs, sl]
        cases svB S i <;> rfl
      rw [fX9_checksum_187, if_neg (n_ge 3 (m := 3) rfl hi (by decide)), ea, if_pos (j_ckn (by omega) (by decide)), j_cl _ (by omega), cv, j_s]
    · obtain ⟨x1, b1, h1⟩ := m_mix hx (s.1 462 5)
      obtain ⟨x2, b2, h2⟩ := m_mix h1 (s.1 462 2)
      rw [fX9_checksum_187, if_pos (n_le 3 (m := 3) rfl (by decide)), hx.1, b1, j_b, h1.1, b2, j_b, h2.2.2]
      exact ⟨x2, rfl, h2.1, h2.2.1⟩
  have f3 : ∀ (y : Sg) (b : Int64), Hs s y b → ∃ y', fX9_checksum_152 462 FU y 0 = fX9_checksum_187 462 FU y' 0 ∧ Hs s y' (mxF S (S_fo S).1.toNat b) := fun y b hy => by
    have ct : ∀ {x : Sg} {b : Int64}, Hs s x b → (x.1 463 251).toInt = (S_fo S).1 := fun hx => by
      rw [mo_ct (j := 20) (c := 251) (cap := 12) (Or.inr ⟨rfl, rfl, rfl⟩), (mvx hx).2.2.1.1]
    have c251 : (251 : Int32).toNatClampNeg = 251 := by decide
    refine m_mxs (F := fun f y i => fX9_checksum_152 462 f y i) (N := (S_fo S).1.toNat) (g := fun i => oI (o_it (S_fo S) i)) (Q := fun o => ∃ y', o = fX9_checksum_187 462 FU y' 0 ∧ Hs s y' (mxF S (S_fo S).1.toNat b)) (by omega) (fun n i x hi hx => ?_) (fun n x hx => ?_) hy
    · obtain ⟨b', hx⟩ := hx
      have ti : (nI i).toInt = i := j_nI (by omega)
      have ct := ct hx
      have it := mo_it (σ := x) (j := 20) (c := 251) (cap := 12) (Or.inr ⟨rfl, rfl, rfl⟩) (i := i) (by omega)
      have oe := (mvx hx).2.2.1
      rw [oe.2 i (by rw [oe.1]; omega)] at it
      rw [fX9_checksum_152, if_pos (show ck 251 921 from by decide), c251]
      show (if x.1 463 251 ≤ nI i then _ else _) = _
      rw [if_neg (by rw [j_le, ct, ti]; omega), show (252 : Int32) = nI 252 from rfl, j_a, if_pos (j_ckn (by omega) (by decide)), j_cl _ (by omega), j_s]
      have ev : x.1 (462 + 1) (252 + i) = oI (o_it (S_fo S) i) := by
        show x.1 463 (251 + 1 + i) = _
        unfold o_it
        rw [if_neg (by omega), ga_in (by omega), ← it, j_oIt]
      rw [ev]
    · have ct := ct hx
      show ∃ y', fX9_checksum_152 462 (n + 1) x (nI (S_fo S).1.toNat) = _ ∧ _
      rw [fX9_checksum_152, if_pos (show ck 251 921 from by decide), c251]
      show ∃ y', (if x.1 463 251 ≤ nI (S_fo S).1.toNat then _ else _) = _ ∧ _
      rw [if_pos (by rw [j_le, ct, j_nI (by omega)]; omega)]
      exact ⟨x, rfl, hx⟩
  -- the windows
  have f2 : ∀ (y : Sg) (b : Int64), Hs s y b → ∃ y', fX9_checksum_106 462 FU y 0 = fX9_checksum_152 462 FU y' 0 ∧ Hs s y' (mxW S (mq s) 5 b) := fun y b hy => by
    refine lp (F := fun f (z : Sg × Int32) => fX9_checksum_106 462 f z.1 z.2) (Q := fun o => ∃ y', o = fX9_checksum_152 462 FU y' 0 ∧ Hs s y' (mxW S (mq s) 5 b)) (fun i z => z.2 = nI i ∧ Hs s z.1 (mxW S (mq s) i b)) 5 ?_ ?_ 5 0 FU (y, 0) rfl (by decide) ⟨rfl, hy⟩
    · rintro f i ⟨z, l⟩ hi ⟨rfl, hz⟩
      simp only at hz
      have ti : (nI i).toInt = i := j_nI (by omega)
      show ∃ z' : Sg × Int32, _ ∧ fX9_checksum_106 462 (f + 1) z (nI i) = _
      rw [fX9_checksum_106, if_neg (n_ge 5 (m := 5) rfl hi (by decide))]
      have e : mxW S (mq s) (i + 1) b = if v_we (S_pl S) i then mxs (fun w => wtV (mq s) S i (nI w)) 8 (mxW S (mq s) i b) else mxW S (mq s) i b := rfl
      cases q : v_we (S_pl S) i
      · rw [q, if_neg Bool.false_ne_true] at e
        refine ⟨(z, nI (i + 1)), ⟨rfl, by rw [e]; exact hz⟩, ?_⟩
        show fX9_checksum_113 462 (fX9_checksum_106 462 f) (5999 + 1) z (nI i) 0 = _
        rw [fX9_checksum_113, if_neg (by decide), m_isW (mvx hz).2.1, j_b, ti, q, if_neg Bool.false_ne_true]
        unfold fX9_checksum_144
        rw [j_s]
      · rw [q, if_pos rfl] at e
        refine m_mxs (F := fun n x w => fX9_checksum_113 462 (fX9_checksum_106 462 f) n x (nI i) w) (N := 8) (g := fun w => wtV (mq s) S i (nI w)) (Q := fun o => ∃ z' : Sg × Int32, (z'.2 = nI (i + 1) ∧ Hs s z'.1 (mxW S (mq s) (i + 1) b)) ∧ o = fX9_checksum_106 462 f z'.1 z'.2) (by omega) (fun n w x hw hx => ?_) (fun n x hx => ?_) hz
        · obtain ⟨b', hx⟩ := hx
          have tw : (nI w).toInt = w := j_nI (by omega)
          rw [fX9_checksum_113, if_neg (n_ge 8 (m := 8) rfl hw (by decide)), m_isW (mvx hx).2.1, j_b, ti, q, if_pos rfl, m_wtold (mvx hx) hS (by rw [mqx hx]; exact hL) ti hi (by rw [ti]; exact q) (w := nI w) (by omega), j_b, mqx hx, j_s]
        · rw [fX9_checksum_113, if_pos (n_le 8 (m := 8) rfl (by decide))]
          unfold fX9_checksum_144
          rw [j_s]
          exact ⟨(x, nI (i + 1)), ⟨rfl, by rw [e]; exact hx⟩, rfl⟩
    · rintro f ⟨z, l⟩ ⟨rfl, hz⟩
      simp only at hz
      show ∃ y', fX9_checksum_106 462 (f + 1) z (nI 5) = _ ∧ _
      rw [fX9_checksum_106, if_pos (n_le 5 (m := 5) rfl (by decide))]
      exact ⟨z, rfl, hz⟩
  -- the panes
  have f1 : ∀ (y : Sg) (b : Int64), Hs s y b → ∃ y', fX9_checksum_27 462 FU y 0 = fX9_checksum_106 462 FU y' 0 ∧ Hs s y' (mxA S (mq s) 12 b) := fun y b hy => by
    refine lp (F := fun f (z : Sg × Int32) => fX9_checksum_27 462 f z.1 z.2) (Q := fun o => ∃ y', o = fX9_checksum_106 462 FU y' 0 ∧ Hs s y' (mxA S (mq s) 12 b)) (fun i z => z.2 = nI i ∧ Hs s z.1 (mxA S (mq s) i b)) 12 ?_ ?_ 12 0 FU (y, 0) rfl (by decide) ⟨rfl, hy⟩
    · rintro f i ⟨z, l⟩ hi ⟨rfl, hz⟩
      simp only at hz
      have ti : (nI i).toInt = i := j_nI (by omega)
      have ex : exP S (nI i) = exB S i := by
        unfold exP
        rw [ti, decide_eq_true (by omega), Int.toNat_natCast]
        rfl
      show ∃ z' : Sg × Int32, _ ∧ fX9_checksum_27 462 (f + 1) z (nI i) = _
      rw [fX9_checksum_27, if_neg (n_ge 12 (m := 12) rfl hi (by decide))]
      have e : mxA S (mq s) (i + 1) b = if exB S i then mxP S (mq s) i (mxA S (mq s) i b) else mxA S (mq s) i b := rfl
      cases q : exB S i
      · rw [q, if_neg Bool.false_ne_true] at e
        refine ⟨(z, nI (i + 1)), ⟨rfl, by rw [e]; exact hz⟩, ?_⟩
        show fX9_checksum_35 462 (fX9_checksum_27 462 f) (5999 + 1) z (nI i) 0 = _
        rw [fX9_checksum_35, if_neg (by decide), m_isP (mvx hz), j_b, ex, q, if_neg Bool.false_ne_true]
        unfold fX9_checksum_66
        show fX9_checksum_68 462 (fX9_checksum_27 462 f) (5999 + 1) z (nI i) 0 = _
        rw [fX9_checksum_68, if_neg (by decide), m_isP (mvx hz), j_b, ex, q, if_neg Bool.false_ne_true]
        unfold fX9_checksum_98
        rw [j_s]
      · rw [q, if_pos rfl] at e
        have xq : exP S (nI i) = true := by rw [ex]; exact q
        refine m_mxs (F := fun n x w => fX9_checksum_35 462 (fX9_checksum_27 462 f) n x (nI i) w) (N := 9) (g := fun w => tlV S i (nI w)) (Q := fun o => ∃ z' : Sg × Int32, (z'.2 = nI (i + 1) ∧ Hs s z'.1 (mxA S (mq s) (i + 1) b)) ∧ o = fX9_checksum_27 462 f z'.1 z'.2) (by omega) (fun n w x hw hx => ?_) (fun n x hx => ?_) hz
        · obtain ⟨b', hx⟩ := hx
          have tw : (nI w).toInt = w := j_nI (by omega)
          rw [fX9_checksum_35, if_neg (n_ge 9 (m := 9) rfl hw (by decide)), m_isP (mvx hx), j_b, xq, if_pos rfl, m_told (mvx hx) hS ti hi xq (w := nI w) (by omega), j_b, j_s]
        · rw [fX9_checksum_35, if_pos (n_le 9 (m := 9) rfl (by decide))]
          unfold fX9_checksum_66
          refine m_mxs (F := fun n x w => fX9_checksum_68 462 (fX9_checksum_27 462 f) n x (nI i) w) (N := 4) (g := fun w => lyV (mq s) S i w) (Q := fun o => ∃ z' : Sg × Int32, (z'.2 = nI (i + 1) ∧ Hs s z'.1 (mxA S (mq s) (i + 1) b)) ∧ o = fX9_checksum_27 462 f z'.1 z'.2) (by omega) (fun n w x hw hx => ?_) (fun n x hx => ?_) hx
          · obtain ⟨b', hx⟩ := hx
            have tw : (nI w).toInt = w := j_nI (by omega)
            rw [fX9_checksum_68, if_neg (n_ge 4 (m := 4) rfl hw (by decide)), m_isP (mvx hx), j_b, xq, if_pos rfl, m_corner (mvx hx) hS (by rw [mqx hx]; exact hL) ti hi (w := nI w) (by omega), j_b, mqx hx, wj_n w hw, j_s]
          · rw [fX9_checksum_68, if_pos (n_le 4 (m := 4) rfl (by decide))]
            unfold fX9_checksum_98
            rw [j_s]
            exact ⟨(x, nI (i + 1)), ⟨rfl, by rw [e]; exact hx⟩, rfl⟩
    · rintro f ⟨z, l⟩ ⟨rfl, hz⟩
      simp only at hz
      show ∃ y', fX9_checksum_27 462 (f + 1) z (nI 12) = _ ∧ _
      rw [fX9_checksum_27, if_pos (n_le 12 (m := 12) rfl (by decide))]
      exact ⟨z, rfl, hz⟩
  obtain ⟨y1, e1, h1⟩ := f1 x a hx
  obtain ⟨y2, e2, h2⟩ := f2 y1 _ h1
  obtain ⟨y3, e3, h3⟩ := f3 y2 _ h2
  obtain ⟨y4, e4, h4⟩ := f4 y3 _ h3
  exact ⟨y4, by rw [e1, e2, e3, e4], h4⟩
def PK (F : Option Int64) (G : Option (Int64 × Sg)) : Prop := ∃ v σ2, F = some v ∧ G = some (v, σ2) ∧ RR σ2
theorem mxA_eq {P Q : VW} (hS : SI S) (hP : Lay (S_pl S) (S_mw S) (S_mh S) P) (hQ : Lay (S_pl S) (S_mw S) (S_mh S) Q) (a : Int64) : ∀ n, n ≤ 12 → mxA S P n a = mxA S Q n a
  | 0, _ => rfl
  | n + 1, hn => by
    show (if exB S n then mxP S P n (mxA S P n a) else mxA S P n a) = (if exB S n then mxP S Q n (mxA S Q n a) else mxA S Q n a)
    rw [mxA_eq hS hP hQ a n (by omega)]
    unfold mxP
    rw [mxs_cg (f := fun w => lyV P S n w) (g := fun w => lyV Q S n w) (fun i hi => ly_eq hS hP hQ (by omega) (by omega))]
theorem mxW_eq {P Q : VW} (hS : SI S) (hP : Lay (S_pl S) (S_mw S) (S_mh S) P) (hQ : Lay (S_pl S) (S_mw S) (S_mh S) Q) (a : Int64) : ∀ n, n ≤ 5 → mxW S P n a = mxW S Q n a
  | 0, _ => rfl
  | n + 1, hn => by
    show (if v_we (S_pl S) n then mxs (fun w => wtV P S n (nI w)) 8 (mxW S P n a) else mxW S P n a) = (if v_we (S_pl S) n then mxs (fun w => wtV Q S n (nI w)) 8 (mxW S Q n a) else mxW S Q n a)
    rw [mxW_eq hS hP hQ a n (by omega), mxs_cg (f := fun w => wtV P S n (nI w)) (g := fun w => wtV Q S n (nI w)) (fun i hi => wt_eq hS hP hQ (by omega) (nI i))]
theorem c_checksum (h : RR σ) : PK (fX8_checksumN σ) (fX9_checksum σ 462) := by
  obtain ⟨S, l, c, m, tx⟩ := h
  have h1 := c.1
  have hS := c.2.2.1
  obtain ⟨n, n120, t1, t2, t3⟩ := id tx
  have hn : σ.1 0 3 = nI l.length := by
    obtain ⟨k, -, -, -, e, -⟩ := c.2.1
    exact e
  obtain ⟨s1, hs1⟩ : ∃ s1 : Sg, s1 = sul (su σ 462 3 0) 462 26 18323 := ⟨_, rfl⟩
  have s11 : s1.1 = (su σ 462 3 0).1 := by rw [hs1]; rfl
  have ms1 : MR s1 S l := (m.s3 (k := 0)).c (by rw [s11]) (by rw [s11]) (by rw [s11])
  obtain ⟨s4, b4, g4, m4, x4, L4⟩ := m_ly ms1 hS
  have v26 : s4.2 462 26 = 18323 := by
    obtain ⟨d, wn, hI⟩ := hS.2.2.2.2.1
    obtain ⟨s4', b4', f4', -⟩ := m_lays (σ := s1) (mw := S_mw S) (mh := S_mh S) ms1.2.2.1 hI.1 hI.2.2.2 (fun p hp z => (ms1.2.1 p hp).2 (hS.2.2.2.1 p hp z)) (fun p hp => (hS.2.2.1 p hp).1) (fun p hp => (hS.2.2.1 p hp).2.1)
    have : s4' = s4 := by
      rw [b4] at b4'
      exact (Option.some.inj b4').symm
    rw [← this, f4'.1, hs1]
    rfl
  obtain ⟨x5, b5, h5⟩ := m_mix (s := s4) (x := s4) (a := 18323) ⟨rfl, rfl, v26⟩ (nI (S_ex S).toNat)
  obtain ⟨x6, b6, e6, k6⟩ := m_cks hS m4 L4 h5
  have f5 : s4.1 462 5 = nI n := by rw [g4.2.2.1, s11, su_at, if_neg (by omega)]; exact t2
  have f2 : s4.1 462 2 = nI l.length := m4.1.2.1
  refine ⟨_, x6, s_checksum h1 hS, ?_, RR.mk9 c tx (Or.inr ⟨x6.1 462 3, ?_⟩) (m4.c (by rw [e6]) (by rw [e6]) (by rw [e6]))⟩
  · unfold fX9_checksum
    rw [j_nm, j_nm]
    rw [← hs1, b4, j_b, m_paneSet m4.2 hS.1, j_b, b5, j_b, b6]
    unfold mxZ
    rw [t1, hn, f5, f2, mxA_eq hS c.2.2.2.2.1 L4 _ 12 (by omega), mxW_eq hS c.2.2.2.2.1 L4 _ 5 (by omega)]
  · refine ⟨fun x hx => by rw [e6, g4.1 x hx, s11, su_ne (by omega)], by rw [e6, g4.2.1, s11, su_ne (by omega)], by rw [e6, g4.2.2.1, s11, su_at, if_neg (by omega)], ?_, rfl⟩
    rw [k6, g4.2.2.2.1, hs1]
    rfl
end RAP
end
section
/-! THE RELATION: hits, the class: they end -/
section RAQ
def tot {α : Type} (x : Option α) : Prop := ∃ v, x = some v
theorem tot_s {α : Type} (a : α) : tot (some a) := ⟨a, rfl⟩
theorem tot_b {α β : Type} {x : Option α} {f : α → Option β} (h : tot x) (hf : ∀ a, tot (f a)) : tot (x.bind f) := by
  obtain ⟨a, e⟩ := h
  rw [e, j_b]
  exact hf a
theorem tot_e {α β : Type} {x : Option α} {a : α} {f : α → Option β} (h : x = some a) (hf : tot (f a)) : tot (x.bind f) := by
  rw [h, j_b]
  exact hf
theorem tot_i {α : Type} {c : Prop} [Decidable c] {x y : Option α} (hx : c → tot x) (hy : ¬ c → tot y) : tot (if c then x else y) := by
  by_cases h : c
  · rw [if_pos h]
    exact hx h
  · rw [if_neg h]
    exact hy h
theorem tot_n {α β : Type} {x : α} {f : α → Option β} (h : tot (f x)) : tot (nm x f) := h
variable {σ : Sg}
theorem tot_at (c n : Nat) (hn : n < 2147483648) (p : Int32) : tot (fX8_at σ c n p) := ⟨_, s_at hn p⟩
theorem tq_left (p : Int32) : tot (fX2_leftOf σ 422 p) := by
  unfold fX2_leftOf
  exact tot_b (tot_at _ _ (by decide) _) (fun _ => tot_s _)
theorem tq_top (p : Int32) : tot (fX2_topOf σ 422 p) := by
  unfold fX2_topOf
  exact tot_b (tot_at _ _ (by decide) _) (fun _ => tot_s _)
theorem tq_col (p : Int32) : tot (fX2_columnsOf σ 422 p) := by
  unfold fX2_columnsOf
  exact tot_b (tot_at _ _ (by decide) _) (fun _ => tot_s _)
theorem tq_row (p : Int32) : tot (fX2_rowsOf σ 422 p) := by
  unfold fX2_rowsOf
  exact tot_b (tot_at _ _ (by decide) _) (fun _ => tot_s _)
theorem tq_sh (p : Int32) : tot (fX2_isShown σ 422 p) := ⟨_, s_isShown p⟩
theorem tq_ext (p d : Int32) : tot (fX2_extentOf σ 422 p d) := by
  unfold fX2_extentOf fX2_extentOf_15
  exact tot_i (fun _ => tot_b (tot_at _ _ (by decide) _) (fun _ => tot_s _)) (fun _ => tot_b (tot_at _ _ (by decide) _) (fun _ => tot_s _))
theorem tq_contains (p x y : Int32) : tot (fX2_contains σ 422 p x y) := by
  unfold fX2_contains
  exact tot_b (tq_sh _) (fun _ => tot_i (fun _ => tot_b (tq_left _) (fun _ => tot_i (fun _ => tot_s _) (fun _ => tot_b (tq_left _) (fun _ => tot_b (tq_col _) (fun _ => tot_i (fun _ => tot_s _) (fun _ => tot_b (tq_top _) (fun _ => tot_i (fun _ => tot_s _) (fun _ => tot_b (tq_top _) (fun _ => tot_b (tq_row _) (fun _ => tot_i (fun _ => tot_s _) (fun _ => tot_s _))))))))))) (fun _ => tot_s _))
theorem tq_side95 (p l s : Int32) : tot (fX2_sideAt_95 σ 422 p l s) := by
  unfold fX2_sideAt_95
  exact tot_b ⟨_, s_dirb _⟩ (fun _ => tot_b (tq_ext _ _) (fun _ => tot_i (fun _ => tot_s _) (fun _ => tot_s _)))
theorem tq_side (p x y : Int32) : tot (fX2_sideAt σ 422 p x y) := by
  unfold fX2_sideAt
  refine tot_b (tq_left _) (fun _ => tot_n ?_)
  refine tot_b (tq_col _) (fun _ => tot_n ?_)
  refine tot_b (tq_top _) (fun _ => tot_n ?_)
  refine tot_b (tq_row _) (fun _ => tot_n (tot_n (tot_n (tot_n ?_))))
  exact tot_i (fun _ => tq_side95 _ _ _) (fun _ => tot_i (fun _ => tq_side95 _ _ _) (fun _ => tot_i (fun _ => tq_side95 _ _ _) (fun _ => tq_side95 _ _ _)))
theorem t_front19 (x y : Int32) : ∀ (m fuel : Nat) (l : Int32), l.toInt = (m : Int) - 1 → m ≤ 12 → m < fuel → tot (fX8_frontWindowAt_19 σ fuel x y l)
  | m, 0, _, _, _, hf => absurd hf (by omega)
  | 0, f + 1, l, hl, _, _ => by
    rw [fX8_frontWindowAt_19, if_pos (by rw [j_lt, hl, jz0]; decide)]
    exact tot_b (s_windowContains _ _ _) (fun _ => tot_i (fun _ => tot_s _) (fun _ => tot_s _))
  | m + 1, f + 1, l, hl, hm, hf => by
    have hl2 : l.toInt = m := by omega
    rw [fX8_frontWindowAt_19, if_neg (by rw [j_lt, hl2, jz0]; omega)]
    refine tot_b ⟨_, s_item _⟩ (fun _ => tot_b (s_windowContains _ _ _) (fun _ => tot_i (fun _ => tot_b ⟨_, s_item _⟩ (fun _ => tot_s _)) (fun _ => ?_)))
    refine t_front19 x y m f (l + (-1)) ?_ (by omega) (by omega)
    rw [j_add (by rw [hl2, jm1]; omega) (by rw [hl2, jm1]; omega), hl2, jm1]
    omega
theorem t_front (ok : OkO (odv σ (1 + 5 + 6))) (x y : Int32) : tot (fX8_frontWindowAt σ x y) := by
  unfold fX8_frontWindowAt
  refine tot_e s_size (tot_n ?_)
  have o1 := ok.1
  have o2 := ok.2
  have t : (oI (odv σ (1 + 5 + 6)).1).toInt = (odv σ (1 + 5 + 6)).1 := j_oI (by omega) (by omega)
  refine t_front19 x y (odv σ (1 + 5 + 6)).1.toNat FU _ ?_ (by omega) (by show _ < 6000; omega)
  rw [j_sub (by rw [t, jz1]; omega) (by rw [t, jz1]; omega), t, jz1]
  omega
theorem t_group (w x y : Int32) : tot (fX8_groupAt σ w x y) := by
  unfold fX8_groupAt
  refine lpx (F := fun f (l : Int32) => fX8_groupAt_12 σ f w x y l) (Q := fun o => tot o) (fun i l => l = nI i) 23 ?_ ?_ 23 0 FU 0 rfl (by decide) rfl
  · rintro f i _ hi rfl
    have nle : ¬ (23 : Int32) ≤ nI i := n_ge 23 (m := 23) rfl hi (by decide)
    have fin : ∀ s0 : Int32, tot (fX8_groupAt_54 σ (fX8_groupAt_12 σ f) w x y (nI i) s0) ∨ fX8_groupAt_54 σ (fX8_groupAt_12 σ f) w x y (nI i) s0 = fX8_groupAt_12 σ f w x y (nI (i + 1)) := fun s0 => by
      unfold fX8_groupAt_54 fX8_groupAt_75
      rw [s_windowOf, j_b, j_s]
      by_cases z : s0 = 0
      · rw [if_pos z]
        exact Or.inr rfl
      · rw [if_neg z]
        by_cases u : oI (v_wo (pv σ (1 + 5)) (nI i).toInt) = w
        · rw [if_pos u]
          exact Or.inl (tot_s _)
        · rw [if_neg u]
          exact Or.inr rfl
    have goal : ∀ o, o = fX8_groupAt_12 σ (f + 1) w x y (nI i) → tot o ∨ ∃ s' : Int32, s' = nI (i + 1) ∧ o = fX8_groupAt_12 σ f w x y s' := fun o ho => by
      rw [fX8_groupAt_12, if_neg nle] at ho
      by_cases a : w = -1
      · rw [if_pos a] at ho
        exact Or.inl (by rw [ho]; exact tot_s _)
      · rw [if_neg a, s_kindOf, j_b] at ho
        obtain ⟨v, ev⟩ := tq_contains (σ := σ) (nI i) x y
        rw [ev, j_b] at ho
        have key : ∀ s0 : Int32, o = fX8_groupAt_54 σ (fX8_groupAt_12 σ f) w x y (nI i) s0 → tot o ∨ ∃ s' : Int32, s' = nI (i + 1) ∧ o = fX8_groupAt_12 σ f w x y s' := fun s0 e => by
          rcases fin s0 with u | u
          · exact Or.inl (by rw [e]; exact u)
          · exact Or.inr ⟨_, rfl, by rw [e]; exact u⟩
        by_cases b : oI (ga (pv σ (1 + 5) 8) 23 (nI i).toInt) = 2
        · rw [if_pos b] at ho
          by_cases c : v = true
          · rw [if_pos c] at ho
            exact key 1 ho
          · rw [if_neg c] at ho
            exact key 0 ho
        · rw [if_neg b] at ho
          exact key 0 ho
    exact goal _ rfl
  · rintro f _ rfl
    show tot (fX8_groupAt_12 σ (f + 1) w x y (nI 23))
    rw [fX8_groupAt_12, if_pos (n_le 23 (m := 23) rfl (by decide))]
    exact tot_s _
theorem t_kindAt (ok : OkO (odv σ (1 + 5 + 6))) (x y : Int32) : tot (fX8_kindAt σ x y) := by
  unfold fX8_kindAt
  exact tot_b (t_front ok x y) (fun _ => tot_b ⟨_, s_rootOf _⟩ (fun _ => tot_b (tq_sh _) (fun _ => tot_i (fun _ => tot_b (t_group _ _ _) (fun _ => tot_i (fun _ => tot_s _) (fun _ => tot_b (tq_top _) (fun _ => tot_i (fun _ => tot_s _) (fun _ => tot_s _))))) (fun _ => tot_s _))))
theorem t_tab (g x : Int32) : tot (fX8_paneOfTab σ g x) := by
  unfold fX8_paneOfTab fX8_paneOfTab_65
  refine tot_e (s_shownCount _) (tot_i (fun h1 => tot_b (tq_col _) (fun c => ?_)) (fun _ => tot_s _))
  have n0 : ¬ oI (v_sc (pv σ (1 + 5)) g.toInt : Int) = 0 := fun z => by
    rw [z] at h1
    exact absurd h1 (by decide)
  rw [if_neg n0]
  refine tot_n (tot_n (tot_i (fun h2 => tot_b (tq_left _) (fun _ => ?_)) (fun _ => tot_b ⟨_, s_shownTabAt _ _⟩ (fun _ => tot_s _))))
  have n1 : ¬ c / oI (v_sc (pv σ (1 + 5)) g.toInt : Int) = 0 := fun z => by
    rw [z] at h2
    exact absurd h2 (by decide)
  rw [if_neg n1]
  exact tot_n (tot_b ⟨_, s_shownTabAt _ _⟩ (fun _ => tot_s _))
theorem t_paneAt (ok : OkO (odv σ (1 + 5 + 6))) (x y : Int32) : tot (fX8_paneAt σ x y) := by
  unfold fX8_paneAt
  exact tot_b (t_front ok x y) (fun _ => tot_b (t_group _ _ _) (fun _ => tot_i (fun _ => tot_s _) (fun _ => tot_b (tq_top _) (fun _ => tot_i (fun _ => tot_b (t_tab _ _) (fun _ => tot_s _)) (fun _ => tot_b ⟨_, s_activeOf _⟩ (fun _ => tot_s _))))))
theorem t_dropAt (ok : OkO (odv σ (1 + 5 + 6))) (x y : Int32) : tot (fX8_dropAt σ x y) := by
  unfold fX8_dropAt fX8_dropAt_46
  exact tot_b (t_front ok x y) (fun _ => tot_b (t_group _ _ _) (fun _ => tot_i (fun _ => tot_s _) (fun _ => tot_b (tq_top _) (fun _ => tot_i (fun _ => tot_b ⟨_, s_activeOf _⟩ (fun _ => tot_s _)) (fun _ => tot_b (tq_side _ _ _) (fun _ => tot_b ⟨_, s_activeOf _⟩ (fun _ => tot_s _)))))))
end RAQ
end
section
/-! THE RELATION: hits, the reference: they end -/
section RAR
variable {s : Sg} {V : VW} {d : Nat → Nat} {wn : Nat → Int}
theorem m_insT (x y a b c e : Int32) : tot (fX9_isInside s 462 x y a b c e) := by
  unfold fX9_isInside
  exact tot_i (fun _ => tot_s _) (fun _ => tot_i (fun _ => tot_s _) (fun _ => tot_i (fun _ => tot_s _) (fun _ => tot_i (fun _ => tot_s _) (fun _ => tot_s _))))
theorem m_isInT (h : VM (mv (s.1 463)) V (fun _ => false)) (w x y : Int32) : ∃ b, fX9_isIn s 462 w x y = some b ∧ (b = true → v_we V w.toInt = true) := by
  unfold fX9_isIn
  rw [m_isW h, j_b]
  cases q : v_we V w.toInt
  · rw [if_neg Bool.false_ne_true]
    exact ⟨false, rfl, fun z => by cases z⟩
  · obtain ⟨k, hk, hk5, -⟩ := v_we_n q
    rw [if_pos rfl, m_w1 hk hk5, j_b, m_w2 hk hk5, j_b, m_w3 hk hk5, j_b, m_w4 hk hk5, j_b]
    obtain ⟨b, e⟩ := m_insT (s := s) x y (oI (mv (s.1 463) 13 k)) (oI (mv (s.1 463) 14 k)) (oI (mv (s.1 463) 15 k)) (oI (mv (s.1 463) 16 k))
    rw [e, j_b]
    cases b
    · exact ⟨false, rfl, fun _ => rfl⟩
    · exact ⟨true, rfl, fun _ => rfl⟩
theorem m_wAt11 (h : VM (mv (s.1 463)) V (fun _ => false)) (x y : Int32) : ∀ (m fuel : Nat) (l : Int32), l.toInt = (m : Int) - 1 → m ≤ 4 → m < fuel → ∃ w, fX9_windowAt_11 s 462 fuel x y l = some w ∧ (w.toInt = -1 ∨ v_we V w.toInt = true)
  | m, 0, _, _, _, hf => absurd hf (by omega)
  | 0, f + 1, l, hl, _, _ => by
    rw [fX9_windowAt_11, if_pos (by rw [j_lt, hl, jz0]; decide)]
    obtain ⟨b, e, -⟩ := m_isInT h 0 x y
    rw [e, j_b]
    cases b
    · exact ⟨-1, rfl, Or.inl rfl⟩
    · exact ⟨0, rfl, Or.inr rfl⟩
  | m + 1, f + 1, l, hl, hm, hf => by
    have hl2 : l.toInt = m := by omega
    have el : 247 + l = nI (247 + m) := by
      have : l = nI m := j_eq.mpr (by rw [hl2, j_nI (by omega)])
      rw [this, show (247 : Int32) = nI 247 from rfl, j_a]
    rw [fX9_windowAt_11, if_neg (by rw [j_lt, hl2, jz0]; omega), el, if_pos (j_ckn (by omega) (by decide)), if_pos (j_ckn (by omega) (by decide))]
    generalize s.1 (462 + 1) (nI (247 + m)).toNatClampNeg = w
    obtain ⟨b, e, eb⟩ := m_isInT h w x y
    rw [e, j_b]
    cases b
    · rw [if_neg Bool.false_ne_true]
      refine m_wAt11 h x y m f (l + (-1)) ?_ (by omega) (by omega)
      rw [j_add (by rw [hl2, jm1]; omega) (by rw [hl2, jm1]; omega), hl2, jm1]
      omega
    · rw [if_pos rfl]
      exact ⟨w, rfl, Or.inr (eb rfl)⟩
theorem m_wAt (h : VM (mv (s.1 463)) V (fun _ => false)) (lo : LO (odp V) 5 (flw V)) (x y : Int32) : ∃ w, fX9_windowAt s 462 x y = some w ∧ (w.toInt = -1 ∨ v_we V w.toInt = true) := by
  have F := fl4 lo
  have ct := mo_ct (σ := s) (j := 18) (c := 246) (cap := 4) (Or.inl ⟨rfl, rfl, rfl⟩)
  rw [h.oe.1] at ct
  have eo : (odp V).1 = V 6 1 := rfl
  unfold fX9_windowAt
  rw [if_pos (show ck 246 921 from by decide), j_nm, show (246 : Int32).toNatClampNeg = 246 from by decide]
  refine m_wAt11 h x y (V 6 1).toNat FU _ ?_ (by omega) (by show _ < 6000; omega)
  show (s.1 463 246 - 1).toInt = _
  rw [j_sub (by rw [ct, jz1]; omega) (by rw [ct, jz1]; omega), ct, jz1]
  omega
theorem m_gAt (h : VM (mv (s.1 463)) V (fun _ => false)) (t : Tree V d wn (fun _ => false)) (b01 : ∀ n, n < 23 → V 8 n = 2 → mq s 1 n = 0 ∨ mq s 1 n = 1) (lo : LO (odp V) 5 (flw V)) (x y : Int32) : ∃ g, fX9_groupAt s 462 x y = some g ∧ (g = -1 ∨ ∃ n : Nat, n < 23 ∧ g = nI n ∧ V 8 n = 2 ∧ mq s 1 n = 1) := by
  obtain ⟨w, ew, hw⟩ := m_wAt h lo x y
  unfold fX9_groupAt
  rw [ew, j_b]
  refine lpx (F := fun f (l : Int32) => fX9_groupAt_10 s 462 f x y w l) (Q := fun o => ∃ g, o = some g ∧ (g = -1 ∨ ∃ n : Nat, n < 23 ∧ g = nI n ∧ V 8 n = 2 ∧ mq s 1 n = 1)) (fun i l => l = nI i) 24 ?_ ?_ 24 0 FU 0 rfl (by decide) rfl
  · rintro f i _ hi rfl
    have ti : (nI i).toInt = i := j_nI (by omega)
    have nle : ¬ (24 : Int32) ≤ nI i := n_ge 24 (m := 24) rfl hi (by decide)
    have next : fX9_groupAt_107 s 462 (fX9_groupAt_10 s 462 f) x y w (nI i) = fX9_groupAt_10 s 462 f x y w (nI (i + 1)) := by
      unfold fX9_groupAt_107
      rw [j_s]
    have goal : ∀ o, o = fX9_groupAt_10 s 462 (f + 1) x y w (nI i) → (∃ g, o = some g ∧ (g = -1 ∨ ∃ n : Nat, n < 23 ∧ g = nI n ∧ V 8 n = 2 ∧ mq s 1 n = 1)) ∨ ∃ s' : Int32, s' = nI (i + 1) ∧ o = fX9_groupAt_10 s 462 f x y w s' := fun o ho => by
      rw [fX9_groupAt_10, if_neg nle] at ho
      by_cases a : w = -1
      · rw [if_pos a] at ho
        exact Or.inl ⟨-1, ho, Or.inl rfl⟩
      · rw [if_neg a, m_i0 ti hi, j_b, next] at ho
        by_cases b : oI (mv (s.1 463) 0 i) = 2
        · have b2 : mv (s.1 463) 0 i = 2 := by
            rw [j_eq, t_mv] at b
            exact b
          have i23 : i < 23 := by
            refine Classical.byContradiction (fun z => ?_)
            have : i = 23 := by omega
            rw [this, h.l] at b2
            omega
          have k2 : V 8 i = 2 := by
            have kr := t.ki i23
            refine Classical.byContradiction (fun z => ?_)
            have : V 8 i = 3 ∨ V 8 i ≤ 1 := by omega
            rcases this with u | u
            · rw [h.k3 i23 u] at b2; omega
            · rw [(h.k1 i23 u).1] at b2; omega
          have q01 := b01 i i23 k2
          have c4 : ∀ x : Nat, (4 : Int32) * nI x = nI (4 * x) := fun x => (Int32.ofNat_mul 4 x).symm
          rw [if_pos b, if_pos (j_ckn hi (by decide)), j_cl _ (by omega), m_windowOf h t ti i23 (by omega), j_b, c4, if_pos (j_ckn (by omega) (by decide)), j_s, if_pos (j_ckn (by omega) (by decide)), show (2 : Int32) = nI 2 from rfl, show (3 : Int32) = nI 3 from rfl, j_a, j_a, if_pos (j_ckn (by omega) (by decide)), if_pos (j_ckn (by omega) (by decide))] at ho
          obtain ⟨v, ev⟩ := m_insT (s := s) x y (s.1 (462 + 7) (nI (4 * i)).toNatClampNeg) (s.1 (462 + 7) (nI (4 * i + 1)).toNatClampNeg) (s.1 (462 + 7) (nI (4 * i + 2)).toNatClampNeg) (s.1 (462 + 7) (nI (4 * i + 3)).toNatClampNeg)
          rw [ev, j_b] at ho
          by_cases c : s.1 (462 + 5) i = 0
          · rw [if_pos c] at ho
            exact Or.inr ⟨_, rfl, ho⟩
          · rw [if_neg c] at ho
            have m1 : mq s 1 i = 1 := by
              rcases q01 with u | u
              · rw [mq1 (by omega)] at u
                exact absurd (j_eq.mpr (by rw [jz0]; exact u)) c
              · exact u
            by_cases e : oI (wn i) = w
            · rw [if_pos e] at ho
              cases v
              · rw [if_neg Bool.false_ne_true] at ho
                exact Or.inr ⟨_, rfl, ho⟩
              · rw [if_pos rfl] at ho
                exact Or.inl ⟨nI i, ho, Or.inr ⟨i, i23, rfl, k2, m1⟩⟩
            · rw [if_neg e] at ho
              exact Or.inr ⟨_, rfl, ho⟩
        · rw [if_neg b] at ho
          exact Or.inr ⟨_, rfl, ho⟩
    exact goal _ rfl
  · rintro f _ rfl
    show ∃ g, fX9_groupAt_10 s 462 (f + 1) x y w (nI 24) = _ ∧ _
    rw [fX9_groupAt_10, if_pos (n_le 24 (m := 24) rfl (by decide))]
    exact ⟨-1, rfl, Or.inl rfl⟩
/-- a call that ends on both sides -/
def PT (F : Option Int32) (G : Option (Int32 × Sg)) : Prop := ∃ v b σ2, F = some v ∧ G = some (b, σ2) ∧ RR σ2
def TS (G : Option (Int32 × Sg)) (s : Sg) : Prop := ∃ b, G = some (b, s)
theorem TS.so (b : Int32) : TS (some (b, s)) s := ⟨b, rfl⟩
theorem TS.i {c : Prop} [Decidable c] {x y : Option (Int32 × Sg)} (hx : c → TS x s) (hy : ¬ c → TS y s) : TS (if c then x else y) s := by
  by_cases h : c
  · rw [if_pos h]
    exact hx h
  · rw [if_neg h]
    exact hy h
theorem m_kindT (h : VM (mv (s.1 463)) V (fun _ => false)) (t : Tree V d wn (fun _ => false)) (b01 : ∀ n, n < 23 → V 8 n = 2 → mq s 1 n = 0 ∨ mq s 1 n = 1) (lo : LO (odp V) 5 (flw V)) (x y : Int32) : TS ((fX9_windowAt s 462 x y).bind fun r3 => if r3 = (-1) then (fX9_kindAt_32 462 s x y (-1)) else (fX9_window s 462 r3 5 1).bind fun r4 => (fX9_kindAt_32 462 s x y r4)) s := by
  obtain ⟨w, ew, hw⟩ := m_wAt h lo x y
  rw [ew, j_b]
  refine TS.i (fun _ => ?_) (fun hn => ?_)
  · unfold fX9_kindAt_32
    rw [if_pos rfl]
    exact TS.so _
  · have q : v_we V w.toInt = true := hw.resolve_left (fun z => hn (j_eq.mpr (by rw [z, jm1])))
    obtain ⟨k, hk, hk5, -⟩ := v_we_n q
    rw [m_w5 hk hk5, j_b, h.ro hk5]
    unfold fX9_kindAt_32
    rcases t.wi hk5 with z | ⟨n, hn23, e5, -⟩
    · rw [if_pos (by rw [z]; rfl)]
      exact TS.so _
    · have e : oI (V 5 k) = nI n := by rw [e5, j_nIo n (by omega)]
      refine TS.i (fun _ => TS.so _) (fun _ => ?_)
      rw [e, if_pos (j_ckn (by omega) (by decide))]
      refine TS.i (fun _ => TS.so _) (fun _ => ?_)
      obtain ⟨g, eg, hg⟩ := m_gAt h t b01 lo x y
      rw [eg, j_b]
      refine TS.i (fun _ => TS.so _) (fun hn2 => ?_)
      obtain ⟨n2, h23, e2, -, -⟩ := hg.resolve_left hn2
      rw [e2, show (4 : Int32) * nI n2 = nI (4 * n2) from (Int32.ofNat_mul 4 n2).symm, j_s, if_pos (j_ckn (by omega) (by decide))]
      exact TS.i (fun _ => TS.so _) (fun _ => TS.so _)
theorem m_dropT (h : VM (mv (s.1 463)) V (fun _ => false)) {n : Nat} (hn : n < 23) (x y a b : Int32) : TS (fX9_dropAt_56 462 FU s x y (nI n) a b 4 0 0) s := by
  have c4 : (4 : Int32) * nI n = nI (4 * n) := (Int32.ofNat_mul 4 n).symm
  have ti : (nI n).toInt = n := j_nI (by omega)
  have fin : ∀ l6, TS (fX9_dropAt_184 462 s (nI n) l6) s := fun l6 => by
    unfold fX9_dropAt_184
    rw [m_i5 ti (by omega), j_b]
    exact TS.so _
  refine lpx (F := fun f (z : Int32 × Int32 × Int32) => fX9_dropAt_56 462 f s x y (nI n) a b z.1 z.2.1 z.2.2) (Q := fun o => TS o s) (fun i z => z.2.2 = nI i) 4 ?_ ?_ 4 0 FU (4, 0, 0) rfl (by decide) rfl
  · rintro f i ⟨l6, l7, l8⟩ hi e
    simp only at e
    subst e
    have nle : ¬ (4 : Int32) ≤ nI i := n_ge 4 (m := 4) rfl hi (by decide)
    have nx : ∀ l6 l7 : Int32, fX9_dropAt_178 462 (fX9_dropAt_56 462 f) s x y (nI n) a b l6 l7 (nI i) = fX9_dropAt_56 462 f s x y (nI n) a b l6 l7 (nI (i + 1)) := fun l6 l7 => by
      unfold fX9_dropAt_178
      rw [j_s]
    have P157 : ∀ l9 l11 : Int32, ∃ l6' l7', fX9_dropAt_157 462 (fX9_dropAt_56 462 f) s x y (nI n) a b (nI i) l9 l11 = fX9_dropAt_56 462 f s x y (nI n) a b l6' l7' (nI (i + 1)) := fun l9 l11 => by
      unfold fX9_dropAt_157 fX9_dropAt_176
      by_cases u : l9 ≤ 4 * l11
      · rw [if_pos u, nx]
        exact ⟨_, _, rfl⟩
      · rw [if_neg u, nx]
        exact ⟨_, _, rfl⟩
    have P143 : ∀ l9 s0 : Int32, ∃ l6' l7', fX9_dropAt_143 462 (fX9_dropAt_56 462 f) s x y (nI n) a b l6 l7 (nI i) l9 s0 = fX9_dropAt_56 462 f s x y (nI n) a b l6' l7' (nI (i + 1)) := fun l9 s0 => by
      unfold fX9_dropAt_143
      by_cases u : nI i = 0
      · rw [if_pos u]
        exact P157 _ _
      · rw [if_neg u]
        by_cases v : l7 ≤ s0
        · rw [if_pos v, nx]
          exact ⟨_, _, rfl⟩
        · rw [if_neg v]
          exact P157 _ _
    have P122 : ∀ l9 s0 : Int32, ∃ l6' l7', fX9_dropAt_122 462 (fX9_dropAt_56 462 f) s x y (nI n) a b l6 l7 (nI i) l9 s0 = fX9_dropAt_56 462 f s x y (nI n) a b l6' l7' (nI (i + 1)) := fun l9 s0 => by
      unfold fX9_dropAt_122
      by_cases u : (nI i - nI i / 2 * 2) = 0
      · rw [if_pos u]
        exact P143 _ _
      · rw [if_neg u]
        exact P143 _ _
    have P89 : ∀ s0 : Int32, ∃ l6' l7', fX9_dropAt_89 462 (fX9_dropAt_56 462 f) s x y (nI n) a b l6 l7 (nI i) s0 = fX9_dropAt_56 462 f s x y (nI n) a b l6' l7' (nI (i + 1)) := fun s0 => by
      unfold fX9_dropAt_89
      rw [c4, j_s, if_pos (j_ckn (by omega) (by decide)), if_pos (j_ckn (by omega) (by decide))]
      by_cases u : 2 ≤ nI i
      · rw [if_pos u]
        exact P122 _ _
      · rw [if_neg u]
        exact P122 _ _
    have goal : ∀ o, o = fX9_dropAt_56 462 (f + 1) s x y (nI n) a b l6 l7 (nI i) → TS o s ∨ ∃ z' : Int32 × Int32 × Int32, z'.2.2 = nI (i + 1) ∧ o = fX9_dropAt_56 462 f s x y (nI n) a b z'.1 z'.2.1 z'.2.2 := fun o ho => by
      rw [fX9_dropAt_56, if_neg nle, c4, j_s, if_pos (j_ckn (by omega) (by decide))] at ho
      by_cases u : y = s.1 (462 + 7) (nI (4 * n + 1)).toNatClampNeg
      · rw [if_pos u] at ho
        exact Or.inl (by rw [ho]; exact fin _)
      · rw [if_neg u] at ho
        by_cases v : 2 ≤ nI i
        · rw [if_pos v] at ho
          obtain ⟨p, q, e⟩ := P89 b
          exact Or.inr ⟨(p, q, nI (i + 1)), rfl, by rw [ho]; exact e⟩
        · rw [if_neg v] at ho
          obtain ⟨p, q, e⟩ := P89 a
          exact Or.inr ⟨(p, q, nI (i + 1)), rfl, by rw [ho]; exact e⟩
    exact goal _ rfl
  · rintro f ⟨l6, l7, l8⟩ e
    simp only at e
    subst e
    show TS (fX9_dropAt_56 462 (f + 1) s x y (nI n) a b l6 l7 (nI 4)) s
    rw [fX9_dropAt_56, if_pos (n_le 4 (m := 4) rfl (by decide))]
    exact fin _
end RAR
end
section
/-! THE RELATION: hits (3) -/
section RAS
variable {s : Sg} {V : VW} {d : Nat → Nat} {wn : Nat → Int}
theorem many_le {V : VW} (tb : Tabs V (fun _ => false)) {g : Nat} (hg : g < 23) (kg : V 8 g = 2) : cnt (fun p => decide (V 13 p = g) && decide (V 15 p = 0)) 12 ≤ cnt (v_ok V g) (v_tc V g) := by
  have nu := tb.nu hg kg
  have e1 := cnt_ends (fun p => if V 13 p = g ∧ V 15 p = 0 then V 14 p else -1) (v_tc V g) 12
  have e2 : cnt (fun i => decide (0 ≤ (if V 13 i = g ∧ V 15 i = 0 then V 14 i else -1) ∧ (if V 13 i = g ∧ V 15 i = 0 then V 14 i else -1) < v_tc V g)) 12 = cnt (fun p => decide (V 13 p = g) && decide (V 15 p = 0)) 12 := cnt_congr (fun i hi => by
    by_cases z : V 13 i = g ∧ V 15 i = 0
    · have := nu.1 i hi (by simp [z.1])
      have tc : v_tc V g = cnt (fun p => decide (V 13 p = g)) 12 := rfl
      rw [if_pos z, decide_eq_true z.1, decide_eq_true z.2, decide_eq_true (by omega)]
      rfl
    · rw [if_neg z, decide_eq_false (by omega)]
      by_cases a : V 13 i = g
      · rw [decide_eq_true a, decide_eq_false (fun u => z ⟨a, u⟩)]
        rfl
      · rw [decide_eq_false a]
        rfl)
  rw [e2] at e1
  have e3 : sm (fun s => (cnt (fun i => decide ((if V 13 i = g ∧ V 15 i = 0 then V 14 i else -1) = (s : Int))) 12 : Int)) (v_tc V g) ≤ sm (fun s => if v_ok V g s then 1 else 0) (v_tc V g) := sm_le (fun k hk => by
    have one : cnt (fun i => decide ((if V 13 i = g ∧ V 15 i = 0 then V 14 i else -1) = (k : Int))) 12 ≤ 1 := cnt_le1 (fun i j hi hj ci cj => by
      have ci := of_decide_eq_true ci
      have cj := of_decide_eq_true cj
      have zi : V 13 i = g ∧ V 15 i = 0 := by
        refine Classical.byContradiction (fun z => ?_)
        rw [if_neg z] at ci
        omega
      have zj : V 13 j = g ∧ V 15 j = 0 := by
        refine Classical.byContradiction (fun z => ?_)
        rw [if_neg z] at cj
        omega
      rw [if_pos zi] at ci
      rw [if_pos zj] at cj
      exact nu.2.2 i j hi hj (by simp [zi.1]) (by simp [zj.1]) (by omega))
    by_cases z : 1 ≤ cnt (fun i => decide ((if V 13 i = g ∧ V 15 i = 0 then V 14 i else -1) = (k : Int))) 12
    · obtain ⟨i, hi, ci⟩ := cnt_ex z
      have ci := of_decide_eq_true ci
      have zi : V 13 i = g ∧ V 15 i = 0 := by
        refine Classical.byContradiction (fun z => ?_)
        rw [if_neg z] at ci
        omega
      rw [if_pos zi] at ci
      have ok := v_ok_at nu hi zi.1 (by omega)
      rw [ci, Int.toNat_natCast] at ok
      rw [ok, if_pos rfl]
      omega
    · split <;> omega)
  have e4 := sm_cnt (v_ok V g) (v_tc V g)
  omega
theorem cnt_step (c : Nat → Bool) (n : Nat) : cnt c (n + 1) = cnt c n + (if c n then 1 else 0) := rfl
theorem cnt_mo {c : Nat → Bool} {a b : Nat} (h : a ≤ b) : cnt c a ≤ cnt c b := by
  induction b with
  | zero => rw [show a = 0 by omega]; exact Nat.le_refl _
  | succ b ih =>
    by_cases z : a = b + 1
    · rw [z]; exact Nat.le_refl _
    · have := ih (by omega)
      rw [cnt_step]
      omega
theorem m_159 (h : VM (mv (s.1 463)) V (fun _ => false)) (tb : Tabs V (fun _ => false)) {g : Nat} (hg : g < 23) (kg : V 8 g = 2) : ∀ (m fuel k : Nat) (l6 : Int32), k + m = v_tc V g → m < fuel → l6.toInt + 1 + cnt (v_ok V g) k ≤ cnt (v_ok V g) (v_tc V g) → 1 + cnt (v_ok V g) k ≤ cnt (v_ok V g) (v_tc V g) → TS (fX9_paneAt_159 462 fuel s (nI g) l6 (nI k)) s := by
  intro m
  induction m with
  | zero =>
    intro fuel k l6 hk _ _ h2
    rw [show k = v_tc V g by omega] at h2
    omega
  | succ m ih =>
    intro fuel k l6 hk hf h1 h2
    match fuel with
    | f + 1 =>
      have tc12 := v_tc_rg V g
      have nu := tb.nu hg kg
      obtain ⟨q, hq, eq, e13, e14⟩ := v_ta_ex nu (show k < v_tc V g by omega)
      have tg : (nI g).toInt = g := j_nI (by omega)
      have tk : (nI k).toInt = k := j_nI (by omega)
      have tq : (oI (q : Int)).toInt = q := j_oI (by omega) (by omega)
      have ta : fX9_tabAt s 462 (nI g) (nI k) = some (oI (q : Int)) := by
        rw [m_tabAt, tg, tk, h.ta (by omega), eq]
      have o5 : fX9_of s 462 (oI (q : Int)) 5 = some (oI (V 15 q)) := by rw [m_o5 tq hq, h.hi hq]
      have okq : v_ok V g k = decide (V 15 q ≠ 1) := by
        unfold v_ok
        rw [eq, v_hd_in hq, decide_eq_true (by omega), Bool.true_and]
        by_cases z : V 15 q = 1
        · rw [decide_eq_true z, decide_eq_false (fun w => w z)]
          rfl
        · rw [decide_eq_false z, decide_eq_true z]
          rfl
      have ck := cnt_step (v_ok V g) k
      -- one tab on
      have next : (0 < l6.toInt ∨ V 15 q = 1) → TS (fX9_paneAt_180 462 (fX9_paneAt_159 462 f) s (nI g) l6 (nI k)) s := fun hn => by
        unfold fX9_paneAt_180 fX9_paneAt_203
        rw [ta, j_b, o5, j_b, j_s]
        rcases tb.hi hq with z | z
        · have l0 : 0 < l6.toInt := by omega
          rw [okq, decide_eq_true (by omega), if_pos rfl] at ck
          rw [z, if_neg (by decide), j_nm]
          have es : (l6 - 1).toInt = l6.toInt - 1 := by
            have := j_hi l6
            rw [j_sub (by rw [jz1]; omega) (by rw [jz1]; omega), jz1]
          exact ih f (k + 1) (l6 - 1) (by omega) (by omega) (by rw [es]; omega) (by omega)
        · rw [okq, z, decide_eq_false (fun w => w rfl), if_neg Bool.false_ne_true] at ck
          rw [z, if_pos (show oI (1 : Int) = (1 : Int32) from rfl), j_nm]
          have es : l6 - 0 = l6 := by
            refine j_eq.mpr ?_
            have := j_hi l6
            have := j_lo l6
            rw [j_sub (by rw [jz0]; omega) (by rw [jz0]; omega), jz0]
            omega
          rw [es]
          exact ih f (k + 1) l6 (by omega) (by omega) (by omega) (by omega)
      rw [fX9_paneAt_159]
      refine TS.i (fun hp => ?_) (fun hp => ?_)
      · rw [j_lt, jz0] at hp
        exact next (Or.inl hp)
      · rw [ta, j_b, o5, j_b]
        refine TS.i (fun e => ?_) (fun e => ?_)
        · refine next (Or.inr ?_)
          rcases tb.hi hq with z | z
          · rw [z] at e
            exact absurd e (by decide)
          · exact z
        · rw [j_b]
          exact TS.so _
theorem m_pane50 (h : VM (mv (s.1 463)) V (fun _ => false)) (tb : Tabs V (fun _ => false)) {g : Nat} (hg : g < 23) (kg : V 8 g = 2) (hv : ∃ p, p < 12 ∧ vis V g p = true) (x : Int32) : TS (fX9_paneAt_50 462 FU s x (nI g) 0 0) s := by
  have tg : (nI g).toInt = g := j_nI (by omega)
  have c4 : (4 : Int32) * nI g = nI (4 * g) := (Int32.ofNat_mul 4 g).symm
  refine lp (F := fun f (z : Int32 × Int32) => fX9_paneAt_50 462 f s x (nI g) z.1 z.2) (Q := fun o => TS o s) (fun i z => z = (nI (cnt (fun p => decide (V 13 p = g) && decide (V 15 p = 0)) i), nI i)) 12 ?_ ?_ 12 0 FU (0, 0) rfl (by decide) rfl
  · rintro f i _ hi rfl
    have ti : (nI i).toInt = i := j_nI (by omega)
    have nle : ¬ (12 : Int32) ≤ nI i := n_ge 12 (m := 12) rfl hi (by decide)
    refine ⟨_, rfl, ?_⟩
    show fX9_paneAt_50 462 (f + 1) s x (nI g) (nI (cnt (fun p => decide (V 13 p = g) && decide (V 15 p = 0)) i)) (nI i) = fX9_paneAt_50 462 f s x (nI g) (nI (cnt (fun p => decide (V 13 p = g) && decide (V 15 p = 0)) (i + 1))) (nI (i + 1))
    rw [fX9_paneAt_50, if_neg nle, m_o3 ti hi, j_b, h.gr hi, m_o5 ti hi, j_b, h.hi hi, cnt_step]
    unfold fX9_paneAt_84 fX9_paneAt_85
    rw [j_nm, j_nm, j_s, j_s]
    have z0 : ∀ a : Int32, a + 0 = a := fun a => by simp
    have r13 : -2147483648 ≤ V 13 i ∧ V 13 i < 2147483648 := by rw [← h.gr hi]; exact mv_rg _ _ _
    by_cases a : V 13 i = g
    · rw [if_pos (by rw [a, j_nIo g (by omega)]), decide_eq_true a, Bool.true_and]
      rcases tb.hi hi with z | z
      · rw [z, if_pos (show oI (0 : Int) = (0 : Int32) from rfl), decide_eq_true rfl, if_pos rfl]
      · rw [z, if_neg (show ¬ oI (1 : Int) = (0 : Int32) by decide), decide_eq_false (show ¬ (1 : Int) = 0 by omega), if_neg Bool.false_ne_true, z0]
        rfl
    · rw [if_neg (fun e => a (by rw [j_eq, j_oI r13.1 r13.2, tg] at e; exact e)), decide_eq_false a, Bool.false_and, if_neg Bool.false_ne_true, z0]
      rfl
  · rintro f _ rfl
    show TS (fX9_paneAt_50 462 (f + 1) s x (nI g) (nI (cnt (fun p => decide (V 13 p = g) && decide (V 15 p = 0)) 12)) (nI 12)) s
    have ml := many_le tb hg kg
    have m12 := cnt_le (fun p => decide (V 13 p = g) && decide (V 15 p = 0)) 12
    obtain ⟨p, hp, vp⟩ := hv
    have m1 : 1 ≤ cnt (fun p => decide (V 13 p = g) && decide (V 15 p = 0)) 12 := cnt_pos hp vp
    generalize cnt (fun p => decide (V 13 p = g) && decide (V 15 p = 0)) 12 = M at *
    have tM : (nI M).toInt = M := j_nI (by omega)
    have nM : ¬ nI M = 0 := fun z => by rw [j_eq, tM, jz0] at z; omega
    have eM1 : (nI M - 1).toInt = (M : Int) - 1 := by
      rw [j_sub (by rw [tM, jz1]; omega) (by rw [tM, jz1]; omega), tM, jz1]
    have cnt0 : cnt (v_ok V g) 0 = 0 := rfl
    have tc12 := v_tc_rg V g
    have fin : ∀ l6 : Int32, l6.toInt ≤ (M : Int) - 1 → TS (fX9_paneAt_154 462 s (nI g) l6) s := fun l6 hl => by
      unfold fX9_paneAt_154
      exact m_159 h tb hg kg (v_tc V g) FU 0 l6 (by omega) (by show _ < 6000; omega) (by rw [cnt0]; omega) (by rw [cnt0]; omega)
    rw [fX9_paneAt_50, if_pos (n_le 12 (m := 12) rfl (by decide)), c4, show (2 : Int32) = nI 2 from rfl, j_a, if_pos (j_ckn (by omega) (by decide)), if_neg nM, j_nm]
    unfold fX9_paneAt_134
    refine TS.i (fun _ => fin _ (by rw [eM1]; exact Int.le_refl _)) (fun n0 => ?_)
    rw [if_pos (j_ckn (by omega) (by decide)), if_neg n0]
    refine TS.i (fun le => ?_) (fun _ => fin _ (by rw [eM1]; exact Int.le_refl _))
    rw [j_le, eM1] at le
    rw [if_pos (j_ckn (by omega) (by decide)), if_neg n0]
    exact fin _ le
theorem hit_pre {σ : Sg} {S : ST} {l : List ST} (c : CR σ S l) (m : MR σ S l) (tx : TX σ) : ∃ s4, fX9_lays (su σ 462 3 0) 462 = some s4 ∧ RR s4 ∧ MR s4 S l ∧ Lay (S_pl S) (S_mw S) (S_mh S) (mq s4) := by
  obtain ⟨s4, b4, g4, m4, -, L4⟩ := m_ly (m.s3 (k := 0)) c.2.2.1
  exact ⟨s4, b4, RR.mk9 c tx (Or.inr ⟨0, G9.s3.tr g4⟩) m4, m4, L4⟩
theorem c_kindAt {σ : Sg} (h : RR σ) (x y : Int32) : PT (fX8_kindAt σ x y) (fX9_kindAt σ 462 x y) := by
  obtain ⟨S, l, c, m, tx⟩ := h
  have hS := c.2.2.1
  obtain ⟨-, -, -, -, ⟨d, wn, t, tb, lo, ge⟩, -, -⟩ := id hS
  have ok : OkO (odv σ (1 + 5 + 6)) := by
    rw [← odp_odv, S_pv c.1]
    exact lo.ok (by decide)
  obtain ⟨v, ev⟩ := t_kindAt ok x y
  obtain ⟨s4, b4, R4, m4, L4⟩ := hit_pre c m tx
  obtain ⟨b, eb⟩ := m_kindT (s := s4) m4.2.2.1 t (fun n hn k => (L4.1 n hn k).1) lo x y
  refine ⟨v, b, s4, ev, ?_, R4⟩
  unfold fX9_kindAt
  rw [j_nm, b4, j_b]
  exact eb
theorem c_paneAt {σ : Sg} (h : RR σ) (x y : Int32) : PT (fX8_paneAt σ x y) (fX9_paneAt σ 462 x y) := by
  obtain ⟨S, l, c, m, tx⟩ := h
  have hS := c.2.2.1
  obtain ⟨-, -, -, -, ⟨d, wn, t, tb, lo, ge⟩, -, -⟩ := id hS
  have ok : OkO (odv σ (1 + 5 + 6)) := by
    rw [← odp_odv, S_pv c.1]
    exact lo.ok (by decide)
  obtain ⟨v, ev⟩ := t_paneAt ok x y
  obtain ⟨s4, b4, R4, m4, L4⟩ := hit_pre c m tx
  have vm := m4.2.2.1
  have fin : TS (fX9_paneAt σ 462 x y) s4 := by
    unfold fX9_paneAt
    rw [j_nm, b4, j_b]
    obtain ⟨g, eg, hg⟩ := m_gAt vm t (fun n hn k => (L4.1 n hn k).1) lo x y
    rw [eg, j_b]
    refine TS.i (fun _ => TS.so _) (fun hn => ?_)
    obtain ⟨n, h23, e2, k2, p1⟩ := hg.resolve_left hn
    rw [e2, show (4 : Int32) * nI n = nI (4 * n) from (Int32.ofNat_mul 4 n).symm, j_s, if_pos (j_ckn (by omega) (by decide))]
    refine TS.i (fun _ => m_pane50 vm tb h23 k2 ((L4.1 n h23 k2).2.1.mp p1) x) (fun _ => ?_)
    rw [m_i5 (j_nI (by omega)) (by omega), j_b]
    exact TS.so _
  obtain ⟨b, eb⟩ := fin
  exact ⟨v, b, s4, ev, eb, R4⟩
theorem c_dropAt {σ : Sg} (h : RR σ) (x y : Int32) : PT (fX8_dropAt σ x y) (fX9_dropAt σ 462 x y) := by
  obtain ⟨S, l, c, m, tx⟩ := h
  have hS := c.2.2.1
  obtain ⟨-, -, -, -, ⟨d, wn, t, tb, lo, ge⟩, -, -⟩ := id hS
  have ok : OkO (odv σ (1 + 5 + 6)) := by
    rw [← odp_odv, S_pv c.1]
    exact lo.ok (by decide)
  obtain ⟨v, ev⟩ := t_dropAt ok x y
  obtain ⟨s4, b4, R4, m4, L4⟩ := hit_pre c m tx
  have vm := m4.2.2.1
  have fin : TS (fX9_dropAt σ 462 x y) s4 := by
    unfold fX9_dropAt
    rw [j_nm, b4, j_b]
    obtain ⟨g, eg, hg⟩ := m_gAt vm t (fun n hn k => (L4.1 n hn k).1) lo x y
    rw [eg, j_b]
    refine TS.i (fun _ => TS.so _) (fun hn => ?_)
    obtain ⟨n, h23, e2, k2, p1⟩ := hg.resolve_left hn
    rw [e2, show (4 : Int32) * nI n = nI (4 * n) from (Int32.ofNat_mul 4 n).symm, show (2 : Int32) = nI 2 from rfl, show (3 : Int32) = nI 3 from rfl, j_a, j_a, if_pos (j_ckn (by omega) (by decide)), j_nm, if_pos (j_ckn (by omega) (by decide)), j_nm]
    exact m_dropT vm h23 x y _ _
  obtain ⟨b, eb⟩ := fin
  exact ⟨v, b, s4, ev, eb, R4⟩
end RAS
end
section
/-! THE RELATION: texts (1): characters, signs, weights -/
section RAT
def cdc (n : Nat) (c : Nat → Int32) (p : Nat) : Int32 := if p < n then c p else -1
def cdm (n : Nat) (c : Nat → Int32) (p : Nat) : Int32 := if p < n then c p else 0
def Tt (n : Nat) (c : Nat → Int32) : Prop := n ≤ 120 ∧ ∀ i, i < n → 32 ≤ (c i).toInt ∧ (c i).toInt ≤ 126
def CS (n : Nat) (c : Nat → Int32) (σ : Sg) (p m : Nat) : Prop := σ.1 441 1 = nI n ∧ (∀ i, i < n → σ.1 442 i = c i) ∧ σ.1 440 2 = nI p ∧ σ.1 440 3 = nI m
def MT (n : Nat) (c : Nat → Int32) (s : Sg) (p : Nat) : Prop := s.1 462 5 = nI n ∧ (∀ i, i < n → s.1 465 i = c i) ∧ s.1 462 15 = nI p
def Fc (σ σ' : Sg) : Prop := σ'.2 = σ.2 ∧ ∀ x, x ≠ 440 → (x < 444 ∨ 458 < x) → σ'.1 x = σ.1 x
def Fz (s s1 : Sg) : Prop := s1.2 = s.2 ∧ (∀ x, x ≠ 462 → s1.1 x = s.1 x) ∧ ∀ j, j ≠ 15 → j ≠ 16 → j ≠ 22 → s1.1 462 j = s.1 462 j
def WE (n : Nat) (c : Nat → Int32) (s s1 : Sg) (v : Int32) (p : Nat) : Prop := Fz s s1 ∧ (cdm n c p = 58 → MT n c s1 (p + 1) ∧ s1.1 462 16 = -1 ∧ s1.1 462 22 = v) ∧ (cdm n c p ≠ 58 → s1.1 462 16 = nI p)
variable {n : Nat} {c : Nat → Int32} {σ s : Sg} {p m : Nat}
theorem cd_c {k : Int32} (hk : 1 ≤ k.toInt) : cdc n c p = k ↔ cdm n c p = k := by
  unfold cdc cdm
  by_cases z : p < n
  · rw [if_pos z, if_pos z]
  · rw [if_neg z, if_neg z]
    refine ⟨fun e => ?_, fun e => ?_⟩
    · rw [← e] at hk; exact absurd hk (by decide)
    · rw [← e] at hk; exact absurd hk (by decide)
theorem cd_in (z : p < n) : cdc n c p = c p ∧ cdm n c p = c p := ⟨if_pos z, if_pos z⟩
theorem cd_no (z : ¬ p < n) : cdc n c p = -1 ∧ cdm n c p = 0 := ⟨if_neg z, if_neg z⟩
theorem cd_lt {k : Int32} (hk : 1 ≤ k.toInt) (h : cdm n c p = k) : p < n := by
  refine Classical.byContradiction (fun z => ?_)
  rw [(cd_no z).2] at h
  rw [← h] at hk
  exact absurd hk (by decide)
theorem Fz.rf : Fz s s := ⟨rfl, fun _ _ => rfl, fun _ _ _ _ => rfl⟩
theorem Fz.tr {s1 s2 : Sg} (h : Fz s s1) (h2 : Fz s1 s2) : Fz s s2 := ⟨h2.1.trans h.1, fun x a => (h2.2.1 x a).trans (h.2.1 x a), fun j a b d => (h2.2.2 j a b d).trans (h.2.2 j a b d)⟩
theorem Fz.st {j : Nat} {v : Int32} (h : j = 15 ∨ j = 16 ∨ j = 22) : Fz s (su s 462 j v) := ⟨rfl, fun x a => su_ne a, fun k a b d => by rw [su_at, if_neg (by omega)]⟩
theorem MT.fw {s1 : Sg} {q : Nat} (h : MT n c s p) (f : Fz s s1) (e : s1.1 462 15 = nI q) : MT n c s1 q :=
  ⟨by rw [f.2.2 5 (by omega) (by omega) (by omega)]; exact h.1, fun i hi => by rw [f.2.1 465 (by omega)]; exact h.2.1 i hi, e⟩
theorem CS.at (h : CS n c σ p m) (q : Nat) : CS n c (su σ 440 2 (nI q)) q m := ⟨by rw [su_ne (by omega)]; exact h.1, fun i hi => by rw [su_ne (by omega)]; exact h.2.1 i hi, by rw [su_at, if_pos ⟨rfl, rfl⟩], by rw [su_at, if_neg (by omega)]; exact h.2.2.2⟩
theorem CS.ms (h : CS n c σ p m) (q : Nat) : CS n c (su σ 440 3 (nI q)) p q := ⟨by rw [su_ne (by omega)]; exact h.1, fun i hi => by rw [su_ne (by omega)]; exact h.2.1 i hi, by rw [su_at, if_neg (by omega)]; exact h.2.2.1, by rw [su_at, if_pos ⟨rfl, rfl⟩]⟩
theorem CS.ou {σ' : Sg} (h : CS n c σ p m) (o : Out σ σ' 444 458) : CS n c σ' p m := ⟨by rw [o.2 441 (by omega)]; exact h.1, fun i hi => by rw [o.2 442 (by omega)]; exact h.2.1 i hi, by rw [o.2 440 (by omega)]; exact h.2.2.1, by rw [o.2 440 (by omega)]; exact h.2.2.2⟩
theorem Fc.rf : Fc σ σ := ⟨rfl, fun _ _ _ => rfl⟩
theorem Fc.tr {σ1 σ2 : Sg} (h : Fc σ σ1) (h2 : Fc σ1 σ2) : Fc σ σ2 := ⟨h2.1.trans h.1, fun x a b => (h2.2 x a b).trans (h.2 x a b)⟩
theorem Fc.st {j : Nat} {v : Int32} : Fc σ (su σ 440 j v) := ⟨rfl, fun x a _ => su_ne a⟩
theorem Fc.ou {σ' : Sg} (o : Out σ σ' 444 458) : Fc σ σ' := ⟨o.1, fun x _ b => o.2 x b⟩
theorem p43 {j : Nat} {v : Int32} : pv (su σ 440 j v) 443 = pv σ 443 := pv_c (fun j h1 h2 => su_ne (by omega))
theorem t_code (h : CS n c σ p m) (hn : n ≤ 120) (hp : p ≤ n) : fX5_code σ (440 + 1) (σ.1 440 2) = some (cdc n c p) := by
  unfold fX5_code cdc
  rw [h.2.2.1, show (440 + 1 : Nat) = 441 from rfl, h.1]
  by_cases z : p < n
  · rw [if_neg (by rw [j_le_nI (by omega), j_nI (by omega)]; omega), if_pos z, show (441 + 1 : Nat) = 442 from rfl, s_atn (by decide) (by omega), j_b, h.2.1 p z]
  · rw [if_pos (by rw [j_le_nI (by omega), j_nI (by omega)]; omega), if_neg z]
theorem t_sign (h : CS n c σ p m) (hn : n ≤ 120) (hp : p ≤ n) (k : Int32) : (cdc n c p = k → fX6_passSign σ 440 k = some (true, su σ 440 2 (nI (p + 1)))) ∧ (cdc n c p ≠ k → fX6_passSign σ 440 k = some (false, σ)) := by
  unfold fX6_passSign
  rw [t_code h hn hp, j_b]
  refine ⟨fun e => ?_, fun e => ?_⟩
  · rw [if_pos e, h.2.2.1, j_s, j_nm]
  · rw [if_neg e]
theorem m_next (h : MT n c s p) (hn : n ≤ 120) (hp : p ≤ n) : fX9_next s 462 = some (cdm n c p) := by
  unfold fX9_next cdm
  rw [h.1, h.2.2]
  by_cases z : p < n
  · rw [if_neg (by rw [j_le_nI (by omega), j_nI (by omega)]; omega), if_pos (j_ckn (by omega) (by decide)), if_pos z, show (462 + 3 : Nat) = 465 from rfl, j_cl _ (by omega), h.2.1 p z]
  · rw [if_pos (by rw [j_le_nI (by omega), j_nI (by omega)]; omega), if_neg z]
theorem m_take (h : MT n c s p) (hn : n ≤ 120) (hp : p ≤ n) (k : Int32) : (s.1 462 16 = -1 → cdm n c p = k → fX9_takes_ s 462 k 1 = some (true, su s 462 15 (nI (p + 1)))) ∧ (s.1 462 16 = -1 → cdm n c p ≠ k → fX9_takes_ s 462 k 1 = some (false, su s 462 16 (nI p))) ∧ (s.1 462 16 ≠ -1 → fX9_takes_ s 462 k 1 = some (false, su s 462 16 (s.1 462 16))) := by
  unfold fX9_takes_ fX9_takes__32 fX9_takes__52
  refine ⟨fun w e => ?_, fun w e => ?_, fun w => ?_⟩
  · rw [if_pos w, if_neg (show ¬ ((1 : Int32) = 0) by decide), m_next h hn hp, j_b, if_pos e, h.2.2, j_s, j_nm]
  · rw [if_pos w, if_neg (show ¬ ((1 : Int32) = 0) by decide), m_next h hn hp, j_b, if_neg e, if_pos w, h.2.2, j_nm]
  · rw [if_neg w, if_neg w, j_nm]
theorem nI_m1 {k : Nat} (h : k < 2147483648) : nI k ≠ -1 := fun e => by
  rw [j_eq, j_nI h, jm1] at e
  omega
theorem m_w120 (h : MT n c s p) (hn : n ≤ 120) (hp : p ≤ n) (w : s.1 462 16 = -1) : ∃ s1, fX9_readsWeight_120 462 s = some s1 ∧ WE n c s s1 (s.1 462 22) p := by
  unfold fX9_readsWeight_120
  by_cases e : cdm n c p = 58
  · refine ⟨su s 462 15 (nI (p + 1)), by rw [(m_take h hn hp 58).1 w e, j_b], Fz.st (by omega), fun _ => ⟨h.fw (Fz.st (by omega)) (by rw [su_at, if_pos ⟨rfl, rfl⟩]), by rw [su_at, if_neg (by omega)]; exact w, by rw [su_at, if_neg (by omega)]⟩, fun z => absurd e z⟩
  · exact ⟨su s 462 16 (nI p), by rw [(m_take h hn hp 58).2.1 w e, j_b], Fz.st (by omega), fun z => absurd z e, fun _ => by rw [su_at, if_pos ⟨rfl, rfl⟩]⟩
theorem m_w120b (h : MT n c s p) (hn : n ≤ 120) (hp : p ≤ n) {k : Nat} (hk : k < 1000) (w : s.1 462 16 = nI k) : ∃ s1, fX9_readsWeight_120 462 s = some s1 ∧ Fz s s1 ∧ s1.1 462 16 = nI k := by
  unfold fX9_readsWeight_120
  exact ⟨su s 462 16 (nI k), by rw [(m_take h hn hp 58).2.2 (by rw [w]; exact nI_m1 (by omega)), j_b, w], Fz.st (by omega), by rw [su_at, if_pos ⟨rfl, rfl⟩]⟩
def dig (x : Int32) : Bool := decide (48 ≤ x.toInt ∧ x.toInt ≤ 57)
theorem i48 : (48 : Int32).toInt = 48 := rfl
theorem i57 : (57 : Int32).toInt = 57 := rfl
theorem i49 : (49 : Int32).toInt = 49 := rfl
theorem i10 : (10 : Int32).toInt = 10 := rfl
theorem iml : (1000000 : Int32).toInt = 1000000 := rfl
theorem d_next {v x : Int32} (h : 0 ≤ v.toInt ∧ v.toInt ≤ 1000000) (hx : 48 ≤ x.toInt ∧ x.toInt ≤ 57) : (10 * v + x - 48).toInt = 10 * v.toInt + x.toInt - 48 := by
  have e1 : (10 * v).toInt = 10 * v.toInt := by rw [j_mul (by rw [i10]; omega) (by rw [i10]; omega), i10]
  have e2 : (10 * v + x).toInt = 10 * v.toInt + x.toInt := by rw [j_add (by rw [e1]; omega) (by rw [e1]; omega), e1]
  rw [j_sub (by rw [e2, i48]; omega) (by rw [e2, i48]; omega), e2, i48]
/-- one more digit on the reference's side -/
theorem m_dig (h : MT n c s p) (hn : n ≤ 120) (hp : p < n) (w : s.1 462 16 = -1) (hd : 48 ≤ (c p).toInt ∧ (c p).toInt ≤ 57) {v : Int32} (hv : s.1 462 22 = v) (le : 10 * v + c p - 48 ≤ 1000000) (f : Nat) : ∃ s1, Fz s s1 ∧ MT n c s1 (p + 1) ∧ s1.1 462 16 = -1 ∧ s1.1 462 22 = 10 * v + c p - 48 ∧ fX9_readsWeight_44 462 (f + 1) s 1 = fX9_readsWeight_44 462 f s1 (b2i (dig (cdm n c (p + 1)))) := by
  refine ⟨su (su s 462 22 (10 * v + c p - 48)) 462 15 (nI (p + 1)), (Fz.st (by omega)).tr (Fz.st (by omega)), h.fw ((Fz.st (by omega)).tr (Fz.st (by omega))) (by rw [su_at, if_pos ⟨rfl, rfl⟩]), by rw [su_at, if_neg (by omega), su_at, if_neg (by omega)]; exact w, by rw [su_at, if_neg (by omega), su_at, if_pos ⟨rfl, rfl⟩], ?_⟩
  have mt : MT n c (su (su s 462 22 (10 * v + c p - 48)) 462 15 (nI (p + 1))) (p + 1) := h.fw ((Fz.st (by omega)).tr (Fz.st (by omega))) (by rw [su_at, if_pos ⟨rfl, rfl⟩])
  have e22 : (su s 462 22 (10 * v + c p - 48)).1 462 22 = 10 * v + c p - 48 := by rw [su_at, if_pos ⟨rfl, rfl⟩]
  have e15 : (su s 462 22 (10 * v + c p - 48)).1 462 15 = nI p := by rw [su_at, if_neg (by omega)]; exact h.2.2
  rw [fX9_readsWeight_44, if_neg (show ¬ ((1 : Int32) = 0) by decide), if_pos w, m_next h hn (by omega), j_b, hv, (cd_in hp).2, j_nm, e22, if_pos le, e15, j_s, j_nm, m_next mt hn (by omega), j_b, m_within, j_b, i48, i57]
  rfl
theorem sim_w4 (T : Tt n c) : ∀ (k fuel : Nat) (σ : Sg) (v : Int32) (p j : Nat), CS n c σ p m → p + k = n → k < fuel → 1 ≤ v.toInt → v.toInt ≤ 1000000 → j + 1 ≤ p → ∃ v1 σ1 p1, fX6_passWeight_4 440 fuel σ v (nI j) = some (v1, σ1) ∧ CS n c σ1 p1 m ∧ Fc σ σ1 ∧ pv σ1 443 = pv σ 443 ∧ (1 ≤ v1.toInt ∧ v1.toInt ≤ 1000000) ∧ p ≤ p1 ∧ p1 ≤ n ∧ ∀ s f, MT n c s p → s.1 462 16 = -1 → s.1 462 22 = v → k + 1 < f → ∃ s1, fX9_readsWeight_44 462 f s (b2i (dig (cdm n c p))) = some s1 ∧ WE n c s s1 v1 p1 := by
  intro k
  induction k with
  | zero =>
    intro fuel σ v p j h e hf v0 v1 hj
    match fuel, hf with
    | f + 1, _ =>
      have np : ¬ p < n := by omega
      refine ⟨v, σ, p, ?_, h, Fc.rf, rfl, ⟨v0, v1⟩, Nat.le_refl _, by omega, fun s f mt w hv ff => ?_⟩
      · rw [fX6_passWeight_4]
        by_cases z : (120 : Int32) ≤ nI j
        · rw [if_pos z]
        · rw [if_neg z, t_code h T.1 (by omega), j_b, (cd_no np).1, j_nm, if_pos (by decide)]
      · match f, ff with
        | f + 1, _ =>
          rw [(cd_no np).2, show b2i (dig 0) = 0 by decide, fX9_readsWeight_44, if_pos rfl]
          have := m_w120 mt T.1 (by omega) w
          rwa [hv] at this
  | succ k ih =>
    intro fuel σ v p j h e hf v0 v1 hj
    match fuel, hf with
    | f + 1, hf =>
      have hp : p < n := by omega
      have n120 := T.1
      have j120 : ¬ (120 : Int32) ≤ nI j := by
        rw [j_le_nI (by omega)]
        have : (120 : Int32).toInt = 120 := rfl
        omega
      have st : (¬ (48 ≤ (c p).toInt ∧ (c p).toInt ≤ 57)) → ∃ v1 σ1 p1, fX6_passWeight_4 440 (f + 1) σ v (nI j) = some (v1, σ1) ∧ CS n c σ1 p1 m ∧ Fc σ σ1 ∧ pv σ1 443 = pv σ 443 ∧ (1 ≤ v1.toInt ∧ v1.toInt ≤ 1000000) ∧ p ≤ p1 ∧ p1 ≤ n ∧ ∀ s f, MT n c s p → s.1 462 16 = -1 → s.1 462 22 = v → k + 1 + 1 < f → ∃ s1, fX9_readsWeight_44 462 f s (b2i (dig (cdm n c p))) = some s1 ∧ WE n c s s1 v1 p1 := fun nd => by
        refine ⟨v, σ, p, ?_, h, Fc.rf, rfl, ⟨v0, v1⟩, Nat.le_refl _, by omega, fun s f mt w hv ff => ?_⟩
        · rw [fX6_passWeight_4, if_neg j120, t_code h T.1 (by omega), j_b, (cd_in hp).1, j_nm]
          by_cases z : c p < 48
          · rw [if_pos z]
          · rw [if_neg z, if_pos (by rw [j_lt, i57]; rw [j_lt, i48] at z; omega)]
        · match f, ff with
          | f + 1, _ =>
            rw [(cd_in hp).2, show dig (c p) = false from decide_eq_false nd, show b2i false = 0 from rfl, fX9_readsWeight_44, if_pos rfl]
            have := m_w120 mt T.1 (by omega) w
            rwa [hv] at this
      by_cases hd : 48 ≤ (c p).toInt ∧ (c p).toInt ≤ 57
      · have dn := d_next ⟨by omega, v1⟩ hd
        have l1 : ¬ c p < 48 := by rw [j_lt, i48]; omega
        have l2 : ¬ (57 : Int32) < c p := by rw [j_lt, i57]; omega
        have l3 : ¬ 10 * v + c p - 48 < 1 := by rw [j_lt, dn, jz1]; omega
        have dt : dig (c p) = true := decide_eq_true hd
        by_cases big : 10 * v + c p - 48 ≤ 1000000
        · have big2 := big
          rw [j_le, dn, iml] at big2
          obtain ⟨v', σ', p', a1, a2, a3, a4, a5, a6, a7, a8⟩ := ih f (su σ 440 2 (nI (p + 1))) (10 * v + c p - 48) (p + 1) (j + 1) (h.at _) (by omega) (by omega) (by rw [dn]; omega) (by rw [dn]; omega) (by omega)
          refine ⟨v', σ', p', ?_, a2, Fc.st.tr a3, a4.trans p43, a5, by omega, a7, fun s f2 mt w hv ff => ?_⟩
          · rw [fX6_passWeight_4, if_neg j120, t_code h T.1 (by omega), j_b, (cd_in hp).1, j_nm, if_neg l1, if_neg l2, if_neg l3, if_pos big, h.2.2.1, j_s, j_nm, j_s]
            exact a1
          · match f2, ff with
            | f2 + 1, ff =>
              obtain ⟨s1, b1, b2, b3, b4, b5⟩ := m_dig mt T.1 hp w hd hv big f2
              obtain ⟨s2, d1, d2⟩ := a8 s1 f2 b2 b3 b4 (by omega)
              refine ⟨s2, ?_, b1.tr d2.1, d2.2⟩
              rw [(cd_in hp).2, dt, show b2i true = 1 from rfl, b5]
              exact d1
        · refine ⟨v, σ, p, ?_, h, Fc.rf, rfl, ⟨v0, v1⟩, Nat.le_refl _, by omega, fun s f mt w hv ff => ?_⟩
          · rw [fX6_passWeight_4, if_neg j120, t_code h T.1 (by omega), j_b, (cd_in hp).1, j_nm, if_neg l1, if_neg l2, if_neg l3, if_neg big]
          · match f, ff with
            | f + 2, _ =>
              obtain ⟨s2, hs2⟩ : ∃ s2 : Sg, s2 = su (su s 462 22 (10 * v + c p - 48)) 462 16 (nI p) := ⟨_, rfl⟩
              have e22 : (su s 462 22 (10 * v + c p - 48)).1 462 22 = 10 * v + c p - 48 := by rw [su_at, if_pos ⟨rfl, rfl⟩]
              have e15 : (su s 462 22 (10 * v + c p - 48)).1 462 15 = nI p := by rw [su_at, if_neg (by omega)]; exact mt.2.2
              have fw2 : Fz s s2 := by rw [hs2]; exact (Fz.st (by omega)).tr (Fz.st (by omega))
              have w2 : s2.1 462 16 = nI p := by rw [hs2, su_at, if_pos ⟨rfl, rfl⟩]
              have mt2 : MT n c s2 p := mt.fw fw2 (by rw [hs2, su_at, if_neg (by omega), su_at, if_neg (by omega)]; exact mt.2.2)
              obtain ⟨s3, e1, e2, e3⟩ := m_w120b mt2 T.1 (by omega) (k := p) (by omega) w2
              refine ⟨s3, ?_, fw2.tr e2, fun z => ?_, fun _ => e3⟩
              · rw [(cd_in hp).2, dt, show b2i true = 1 from rfl, fX9_readsWeight_44, if_neg (show ¬ ((1 : Int32) = 0) by decide), if_pos w, m_next mt T.1 (by omega), j_b, hv, (cd_in hp).2, j_nm, e22, if_neg big, e15, j_nm, ← hs2, fX9_readsWeight_44, if_neg (show ¬ ((1 : Int32) = 0) by decide), if_neg (by rw [w2]; exact nI_m1 (by omega))]
                exact e1
              · rw [(cd_in hp).2] at z
                rw [z] at hd
                exact absurd hd (by decide)
      · exact st hd
theorem sim_w (T : Tt n c) (h : CS n c σ p m) (p1 : 1 ≤ p) (hp : p ≤ n) : ∃ v σ1 q, fX6_passWeight σ 440 = some (v, σ1) ∧ CS n c σ1 q m ∧ Fc σ σ1 ∧ pv σ1 443 = pv σ 443 ∧ ((v = 0 ∧ q = p ∧ ∀ s, MT n c s p → s.1 462 16 = -1 → ∃ s1, fX9_readsWeight s 462 = some s1 ∧ Fz s s1 ∧ s1.1 462 16 = nI p) ∨ ((1 ≤ v.toInt ∧ v.toInt ≤ 1000000) ∧ p < q ∧ q ≤ n ∧ ∀ s, MT n c s p → s.1 462 16 = -1 → ∃ s1, fX9_readsWeight s 462 = some s1 ∧ WE n c s s1 v q)) := by
  have n120 := T.1
  have neg : (¬ (49 ≤ (cdc n c p).toInt ∧ (cdc n c p).toInt ≤ 57)) → ∀ s, MT n c s p → s.1 462 16 = -1 → ∃ s1, fX9_readsWeight s 462 = some s1 ∧ Fz s s1 ∧ s1.1 462 16 = nI p := fun nd s mt w => by
    obtain ⟨s2, hs2⟩ : ∃ s2 : Sg, s2 = su (su s 462 22 0) 462 16 (nI p) := ⟨_, rfl⟩
    have e16 : (su s 462 22 0).1 462 16 = s.1 462 16 := by rw [su_at, if_neg (by omega)]
    have e15 : (su s 462 22 0).1 462 15 = nI p := by rw [su_at, if_neg (by omega)]; exact mt.2.2
    have fw2 : Fz s s2 := by rw [hs2]; exact (Fz.st (by omega)).tr (Fz.st (by omega))
    have w2 : s2.1 462 16 = nI p := by rw [hs2, su_at, if_pos ⟨rfl, rfl⟩]
    have mt1 : MT n c (su s 462 22 0) p := mt.fw (Fz.st (by omega)) (by rw [su_at, if_neg (by omega)]; exact mt.2.2)
    have mt2 : MT n c s2 p := mt.fw fw2 (by rw [hs2, su_at, if_neg (by omega), su_at, if_neg (by omega)]; exact mt.2.2)
    obtain ⟨s3, e1, e2, e3⟩ := m_w120b mt2 T.1 hp (k := p) (by omega) w2
    refine ⟨s3, ?_, fw2.tr e2, e3⟩
    have nd2 : ¬ (49 ≤ (cdm n c p).toInt ∧ (cdm n c p).toInt ≤ 57) := by
      by_cases z : p < n
      · rw [(cd_in z).2]
        rw [(cd_in z).1] at nd
        exact nd
      · rw [(cd_no z).2]
        decide
    unfold fX9_readsWeight fX9_readsWeight_41
    rw [j_nm, m_next mt1 T.1 hp, j_b, m_within, j_b, i49, i57, decide_eq_false nd2, if_neg Bool.false_ne_true, e16, if_pos w, e15, j_nm, ← hs2, show b2i false = 0 from rfl, show FU = 5999 + 1 from rfl, fX9_readsWeight_44, if_pos rfl]
    exact e1
  have cw : fX6_passWeight σ 440 = fX6_passWeight_4 440 (5999 + 1) σ 0 0 := rfl
  have start : fX6_passWeight_4 440 (5999 + 1) σ 0 0 = (nm (((10 * 0) + cdc n c p) - 48) fun v2 => if cdc n c p < 48 then some ((0 : Int32), σ) else if 57 < cdc n c p then some (0, σ) else if v2 < 1 then some (0, σ) else if v2 ≤ 1000000 then nm (su σ 440 2 ((σ.1 440 2) + 1)) fun σ3 => fX6_passWeight_4 440 5999 σ3 v2 (0 + 1) else some (0, σ)) := by
    rw [fX6_passWeight_4, if_neg (by decide), t_code h T.1 hp, j_b]
  by_cases hd : 48 ≤ (cdc n c p).toInt ∧ (cdc n c p).toInt ≤ 57
  · have z : p < n := by
      refine Classical.byContradiction (fun z => ?_)
      rw [(cd_no z).1] at hd
      exact absurd hd (by decide)
    have dn := d_next (v := 0) ⟨by decide, by decide⟩ hd
    rw [jz0] at dn
    have l1 : ¬ cdc n c p < 48 := by rw [j_lt, i48]; omega
    have l2 : ¬ (57 : Int32) < cdc n c p := by rw [j_lt, i57]; omega
    by_cases z0 : (cdc n c p).toInt = 48
    · refine ⟨0, σ, p, ?_, h, Fc.rf, rfl, Or.inl ⟨rfl, rfl, neg (by omega)⟩⟩
      rw [cw, start, j_nm, if_neg l1, if_neg l2, if_pos (by rw [j_lt, dn, jz1]; omega)]
    · have big : 10 * 0 + cdc n c p - 48 ≤ 1000000 := by rw [j_le, dn, iml]; omega
      obtain ⟨v', σ', p', a1, a2, a3, a4, a5, a6, a7, a8⟩ := sim_w4 T (n - (p + 1)) 5999 (su σ 440 2 (nI (p + 1))) (10 * 0 + cdc n c p - 48) (p + 1) 1 (h.at _) (by omega) (by omega) (by rw [dn]; omega) (by rw [dn]; omega) (by omega)
      refine ⟨v', σ', p', ?_, a2, Fc.st.tr a3, a4.trans p43, Or.inr ⟨a5, by omega, a7, fun s mt w => ?_⟩⟩
      · rw [cw, start, j_nm, if_neg l1, if_neg l2, if_neg (by rw [j_lt, dn, jz1]; omega), if_pos big, h.2.2.1, j_s, j_nm]
        exact a1
      · have mt1 : MT n c (su s 462 22 0) p := mt.fw (Fz.st (by omega)) (by rw [su_at, if_neg (by omega)]; exact mt.2.2)
        rw [(cd_in z).1] at hd z0 big a8
        obtain ⟨s1, b1, b2, b3, b4, b5⟩ := m_dig mt1 T.1 z (by rw [su_at, if_neg (by omega)]; exact w) hd (v := 0) (by rw [su_at, if_pos ⟨rfl, rfl⟩]) big 5999
        obtain ⟨s2, d1, d2⟩ := a8 s1 5999 b2 b3 b4 (by omega)
        refine ⟨s2, ?_, (Fz.st (by omega)).tr (b1.tr d2.1), d2.2⟩
        unfold fX9_readsWeight
        rw [j_nm, m_next mt1 T.1 hp, j_b, m_within, j_b, i49, i57, (cd_in z).2, decide_eq_true (by omega), if_pos rfl, show b2i true = 1 from rfl, show FU = 5999 + 1 from rfl, b5]
        exact d1
  · refine ⟨0, σ, p, ?_, h, Fc.rf, rfl, Or.inl ⟨rfl, rfl, neg (by omega)⟩⟩
    rw [cw, start, j_nm]
    by_cases z : cdc n c p < 48
    · rw [if_pos z]
    · rw [if_neg z, if_pos (by rw [j_lt, i57]; rw [j_lt, i48] at z; omega)]
end RAT
end
