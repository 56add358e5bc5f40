/-! THE RELATION: show, moveTab, activate -/
section RA9
def PB (F : Option (Int32 × Sg)) (G : Sg → Option (Bool × Sg)) : Prop := ∃ k σ1 b σ2, F = some (k, σ1) ∧ G σ1 = some (b, σ2) ∧ σ2.1 462 3 = k ∧ RR σ2 ∧ (k = 0 → σ2.2 476 0 = if b = true then 1 else 0)
theorem pb_no {σ : Sg} {F : Option (Int32 × Sg)} {G : Sg → Option (Bool × Sg)} {k : Int32} {b : Bool} (h : RR σ) (hF : F = some (k, σ)) (hk : k ≠ 0) (hG : G σ = some (b, su σ 462 3 k)) : PB F G :=
  ⟨k, σ, b, su σ 462 3 k, hF, hG, by rw [su_at, if_pos ⟨rfl, rfl⟩], h.s3, fun z => absurd z hk⟩
theorem pb_ok {σ σ1 : Sg} {F : Option (Int32 × Sg)} {G : Sg → Option (Bool × Sg)} {v : Bool} {S S' : ST} {l l' : List ST} (tx : TX σ) (m : MR σ S l) (hF : F = some (0, sul σ1 476 0 (if v = true then 1 else 0))) (f8 : ∀ c, 438 ≤ c → σ1.1 c = σ.1 c) (c1 : CR σ1 S' l') (hG : ∀ s, MR s S l → ∃ s', G s = some (v, s') ∧ G9 s s' 0 ∧ MR s' S' l') : PB F G := by
  obtain ⟨s', a, g, m'⟩ := hG (sul σ1 476 0 (if v = true then 1 else 0)) (m.c (by show σ1.1 462 2 = _; rw [f8 462 (by omega)]) (f8 463 (by omega)) (f8 464 (by omega)))
  have tx1 : TX (sul σ1 476 0 (if v = true then 1 else 0)) := tx.c (by show σ1.1 438 1 = _; rw [f8 438 (by omega)]) (f8 439 (by omega)) (by show σ1.1 462 5 = _; rw [f8 462 (by omega)]) (f8 465 (by omega))
  refine ⟨0, sul σ1 476 0 (if v = true then 1 else 0), v, s', hF, a, g.2.2.2.2, ⟨S', l', c1.c (fun c hc => g.1 c (by omega)), m', tx1.c (by rw [g.1 438 (by omega)]) (g.1 439 (by omega)) g.2.2.1 g.2.1⟩, fun _ => ?_⟩
  rw [g.2.2.2.1]
  show vp_updL ((σ1.2) 476) 0 (if v = true then 1 else 0) 0 = _
  rfl
theorem hide_same {V : VW} (h : Tabs V (fun _ => false)) {p g : Nat} (hp : p < 12) (e : V 13 p = g) (q : V 15 p = 1) : v_hide V p = V := by
  obtain ⟨hg, kg⟩ := h.g2 hp e
  obtain ⟨r15, r12, rr⟩ := hide_rows hp hg e
  have n12 : V 12 g ≠ p := fun z => by
    rcases (h.fu hg kg rfl).2 with ⟨a, b⟩ | ⟨a, ha, ea, e13, e15⟩
    · omega
    · have : a = p := by omega
      rw [this] at e15
      omega
  funext j i
  by_cases j12 : j = 12
  · rw [j12, r12, if_neg (fun w => n12 w.2)]
  · by_cases j15 : j = 15
    · rw [j15, r15]
      by_cases z : i = p
      · rw [if_pos z, z, q]
      · rw [if_neg z]
    · rw [rr j j12 j15]
theorem rev_same {V : VW} (h : Tabs V (fun _ => false)) {p g : Nat} (hp : p < 12) (e : V 13 p = g) (q : V 15 p = 0) : v_reveal V p = V := by
  obtain ⟨hg, kg⟩ := h.g2 hp e
  obtain ⟨r15, r12, rr⟩ := rev_rows hp hg e
  have n12 : V 12 g ≠ -1 := fun z => by
    rcases (h.fu hg kg rfl).2 with ⟨a, b⟩ | ⟨a, ha, ea, e13, e15⟩
    · have := b p hp e
      omega
    · omega
  funext j i
  by_cases j12 : j = 12
  · rw [j12, r12, if_neg (fun w => n12 w.2)]
  · by_cases j15 : j = 15
    · rw [j15, r15]
      by_cases z : i = p
      · rw [if_pos z, z, q]
      · rw [if_neg z]
    · rw [rr j j12 j15]
def shV (V : VW) (p : Int) (w : Int32) : VW := if w = 0 then v_hide V p else v_reveal V p
theorem c_show {σ : Sg} (h : RR σ) (p w : Int32) : PB (fL_show σ p w 476 1) (fun s => fX9_show s 462 p w) := by
  obtain ⟨S, l, c, m, tx⟩ := h
  have h1 := c.1
  have hS := c.2.2.1
  have hR : RR σ := ⟨S, l, c, m, tx⟩
  cases q : exP S p
  · refine pb_no (k := 1) (b := false) hR ?_ (by decide) ?_
    · unfold fL_show fX8_show
      rw [s_reqP (by rw [h1]; exact hS), h1, q]
      rfl
    · show fX9_show σ 462 p w = _
      unfold fX9_show fX9_show_28
      rw [m_isP m.2, j_b, q, rf1]
      rfl
  · obtain ⟨k, hk, hk12, ek⟩ := exP_n q
    cases qp : plc (S_pl S) k
    · refine pb_no (k := 2) (b := false) hR ?_ (by decide) ?_
      · unfold fL_show fX8_show
        rw [s_reqP (by rw [h1]; exact hS), h1, q, j_b, if_pos rfl, j_xl, s_reqL hk hk12, h1, qp]
        rfl
      · show fX9_show σ 462 p w = _
        unfold fX9_show fX9_show_28
        rw [m_isP m.2, j_b, q, if_pos rfl, m_isL m.2.2.1 hk hk12, qp, rf2]
        rfl
    · obtain ⟨σ1, a1, f1, c1⟩ := s_kr c
      obtain ⟨-, -, -, -, ⟨d, wn, hI⟩, hO, -⟩ := id hS
      have tb := hI.2.1
      have np : S_pl S 13 k ≠ -1 := by
        unfold plc at qp
        exact of_decide_eq_true qp
      obtain ⟨g, hg, eg, kg⟩ := (tb.gr hk12).resolve_left np
      have hpv := S_pv c1.1
      have sp := tb.sp2 p.toInt
      have hid : fX1_isHidden σ1 (1 + 5) p = some (decide (S_pl S 15 k = 1)) := by
        rw [s_isHidden, hpv, hk, v_hd_in hk12]
      -- the class's step
      have stp : ∃ σ2, (if w = 0 then fX1_hide σ1 (1 + 5) p else fX1_reveal σ1 (1 + 5) p) = some σ2 ∧ Out σ1 σ2 1 70 ∧ stv σ2 1 = pfS S (S_fo S) (shV (S_pl S) k w) := by
        unfold shV
        by_cases w0 : w = 0
        · rw [if_pos w0, if_pos w0]
          have := s_do c1.1 (s_hide (σ := σ1) (b := 1 + 5) p (by rw [hpv]; exact sp.1) (by rw [hpv]; exact sp.2))
          rw [hpv, hk] at this
          exact this
        · rw [if_neg w0, if_neg w0]
          have := s_do c1.1 (s_reveal (σ := σ1) (b := 1 + 5) p)
          rw [hpv, hk] at this
          exact this
      obtain ⟨σ2, a2, o2, v2⟩ := stp
      have hSI : SI (pfS S (S_fo S) (shV (S_pl S) k w)) := by
        unfold shV
        by_cases w0 : w = 0
        · rw [if_pos w0]
          exact hS.tb (fun j h12 _ h15 => (hide_rows hk12 hg eg).2.2 j h12 h15) (tb.hide hk12 eg)
        · rw [if_neg w0]
          exact hS.tb (fun j h12 _ h15 => (rev_rows hk12 hg eg).2.2 j h12 h15) (tb.reveal hk12 eg)
      obtain ⟨σ3, a3, o3, c3⟩ := c1.mod (fun x hx => o2.2 x (by omega)) v2 hSI
      refine pb_ok (v := !decide (S_pl S 15 k = 1)) tx m ?_ (fun x hx => by rw [o3.2 x (by omega), o2.2 x (by omega)]; exact f1 x hx) c3 (fun s ms => ?_)
      · unfold fL_show fX8_show fX8_show_33 fX8_show_63
        rw [s_reqP (by rw [h1]; exact hS), h1, q, j_b, if_pos rfl, j_xl, s_reqL hk hk12, h1, qp, j_b, if_pos rfl, j_xl, a1, j_b, hid, j_b]
        have fin : ∀ l3 : Int32, (if w = 0 then (fX1_hide σ1 (1 + 5) p).bind fun σ9 => (fX2_compute σ9 422 1).bind fun σ11 => if l3 = 0 then some ((.inl false : Bool ⊕ Nat), σ11) else if l3 = 1 then some (.inl true, σ11) else none else (fX1_reveal σ1 (1 + 5) p).bind fun σ10 => (fX2_compute σ10 422 1).bind fun σ11 => if l3 = 0 then some (.inl false, σ11) else if l3 = 1 then some (.inl true, σ11) else none) = if l3 = 0 then some (.inl false, σ3) else if l3 = 1 then some (.inl true, σ3) else none := fun l3 => by
          by_cases w0 : w = 0
          · rw [if_pos w0] at a2 ⊢
            rw [a2, j_b, a3, j_b]
          · rw [if_neg w0] at a2 ⊢
            rw [a2, j_b, a3, j_b]
        by_cases z : S_pl S 15 k = 1
        · rw [decide_eq_true z, if_pos rfl, fin]
          rfl
        · rw [decide_eq_false z, if_neg Bool.false_ne_true, fin]
          rfl
      · have ms0 := ms.s3 (k := 0)
        obtain ⟨s1, b1, g1, x1, m1⟩ := m_kr ms0
        have vm := m1.2.2.1
        have e15 : fX9_of (su s 462 3 0) 462 p 5 = some (oI (S_pl S 15 k)) := by
          rw [m_o5 hk hk12, ms0.2.2.1.hi hk12]
        -- what is to be shown of the last state
        have done : ∀ s2 : Sg, Out s1 s2 463 463 → VM (mv (s2.1 463)) (shV (S_pl S) k w) (fun _ => false) → FS (mv (s1.1 463)) (mv (s2.1 463)) → mo (mv (s2.1 463)) 20 = mo (mv (s1.1 463)) 20 → G9 s s2 0 ∧ MR s2 (pfS S (S_fo S) (shV (S_pl S) k w)) (keep l S) := fun s2 o v f e => ⟨(G9.s3.tr g1).tr (F9.ou o), m1.mod o (m1.2.pf f v (by rw [e]; exact m1.2.2.2.1))⟩
        have pre : ∀ r : Option (Bool × Sg), fX9_show_28 462 s p w 0 = r → fX9_show s 462 p w = r := fun r e => by
          unfold fX9_show
          rw [m_isP ms.2, j_b, q, if_pos rfl, m_isL ms.2.2.1 hk hk12, qp, j_b, if_pos rfl]
          exact e
        have n10 : ¬ (1 : Int32) = 0 := by decide
        rcases tb.hi hk12 with y | y
        · -- shown before
          have ny : ¬ S_pl S 15 k = 1 := by omega
          rw [decide_eq_false ny]
          by_cases w0 : w = 0
          · -- it is hidden
            obtain ⟨s2, b2, w2, u2⟩ := m_yields (σ := s1) vm tb hk hk12 eg
            obtain ⟨s3, b3, w3, u3⟩ := m_p5 (σ := s2) hk hk12 1
            have hr := hide_rows hk12 hg eg
            have e1 : (1 : Int32).toInt = 1 := rfl
            have U5 : ∀ n, mv (s3.1 463) 5 n = if n = g ∧ S_pl S 12 g = k then v_ai (up (S_pl S) 15 k 1) g (S_pl S 14 k) else mv (s1.1 463) 5 n := fun n => by
              rw [u3, u2, mu_ne (by omega)]
              by_cases z : S_pl S 12 g = k
              · rw [if_pos z, mu_at]
                by_cases y : n = g
                · rw [if_pos y, if_pos ⟨y, z⟩]
                · rw [if_neg y, if_neg (fun w => y w.1)]
              · rw [if_neg z, if_neg (fun w => z w.2)]
            have Uo : ∀ j, j ≠ 5 → j ≠ 11 → mv (s3.1 463) j = mv (s1.1 463) j := fun j j5 j11 => by
              rw [u3, u2, mu_ne j11]
              by_cases z : S_pl S 12 g = k
              · rw [if_pos z, mu_ne j5]
              · rw [if_neg z]
            have U11 : ∀ n, mv (s3.1 463) 11 n = if n = k then 1 else mv (s1.1 463) 11 n := fun n => by
              rw [u3, u2, mu_at, e1]
              by_cases z : S_pl S 12 g = k
              · rw [if_pos z, mu_ne (by omega)]
              · rw [if_neg z]
            have vs : shV (S_pl S) k w = v_hide (S_pl S) k := by unfold shV; rw [if_pos w0]
            obtain ⟨D1, D2⟩ := done s3 (w2.tr w3) (by
              rw [vs]
              refine vm.tb (fun j hj => Uo j (by omega) (by omega)) (fun j h12 _ h15 => hr.2.2 j h12 h15) (fun n hn kn => ?_) (fun n hn kn => by rw [U5, if_neg (fun y => by rw [y.1] at kn; omega)]) (fun i hi z => ?_) (fun i hi => ?_)
              · rw [U5, hr.2.1, vm.ac hn kn rfl]
              · rw [Uo 10 (by omega) (by omega), hr.2.2 14 (by omega) (by omega)]
                exact vm.sp hi z
              · rw [U11, hr.1, vm.hi hi]) (fun j hj => Uo j (by omega) (by omega)) (by
              unfold mo
              rw [Uo 20 (by omega) (by omega), Uo 21 (by omega) (by omega)])
            refine ⟨s3, pre _ ?_, D1, D2⟩
            unfold fX9_show_28 fX9_show_50
            rw [rf0, j_b]
            show (fX9_of (su s 462 3 0) 462 p 5).bind _ = _
            rw [e15, j_b, y, if_pos (show oI (0 : Int) = (0 : Int32) from rfl)]
            show (fX9_saves (su s 462 3 0) 462).bind _ = _
            rw [b1, j_b, if_neg n10, if_pos w0, b2, j_b, b3, j_b]
            rfl
          · -- nothing
            have vs : shV (S_pl S) k w = S_pl S := by unfold shV; rw [if_neg w0, rev_same tb hk12 eg y]
            obtain ⟨D1, D2⟩ := done s1 Out.rf (by rw [vs]; exact vm) (fun _ _ => rfl) rfl
            refine ⟨s1, pre _ ?_, D1, D2⟩
            unfold fX9_show_28 fX9_show_50 fX9_show_80
            rw [rf0, j_b]
            show (fX9_of (su s 462 3 0) 462 p 5).bind _ = _
            rw [e15, j_b, y, if_pos (show oI (0 : Int) = (0 : Int32) from rfl)]
            show (fX9_saves (su s 462 3 0) 462).bind _ = _
            rw [b1, j_b, if_neg n10, if_neg w0]
            rfl
        · rw [decide_eq_true y]
          by_cases w0 : w = 0
          · have vs : shV (S_pl S) k w = S_pl S := by unfold shV; rw [if_pos w0, hide_same tb hk12 eg y]
            obtain ⟨D1, D2⟩ := done s1 Out.rf (by rw [vs]; exact vm) (fun _ _ => rfl) rfl
            refine ⟨s1, pre _ ?_, D1, D2⟩
            unfold fX9_show_28 fX9_show_50 fX9_show_80
            rw [rf0, j_b]
            show (fX9_of (su s 462 3 0) 462 p 5).bind _ = _
            rw [e15, j_b, y, if_neg (show ¬ oI (1 : Int) = (0 : Int32) by decide)]
            show (fX9_saves (su s 462 3 0) 462).bind _ = _
            rw [b1, j_b, if_pos rfl, if_pos w0]
            rfl
          · -- it is shown
            obtain ⟨s2, b2, w2, u2⟩ := m_p5 (σ := s1) hk hk12 0
            have hr := rev_rows hk12 hg eg
            have e63 : ∀ j, j ≠ 11 → mv (s2.1 463) j = mv (s1.1 463) j := fun j hj => by rw [u2, mu_ne hj]
            have g9 : mv (s2.1 463) 9 k = S_pl S 13 k := by rw [e63 9 (by omega)]; exact vm.gr hk12
            have r13 : -2147483648 ≤ S_pl S 13 k ∧ S_pl S 13 k < 2147483648 := by rw [← g9]; exact mv_rg _ _ _
            have ei : (oI (S_pl S 13 k)).toInt = g := by rw [j_oI r13.1 r13.2, eg]
            have a5 : mv (s2.1 463) 5 g = S_pl S 12 g := by rw [e63 5 (by omega)]; exact vm.ac hg kg rfl
            have r12 : -2147483648 ≤ S_pl S 12 g ∧ S_pl S 12 g < 2147483648 := by rw [← a5]; exact mv_rg _ _ _
            have y12 := oi_m1 r12.1 r12.2
            obtain ⟨s3, b3, w3, u3⟩ := m_l5 (σ := s2) ei (by omega) (if S_pl S 12 g = -1 then p else oI (S_pl S 12 g))
            have U5 : ∀ n, n < 23 → S_pl S 8 n = 2 → mv (s3.1 463) 5 n = v_reveal (S_pl S) k 12 n := fun n hn kn => by
              rw [u3, mu_at, hr.2.1]
              by_cases y : n = g
              · by_cases z : S_pl S 12 g = -1
                · rw [if_pos y, if_pos z, if_pos ⟨y, z⟩, hk]
                · rw [if_pos y, if_neg z, if_neg (fun w => z w.2), j_oI r12.1 r12.2, y]
              · rw [if_neg y, if_neg (fun w => y w.1), e63 5 (by omega), vm.ac hn kn rfl]
            have Uo : ∀ j, j ≠ 5 → j ≠ 11 → mv (s3.1 463) j = mv (s1.1 463) j := fun j j5 j11 => by
              rw [u3, mu_ne j5, e63 j j11]
            have vs : shV (S_pl S) k w = v_reveal (S_pl S) k := by unfold shV; rw [if_neg w0]
            obtain ⟨D1, D2⟩ := done s3 (w2.tr w3) (by
              rw [vs]
              refine vm.tb (fun j hj => Uo j (by omega) (by omega)) (fun j h12 _ h15 => hr.2.2 j h12 h15) U5 (fun n hn kn => by rw [u3, mu_at, if_neg (fun y => by rw [y] at kn; omega), e63 5 (by omega)]) (fun i hi z => ?_) (fun i hi => ?_)
              · rw [Uo 10 (by omega) (by omega), hr.2.2 14 (by omega) (by omega)]
                exact vm.sp hi z
              · rw [u3, mu_ne (by omega), u2, mu_at, hr.1, vm.hi hi]
                rfl) (fun j hj => Uo j (by omega) (by omega)) (by
              unfold mo
              rw [Uo 20 (by omega) (by omega), Uo 21 (by omega) (by omega)])
            refine ⟨s3, pre _ ?_, D1, D2⟩
            unfold fX9_show_28 fX9_show_50 fX9_show_80 fX9_show_130
            rw [rf0, j_b]
            show (fX9_of (su s 462 3 0) 462 p 5).bind _ = _
            rw [e15, j_b, y, if_neg (show ¬ oI (1 : Int) = (0 : Int32) by decide)]
            show (fX9_saves (su s 462 3 0) 462).bind _ = _
            rw [b1, j_b, if_pos rfl, if_pos rfl, if_neg w0, b2, j_b, m_o3 hk hk12, j_b, g9, m_i5 ei (by omega), j_b, a5]
            by_cases z : S_pl S 12 g = -1
            · rw [if_pos (y12.mpr z)]
              rw [if_pos z] at b3
              rw [b3, j_b]
              rfl
            · rw [if_neg (fun u => z (y12.mp u)), j_b]
              rw [if_neg z] at b3
              rw [b3, j_b]
              rfl
end RA9
