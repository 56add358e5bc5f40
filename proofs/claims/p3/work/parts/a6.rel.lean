/-! THE RELATION: setMinimum, resize, move, raise, takeAway -/
section RA6
theorem s_do {σ : Sg} {S : ST} {V' : VW} {F : Option Sg} (hs : stv σ 1 = S) (h : Do F σ (1 + 5) V') : ∃ σ', F = some σ' ∧ Out σ σ' 1 70 ∧ stv σ' 1 = pfS S (S_fo S) V' := by
  subst hs
  obtain ⟨σ', a, b, c⟩ := h
  refine ⟨σ', a, b.mo (by omega) (by omega), ?_⟩
  rw [stv_pl (b := 1) b, c]
  rfl
theorem S_pv {σ : Sg} {S : ST} (h : stv σ 1 = S) : pv σ (1 + 5) = S_pl S := by
  rw [← h]
  rfl
theorem Inv.rows {V V' : VW} {d : Nat → Nat} {wn : Nat → Int} (h : Inv V d wn) (e : ∀ j, j = 5 ∨ 8 ≤ j → V' j = V j) (lo : LO (odp V') 5 (flw V)) (ge : Geo V') : Inv V' d wn := by
  obtain ⟨t, tb, -, -⟩ := h
  refine ⟨t.cg (fun n _ => by rw [e 8 (by omega)]) (fun n _ => by rw [e 9 (by omega)]) (fun n _ => by rw [e 10 (by omega)]) (fun n hn q => by rw [e 11 (by omega)]; exact t.we hn q) (fun w _ => by rw [e 5 (by omega)]), tb.cg (fun g _ => by rw [e 8 (by omega)]) (fun g _ _ => by rw [e 12 (by omega)]) (fun p _ => by rw [e 13 (by omega)]) (fun p _ => by rw [e 14 (by omega)]) (fun p _ => by rw [e 15 (by omega)]), lo.cg (fun i _ => by unfold flw; rw [e 5 (by omega)]), ge⟩
theorem SI.geo {S : ST} {V' : VW} (h : SI S) (e : ∀ j, 5 ≤ j → V' j = S_pl S j) (ge : Geo V') : SI (pfS S (S_fo S) V') := by
  obtain ⟨h1, h2, h3, h4, ⟨d, wn, i⟩, h6, h7⟩ := h
  refine SI.pf (S := S) ⟨h1, h2, h3, h4, ⟨d, wn, i⟩, h6, h7⟩ (i.rows (V' := V') (fun j hj => e j (by omega)) ?_ ge) (fun p hp z => h4 p hp (by rw [← e 13 (by omega)]; exact z)) (h6.cg (fun p _ => by unfold plc; rw [e 13 (by omega)]))
  have : odp V' = odp (S_pl S) := by
    unfold odp
    rw [e 6 (by omega), e 7 (by omega)]
  rw [this]
  exact i.2.2.1
theorem VM.gm {U U' V V' : VW} {X : Nat → Bool} (h : VM U V X) (e : ∀ j, (j < 6 ∨ (9 ≤ j ∧ j < 13) ∨ (17 ≤ j ∧ j < 20)) → U' j = U j) (e' : ∀ j, 5 ≤ j → V' j = V j) (g : ∀ w, w < 5 → w = 0 ∨ V 5 w ≠ -1 → U' 13 w = V' 1 w ∧ U' 14 w = V' 2 w ∧ U' 15 w = V' 3 w ∧ U' 16 w = V' 4 w) : VM U' V' X := by
  obtain ⟨a1, a2, a3, a4, a5, a6, a7, a8, a9⟩ := h
  unfold VM
  rw [e 0 (by omega), e 1 (by omega), e 2 (by omega), e 3 (by omega), e 4 (by omega), e 5 (by omega), e 9 (by omega), e 10 (by omega), e 11 (by omega), e 12 (by omega), e 17 (by omega), e 18 (by omega), e 19 (by omega), e' 5 (by omega), e' 6 (by omega), e' 7 (by omega), e' 8 (by omega), e' 9 (by omega), e' 10 (by omega), e' 11 (by omega), e' 12 (by omega), e' 13 (by omega), e' 14 (by omega), e' 15 (by omega)]
  exact ⟨a1, a2, a3, a4, a5, a6, fun w hw => ⟨(a7 w hw).1, (a7 w hw).2.1, g w hw⟩, a8, a9⟩
/-! setMinimum -/
def mnS (S : ST) (k : Nat) (a b : Int) : ST := (S.1, ur (S_mw S) k a, ur (S_mh S) k b, S.2.2.2)
theorem mnS_SI {S : ST} {k : Nat} (h : SI S) {a b : Int} (ha : 1 ≤ a ∧ a ≤ 40) (hb : 1 ≤ b ∧ b ≤ 40) : SI (mnS S k a b) := by
  obtain ⟨h1, h2, h3, h4, h5, h6, h7⟩ := h
  refine ⟨h1, h2, fun p hp => ?_, h4, h5, h6, h7⟩
  have := h3 p hp
  show (0 ≤ ur (S_mw S) k a p ∧ ur (S_mw S) k a p ≤ 40) ∧ (0 ≤ ur (S_mh S) k b p ∧ ur (S_mh S) k b p ≤ 40) ∧ (_ → 1 ≤ ur (S_mw S) k a p)
  unfold ur
  by_cases q : p = k
  · rw [if_pos q, if_pos q]
    exact ⟨by omega, by omega, fun _ => ha.1⟩
  · rw [if_neg q, if_neg q]
    exact this
theorem c_setMinimum {σ : Sg} (h : RR σ) (p a b : Int32) : PI (fL_setMinimum σ p a b 476 1) (fun s => fX9_setMinimum s 462 p a b) := by
  obtain ⟨S, l, c, m, tx⟩ := h
  have h1 := c.1
  have hS := c.2.2.1
  have hR : RR σ := ⟨S, l, c, m, tx⟩
  have e1 : (1 : Int32).toInt = 1 := rfl
  have e40 : (40 : Int32).toInt = 40 := rfl
  cases q : exP S p
  · refine pi_no (k := 1) (b := 0) hR ?_ (by decide) ?_
    · unfold fL_setMinimum fX8_setMinimum
      rw [s_reqP (by rw [h1]; exact hS), h1, q]
      rfl
    · show fX9_setMinimum σ 462 p a b = _
      unfold fX9_setMinimum fX9_setMinimum_38
      rw [m_isP m.2, j_b, q, rf1]
      rfl
  · cases hm : mnP a b
    · refine pi_no (k := 2) (b := 0) hR ?_ (by decide) ?_
      · unfold fL_setMinimum fX8_setMinimum
        rw [s_reqP (by rw [h1]; exact hS), h1, q, j_b, if_pos rfl, j_xl, s_reqM, hm]
        rfl
      · show fX9_setMinimum σ 462 p a b = _
        unfold fX9_setMinimum fX9_setMinimum_33
        have fin : fX9_setMinimum_38 462 σ p a b 2 = some (0, su σ 462 3 2) := by
          unfold fX9_setMinimum_38
          rw [rf2, j_b]
          rfl
        unfold mnP at hm
        rw [m_isP m.2, j_b, q, if_pos rfl, m_within, j_b, e1, e40]
        cases q1 : decide (1 ≤ a.toInt ∧ a.toInt ≤ 40)
        · exact fin
        · rw [q1, Bool.true_and] at hm
          rw [if_pos rfl, m_within, j_b, e1, e40, hm]
          exact fin
    · have hmb := hm
      unfold mnP at hm
      simp only [Bool.and_eq_true, decide_eq_true_eq] at hm
      obtain ⟨k, hk, hk12, ek⟩ := exP_n q
      obtain ⟨σ1, a1, f1, c1⟩ := s_kr c
      obtain ⟨σ2, a2, o2, v2⟩ := s_setMinimums (σ := σ1) (b := 1) hk hk12 a b
      have hv : stv σ2 1 = mnS S k a.toInt b.toInt := by
        rw [v2, c1.1]
        rfl
      have hSI := mnS_SI (k := k) hS hm.1 hm.2
      obtain ⟨σ3, a3, o3, c3⟩ := c1.mod (fun x hx => o2.2 x (by omega)) hv hSI
      have w1 : fX8_at σ1 (1 + 1) 12 p = some (oI (S_mw S k)) := by
        rw [s_at (by decide), hk, ga_in hk12, ← c1.1]
        show some (oI (σ1.1 2 k).toInt) = some (oI (rw12 (σ1.1 2) k))
        rw [rw12_in hk12]
      have w2 : fX8_at σ1 (1 + 2) 12 p = some (oI (S_mh S k)) := by
        rw [s_at (by decide), hk, ga_in hk12, ← c1.1]
        show some (oI (σ1.1 3 k).toInt) = some (oI (rw12 (σ1.1 3) k))
        rw [rw12_in hk12]
      refine pi_ok (v := (100 * oI (S_mw S k)) + oI (S_mh S k)) tx m ?_ (fun x hx => by rw [o3.2 x (by omega), o2.2 x (by omega)]; exact f1 x hx) c3 (fun s ms => ?_)
      · unfold fL_setMinimum fX8_setMinimum
        rw [s_reqP (by rw [h1]; exact hS), h1, q, j_b, if_pos rfl, j_xl, s_reqM, hmb, j_b, if_pos rfl, j_xl, a1, j_b, w1, j_b, w2, j_b, j_nm, a2, j_b, a3, j_b, j_b, j_xl, if_pos (by decide), j_nm]
        rfl
      · have ms0 := ms.s3 (k := 0)
        obtain ⟨s1, b1, g1, x1, m1⟩ := m_kr ms0
        obtain ⟨s2, b2, w2, u2⟩ := m_p1 (σ := s1) hk hk12 a
        obtain ⟨s3, b3, w3, u3⟩ := m_p2 (σ := s2) hk hk12 b
        obtain ⟨e7, e8⟩ := (ms0.2.1 k hk12).2 ek
        have w : Out s1 s3 463 463 := w2.tr w3
        refine ⟨s3, ?_, (G9.s3.tr g1).tr (F9.ou w), m1.mod w ?_⟩
        · show fX9_setMinimum s 462 p a b = _
          unfold fX9_setMinimum fX9_setMinimum_38
          rw [m_isP ms.2, j_b, q, if_pos rfl, m_within, j_b, e1, e40, decide_eq_true hm.1, if_pos rfl, m_within, j_b, e1, e40, decide_eq_true hm.2, if_pos rfl, rf0, j_b]
          show (fX9_of (su s 462 3 0) 462 p 1).bind _ = _
          rw [m_o1 hk hk12, j_b, m_o2 hk hk12, j_b, j_nm, b1, j_b, b2, j_b, b3, j_b, e7, e8]
        · obtain ⟨t1, t2, t3, t4⟩ := m1.2
          rw [u3, u2]
          have e6 : ∀ (U : VW) (x y : Int) (i : Nat), mu (mu U 7 k x) 8 k y 6 i = U 6 i := fun U x y i => by rw [mu_ne (by omega), mu_ne (by omega)]
          have e7 : ∀ (U : VW) (x y : Int) (i : Nat), mu (mu U 7 k x) 8 k y 7 i = if i = k then x else U 7 i := fun U x y i => by rw [mu_ne (by omega), mu_at]
          have e8 : ∀ (U : VW) (x y : Int) (i : Nat), mu (mu U 7 k x) 8 k y 8 i = if i = k then y else U 8 i := fun U x y i => by rw [mu_at, mu_ne (by omega)]
          refine ⟨fun i hi => ?_, t2.rows (fun j hj => by rw [mu_ne (by omega), mu_ne (by omega)]), ?_, fun s hs => ?_⟩
          · rw [e6, e7, e8]
            obtain ⟨y1, y2⟩ := t1 i hi
            refine ⟨y1, fun z => ?_⟩
            show (if i = k then a.toInt else _) = ur (S_mw S) k a.toInt i ∧ (if i = k then b.toInt else _) = ur (S_mh S) k b.toInt i
            unfold ur
            by_cases z2 : i = k
            · rw [if_pos z2, if_pos z2, if_pos z2, if_pos z2]
              exact ⟨rfl, rfl⟩
            · rw [if_neg z2, if_neg z2, if_neg z2, if_neg z2]
              exact y2 z
          · show OE (_, _) _
            rw [mu_ne (by omega), mu_ne (by omega), mu_ne (by omega), mu_ne (by omega)]
            exact t3
          · rw [mu_ne (by omega), mu_ne (by omega)]
            exact t4 s hs
/-! resize, move -/
theorem FS.mu {U : VW} {j i : Nat} {x : Int} (h : 9 ≤ j ∧ j < 22) : FS U (mu U j i x) := fun k hk => mu_ne (by omega)
theorem c_resize {σ : Sg} (h : RR σ) (p a b : Int32) : PI (fL_resize σ p a b 476 1) (fun s => fX9_resize s 462 p a b) := by
  obtain ⟨S, l, c, m, tx⟩ := h
  have h1 := c.1
  have hS := c.2.2.1
  have hR : RR σ := ⟨S, l, c, m, tx⟩
  have e10 : (10 : Int32).toInt = 10 := rfl
  have e400 : (400 : Int32).toInt = 400 := rfl
  cases q : v_we (S_pl S) p.toInt
  · refine pi_no (k := 1) (b := 0) hR ?_ (by decide) ?_
    · unfold fL_resize fX8_resize
      rw [s_reqW, h1, q]
      rfl
    · show fX9_resize σ 462 p a b = _
      unfold fX9_resize fX9_resize_42
      rw [m_isW m.2.2.1, j_b, q, rf1]
      rfl
  · have fin : fX9_resize_42 462 σ p a b 2 = some (0, su σ 462 3 2) := by
      unfold fX9_resize_42
      rw [rf2, j_b]
      rfl
    by_cases ha : 10 ≤ a.toInt ∧ a.toInt ≤ 400
    · by_cases hb : 10 ≤ b.toInt ∧ b.toInt ≤ 400
      · obtain ⟨k, hk, hk5, ek⟩ := v_we_n q
        obtain ⟨σ1, a1, f1, c1⟩ := s_kr c
        obtain ⟨σ2, a2, o2, v2⟩ := s_do c1.1 (s_setSize p a b)
        have hpv := S_pv c1.1
        rw [hpv, hk] at v2
        have ge : Geo (S_pl S) := by
          obtain ⟨-, -, -, -, ⟨d, wn, i⟩, -, -⟩ := hS
          exact i.2.2.2
        have r5 : ∀ j, 5 ≤ j → up (up (S_pl S) 3 k a.toInt) 4 k b.toInt j = S_pl S j := fun j hj => by rw [up_ne (by omega), up_ne (by omega)]
        have hSI : SI (pfS S (S_fo S) (up (up (S_pl S) 3 k a.toInt) 4 k b.toInt)) := hS.geo r5 (fun w hw => by
          obtain ⟨g1, g2, g3, g4⟩ := ge w hw
          rw [up_ne (by omega), up_ne (by omega), up_ne (by omega), up_ne (by omega), up_ne (j := 4) (j' := 3) (by omega), up3 hk5, up4 hk5, up_ne (by omega)]
          refine ⟨g1, g2, ?_, ?_⟩
          · split <;> omega
          · split <;> omega)
        obtain ⟨σ3, a3, o3, c3⟩ := c1.mod (fun x hx => o2.2 x (by omega)) v2 hSI
        refine pi_ok (v := oI (v_pi (up (up (S_pl S) 3 k a.toInt) 4 k b.toInt) k)) tx m ?_ (fun x hx => by rw [o3.2 x (by omega), o2.2 x (by omega)]; exact f1 x hx) c3 (fun s ms => ?_)
        · unfold fL_resize fX8_resize
          rw [s_reqW, h1, q, j_b, if_pos rfl, j_xl, s_reqR, j_b, e10, e400, decide_eq_true ha, if_pos rfl, j_xl, s_reqR, j_b, e10, e400, decide_eq_true hb, if_pos rfl, j_xl, a1, j_b, a2, j_b, a3, j_b, s_panesIn, j_b, S_pv c3.1, hk, j_b, j_xl, if_pos (by decide), j_nm]
          rfl
        · have ms0 := ms.s3 (k := 0)
          obtain ⟨s1, b1, g1, x1, m1⟩ := m_kr ms0
          obtain ⟨s2, b2, w2, u2⟩ := m_s3 (σ := s1) hk hk5 a
          obtain ⟨s3, b3, w3, u3⟩ := m_s4 (σ := s2) hk hk5 b
          have w : Out s1 s3 463 463 := w2.tr w3
          have VM' : VM (mv (s3.1 463)) (up (up (S_pl S) 3 k a.toInt) 4 k b.toInt) (fun _ => false) := by
            rw [u3, u2]
            refine m1.2.2.1.gm (fun j hj => by rw [mu_ne (by omega), mu_ne (by omega)]) r5 (fun w hw z => ?_)
            obtain ⟨y1, y2, y3, y4⟩ := m1.2.2.1.geo hw z
            have E : ∀ (U : VW) (x y : Int) (i : Nat), mu (mu U 15 k x) 16 k y 13 i = U 13 i ∧ mu (mu U 15 k x) 16 k y 14 i = U 14 i ∧ mu (mu U 15 k x) 16 k y 15 i = (if i = k then x else U 15 i) ∧ mu (mu U 15 k x) 16 k y 16 i = if i = k then y else U 16 i := fun U x y i => ⟨by rw [mu_ne (by omega), mu_ne (by omega)], by rw [mu_ne (by omega), mu_ne (by omega)], by rw [mu_ne (by omega), mu_at], by rw [mu_at, mu_ne (by omega)]⟩
            obtain ⟨E1, E2, E3, E4⟩ := E (mv (s1.1 463)) a.toInt b.toInt w
            rw [E1, E2, E3, E4, up_ne (by omega), up_ne (by omega), up_ne (by omega), up_ne (by omega), up_ne (j := 4) (j' := 3) (by omega), up3 hk5, up4 hk5, up_ne (by omega), y1, y2, y3, y4]
            exact ⟨rfl, rfl, rfl, rfl⟩
          have tr : ∃ d wn, Tree (up (up (S_pl S) 3 k a.toInt) 4 k b.toInt) d wn (fun _ => false) ∧ Tabs (up (up (S_pl S) 3 k a.toInt) 4 k b.toInt) (fun _ => false) := by
            obtain ⟨-, -, -, -, ⟨d, wn, i⟩, -, -⟩ := hSI
            exact ⟨d, wn, i.1, i.2.1⟩
          obtain ⟨d, wn, t, tb⟩ := tr
          refine ⟨s3, ?_, (G9.s3.tr g1).tr (F9.ou w), m1.mod w (m1.2.pf ?_ VM' ?_)⟩
          · show fX9_resize s 462 p a b = _
            unfold fX9_resize fX9_resize_42
            rw [m_isW ms.2.2.1, j_b, q, if_pos rfl, m_within, j_b, e10, e400, decide_eq_true ha, if_pos rfl, m_within, j_b, e10, e400, decide_eq_true hb, if_pos rfl, rf0, j_b]
            show (fX9_saves (su s 462 3 0) 462).bind _ = _
            rw [b1, j_b, b2, j_b, b3, j_b, m_placedIn VM' t tb, j_b, hk]
          · rw [u3, u2]
            exact (FS.mu (by omega)).tr (FS.mu (by omega))
          · have : mo (mv (s3.1 463)) 20 = mo (mv (s1.1 463)) 20 := by
              unfold mo
              rw [u3, u2, mu_ne (by omega), mu_ne (by omega), mu_ne (by omega), mu_ne (by omega)]
            rw [this]
            exact m1.2.2.2.1
      · refine pi_no (k := 2) (b := 0) hR ?_ (by decide) ?_
        · unfold fL_resize fX8_resize
          rw [s_reqW, h1, q, j_b, if_pos rfl, j_xl, s_reqR, j_b, e10, e400, decide_eq_true ha, if_pos rfl, j_xl, s_reqR, j_b, e10, e400, decide_eq_false hb]
          rfl
        · show fX9_resize σ 462 p a b = _
          unfold fX9_resize fX9_resize_37
          rw [m_isW m.2.2.1, j_b, q, if_pos rfl, m_within, j_b, e10, e400, decide_eq_true ha, if_pos rfl, m_within, j_b, e10, e400, decide_eq_false hb]
          exact fin
    · refine pi_no (k := 2) (b := 0) hR ?_ (by decide) ?_
      · unfold fL_resize fX8_resize
        rw [s_reqW, h1, q, j_b, if_pos rfl, j_xl, s_reqR, j_b, e10, e400, decide_eq_false ha]
        rfl
      · show fX9_resize σ 462 p a b = _
        unfold fX9_resize fX9_resize_37
        rw [m_isW m.2.2.1, j_b, q, if_pos rfl, m_within, j_b, e10, e400, decide_eq_false ha]
        exact fin
end RA6
