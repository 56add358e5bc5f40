/-! THE RELATION: move, raise, takeAway -/
section RA7
theorem c_move {σ : Sg} (h : RR σ) (p a b : Int32) : PI (fL_move σ p a b 476 1) (fun s => fX9_move s 462 p a b) := by
  obtain ⟨S, l, c, m, tx⟩ := h
  have h1 := c.1
  have hS := c.2.2.1
  have hR : RR σ := ⟨S, l, c, m, tx⟩
  have em : (-400 : Int32).toInt = -400 := rfl
  have e400 : (400 : Int32).toInt = 400 := rfl
  cases q : v_we (S_pl S) p.toInt
  · refine pi_no (k := 1) (b := 0) hR ?_ (by decide) ?_
    · unfold fL_move fX8_move
      rw [s_reqW, h1, q]
      rfl
    · show fX9_move σ 462 p a b = _
      unfold fX9_move fX9_move_52
      rw [m_isW m.2.2.1, j_b, q, rf1]
      rfl
  · have fin : fX9_move_52 462 σ p a b 2 = some (0, su σ 462 3 2) := by
      unfold fX9_move_52
      rw [rf2, j_b]
      rfl
    by_cases ha : -400 ≤ a.toInt ∧ a.toInt ≤ 400
    · by_cases hb : -400 ≤ b.toInt ∧ b.toInt ≤ 400
      · by_cases p0 : p = 0
        · refine pi_no (k := 3) (b := 0) hR ?_ (by decide) ?_
          · unfold fL_move fX8_move fX8_requireFloating
            rw [s_reqW, h1, q, j_b, if_pos rfl, j_xl, s_reqR, j_b, em, e400, decide_eq_true ha, if_pos rfl, j_xl, s_reqR, j_b, em, e400, decide_eq_true hb, if_pos rfl, j_xl, if_pos p0]
            rfl
          · show fX9_move σ 462 p a b = _
            unfold fX9_move fX9_move_52
            rw [m_isW m.2.2.1, j_b, q, if_pos rfl, m_within, j_b, em, e400, decide_eq_true ha, if_pos rfl, m_within, j_b, em, e400, decide_eq_true hb, if_pos rfl, if_pos p0, rf3]
            rfl
        · obtain ⟨k, hk, hk5, ek⟩ := v_we_n q
          obtain ⟨σ1, a1, f1, c1⟩ := s_kr c
          obtain ⟨σ2, a2, o2, v2⟩ := s_do c1.1 (s_setCorner p a b)
          have hpv := S_pv c1.1
          rw [hpv, hk] at v2
          have ge : Geo (S_pl S) := by
            obtain ⟨-, -, -, -, ⟨d, wn, i⟩, -, -⟩ := hS
            exact i.2.2.2
          have r5 : ∀ j, 5 ≤ j → up (up (S_pl S) 1 k a.toInt) 2 k b.toInt j = S_pl S j := fun j hj => by rw [up_ne (by omega), up_ne (by omega)]
          have hSI : SI (pfS S (S_fo S) (up (up (S_pl S) 1 k a.toInt) 2 k b.toInt)) := hS.geo r5 (fun w hw => by
            obtain ⟨g1, g2, g3, g4⟩ := ge w hw
            rw [up_ne (j := 2) (j' := 1) (by omega), up1 hk5, up2 hk5, up_ne (by omega), up_ne (by omega), up_ne (by omega), up_ne (by omega), up_ne (by omega)]
            refine ⟨?_, ?_, g3, g4⟩
            · split <;> omega
            · split <;> omega)
          obtain ⟨σ3, a3, o3, c3⟩ := c1.mod (fun x hx => o2.2 x (by omega)) v2 hSI
          refine pi_ok (v := oI (S_pl S 1 k)) tx m ?_ (fun x hx => by rw [o3.2 x (by omega), o2.2 x (by omega)]; exact f1 x hx) c3 (fun s ms => ?_)
          · unfold fL_move fX8_move fX8_requireFloating
            rw [s_reqW, h1, q, j_b, if_pos rfl, j_xl, s_reqR, j_b, em, e400, decide_eq_true ha, if_pos rfl, j_xl, s_reqR, j_b, em, e400, decide_eq_true hb, if_pos rfl, j_xl, if_neg p0, j_b, j_xl, a1, j_b, s_v1, j_b, a2, j_b, a3, j_b, j_b, j_xl, if_pos (by decide), j_nm, hpv, hk, ga_in hk5]
            rfl
          · have ms0 := ms.s3 (k := 0)
            obtain ⟨s1, b1, g1, x1, m1⟩ := m_kr ms0
            obtain ⟨s2, b2, w2, u2⟩ := m_s1 (σ := s1) hk hk5 a
            obtain ⟨s3, b3, w3, u3⟩ := m_s2 (σ := s2) hk hk5 b
            have w : Out s1 s3 463 463 := w2.tr w3
            have VM' : VM (mv (s3.1 463)) (up (up (S_pl S) 1 k a.toInt) 2 k b.toInt) (fun _ => false) := by
              rw [u3, u2]
              refine m1.2.2.1.gm (fun j hj => by rw [mu_ne (by omega), mu_ne (by omega)]) r5 (fun w hw z => ?_)
              obtain ⟨y1, y2, y3, y4⟩ := m1.2.2.1.geo hw z
              have E : ∀ (U : VW) (x y : Int) (i : Nat), mu (mu U 13 k x) 14 k y 15 i = U 15 i ∧ mu (mu U 13 k x) 14 k y 16 i = U 16 i ∧ mu (mu U 13 k x) 14 k y 13 i = (if i = k then x else U 13 i) ∧ mu (mu U 13 k x) 14 k y 14 i = if i = k then y else U 14 i := fun U x y i => ⟨by rw [mu_ne (by omega), mu_ne (by omega)], by rw [mu_ne (by omega), mu_ne (by omega)], by rw [mu_ne (by omega), mu_at], by rw [mu_at, mu_ne (by omega)]⟩
              obtain ⟨E1, E2, E3, E4⟩ := E (mv (s1.1 463)) a.toInt b.toInt w
              rw [E1, E2, E3, E4, up_ne (j := 2) (j' := 1) (by omega), up1 hk5, up2 hk5, up_ne (by omega), up_ne (by omega), up_ne (by omega), up_ne (by omega), up_ne (by omega), y1, y2, y3, y4]
              exact ⟨rfl, rfl, rfl, rfl⟩
            have ek' := (ms0.2.2.1.geo hk5 ek).1
            refine ⟨s3, ?_, (G9.s3.tr g1).tr (F9.ou w), m1.mod w (m1.2.pf ?_ VM' ?_)⟩
            · show fX9_move s 462 p a b = _
              unfold fX9_move fX9_move_52
              rw [m_isW ms.2.2.1, j_b, q, if_pos rfl, m_within, j_b, em, e400, decide_eq_true ha, if_pos rfl, m_within, j_b, em, e400, decide_eq_true hb, if_pos rfl, if_neg p0, rf0, j_b]
              show (fX9_window (su s 462 3 0) 462 p 1 1).bind _ = _
              rw [m_w1 hk hk5, j_b, b1, j_b, b2, j_b, b3, j_b, ek']
            · rw [u3, u2]
              exact (FS.mu (by omega)).tr (FS.mu (by omega))
            · have : mo (mv (s3.1 463)) 20 = mo (mv (s1.1 463)) 20 := by
                unfold mo
                rw [u3, u2, mu_ne (by omega), mu_ne (by omega), mu_ne (by omega), mu_ne (by omega)]
              rw [this]
              exact m1.2.2.2.1
      · refine pi_no (k := 2) (b := 0) hR ?_ (by decide) ?_
        · unfold fL_move fX8_move
          rw [s_reqW, h1, q, j_b, if_pos rfl, j_xl, s_reqR, j_b, em, e400, decide_eq_true ha, if_pos rfl, j_xl, s_reqR, j_b, em, e400, decide_eq_false hb]
          rfl
        · show fX9_move σ 462 p a b = _
          unfold fX9_move fX9_move_39
          rw [m_isW m.2.2.1, j_b, q, if_pos rfl, m_within, j_b, em, e400, decide_eq_true ha, if_pos rfl, m_within, j_b, em, e400, decide_eq_false hb]
          exact fin
    · refine pi_no (k := 2) (b := 0) hR ?_ (by decide) ?_
      · unfold fL_move fX8_move
        rw [s_reqW, h1, q, j_b, if_pos rfl, j_xl, s_reqR, j_b, em, e400, decide_eq_false ha]
        rfl
      · show fX9_move σ 462 p a b = _
        unfold fX9_move fX9_move_39
        rw [m_isW m.2.2.1, j_b, q, if_pos rfl, m_within, j_b, em, e400, decide_eq_false ha]
        exact fin
/-! raise -/
theorem Lay.vc {V V' : VW} {mw mh : Nat → Int} {P : VW} (h : Lay V mw mh P) (e : ∀ j, j ≠ 6 → j ≠ 7 → j ≠ 12 → j ≠ 14 → V' j = V j) : Lay V' mw mh P := by
  have vs : vis V' = vis V := by
    funext n p
    unfold vis
    rw [e 13 (by omega) (by omega) (by omega) (by omega), e 15 (by omega) (by omega) (by omega) (by omega)]
  have kd : kids V' = kids V := by
    funext n
    unfold kids v_cc v_ca
    rw [e 9 (by omega) (by omega) (by omega) (by omega), e 10 (by omega) (by omega) (by omega) (by omega)]
  have pl : pls V' P = pls V P := by
    funext n
    unfold pls
    rw [kd]
  have d8 : dr V' = dr V := by
    funext n
    unfold dr
    rw [e 8 (by omega) (by omega) (by omega) (by omega)]
  unfold Lay LG LT LR LA lsh lrm
  rw [vs, pl, d8, e 8 (by omega) (by omega) (by omega) (by omega), e 9 (by omega) (by omega) (by omega) (by omega), e 11 (by omega) (by omega) (by omega) (by omega), e 5 (by omega) (by omega) (by omega) (by omega), e 1 (by omega) (by omega) (by omega) (by omega), e 2 (by omega) (by omega) (by omega) (by omega), e 3 (by omega) (by omega) (by omega) (by omega), e 4 (by omega) (by omega) (by omega) (by omega)]
  exact h
theorem LO.lt4 {V : VW} (h : LO (odp V) 5 (flw V)) {k : Nat} (hk : k < 5) (k1 : 1 ≤ k) : (o_lv (odp V) k).1 < 4 := by
  have l2 := h.lv2 (m' := fun i => flw V i && decide (i ≠ k)) hk (by simp) (fun i _ hi => by simp [hi])
  rw [l2.1]
  have a := cnt_one_more (c := fun i => flw V i && decide (i ≠ k)) (d := fun i => (flw V i && decide (i ≠ k)) || decide (i = k)) (n := 5) hk (fun i _ hi => by simp [hi]) (by simp) (by simp)
  have f0 : flw V 0 = false := rfl
  have b := cnt_one_more (c := fun i => (flw V i && decide (i ≠ k)) || decide (i = k)) (d := fun i => ((flw V i && decide (i ≠ k)) || decide (i = k)) || decide (i = 0)) (n := 5) (i0 := 0) (by omega) (fun i _ hi => by simp [hi]) (by simp [f0]; omega) (by simp)
  have e := cnt_le (fun i => ((flw V i && decide (i ≠ k)) || decide (i = k)) || decide (i = 0)) 5
  omega
theorem VM.fl {U U' V : VW} {X : Nat → Bool} (h : VM U V X) (e : ∀ j, (j < 6 ∨ (9 ≤ j ∧ j < 18)) → U' j = U j) {o : OD} (oe : OE (mo U' 18) o) : VM U' (v_od V o) X := by
  obtain ⟨a1, a2, a3, a4, a5, a6, a7, a8, a9⟩ := h
  have v : ∀ j, j ≠ 6 → j ≠ 7 → v_od V o j = V j := fun j h6 h7 => v_od_ne h6 h7
  unfold VM
  rw [e 0 (by omega), e 1 (by omega), e 2 (by omega), e 3 (by omega), e 4 (by omega), e 5 (by omega), e 9 (by omega), e 10 (by omega), e 11 (by omega), e 12 (by omega), e 13 (by omega), e 14 (by omega), e 15 (by omega), e 16 (by omega), e 17 (by omega), v 1 (by omega) (by omega), v 2 (by omega) (by omega), v 3 (by omega) (by omega), v 4 (by omega) (by omega), v 5 (by omega) (by omega), v 8 (by omega) (by omega), v 9 (by omega) (by omega), v 10 (by omega) (by omega), v 11 (by omega) (by omega), v 12 (by omega) (by omega), v 13 (by omega) (by omega), v 14 (by omega) (by omega), v 15 (by omega) (by omega)]
  refine ⟨a1, a2, a3, a4, a5, a6, a7, ?_, ?_, a9.2⟩
  · exact oe.1
  · intro k hk
    exact oe.2 k (by rw [oe.1]; exact hk)
theorem flw_k {V : VW} {k : Nat} (h : k = 0 ∨ V 5 k ≠ -1) (k0 : k ≠ 0) : flw V k = true := by
  have : V 5 k ≠ -1 := by omega
  unfold flw
  rw [decide_eq_true this, decide_eq_true (show 1 ≤ k by omega)]
  rfl
theorem SI.fl {S : ST} {k : Nat} (h : SI S) (hk : k < 5) (ek : k = 0 ∨ S_pl S 5 k ≠ -1) (k0 : k ≠ 0) : SI (pfS S (S_fo S) (v_od (S_pl S) (o_pl (odp (S_pl S)) k))) := by
  obtain ⟨h1, h2, h3, h4, ⟨d, wn, i⟩, h6, h7⟩ := h
  have v : ∀ j, j ≠ 6 → j ≠ 7 → v_od (S_pl S) (o_pl (odp (S_pl S)) k) j = S_pl S j := fun j h6 h7 => v_od_ne h6 h7
  refine SI.pf (S := S) ⟨h1, h2, h3, h4, ⟨d, wn, i⟩, h6, h7⟩ (i.rows (V' := v_od (S_pl S) (o_pl (odp (S_pl S)) k)) (fun j hj => v j (by omega) (by omega)) ?_ (i.2.2.2.cg (v 1 (by omega) (by omega)) (v 2 (by omega) (by omega)) (v 3 (by omega) (by omega)) (v 4 (by omega) (by omega)))) (fun p hp z => h4 p hp (by rw [← v 13 (by omega) (by omega)]; exact z)) (h6.cg (fun p _ => by unfold plc; rw [v 13 (by omega) (by omega)]))
  rw [v_od_odp]
  exact i.2.2.1.pl_old (by decide) hk (flw_k ek k0)
theorem PL.vc {σ : Sg} {S : ST} {o : OD} {V' : VW} (h : PL σ S) (e : ∀ j, j ≠ 6 → j ≠ 7 → j ≠ 12 → j ≠ 14 → V' j = S_pl S j) : PL σ (pfS S o V') := by
  refine ⟨h.1.vc e, fun n hn z => h.2 n hn ?_⟩
  rw [← e 8 (by omega) (by omega) (by omega) (by omega)]
  exact z
theorem c_raise {σ : Sg} (h : RR σ) (p : Int32) : PI (fL_raise σ p 476 1) (fun s => fX9_raise s 462 p) := by
  obtain ⟨S, l, c, m, tx⟩ := h
  have h1 := c.1
  have hS := c.2.2.1
  have hR : RR σ := ⟨S, l, c, m, tx⟩
  cases q : v_we (S_pl S) p.toInt
  · refine pi_no (k := 1) (b := 0) hR ?_ (by decide) ?_
    · unfold fL_raise fX8_raise
      rw [s_reqW, h1, q]
      rfl
    · show fX9_raise σ 462 p = _
      unfold fX9_raise fX9_raise_22
      rw [m_isW m.2.2.1, j_b, q, rf1]
      rfl
  · by_cases p0 : p = 0
    · refine pi_no (k := 2) (b := 0) hR ?_ (by decide) ?_
      · unfold fL_raise fX8_raise fX8_requireFloating
        rw [s_reqW, h1, q, j_b, if_pos rfl, j_xl, if_pos p0]
        rfl
      · show fX9_raise σ 462 p = _
        unfold fX9_raise fX9_raise_22
        rw [m_isW m.2.2.1, j_b, q, if_pos rfl, if_pos p0, rf2]
        rfl
    · obtain ⟨k, hk, hk5, ek⟩ := v_we_n q
      have k0 : k ≠ 0 := fun z => p0 (j_eq.mpr (by rw [hk, z]; rfl))
      obtain ⟨-, -, -, -, ⟨d, wn, hI⟩, hO, -⟩ := id hS
      have F := fl4 hI.2.2.1
      obtain ⟨σ1, a1, f1, c1⟩ := s_kr c
      have hpv := S_pv c1.1
      have okf : OkO (odp (pv σ1 (1 + 5))) := by rw [hpv]; exact hI.2.2.1.ok (by decide)
      obtain ⟨σ2, a2, o2, v2⟩ := s_do c1.1 (s_flLast p okf)
      rw [hpv, hk] at v2
      have hSI := hS.fl hk5 ek k0
      have c2 := c1.mod0 (fun x hx => o2.2 x (by omega)) v2 hSI (fun pl => pl.vc (fun j h6 h7 _ _ => v_od_ne h6 h7))
      refine pi_ok (v := oI (o_ix (odp (S_pl S)) k)) tx m ?_ (fun x hx => by rw [o2.2 x (by omega)]; exact f1 x hx) c2 (fun s ms => ?_)
      · unfold fL_raise fX8_raise fX8_requireFloating
        rw [s_reqW, h1, q, j_b, if_pos rfl, j_xl, if_neg p0, j_b, j_xl, a1, j_b, s_indexOf (by rw [← odp_odv]; exact okf), j_b, a2, j_b, ← odp_odv, hpv, hk, j_b, j_xl, if_pos (by decide), j_nm]
        rfl
      · have ms0 := ms.s3 (k := 0)
        have oe0 := ms0.2.2.1.oe
        obtain ⟨s1, b1, g1, x1, m1⟩ := m_kr ms0
        have oe := m1.2.2.1.oe
        obtain ⟨s2, b2, w2, u2, r2⟩ := m_comesLast (σ := s1) (j := 18) (c := 246) (cap := 4) (Or.inl ⟨rfl, rfl, rfl⟩) (by rw [oe.1]; exact F) p (by rw [(oe.lv p.toInt).1, hk]; exact hI.2.2.1.lt4 hk5 (by omega))
        have oe2 : OE (mo (mv (s2.1 463)) 18) (o_pl (odp (S_pl S)) k) := by
          rw [← hk]
          exact u2.tr (oe.pl p.toInt)
        refine ⟨s2, ?_, (G9.s3.tr g1).tr (F9.ou w2), m1.mod w2 (m1.2.pf (fun j hj => r2 j (by omega) (by omega)) (m1.2.2.1.fl (fun j hj => r2 j (by omega) (by omega)) oe2) ?_)⟩
        · show fX9_raise s 462 p = _
          unfold fX9_raise fX9_raise_22
          rw [m_isW ms.2.2.1, j_b, q, if_pos rfl, if_neg p0, rf0, j_b]
          show (fX9_placeIn (su s 462 3 0) 462 246 p).bind _ = _
          rw [show (246 : Int32) = nI 246 from rfl, m_placeIn (j := 18) (cap := 4) (Or.inl ⟨rfl, rfl, rfl⟩) (by rw [oe0.1]; exact F), j_b, b1, j_b, b2, j_b, oe0.ix, hk]
        · have : mo (mv (s2.1 463)) 20 = mo (mv (s1.1 463)) 20 := by
            unfold mo
            rw [r2 20 (by omega) (by omega), r2 21 (by omega) (by omega)]
          rw [this]
          exact m1.2.2.2.1
/-! takeAway -/
theorem c_takeAway {σ : Sg} (h : RR σ) (p : Int32) : PI (fL_takeAway σ p 476 1) (fun s => fX9_takeAway s 462 p) := by
  obtain ⟨S, l, c, m, tx⟩ := h
  have h1 := c.1
  have hS := c.2.2.1
  have hR : RR σ := ⟨S, l, c, m, tx⟩
  cases q : exP S p
  · refine pi_no (k := 1) (b := 0) hR ?_ (by decide) ?_
    · unfold fL_takeAway fX8_takeAway
      rw [s_reqP (by rw [h1]; exact hS), h1, q]
      rfl
    · show fX9_takeAway σ 462 p = _
      unfold fX9_takeAway fX9_takeAway_28
      rw [m_isP m.2, j_b, q, rf1]
      rfl
  · obtain ⟨k, hk, hk12, ek⟩ := exP_n q
    cases qp : plc (S_pl S) k
    · refine pi_no (k := 2) (b := 0) hR ?_ (by decide) ?_
      · unfold fL_takeAway fX8_takeAway
        rw [s_reqP (by rw [h1]; exact hS), h1, q, j_b, if_pos rfl, j_xl, s_reqL hk hk12, h1, qp]
        rfl
      · show fX9_takeAway σ 462 p = _
        unfold fX9_takeAway fX9_takeAway_28
        rw [m_isP m.2, j_b, q, if_pos rfl, m_isL m.2.2.1 hk hk12, qp, rf2]
        rfl
    · obtain ⟨σ1, a1, f1, c1⟩ := s_kr c
      obtain ⟨-, -, -, -, ⟨d, wn, hI⟩, hO, -⟩ := id hS
      obtain ⟨σ2, a2, o2, v2⟩ := s_wd c1.1 hI p
      obtain ⟨σ3, a3, o3, v3⟩ := s_lv v2 (hO.ok (by decide)) p
      have hv : stv σ3 1 = pfS S (o_lv (S_fo S) k) (v_withdraw (S_pl S) k) := by
        rw [v3]
        unfold pfS
        rw [hk]
      have o : Out σ1 σ3 1 70 := o2.tr o3
      have hSI := gone_SI hS hk12
      obtain ⟨σ5, a5, o5, c5⟩ := c1.mod (fun x hx => o.2 x (by omega)) hv hSI
      refine pi_ok (v := oI (o_lv (S_fo S) k).1) tx m ?_ (fun x hx => by rw [o5.2 x (by omega), o.2 x (by omega)]; exact f1 x hx) c5 (fun s ms => ?_)
      · unfold fL_takeAway fX8_takeAway
        have sz : odv σ5 (1 + 3) = o_lv (S_fo S) k := by
          have := congrArg S_fo c5.1
          exact this
        rw [s_reqP (by rw [h1]; exact hS), h1, q, j_b, if_pos rfl, j_xl, s_reqL hk hk12, h1, qp, j_b, if_pos rfl, j_xl, a1, j_b, a2, j_b, a3, j_b, a5, j_b, s_size, sz, j_b, j_b, j_xl, if_pos (by decide), j_nm]
        rfl
      · obtain ⟨s1, b1, g1, e1, m1⟩ := m_kr (ms.s3 (k := 0))
        obtain ⟨s2, s3, b2, b3, w3, sm3⟩ := m_gone hS m1.2 hk hk12
        refine ⟨s3, ?_, (G9.s3.tr g1).tr (F9.ou w3), m1.mod w3 sm3⟩
        show fX9_takeAway s 462 p = _
        unfold fX9_takeAway fX9_takeAway_28
        rw [m_isP ms.2, j_b, q, if_pos rfl, m_isL ms.2.2.1 hk hk12, qp, j_b, if_pos rfl, rf0, j_b]
        show (fX9_saves (su s 462 3 0) 462).bind _ = _
        have cn := LO.cn hSI
        have cn : (o_lv (S_fo S) k).1 = cnt (plc (v_withdraw (S_pl S) k)) 12 := cn
        have pm := sm3.2.1.pm
        have pm : m_pm (mv (s3.1 463)) = cnt (plc (v_withdraw (S_pl S) k)) 12 := pm
        rw [b1, j_b, b2, j_b, b3, j_b, m_placedMany, j_b, pm, ← cn]
end RA7
