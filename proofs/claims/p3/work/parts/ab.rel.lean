/-! THE RELATION: activate -/
section RAB
theorem act_tabs {V : VW} (h : Tabs V (fun _ => false)) {p g : Nat} (hp : p < 12) (e : V 13 p = g) (q : V 15 p = 0) : Tabs (up V 12 g p) (fun _ => false) := by
  obtain ⟨hg, kg⟩ := h.g2 hp e
  have rr : ∀ j, j ≠ 12 → up V 12 g p j = V j := fun j hj => up_ne hj
  refine ⟨fun q hq => ?_, fun q hq z => ?_, fun q hq => ?_, fun s hs ks => ?_⟩
  · rw [rr 13 (by omega), rr 8 (by omega)]
    exact h.gr hq
  · rw [rr 13 (by omega)] at z
    rw [rr 14 (by omega), rr 15 (by omega)]
    exact h.no hq z
  · rw [rr 15 (by omega)]
    exact h.hi hq
  · rw [rr 8 (by omega)] at ks
    obtain ⟨f1, f2⟩ := h.fu hs ks rfl
    rw [rr 13 (by omega), rr 14 (by omega)]
    refine ⟨h.nu hs ks, fun _ => ⟨f1, ?_⟩⟩
    by_cases z : s = g
    · subst z
      exact Or.inr ⟨p, hp, by rw [up12 hg, if_pos rfl], by rw [rr 13 (by omega)]; exact e, by rw [rr 15 (by omega)]; exact q⟩
    · exact f2.cg (by rw [up12 hg, if_neg z]) (fun q _ => by rw [rr 13 (by omega)]) (fun q _ _ => by rw [rr 15 (by omega)])
/-- the first one in the order of focus -/
theorem s_pfo {σ : Sg} {S : ST} (hs : stv σ 1 = S) (ok : OkO (S_fo S)) (p : Int32) : ∃ σ', fX0_putFirst σ (1 + 3) p = some σ' ∧ Out σ σ' 1 70 ∧ stv σ' 1 = pfS S (o_pf (S_fo S) p.toInt) (S_pl S) := by
  subst hs
  obtain ⟨σ', a, b, c⟩ := s_putFirst (σ := σ) (c := 1 + 3) ok p
  refine ⟨σ', a, b.mo (by omega) (by omega), ?_⟩
  rw [stv_fo (b := 1) b, c]
  rfl
theorem SI.fo {S : ST} (h : SI S) {k : Nat} (hk : k < 12) (qp : plc (S_pl S) k = true) : SI (pfS S (o_pf (S_fo S) k) (S_pl S)) := by
  obtain ⟨h1, h2, h3, h4, ⟨d, wn, i⟩, h6, h7⟩ := h
  exact SI.pf (S := S) ⟨h1, h2, h3, h4, ⟨d, wn, i⟩, h6, h7⟩ i h4 (h6.pf (by decide) hk qp (fun _ _ _ => rfl))
def acV (V : VW) (g k : Nat) : VW := if v_wo V g = 0 then up V 12 g k else v_od (up V 12 g k) (o_pl (odp V) (v_wo V g))
theorem c_activate {σ : Sg} (h : RR σ) (p : Int32) : PI (fL_activate σ p 476 1) (fun s => fX9_activate s 462 p) := by
  obtain ⟨S, l, c, m, tx⟩ := h
  have h1 := c.1
  have hS := c.2.2.1
  have hR : RR σ := ⟨S, l, c, m, tx⟩
  cases q : exP S p
  · refine pi_no (k := 1) (b := 0) hR ?_ (by decide) ?_
    · unfold fL_activate fX8_activate
      rw [s_reqP (by rw [h1]; exact hS), h1, q]
      rfl
    · show fX9_activate σ 462 p = _
      unfold fX9_activate fX9_activate_28
      rw [m_isP m.2, j_b, q, rf1]
      rfl
  · obtain ⟨k, hk, hk12, ek⟩ := exP_n q
    have isS : ∀ s, MR s S l → fX9_isShown s 462 p = some (plc (S_pl S) k && decide (S_pl S 15 k = 0)) := fun s ms => by
      rw [m_isShown hk hk12, ms.2.2.1.gr hk12, ms.2.2.1.hi hk12]
      rfl
    cases qp : plc (S_pl S) k
    · refine pi_no (k := 2) (b := 0) hR ?_ (by decide) ?_
      · unfold fL_activate fX8_activate
        rw [s_reqP (by rw [h1]; exact hS), h1, q, j_b, if_pos rfl, j_xl, s_reqL hk hk12, h1, qp]
        rfl
      · show fX9_activate σ 462 p = _
        unfold fX9_activate fX9_activate_28
        rw [m_isP m.2, j_b, q, if_pos rfl, isS σ m, qp, rf2]
        rfl
    · obtain ⟨-, -, -, -, ⟨d, wn, hI⟩, hO, -⟩ := id hS
      have tb := hI.2.1
      have t := hI.1
      have np : S_pl S 13 k ≠ -1 := by
        unfold plc at qp
        exact of_decide_eq_true qp
      obtain ⟨g, hg, eg, kg⟩ := (tb.gr hk12).resolve_left np
      have r13 : -2147483648 ≤ S_pl S 13 k ∧ S_pl S 13 k < 2147483648 := by omega
      have t13 : (oI (S_pl S 13 k)).toInt = S_pl S 13 k := j_oI r13.1 r13.2
      have hpv : pv σ (1 + 5) = S_pl S := S_pv h1
      have hid : fX1_isHidden σ (1 + 5) p = some (decide (S_pl S 15 k = 1)) := by
        rw [s_isHidden, hpv, hk, v_hd_in hk12]
      rcases tb.hi hk12 with y | y
      · have ny : ¬ S_pl S 15 k = 1 := by omega
        obtain ⟨w, hw5, ew, e5⟩ := t.wr5 hg (by omega)
        have vw : v_wo (S_pl S) g = w := by rw [t.wo hg (by omega), ew]
        obtain ⟨σ1, a1, f1, c1⟩ := s_kr c
        have hpv1 := S_pv c1.1
        obtain ⟨σ2, a2, o2, v2⟩ := s_do c1.1 (s_setActive (σ := σ1) (b := 1 + 5) (oI (S_pl S 13 k)) p)
        rw [hpv1, hk, t13, eg] at v2
        have rr : ∀ j, j ≠ 12 → up (S_pl S) 12 g k j = S_pl S j := fun j hj => up_ne hj
        have SI2 : SI (pfS S (S_fo S) (up (S_pl S) 12 g k)) := hS.tb (fun j h12 _ _ => rr j h12) (act_tabs tb hk12 eg y)
        obtain ⟨σ3, a3, o3, v3⟩ := s_pfo v2 (hO.ok (by decide)) p
        rw [hk] at v3
        have SI3 := SI2.fo hk12 (by show plc (up (S_pl S) 12 g k) k = true; unfold plc at qp ⊢; rw [rr 13 (by omega)]; exact qp)
        have o : Out σ1 σ3 1 70 := o2.tr o3
        have w3 : fX1_windowOf σ3 (1 + 5) (oI (S_pl S 13 k)) = some (oI w) := by
          rw [s_windowOf, t13, eg, S_pv v3]
          show some (oI (v_wo (up (S_pl S) 12 g k) g)) = _
          have : v_wo (up (S_pl S) 12 g k) g = v_wo (S_pl S) g := by
            obtain ⟨-, -, -, -, ⟨d', wn', hI'⟩, -, -⟩ := SI3
            have t' : Tree (up (S_pl S) 12 g k) d wn (fun _ => false) := t.cg (fun n _ => by rw [rr 8 (by omega)]) (fun n _ => by rw [rr 9 (by omega)]) (fun n _ => by rw [rr 10 (by omega)]) (fun n hn q => by rw [rr 11 (by omega)]; exact t.we hn q) (fun w _ => by rw [rr 5 (by omega)])
            rw [t'.wo hg (by rw [rr 8 (by omega)]; omega), t.wo hg (by omega)]
          rw [this, vw]
        have od1 : odp (up (S_pl S) 12 g k) = odp (S_pl S) := odp_up (by omega) (by omega)
        have r12 : ga (S_pl S 12) 23 g = S_pl S 12 g := ga_in hg
        -- the reference, up to the windows
        have ref : ∀ s, MR s S l → ∃ s1 s3, fX9_activate s 462 p = ((fX9_windowOf s3 462 (oI (S_pl S 13 k))).bind fun r9 => if r9 ≤ 0 then some (oI (S_pl S 12 g), s3) else (fX9_windowOf s3 462 (oI (S_pl S 13 k))).bind fun r10 => (fX9_comesLast s3 462 246 r10).bind fun σ11 => some (oI (S_pl S 12 g), σ11)) ∧ G9 s s3 0 ∧ MR s1 S (keep l S) ∧ Out s1 s3 463 463 ∧ SM (mv (s3.1 463)) (pfS S (o_pf (S_fo S) k) (up (S_pl S) 12 g k)) ∧ fX9_windowOf s3 462 (oI (S_pl S 13 k)) = some (oI w) := fun s ms => by
          have ms0 := ms.s3 (k := 0)
          obtain ⟨s1, b1, g1, x1, m1⟩ := m_kr ms0
          have vm := m1.2.2.1
          obtain ⟨s2, b2, w2, u2⟩ := m_l5 (σ := s1) (a := oI (S_pl S 13 k)) (n := g) (by rw [t13, eg]) (by omega) p
          have Uo : ∀ j, j ≠ 5 → mv (s2.1 463) j = mv (s1.1 463) j := fun j hj => by rw [u2, mu_ne hj]
          have mo2 : mo (mv (s2.1 463)) 20 = mo (mv (s1.1 463)) 20 := by
            unfold mo
            rw [Uo 20 (by omega), Uo 21 (by omega)]
          have vm2 : VM (mv (s2.1 463)) (up (S_pl S) 12 g k) (fun _ => false) := vm.tb (fun j hj => Uo j (by omega)) (fun j h12 _ _ => rr j h12) (fun n hn kn => by
            rw [u2, mu_at, up12 hg, hk]
            by_cases z : n = g
            · rw [if_pos z, if_pos z]
            · rw [if_neg z, if_neg z]
              exact vm.ac hn kn rfl) (fun n hn kn => by rw [u2, mu_at, if_neg (fun y => by rw [y] at kn; omega)]) (fun i hi z => by
            rw [Uo 10 (by omega), rr 14 (by omega)]
            exact vm.sp hi z) (fun i hi => by
            rw [Uo 11 (by omega), rr 15 (by omega)]
            exact vm.hi hi)
          have oe := m1.2.2.2.1
          have ok := hO.ok (by decide)
          obtain ⟨s3, b3, w3', u3, r3⟩ := m_comesFirst (σ := s2) (j := 20) (c := 251) (cap := 12) (Or.inr ⟨rfl, rfl, rfl⟩) (by rw [mo2, oe.1]; exact ok) p (by rw [mo2, (oe.lv p.toInt).1, hk]; exact hO.lt hk12)
          rw [mo2, hk] at u3
          have oe3 := u3.tr (oe.pf k)
          have vm3 : VM (mv (s3.1 463)) (up (S_pl S) 12 g k) (fun _ => false) := vm2.rows (fun j hj => r3 j (by omega) (by omega))
          have t' : Tree (up (S_pl S) 12 g k) d wn (fun _ => false) := t.cg (fun n _ => by rw [rr 8 (by omega)]) (fun n _ => by rw [rr 9 (by omega)]) (fun n _ => by rw [rr 10 (by omega)]) (fun n hn q => by rw [rr 11 (by omega)]; exact t.we hn q) (fun w _ => by rw [rr 5 (by omega)])
          refine ⟨s1, s3, ?_, (G9.s3.tr g1).tr (F9.ou (w2.tr w3')), m1, w2.tr w3', m1.2.pf (fun j hj => by rw [r3 j (by omega) (by omega)]; exact Uo j (by omega)) vm3 oe3, ?_⟩
          · show fX9_activate s 462 p = _
            unfold fX9_activate fX9_activate_28
            rw [m_isP ms.2, j_b, q, if_pos rfl, isS s ms, qp, y, j_b, if_pos (by decide), rf0, j_b]
            show (fX9_of (su s 462 3 0) 462 p 3).bind _ = _
            rw [m_o3 hk hk12, j_b, ms0.2.2.1.gr hk12, m_i5 (n := g) (by rw [t13, eg]) (by omega), j_b, ms0.2.2.1.ac hg kg rfl, b1, j_b, b2, j_b, show (251 : Int32) = nI 251 from rfl, b3, j_b]
          · rw [m_windowOf vm3 t' (n := g) (by rw [t13, eg]) hg (by rw [rr 8 (by omega)]; omega), ew]
        by_cases w0 : w = 0
        · have SIf : SI (pfS S (o_pf (S_fo S) k) (acV (S_pl S) g k)) := by
            unfold acV
            rw [vw, if_pos (by omega)]
            exact SI3
          have vf : stv σ3 1 = pfS S (o_pf (S_fo S) k) (acV (S_pl S) g k) := by
            unfold acV
            rw [vw, if_pos (show (w : Int) = 0 by omega)]
            exact v3
          have c3 := c1.mod0 (fun x hx => o.2 x (by omega)) vf SIf (fun pl => pl.vc (fun j _ _ h12 _ => by
            unfold acV
            rw [vw, if_pos (by omega)]
            exact rr j h12))
          refine pi_ok (v := oI (S_pl S 12 g)) tx m ?_ (fun x hx => by rw [o.2 x (by omega)]; exact f1 x hx) c3 (fun s ms => ?_)
          · unfold fL_activate fX8_activate
            rw [s_reqP (by rw [h1]; exact hS), h1, q, j_b, if_pos rfl, j_xl, s_reqL hk hk12, h1, qp, j_b, if_pos rfl, j_xl, hid, j_b, decide_eq_false ny, if_neg Bool.false_ne_true, a1, j_b, s_groupOf, j_b, hpv1, hk, ga_in hk12, s_activeOf, j_b, hpv1, t13, eg, r12]
            rw [eg] at a2 w3
            rw [a2, j_b, a3, j_b, w3, j_b, if_pos (show oI (w : Int) = 0 by rw [w0]; rfl), j_b, j_xl, if_pos (by decide), j_nm]
            rfl
          · obtain ⟨s1, s3, b, gg, m1, oo, sm, ww⟩ := ref s ms
            refine ⟨s3, ?_, gg, m1.mod oo ?_⟩
            · show fX9_activate s 462 p = _
              rw [b, ww, j_b, if_pos (by rw [w0]; decide)]
            · unfold acV
              rw [vw, if_pos (show (w : Int) = 0 by omega)]
              exact sm
        · have fw : flw (S_pl S) w = true := flw_k (Or.inr e5) w0
          have F := fl4 hI.2.2.1
          obtain ⟨σ4, a4, o4, v4⟩ := s_do v3 (s_flLast (σ := σ3) (b := 1 + 5) (oI w) (by
            rw [S_pv v3]
            show OkO (odp (up (S_pl S) 12 g k))
            rw [od1]
            exact hI.2.2.1.ok (by decide)))
          rw [S_pv v3, j_oI (by omega) (by omega)] at v4
          have evV : v_od (S_pl (pfS S (o_pf (S_fo S) k) (up (S_pl S) 12 g k))) (o_pl (odp (S_pl (pfS S (o_pf (S_fo S) k) (up (S_pl S) 12 g k)))) w) = acV (S_pl S) g k := by
            show v_od (up (S_pl S) 12 g k) (o_pl (odp (up (S_pl S) 12 g k)) w) = _
            unfold acV
            rw [vw, if_neg (show ¬ (w : Int) = 0 by omega), od1]
          have SI4 : SI (pfS S (o_pf (S_fo S) k) (v_od (S_pl (pfS S (o_pf (S_fo S) k) (up (S_pl S) 12 g k))) (o_pl (odp (S_pl (pfS S (o_pf (S_fo S) k) (up (S_pl S) 12 g k)))) w))) := SI3.fl (k := w) hw5 (Or.inr (by show up (S_pl S) 12 g k 5 w ≠ -1; rw [rr 5 (by omega)]; exact e5)) w0
          rw [evV] at SI4
          have vf : stv σ4 1 = pfS S (o_pf (S_fo S) k) (acV (S_pl S) g k) := by
            rw [v4]
            show pfS S (o_pf (S_fo S) k) (v_od (S_pl (pfS S (o_pf (S_fo S) k) (up (S_pl S) 12 g k))) (o_pl (odp (S_pl (pfS S (o_pf (S_fo S) k) (up (S_pl S) 12 g k)))) w)) = _
            rw [evV]
          have SIf : SI (pfS S (o_pf (S_fo S) k) (acV (S_pl S) g k)) := SI4
          have o' : Out σ1 σ4 1 70 := o.tr o4
          have c4 := c1.mod0 (fun x hx => o'.2 x (by omega)) vf SIf (fun pl => pl.vc (fun j h6 h7 h12 _ => by
            unfold acV
            rw [vw, if_neg (show ¬ (w : Int) = 0 by omega), v_od_ne h6 h7]
            exact rr j h12))
          refine pi_ok (v := oI (S_pl S 12 g)) tx m ?_ (fun x hx => by rw [o'.2 x (by omega)]; exact f1 x hx) c4 (fun s ms => ?_)
          · unfold fL_activate fX8_activate
            rw [s_reqP (by rw [h1]; exact hS), h1, q, j_b, if_pos rfl, j_xl, s_reqL hk hk12, h1, qp, j_b, if_pos rfl, j_xl, hid, j_b, decide_eq_false ny, if_neg Bool.false_ne_true, a1, j_b, s_groupOf, j_b, hpv1, hk, ga_in hk12, s_activeOf, j_b, hpv1, t13, eg, r12]
            rw [eg] at a2 w3
            rw [a2, j_b, a3, j_b, w3, j_b, if_neg (fun z => by rw [j_eq, j_oI (by omega) (by omega), jz0] at z; omega), a4, j_b, j_b, j_xl, if_pos (by decide), j_nm]
            rfl
          · obtain ⟨s1, s3, b, gg, m1, oo, sm, ww⟩ := ref s ms
            have oe := sm.2.1.oe
            have oe : OE (mo (mv (s3.1 463)) 18) (odp (S_pl S)) := by
              have z : odp (S_pl (pfS S (o_pf (S_fo S) k) (up (S_pl S) 12 g k))) = odp (S_pl S) := od1
              rw [z] at oe
              exact oe
            have tw : (oI (w : Int)).toInt = w := j_oI (by omega) (by omega)
            obtain ⟨s4, b4, w4, u4, r4⟩ := m_comesLast (σ := s3) (j := 18) (c := 246) (cap := 4) (Or.inl ⟨rfl, rfl, rfl⟩) (by rw [oe.1]; exact F) (oI w) (by rw [(oe.lv _).1, tw]; exact hI.2.2.1.lt4 hw5 (by omega))
            have oe4 : OE (mo (mv (s4.1 463)) 18) (o_pl (odp (S_pl S)) w) := by
              rw [tw] at u4
              exact u4.tr (oe.pl w)
            refine ⟨s4, ?_, gg.tr (F9.ou w4), m1.mod (oo.tr w4) ?_⟩
            · show fX9_activate s 462 p = _
              rw [b, ww, j_b, if_neg (fun z => by rw [j_le, tw, jz0] at z; omega), j_b, show (246 : Int32) = nI 246 from rfl, b4, j_b]
            · have := sm.pf (fun j hj => r4 j (by omega) (by omega)) (sm.2.1.fl (fun j hj => r4 j (by omega) (by omega)) oe4) (by
                have : mo (mv (s4.1 463)) 20 = mo (mv (s3.1 463)) 20 := by
                  unfold mo
                  rw [r4 20 (by omega) (by omega), r4 21 (by omega) (by omega)]
                rw [this]
                exact sm.2.2.1)
              have e : pfS S (o_pf (S_fo S) k) (acV (S_pl S) g k) = pfS (pfS S (o_pf (S_fo S) k) (up (S_pl S) 12 g k)) (S_fo (pfS S (o_pf (S_fo S) k) (up (S_pl S) 12 g k))) (v_od (S_pl (pfS S (o_pf (S_fo S) k) (up (S_pl S) 12 g k))) (o_pl (odp (S_pl S)) w)) := by
                unfold acV
                rw [vw, if_neg (show ¬ (w : Int) = 0 by omega)]
                rfl
              rw [e]
              exact this
      · refine pi_no (k := 2) (b := 0) hR ?_ (by decide) ?_
        · unfold fL_activate fX8_activate
          rw [s_reqP (by rw [h1]; exact hS), h1, q, j_b, if_pos rfl, j_xl, s_reqL hk hk12, h1, qp, j_b, if_pos rfl, j_xl, hid, j_b, decide_eq_true y]
          rfl
        · show fX9_activate σ 462 p = _
          unfold fX9_activate fX9_activate_28
          rw [m_isP m.2, j_b, q, if_pos rfl, isS σ m, qp, y, rf2]
          rfl
end RAB
