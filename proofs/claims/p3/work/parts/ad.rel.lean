/-! THE RELATION: start -/
section RAD
theorem Tree.down {V : VW} {d : Nat → Nat} {wn : Nat → Int} (t : Tree V d wn (fun _ => false)) (j : Nat) : ∀ (n : Nat), 22 ≤ dq V n + j → n < 23 → V 8 n ≠ 3 → ∃ g, g < 23 ∧ V 8 g = 2 ∧ wn g = wn n := by
  induction j with
  | zero =>
    intro n hj hn hu
    have kr := t.ki hn
    by_cases k2 : V 8 n = 2
    · exact ⟨n, hn, k2, rfl⟩
    · have two := (t.sp hn (by omega)).2 rfl
      obtain ⟨c, hc, e⟩ := cnt_ex (c := fun i => decide (V 9 i = n)) (n := 23) (by omega)
      have e := of_decide_eq_true e
      have dc := t.dqc hc e
      have d22 := (t.dqs hc (t.us hc (show V 9 c ≠ -1 by omega))).1
      omega
  | succ j ih =>
    intro n hj hn hu
    have kr := t.ki hn
    by_cases k2 : V 8 n = 2
    · exact ⟨n, hn, k2, rfl⟩
    · have two := (t.sp hn (by omega)).2 rfl
      obtain ⟨c, hc, e⟩ := cnt_ex (c := fun i => decide (V 9 i = n)) (n := 23) (by omega)
      have e := of_decide_eq_true e
      have dc := t.dqc hc e
      have wc := (t.par hc e).2.2.2
      obtain ⟨g, h1, h2, h3⟩ := ih c (by omega) hc (t.us hc (show V 9 c ≠ -1 by omega))
      exact ⟨g, h1, h2, h3.trans wc⟩
/-- a window with a tree has a pane -/
theorem Inv.pane {V : VW} {d : Nat → Nat} {wn : Nat → Int} (h : Inv V d wn) {w : Nat} (hw : w < 5) (hr : V 5 w ≠ -1) : ∃ i g : Nat, i < 12 ∧ g < 23 ∧ V 13 i = g ∧ V 8 g = 2 ∧ wn g = w := by
  obtain ⟨t, tb, -, -⟩ := h
  rcases t.wi hw with z | ⟨n, hn, e5, un, -, wnn⟩
  · exact absurd z hr
  · obtain ⟨g, hg, kg, wg⟩ := t.down 22 n (by omega) hn un
    obtain ⟨f1, -⟩ := tb.fu hg kg rfl
    obtain ⟨i, hi, e⟩ := cnt_ex f1
    exact ⟨i, g, hi, hg, of_decide_eq_true e, kg, by rw [wg, wnn]⟩
theorem Inv.pi_p {V : VW} {d : Nat → Nat} {wn : Nat → Int} (h : Inv V d wn) {i g w : Nat} (hi : i < 12) (e : V 13 i = g) (wg : wn g = w) : (decide (V 13 i ≠ -1) && decide (v_wo V (V 13 i) = w)) = true := by
  obtain ⟨hg, kg⟩ := h.2.1.g2 hi e
  rw [e, h.1.wo hg (by omega), wg, decide_eq_true (by omega), decide_eq_true rfl]
  rfl
/-- the window of a pane; -1 -/
def own (V : VW) (k : Nat) : Bool := decide (v_wo V (V 13 k) = 0)
theorem start_ok {V : VW} {d : Nat → Nat} {wn : Nat → Int} (h : Inv V d wn) {k : Nat} (hk : k < 12) (hp : (v_pi V 0 : Int) ≤ if own V k then 1 else 0) : v_withdraw V k 5 0 = -1 := by
  refine Classical.byContradiction (fun hr => ?_)
  obtain ⟨h1, wd⟩ := withdraw_ok h hk
  obtain ⟨i, g, hi, hg, e, kg, wg⟩ := h1.pane (w := 0) (by omega) hr
  have ne : i ≠ k := fun z => by
    rw [z, wd.1 k hk, if_pos rfl] at e
    omega
  rw [wd.1 i hi, if_neg ne] at e
  have ci : (decide (V 13 i ≠ -1) && decide (v_wo V (V 13 i) = 0)) = true := h.pi_p hi e wg
  have c1 : 1 ≤ v_pi V 0 := cnt_pos hi ci
  cases q : own V k
  · rw [q] at hp
    simp only [Bool.false_eq_true, if_false] at hp
    omega
  · rw [q] at hp
    simp only [if_true] at hp
    unfold own at q
    have q := of_decide_eq_true q
    have np : V 13 k ≠ -1 := fun z => by
      rw [z, v_wo_m1] at q
      omega
    have ck : (decide (V 13 k ≠ -1) && decide (v_wo V (V 13 k) = 0)) = true := by
      rw [decide_eq_true np, q]
      rfl
    have := cnt_uniq (c := fun p => decide (V 13 p ≠ -1) && decide (v_wo V (V 13 p) = 0)) (n := 12) (by unfold v_pi at hp; omega) hi hk ci ck
    exact ne this
/-- a new group as the root of a window -/
def rtV (V : VW) (w : Nat) : VW := up (up V 8 (v_mn V) 2) 5 w (v_mn V)
theorem rt_roo {V : VW} {f w : Nat} (hf : f < 23) (fm : v_mn V = f) (hw : w < 5) : Roo V (rtV V w) f w := by
  unfold rtV
  rw [fm]
  refine ⟨fun i hi => by rw [up_ne (by omega), up8 hf], fun i hi => by rw [up5 hw, up_ne (by omega)], fun j hj => by rw [up_ne (by omega), up_ne (by omega)]⟩
theorem rt_odp {V : VW} {w : Nat} : odp (rtV V w) = odp V := by
  unfold rtV
  rw [odp_up (by omega) (by omega), odp_up (by omega) (by omega)]
theorem rt_geo {V : VW} {w : Nat} (h : Geo V) : Geo (rtV V w) := by
  unfold rtV
  exact h.cg (by rw [up_ne (by omega), up_ne (by omega)]) (by rw [up_ne (by omega), up_ne (by omega)]) (by rw [up_ne (by omega), up_ne (by omega)]) (by rw [up_ne (by omega), up_ne (by omega)])
def stV (V : VW) (k : Nat) : VW := v_join (rtV (v_withdraw V k) 0) k (v_mn (v_withdraw V k))
theorem c_start {σ : Sg} (h : RR σ) (p : Int32) : PI (fL_start σ p 476 1) (fun s => fX9_start s 462 p) := by
  obtain ⟨S, l, c, m, tx⟩ := h
  have h1 := c.1
  have hS := c.2.2.1
  have hR : RR σ := ⟨S, l, c, m, tx⟩
  cases q : exP S p
  · refine pi_no (k := 1) (b := 0) hR ?_ (by decide) ?_
    · unfold fL_start fX8_start
      rw [s_reqP (by rw [h1]; exact hS), h1, q]
      rfl
    · show fX9_start σ 462 p = _
      unfold fX9_start fX9_start_46 fX9_start_65
      rw [m_isP m.2, j_b, q, rf1]
      rfl
  · obtain ⟨k, hk, hk12, ek⟩ := exP_n q
    obtain ⟨-, -, -, -, ⟨d, wn, hI⟩, hO, -⟩ := id hS
    have hpv : pv σ (1 + 5) = S_pl S := S_pv h1
    have r13 : -2147483648 ≤ S_pl S 13 k ∧ S_pl S 13 k < 2147483648 := by rw [← hpv]; exact pv_rg σ (1 + 5) 13 k
    have t13 : (oI (S_pl S 13 k)).toInt = S_pl S 13 k := j_oI r13.1 r13.2
    have wr := v_wo_rg (S_pl S) (S_pl S 13 k)
    have two : (oI (v_wo (S_pl S) (S_pl S 13 k))).toInt = v_wo (S_pl S) (S_pl S 13 k) := t_wo _ _
    have pr12 : v_pi (S_pl S) 0 ≤ 12 := cnt_le _ _
    have tpi : (oI (v_pi (S_pl S) 0 : Int)).toInt = v_pi (S_pl S) 0 := t_pi _ _
    have z0 : (0 : Int32).toInt = 0 := rfl
    -- the class
    have pre8 : fX8_start σ p = fX8_start_30 σ p (if own (S_pl S) k then 1 else 0) := by
      unfold fX8_start
      rw [s_reqP (by rw [h1]; exact hS), h1, q, j_b, if_pos rfl, j_xl, s_groupOf, j_b, s_windowOf, j_b, hpv, hk, ga_in hk12, t13]
      unfold own
      by_cases z : v_wo (S_pl S) (S_pl S 13 k) = 0
      · rw [if_pos (by rw [z]; rfl), decide_eq_true z, if_pos rfl]
      · rw [if_neg (fun y => z (by rw [j_eq, two, jz0] at y; exact y)), decide_eq_false z, if_neg Bool.false_ne_true]
    -- the reference
    have pre9 : ∀ s, MR s S l → fX9_start s 462 p = if (v_pi (S_pl S) 0 : Int) ≤ (if own (S_pl S) k then 1 else 0) then fX9_start_65 462 s p 0 else fX9_start_65 462 s p 2 := fun s ms => by
      have vm := ms.2.2.1
      have e46 : ∀ x : Int32, x.toInt = 0 ∨ x.toInt = 1 → fX9_start_46 462 s p (b2i true) (oI (v_pi (S_pl S) 0 : Int) - x) = if (v_pi (S_pl S) 0 : Int) ≤ x.toInt then fX9_start_65 462 s p 0 else fX9_start_65 462 s p 2 := fun x hx => by
        unfold fX9_start_46
        rw [if_neg (show ¬ b2i true = 0 by decide)]
        have es : (oI (v_pi (S_pl S) 0 : Int) - x).toInt = v_pi (S_pl S) 0 - x.toInt := by
          rw [j_sub (by rw [tpi]; omega) (by rw [tpi]; omega), tpi]
        by_cases z : (v_pi (S_pl S) 0 : Int) ≤ x.toInt
        · rw [if_pos z, if_pos (by rw [j_le, es, jz0]; omega)]
        · rw [if_neg z, if_neg (fun y => by rw [j_le, es, jz0] at y; omega)]
      unfold fX9_start
      rw [m_isP ms.2, j_b, q, if_pos rfl, m_placedIn vm hI.1 hI.2.1, j_b, z0, m_isL vm hk hk12, j_b]
      unfold own
      cases qp : plc (S_pl S) k
      · have z : S_pl S 13 k = -1 := by
          unfold plc at qp
          exact Classical.byContradiction (fun y => by rw [decide_eq_true y] at qp; cases qp)
        rw [if_neg Bool.false_ne_true, z, v_wo_m1, decide_eq_false (by omega), if_neg Bool.false_ne_true]
        unfold fX9_start_40 fX9_start_41
        exact e46 0 (Or.inl rfl)
      · have np : S_pl S 13 k ≠ -1 := by
          unfold plc at qp
          exact of_decide_eq_true qp
        obtain ⟨g, hg, eg, kg⟩ := (hI.2.1.gr hk12).resolve_left np
        rw [if_pos rfl, m_o3 hk hk12, j_b, vm.gr hk12, m_windowOf vm hI.1 (n := g) (by rw [t13, eg]) hg (by omega), j_b, eg, hI.1.wo hg (by omega)]
        have wo := hI.1.wo hg (by omega)
        rw [eg, wo] at wr two
        by_cases z : wn g = 0
        · rw [if_pos (by rw [z]; rfl), decide_eq_true z, if_pos rfl]
          unfold fX9_start_41
          exact e46 1 (Or.inr rfl)
        · rw [if_neg (fun y => z (by rw [j_eq, two, jz0] at y; exact y)), decide_eq_false z, if_neg Bool.false_ne_true]
          unfold fX9_start_40 fX9_start_41
          exact e46 0 (Or.inl rfl)
    have ts0 : (if own (S_pl S) k then (1 : Int32) else 0).toInt = if own (S_pl S) k then 1 else 0 := by
      split <;> rfl
    have pre8' : fX8_start_30 σ p (if own (S_pl S) k then 1 else 0) = if (v_pi (S_pl S) 0 : Int) ≤ (if own (S_pl S) k then 1 else 0) then ((fX8_keepRecord σ).bind fun σ7 => (fX1_withdraw σ7 (1 + 5) p).bind fun σ8 => (fX1_makeRootGroup σ8 (1 + 5) 0).bind fun r9 => (fX1_joinGroup r9.2 (1 + 5) p r9.1).bind fun σ10 => (fX0_putFirst σ10 (1 + 3) p).bind fun σ11 => (fX2_compute σ11 422 1).bind fun σ12 => some (.inl 0, σ12)) else some (.inr 2, σ) := by
      unfold fX8_start_30
      rw [s_panesIn, j_b, hpv, z0]
      by_cases z : (v_pi (S_pl S) 0 : Int) ≤ (if own (S_pl S) k then 1 else 0)
      · rw [if_pos z, if_pos (by rw [j_le, tpi, ts0]; exact z)]
      · rw [if_neg z, if_neg (fun y => z (by rw [j_le, tpi, ts0] at y; exact y))]
    by_cases ok : (v_pi (S_pl S) 0 : Int) ≤ (if own (S_pl S) k then 1 else 0)
    · obtain ⟨hI1, wd⟩ := withdraw_ok hI hk12
      have root0 := start_ok hI hk12 ok
      have k1 : v_withdraw (S_pl S) k 13 k = -1 := by rw [wd.1 k hk12, if_pos rfl]
      have h15 : v_withdraw (S_pl S) k 15 k = 0 := by rw [wd.2.1 k hk12, if_pos rfl]
      obtain ⟨f, hf, fm, f3, fl⟩ := v_mn_sp (free_V hI1 hk12 k1).1
      have roo := rt_roo (V := v_withdraw (S_pl S) k) hf fm (w := 0) (by omega)
      have hO1 := hI1.2.2.1
      have loR : LO (odp (rtV (v_withdraw (S_pl S) k) 0)) 5 (flw (rtV (v_withdraw (S_pl S) k) 0)) := by
        rw [rt_odp]
        refine hO1.cg (fun i hi => ?_)
        unfold flw
        by_cases z : i = 0
        · rw [z]; rfl
        · rw [roo.2.1 i hi, if_neg z]
      have hJ := inv_root hI1 hk12 k1 hf f3 (w := 0) (by omega) root0 roo loR (rt_geo hI1.2.2.2)
      have jr := join_rows (V := rtV (v_withdraw (S_pl S) k) 0) hk12 hf
      have e13 : rtV (v_withdraw (S_pl S) k) 0 13 = v_withdraw (S_pl S) k 13 := roo.2.2 13 (by omega)
      have vS : stV (S_pl S) k = v_join (rtV (v_withdraw (S_pl S) k) 0) k f := by unfold stV; rw [fm]
      have hSI : SI (pfS S (o_pf (S_fo S) k) (stV (S_pl S) k)) := by
        rw [vS]
        exact dk_SI hS hk12 ek hJ (fun i hi ne => by rw [jr.1 i, if_neg ne, e13, wd.1 i hi, if_neg ne]) (by rw [jr.1 k, if_pos rfl]; omega)
      obtain ⟨σ1, a1, f1, c1⟩ := s_kr c
      obtain ⟨σ2, a2, o2, v2⟩ := s_wd c1.1 hI p
      rw [hk] at v2
      obtain ⟨σ3, a3, o3, v3⟩ := s_makeRootGroup (σ := σ2) (b := 1 + 5) 0
      have pv2 : pv σ2 (1 + 5) = v_withdraw (S_pl S) k := S_pv v2
      rw [pv2] at v3
      rw [pv2, fm] at a3
      have v3' : stv σ3 1 = pfS S (S_fo S) (rtV (v_withdraw (S_pl S) k) 0) := by
        rw [stv_pl (b := 1) o3, v3, v2]
        rfl
      have tf : (oI (f : Int)).toInt = f := j_oI (by omega) (by omega)
      obtain ⟨σ4, a4, o4, v4⟩ := s_do v3' (s_join (σ := σ3) (b := 1 + 5) p (oI (f : Int)))
      rw [S_pv v3', hk, tf] at v4
      obtain ⟨σ5, a5, o5, v5⟩ := s_pfo v4 (hO.ok (by decide)) p
      rw [hk] at v5
      have O : Out σ1 σ5 1 70 := ((o2.tr (o3.mo (by omega) (by omega))).tr o4).tr o5
      obtain ⟨σ6, a6, o6, c6⟩ := c1.mod (fun x hx => O.2 x (by omega)) (show stv σ5 1 = pfS S (o_pf (S_fo S) k) (stV (S_pl S) k) by rw [vS]; exact v5) hSI
      refine pi_ok (v := 0) tx m ?_ (fun x hx => by rw [o6.2 x (by omega), O.2 x (by omega)]; exact f1 x hx) c6 (fun s ms => ?_)
      · unfold fL_start
        rw [pre8, pre8', if_pos ok, a1, j_b, a2, j_b, a3, j_b]
        show (((fX1_joinGroup σ3 (1 + 5) p (oI (f : Int))).bind _).bind _) = _
        rw [a4, j_b, a5, j_b, a6, j_b, j_b, j_xl, if_pos (by decide), j_nm]
        rfl
      · obtain ⟨s1, b1, g1, x1, m1⟩ := m_kr (ms.s3 (k := 0))
        obtain ⟨s2, b2, w2, vm2, fr2⟩ := m_takes m1.2.2.1 hI.1 hI.2.1 hI.2.2.1 hk hk12
        have oe := m1.2.2.2.1
        have mo2 : mo (mv (s2.1 463)) 20 = mo (mv (s1.1 463)) 20 := by
          unfold mo
          rw [fr2 20 (by omega), fr2 21 (by omega)]
        have r5 : ∀ v, v < 5 → rtV (v_withdraw (S_pl S) k) 0 5 v = if v = 0 then (f : Int) else v_withdraw (S_pl S) k 5 v := roo.2.1
        have gr : ∀ j, j ≤ 4 → rtV (v_withdraw (S_pl S) k) 0 j = v_withdraw (S_pl S) k j := fun j hj => by
          unfold rtV
          rw [up_ne (by omega), up_ne (by omega)]
        obtain ⟨s3, b3, w3, vm3, oe3, fs3⟩ := m_roots (σ := s2) (U := mv (s2.1 463)) (V := v_withdraw (S_pl S) k) (V' := rtV (v_withdraw (S_pl S) k) 0) (d := d) (wn := wn) vm2 hI1.1 hf f3 fl (w := 0) (by omega) roo (fun _ _ => rfl) (fun v hv => by
          rw [vm2.ex hv, r5 v hv]
          by_cases z : v = 0
          · rw [if_pos (Or.inl z), if_pos (Or.inl z)]
          · rw [if_neg z]) (fun v hv z => by
          rw [gr 1 (by omega), gr 2 (by omega), gr 3 (by omega), gr 4 (by omega)]
          refine vm2.geo hv ?_
          rw [r5 v hv] at z
          by_cases y : v = 0
          · exact Or.inl y
          · rw [if_neg y] at z
            exact z) (by rw [rt_odp]; exact vm2.oe) (a := p) (b := 0) hk hk12 rfl k1 h15 (o := S_fo S) (by rw [mo2]; exact oe) (hO.ok (by decide)) (hO.lt hk12)
        refine ⟨s3, ?_, (G9.s3.tr g1).tr (F9.ou (w2.tr w3)), m1.mod (w2.tr w3) ?_⟩
        · show fX9_start s 462 p = _
          rw [pre9 s ms, if_pos ok]
          unfold fX9_start_65
          rw [rf0, j_b]
          show (fX9_saves (su s 462 3 0) 462).bind _ = _
          rw [b1, j_b, b2, j_b, b3, j_b]
        · rw [vS]
          exact m1.2.pf (fr2.fs.tr fs3) vm3 oe3
    · refine pi_no (k := 2) (b := 0) hR ?_ (by decide) ?_
      · unfold fL_start
        rw [pre8, pre8', if_neg ok]
        rfl
      · show fX9_start σ 462 p = _
        rw [pre9 σ m, if_neg ok]
        unfold fX9_start_65
        rw [rf2]
        rfl
end RAD
