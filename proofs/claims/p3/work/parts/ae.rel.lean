/-! THE RELATION: floatAt -/
section RAE
theorem fw_ex {V : VW} {d : Nat → Nat} {wn : Nat → Int} (h : Inv V d wn) (hc : (odp V).1 < 4) : ∃ w, 1 ≤ w ∧ w < 5 ∧ V 5 w = -1 := by
  refine Classical.byContradiction (fun z => ?_)
  have f : ∀ w, 1 ≤ w → w < 5 → flw V w = true := fun w h1 h5 => by
    have : V 5 w ≠ -1 := fun y => z ⟨w, h1, h5, y⟩
    exact flw_k (Or.inr this) (by omega)
  have e : cnt (flw V) 5 = 4 := by
    unfold cnt cnt cnt cnt cnt cnt
    rw [f 1 (by omega) (by omega), f 2 (by omega) (by omega), f 3 (by omega) (by omega), f 4 (by omega) (by omega)]
    rfl
  have := h.2.2.1.1
  omega
theorem wd_5 {V : VW} {d : Nat → Nat} {wn : Nat → Int} (h : Inv V d wn) {k w : Nat} (hk : k < 12) (hw : w < 5) (e : V 5 w = -1) : v_withdraw V k 5 w = -1 := by
  obtain ⟨-, wd⟩ := withdraw_ok h hk
  obtain ⟨-, -, -, -, -, -, w5, -⟩ := wd
  rw [w5 w hw (fun g eg z => ?_)]
  · exact e
  · obtain ⟨hg, kg⟩ := h.2.1.g2 hk eg
    obtain ⟨w', h5, e1, e2⟩ := h.1.wr5 hg (by omega)
    have : w' = w := by omega
    rw [this] at e2
    exact e2 e
theorem v_od_join {V : VW} {o : OD} {k : Nat} {g : Int} : v_od (v_join V k g) o = v_join (v_od V o) k g := by
  have tc : v_tc (v_od V o) g = v_tc V g := by
    unfold v_tc
    rw [v_od_ne (by omega) (by omega)]
  unfold v_join
  rw [tc]
  funext j i
  by_cases h6 : j = 6
  · subst h6
    rw [up_ne (by omega), up_ne (by omega), up_ne (by omega)]
    unfold v_od
    rw [if_pos rfl, if_pos rfl, up_ne (by omega), up_ne (by omega), up_ne (by omega)]
  · by_cases h7 : j = 7
    · subst h7
      rw [up_ne (by omega), up_ne (by omega), up_ne (by omega)]
      unfold v_od
      rw [if_neg (by omega), if_pos rfl, if_neg (by omega), if_pos rfl]
    · rw [v_od_ne h6 h7, up_def, up_def, up_def, up_def, up_def, up_def, v_od_ne h6 h7]
def geV (V : VW) (w : Nat) (x y a b : Int) : VW := up (up (up (up V 1 w x) 2 w y) 3 w a) 4 w b
theorem ge_hi {V : VW} {w : Nat} {x y a b : Int} {j : Nat} (h : 5 ≤ j) : geV V w x y a b j = V j := by
  unfold geV
  rw [up_ne (by omega), up_ne (by omega), up_ne (by omega), up_ne (by omega)]
theorem ge_lo {V : VW} {w : Nat} {x y a b : Int} (hw : w < 5) : (∀ i, geV V w x y a b 1 i = if i = w then x else V 1 i) ∧ (∀ i, geV V w x y a b 2 i = if i = w then y else V 2 i) ∧ (∀ i, geV V w x y a b 3 i = if i = w then a else V 3 i) ∧ ∀ i, geV V w x y a b 4 i = if i = w then b else V 4 i := by
  unfold geV
  refine ⟨fun i => ?_, fun i => ?_, fun i => ?_, fun i => ?_⟩
  · rw [up_ne (by omega), up_ne (by omega), up_ne (by omega), up1 hw]
  · rw [up_ne (by omega), up_ne (by omega), up2 hw, up_ne (by omega)]
  · rw [up_ne (by omega), up3 hw, up_ne (by omega), up_ne (by omega)]
  · rw [up4 hw, up_ne (by omega), up_ne (by omega), up_ne (by omega)]
theorem ge_mn {V : VW} {w : Nat} {x y a b : Int} : v_mn (geV V w x y a b) = v_mn V := by
  unfold v_mn
  rw [ge_hi (by omega)]
theorem ge_odp {V : VW} {w : Nat} {x y a b : Int} : odp (geV V w x y a b) = odp V := by
  unfold odp
  rw [ge_hi (by omega), ge_hi (by omega)]
def fpV (V : VW) (w : Nat) (x y a b : Int) : VW := v_od (rtV (geV V w x y a b) w) (o_pl (odp V) w)
theorem fp_rows {V : VW} {w f : Nat} {x y a b : Int} (hw : w < 5) (hf : f < 23) (fm : v_mn V = f) : Roo V (fpV V w x y a b) f w ∧ (∀ j, 1 ≤ j → j ≤ 4 → fpV V w x y a b j = geV V w x y a b j) ∧ odp (fpV V w x y a b) = o_pl (odp V) w := by
  have roo := rt_roo (V := geV V w x y a b) hf (by rw [ge_mn, fm]) hw
  have v : ∀ j, j ≠ 6 → j ≠ 7 → fpV V w x y a b j = rtV (geV V w x y a b) w j := fun j h6 h7 => v_od_ne h6 h7
  refine ⟨⟨fun i hi => ?_, fun i hi => ?_, fun j hj => ?_⟩, fun j h1 h4 => ?_, v_od_odp⟩
  · rw [v 8 (by omega) (by omega), roo.1 i hi, ge_hi (by omega)]
  · rw [v 5 (by omega) (by omega), roo.2.1 i hi, ge_hi (by omega)]
  · rw [v j (by omega) (by omega), roo.2.2 j hj, ge_hi (by omega)]
  · rw [v j (by omega) (by omega)]
    unfold rtV
    rw [up_ne (by omega), up_ne (by omega)]
/-- the reference's search for a window that is free -/
theorem m_fl118 {σ : Sg} {V : VW} (h : VM (mv (σ.1 463)) V (fun _ => false)) {w : Nat} (hw : w < 5) (h1 : 1 ≤ w) (hr : V 5 w = -1) (hl : ∀ v, 1 ≤ v → v < w → V 5 v ≠ -1) (p x y a b : Int32) : ∃ n, fX9_floatAt_118 462 FU σ p x y a b 1 = (fX9_floatAt_118 462 (n + 1) σ p x y a b (nI w)) := by
  have step : ∀ n v, 1 ≤ v → v < w → fX9_floatAt_118 462 (n + 1) σ p x y a b (nI v) = fX9_floatAt_118 462 n σ p x y a b (nI (v + 1)) := fun n v v1 vw => by
    have : v_we V (nI v).toInt = true := by
      rw [j_nI (by omega), v_we_k (by omega), decide_eq_true (hl v v1 vw), Bool.or_true]
    rw [fX9_floatAt_118, m_isW h, j_b, this, if_pos rfl, j_s]
  have key : ∀ j v n, 1 ≤ v → v + j = w → fX9_floatAt_118 462 (n + j) σ p x y a b (nI v) = fX9_floatAt_118 462 n σ p x y a b (nI w) := by
    intro j
    induction j with
    | zero =>
      intro v n _ e
      rw [show v = w by omega]
      rfl
    | succ j ih =>
      intro v n v1 e
      rw [show n + (j + 1) = (n + j) + 1 by omega, step (n + j) v v1 (by omega)]
      exact ih (v + 1) n (by omega) (by omega)
  refine ⟨FU - (w - 1) - 1, ?_⟩
  have := key (w - 1) 1 (FU - (w - 1)) (by omega) (by omega)
  rw [show FU - (w - 1) + (w - 1) = FU by show 6000 - (w - 1) + (w - 1) = 6000; omega] at this
  rw [show FU - (w - 1) - 1 + 1 = FU - (w - 1) by show 6000 - (w - 1) - 1 + 1 = 6000 - (w - 1); omega]
  exact this
theorem c_floatAt {σ : Sg} (h : RR σ) (p x y a b : Int32) : PI (fL_floatAt σ p x y a b 476 1) (fun s => fX9_floatAt s 462 p x y a b) := by
  obtain ⟨S, l, c, m, tx⟩ := h
  have h1 := c.1
  have hS := c.2.2.1
  have hR : RR σ := ⟨S, l, c, m, tx⟩
  have em : (-400 : Int32).toInt = -400 := rfl
  have e400 : (400 : Int32).toInt = 400 := rfl
  have e10 : (10 : Int32).toInt = 10 := rfl
  have no : ∀ (z : Int32), z = 1 ∨ z = 2 ∨ z = 3 → fX9_floatAt_98 462 σ p x y a b z = some (0, su σ 462 3 z) := fun z hz => by
    unfold fX9_floatAt_98
    rcases hz with rfl | rfl | rfl
    · rw [rf1]; rfl
    · rw [rf2]; rfl
    · rw [rf3]; rfl
  -- the reference's first tests
  have may : ∀ s, fX9_floatAt s 462 p x y a b = if (decide (-400 ≤ x.toInt ∧ x.toInt ≤ 400) && decide (-400 ≤ y.toInt ∧ y.toInt ≤ 400) && decide (10 ≤ a.toInt ∧ a.toInt ≤ 400) && decide (10 ≤ b.toInt ∧ b.toInt ≤ 400)) = true then fX9_floatAt_57 462 s p x y a b 1 else fX9_floatAt_57 462 s p x y a b 0 := fun s => by
    unfold fX9_floatAt fX9_floatAt_56
    rw [m_within, m_within, m_within, m_within, em, e400, e10]
    simp only [j_b]
    cases decide (-400 ≤ x.toInt ∧ x.toInt ≤ 400) <;> cases decide (-400 ≤ y.toInt ∧ y.toInt ≤ 400) <;> cases decide (10 ≤ a.toInt ∧ a.toInt ≤ 400) <;> cases decide (10 ≤ b.toInt ∧ b.toInt ≤ 400) <;> rfl
  cases q : exP S p
  · refine pi_no (k := 1) (b := 0) hR ?_ (by decide) ?_
    · unfold fL_floatAt fX8_floatAt
      rw [s_reqP (by rw [h1]; exact hS), h1, q]
      rfl
    · show fX9_floatAt σ 462 p x y a b = _
      rw [may σ]
      have : ∀ s0, fX9_floatAt_57 462 σ p x y a b s0 = some (0, su σ 462 3 1) := fun s0 => by
        unfold fX9_floatAt_57
        rw [m_isP m.2, j_b, q]
        exact no 1 (Or.inl rfl)
      rw [this, this]
      split <;> rfl
  have bad : (decide (-400 ≤ x.toInt ∧ x.toInt ≤ 400) && decide (-400 ≤ y.toInt ∧ y.toInt ≤ 400) && decide (10 ≤ a.toInt ∧ a.toInt ≤ 400) && decide (10 ≤ b.toInt ∧ b.toInt ≤ 400)) = false → fX9_floatAt σ 462 p x y a b = some (0, su σ 462 3 2) := fun z => by
    rw [may σ, z, if_neg Bool.false_ne_true]
    unfold fX9_floatAt_57
    rw [m_isP m.2, j_b, q, if_pos rfl, if_pos rfl]
    exact no 2 (Or.inr (Or.inl rfl))
  by_cases hx : -400 ≤ x.toInt ∧ x.toInt ≤ 400
  · by_cases hy : -400 ≤ y.toInt ∧ y.toInt ≤ 400
    · by_cases ha : 10 ≤ a.toInt ∧ a.toInt ≤ 400
      · by_cases hb : 10 ≤ b.toInt ∧ b.toInt ≤ 400
        · obtain ⟨k, hk, hk12, ek⟩ := exP_n q
          obtain ⟨-, -, -, -, ⟨d, wn, hI⟩, hO, -⟩ := id hS
          have F := fl4 hI.2.2.1
          have hpv : pv σ (1 + 5) = S_pl S := S_pv h1
          have eo : (odp (S_pl S)).1 = S_pl S 6 1 := rfl
          have pre8 : fX8_floatAt σ p x y a b = if S_pl S 6 1 < 4 then ((fX8_keepRecord σ).bind fun σ17 => (fX1_withdraw σ17 (1 + 5) p).bind fun σ18 => (fX1_lowestFreeWindow σ18 (1 + 5)).bind fun r19 => (fX1_setCorner σ18 (1 + 5) r19 x y).bind fun σ20 => (fX1_setSize σ20 (1 + 5) r19 a b).bind fun σ21 => (fX1_makeRootGroup σ21 (1 + 5) r19).bind fun r22 => (fX1_joinGroup r22.2 (1 + 5) p r22.1).bind fun σ23 => (fX0_putLast σ23 ((1 + 5) + 6) r19).bind fun σ24 => (fX0_putFirst σ24 (1 + 3) p).bind fun σ25 => (fX2_compute σ25 422 1).bind fun σ26 => some (.inl r19, σ26)) else some (.inr 2, σ) := by
            unfold fX8_floatAt
            rw [s_reqP (by rw [h1]; exact hS), h1, q, j_b, if_pos rfl, j_xl, s_reqR, j_b, em, e400, decide_eq_true hx, if_pos rfl, j_xl, s_reqR, j_b, em, e400, decide_eq_true hy, if_pos rfl, j_xl, s_reqR, j_b, e10, e400, decide_eq_true ha, if_pos rfl, j_xl, s_reqR, j_b, e10, e400, decide_eq_true hb, if_pos rfl, j_xl, s_size, j_b, ← odp_odv, hpv, eo]
            have t : (oI (S_pl S 6 1)).toInt = S_pl S 6 1 := j_oI (by omega) (by omega)
            have t4 : (4 : Int32).toInt = 4 := rfl
            by_cases z : S_pl S 6 1 < 4
            · rw [if_pos z, if_pos (by rw [j_lt, t, t4]; exact z)]
            · rw [if_neg z, if_neg (fun w => z (by rw [j_lt, t, t4] at w; exact w))]
          have pre9 : ∀ s, MR s S l → fX9_floatAt s 462 p x y a b = if S_pl S 6 1 < 4 then fX9_floatAt_98 462 s p x y a b 0 else fX9_floatAt_98 462 s p x y a b 3 := fun s ms => by
            have ct := mo_ct (σ := s) (j := 18) (c := 246) (cap := 4) (Or.inl ⟨rfl, rfl, rfl⟩)
            rw [ms.2.2.1.oe.1, eo] at ct
            rw [may s, decide_eq_true hx, decide_eq_true hy, decide_eq_true ha, decide_eq_true hb, if_pos (by rfl)]
            unfold fX9_floatAt_57
            rw [m_isP ms.2, j_b, q, if_pos rfl, if_neg (show ¬ (1 : Int32) = 0 by decide), if_pos (show ck 246 921 from by decide)]
            have e246 : (246 : Int32).toNatClampNeg = 246 := by decide
            rw [e246]
            show (if s.1 463 246 = 4 then _ else _) = _
            have t4 : (4 : Int32).toInt = 4 := rfl
            by_cases z : S_pl S 6 1 < 4
            · rw [if_pos z, if_neg (fun w => by rw [j_eq, ct, t4] at w; omega)]
            · rw [if_neg z, if_pos (by rw [j_eq, ct, t4]; omega)]
          by_cases fc : S_pl S 6 1 < 4
          · obtain ⟨hI1, wd⟩ := withdraw_ok hI hk12
            have k1 : v_withdraw (S_pl S) k 13 k = -1 := by rw [wd.1 k hk12, if_pos rfl]
            have h15 : v_withdraw (S_pl S) k 15 k = 0 := by rw [wd.2.1 k hk12, if_pos rfl]
            obtain ⟨f, hf, fm, f3, fl⟩ := v_mn_sp (free_V hI1 hk12 k1).1
            -- the window
            obtain ⟨w9, w91, w95, w9r⟩ := fw_ex hI fc
            have w9r' := wd_5 hI hk12 w95 w9r
            obtain ⟨w, hw5, lw, hw1, hwr, hwl⟩ : ∃ w : Nat, w < 5 ∧ v_lw (v_withdraw (S_pl S) k) = w ∧ 1 ≤ w ∧ v_withdraw (S_pl S) k 5 w = -1 ∧ ∀ v, 1 ≤ v → v < w → v_withdraw (S_pl S) k 5 v ≠ -1 := by
              rcases fnd_spec (fun w => decide (1 ≤ w) && decide (v_withdraw (S_pl S) k 5 w = -1)) 5 with ⟨-, z⟩ | ⟨i, hi, z, u, v⟩
              · have := z w9 w95
                rw [decide_eq_true w91, decide_eq_true w9r'] at this
                cases this
              · simp only [Bool.and_eq_true, decide_eq_true_eq] at u
                refine ⟨i, hi, z, u.1, u.2, fun v' v1 vi zz => ?_⟩
                have := v v' vi
                rw [decide_eq_true v1, decide_eq_true zz] at this
                cases this
            have tw : (oI (w : Int)).toInt = w := j_oI (by omega) (by omega)
            have tf : (oI (f : Int)).toInt = f := j_oI (by omega) (by omega)
            obtain ⟨roo, glo, ood⟩ := fp_rows (V := v_withdraw (S_pl S) k) (x := x.toInt) (y := y.toInt) (a := a.toInt) (b := b.toInt) hw5 hf fm
            have gl := ge_lo (V := v_withdraw (S_pl S) k) (x := x.toInt) (y := y.toInt) (a := a.toInt) (b := b.toInt) hw5
            have lo' : LO (odp (fpV (v_withdraw (S_pl S) k) w x.toInt y.toInt a.toInt b.toInt)) 5 (flw (fpV (v_withdraw (S_pl S) k) w x.toInt y.toInt a.toInt b.toInt)) := by
              rw [ood]
              refine hI1.2.2.1.pl (by decide) hw5 ?_ (fun i hi ne => ?_)
              · unfold flw
                rw [roo.2.1 w hw5, if_pos rfl, decide_eq_true hw1, decide_eq_true (show (f : Int) ≠ -1 by omega)]
                rfl
              · unfold flw
                rw [roo.2.1 i hi, if_neg ne]
            have ge' : Geo (fpV (v_withdraw (S_pl S) k) w x.toInt y.toInt a.toInt b.toInt) := fun v hv => by
              obtain ⟨g1, g2, g3, g4⟩ := hI1.2.2.2 v hv
              rw [glo 1 (by omega) (by omega), glo 2 (by omega) (by omega), glo 3 (by omega) (by omega), glo 4 (by omega) (by omega), gl.1, gl.2.1, gl.2.2.1, gl.2.2.2]
              by_cases z : v = w
              · rw [if_pos z, if_pos z, if_pos z, if_pos z]
                exact ⟨hx, hy, ha, hb⟩
              · rw [if_neg z, if_neg z, if_neg z, if_neg z]
                exact ⟨g1, g2, g3, g4⟩
            have hJ := inv_root hI1 hk12 k1 hf f3 hw5 hwr roo lo' ge'
            have jr := join_rows (V := fpV (v_withdraw (S_pl S) k) w x.toInt y.toInt a.toInt b.toInt) hk12 hf
            have e13 : fpV (v_withdraw (S_pl S) k) w x.toInt y.toInt a.toInt b.toInt 13 = v_withdraw (S_pl S) k 13 := roo.2.2 13 (by omega)
            have hSI : SI (pfS S (o_pf (S_fo S) k) (v_join (fpV (v_withdraw (S_pl S) k) w x.toInt y.toInt a.toInt b.toInt) k f)) := dk_SI hS hk12 ek hJ (fun i hi ne => by rw [jr.1 i, if_neg ne, e13, wd.1 i hi, if_neg ne]) (by rw [jr.1 k, if_pos rfl]; omega)
            obtain ⟨σ1, a1, f1, c1⟩ := s_kr c
            obtain ⟨σ2, a2, o2, v2⟩ := s_wd c1.1 hI p
            rw [hk] at v2
            obtain ⟨σ3, a3, o3, v3⟩ := s_do v2 (s_setCorner (σ := σ2) (b := 1 + 5) (oI (w : Int)) x y)
            rw [S_pv v2, tw] at v3
            obtain ⟨σ4, a4, o4, v4⟩ := s_do v3 (s_setSize (σ := σ3) (b := 1 + 5) (oI (w : Int)) a b)
            rw [S_pv v3, tw] at v4
            have v4 : stv σ4 1 = pfS S (S_fo S) (geV (v_withdraw (S_pl S) k) w x.toInt y.toInt a.toInt b.toInt) := v4
            obtain ⟨σ5, a5, o5, v5⟩ := s_makeRootGroup (σ := σ4) (b := 1 + 5) (oI (w : Int))
            have pv4 : pv σ4 (1 + 5) = geV (v_withdraw (S_pl S) k) w x.toInt y.toInt a.toInt b.toInt := S_pv v4
            rw [pv4, tw] at v5
            rw [pv4, ge_mn, fm] at a5
            have v5' : stv σ5 1 = pfS S (S_fo S) (rtV (geV (v_withdraw (S_pl S) k) w x.toInt y.toInt a.toInt b.toInt) w) := by
              rw [stv_pl (b := 1) o5, v5, v4]
              rfl
            obtain ⟨σ6, a6, o6, v6⟩ := s_do v5' (s_join (σ := σ5) (b := 1 + 5) p (oI (f : Int)))
            rw [S_pv v5', hk, tf] at v6
            have jod : odp (v_join (rtV (geV (v_withdraw (S_pl S) k) w x.toInt y.toInt a.toInt b.toInt) w) k f) = odp (v_withdraw (S_pl S) k) := by
              have j2 := join_rows (V := rtV (geV (v_withdraw (S_pl S) k) w x.toInt y.toInt a.toInt b.toInt) w) hk12 hf
              have : odp (v_join (rtV (geV (v_withdraw (S_pl S) k) w x.toInt y.toInt a.toInt b.toInt) w) k f) = odp (rtV (geV (v_withdraw (S_pl S) k) w x.toInt y.toInt a.toInt b.toInt) w) := by
                unfold odp
                rw [j2.2.2.2 6 (by omega) (by omega) (by omega), j2.2.2.2 7 (by omega) (by omega) (by omega)]
              rw [this, rt_odp, ge_odp]
            have pv6 : pv σ6 (1 + 5) = v_join (rtV (geV (v_withdraw (S_pl S) k) w x.toInt y.toInt a.toInt b.toInt) w) k f := S_pv v6
            obtain ⟨σ7, a7, o7, v7⟩ := s_do v6 (s_flLast (σ := σ6) (b := 1 + 5) (oI (w : Int)) (by rw [pv6, jod]; exact hI1.2.2.1.ok (by decide)))
            rw [pv6, tw, jod, v_od_join] at v7
            obtain ⟨σ8, a8, o8, v8⟩ := s_pfo v7 (hO.ok (by decide)) p
            rw [hk] at v8
            have O : Out σ1 σ8 1 70 := ((((((o2.tr o3).tr o4).tr (o5.mo (by omega) (by omega))).tr o6).tr o7).tr o8)
            obtain ⟨σ9, a9, o9, c9⟩ := c1.mod (fun x hx => O.2 x (by omega)) (show stv σ8 1 = pfS S (o_pf (S_fo S) k) (v_join (fpV (v_withdraw (S_pl S) k) w x.toInt y.toInt a.toInt b.toInt) k f) from v8) hSI
            refine pi_ok (v := oI (w : Int)) tx m ?_ (fun x hx => by rw [o9.2 x (by omega), O.2 x (by omega)]; exact f1 x hx) c9 (fun s ms => ?_)
            · unfold fL_floatAt
              have lw2 : v_lw (pv σ2 (1 + 5)) = w := by
                rw [S_pv v2]
                exact lw
              rw [pre8, if_pos fc, a1, j_b, a2, j_b, s_lowestFreeWindow, j_b, lw2]
              rw [a3, j_b, a4, j_b, a5, j_b]
              show (((fX1_joinGroup σ5 (1 + 5) p (oI (f : Int))).bind _).bind _) = _
              rw [a6, j_b, a7, j_b, a8, j_b, a9, j_b, j_b, j_xl, if_pos (by decide), j_nm]
              rfl
            · obtain ⟨s1, b1, g1, x1, m1⟩ := m_kr (ms.s3 (k := 0))
              obtain ⟨s2, b2, w2, vm2, fr2⟩ := m_takes m1.2.2.1 hI.1 hI.2.1 hI.2.2.1 hk hk12
              have ew : (nI w).toInt = w := j_nI (by omega)
              obtain ⟨n, en⟩ := m_fl118 vm2 hw5 hw1 hwr hwl p x y a b
              obtain ⟨s3, b3, w3, u3⟩ := m_s0 (σ := s2) ew hw5 1
              obtain ⟨s4, b4, w4, u4⟩ := m_s1 (σ := s3) ew hw5 x
              obtain ⟨s5, b5, w5, u5⟩ := m_s2 (σ := s4) ew hw5 y
              obtain ⟨s6, b6, w6, u6⟩ := m_s3 (σ := s5) ew hw5 a
              obtain ⟨s7, b7, w7, u7⟩ := m_s4 (σ := s6) ew hw5 b
              have U7 : mv (s7.1 463) = mu (mu (mu (mu (mu (mv (s2.1 463)) 12 w (1 : Int32).toInt) 13 w x.toInt) 14 w y.toInt) 15 w a.toInt) 16 w b.toInt := by rw [u7, u6, u5, u4, u3]
              have Uo : ∀ j, (j < 12 ∨ 17 ≤ j) → mv (s7.1 463) j = mv (s2.1 463) j := fun j hj => by rw [U7, mu_ne (by omega), mu_ne (by omega), mu_ne (by omega), mu_ne (by omega), mu_ne (by omega)]
              have oe2 := vm2.oe
              have mo7 : mo (mv (s7.1 463)) 18 = mo (mv (s2.1 463)) 18 := by
                unfold mo
                rw [Uo 18 (by omega), Uo 19 (by omega)]
              have F1 := fl4 hI1.2.2.1
              obtain ⟨s8, b8, w8, u8, r8⟩ := m_comesLast (σ := s7) (j := 18) (c := 246) (cap := 4) (Or.inl ⟨rfl, rfl, rfl⟩) (by rw [mo7, oe2.1]; exact F1) (nI w) (by rw [mo7, (oe2.lv _).1, ew]; exact hI1.2.2.1.lt4 hw5 hw1)
              rw [mo7, ew] at u8
              have mo8 : mo (mv (s8.1 463)) 20 = mo (mv (s1.1 463)) 20 := by
                unfold mo
                rw [r8 20 (by omega) (by omega), r8 21 (by omega) (by omega), Uo 20 (by omega), Uo 21 (by omega), fr2 20 (by omega), fr2 21 (by omega)]
              have r5 := roo.2.1
              have E : ∀ (U : VW) (z1 z2 z3 z4 z5 : Int) (v : Nat), mu (mu (mu (mu (mu U 12 w z1) 13 w z2) 14 w z3) 15 w z4) 16 w z5 12 v = (if v = w then z1 else U 12 v) ∧ mu (mu (mu (mu (mu U 12 w z1) 13 w z2) 14 w z3) 15 w z4) 16 w z5 13 v = (if v = w then z2 else U 13 v) ∧ mu (mu (mu (mu (mu U 12 w z1) 13 w z2) 14 w z3) 15 w z4) 16 w z5 14 v = (if v = w then z3 else U 14 v) ∧ mu (mu (mu (mu (mu U 12 w z1) 13 w z2) 14 w z3) 15 w z4) 16 w z5 15 v = (if v = w then z4 else U 15 v) ∧ mu (mu (mu (mu (mu U 12 w z1) 13 w z2) 14 w z3) 15 w z4) 16 w z5 16 v = if v = w then z5 else U 16 v := fun U z1 z2 z3 z4 z5 v => ⟨by rw [mu_ne (by omega), mu_ne (by omega), mu_ne (by omega), mu_ne (by omega), mu_at], by rw [mu_ne (by omega), mu_ne (by omega), mu_ne (by omega), mu_at, mu_ne (by omega)], by rw [mu_ne (by omega), mu_ne (by omega), mu_at, mu_ne (by omega), mu_ne (by omega)], by rw [mu_ne (by omega), mu_at, mu_ne (by omega), mu_ne (by omega), mu_ne (by omega)], by rw [mu_at, mu_ne (by omega), mu_ne (by omega), mu_ne (by omega), mu_ne (by omega)]⟩
              obtain ⟨s9, b9, w9', vm9, oe9, fs9⟩ := m_roots (σ := s8) (U := mv (s2.1 463)) (V := v_withdraw (S_pl S) k) (V' := fpV (v_withdraw (S_pl S) k) w x.toInt y.toInt a.toInt b.toInt) (d := d) (wn := wn) vm2 hI1.1 hf f3 fl hw5 roo (fun j hj => by rw [r8 j (by omega) (by omega), Uo j (by omega)]) (fun v hv => by
                rw [r8 12 (by omega) (by omega), U7, (E _ _ _ _ _ _ v).1, r5 v hv]
                by_cases z : v = w
                · rw [if_pos z, if_pos z, if_pos (Or.inr (show (f : Int) ≠ -1 by omega))]
                  rfl
                · rw [if_neg z, if_neg z, vm2.ex hv]) (fun v hv z => by
                obtain ⟨-, E1, E2, E3, E4⟩ := E (mv (s2.1 463)) (1 : Int32).toInt x.toInt y.toInt a.toInt b.toInt v
                rw [r8 13 (by omega) (by omega), r8 14 (by omega) (by omega), r8 15 (by omega) (by omega), r8 16 (by omega) (by omega), U7, E1, E2, E3, E4, glo 1 (by omega) (by omega), glo 2 (by omega) (by omega), glo 3 (by omega) (by omega), glo 4 (by omega) (by omega), gl.1, gl.2.1, gl.2.2.1, gl.2.2.2]
                rw [r5 v hv] at z
                by_cases zw : v = w
                · rw [if_pos zw, if_pos zw, if_pos zw, if_pos zw, if_pos zw, if_pos zw, if_pos zw, if_pos zw]
                  exact ⟨rfl, rfl, rfl, rfl⟩
                · rw [if_neg zw] at z
                  rw [if_neg zw, if_neg zw, if_neg zw, if_neg zw, if_neg zw, if_neg zw, if_neg zw, if_neg zw]
                  exact vm2.geo hv z) (by rw [ood]; exact u8.tr (oe2.pl w)) (a := p) (b := nI w) hk hk12 ew (by rw [k1]) (by rw [h15]) (o := S_fo S) (by rw [mo8]; exact m1.2.2.2.1) (hO.ok (by decide)) (hO.lt hk12)
              have W : Out s1 s9 463 463 := (((((((w2.tr w3).tr w4).tr w5).tr w6).tr w7).tr w8).tr w9')
              have fs8 : FS (mv (s1.1 463)) (mv (s8.1 463)) := fun j hj => by rw [r8 j (by omega) (by omega), Uo j (by omega)]; exact fr2.fs j hj
              refine ⟨s9, ?_, (G9.s3.tr g1).tr (F9.ou W), m1.mod W (m1.2.pf (fs8.tr fs9) vm9 oe9)⟩
              show fX9_floatAt s 462 p x y a b = _
              rw [pre9 s ms, if_pos fc]
              unfold fX9_floatAt_98
              rw [rf0, j_b]
              show (fX9_saves (su s 462 3 0) 462).bind _ = _
              have nw : v_we (v_withdraw (S_pl S) k) (nI w).toInt = false := by
                rw [ew, v_we_k hw5, hwr, decide_eq_false (by omega)]
                rfl
              rw [b1, j_b, b2, j_b, en, fX9_floatAt_118, m_isW vm2, j_b, nw, if_neg Bool.false_ne_true, b3, j_b, b4, j_b, b5, j_b, b6, j_b, b7, j_b, show (246 : Int32) = nI 246 from rfl, b8, j_b, b9, j_b, j_nIo w (by omega)]
          · refine pi_no (k := 3) (b := 0) hR ?_ (by decide) ?_
            · unfold fL_floatAt
              rw [pre8, if_neg fc]
              rfl
            · show fX9_floatAt σ 462 p x y a b = _
              rw [pre9 σ m, if_neg fc]
              exact no 3 (Or.inr (Or.inr rfl))
        · refine pi_no (k := 2) (b := 0) hR ?_ (by decide) (bad (by rw [decide_eq_false hb, Bool.and_false]))
          unfold fL_floatAt fX8_floatAt
          rw [s_reqP (by rw [h1]; exact hS), h1, q, j_b, if_pos rfl, j_xl, s_reqR, j_b, em, e400, decide_eq_true hx, if_pos rfl, j_xl, s_reqR, j_b, em, e400, decide_eq_true hy, if_pos rfl, j_xl, s_reqR, j_b, e10, e400, decide_eq_true ha, if_pos rfl, j_xl, s_reqR, j_b, e10, e400, decide_eq_false hb]
          rfl
      · refine pi_no (k := 2) (b := 0) hR ?_ (by decide) (bad (by rw [decide_eq_false ha, Bool.and_false, Bool.false_and]))
        unfold fL_floatAt fX8_floatAt
        rw [s_reqP (by rw [h1]; exact hS), h1, q, j_b, if_pos rfl, j_xl, s_reqR, j_b, em, e400, decide_eq_true hx, if_pos rfl, j_xl, s_reqR, j_b, em, e400, decide_eq_true hy, if_pos rfl, j_xl, s_reqR, j_b, e10, e400, decide_eq_false ha]
        rfl
    · refine pi_no (k := 2) (b := 0) hR ?_ (by decide) (bad (by rw [decide_eq_false hy, Bool.and_false, Bool.false_and, Bool.false_and]))
      unfold fL_floatAt fX8_floatAt
      rw [s_reqP (by rw [h1]; exact hS), h1, q, j_b, if_pos rfl, j_xl, s_reqR, j_b, em, e400, decide_eq_true hx, if_pos rfl, j_xl, s_reqR, j_b, em, e400, decide_eq_false hy]
      rfl
  · refine pi_no (k := 2) (b := 0) hR ?_ (by decide) (bad (by rw [decide_eq_false hx, Bool.false_and, Bool.false_and, Bool.false_and]))
    unfold fL_floatAt fX8_floatAt
    rw [s_reqP (by rw [h1]; exact hS), h1, q, j_b, if_pos rfl, j_xl, s_reqR, j_b, em, e400, decide_eq_false hx]
    rfl
end RAE
