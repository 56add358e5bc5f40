/-! THE RELATION: dock -/
section RAC
theorem dk_SI {S : ST} (hS : SI S) {k : Nat} (hk : k < 12) (ex : exB S k = true) {V' : VW} {d' : Nat → Nat} {wn' : Nat → Int} (hI : Inv V' d' wn') (h13 : ∀ i, i < 12 → i ≠ k → V' 13 i = S_pl S 13 i) (hk13 : V' 13 k ≠ -1) : SI (pfS S (o_pf (S_fo S) k) V') := by
  have h := hS
  obtain ⟨-, -, -, h4, -, hO, -⟩ := h
  refine hS.pf hI (fun p hp z => ?_) (hO.pf (by decide) hk (by unfold plc; exact decide_eq_true hk13) (fun i hi ne => by unfold plc; rw [h13 i hi ne]))
  by_cases q : p = k
  · rw [q]; exact ex
  · exact h4 p hp (by rw [← h13 p hp q]; exact z)
theorem free_V {V : VW} {d : Nat → Nat} {wn : Nat → Int} (h : Inv V d wn) {k : Nat} (hk : k < 12) (hu : V 13 k = -1) : 1 ≤ cnt (fun n => decide (V 8 n = 3)) 23 ∧ (∀ t, t < 12 → V 13 t ≠ -1 → 2 ≤ cnt (fun n => decide (V 8 n = 3)) 23) := by
  have fw := few_nodes h.1 h.2.1
  have fr := cnt_free V
  have le : cnt (fun p => decide (V 13 p ≠ -1)) 12 ≤ 11 := by
    have a := cnt_one_more (c := fun p => decide (V 13 p ≠ -1)) (d := fun p => decide (V 13 p ≠ -1) || decide (p = k)) (n := 12) hk (fun i _ hi => by simp [hi]) (by simp [hu]) (by simp)
    have b := cnt_le (fun p => decide (V 13 p ≠ -1) || decide (p = k)) 12
    omega
  constructor
  · split at fw <;> omega
  · intro t ht hp
    have : 1 ≤ cnt (fun p => decide (V 13 p ≠ -1)) 12 := cnt_pos ht (decide_eq_true hp)
    rw [if_neg (by omega)] at fw
    omega
theorem s_dk84 {σ σ1 : Sg} {S : ST} {L : List ST} {V2 : VW} {k g : Nat} {p : Int32} (hp : p.toInt = k) (hk : k < 12) (hg : g < 23) (c1 : CR σ1 S L) (o : Out σ1 σ 1 70) (hs : stv σ 1 = pfS S (S_fo S) V2) (hSI : SI (pfS S (o_pf (S_fo S) k) (v_join V2 k g))) : ∃ σ', fX8_dock_84 σ p p (oI g) = some (.inl (oI (v_wo (v_join V2 k g) g)), σ') ∧ (∀ c, 438 ≤ c → σ'.1 c = σ1.1 c) ∧ CR σ' (pfS S (o_pf (S_fo S) k) (v_join V2 k g)) L := by
  have tg : (oI (g : Int)).toInt = g := j_oI (by omega) (by omega)
  have ok : OkO (S_fo S) := by
    have := c1.2.2.1
    exact this.2.2.2.2.2.1.ok (by decide)
  obtain ⟨σ2, a2, o2, v2⟩ := s_do hs (s_join (σ := σ) (b := 1 + 5) p (oI g))
  rw [S_pv hs, hp, tg] at v2
  obtain ⟨σ3, a3, o3, v3⟩ := s_pfo v2 ok p
  rw [hp] at v3
  have O : Out σ1 σ3 1 70 := (o.tr o2).tr o3
  obtain ⟨σ4, a4, o4, c4⟩ := c1.mod (fun x hx => O.2 x (by omega)) (show stv σ3 1 = pfS S (o_pf (S_fo S) k) (v_join V2 k g) from v3) hSI
  refine ⟨σ4, ?_, fun c hc => by rw [o4.2 c (by omega), O.2 c (by omega)], c4⟩
  unfold fX8_dock_84
  have e13 : v_join V2 k g 13 k = g := by rw [(join_rows hk hg).1 k, if_pos rfl]
  rw [a2, j_b, a3, j_b, a4, j_b, s_groupOf, j_b, S_pv c4.1, hp, ga_in hk]
  show (fX1_windowOf σ4 (1 + 5) (oI (v_join V2 k g 13 k))).bind _ = _
  rw [e13, s_windowOf, j_b, S_pv c4.1, tg]
  rfl
theorem m_dk {s s1 : Sg} {S : ST} {L : List ST} {V2 : VW} {X : Nat → Bool} {k g : Nat} {p : Int32} (hp : p.toInt = k) (hk : k < 12) (hg : g < 23) (hg2 : V2 8 g = 2) (hS : SI S) (m1 : MR s1 S L) (o : Out s1 s 463 463) (h : VM (mv (s.1 463)) V2 X) (f : FS (mv (s1.1 463)) (mv (s.1 463))) (e20 : mo (mv (s.1 463)) 20 = mo (mv (s1.1 463)) 20) (hu : V2 13 k = -1) (hh : V2 15 k = 0) (hX : ∀ n, n ≠ g → X n = false) : ∃ s', fX9_settles s 462 p (oI g) = some s' ∧ Out s1 s' 463 463 ∧ VM (mv (s'.1 463)) (v_join V2 k g) (fun _ => false) ∧ MR s' (pfS S (o_pf (S_fo S) k) (v_join V2 k g)) L := by
  have tg : (oI (g : Int)).toInt = g := j_oI (by omega) (by omega)
  have oe := m1.2.2.2.1
  have hO := hS.2.2.2.2.2.1
  obtain ⟨s2, b2, w2, v2, oe2, f2⟩ := m_settles h hp hk tg hg hg2 hu hh (o := S_fo S) (by rw [e20]; exact oe) (hO.ok (by decide)) (hO.lt hk)
  have v2' : VM (mv (s2.1 463)) (v_join V2 k g) (fun _ => false) := v2.fx (fun n _ _ _ => by
    show (X n && n != g) = false
    by_cases q : n = g
    · simp [q]
    · rw [hX n q]
      rfl)
  exact ⟨s2, b2, o.tr w2, v2', m1.mod (o.tr w2) (m1.2.pf (f.tr f2) v2' oe2)⟩
/-- the placement behind dock -/
def dkV (V : VW) (k t : Nat) (side : Int) : VW := if side = 4 then v_join (v_withdraw V k) k (v_withdraw V k 13 t) else v_join (v_bes (v_withdraw V k) (v_withdraw V k 13 t) side) k (v_mn (v_withdraw V k))
theorem c_dock {σ : Sg} (h : RR σ) (p u side : Int32) : PI (fL_dock σ p u side 476 1) (fun s => fX9_dock s 462 p u side) := by
  obtain ⟨S, l, c, m, tx⟩ := h
  have h1 := c.1
  have hS := c.2.2.1
  have hR : RR σ := ⟨S, l, c, m, tx⟩
  have z4 : (4 : Int32).toInt = 4 := rfl
  have no : ∀ (x : Int32), x = 1 ∨ x = 2 ∨ x = 3 → fX9_dock_81 462 σ p u side x = some (0, su σ 462 3 x) := fun x hx => by
    unfold fX9_dock_81
    rcases hx with rfl | rfl | rfl
    · rw [rf1]; rfl
    · rw [rf2]; rfl
    · rw [rf3]; rfl
  cases q : exP S p
  · refine pi_no (k := 1) (b := 0) hR ?_ (by decide) ?_
    · unfold fL_dock fX8_dock
      rw [s_reqP (by rw [h1]; exact hS), h1, q]
      rfl
    · show fX9_dock σ 462 p u side = _
      unfold fX9_dock fX9_dock_20 fX9_dock_21 fX9_dock_46 fX9_dock_47
      rw [m_isP m.2, j_b, q]
      exact no 1 (Or.inl rfl)
  cases qu : exP S u
  · refine pi_no (k := 1) (b := 0) hR ?_ (by decide) ?_
    · unfold fL_dock fX8_dock
      rw [s_reqP (by rw [h1]; exact hS), h1, q, j_b, if_pos rfl, j_xl, s_reqP (by rw [h1]; exact hS), h1, qu]
      rfl
    · show fX9_dock σ 462 p u side = _
      unfold fX9_dock fX9_dock_20 fX9_dock_21 fX9_dock_46 fX9_dock_47
      rw [m_isP m.2, j_b, q, if_pos rfl, m_isP m.2, j_b, qu]
      exact no 1 (Or.inl rfl)
  by_cases pu : p = u
  · refine pi_no (k := 2) (b := 0) hR ?_ (by decide) ?_
    · unfold fL_dock fX8_dock
      rw [s_reqP (by rw [h1]; exact hS), h1, q, j_b, if_pos rfl, j_xl, s_reqP (by rw [h1]; exact hS), h1, qu, j_b, if_pos rfl, j_xl, if_pos pu]
      rfl
    · show fX9_dock σ 462 p u side = _
      unfold fX9_dock fX9_dock_21 fX9_dock_46 fX9_dock_47
      rw [m_isP m.2, j_b, q, if_pos rfl, m_isP m.2, j_b, qu, if_pos rfl, if_neg (show ¬ (1 : Int32) = 0 by decide), if_pos pu, if_neg (show ¬ (1 : Int32) = 0 by decide), if_pos rfl]
      exact no 2 (Or.inr (Or.inl rfl))
  by_cases sd : 0 ≤ side.toInt ∧ side.toInt ≤ 4
  · obtain ⟨k, hk, hk12, ek⟩ := exP_n q
    obtain ⟨t, ht, ht12, et⟩ := exP_n qu
    have kt : t ≠ k := fun z => pu (j_eq.mpr (by rw [hk, ht, z]))
    have pre8 : fX8_dock σ p u side = (fX8_requirePlaced σ u).bind fun r10 => xcat r10 (fun e12 => some (.inr e12, σ)) fun w11 => (fX8_keepRecord σ).bind fun σ13 => (fX1_withdraw σ13 (1 + 5) p).bind fun σ14 => (fX1_groupOf σ14 (1 + 5) u).bind fun r15 => if side = 4 then (fX8_dock_84 σ14 p p r15) else (fX1_makeGroupBeside σ14 (1 + 5) r15 side).bind fun r16 => (fX8_dock_84 r16.2 p p r16.1) := by
      unfold fX8_dock
      rw [s_reqP (by rw [h1]; exact hS), h1, q, j_b, if_pos rfl, j_xl, s_reqP (by rw [h1]; exact hS), h1, qu, j_b, if_pos rfl, j_xl, if_neg pu, s_reqR, j_b, jz0, z4, decide_eq_true sd, if_pos rfl, j_xl]
    have pre9 : ∀ s, MR s S l → fX9_dock s 462 p u side = if plc (S_pl S) t = true then fX9_dock_81 462 s p u side 0 else fX9_dock_81 462 s p u side 3 := fun s ms => by
      unfold fX9_dock fX9_dock_21 fX9_dock_47
      rw [m_isP ms.2, j_b, q, if_pos rfl, m_isP ms.2, j_b, qu, if_pos rfl, if_neg (show ¬ (1 : Int32) = 0 by decide), if_neg pu, m_within, j_b, jz0, z4, decide_eq_true sd, if_pos rfl, if_neg (show ¬ (1 : Int32) = 0 by decide), if_neg (show ¬ (1 : Int32) = 0 by decide), m_isL ms.2.2.1 ht ht12, j_b]
    cases qp : plc (S_pl S) t
    · refine pi_no (k := 3) (b := 0) hR ?_ (by decide) ?_
      · unfold fL_dock
        rw [pre8, s_reqL ht ht12, h1, qp]
        rfl
      · show fX9_dock σ 462 p u side = _
        rw [pre9 σ m, qp]
        exact no 3 (Or.inr (Or.inr rfl))
    · obtain ⟨-, -, -, -, ⟨d, wn, hI⟩, hO, -⟩ := id hS
      have np : S_pl S 13 t ≠ -1 := by
        unfold plc at qp
        exact of_decide_eq_true qp
      obtain ⟨hI1, wd⟩ := withdraw_ok hI hk12
      have k1 : v_withdraw (S_pl S) k 13 k = -1 := by rw [wd.1 k hk12, if_pos rfl]
      have t1 : v_withdraw (S_pl S) k 13 t = S_pl S 13 t := by rw [wd.1 t ht12, if_neg kt]
      have h15 : v_withdraw (S_pl S) k 15 k = 0 := by rw [wd.2.1 k hk12, if_pos rfl]
      obtain ⟨g, hg, eg, kg⟩ := (hI1.2.1.gr ht12).resolve_left (by rw [t1]; exact np)
      have tg : (oI (g : Int)).toInt = g := j_oI (by omega) (by omega)
      obtain ⟨σ1, a1, f1, c1⟩ := s_kr c
      obtain ⟨σ2, a2, o2, v2⟩ := s_wd c1.1 hI p
      rw [hk] at v2
      have gr : fX1_groupOf σ2 (1 + 5) u = some (oI (g : Int)) := by
        rw [s_groupOf, S_pv v2, ht, ga_in ht12]
        show some (oI (v_withdraw (S_pl S) k 13 t)) = _
        rw [eg]
      -- the reference up to the group
      have ref : ∀ s, MR s S l → ∃ s1 s2, MR s1 S (keep l S) ∧ Out s1 s2 463 463 ∧ VM (mv (s2.1 463)) (v_withdraw (S_pl S) k) (fun _ => false) ∧ FR (mv (s1.1 463)) (mv (s2.1 463)) ∧ G9 s s1 0 ∧ fX9_dock s 462 p u side = if side = 4 then fX9_dock_125 462 s2 (oI (g : Int)) p (oI (g : Int)) else (fX9_beside s2 462 (oI (g : Int)) side).bind fun r9 => fX9_dock_125 462 r9.2 (oI (g : Int)) p r9.1 := fun s ms => by
        obtain ⟨s1, b1, g1, x1, m1⟩ := m_kr (ms.s3 (k := 0))
        obtain ⟨s2, b2, w2, vm2, fr2⟩ := m_takes m1.2.2.1 hI.1 hI.2.1 hI.2.2.1 hk hk12
        refine ⟨s1, s2, m1, w2, vm2, fr2, G9.s3.tr g1, ?_⟩
        rw [pre9 s ms, qp, if_pos rfl]
        unfold fX9_dock_81
        rw [rf0, j_b]
        show (fX9_saves (su s 462 3 0) 462).bind _ = _
        rw [b1, j_b, b2, j_b, m_o3 ht ht12, j_b, vm2.gr ht12, eg]
      by_cases s4 : side = 4
      · have hJ := inv_tab hI1 hk12 k1 hg kg
        have jr := join_rows (V := v_withdraw (S_pl S) k) hk12 hg
        have hSI : SI (pfS S (o_pf (S_fo S) k) (v_join (v_withdraw (S_pl S) k) k g)) := dk_SI hS hk12 ek hJ (fun i hi ne => by rw [jr.1 i, if_neg ne, wd.1 i hi, if_neg ne]) (by rw [jr.1 k, if_pos rfl]; omega)
        obtain ⟨σ3, a3, e3, c3⟩ := s_dk84 hk hk12 hg c1 o2 v2 hSI
        refine pi_ok (v := oI (v_wo (v_join (v_withdraw (S_pl S) k) k g) g)) tx m ?_ (fun x hx => by rw [e3 x hx]; exact f1 x hx) c3 (fun s ms => ?_)
        · unfold fL_dock
          rw [pre8, s_reqL ht ht12, h1, qp, j_b, if_pos rfl, j_xl, a1, j_b, a2, j_b, gr, j_b, if_pos s4, a3, j_b, j_xl, if_pos (by decide), j_nm]
          rfl
        · obtain ⟨s1, s2, m1, w2, vm2, fr2, g9, e⟩ := ref s ms
          obtain ⟨s3, b3, w3, vm3, m3⟩ := m_dk hk hk12 hg kg hS m1 w2 vm2 fr2.fs (by
            unfold mo
            rw [fr2 20 (by omega), fr2 21 (by omega)]) k1 h15 (fun _ _ => rfl)
          refine ⟨s3, ?_, g9.tr (F9.ou w3), m3⟩
          show fX9_dock s 462 p u side = _
          rw [e, if_pos s4]
          unfold fX9_dock_125
          have k8 : v_join (v_withdraw (S_pl S) k) k g 8 g = 2 := by rw [jr.2.2.2 8 (by omega) (by omega) (by omega)]; exact kg
          rw [b3, j_b, m_windowOf vm3 hJ.1 tg hg (by omega), j_b, hJ.1.wo hg (by omega)]
      · have sd4 : side = 0 ∨ side = 1 ∨ side = 2 ∨ side = 3 := by
          have n4 : side.toInt ≠ 4 := fun z => s4 (j_eq.mpr z)
          have : side.toInt = 0 ∨ side.toInt = 1 ∨ side.toInt = 2 ∨ side.toInt = 3 := by omega
          rcases this with z | z | z | z
          · exact Or.inl (j_eq.mpr z)
          · exact Or.inr (Or.inl (j_eq.mpr z))
          · exact Or.inr (Or.inr (Or.inl (j_eq.mpr z)))
          · exact Or.inr (Or.inr (Or.inr (j_eq.mpr z)))
        obtain ⟨f, mm, tw⟩ := two_ex ((free_V hI1 hk12 k1).2 t ht12 (by rw [t1]; exact np))
        obtain ⟨f23, f3, fl, fm, -⟩ := id tw
        obtain ⟨d', wn', hJ, e1, e2, tJ, k8f, e13, e15, -⟩ := inv_bes hI1 hk12 k1 hg kg tw side.toInt
        have jr := join_rows (V := v_bes (v_withdraw (S_pl S) k) g side.toInt) hk12 f23
        have hSI : SI (pfS S (o_pf (S_fo S) k) (v_join (v_bes (v_withdraw (S_pl S) k) g side.toInt) k f)) := dk_SI hS hk12 ek hJ (fun i hi ne => by rw [jr.1 i, if_neg ne, e13, wd.1 i hi, if_neg ne]) (by rw [jr.1 k, if_pos rfl]; omega)
        obtain ⟨σ3, a3, o3, v3⟩ := s_makeGroupBeside (σ := σ2) (b := 1 + 5) (oI (g : Int)) side
        have pv2 : pv σ2 (1 + 5) = v_withdraw (S_pl S) k := S_pv v2
        rw [pv2, tg] at v3
        rw [pv2, fm] at a3
        have v3' : stv σ3 1 = pfS S (S_fo S) (v_bes (v_withdraw (S_pl S) k) g side.toInt) := by
          rw [stv_pl (b := 1) o3, v3, v2]
          rfl
        have o23 : Out σ1 σ3 1 70 := o2.tr (o3.mo (by omega) (by omega))
        obtain ⟨σ4, a4, e4, c4⟩ := s_dk84 hk hk12 f23 c1 o23 v3' hSI
        have wgf : wn' g = wn' f := by rw [(e2 g hg (by omega)).2, e1]
        have k8g : v_bes (v_withdraw (S_pl S) k) g side.toInt 8 g = 2 := by rw [(e2 g hg (by omega)).1]; exact kg
        have J8 : ∀ n, v_join (v_bes (v_withdraw (S_pl S) k) g side.toInt) k f 8 n = v_bes (v_withdraw (S_pl S) k) g side.toInt 8 n := fun n => by rw [jr.2.2.2 8 (by omega) (by omega) (by omega)]
        refine pi_ok (v := oI (v_wo (v_join (v_bes (v_withdraw (S_pl S) k) g side.toInt) k f) f)) tx m ?_ (fun x hx => by rw [e4 x hx]; exact f1 x hx) c4 (fun s ms => ?_)
        · unfold fL_dock
          rw [pre8, s_reqL ht ht12, h1, qp, j_b, if_pos rfl, j_xl, a1, j_b, a2, j_b, gr, j_b, if_neg s4, a3, j_b]
          show ((fX8_dock_84 σ3 p p (oI (f : Int))).bind _) = _
          rw [a4, j_b, j_xl, if_pos (by decide), j_nm]
          rfl
        · obtain ⟨s1, s2, m1, w2, vm2, fr2, g9, e⟩ := ref s ms
          obtain ⟨s3, b3, w3, vm3, fr3⟩ := m_beside vm2 hI1.1 hg kg tw sd4
          have fr := fr2.tr fr3
          obtain ⟨s4', b4, w4, vm4, m4⟩ := m_dk hk hk12 f23 k8f hS m1 (w2.tr w3) vm3 fr.fs (by
            unfold mo
            rw [fr 20 (by omega), fr 21 (by omega)]) (by rw [e13]; exact k1) (by rw [e15]; exact h15) (fun n ne => by
            show (n == f) = false
            simp [ne])
          refine ⟨s4', ?_, g9.tr (F9.ou w4), m4⟩
          show fX9_dock s 462 p u side = _
          rw [e, if_neg s4, b3, j_b]
          unfold fX9_dock_125
          rw [b4, j_b, m_windowOf vm4 hJ.1 tg hg (by rw [J8, k8g]; omega), j_b, hJ.1.wo f23 (by rw [J8, k8f]; omega), wgf]
  · refine pi_no (k := 2) (b := 0) hR ?_ (by decide) ?_
    · unfold fL_dock fX8_dock
      rw [s_reqP (by rw [h1]; exact hS), h1, q, j_b, if_pos rfl, j_xl, s_reqP (by rw [h1]; exact hS), h1, qu, j_b, if_pos rfl, j_xl, if_neg pu, s_reqR, j_b, jz0, z4, decide_eq_false sd]
      rfl
    · show fX9_dock σ 462 p u side = _
      unfold fX9_dock fX9_dock_21 fX9_dock_46 fX9_dock_47
      rw [m_isP m.2, j_b, q, if_pos rfl, m_isP m.2, j_b, qu, if_pos rfl, if_neg (show ¬ (1 : Int32) = 0 by decide), if_neg pu, m_within, j_b, jz0, z4, decide_eq_false sd, if_neg Bool.false_ne_true, if_neg (show ¬ (1 : Int32) = 0 by decide), if_pos rfl]
      exact no 2 (Or.inr (Or.inl rfl))
end RAC
