/-! THE RELATION: drag, the call -/
section RAN
theorem half_d {s : Int32} (h : s = 0 ∨ s = 1 ∨ s = 2 ∨ s = 3) : (s / 2).toInt = v_dir s.toInt := (sd4 h).1
theorem m_hd {σ : Sg} {V : VW} {d : Nat → Nat} {wn : Nat → Int} {X Y : Nat → Bool} (h : VM (mv (σ.1 463)) V X) (t : Tree V d wn Y) {side : Int32} (hsd : side = 0 ∨ side = 1 ∨ side = 2 ∨ side = 3) (b01 : ∀ i, i < 23 → V 8 i ≠ 3 → mq σ 1 i = 0 ∨ mq σ 1 i = 1) {n : Nat} (hn : n < 23) (hu : V 8 n ≠ 3) : fX9_hasDivider σ 462 (oI (n : Int)) side = if nad V (mq σ) side.toInt 23 n = -1 then some (false, σ) else some (true, su (su σ 462 13 (oI (ahN V (mq σ) (nad V (mq σ) side.toInt 23 n).toNat side.toInt))) 462 14 (oI (beN V (mq σ) (nad V (mq σ) side.toInt 23 n).toNat side.toInt))) := by
  have d22 := (t.dqs hn hu).1
  unfold fX9_hasDivider
  exact m_hd2 h t hsd b01 23 n FU hn hu (by omega) (by decide)
theorem c_drag {σ : Sg} (h : RR σ) (p side by_ : Int32) : PI (fL_drag σ p side by_ 476 1) (fun s => fX9_drag s 462 p side by_) := by
  obtain ⟨S, l, c, m, tx⟩ := h
  have h1 := c.1
  have hS := c.2.2.1
  have hR : RR σ := ⟨S, l, c, m, tx⟩
  have e3 : (3 : Int32).toInt = 3 := rfl
  have em : (-400 : Int32).toInt = -400 := rfl
  have e400 : (400 : Int32).toInt = 400 := rfl
  have n10 : ¬ (1 : Int32) = 0 := by decide
  have nb : ¬ b2i true = 0 := by decide
  -- the reference refuses
  have no : ∀ (s : Sg) (k : Int32), k = 1 ∨ k = 2 ∨ k = 3 → fX9_drag_122 462 s side by_ k = some (0, su s 462 3 k) := fun s k hk => by
    unfold fX9_drag_122
    rcases hk with rfl | rfl | rfl
    · rw [rf1]; rfl
    · rw [rf2]; rfl
    · rw [rf3]; rfl
  obtain ⟨s4, b4, g4, m4, x4, L4⟩ := m_ly m hS
  have R4 : RR s4 := RR.mk9 c tx (Or.inl g4) m4
  have fin : ∀ k : Int32, fX9_drag σ 462 p side by_ = some (0, su s4 462 3 k) → k ≠ 0 → fL_drag σ p side by_ 476 1 = some (k, σ) → PI (fL_drag σ p side by_ 476 1) (fun s => fX9_drag s 462 p side by_) := fun k hG hk hF =>
    pi_no2 hF hk hG (by rw [su_at, if_pos ⟨rfl, rfl⟩]) R4.s3
  cases q : exP S p
  · refine fin 1 ?_ (by decide) ?_
    · unfold fX9_drag fX9_drag_38 fX9_drag_39 fX9_drag_90 fX9_drag_91
      rw [m_isP m.2, j_b, q, if_neg Bool.false_ne_true, b4, j_b]
      exact no s4 1 (Or.inl rfl)
    · unfold fL_drag fX8_drag
      rw [s_reqP (by rw [h1]; exact hS), h1, q]
      rfl
  have bad : ∀ k : Int32, fX9_drag_38 462 σ p side by_ (b2i true) = some (0, su s4 462 3 2) := fun k => by
    unfold fX9_drag_38 fX9_drag_39 fX9_drag_90 fX9_drag_91
    rw [b4, j_b, if_pos rfl, if_neg nb, if_pos rfl]
    exact no s4 2 (Or.inr (Or.inl rfl))
  by_cases hs : 0 ≤ side.toInt ∧ side.toInt ≤ 3
  · by_cases hb : -400 ≤ by_.toInt ∧ by_.toInt ≤ 400
    · obtain ⟨k, hk, hk12, ek⟩ := exP_n q
      have sd4 : side = 0 ∨ side = 1 ∨ side = 2 ∨ side = 3 := by
        have : side.toInt = 0 ∨ side.toInt = 1 ∨ side.toInt = 2 ∨ side.toInt = 3 := by omega
        rcases this with z | z | z | z
        · exact Or.inl (j_eq.mpr z)
        · exact Or.inr (Or.inl (j_eq.mpr z))
        · exact Or.inr (Or.inr (Or.inl (j_eq.mpr z)))
        · exact Or.inr (Or.inr (Or.inr (j_eq.mpr z)))
      obtain ⟨-, -, hm3, -, ⟨d, wn, t, tb, lo, ge⟩, -, -⟩ := id hS
      have hw := fun p hp => (hm3 p hp).1
      have hh := fun p hp => (hm3 p hp).2.1
      have hpv : pv σ (1 + 5) = S_pl S := S_pv h1
      have r13 : -2147483648 ≤ S_pl S 13 k ∧ S_pl S 13 k < 2147483648 := by rw [← hpv]; exact pv_rg σ (1 + 5) 13 k
      have t13 : (oI (S_pl S 13 k)).toInt = S_pl S 13 k := j_oI r13.1 r13.2
      have L0 := c.2.2.2.2.1
      have pre8 : fX8_drag σ p side by_ = if ga (qv σ 1) 23 (S_pl S 13 k) = 1 then (fX8_nodeAtDivider σ (oI (S_pl S 13 k)) side).bind (fun r12 => fX8_drag_57 σ side by_ r12) else fX8_drag_57 σ side by_ (-1) := by
        unfold fX8_drag
        rw [s_reqP (by rw [h1]; exact hS), h1, q, j_b, if_pos rfl, j_xl, s_reqR, j_b, jz0, e3, decide_eq_true hs, if_pos rfl, j_xl, s_reqR, j_b, em, e400, decide_eq_true hb, if_pos rfl, j_xl, s_groupOf, j_b, hpv, hk, ga_in hk12, s_isShown, j_b, t13]
        by_cases z : ga (qv σ 1) 23 (S_pl S 13 k) = 1
        · rw [if_pos z, decide_eq_true z, if_pos rfl]
        · rw [if_neg z, decide_eq_false z, if_neg Bool.false_ne_true]
      have no8 : fX8_drag_57 σ side by_ (-1) = some (.inr 2, σ) := by
        unfold fX8_drag_57
        rw [if_pos rfl]
      have pre9 : fX9_drag σ 462 p side by_ = fX9_drag_39 462 σ p side by_ (b2i true) 1 := by
        unfold fX9_drag
        rw [m_isP m.2, j_b, q, if_pos rfl, m_within, j_b, jz0, e3, decide_eq_true hs, if_pos rfl, m_within, j_b, em, e400, decide_eq_true hb, if_pos rfl]
      have no9 : ∀ s, fX9_drag_90 462 s side by_ (b2i true) 1 = some (0, su s 462 3 3) := fun s => by
        unfold fX9_drag_90 fX9_drag_91
        rw [if_neg nb, if_neg n10, if_pos rfl]
        exact no s 3 (Or.inr (Or.inr rfl))
      have vm4 := m4.2.2.1
      cases qp : plc (S_pl S) k
      · have z : S_pl S 13 k = -1 := by
          unfold plc at qp
          exact Classical.byContradiction (fun y => by rw [decide_eq_true y] at qp; cases qp)
        refine fin 3 ?_ (by decide) ?_
        · rw [pre9]
          unfold fX9_drag_39
          rw [b4, j_b, if_neg n10, m_isL vm4 hk hk12, qp, j_b, if_neg Bool.false_ne_true]
          exact no9 s4
        · unfold fL_drag
          rw [pre8, z, ga_m1 (f := qv σ 1), if_neg (by decide), no8]
          rfl
      · have np : S_pl S 13 k ≠ -1 := by
          unfold plc at qp
          exact of_decide_eq_true qp
        obtain ⟨g, hg, eg, kg⟩ := (tb.gr hk12).resolve_left np
        have u3 : S_pl S 8 g ≠ 3 := by omega
        have ecg : oI (S_pl S 13 k) = nI g := by rw [eg, j_nIo g (by omega)]
        have eqL := fun (n : Nat) (hn : n < 23) (hu : S_pl S 8 n ≠ 3) => lay_eq hS L0 L4 hn hu
        have b01 : ∀ i, i < 23 → S_pl S 8 i ≠ 3 → mq s4 1 i = 0 ∨ mq s4 1 i = 1 := fun i hi hu => by
          have kr := t.ki hi
          have : S_pl S 8 i = 2 ∨ S_pl S 8 i ≤ 1 := by omega
          rcases this with u | u
          · exact (L4.1 i hi u).1
          · exact (L4.2.1 i hi u).1
        have r9 : fX9_drag_39 462 σ p side by_ (b2i true) 1 = if mq s4 1 g = 1 then (fX9_hasDivider s4 462 (oI (g : Int)) side).bind (fun r8 => if r8.1 = true then fX9_drag_91 462 r8.2 side by_ (b2i true) 1 1 else fX9_drag_90 462 r8.2 side by_ (b2i true) 1) else fX9_drag_90 462 s4 side by_ (b2i true) 1 := by
          unfold fX9_drag_39
          rw [b4, j_b, if_neg n10, m_isL vm4 hk hk12, qp, j_b, if_pos rfl, m_o3 hk hk12, j_b, vm4.gr hk12, ecg, if_pos (j_ckn (by omega) (by decide)), j_cl _ (by omega)]
          have b := b01 g hg u3
          by_cases z : mq s4 1 g = 1
          · have n0 : ¬ s4.1 (462 + 5) g = 0 := fun y => by
              rw [mq1 (by omega)] at z
              have : s4.1 467 g = 0 := y
              rw [this, jz0] at z
              omega
            rw [if_pos z, if_neg n0, j_b, j_nIo g (by omega)]
          · have z0 : s4.1 (462 + 5) g = 0 := by
              refine j_eq.mpr ?_
              rw [mq1 (by omega)] at z b
              show (s4.1 467 g).toInt = _
              rw [jz0]
              omega
            rw [if_neg z, if_pos z0]
        have tg : (oI (g : Int)).toInt = g := j_oI (by omega) (by omega)
        by_cases sh : mq s4 1 g = 1
        · have sh8 : qv σ 1 g = 1 := by rw [(eqL g hg u3).1]; exact sh
          have d22 := (t.dqs hg u3).1
          have hd9 := m_hd (σ := s4) vm4 t sd4 b01 hg u3
          have nd8 : fX8_nodeAtDivider σ (oI (S_pl S 13 k)) side = some (oI (nad (S_pl S) (qv σ) side.toInt 23 g)) := s_nad hpv rfl t sd4 hg (by rw [t13, eg])
          have nade := nad_cg t (fun i hi hu => (eqL i hi hu).1) side.toInt 23 g hg
          by_cases nn : nad (S_pl S) (mq s4) side.toInt 23 g = -1
          · refine fin 3 ?_ (by decide) ?_
            · rw [pre9, r9, if_pos sh, hd9, if_pos nn, j_b, if_neg Bool.false_ne_true]
              exact no9 s4
            · unfold fL_drag
              rw [pre8, eg, ga_in hg, if_pos sh8, ← eg, nd8, j_b, nade, nn]
              rw [show oI (-1) = (-1 : Int32) from rfl, no8]
              rfl
          · -- a divider
            obtain ⟨σ1, a1, f1, c1⟩ := s_kr c
            have L1 := c1.2.2.2.2.1
            have eq1 := fun (n : Nat) (hn : n < 23) (hu : S_pl S 8 n ≠ 3) => lay_eq hS L1 L4 hn hu
            have shL : ∀ (P : VW), Lay (S_pl S) (S_mw S) (S_mh S) P → ∀ c s : Nat, c < 23 → S_pl S 9 c = s → P 1 c = 1 → P 1 s = 1 := fun P hP c s hc e p => Lay.sh t hP hc e p
            have nad1 := nad_cg t (fun i hi hu => (eq1 i hi hu).1) side.toInt 23 g hg
            obtain ⟨mm, hmm, emm, snm, pm⟩ := nad_sh (P := qv σ1) t (side := side.toInt) (shL _ L1) 23 g hg (by rw [(eq1 g hg u3).1]; exact sh) (by rw [nad1]; exact nn)
            obtain ⟨a, b, s, D, dv, ea, eb⟩ := dv_ex t hmm pm snm
            have sn4 := snb_cg t (fun i hi hu => (eq1 i hi hu).1) mm side.toInt hmm
            obtain ⟨ha, hb23, ne, hs23, e9a, e9b, ks, wd, hD, dd, pa, pb⟩ := id dv
            have uc : ∀ n, n < 23 → S_pl S 9 n = s → S_pl S 8 n ≠ 3 := fun n hn e => t.us hn (by omega)
            obtain ⟨σ2, a2, f2, c2⟩ := s_132 (σ := σ) (by_ := by_) (side := side) c1 rfl dv
            -- bounds
            have bxl : ∀ n, n < 23 → S_pl S 9 n = s → qv σ1 1 n = 1 → (0 ≤ qv σ1 (6 + D) n ∧ qv σ1 (6 + D) n ≤ 400) ∧ 0 ≤ qv σ1 (2 + D) n ∧ qv σ1 (2 + D) n ≤ 965 := fun n hn e p => by
              have b := Lay.bx t ge L1 hw hh 22 n (t.dqs hn (uc n hn e)).1 hn (uc n hn e) p
              have l := Lay.ls t L1 hw hh hn (uc n hn e) p
              have cD : D = 0 ∨ D = 1 := by omega
              rcases cD with rfl | rfl
              · exact ⟨b.1, l.1⟩
              · exact ⟨b.2, l.2⟩
            have ba := bxl a ha e9a pa
            have bb := bxl b hb23 e9b pb
            have mr := mvI_rg (P := qv σ1) (D := D) (a := a) (b := b) (by_ := by_.toInt) ⟨ba.1, ba.2.1⟩ ⟨bb.1, bb.2.1⟩
            refine pi_ok (v := oI (mvI (qv σ1) D a b by_.toInt)) tx m ?_ (fun x hx => by rw [f2 x hx]; exact f1 x hx) c2 (fun x ms => ?_)
            · -- the class
              have sb8 : fX8_shownNeighbour σ1 (oI (mm : Int)) side = some (oI (snb (S_pl S) (qv σ1) mm side.toInt)) := s_snb (S_pv c1.1) rfl t hmm (j_oI (by omega) (by omega)) sd4
              have nm1 : ¬ oI (mm : Int) = -1 := fun y => by rw [j_eq, j_oI (by omega) (by omega), jm1] at y; omega
              have d57 : fX8_drag_57 σ side by_ (oI (mm : Int)) = fX8_drag_132 σ1 side by_ (oI (a : Int)) (oI (b : Int)) := by
                unfold fX8_drag_57 fX8_drag_99 fX8_drag_104 fX8_drag_118
                rw [if_neg nm1, a1, j_b, sb8, j_b]
                unfold ahN at ea
                unfold beN at eb
                rcases sd4 with rfl | rfl | rfl | rfl
                · have v : nbE (0 : Int32).toInt = -1 := rfl
                  rw [v, if_pos rfl] at ea eb
                  rw [if_neg (by decide), if_neg (by decide), if_pos rfl, if_pos rfl, ea, eb]
                · have v : ¬ nbE (1 : Int32).toInt = -1 := by decide
                  rw [if_neg v] at ea eb
                  rw [if_pos rfl, if_neg n10, if_neg n10, ea, eb]
                · have v : nbE (2 : Int32).toInt = -1 := rfl
                  rw [v, if_pos rfl] at ea eb
                  rw [if_neg (by decide), if_neg (by decide), if_pos rfl, if_pos rfl, ea, eb]
                · have v : ¬ nbE (3 : Int32).toInt = -1 := by decide
                  rw [if_neg v] at ea eb
                  rw [if_neg (by decide), if_pos rfl, if_neg n10, if_neg n10, ea, eb]
              unfold fL_drag
              rw [pre8, eg, ga_in hg, if_pos sh8, ← eg, nd8, j_b, nade, ← nad1, emm, d57, a2, j_b, j_xl, if_pos (by decide), j_nm]
              rfl
            · -- the reference
              obtain ⟨y4, d4, h4, n4, z4, K4⟩ := m_ly ms hS
              have ym4 := n4.2.2.1
              have eqy := fun (n : Nat) (hn : n < 23) (hu : S_pl S 8 n ≠ 3) => lay_eq hS L1 K4 hn hu
              have yb01 : ∀ i, i < 23 → S_pl S 8 i ≠ 3 → mq y4 1 i = 0 ∨ mq y4 1 i = 1 := fun i hi hu => by
                have kr := t.ki hi
                have : S_pl S 8 i = 2 ∨ S_pl S 8 i ≤ 1 := by omega
                rcases this with u | u
                · exact (K4.1 i hi u).1
                · exact (K4.2.1 i hi u).1
              have yad := nad_cg t (fun i hi hu => (eqy i hi hu).1) side.toInt 23 g hg
              have ysn := snb_cg t (fun i hi hu => (eqy i hi hu).1) mm side.toInt hmm
              have yhd := m_hd (σ := y4) ym4 t sd4 yb01 hg u3
              have ysh : mq y4 1 g = 1 := by rw [← (eqy g hg u3).1, (eq1 g hg u3).1]; exact sh
              have eay : ahN (S_pl S) (mq y4) mm side.toInt = a := by
                unfold ahN at ea ⊢
                rw [← ysn]
                exact ea
              have eby : beN (S_pl S) (mq y4) mm side.toInt = b := by
                unfold beN at eb ⊢
                rw [← ysn]
                exact eb
              rw [← yad, emm, if_neg (show ¬ (mm : Int) = -1 by omega), Int.toNat_natCast, eay, eby] at yhd
              obtain ⟨y5, hy5⟩ : ∃ y5 : Sg, y5 = su (su y4 462 13 (oI (a : Int))) 462 14 (oI (b : Int)) := ⟨_, rfl⟩
              rw [← hy5] at yhd
              obtain ⟨y6, hy6⟩ : ∃ y6 : Sg, y6 = su y5 462 3 0 := ⟨_, rfl⟩
              have c5 : ∀ c, c ≠ 462 → y6.1 c = y4.1 c := fun c hc => by rw [hy6, hy5, su_ne hc, su_ne hc, su_ne hc]
              have c6 : ∀ j, j ≠ 13 → j ≠ 14 → j ≠ 3 → y6.1 462 j = y4.1 462 j := fun j h1 h2 h3 => by rw [hy6, hy5, su_at, if_neg (fun z => h3 z.2), su_at, if_neg (fun z => h2 z.2), su_at, if_neg (fun z => h1 z.2)]
              have m6 : MR y6 S l := n4.c (c6 2 (by omega) (by omega) (by omega)) (c5 463 (by omega)) (c5 464 (by omega))
              have q6 : mq y6 = mq y4 := by
                funext j n
                unfold mq
                rw [c5 467 (by omega), c5 468 (by omega), c5 469 (by omega)]
              have e13 : y6.1 462 13 = oI (a : Int) := by rw [hy6, hy5, su_at, if_neg (by omega), su_at, if_neg (by omega), su_at, if_pos ⟨rfl, rfl⟩]
              have e14 : y6.1 462 14 = oI (b : Int) := by rw [hy6, hy5, su_at, if_neg (by omega), su_at, if_pos ⟨rfl, rfl⟩]
              obtain ⟨y7, d7, g7, m7⟩ := m_238 (s0 := y6) m6 hS L1 (by rw [q6]; exact K4) (side := side.toInt) dv e13 e14 mr
              have G6 : G9 x y6 0 := ⟨fun c hc => by rw [c5 c (by omega)]; exact h4.1 c hc, by rw [c5 465 (by omega)]; exact h4.2.1, by rw [c6 5 (by omega) (by omega) (by omega)]; exact h4.2.2.1, by rw [hy6, hy5]; exact h4.2.2.2.1, by rw [hy6, su_at, if_pos ⟨rfl, rfl⟩]⟩
              refine ⟨y7, ?_, G6.tr g7, m7⟩
              show fX9_drag x 462 p side by_ = _
              have ypre : fX9_drag x 462 p side by_ = fX9_drag_122 462 y5 side by_ 0 := by
                unfold fX9_drag fX9_drag_39
                rw [m_isP ms.2, j_b, q, if_pos rfl, m_within, j_b, jz0, e3, decide_eq_true hs, if_pos rfl, m_within, j_b, em, e400, decide_eq_true hb, if_pos rfl, d4, j_b, if_neg n10, m_isL ym4 hk hk12, qp, j_b, if_pos rfl, m_o3 hk hk12, j_b, ym4.gr hk12, ecg, if_pos (j_ckn (by omega) (by decide)), j_cl _ (by omega)]
                have n0 : ¬ y4.1 (462 + 5) g = 0 := fun y => by
                  rw [mq1 (by omega)] at ysh
                  have : y4.1 467 g = 0 := y
                  rw [this, jz0] at ysh
                  omega
                rw [if_neg n0, j_b, j_nIo g (by omega), yhd, j_b, if_pos rfl]
                unfold fX9_drag_91
                rw [if_neg nb, if_neg n10, if_neg n10]
              have half : side / 2 = nI D := by
                refine j_eq.mpr ?_
                have := half_d sd4
                rw [this, dd, j_nI (by omega)]
              have cell6 : ∀ n : Nat, n < 23 → y6.1 469 (4 * n + 2 + D) = oI (mq y6 (6 + D) n) := fun n hn => by
                rw [show 6 + D = 4 + (2 + D) by omega, mqR (by omega) (by omega), show 4 * n + (2 + D) = 4 * n + 2 + D by omega, j_oIt]
              have cell2 : ∀ n : Nat, n < 23 → y6.1 468 (2 * n + D) = oI (mq y6 (2 + D) n) := fun n hn => by
                rw [mqL (by omega) hD, j_oIt]
              have val : ∀ n, n < 23 → S_pl S 9 n = s → qv σ1 1 n = 1 → mq y6 (6 + D) n = qv σ1 (6 + D) n ∧ mq y6 (2 + D) n = qv σ1 (2 + D) n := fun n hn e p => by
                have := (eqy n hn (uc n hn e)).2 p
                rw [q6]
                exact ⟨(this (6 + D) (by omega) (by omega)).symm, (this (2 + D) (by omega) (by omega)).symm⟩
              obtain ⟨va6, va2⟩ := val a ha e9a pa
              obtain ⟨vb6, vb2⟩ := val b hb23 e9b pb
              have i2 : ∀ n : Nat, n < 23 → 2 * oI (n : Int) + nI D = nI (2 * n + D) := fun n hn => by
                rw [← j_nIo n (by omega), show (2 : Int32) * nI n = nI (2 * n) from (Int32.ofNat_mul 2 n).symm, j_a]
              have i4 : ∀ n : Nat, n < 23 → 4 * oI (n : Int) + 2 + nI D = nI (4 * n + 2 + D) := fun n hn => by
                rw [← j_nIo n (by omega), show (4 : Int32) * nI n = nI (4 * n) from (Int32.ofNat_mul 4 n).symm, show (2 : Int32) = nI 2 from rfl, j_a, j_a]
              rw [ypre]
              unfold fX9_drag_122
              rw [rf0, j_b, if_neg (show ¬ ((false, su y5 462 3 0) : Bool × Sg).1 = true from Bool.false_ne_true)]
              dsimp only
              rw [← hy6, j_nm, half, e13, e14, i2 a ha, i4 a ha, i2 b hb23, i4 b hb23, if_pos (j_ckn (by omega) (by decide)), if_pos (j_ckn (by omega) (by decide)), j_nm, if_pos (j_ckn (by omega) (by decide)), if_pos (j_ckn (by omega) (by decide)), j_nm, j_cl _ (by omega), j_cl _ (by omega), j_cl _ (by omega), j_cl _ (by omega), show (462 + 6 : Nat) = 468 from rfl, show (462 + 7 : Nat) = 469 from rfl, cell6 a ha, cell6 b hb23, cell2 a ha, cell2 b hb23, va6, va2, vb6, vb2, j_os, j_os]
              generalize hA6 : qv σ1 (6 + D) a = A6 at *
              generalize hA2 : qv σ1 (2 + D) a = A2 at *
              generalize hB6 : qv σ1 (6 + D) b = B6 at *
              generalize hB2 : qv σ1 (2 + D) b = B2 at *
              have tv1 : (oI (A2 - A6)).toInt = A2 - A6 := j_oI (by omega) (by omega)
              have tv2 : (oI (B6 - B2)).toInt = B6 - B2 := j_oI (by omega) (by omega)
              have go : ∀ v : Int32, v.toInt = mvI (qv σ1) D a b by_.toInt → fX9_drag_238 462 y6 (nI D) v = some (oI (mvI (qv σ1) D a b by_.toInt), y7) := fun v hv => by
                have : v = oI (mvI (qv σ1) D a b by_.toInt) := by rw [← hv, j_oIt]
                rw [this]
                exact d7
              unfold fX9_drag_211
              have mvE : mvI (qv σ1) D a b by_.toInt = if A6 - A2 < 0 then 0 else if 0 ≤ B6 - B2 then (if -(A6 - A2) < (if B6 - B2 < by_.toInt then B6 - B2 else by_.toInt) then (if B6 - B2 < by_.toInt then B6 - B2 else by_.toInt) else -(A6 - A2)) else 0 := by
                unfold mvI
                rw [hA6, hA2, hB6, hB2]
              by_cases y1 : 0 < A2 - A6
              · rw [if_pos (by rw [j_lt, tv1, jz0]; exact y1)]
                exact go 0 (by rw [mvE, if_pos (by omega)]; rfl)
              · rw [if_neg (fun z => y1 (by rw [j_lt, tv1, jz0] at z; exact z))]
                rw [if_neg (show ¬ A6 - A2 < 0 by omega)] at mvE
                by_cases y2 : 0 ≤ B6 - B2
                · rw [if_pos (by rw [j_le, tv2, jz0]; exact y2)]
                  rw [if_pos y2] at mvE
                  by_cases y3 : A2 - A6 ≤ by_.toInt
                  · rw [if_pos (by rw [j_le, tv1]; exact y3)]
                    by_cases y5 : by_.toInt ≤ B6 - B2
                    · rw [if_pos (by rw [j_le, tv2]; exact y5)]
                      refine go by_ ?_
                      rw [mvE, if_neg (show ¬ B6 - B2 < by_.toInt by omega)]
                      split <;> omega
                    · rw [if_neg (fun z => y5 (by rw [j_le, tv2] at z; exact z))]
                      refine go _ ?_
                      rw [tv2, mvE, if_pos (show B6 - B2 < by_.toInt by omega)]
                      split <;> omega
                  · rw [if_neg (fun z => y3 (by rw [j_le, tv1] at z; exact z))]
                    refine go _ ?_
                    rw [tv1, mvE, if_neg (show ¬ B6 - B2 < by_.toInt by omega)]
                    split <;> omega
                · rw [if_neg (fun z => y2 (by rw [j_le, tv2, jz0] at z; exact z))]
                  exact go 0 (by rw [mvE, if_neg y2]; rfl)
        · have sh8 : ¬ qv σ 1 g = 1 := by rw [(eqL g hg u3).1]; exact sh
          refine fin 3 ?_ (by decide) ?_
          · rw [pre9, r9, if_neg sh]
            exact no9 s4
          · unfold fL_drag
            rw [pre8, eg, ga_in hg, if_neg sh8, no8]
            rfl
    · refine fin 2 ?_ (by decide) ?_
      · unfold fX9_drag
        rw [m_isP m.2, j_b, q, if_pos rfl, m_within, j_b, jz0, e3, decide_eq_true hs, if_pos rfl, m_within, j_b, em, e400, decide_eq_false hb]
        exact bad 2
      · unfold fL_drag fX8_drag
        rw [s_reqP (by rw [h1]; exact hS), h1, q, j_b, if_pos rfl, j_xl, s_reqR, j_b, jz0, e3, decide_eq_true hs, if_pos rfl, j_xl, s_reqR, j_b, em, e400, decide_eq_false hb]
        rfl
  · refine fin 2 ?_ (by decide) ?_
    · unfold fX9_drag
      rw [m_isP m.2, j_b, q, if_pos rfl, m_within, j_b, jz0, e3, decide_eq_false hs]
      exact bad 2
    · unfold fL_drag fX8_drag
      rw [s_reqP (by rw [h1]; exact hS), h1, q, j_b, if_pos rfl, j_xl, s_reqR, j_b, jz0, e3, decide_eq_false hs]
      rfl
end RAN
