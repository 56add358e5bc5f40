/-! THE RELATION: what the calls tell (2) -/
section RA4
theorem m_ly {σ : Sg} {S : ST} {l : List ST} (h : MR σ S l) (hS : SI S) : ∃ σ', fX9_lays σ 462 = some σ' ∧ F9 σ σ' ∧ MR σ' S l ∧ σ'.1 463 = σ.1 463 ∧ Lay (S_pl S) (S_mw S) (S_mh S) (mq σ') := by
  obtain ⟨h1, h2, h3, h4, ⟨d, wn, t, tb, lo, ge⟩, h6, h7⟩ := hS
  obtain ⟨σ', a, b, c⟩ := m_lays (σ := σ) (mw := S_mw S) (mh := S_mh S) h.2.2.1 t ge (fun p hp z => (h.2.1 p hp).2 (h4 p hp z)) (fun p hp => (h3 p hp).1) (fun p hp => (h3 p hp).2.1)
  have e : σ'.1 463 = σ.1 463 := b.2.1 463 (by omega) (by omega)
  exact ⟨σ', a, F9.fy b, h.c (b.2.2 2 (by omega)) e (b.2.1 464 (by omega) (by omega)), e, c⟩
theorem lay_eq {S : ST} {P Q : VW} (hS : SI S) (hP : Lay (S_pl S) (S_mw S) (S_mh S) P) (hQ : Lay (S_pl S) (S_mw S) (S_mh S) Q) {n : Nat} (hn : n < 23) (hu : S_pl S 8 n ≠ 3) : P 1 n = Q 1 n ∧ (P 1 n = 1 → ∀ j, 2 ≤ j → j ≤ 7 → P j n = Q j n) := by
  obtain ⟨h1, h2, h3, h4, ⟨d, wn, t, tb, lo, ge⟩, h6, h7⟩ := hS
  obtain ⟨a, b⟩ := Lay.u1 t hP hQ 22 n (by omega) hn hu
  have c := Lay.u2 t hP hQ 22 n (t.dqs hn hu).1 hn hu
  refine ⟨a, fun q j j2 j7 => ?_⟩
  obtain ⟨b2, b3⟩ := b q
  obtain ⟨c4, c5, c6, c7⟩ := c q
  have : j = 2 ∨ j = 3 ∨ j = 4 ∨ j = 5 ∨ j = 6 ∨ j = 7 := by omega
  rcases this with rfl | rfl | rfl | rfl | rfl | rfl
  · exact b2
  · exact b3
  · exact c4
  · exact c5
  · exact c6
  · exact c7
def lyV (P : VW) (S : ST) (k j : Nat) : Int32 := if ga (P 1) 23 (S_pl S 13 k) = 1 then oI (ga (P (4 + j)) 23 (S_pl S 13 k)) else -1
theorem ly_eq {S : ST} {P Q : VW} (hS : SI S) (hP : Lay (S_pl S) (S_mw S) (S_mh S) P) (hQ : Lay (S_pl S) (S_mw S) (S_mh S) Q) {k j : Nat} (hk : k < 12) (hj : j ≤ 3) : lyV P S k j = lyV Q S k j := by
  unfold lyV
  have tb : Tabs (S_pl S) (fun _ => false) := by
    obtain ⟨h1, h2, h3, h4, ⟨d, wn, t, tb, lo, ge⟩, h6, h7⟩ := hS
    exact tb
  rcases tb.gr hk with z | ⟨g, hg, eg, kg⟩
  · rw [z, ga_m1 (f := P 1), ga_m1 (f := Q 1), if_neg (by decide), if_neg (by decide)]
  · obtain ⟨a, b⟩ := lay_eq hS hP hQ hg (by omega)
    rw [eg, ga_in hg, ga_in hg, ga_in hg, ga_in hg, a]
    by_cases q : Q 1 g = 1
    · rw [if_pos q, if_pos q, b (by rw [a]; exact q) (4 + j) (by omega) (by omega)]
    · rw [if_neg q, if_neg q]
def wj (w : Int32) : Nat := if w = 0 then 0 else if w = 1 then 1 else if w = 2 then 2 else 3
theorem wj_eq {w : Int32} (h : 0 ≤ w.toInt ∧ w.toInt ≤ 3) : w.toInt = wj w ∧ wj w ≤ 3 := by
  have : w.toInt = 0 ∨ w.toInt = 1 ∨ w.toInt = 2 ∨ w.toInt = 3 := by omega
  rcases this with z | z | z | z
  · have : w = 0 := j_eq.mpr z
    subst this
    exact ⟨rfl, by decide⟩
  · have : w = 1 := j_eq.mpr z
    subst this
    exact ⟨rfl, by decide⟩
  · have : w = 2 := j_eq.mpr z
    subst this
    exact ⟨rfl, by decide⟩
  · have : w = 3 := j_eq.mpr z
    subst this
    exact ⟨rfl, by decide⟩
theorem s_rect {σ : Sg} {S : ST} (h : stv σ 1 = S) (hS : SI S) {p : Int32} {k : Nat} (hp : p.toInt = k) (hk : k < 12) (hx : exP S p = true) {w : Int32} (hw : 0 ≤ w.toInt ∧ w.toInt ≤ 3) : fX8_rectangle σ p w = some (.inl (lyV (qv σ) S k (wj w))) ∧ fX8_rectangleN σ p w = some (lyV (qv σ) S k (wj w)) := by
  subst h
  have z3 : (3 : Int32).toInt = 3 := rfl
  have g13 : ga (pv σ (1 + 5) 13) 12 p.toInt = S_pl (stv σ 1) 13 k := by
    rw [hp, ga_in hk]
    rfl
  have r13 : -2147483648 ≤ S_pl (stv σ 1) 13 k ∧ S_pl (stv σ 1) 13 k < 2147483648 := pv_rg σ (1 + 5) 13 k
  have t13 : (oI (S_pl (stv σ 1) 13 k)).toInt = S_pl (stv σ 1) 13 k := j_oI r13.1 r13.2
  have nP : fX8_requirePaneN σ p = some () := by
    unfold fX8_requirePaneN
    rw [s_exists hS.1, j_b]
    show (if exP (stv σ 1) p = true then _ else _) = _
    rw [hx, if_pos rfl]
  have nR : fX8_requireRangeN σ w 0 3 = some () := by
    unfold fX8_requireRangeN
    rw [if_neg (by rw [j_lt, jz0]; omega), if_pos (by rw [j_le, z3]; omega)]
  unfold fX8_rectangle fX8_rectangleN
  rw [s_reqP hS, j_b, hx, if_pos rfl, j_xl, s_reqR, j_b, jz0, z3, decide_eq_true hw, if_pos rfl, j_xl, s_groupOf, j_b, nP, j_b, nR, j_b, j_b, g13, s_isShown, j_b, j_b, t13]
  unfold lyV wj
  by_cases q : ga (qv σ 1) 23 (S_pl (stv σ 1) 13 k) = 1
  · rw [if_pos q, decide_eq_true q, if_pos rfl, if_pos rfl]
    unfold fX2_leftOf fX2_topOf fX2_columnsOf fX2_rowsOf
    rw [s_q (j := 4) (by decide) (by decide), s_q (j := 5) (by decide) (by decide), s_q (j := 6) (by decide) (by decide), s_q (j := 7) (by decide) (by decide), t13]
    simp only [j_b]
    by_cases q0 : w = 0
    · rw [if_pos q0, if_pos q0, if_pos q0]
      exact ⟨rfl, rfl⟩
    rw [if_neg q0, if_neg q0, if_neg q0]
    by_cases q1 : w = 1
    · rw [if_pos q1, if_pos q1, if_pos q1]
      exact ⟨rfl, rfl⟩
    rw [if_neg q1, if_neg q1, if_neg q1]
    by_cases q2 : w = 2
    · rw [if_pos q2, if_pos q2, if_pos q2]
      exact ⟨rfl, rfl⟩
    rw [if_neg q2, if_neg q2, if_neg q2]
    exact ⟨rfl, rfl⟩
  · rw [if_neg q, decide_eq_false q]
    exact ⟨rfl, rfl⟩
theorem m_corner {σ : Sg} {S : ST} (h : SM (mv (σ.1 463)) S) (hS : SI S) (hL : Lay (S_pl S) (S_mw S) (S_mh S) (mq σ)) {p : Int32} {k : Nat} (hp : p.toInt = k) (hk : k < 12) {w : Int32} (hw : 0 ≤ w.toInt ∧ w.toInt ≤ 3) : fX9_cornerOf σ 462 p w = some (lyV (mq σ) S k (wj w)) := by
  obtain ⟨s1, s2, s3, s4⟩ := h
  obtain ⟨-, -, -, -, ⟨d, wn, t, tb, lo, ge⟩, -, -⟩ := hS
  obtain ⟨ew, wl⟩ := wj_eq hw
  have ew' : w = nI (wj w) := j_eq.mpr (by rw [ew, j_nI (by omega)])
  unfold fX9_cornerOf
  rw [m_isL s2 hp hk, j_b, m_o3 hp hk, j_b, s2.gr hk, j_b]
  unfold lyV plc
  rcases tb.gr hk with z | ⟨g, hg, eg, kg⟩
  · rw [z, ga_m1, if_neg (by decide), if_neg (by decide)]
  · rw [eg, decide_eq_true (by omega), if_pos rfl, ← j_nIo g (by omega), if_pos (j_ckn (by omega) (by decide)), j_cl _ (by omega), ga_in hg, ga_in hg, show (462 + 5 : Nat) = 467 from rfl]
    have b01 := (hL.1 g hg kg).1
    have e4 : (4 : Int32) * nI g + w = nI (4 * g + wj w) := by
      rw [ew', show (4 : Int32) * nI g = nI (4 * g) from (Int32.ofNat_mul 4 g).symm, j_a, ← ew']
    by_cases q : mq σ 1 g = 1
    · have n0 : ¬ σ.1 467 g = 0 := fun y => by
        rw [mq1 (by omega), y, jz0] at q
        omega
      rw [if_pos q, if_neg n0, e4, if_pos (j_ckn (by omega) (by decide)), j_cl _ (by omega), mqR (by omega) wl, j_oIt]
    · have z0 : σ.1 467 g = 0 := by
        refine j_eq.mpr ?_
        rw [mq1 (by omega)] at q b01
        rw [jz0]
        omega
      rw [if_neg q, if_pos z0]
/-! the calls -/
theorem pi_q {σ : Sg} {F : Option (Int32 × Sg)} {G : Sg → Option (Int32 × Sg)} {v : Int32} {S : ST} {l : List ST} (c : CR σ S l) (tx : TX σ) (m : MR σ S l) (hF : F = some (0, sul σ 476 0 v.toInt64)) (hG : ∀ s, MR s S l → ∃ s', G s = some (v, s') ∧ G9 s s' 0 ∧ MR s' S l) : PI F G :=
  pi_ok tx m hF (fun _ _ => rfl) c hG
theorem c_pane {σ : Sg} (h : RR σ) (p w : Int32) : PI (fL_pane σ p w 476 1) (fun s => fX9_pane s 462 p w) := by
  obtain ⟨S, l, c, m, tx⟩ := h
  have h1 := c.1
  have hS := c.2.2.1
  have hR : RR σ := ⟨S, l, c, m, tx⟩
  have z8 : (8 : Int32).toInt = 8 := rfl
  cases q : exP S p
  · refine pi_no (k := 1) (b := 0) hR ?_ (by decide) ?_
    · unfold fL_pane fX8_pane
      rw [s_reqP (by rw [h1]; exact hS), h1, q]
      rfl
    · show fX9_pane σ 462 p w = _
      unfold fX9_pane fX9_pane_28
      rw [m_isP m.2, j_b, q, rf1]
      rfl
  · by_cases hw : 0 ≤ w.toInt ∧ w.toInt ≤ 8
    · obtain ⟨k, hk, hk12, ek⟩ := exP_n q
      refine pi_q (v := tlV S k w) c tx m ?_ (fun s ms => ⟨su s 462 3 0, ?_, G9.s3, ms.s3⟩)
      · unfold fL_pane
        rw [(s_told h1 hS hk hk12 q hw).1, j_b, j_xl, if_pos (by decide), j_nm]
        rfl
      · show fX9_pane s 462 p w = _
        unfold fX9_pane fX9_pane_28
        rw [m_isP ms.2, j_b, q, if_pos rfl, m_within, j_b, jz0, z8, decide_eq_true hw, if_pos rfl, rf0, j_b]
        show (fX9_told (su s 462 3 0) 462 p w).bind _ = _
        rw [m_told (σ := su s 462 3 0) ms.s3.2 hS hk hk12 q hw, j_b]
    · refine pi_no (k := 2) (b := 0) hR ?_ (by decide) ?_
      · unfold fL_pane fX8_pane
        rw [s_reqP (by rw [h1]; exact hS), h1, q, j_b, if_pos rfl, j_xl, s_reqR, j_b, jz0, z8, decide_eq_false hw]
        rfl
      · show fX9_pane σ 462 p w = _
        unfold fX9_pane fX9_pane_28
        rw [m_isP m.2, j_b, q, if_pos rfl, m_within, j_b, jz0, z8, decide_eq_false hw, rf2]
        rfl
theorem c_rectangle {σ : Sg} (h : RR σ) (p w : Int32) : PI (fL_rectangle σ p w 476 1) (fun s => fX9_rectangle s 462 p w) := by
  obtain ⟨S, l, c, m, tx⟩ := h
  have h1 := c.1
  have hS := c.2.2.1
  have hR : RR σ := ⟨S, l, c, m, tx⟩
  have z3 : (3 : Int32).toInt = 3 := rfl
  cases q : exP S p
  · refine pi_no (k := 1) (b := 0) hR ?_ (by decide) ?_
    · unfold fL_rectangle fX8_rectangle
      rw [s_reqP (by rw [h1]; exact hS), h1, q]
      rfl
    · show fX9_rectangle σ 462 p w = _
      unfold fX9_rectangle fX9_rectangle_27
      rw [m_isP m.2, j_b, q, rf1]
      rfl
  · by_cases hw : 0 ≤ w.toInt ∧ w.toInt ≤ 3
    · obtain ⟨k, hk, hk12, ek⟩ := exP_n q
      refine pi_q (v := lyV (qv σ) S k (wj w)) c tx m ?_ (fun s ms => ?_)
      · unfold fL_rectangle
        rw [(s_rect h1 hS hk hk12 q hw).1, j_b, j_xl, if_pos (by decide), j_nm]
        rfl
      · obtain ⟨s1, a1, f1, m1, e1, L1⟩ := m_ly (ms.s3 (k := 0)) hS
        refine ⟨s1, ?_, G9.s3.tr f1, m1⟩
        show fX9_rectangle s 462 p w = _
        unfold fX9_rectangle fX9_rectangle_27
        rw [m_isP ms.2, j_b, q, if_pos rfl, m_within, j_b, jz0, z3, decide_eq_true hw, if_pos rfl, rf0, j_b]
        show (fX9_lays (su s 462 3 0) 462).bind _ = _
        rw [a1, j_b, m_corner m1.2 hS L1 hk hk12 hw, j_b, ly_eq hS L1 c.2.2.2.2.1 hk12 (wj_eq hw).2]
    · refine pi_no (k := 2) (b := 0) hR ?_ (by decide) ?_
      · unfold fL_rectangle fX8_rectangle
        rw [s_reqP (by rw [h1]; exact hS), h1, q, j_b, if_pos rfl, j_xl, s_reqR, j_b, jz0, z3, decide_eq_false hw]
        rfl
      · show fX9_rectangle σ 462 p w = _
        unfold fX9_rectangle fX9_rectangle_27
        rw [m_isP m.2, j_b, q, if_pos rfl, m_within, j_b, jz0, z3, decide_eq_false hw, rf2]
        rfl
theorem c_tab {σ : Sg} (h : RR σ) (p w : Int32) : PI (fL_tab σ p w 476 1) (fun s => fX9_tab s 462 p w) := by
  obtain ⟨S, l, c, m, tx⟩ := h
  have h1 := c.1
  have hS := c.2.2.1
  have hR : RR σ := ⟨S, l, c, m, tx⟩
  cases q : exP S p
  · refine pi_no (k := 1) (b := 0) hR ?_ (by decide) ?_
    · unfold fL_tab fX8_tab
      rw [s_reqP (by rw [h1]; exact hS), h1, q]
      rfl
    · show fX9_tab σ 462 p w = _
      unfold fX9_tab fX9_tab_14
      rw [m_isP m.2, j_b, q, rf1]
      rfl
  · obtain ⟨k, hk, hk12, ek⟩ := exP_n q
    have r13 : -2147483648 ≤ S_pl S 13 k ∧ S_pl S 13 k < 2147483648 := by rw [← h1]; exact pv_rg σ (1 + 5) 13 k
    have t13 : (oI (S_pl S 13 k)).toInt = S_pl S 13 k := j_oI r13.1 r13.2
    refine pi_q (v := oI (v_ta (S_pl S) (S_pl S 13 k) w.toInt)) c tx m ?_ (fun s ms => ⟨su s 462 3 0, ?_, G9.s3, ms.s3⟩)
    · unfold fL_tab fX8_tab
      rw [s_reqP (by rw [h1]; exact hS), h1, q, j_b, if_pos rfl, j_xl, s_groupOf, j_b, hk, ga_in hk12]
      have : pv σ (1 + 5) = S_pl S := by rw [← h1]; rfl
      rw [s_tabAt, j_b, this, t13, j_b, j_xl, if_pos (by decide), j_nm]
      rfl
    · show fX9_tab s 462 p w = _
      unfold fX9_tab fX9_tab_14
      rw [m_isP ms.2, j_b, q, if_pos rfl, rf0, j_b]
      show (fX9_isPlaced (su s 462 3 0) 462 p).bind _ = _
      have sm := (ms.s3 (k := 0)).2.2.1
      rw [m_isL sm hk hk12, j_b]
      unfold plc
      by_cases z : S_pl S 13 k = -1
      · rw [decide_eq_false (fun y => y z), z]
        rfl
      · rw [decide_eq_true z, if_pos rfl, m_o3 hk hk12, j_b, m_tabAt, j_b, sm.gr hk12, t13, sm.ta z]
end RA4
