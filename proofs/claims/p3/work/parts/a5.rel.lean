/-! THE RELATION: what the calls tell (3): windows, panes, orders; setMinimum -/
section RA5
def wtV (P : VW) (S : ST) (k : Nat) (w : Int32) : Int32 :=
  if w = 0 then oI (S_pl S 1 k)
  else if w = 1 then oI (S_pl S 2 k)
  else if w = 2 then oI (S_pl S 3 k)
  else if w = 3 then oI (S_pl S 4 k)
  else if w = 4 then oI (v_pi (S_pl S) k)
  else if w = 5 then (if ga (P 1) 23 (S_pl S 5 k) = 1 then oI (ga (P 2) 23 (S_pl S 5 k)) else 0)
  else if w = 6 then (if ga (P 1) 23 (S_pl S 5 k) = 1 then oI (ga (P 3) 23 (S_pl S 5 k)) else 0)
  else oI (o_ix (odp (S_pl S)) k)
theorem wt_eq {S : ST} {P Q : VW} (hS : SI S) (hP : Lay (S_pl S) (S_mw S) (S_mh S) P) (hQ : Lay (S_pl S) (S_mw S) (S_mh S) Q) {k : Nat} (hk : k < 5) (w : Int32) : wtV P S k w = wtV Q S k w := by
  have t : ∃ d wn, Tree (S_pl S) d wn (fun _ => false) := by
    obtain ⟨h1, h2, h3, h4, ⟨d, wn, t, tb, lo, ge⟩, h6, h7⟩ := hS
    exact ⟨d, wn, t⟩
  obtain ⟨d, wn, t⟩ := t
  have key : ∀ j, 2 ≤ j → j ≤ 7 → (if ga (P 1) 23 (S_pl S 5 k) = 1 then oI (ga (P j) 23 (S_pl S 5 k)) else (0 : Int32)) = if ga (Q 1) 23 (S_pl S 5 k) = 1 then oI (ga (Q j) 23 (S_pl S 5 k)) else 0 := fun j j2 j7 => by
    rcases t.wi hk with z | ⟨g, hg, eg, ug, -⟩
    · rw [z, ga_m1 (f := P 1), ga_m1 (f := Q 1), if_neg (by decide), if_neg (by decide)]
    · obtain ⟨a, b⟩ := lay_eq hS hP hQ hg ug
      rw [eg, ga_in hg, ga_in hg, ga_in hg, ga_in hg, a]
      by_cases q : Q 1 g = 1
      · rw [if_pos q, if_pos q, b (by rw [a]; exact q) j j2 j7]
      · rw [if_neg q, if_neg q]
  unfold wtV
  rw [key 2 (by omega) (by omega), key 3 (by omega) (by omega)]
theorem s_wtold {σ : Sg} {S : ST} (h : stv σ 1 = S) (hS : SI S) {p : Int32} {k : Nat} (hp : p.toInt = k) (hk : k < 5) (hx : v_we (S_pl S) p.toInt = true) {w : Int32} (hw : 0 ≤ w.toInt ∧ w.toInt ≤ 7) : fX8_window σ p w = some (.inl (wtV (qv σ) S k w)) ∧ fX8_windowN σ p w = some (wtV (qv σ) S k w) := by
  subst h
  have z7 : (7 : Int32).toInt = 7 := rfl
  have lo : OkO (odv σ (1 + 5 + 6)) := by
    obtain ⟨h1, h2, h3, h4, ⟨d, wn, t, tb, lo, ge⟩, h6, h7⟩ := hS
    rw [← odp_odv]
    exact lo.ok (by decide)
  have nW : fX8_requireWindowN σ p = some () := by
    unfold fX8_requireWindowN
    rw [s_windowExists, j_b]
    show (if v_we (S_pl (stv σ 1)) p.toInt = true then _ else _) = _
    rw [hx, if_pos rfl]
  have nR : fX8_requireRangeN σ w 0 7 = some () := by
    unfold fX8_requireRangeN
    rw [if_neg (by rw [j_lt, jz0]; omega), if_pos (by rw [j_le, z7]; omega)]
  have g5 : ga (pv σ (1 + 5) 5) 5 p.toInt = S_pl (stv σ 1) 5 k := by
    rw [hp, ga_in hk]
    rfl
  have r5 : -2147483648 ≤ S_pl (stv σ 1) 5 k ∧ S_pl (stv σ 1) 5 k < 2147483648 := pv_rg σ (1 + 5) 5 k
  have t5 : (oI (S_pl (stv σ 1) 5 k)).toInt = S_pl (stv σ 1) 5 k := j_oI r5.1 r5.2
  unfold fX8_window fX8_windowN
  rw [s_reqW, hx, j_b, if_pos rfl, j_xl, s_reqR, j_b, jz0, z7, decide_eq_true hw, if_pos rfl, j_xl, s_rootOf, j_b, nW, j_b, nR, j_b, j_b, g5]
  unfold wtV fX2_minimumOf fX2_minimumOf_15
  rw [if_pos rfl, if_neg (show ¬ (1 : Int32) = 0 by decide), s_v1, s_v2, s_v3, s_v4, s_panesIn, s_isShown, show (422 + 2 : Nat) = 422 + 2 from rfl, s_q (j := 2) (by decide) (by decide), s_q (j := 3) (by decide) (by decide), s_indexOf lo, ← odp_odv, t5, hp, ga_in hk, ga_in hk, ga_in hk, ga_in hk]
  simp only [j_b]
  by_cases q0 : w = 0
  · rw [if_pos q0, if_pos q0, if_pos q0]
    exact ⟨rfl, rfl⟩
  rw [if_neg q0, if_neg q0, if_neg q0]
  by_cases q1 : w = 1
  · rw [if_pos q1, if_pos q1, if_pos q1]
    exact ⟨rfl, rfl⟩
  rw [if_neg q1, if_neg q1, if_neg q1]
  by_cases q2 : w = 2
  · rw [if_pos q2, if_pos q2, if_pos q2]
    exact ⟨rfl, rfl⟩
  rw [if_neg q2, if_neg q2, if_neg q2]
  by_cases q3 : w = 3
  · rw [if_pos q3, if_pos q3, if_pos q3]
    exact ⟨rfl, rfl⟩
  rw [if_neg q3, if_neg q3, if_neg q3]
  by_cases q4 : w = 4
  · rw [if_pos q4, if_pos q4, if_pos q4]
    exact ⟨rfl, rfl⟩
  rw [if_neg q4, if_neg q4, if_neg q4]
  by_cases y : ga (qv σ 1) 23 (S_pl (stv σ 1) 5 k) = 1
  · rw [decide_eq_true y, if_pos rfl, if_pos rfl, if_pos rfl, if_pos rfl, if_pos y, if_pos y]
    by_cases q5 : w = 5
    · rw [if_pos q5, if_pos q5, if_pos q5]
      exact ⟨rfl, rfl⟩
    rw [if_neg q5, if_neg q5, if_neg q5]
    by_cases q6 : w = 6
    · rw [if_pos q6, if_pos q6, if_pos q6]
      exact ⟨rfl, rfl⟩
    rw [if_neg q6, if_neg q6, if_neg q6]
    exact ⟨rfl, rfl⟩
  · rw [decide_eq_false y, if_neg y, if_neg y]
    simp only [Bool.false_eq_true, if_false]
    by_cases q5 : w = 5
    · rw [if_pos q5, if_pos q5, if_pos q5]
      exact ⟨rfl, rfl⟩
    rw [if_neg q5, if_neg q5, if_neg q5]
    by_cases q6 : w = 6
    · rw [if_pos q6, if_pos q6, if_pos q6]
      exact ⟨rfl, rfl⟩
    rw [if_neg q6, if_neg q6, if_neg q6]
    exact ⟨rfl, rfl⟩
theorem m_wtold {σ : Sg} {S : ST} (h : SM (mv (σ.1 463)) S) (hS : SI S) (hL : Lay (S_pl S) (S_mw S) (S_mh S) (mq σ)) {p : Int32} {k : Nat} (hp : p.toInt = k) (hk : k < 5) (hx : v_we (S_pl S) p.toInt = true) {w : Int32} (hw : 0 ≤ w.toInt ∧ w.toInt ≤ 7) : fX9_windowTold σ 462 p w = some (wtV (mq σ) S k w) := by
  obtain ⟨s1, s2, s3, s4⟩ := h
  have hSI := hS
  obtain ⟨-, -, -, -, ⟨d, wn, t, tb, lo, ge⟩, -, -⟩ := hS
  have ex : k = 0 ∨ S_pl S 5 k ≠ -1 := by
    rw [hp, v_we_k hk] at hx
    simp only [Bool.or_eq_true, decide_eq_true_eq] at hx
    exact hx
  obtain ⟨g1, g2, g3, g4⟩ := s2.geo hk ex
  have e5 := s2.ro hk
  have r5 : -2147483648 ≤ S_pl S 5 k ∧ S_pl S 5 k < 2147483648 := by rw [← e5]; exact mv_rg _ _ _
  have y5 := oi_m1 r5.1 r5.2
  have F := fl4 lo
  -- the least sizes
  have mins : ∀ (x : Int32) (D : Nat), D ≤ 1 → x = nI (5 + D) → (if oI (S_pl S 5 k) = -1 then some 0 else if ck (oI (S_pl S 5 k)) 24 then if (σ.1 (462 + 5) (oI (S_pl S 5 k)).toNatClampNeg) = 0 then some 0 else if ck (((2 * oI (S_pl S 5 k)) + x) - 5) 48 then some (σ.1 (462 + 6) (((2 * oI (S_pl S 5 k)) + x) - 5).toNatClampNeg) else none else none) = some (if ga (mq σ 1) 23 (S_pl S 5 k) = 1 then oI (ga (mq σ (2 + D)) 23 (S_pl S 5 k)) else 0) := fun x D hD ex => by
    rcases t.wi hk with z | ⟨g, hg, eg, ug, -⟩
    · rw [if_pos (y5.mpr z), z, ga_m1 (f := mq σ 1), if_neg (by decide)]
    · have b01 : mq σ 1 g = 0 ∨ mq σ 1 g = 1 := by
        have kr := t.ki hg
        have : S_pl S 8 g = 2 ∨ S_pl S 8 g ≤ 1 := by omega
        rcases this with u | u
        · exact (hL.1 g hg u).1
        · exact (hL.2.1 g hg u).1
      have e2 : ((2 * nI g) + x) - 5 = nI (2 * g + D) := by
        rw [ex, show (2 : Int32) * nI g = nI (2 * g) from (Int32.ofNat_mul 2 g).symm, j_a, show (5 : Int32) = nI 5 from rfl, j_sn (by omega) (by omega)]
        congr 1
        omega
      rw [if_neg (fun y => by rw [y5] at y; omega), eg, ← j_nIo g (by omega), if_pos (j_ckn (by omega) (by decide)), j_cl _ (by omega), ga_in hg, ga_in hg, show (462 + 5 : Nat) = 467 from rfl, e2, if_pos (j_ckn (by omega) (by decide)), j_cl _ (by omega), show (462 + 6 : Nat) = 468 from rfl]
      by_cases q : mq σ 1 g = 1
      · have n0 : ¬ σ.1 467 g = 0 := fun y => by
          rw [mq1 (by omega), y, jz0] at q
          omega
        rw [if_pos q, if_neg n0, mqL (by omega) hD, j_oIt]
      · have z0 : σ.1 467 g = 0 := by
          refine j_eq.mpr ?_
          rw [mq1 (by omega)] at q b01
          rw [jz0]
          omega
        rw [if_neg q, if_pos z0]
  have low : ¬ w = 4 → ¬ w = 5 → ¬ w = 6 → ¬ w = 7 → fX9_window σ 462 p (1 + w) 1 = some (wtV (mq σ) S k w) := fun n4 n5 n6 n7 => by
    have : w.toInt = 0 ∨ w.toInt = 1 ∨ w.toInt = 2 ∨ w.toInt = 3 := by
      have m4 : w.toInt ≠ 4 := fun z => n4 (j_eq.mpr z)
      have m5 : w.toInt ≠ 5 := fun z => n5 (j_eq.mpr z)
      have m6 : w.toInt ≠ 6 := fun z => n6 (j_eq.mpr z)
      have m7 : w.toInt ≠ 7 := fun z => n7 (j_eq.mpr z)
      omega
    rcases this with z | z | z | z
    · have : w = 0 := j_eq.mpr z
      subst this
      rw [show (1 + 0 : Int32) = nI 1 from rfl, m_window hp hk (by decide), g1]
      rfl
    · have : w = 1 := j_eq.mpr z
      subst this
      rw [show (1 + 1 : Int32) = nI 2 from rfl, m_window hp hk (by decide), g2]
      rfl
    · have : w = 2 := j_eq.mpr z
      subst this
      rw [show (1 + 2 : Int32) = nI 3 from rfl, m_window hp hk (by decide), g3]
      rfl
    · have : w = 3 := j_eq.mpr z
      subst this
      rw [show (1 + 3 : Int32) = nI 4 from rfl, m_window hp hk (by decide), g4]
      rfl
  unfold fX9_windowTold
  rw [show (5 : Int32) = nI 5 from rfl, m_window hp hk (by decide), j_b, e5]
  by_cases q4 : w = 4
  · rw [if_pos q4, m_placedIn s2 t tb, j_b, hp]
    subst q4
    rfl
  rw [if_neg q4]
  by_cases q5 : w = nI 5
  · rw [if_pos q5]
    have a := mins w 0 (by decide) q5
    have b : wtV (mq σ) S k w = if ga (mq σ 1) 23 (S_pl S 5 k) = 1 then oI (ga (mq σ (2 + 0)) 23 (S_pl S 5 k)) else 0 := by
      rw [q5]
      rfl
    rw [b]
    exact a
  rw [if_neg q5]
  by_cases q6 : w = 6
  · rw [if_pos q6]
    have a := mins w 1 (by decide) q6
    have b : wtV (mq σ) S k w = if ga (mq σ 1) 23 (S_pl S 5 k) = 1 then oI (ga (mq σ (2 + 1)) 23 (S_pl S 5 k)) else 0 := by
      rw [q6]
      rfl
    rw [b]
    exact a
  rw [if_neg q6]
  by_cases q7 : w = 7
  · rw [if_pos q7]
    have b : wtV (mq σ) S k w = oI (o_ix (odp (S_pl S)) k) := by
      rw [q7]
      rfl
    rw [b]
    by_cases z : p = 0
    · have k0 : k = 0 := by
        rw [z, jz0] at hp
        omega
      have := lo.ix_no (x := k) (by rw [k0]; rfl)
      rw [if_pos z, this]
      rfl
    · have oe := s2.oe
      rw [if_neg z, show (246 : Int32) = nI 246 from rfl, m_placeIn (j := 18) (cap := 4) (Or.inl ⟨rfl, rfl, rfl⟩) (by rw [oe.1]; exact F), j_b, oe.ix, hp]
  rw [if_neg q7, low q4 q5 q6 q7]
  rfl
theorem c_window {σ : Sg} (h : RR σ) (p w : Int32) : PI (fL_window σ p w 476 1) (fun s => fX9_window_ s 462 p w) := by
  obtain ⟨S, l, c, m, tx⟩ := h
  have h1 := c.1
  have hS := c.2.2.1
  have hR : RR σ := ⟨S, l, c, m, tx⟩
  have z7 : (7 : Int32).toInt = 7 := rfl
  cases q : v_we (S_pl S) p.toInt
  · refine pi_no (k := 1) (b := 0) hR ?_ (by decide) ?_
    · unfold fL_window fX8_window
      rw [s_reqW, h1, q]
      rfl
    · show fX9_window_ σ 462 p w = _
      unfold fX9_window_ fX9_window__28
      rw [m_isW m.2.2.1, j_b, q, rf1]
      rfl
  · by_cases hw : 0 ≤ w.toInt ∧ w.toInt ≤ 7
    · obtain ⟨k, hk, hk5, -⟩ := v_we_n q
      refine pi_q (v := wtV (qv σ) S k w) c tx m ?_ (fun s ms => ?_)
      · unfold fL_window
        rw [(s_wtold h1 hS hk hk5 q hw).1, j_b, j_xl, if_pos (by decide), j_nm]
        rfl
      · obtain ⟨s1, a1, f1, m1, e1, L1⟩ := m_ly (ms.s3 (k := 0)) hS
        refine ⟨s1, ?_, G9.s3.tr f1, m1⟩
        show fX9_window_ s 462 p w = _
        unfold fX9_window_ fX9_window__28
        rw [m_isW ms.2.2.1, j_b, q, if_pos rfl, m_within, j_b, jz0, z7, decide_eq_true hw, if_pos rfl, rf0, j_b]
        show (fX9_lays (su s 462 3 0) 462).bind _ = _
        rw [a1, j_b, m_wtold m1.2 hS L1 hk hk5 q hw, j_b, wt_eq hS L1 c.2.2.2.2.1 hk5 w]
    · refine pi_no (k := 2) (b := 0) hR ?_ (by decide) ?_
      · unfold fL_window fX8_window
        rw [s_reqW, h1, q, j_b, if_pos rfl, j_xl, s_reqR, j_b, jz0, z7, decide_eq_false hw]
        rfl
      · show fX9_window_ σ 462 p w = _
        unfold fX9_window_ fX9_window__28
        rw [m_isW m.2.2.1, j_b, q, if_pos rfl, m_within, j_b, jz0, z7, decide_eq_false hw, rf2]
        rfl
/-- a call that throws nothing and changes nothing -/
def PQ (F : Option Int32) (G : Option (Int32 × Sg)) : Prop := ∃ v σ2, F = some v ∧ G = some (v, σ2) ∧ RR σ2
theorem c_panes {σ : Sg} (h : RR σ) : PQ (fX8_panes σ) (fX9_panes σ 462) := by
  obtain ⟨S, l, c, m, tx⟩ := h
  have h1 := c.1
  have hS := c.2.2.1
  have hR : RR σ := ⟨S, l, c, m, tx⟩
  refine ⟨nI (S_ex S).toNat, su σ 462 3 0, ?_, ?_, hR.s3⟩
  · unfold fX8_panes
    rw [ex_get (b := 1) (by rw [h1]; exact hS.1), h1]
  · unfold fX9_panes
    rw [j_nm, m_paneSet (S := S) m.s3.2 hS.1, j_b]
theorem m_ordQ {σ : Sg} {j c cap : Nat} (h : MJ j c cap) {o : OD} (oe : OE (mo (mv (σ.1 463)) j) o) (hc : 0 ≤ o.1 ∧ o.1 ≤ cap) (p : Int32) : (if ck (nI c) 921 then (fX9_within σ p 0 ((σ.1 463 c) - 1)).bind fun r2 => if r2 = true then (if ck (nI (c + 1) + p) 921 then some (σ.1 463 (nI (c + 1) + p).toNatClampNeg, σ) else none) else some ((-1), σ) else none) = some (oI (o_it o p.toInt), σ) := by
  obtain ⟨a1, a2, a3, a4, a5, a6⟩ := h.a0
  have ct := mo_ct (σ := σ) h
  rw [oe.1] at ct
  have em : ((σ.1 463 c) - 1).toInt = o.1 - 1 := by
    rw [j_sub (by rw [ct, jz1]; omega) (by rw [ct, jz1]; omega), ct, jz1]
  rw [if_pos (j_ckn (by omega) (by decide)), m_within, j_b, jz0, em]
  unfold o_it
  by_cases q : 0 ≤ p.toInt ∧ p.toInt ≤ o.1 - 1
  · obtain ⟨k, hk⟩ : ∃ k : Nat, p.toInt = k := ⟨p.toInt.toNat, by omega⟩
    have ep : p = nI k := j_eq.mpr (by rw [hk, j_nI (by omega)])
    have it := mo_it (σ := σ) h (i := k) (by omega)
    rw [oe.2 k (by rw [oe.1]; omega)] at it
    rw [decide_eq_true q, if_pos rfl, if_neg (show ¬ o.1 ≤ p.toInt by omega), ep, j_a, if_pos (j_ckn (by omega) (by decide)), j_cl _ (by omega), j_nI (by omega), ga_in (by omega), ← it, j_oIt]
  · rw [decide_eq_false q, if_neg Bool.false_ne_true]
    by_cases z : o.1 ≤ p.toInt
    · rw [if_pos z]
      rfl
    · rw [if_neg z]
      unfold ga
      rw [if_neg (by omega)]
      rfl
theorem c_floating {σ : Sg} (h : RR σ) (p : Int32) : PQ (fX8_floating σ p) (fX9_floating σ 462 p) := by
  obtain ⟨S, l, c, m, tx⟩ := h
  have h1 := c.1
  have hS := c.2.2.1
  have hR : RR σ := ⟨S, l, c, m, tx⟩
  obtain ⟨-, -, -, -, ⟨d, wn, t, tb, lo, ge⟩, -, -⟩ := id hS
  refine ⟨oI (o_it (odp (S_pl S)) p.toInt), su σ 462 3 0, ?_, ?_, hR.s3⟩
  · unfold fX8_floating
    rw [s_item, j_b, ← odp_odv, ← h1]
    rfl
  · unfold fX9_floating
    rw [j_nm]
    exact m_ordQ (σ := su σ 462 3 0) (j := 18) (c := 246) (cap := 4) (Or.inl ⟨rfl, rfl, rfl⟩) (m.s3 (k := 0)).2.2.1.oe (fl4 lo) p
theorem c_focus {σ : Sg} (h : RR σ) (p : Int32) : PQ (fX8_focus σ p) (fX9_focus σ 462 p) := by
  obtain ⟨S, l, c, m, tx⟩ := h
  have h1 := c.1
  have hS := c.2.2.1
  have hR : RR σ := ⟨S, l, c, m, tx⟩
  refine ⟨oI (o_it (S_fo S) p.toInt), su σ 462 3 0, ?_, ?_, hR.s3⟩
  · unfold fX8_focus
    rw [s_item, j_b, ← h1]
    rfl
  · unfold fX9_focus
    rw [j_nm]
    exact m_ordQ (σ := su σ 462 3 0) (j := 20) (c := 251) (cap := 12) (Or.inr ⟨rfl, rfl, rfl⟩) (m.s3 (k := 0)).2.2.2.1 (hS.2.2.2.2.2.1.ok (by decide)) p
end RA5
