/-! THE RELATION: what the calls tell (1) -/
section RA3
theorem v_we_n {V : VW} {w : Int} (h : v_we V w = true) : ∃ k : Nat, w = k ∧ k < 5 ∧ (k = 0 ∨ V 5 k ≠ -1) := by
  unfold v_we at h
  by_cases a : w = 0
  · exact ⟨0, by omega, by omega, Or.inl rfl⟩
  · rw [decide_eq_false a, Bool.false_or] at h
    have h := of_decide_eq_true h
    unfold ga at h
    by_cases b : 0 ≤ w ∧ w < 5
    · rw [if_pos (show 0 ≤ w ∧ w < ((5 : Nat) : Int) from b)] at h
      exact ⟨w.toNat, by omega, by omega, Or.inr h⟩
    · rw [if_neg (show ¬ (0 ≤ w ∧ w < ((5 : Nat) : Int)) from b)] at h
      exact absurd rfl h
theorem v_we_k {V : VW} {k : Nat} (hk : k < 5) : v_we V k = (decide (k = 0) || decide (V 5 k ≠ -1)) := by
  unfold v_we
  rw [ga_in hk]
  congr 1
  by_cases a : k = 0
  · rw [decide_eq_true a, decide_eq_true (by omega)]
  · rw [decide_eq_false a, decide_eq_false (by omega)]
theorem v_we_hi {V : VW} {w : Int} (h : ¬ (0 ≤ w ∧ w < 5)) : v_we V w = false := by
  cases q : v_we V w
  · rfl
  · obtain ⟨k, a, b, -⟩ := v_we_n q
    omega
theorem s_reqW {σ : Sg} (w : Int32) : fX8_requireWindow σ w = some (if v_we (S_pl (stv σ 1)) w.toInt then .inl () else .inr 0) := by
  unfold fX8_requireWindow
  rw [s_windowExists, j_b]
  show (if v_we (S_pl (stv σ 1)) w.toInt = true then _ else _) = _
  cases v_we (S_pl (stv σ 1)) w.toInt <;> rfl
theorem m_isW {σ : Sg} {V : VW} {X : Nat → Bool} (h : VM (mv (σ.1 463)) V X) (w : Int32) : fX9_isWindow σ 462 w = some (v_we V w.toInt) := by
  rw [m_isWindow]
  by_cases a : 0 ≤ w.toInt ∧ w.toInt < 5
  · obtain ⟨k, hk⟩ : ∃ k : Nat, w.toInt = k := ⟨w.toInt.toNat, by omega⟩
    rw [decide_eq_true a, Bool.true_and, hk, Int.toNat_natCast, h.ex (by omega), v_we_k (by omega)]
    by_cases b : k = 0 ∨ V 5 k ≠ -1
    · rw [if_pos b, decide_eq_true rfl]
      rcases b with b | b
      · rw [decide_eq_true b, Bool.true_or]
      · rw [decide_eq_true b, Bool.or_true]
    · rw [if_neg b, decide_eq_false (by omega), decide_eq_false (fun z => b (Or.inl z)), decide_eq_false (fun z => b (Or.inr z))]
      rfl
  · rw [decide_eq_false a, Bool.false_and, v_we_hi a]
theorem s_reqL {σ : Sg} {p : Int32} {k : Nat} (hp : p.toInt = k) (hk : k < 12) : fX8_requirePlaced σ p = some (if plc (S_pl (stv σ 1)) k then .inl () else .inr 2) := by
  unfold fX8_requirePlaced
  rw [s_groupOf, j_b, hp, ga_in hk]
  show (if oI (S_pl (stv σ 1) 13 k) = -1 then _ else _) = _
  have t := j_oI (pv_rg σ (1 + 5) 13 k).1 (pv_rg σ (1 + 5) 13 k).2
  unfold plc
  by_cases z : S_pl (stv σ 1) 13 k = -1
  · rw [if_pos (by rw [z]; rfl), decide_eq_false (fun w => w z)]
    rfl
  · rw [if_neg (fun w => z (by rw [j_eq, jm1] at w; exact t.symm.trans w)), decide_eq_true z]
    rfl
theorem m_isL {σ : Sg} {V : VW} {X : Nat → Bool} (h : VM (mv (σ.1 463)) V X) {p : Int32} {k : Nat} (hp : p.toInt = k) (hk : k < 12) : fX9_isPlaced σ 462 p = some (plc V k) := by
  rw [m_isPlaced hp hk, h.gr hk]
  rfl
/-- a row of the class's plan -/
theorem s_q {σ : Sg} {j : Nat} (h1 : 1 ≤ j) (h7 : j ≤ 7) (p : Int32) : fX8_at σ (422 + j) 23 p = some (oI (ga (qv σ j) 23 p.toInt)) := by
  rw [s_at (by decide)]
  congr 2
  unfold ga
  by_cases q : 0 ≤ p.toInt ∧ p.toInt < ((23 : Nat) : Int)
  · rw [if_pos q, if_pos q, qv_at h1 h7 (by omega)]
  · rw [if_neg q, if_neg q]
theorem qv_rg (σ : Sg) (j i : Nat) : -2147483648 ≤ qv σ j i ∧ qv σ j i < 2147483648 := by
  unfold qv
  split
  · exact ⟨j_lo _, j_hi _⟩
  · omega
theorem mq_rg (σ : Sg) (j i : Nat) : -2147483648 ≤ mq σ j i ∧ mq σ j i < 2147483648 := by
  unfold mq
  repeat' split
  all_goals first | exact ⟨j_lo _, j_hi _⟩ | omega
theorem s_isShown {σ : Sg} (p : Int32) : fX2_isShown σ 422 p = some (decide (ga (qv σ 1) 23 p.toInt = 1)) := by
  unfold fX2_isShown
  rw [s_q (by decide) (by decide), j_b]
  have t : (oI (ga (qv σ 1) 23 p.toInt)).toInt = ga (qv σ 1) 23 p.toInt := by
    have : -2147483648 ≤ ga (qv σ 1) 23 p.toInt ∧ ga (qv σ 1) 23 p.toInt < 2147483648 := by
      unfold ga
      split
      · exact qv_rg _ _ _
      · omega
    exact j_oI this.1 this.2
  by_cases z : ga (qv σ 1) 23 p.toInt = 1
  · rw [decide_eq_true z, if_pos (by rw [z]; rfl)]
  · rw [decide_eq_false z, if_neg (fun w => z (by rw [j_eq, t, jz1] at w; exact w))]
/-! pane -/
def tlV (S : ST) (k : Nat) (w : Int32) : Int32 :=
  if w = 0 then oI (S_mw S k)
  else if w = 1 then oI (S_mh S k)
  else if w = 2 then oI (v_wo (S_pl S) (S_pl S 13 k))
  else if w = 3 then (if S_pl S 15 k = 1 then 1 else 0)
  else if w = 4 then (if S_pl S 13 k = -1 then 0 else if ga (S_pl S 12) 23 (S_pl S 13 k) = k then 1 else 0)
  else if w = 5 then oI (S_pl S 14 k)
  else if w = 6 then (if S_pl S 13 k = -1 then -1 else oI (v_tc (S_pl S) (S_pl S 13 k)))
  else if w = 7 then (if ga (S_pl S 9) 23 (S_pl S 13 k) = -1 then -1 else oI (ga (S_pl S 11) 23 (S_pl S 13 k)))
  else (if ga (S_pl S 9) 23 (S_pl S 13 k) = -1 then -1 else oI (ga (S_pl S 8) 23 (ga (S_pl S 9) 23 (S_pl S 13 k))))
theorem oi_m1 {x : Int} (h0 : -2147483648 ≤ x) (h1 : x < 2147483648) : oI x = -1 ↔ x = -1 := by
  rw [j_eq, j_oI h0 h1, jm1]
theorem s_told {σ : Sg} {S : ST} (h : stv σ 1 = S) (hS : SI S) {p : Int32} {k : Nat} (hp : p.toInt = k) (hk : k < 12) (hx : exP S p = true) {w : Int32} (hw : 0 ≤ w.toInt ∧ w.toInt ≤ 8) : fX8_pane σ p w = some (.inl (tlV S k w)) ∧ fX8_paneN σ p w = some (tlV S k w) := by
  subst h
  have z8 : (8 : Int32).toInt = 8 := rfl
  have g13 : ga (pv σ (1 + 5) 13) 12 p.toInt = S_pl (stv σ 1) 13 k := by
    rw [hp, ga_in hk]
    rfl
  have g14 : ga (pv σ (1 + 5) 14) 12 p.toInt = S_pl (stv σ 1) 14 k := by
    rw [hp, ga_in hk]
    rfl
  have r13 : -2147483648 ≤ S_pl (stv σ 1) 13 k ∧ S_pl (stv σ 1) 13 k < 2147483648 := pv_rg σ (1 + 5) 13 k
  have t13 : (oI (S_pl (stv σ 1) 13 k)).toInt = S_pl (stv σ 1) 13 k := j_oI r13.1 r13.2
  have a1 : fX8_at σ (1 + 1) 12 p = some (oI (S_mw (stv σ 1) k)) := by
    rw [s_at (by decide), hp, ga_in hk]
    show some (oI (σ.1 2 k).toInt) = some (oI (rw12 (σ.1 2) k))
    rw [rw12_in hk]
  have a2 : fX8_at σ (1 + 2) 12 p = some (oI (S_mh (stv σ 1) k)) := by
    rw [s_at (by decide), hp, ga_in hk]
    show some (oI (σ.1 3 k).toInt) = some (oI (rw12 (σ.1 3) k))
    rw [rw12_in hk]
  have hid : v_hd (pv σ (1 + 5)) p.toInt = decide (S_pl (stv σ 1) 15 k = 1) := by
    rw [hp]
    exact v_hd_in hk
  have rg : ∀ j n x, -2147483648 ≤ ga (pv σ (1 + 5) j) n x ∧ ga (pv σ (1 + 5) j) n x < 2147483648 := fun j n x => ga_rg x
  have nP : fX8_requirePaneN σ p = some () := by
    unfold fX8_requirePaneN
    rw [s_exists hS.1, j_b]
    show (if exP (stv σ 1) p = true then _ else _) = _
    rw [hx, if_pos rfl]
  have nR : fX8_requireRangeN σ w 0 8 = some () := by
    unfold fX8_requireRangeN
    rw [if_neg (by rw [j_lt, jz0]; omega), if_pos (by rw [j_le, z8]; omega)]
  unfold fX8_pane fX8_paneN
  rw [s_reqP hS, j_b, hx, if_pos rfl, j_xl, s_reqR, j_b, jz0, z8, decide_eq_true hw, if_pos rfl, j_xl, s_groupOf, j_b, nP, j_b, nR, j_b, j_b, g13]
  unfold tlV
  by_cases q0 : w = 0
  · rw [if_pos q0, if_pos q0, if_pos q0, a1, j_b, j_b]
    exact ⟨rfl, rfl⟩
  rw [if_neg q0, if_neg q0, if_neg q0]
  by_cases q1 : w = 1
  · rw [if_pos q1, if_pos q1, if_pos q1, a2, j_b, j_b]
    exact ⟨rfl, rfl⟩
  rw [if_neg q1, if_neg q1, if_neg q1]
  by_cases q2 : w = 2
  · rw [if_pos q2, if_pos q2, if_pos q2, s_windowOf, j_b, j_b, t13]
    exact ⟨rfl, rfl⟩
  rw [if_neg q2, if_neg q2, if_neg q2]
  by_cases q3 : w = 3
  · rw [if_pos q3, if_pos q3, if_pos q3, s_isHidden, j_b, j_b, hid]
    by_cases y : S_pl (stv σ 1) 15 k = 1
    · rw [if_pos y, decide_eq_true y]
      exact ⟨rfl, rfl⟩
    · rw [if_neg y, decide_eq_false y]
      exact ⟨rfl, rfl⟩
  rw [if_neg q3, if_neg q3, if_neg q3]
  by_cases q4 : w = 4
  · rw [if_pos q4, if_pos q4, if_pos q4]
    by_cases y : S_pl (stv σ 1) 13 k = -1
    · rw [if_pos y, if_pos ((oi_m1 r13.1 r13.2).mpr y), if_pos ((oi_m1 r13.1 r13.2).mpr y)]
      exact ⟨rfl, rfl⟩
    · have y' := fun z => y ((oi_m1 r13.1 r13.2).mp z)
      rw [if_neg y, if_neg y', if_neg y', s_activeOf, j_b, j_b, t13]
      have tt : (oI (ga (pv σ (1 + 5) 12) 23 (S_pl (stv σ 1) 13 k))).toInt = ga (pv σ (1 + 5) 12) 23 (S_pl (stv σ 1) 13 k) := t_ga
      show (if oI (ga (pv σ (1 + 5) 12) 23 (S_pl (stv σ 1) 13 k)) = p then _ else _) = some (Sum.inl (if ga (pv σ (1 + 5) 12) 23 (S_pl (stv σ 1) 13 k) = k then _ else _)) ∧ (if oI (ga (pv σ (1 + 5) 12) 23 (S_pl (stv σ 1) 13 k)) = p then _ else _) = some (if ga (pv σ (1 + 5) 12) 23 (S_pl (stv σ 1) 13 k) = k then _ else _)
      by_cases u : ga (pv σ (1 + 5) 12) 23 (S_pl (stv σ 1) 13 k) = k
      · have u' : oI (ga (pv σ (1 + 5) 12) 23 (S_pl (stv σ 1) 13 k)) = p := by rw [j_eq, tt, u, hp]
        rw [if_pos u, if_pos u', if_pos u']
        exact ⟨rfl, rfl⟩
      · have u' : ¬ oI (ga (pv σ (1 + 5) 12) 23 (S_pl (stv σ 1) 13 k)) = p := fun z => u (by rw [j_eq, tt, hp] at z; exact z)
        rw [if_neg u, if_neg u', if_neg u']
        exact ⟨rfl, rfl⟩
  rw [if_neg q4, if_neg q4, if_neg q4]
  by_cases q5 : w = 5
  · rw [if_pos q5, if_pos q5, if_pos q5, s_spotOf, j_b, j_b, g14]
    exact ⟨rfl, rfl⟩
  rw [if_neg q5, if_neg q5, if_neg q5]
  by_cases q6 : w = 6
  · rw [if_pos q6, if_pos q6, if_pos q6]
    by_cases y : S_pl (stv σ 1) 13 k = -1
    · rw [if_pos y, if_pos ((oi_m1 r13.1 r13.2).mpr y), if_pos ((oi_m1 r13.1 r13.2).mpr y)]
      exact ⟨rfl, rfl⟩
    · have y' := fun z => y ((oi_m1 r13.1 r13.2).mp z)
      rw [if_neg y, if_neg y', if_neg y', s_tabCount, j_b, j_b, t13]
      exact ⟨rfl, rfl⟩
  rw [if_neg q6, if_neg q6, if_neg q6]
  have tp : (oI (ga (pv σ (1 + 5) 9) 23 (S_pl (stv σ 1) 13 k))).toInt = ga (pv σ (1 + 5) 9) 23 (S_pl (stv σ 1) 13 k) := t_ga
  have yp := oi_m1 (rg 9 23 (S_pl (stv σ 1) 13 k)).1 (rg 9 23 (S_pl (stv σ 1) 13 k)).2
  by_cases q7 : w = 7
  · rw [if_pos q7, if_pos q7, if_pos q7, s_parentOf, j_b, j_b, t13]
    by_cases y : ga (pv σ (1 + 5) 9) 23 (S_pl (stv σ 1) 13 k) = -1
    · rw [if_pos (yp.mpr y), if_pos (yp.mpr y)]
      show _ = some (Sum.inl (if ga (pv σ (1 + 5) 9) 23 (S_pl (stv σ 1) 13 k) = -1 then _ else _)) ∧ _ = some (if ga (pv σ (1 + 5) 9) 23 (S_pl (stv σ 1) 13 k) = -1 then _ else _)
      rw [if_pos y]
      exact ⟨rfl, rfl⟩
    · rw [if_neg (fun z => y (yp.mp z)), if_neg (fun z => y (yp.mp z)), s_weightOf, j_b, j_b, t13]
      show _ = some (Sum.inl (if ga (pv σ (1 + 5) 9) 23 (S_pl (stv σ 1) 13 k) = -1 then _ else _)) ∧ _ = some (if ga (pv σ (1 + 5) 9) 23 (S_pl (stv σ 1) 13 k) = -1 then _ else _)
      rw [if_neg y]
      exact ⟨rfl, rfl⟩
  · rw [if_neg q7, if_neg q7, if_neg q7, s_parentOf, t13]
    simp only [j_b]
    by_cases y : ga (pv σ (1 + 5) 9) 23 (S_pl (stv σ 1) 13 k) = -1
    · rw [if_pos (yp.mpr y), if_pos (yp.mpr y)]
      show _ = some (Sum.inl (if ga (pv σ (1 + 5) 9) 23 (S_pl (stv σ 1) 13 k) = -1 then _ else _)) ∧ _ = some (if ga (pv σ (1 + 5) 9) 23 (S_pl (stv σ 1) 13 k) = -1 then _ else _)
      rw [if_pos y]
      exact ⟨rfl, rfl⟩
    · rw [if_neg (fun z => y (yp.mp z)), if_neg (fun z => y (yp.mp z)), s_kindOf, tp]
      simp only [j_b]
      show _ = some (Sum.inl (if ga (pv σ (1 + 5) 9) 23 (S_pl (stv σ 1) 13 k) = -1 then _ else _)) ∧ _ = some (if ga (pv σ (1 + 5) 9) 23 (S_pl (stv σ 1) 13 k) = -1 then _ else _)
      rw [if_neg y]
      exact ⟨rfl, rfl⟩
theorem m_told {σ : Sg} {S : ST} (h : SM (mv (σ.1 463)) S) (hS : SI S) {p : Int32} {k : Nat} (hp : p.toInt = k) (hk : k < 12) (hx : exP S p = true) {w : Int32} (hw : 0 ≤ w.toInt ∧ w.toInt ≤ 8) : fX9_told σ 462 p w = some (tlV S k w) := by
  obtain ⟨s1, s2, s3, s4⟩ := h
  obtain ⟨-, -, -, -, ⟨d, wn, t, tb, lo, ge⟩, -, -⟩ := hS
  have ek : exB S k = true := by
    obtain ⟨k', h1, h2, h3⟩ := exP_n hx
    have : k' = k := by omega
    rw [← this]
    exact h3
  obtain ⟨e7, e8⟩ := (s1 k hk).2 ek
  have g9 := s2.gr hk
  have r13 : -2147483648 ≤ S_pl S 13 k ∧ S_pl S 13 k < 2147483648 := by rw [← g9]; exact mv_rg _ _ _
  have y13 := oi_m1 r13.1 r13.2
  unfold fX9_told
  rw [m_o3 hp hk, j_b, g9]
  rcases tb.gr hk with z | ⟨g, hg, eg, kg⟩
  · rw [if_pos (y13.mpr z)]
    unfold fX9_told_17 fX9_told_38 fX9_told_39 tlV
    rw [if_pos rfl, m_o1 hp hk, m_o2 hp hk, j_b, j_b, e7, e8]
    obtain ⟨n14, n15⟩ := tb.no hk z
    rw [z, n14, n15, v_wo_m1, if_pos rfl, if_pos rfl]
    simp only [ga_m1, if_true, show ¬ (0 : Int) = 1 from by decide, if_false]
    by_cases q0 : w = 0
    · rw [if_pos q0, if_pos q0]
    rw [if_neg q0, if_neg q0]
    by_cases q1 : w = 1
    · rw [if_pos q1, if_pos q1]
    rw [if_neg q1, if_neg q1]
    by_cases q2 : w = 2
    · rw [if_pos q2, if_pos q2]
      rfl
    rw [if_neg q2, if_neg q2]
    by_cases q3 : w = 3
    · rw [if_pos q3, if_pos q3]
    rw [if_neg q3, if_neg q3]
    by_cases q4 : w = 4
    · rw [if_pos q4, if_pos q4]
    rw [if_neg q4, if_neg q4]
    by_cases q5 : w = 5
    · rw [if_pos q5, if_pos q5]
      rfl
    rw [if_neg q5, if_neg q5]
    by_cases q6 : w = 6
    · rw [if_pos q6, if_pos q6]
    rw [if_neg q6, if_neg q6]
    by_cases q7 : w = 7
    · rw [if_pos q7, if_pos q7]
    rw [if_neg q7, if_neg q7]
  · have ng : S_pl S 13 k ≠ -1 := by omega
    have ng' : ¬ oI (S_pl S 13 k) = -1 := fun y => ng (y13.mp y)
    rw [if_neg ng']
    have ei : (oI (S_pl S 13 k)).toInt = g := by rw [j_oI r13.1 r13.2, eg]
    have u3 : S_pl S 8 g ≠ 3 := by omega
    have e1 := s2.pa hg u3
    have n10 : ¬ (1 : Int32) = 0 := by decide
    unfold fX9_told_17
    rw [if_neg n10, m_i1 ei (by omega), j_b, e1]
    have r9 : -2147483648 ≤ S_pl S 9 g ∧ S_pl S 9 g < 2147483648 := by rw [← e1]; exact mv_rg _ _ _
    have y9 := oi_m1 r9.1 r9.2
    -- what does not hang on the parent
    have base : ∀ s0 : Int32, (w = 7 → (if s0 = 0 then some (-1) else (fX9_its σ 462 (oI (S_pl S 13 k)) 3).bind fun r10 => some r10) = some (tlV S k w)) → (¬ w = 7 → ¬ w = 0 → ¬ w = 1 → ¬ w = 2 → ¬ w = 3 → ¬ w = 4 → ¬ w = 5 → ¬ w = 6 → (if s0 = 0 then some (-1) else (fX9_its σ 462 (oI (S_pl S 13 k)) 1).bind fun r11 => (fX9_its σ 462 r11 2).bind fun r12 => some r12) = some (tlV S k w)) → fX9_told_39 σ 462 p w (oI (S_pl S 13 k)) 1 s0 = some (tlV S k w) := fun s0 h7 h8 => by
      unfold fX9_told_39
      by_cases q7 : w = 7
      · have a := h7 q7
        have e7 : ∀ x : Int32, w = x → x = 7 := fun x y => by rw [← y]; exact q7
        rw [if_neg (fun y => absurd (e7 _ y) (by decide)), if_neg (fun y => absurd (e7 _ y) (by decide)), if_neg (fun y => absurd (e7 _ y) (by decide)), if_neg (fun y => absurd (e7 _ y) (by decide)), if_neg (fun y => absurd (e7 _ y) (by decide)), if_neg (fun y => absurd (e7 _ y) (by decide)), if_neg (fun y => absurd (e7 _ y) (by decide)), if_pos q7]
        exact a
      by_cases q0 : w = 0
      · unfold tlV
        rw [if_pos q0, if_pos q0, m_o1 hp hk, j_b, e7]
      rw [if_neg q0]
      by_cases q1 : w = 1
      · unfold tlV
        rw [if_pos q1, if_neg q0, if_pos q1, m_o2 hp hk, j_b, e8]
      rw [if_neg q1]
      by_cases q2 : w = 2
      · unfold tlV
        rw [if_pos q2, if_neg q0, if_neg q1, if_pos q2, if_neg n10, m_windowOf s2 t ei hg u3, j_b, eg, t.wo hg u3]
      rw [if_neg q2]
      by_cases q3 : w = 3
      · unfold tlV
        rw [if_pos q3, if_neg q0, if_neg q1, if_neg q2, if_pos q3, if_neg n10, m_o5 hp hk, j_b, s2.hi hk]
        rcases tb.hi hk with y | y
        · rw [y]; rfl
        · rw [y]; rfl
      rw [if_neg q3]
      by_cases q4 : w = 4
      · unfold tlV
        have ac := s2.ac hg kg rfl
        rw [if_pos q4, if_neg q0, if_neg q1, if_neg q2, if_neg q3, if_pos q4, if_neg n10, if_neg ng, m_i5 ei (by omega), j_b, ac, eg, ga_in hg]
        have r12 : -2147483648 ≤ S_pl S 12 g ∧ S_pl S 12 g < 2147483648 := by rw [← ac]; exact mv_rg _ _ _
        by_cases u : S_pl S 12 g = k
        · rw [if_pos u, if_pos (by rw [j_eq, j_oI r12.1 r12.2, u, hp])]
        · rw [if_neg u, if_neg (fun y => u (by rw [j_eq, j_oI r12.1 r12.2, hp] at y; exact y))]
      rw [if_neg q4]
      by_cases q5 : w = 5
      · unfold tlV
        rw [if_pos q5, if_neg q0, if_neg q1, if_neg q2, if_neg q3, if_neg q4, if_pos q5, if_neg n10, m_o4 hp hk, j_b, s2.sp hk ng]
      rw [if_neg q5]
      by_cases q6 : w = 6
      · unfold tlV
        rw [if_pos q6, if_neg q0, if_neg q1, if_neg q2, if_neg q3, if_neg q4, if_neg q5, if_pos q6, if_neg n10, if_neg ng, m_tabMany, j_b, ei, eg, s2.tc]
      rw [if_neg q6, if_neg q7]
      exact h8 q7 q0 q1 q2 q3 q4 q5 q6
    by_cases z : S_pl S 9 g = -1
    · rw [if_pos (y9.mpr z)]
      refine base 0 (fun q7 => ?_) (fun q7 q0 q1 q2 q3 q4 q5 q6 => ?_)
      · rw [if_pos rfl]
        subst q7
        unfold tlV
        rw [if_neg (by decide), if_neg (by decide), if_neg (by decide), if_neg (by decide), if_neg (by decide), if_neg (by decide), if_neg (by decide), if_pos rfl, eg, ga_in hg, if_pos z]
      · rw [if_pos rfl]
        unfold tlV
        rw [if_neg q0, if_neg q1, if_neg q2, if_neg q3, if_neg q4, if_neg q5, if_neg q6, if_neg q7, eg, ga_in hg, if_pos z]
    · obtain ⟨s, hs23, es, ks, -, -⟩ := t.pa hg z
      rw [if_neg (fun y => z (y9.mp y))]
      refine base 1 (fun q7 => ?_) (fun q7 q0 q1 q2 q3 q4 q5 q6 => ?_)
      · rw [if_neg n10, m_i3 ei (by omega), j_b, s2.we hg z]
        subst q7
        unfold tlV
        rw [if_neg (by decide), if_neg (by decide), if_neg (by decide), if_neg (by decide), if_neg (by decide), if_neg (by decide), if_neg (by decide), if_pos rfl, eg, ga_in hg, if_neg z, ga_in hg]
      · have e9 : (oI (S_pl S 9 g)).toInt = s := by rw [j_oI r9.1 r9.2, es]
        rw [if_neg n10, m_i1 ei (by omega), j_b, e1, m_i2 e9 (by omega), j_b, (s2.k1 hs23 ks).2]
        unfold tlV
        rw [if_neg q0, if_neg q1, if_neg q2, if_neg q3, if_neg q4, if_neg q5, if_neg q6, if_neg q7, eg, ga_in hg, if_neg z, es, ga_in hs23]
end RA3
