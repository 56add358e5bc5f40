theorem z_0 : (0 : Int32).toInt = 0 := by decide
theorem z_m1 : (-1 : Int32).toInt = -1 := by decide
theorem z_1 : (1 : Int32).toInt = 1 := by decide
theorem i_suc {l : Int32} {m : Int} (h0 : 0 ≤ l.toInt) (h1 : l.toInt < m) (hm : m < 2147483647) : (l + 1).toInt = l.toInt + 1 := by
  have := z_1
  rw [i_add (by omega) (by omega), this]
/-! a point -/
theorem f_wc (x y : Int32) : ∃ b, fX1_windowContains σ0 (1 + 5) 0 x y = some b := by
  unfold fX1_windowContains
  have e : 0 ≤ (0 : Int32).toInt ∧ (0 : Int32).toInt < ((5 : Nat) : Int) := by decide
  simp only [f_at (n := 5) (by decide), o_b, if_pos e]
  split
  · exact ⟨_, rfl⟩
  · split
    · exact ⟨_, rfl⟩
    · split
      · exact ⟨_, rfl⟩
      · split
        · exact ⟨_, rfl⟩
        · exact ⟨_, rfl⟩
theorem f_fw1 (n : Nat) (x y : Int32) : ∃ r, fX8_frontWindowAt_19 σ0 (n + 1) x y (-1) = some r ∧ (r = 0 ∨ r = -1) := by
  obtain ⟨b, hb⟩ := f_wc x y
  rw [fX8_frontWindowAt_19, if_pos (by decide), hb, o_b]
  cases b with
  | true => exact ⟨0, rfl, Or.inl rfl⟩
  | false => exact ⟨-1, rfl, Or.inr rfl⟩
theorem f_fw (x y : Int32) : ∃ r, fX8_frontWindowAt σ0 x y = some r ∧ (r = 0 ∨ r = -1) := by
  unfold fX8_frontWindowAt fX0_size
  rw [o_b, o_nm, show σ0.1 ((1 + 5) + 6) 1 - 1 = (-1 : Int32) by decide +kernel]
  exact f_fw1 5999 x y
theorem f_ga1 (w x y : Int32) : ∀ (n : Nat) (l : Int32), 0 ≤ l.toInt → 23 - l.toInt < n → 0 < n → fX8_groupAt_12 σ0 n w x y l = some (-1) := by
  intro n
  have e23 : (23 : Int32).toInt = 23 := by decide
  induction n with
  | zero =>
    intro l h0 h1 h2
    omega
  | succ n ih =>
    intro l h0 h1 _
    rw [fX8_groupAt_12]
    by_cases h : (23 : Int32) ≤ l
    · rw [if_pos h]
    · rw [if_neg h]
      have h2 := mt i_le.mpr h
      by_cases hw : w = -1
      · rw [if_pos hw]
      · rw [if_neg hw]
        unfold fX1_kindOf
        rw [f_at (by decide), if_pos (show 0 ≤ l.toInt ∧ l.toInt < ((23 : Nat) : Int) from ⟨h0, by omega⟩), o_b, o_b]
        rw [if_neg (show ¬ σ0.1 (1 + 5 + 8) l.toInt.toNat = 2 from fun h => absurd (show (3 : Int32) = 2 from h) (by decide))]
        unfold fX8_groupAt_53 fX8_groupAt_54 fX8_groupAt_75
        rw [if_pos rfl]
        have h3 := i_suc (l := l) (m := 23) h0 (by omega) (by omega)
        exact ih (l + 1) (by omega) (by omega) (by omega)
theorem f_ga (w x y : Int32) : fX8_groupAt σ0 w x y = some (-1) := by
  unfold fX8_groupAt
  exact f_ga1 w x y FU 0 (by decide) (by decide) (by decide)
theorem f_sh : fX2_isShown σ0 422 (-1) = some false := by decide +kernel
theorem m_w0 (σ : Sg) : fX9_window σ 462 0 0 1 = some (σ.1 463 216) ∧ fX9_window σ 462 0 1 1 = some (σ.1 463 217) ∧ fX9_window σ 462 0 2 1 = some (σ.1 463 218) ∧ fX9_window σ 462 0 3 1 = some (σ.1 463 219) ∧ fX9_window σ 462 0 4 1 = some (σ.1 463 220) ∧ fX9_window σ 462 0 5 1 = some (σ.1 463 221) := by
  refine ⟨?_, ?_, ?_, ?_, ?_, ?_⟩ <;> (unfold fX9_window; exact if_pos (by decide))
theorem m_ii (σ : Sg) (a b c d e f : Int32) : ∃ r, fX9_isInside σ 462 a b c d e f = some r := by
  unfold fX9_isInside
  split
  · exact ⟨_, rfl⟩
  · split
    · exact ⟨_, rfl⟩
    · split
      · exact ⟨_, rfl⟩
      · split
        · exact ⟨_, rfl⟩
        · exact ⟨_, rfl⟩
theorem m_iw (σ : Sg) : ∃ r, fX9_isWindow σ 462 0 = some r := by
  unfold fX9_isWindow
  rw [f_wt (by decide), o_b, if_pos rfl, (m_w0 σ).1, o_b]
  split
  · exact ⟨_, rfl⟩
  · exact ⟨_, rfl⟩
theorem m_in (σ : Sg) (x y : Int32) : ∃ r, fX9_isIn σ 462 0 x y = some r := by
  obtain ⟨b, hb⟩ := m_iw σ
  unfold fX9_isIn
  obtain ⟨-, h1, h2, h3, h4, -⟩ := m_w0 σ
  obtain ⟨r, hr⟩ := m_ii σ x y (σ.1 463 217) (σ.1 463 218) (σ.1 463 219) (σ.1 463 220)
  rw [hb, o_b, h1, o_b, h2, o_b, h3, o_b, h4, o_b, hr, o_b]
  cases b <;> cases r <;> exact ⟨_, rfl⟩
theorem m_wa1 (σ : Sg) (n : Nat) (x y : Int32) : ∃ r, fX9_windowAt_11 σ 462 (n + 1) x y (-1) = some r ∧ (r = 0 ∨ r = -1) := by
  obtain ⟨b, hb⟩ := m_in σ x y
  rw [fX9_windowAt_11, if_pos (by decide), hb, o_b]
  cases b with
  | true => exact ⟨0, rfl, Or.inl rfl⟩
  | false => exact ⟨-1, rfl, Or.inr rfl⟩
theorem m_wa {σ : Sg} (h : σ.1 463 246 = 0) (x y : Int32) : ∃ r, fX9_windowAt σ 462 x y = some r ∧ (r = 0 ∨ r = -1) := by
  unfold fX9_windowAt
  rw [if_pos (by decide), o_nm, show σ.1 (462 + 1) (246 : Int32).toNatClampNeg = σ.1 463 246 from rfl, h, show (0 : Int32) - 1 = -1 by decide]
  exact m_wa1 σ 5999 x y
theorem m_ga1 {σ : Sg} (hk : ∀ l : Int32, 0 ≤ l.toInt → l.toInt < 24 → ∃ r, fX9_its σ 462 l 0 = some r ∧ ¬ r = 2) (w x y : Int32) : ∀ (n : Nat) (l : Int32), 0 ≤ l.toInt → 24 - l.toInt < n → 0 < n → fX9_groupAt_10 σ 462 n x y w l = some (-1) := by
  intro n
  have e24 : (24 : Int32).toInt = 24 := by decide
  induction n with
  | zero => intro l h0 h1 h2; omega
  | succ n ih =>
    intro l h0 h1 _
    rw [fX9_groupAt_10]
    by_cases h : (24 : Int32) ≤ l
    · rw [if_pos h]
    · rw [if_neg h]
      have h2 := mt i_le.mpr h
      by_cases hw : w = -1
      · rw [if_pos hw]
      · rw [if_neg hw]
        obtain ⟨r, hr, h3⟩ := hk l h0 (by omega)
        rw [hr, o_b, if_neg h3]
        unfold fX9_groupAt_107
        have h4 := i_suc (l := l) (m := 24) h0 (by omega) (by omega)
        exact ih (l + 1) (by omega) (by omega) (by omega)
theorem m_lay : ∃ σ2, fX9_lays (su σ0 462 3 0) 462 = some σ2 ∧ (∀ l : Int32, 0 ≤ l.toInt → l.toInt < 24 → ∃ r, fX9_its σ2 462 l 0 = some r ∧ ¬ r = 2) ∧ σ2.1 463 246 = 0 ∧ σ2.1 463 221 = -1 := by
  obtain ⟨σ2, h1, h2⟩ := o_any (show (fX9_lays (su σ0 462 3 0) 462).any (fun σ => (List.range 24).all (fun i => (fX9_its σ 462 (Int32.ofNat i) 0).any (fun r => decide (¬ r = 2))) && (decide (σ.1 463 246 = 0) && decide (σ.1 463 221 = -1))) = true by decide +kernel)
  rw [Bool.and_eq_true, Bool.and_eq_true] at h2
  refine ⟨σ2, h1, fun l h3 h4 => ?_, of_decide_eq_true h2.2.1, of_decide_eq_true h2.2.2⟩
  obtain ⟨r, h5, h6⟩ := o_any (i_all (f := fun l => (fX9_its σ2 462 l 0).any (fun r => decide (¬ r = 2))) h2.1 h3 h4)
  exact ⟨r, h5, of_decide_eq_true h6⟩
theorem m_ga {σ : Sg} (hk : ∀ l : Int32, 0 ≤ l.toInt → l.toInt < 24 → ∃ r, fX9_its σ 462 l 0 = some r ∧ ¬ r = 2) (h : σ.1 463 246 = 0) (x y : Int32) : fX9_groupAt σ 462 x y = some (-1) := by
  obtain ⟨r, h1, -⟩ := m_wa h x y
  unfold fX9_groupAt
  rw [h1, o_b]
  exact m_ga1 hk r x y FU 0 (by decide) (by decide) (by decide)
theorem one_kindAt (x y : Int32) : okq (fX8_kindAt σ0 x y) (fX9_kindAt σ0 462 x y) := by
  obtain ⟨σ2, h1, h2, h3, h4⟩ := m_lay
  obtain ⟨r, h5, -⟩ := f_fw x y
  obtain ⟨w, h6, h7⟩ := m_wa h3 x y
  refine ⟨0, σ2, ?_, ?_⟩
  · unfold fX8_kindAt
    rw [h5, o_b, f_ro, o_b, f_sh, o_b, if_neg (by decide)]
  · unfold fX9_kindAt
    rw [o_nm, h1, o_b, h6, o_b]
    rcases h7 with h7 | h7
    · subst h7
      rw [if_neg (by decide), (m_w0 σ2).2.2.2.2.2, h4, o_b]
      rfl
    · subst h7
      rw [if_pos rfl]
      rfl
theorem one_paneAt (x y : Int32) : okq (fX8_paneAt σ0 x y) (fX9_paneAt σ0 462 x y) := by
  obtain ⟨σ2, h1, h2, h3, h4⟩ := m_lay
  obtain ⟨r, h5, -⟩ := f_fw x y
  refine ⟨-1, σ2, ?_, ?_⟩
  · unfold fX8_paneAt
    rw [h5, o_b, f_ga, o_b, if_pos rfl]
  · unfold fX9_paneAt
    rw [o_nm, h1, o_b, m_ga h2 h3, o_b, if_pos rfl]
theorem one_dropAt (x y : Int32) : okq (fX8_dropAt σ0 x y) (fX9_dropAt σ0 462 x y) := by
  obtain ⟨σ2, h1, h2, h3, h4⟩ := m_lay
  obtain ⟨r, h5, -⟩ := f_fw x y
  refine ⟨-1, σ2, ?_, ?_⟩
  · unfold fX8_dropAt
    rw [h5, o_b, f_ga, o_b, if_pos rfl]
  · unfold fX9_dropAt
    rw [o_nm, h1, o_b, m_ga h2 h3, o_b, if_pos rfl]
/-! create and resize -/
theorem m_sv1 : ∀ (n : Nat) (σ : Sg) (l : Int32), 0 ≤ l.toInt → 921 - l.toInt < n → 0 < n → σ.1 462 2 = 0 → ∃ σ', fX9_saves_51 462 n σ l = some σ' ∧ σ'.1 462 3 = σ.1 462 3 ∧ σ'.2 = σ.2 ∧ σ'.1 463 = σ.1 463 := by
  intro n
  have e921 : (921 : Int32).toInt = 921 := by decide
  have e4605 : (4605 : Int32).toInt = 4605 := by decide
  induction n with
  | zero => intro σ l h0 h1 h2; omega
  | succ n ih =>
    intro σ l h0 h1 _ h3
    rw [fX9_saves_51]
    by_cases h : (921 : Int32) ≤ l
    · rw [if_pos h, o_nm]
      exact ⟨_, rfl, rfl, rfl, rfl⟩
    · rw [if_neg h]
      have h2 := mt i_le.mpr h
      rw [if_pos (i_ck h0 (by omega)), h3, show (921 : Int32) * 0 + l = l from by rw [Int32.mul_zero, Int32.zero_add], if_pos (i_ck h0 (by omega)), o_nm]
      have h4 := i_suc (l := l) (m := 921) h0 (by omega) (by omega)
      obtain ⟨σ', a1, a2, a3, a4⟩ := ih (su σ (462 + 2) l.toNatClampNeg (σ.1 (462 + 1) l.toNatClampNeg)) (l + 1) (by omega) (by omega) (by omega) h3
      exact ⟨σ', a1, a2, a3, a4⟩
theorem m_sv {σ : Sg} (h : σ.1 462 2 = 0) : ∃ σ', fX9_saves σ 462 = some σ' ∧ σ'.1 462 3 = σ.1 462 3 ∧ σ'.2 = σ.2 ∧ σ'.1 463 = σ.1 463 := by
  unfold fX9_saves
  rw [if_neg (by rw [h]; decide)]
  unfold fX9_saves_49
  exact m_sv1 FU σ 0 (by decide) (by decide) (by decide) h
theorem m_c2 {σ : Sg} (h : σ.1 463 0 = 0) (n : Nat) (a b : Int32) : fX9_create_2 462 (n + 1) σ a b 0 = fX9_create_24 462 σ a b 0 := by
  rw [fX9_create_2, if_neg (by decide)]
  unfold fX9_of
  rw [if_pos (by decide), o_b]
  exact if_neg (show ¬ σ.1 463 0 = 1 by rw [h]; decide)
theorem m_cr {σ : Sg} (h : σ.1 463 0 = 0) (a b : Int32) : fX9_create σ 462 a b = fX9_create_24 462 σ a b 0 := by
  unfold fX9_create
  exact m_c2 h 5999 a b
theorem m_put {σ : Sg} {v : Int32} : fX9_put σ 462 0 0 v = some (su σ 463 0 v) ∧ fX9_put σ 462 0 1 v = some (su σ 463 1 v) ∧ fX9_put σ 462 0 2 v = some (su σ 463 2 v) := by
  refine ⟨?_, ?_, ?_⟩ <;> (unfold fX9_put; exact if_pos (by decide))
theorem m_puts {σ : Sg} {v : Int32} : fX9_puts σ 462 0 3 v = some (su σ 463 219 v) ∧ fX9_puts σ 462 0 4 v = some (su σ 463 220 v) := by
  refine ⟨?_, ?_⟩ <;> (unfold fX9_puts; exact if_pos (by decide))
theorem f_kr : ∃ σ5, fX8_keepRecord σ0 = some σ5 ∧ (∀ l : Int32, 0 ≤ l.toInt → l.toInt < 12 → σ5.1 463 (6 * l.toInt.toNat + 3) = -1 ∧ σ5.1 19 l.toInt.toNat = -1 ∧ σ5.1 11 l.toInt.toNat = -1) ∧ σ5.1 463 0 = 0 ∧ σ5.1 462 2 = 0 ∧ σ5.1 463 216 = 1 := by
  obtain ⟨σ5, h1, h2⟩ := o_any (show (fX8_keepRecord σ0).any (fun σ => (List.range 12).all (fun i => decide (σ.1 463 (6 * (Int32.ofNat i).toInt.toNat + 3) = -1) && (decide (σ.1 19 (Int32.ofNat i).toInt.toNat = -1) && decide (σ.1 11 (Int32.ofNat i).toInt.toNat = -1))) && (decide (σ.1 463 0 = 0) && (decide (σ.1 462 2 = 0) && decide (σ.1 463 216 = 1)))) = true by decide +kernel)
  rw [Bool.and_eq_true, Bool.and_eq_true, Bool.and_eq_true] at h2
  refine ⟨σ5, h1, fun l h3 h4 => ?_, of_decide_eq_true h2.2.1, of_decide_eq_true h2.2.2.1, of_decide_eq_true h2.2.2.2⟩
  have := i_all (f := fun l => decide (σ5.1 463 (6 * l.toInt.toNat + 3) = -1) && (decide (σ5.1 19 l.toInt.toNat = -1) && decide (σ5.1 11 l.toInt.toNat = -1))) h2.1 h3 h4
  rw [Bool.and_eq_true, Bool.and_eq_true] at this
  exact ⟨of_decide_eq_true this.1, of_decide_eq_true this.2.1, of_decide_eq_true this.2.2⟩
theorem one_create (p q : Int32) : okc (fL_create σ0 p q 476 1) (fun σ => fX9_create σ 462 p q) := by
  by_cases h1 : (1 : Int32).toInt ≤ p.toInt ∧ p.toInt ≤ (40 : Int32).toInt
  · by_cases h2 : (1 : Int32).toInt ≤ q.toInt ∧ q.toInt ≤ (40 : Int32).toInt
    · obtain ⟨σ5, k1, -, k2, k3, -⟩ := f_kr
      have hl : fX4_lowestFreePane σ0 1 = some 0 := by decide +kernel
      have ha : fX4_addPane σ5 1 0 = some (su σ5 1 0 ((σ5.1 1 0) ||| (1 <<< ((0 : Int32) &&& 31)))) := rfl
      obtain ⟨σ6, hm, hm1, hm2⟩ : ∃ σ6, fX4_setMinimums (su σ5 1 0 ((σ5.1 1 0) ||| (1 <<< ((0 : Int32) &&& 31)))) 1 0 p q = some σ6 ∧ σ6.1 463 = σ5.1 463 ∧ σ6.1 462 = σ5.1 462 := by
        unfold fX4_setMinimums
        rw [f_put (by decide), o_b, f_put (by decide), o_b, if_pos (by decide), if_pos (by decide)]
        exact ⟨_, rfl, rfl, rfl⟩
      have e0 : fX9_refused (sul σ6 476 0 (0 : Int32).toInt64) 462 0 = some (false, su (sul σ6 476 0 (0 : Int32).toInt64) 462 3 0) := f_r0 _
      obtain ⟨σ7, s1, s2, s3, s4⟩ := m_sv (σ := su (sul σ6 476 0 (0 : Int32).toInt64) 462 3 0) (show σ6.1 462 2 = 0 by rw [hm2]; exact k3)
      refine ⟨0, sul σ6 476 0 (0 : Int32).toInt64, 0, su (su (su σ7 463 0 1) 463 1 p) 463 2 q, ?_, ?_, ?_, fun _ => ?_⟩
      · simp only [fL_create, fX8_create, fX8_requireMinimum, f_rr, if_pos h1, if_pos h2, hl, show ((0 : Int32) = -1) = False from eq_false (by decide), k1, ha, hm, o_c0, o_b, o_xb, o_l, o_r, o_nm, if_true, if_false, n_01, n_02, n_10, n_12, n_20, n_21, b_ft, b_1, b_2, e_10, e_20, e_30]
        rfl
      · show fX9_create (sul σ6 476 0 (0 : Int32).toInt64) 462 p q = _
        rw [m_cr (σ := sul σ6 476 0 (0 : Int32).toInt64) (show σ6.1 463 0 = 0 by rw [hm1]; exact k2)]
        simp only [fX9_create_24, f_wt h1, f_wt h2, show ((0 : Int32) = 12) = False from eq_false (by decide), fX9_create_60, e0, s1, m_put.1, m_put.2.1, m_put.2.2, o_b, o_xb, o_l, o_r, o_nm, if_true, if_false, n_01, n_02, n_10, n_12, n_20, n_21, b_ft, b_1, b_2, e_10, e_20, e_30]
      · exact s2
      · have e9 : (su (su (su σ7 463 0 1) 463 1 p) 463 2 q).2 476 (0 : Int32).toNatClampNeg = (0 : Int32).toInt64 := by
          show σ7.2 476 0 = _
          rw [s3]
          rfl
        rw [e9]
        decide
    · refine ⟨1, σ0, 0, su σ0 462 3 1, ?_, ?_, rfl, fun h => absurd h (by decide)⟩
      · simp only [fL_create, fX8_create, fX8_requireMinimum, f_rr, if_pos h1, if_neg h2, o_b, o_xb, o_l, o_r, o_nm, if_true, if_false, n_01, n_02, n_10, n_12, n_20, n_21, b_ft, b_1, b_2, e_10, e_20, e_30]
      · show fX9_create σ0 462 p q = _
        rw [m_cr (σ := σ0) (show nowI 0 = 0 by decide +kernel)]
        simp only [fX9_create_24, fX9_create_45, fX9_create_60, f_wt h1, f_wf h2, f_r1, o_b, o_xb, o_l, o_r, o_nm, if_true, if_false, n_01, n_02, n_10, n_12, n_20, n_21, b_ft, b_1, b_2, e_10, e_20, e_30]
  · refine ⟨1, σ0, 0, su σ0 462 3 1, ?_, ?_, rfl, fun h => absurd h (by decide)⟩
    · simp only [fL_create, fX8_create, fX8_requireMinimum, f_rr, if_neg h1, o_b, o_xb, o_l, o_r, o_nm, if_true, if_false, n_01, n_02, n_10, n_12, n_20, n_21, b_ft, b_1, b_2, e_10, e_20, e_30]
    · show fX9_create σ0 462 p q = _
      rw [m_cr (σ := σ0) (show nowI 0 = 0 by decide +kernel)]
      simp only [fX9_create_24, fX9_create_45, fX9_create_60, f_wf h1, f_r1, o_b, o_xb, o_l, o_r, o_nm, if_true, if_false, n_01, n_02, n_10, n_12, n_20, n_21, b_ft, b_1, b_2, e_10, e_20, e_30]

