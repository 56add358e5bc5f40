theorem f_ni {n : Nat} (h : n < 2147483648) : (nI n).toInt = n := i_nat h
theorem f_at {σ : Sg} {c n : Nat} (hn : n < 2147483648) (p : Int32) : fX8_at σ c n p = some (if 0 ≤ p.toInt ∧ p.toInt < n then σ.1 c p.toInt.toNat else -1) := by
  unfold fX8_at
  have e : (0 : Int32).toInt = 0 := by decide
  have e2 := f_ni hn
  by_cases h0 : p < 0
  · rw [if_pos h0]
    have := i_lt.mp h0
    rw [if_neg (by omega)]
  · rw [if_neg h0]
    have := mt i_lt.mpr h0
    by_cases h1 : nI n ≤ p
    · rw [if_pos h1]
      have := i_le.mp h1
      rw [if_neg (by omega)]
    · rw [if_neg h1]
      have := mt i_le.mpr h1
      rw [if_pos (i_ck (by omega) (by omega)), if_pos (by omega)]
      rfl
theorem f_put {σ : Sg} {c n : Nat} (hn : n < 2147483648) (p v : Int32) : fX8_put σ c n p v = some (if 0 ≤ p.toInt ∧ p.toInt < n then su σ c p.toInt.toNat v else σ) := by
  unfold fX8_put
  have e : (0 : Int32).toInt = 0 := by decide
  have e2 := f_ni hn
  by_cases h0 : p < 0
  · rw [if_pos h0]
    have := i_lt.mp h0
    rw [if_neg (by omega)]
  · rw [if_neg h0]
    have := mt i_lt.mpr h0
    by_cases h1 : nI n ≤ p
    · rw [if_pos h1]
      have := i_le.mp h1
      rw [if_neg (by omega)]
    · rw [if_neg h1]
      have := mt i_le.mpr h1
      rw [if_pos (i_ck (by omega) (by omega)), if_pos (by omega)]
      rfl
theorem f_ro (w : Int32) : fX1_rootOf σ0 (1 + 5) w = some (-1) := by
  unfold fX1_rootOf
  rw [f_at (by decide), o_b]
  split
  · rfl
  · rfl
theorem f_rw {w : Int32} (h : ¬ w = 0) : fX8_requireWindow σ0 w = some (.inr 0) := by
  unfold fX8_requireWindow fX1_windowExists
  rw [if_neg h, f_ro, o_b, if_pos rfl, o_b, if_neg (by decide)]
theorem f_rw0 : fX8_requireWindow σ0 0 = some (.inl ()) := by
  unfold fX8_requireWindow fX1_windowExists
  rw [if_pos rfl, o_b, if_pos rfl]
theorem f_iw {w : Int32} (h : ¬ w = 0) : fX9_isWindow σ0 462 w = some false := by
  by_cases h2 : (0 : Int32).toInt ≤ w.toInt ∧ w.toInt ≤ (4 : Int32).toInt
  · have e0 : (0 : Int32).toInt = 0 := by decide
    have e1 : (4 : Int32).toInt = 4 := by decide
    have := i_all (f := fun p => decide (p = 0) || decide (fX9_isWindow σ0 462 p = some false)) (n := 5) (by decide +kernel) (l := w) (by omega) (by omega)
    rw [Bool.or_eq_true] at this
    rcases this with h3 | h3
    · exact absurd (of_decide_eq_true h3) h
    · exact of_decide_eq_true h3
  · unfold fX9_isWindow
    rw [f_wf h2, o_b, if_neg (by decide)]
theorem f_iw0 : fX9_isWindow σ0 462 0 = some true := by decide +kernel
theorem one_panes : okq (fX8_panes σ0) (fX9_panes σ0 462) := okq_of (by decide +kernel)
theorem one_undo : okc (fL_undo σ0 476 1) (fun σ => fX9_undo σ 462) := okc_of (by decide +kernel)
theorem one_read : okc (fL_read σ0 476 1) (fun σ => fX9_read σ 462) := okc_of (by decide +kernel)
theorem one_clear : ∃ v σ1 σ2, fX8_clearText σ0 = some (v, σ1) ∧ fX9_clearText σ1 462 = some (v, σ2) := by
  obtain ⟨⟨v, σ1⟩, h1, h2⟩ := o_any (show (fX8_clearText σ0).any (fun r => (fX9_clearText r.2 462).any (fun q => decide (r.1 = q.1))) = true by decide +kernel)
  obtain ⟨⟨w, σ2⟩, h3, h4⟩ := o_any h2
  have : v = w := of_decide_eq_true h4
  subst this
  exact ⟨v, σ1, σ2, h1, h3⟩
theorem one_fault : ∃ v σ1 σ2, fX8_fault σ0 = some (v, σ1) ∧ fX9_fault σ1 462 = some (v, σ2) := by
  obtain ⟨⟨v, σ1⟩, h1, h2⟩ := o_any (show (fX8_fault σ0).any (fun r => (fX9_fault r.2 462).any (fun q => decide (r.1 = q.1))) = true by decide +kernel)
  obtain ⟨⟨w, σ2⟩, h3, h4⟩ := o_any h2
  have : v = w := of_decide_eq_true h4
  subst this
  exact ⟨v, σ1, σ2, h1, h3⟩
theorem one_checksum : ∃ v σ2, fX8_checksumN σ0 = some v ∧ fX9_checksum σ0 462 = some (v, σ2) := by
  obtain ⟨v, h1, h2⟩ := o_any (show (fX8_checksumN σ0).any (fun r => (fX9_checksum σ0 462).any (fun q => decide (r = q.1))) = true by decide +kernel)
  obtain ⟨⟨w, σ2⟩, h3, h4⟩ := o_any h2
  have : v = w := of_decide_eq_true h4
  subst this
  exact ⟨v, σ2, h1, h3⟩
theorem f_rs (σ : Sg) {p : Int32} (h : ¬ ((0 : Int32).toInt ≤ p.toInt ∧ p.toInt ≤ (2 : Int32).toInt)) : fX8_requireSlot σ p = some (.inr 0) := by
  have e0 : (0 : Int32).toInt = 0 := by decide
  have e1 : (2 : Int32).toInt = 2 := by decide
  have e2 : (3 : Int32).toInt = 3 := by decide
  unfold fX8_requireSlot fX8_requireSlot_9
  by_cases h0 : p < 0
  · rw [if_pos h0]
  · rw [if_neg h0]
    have := mt i_lt.mpr h0
    rw [if_neg (fun h3 => by have := i_lt.mp h3; omega)]

theorem one_store (p : Int32) : okc (fL_store σ0 p 476 1) (fun σ => fX9_store σ 462 p) := by
  by_cases h : (0 : Int32).toInt ≤ p.toInt ∧ p.toInt ≤ (2 : Int32).toInt
  · have e0 : (0 : Int32).toInt = 0 := by decide
    have e1 : (2 : Int32).toInt = 2 := by decide
    exact okc_of (i_all (f := fun p => (fL_store σ0 p 476 1).any (fun r => (fX9_store r.2 462 p).any (fun q => decide (q.2.1 462 3 = r.1) && (decide (r.1 ≠ 0) || decide (lg_cmp (q.2.2 476 (0 : Int32).toNatClampNeg) q.1.toInt64 = 0))))) (n := 3) (by decide +kernel) (l := p) (by omega) (by omega))
  · refine ⟨1, σ0, 0, su σ0 462 3 1, ?_, ?_, rfl, fun h => absurd h (by decide)⟩
    · simp only [fL_store, fX8_store, f_rs _ h, o_b, o_xb, o_l, o_r, o_nm, if_true, if_false, n_01, n_02, n_10, n_12, n_20, n_21, b_ft, b_1, b_2, e_10, e_20, e_30]
    · simp only [fX9_store_15, fX9_store, f_wf h, f_r1, o_b, o_xb, o_l, o_r, o_nm, if_true, if_false, n_01, n_02, n_10, n_12, n_20, n_21, b_ft, b_1, b_2, e_10, e_20, e_30]
theorem one_restore (p : Int32) : okc (fL_restore σ0 p 476 1) (fun σ => fX9_restore σ 462 p) := by
  by_cases h : (0 : Int32).toInt ≤ p.toInt ∧ p.toInt ≤ (2 : Int32).toInt
  · have e0 : (0 : Int32).toInt = 0 := by decide
    have e1 : (2 : Int32).toInt = 2 := by decide
    exact okc_of (i_all (f := fun p => (fL_restore σ0 p 476 1).any (fun r => (fX9_restore r.2 462 p).any (fun q => decide (q.2.1 462 3 = r.1) && (decide (r.1 ≠ 0) || decide (lg_cmp (q.2.2 476 (0 : Int32).toNatClampNeg) q.1.toInt64 = 0))))) (n := 3) (by decide +kernel) (l := p) (by omega) (by omega))
  · refine ⟨1, σ0, 0, su σ0 462 3 1, ?_, ?_, rfl, fun h => absurd h (by decide)⟩
    · simp only [fL_restore, fX8_restore, f_rs _ h, o_b, o_xb, o_l, o_r, o_nm, if_true, if_false, n_01, n_02, n_10, n_12, n_20, n_21, b_ft, b_1, b_2, e_10, e_20, e_30]
    · simp only [fX9_restore_244, fX9_restore_38, fX9_restore, f_wf h, f_r1, o_b, o_xb, o_l, o_r, o_nm, if_true, if_false, n_01, n_02, n_10, n_12, n_20, n_21, b_ft, b_1, b_2, e_10, e_20, e_30]
theorem one_type (p : Int32) : okc (fL_type σ0 p 476 1) (fun σ => fX9_type σ 462 p) := by
  by_cases h : (32 : Int32).toInt ≤ p.toInt ∧ p.toInt ≤ (126 : Int32).toInt
  · have e0 : (32 : Int32).toInt = 32 := by decide
    have e1 : (126 : Int32).toInt = 126 := by decide
    have := i_all (f := fun p => decide (p < 32) || (fL_type σ0 p 476 1).any (fun r => (fX9_type r.2 462 p).any (fun q => decide (q.2.1 462 3 = r.1) && (decide (r.1 ≠ 0) || decide (lg_cmp (q.2.2 476 (0 : Int32).toNatClampNeg) q.1.toInt64 = 0))))) (n := 127) (by decide +kernel) (l := p) (by omega) (by omega)
    rw [Bool.or_eq_true] at this
    rcases this with h3 | h3
    · exact absurd (i_lt.mp (of_decide_eq_true h3)) (by omega)
    · exact okc_of h3
  · refine ⟨1, σ0, 0, su σ0 462 3 1, ?_, ?_, rfl, fun h => absurd h (by decide)⟩
    · simp only [fL_type, fX8_type, f_rr, if_neg h, o_b, o_xb, o_l, o_r, o_nm, if_true, if_false, n_01, n_02, n_10, n_12, n_20, n_21, b_ft, b_1, b_2, e_10, e_20, e_30]
    · simp only [fX9_type_30, fX9_type, f_wf h, f_r1, o_b, o_xb, o_l, o_r, o_nm, if_true, if_false, n_01, n_02, n_10, n_12, n_20, n_21, b_ft, b_1, b_2, e_10, e_20, e_30]
theorem one_write (w : Int32) : okc (fL_write σ0 w 476 1) (fun σ => fX9_write σ 462 w) := by
  by_cases h : w = 0
  · subst h
    exact okc_of (by decide +kernel)
  · refine ⟨1, σ0, 0, su (su σ0 462 25 0) 462 3 1, ?_, ?_, rfl, fun h => absurd h (by decide)⟩
    · simp only [fL_write, fX8_write, f_rw h, o_b, o_xb, o_l, o_r, o_nm, if_true, if_false, n_01, n_02, n_10, n_12, n_20, n_21, b_ft, b_1, b_2, e_10, e_20, e_30]
    · simp only [fX9_write_60, fX9_write_37, fX9_write, f_iw h, f_r1, o_b, o_xb, o_l, o_r, o_nm, if_true, if_false, n_01, n_02, n_10, n_12, n_20, n_21, b_ft, b_1, b_2, e_10, e_20, e_30]
theorem one_raise (w : Int32) : okc (fL_raise σ0 w 476 1) (fun σ => fX9_raise σ 462 w) := by
  by_cases h : w = 0
  · subst h
    exact okc_of (by decide +kernel)
  · refine ⟨1, σ0, 0, su σ0 462 3 1, ?_, ?_, rfl, fun h => absurd h (by decide)⟩
    · simp only [fL_raise, fX8_raise, f_rw h, o_b, o_xb, o_l, o_r, o_nm, if_true, if_false, n_01, n_02, n_10, n_12, n_20, n_21, b_ft, b_1, b_2, e_10, e_20, e_30]
    · simp only [fX9_raise_22, fX9_raise, f_iw h, f_r1, o_b, o_xb, o_l, o_r, o_nm, if_true, if_false, n_01, n_02, n_10, n_12, n_20, n_21, b_ft, b_1, b_2, e_10, e_20, e_30]
theorem one_window (w p : Int32) : okc (fL_window σ0 w p 476 1) (fun σ => fX9_window_ σ 462 w p) := by
  by_cases h : w = 0
  · subst h
    by_cases h : (0 : Int32).toInt ≤ p.toInt ∧ p.toInt ≤ (7 : Int32).toInt
    · have e0 : (0 : Int32).toInt = 0 := by decide
      have e1 : (7 : Int32).toInt = 7 := by decide
      exact okc_of (i_all (f := fun p => (fL_window σ0 0 p 476 1).any (fun r => (fX9_window_ r.2 462 0 p).any (fun q => decide (q.2.1 462 3 = r.1) && (decide (r.1 ≠ 0) || decide (lg_cmp (q.2.2 476 (0 : Int32).toNatClampNeg) q.1.toInt64 = 0))))) (n := 8) (by decide +kernel) (l := p) (by omega) (by omega))
    · refine ⟨2, σ0, 0, su σ0 462 3 2, ?_, ?_, rfl, fun h => absurd h (by decide)⟩
      · simp only [fL_window, fX8_window, f_rw0, f_rr, if_neg h, o_b, o_xb, o_l, o_r, o_nm, if_true, if_false, n_01, n_02, n_10, n_12, n_20, n_21, b_ft, b_1, b_2, e_10, e_20, e_30]
      · simp only [fX9_window_, fX9_window__28, f_iw0, f_wf h, f_r2, o_b, o_xb, o_l, o_r, o_nm, if_true, if_false, n_01, n_02, n_10, n_12, n_20, n_21, b_ft, b_1, b_2, e_10, e_20, e_30]
  · refine ⟨1, σ0, 0, su σ0 462 3 1, ?_, ?_, rfl, fun h => absurd h (by decide)⟩
    · simp only [fL_window, fX8_window, f_rw h, o_b, o_xb, o_l, o_r, o_nm, if_true, if_false, n_01, n_02, n_10, n_12, n_20, n_21, b_ft, b_1, b_2, e_10, e_20, e_30]
    · simp only [fX9_window_, fX9_window__28, f_iw h, f_r1, o_b, o_xb, o_l, o_r, o_nm, if_true, if_false, n_01, n_02, n_10, n_12, n_20, n_21, b_ft, b_1, b_2, e_10, e_20, e_30]
theorem one_move (w p q : Int32) : okc (fL_move σ0 w p q 476 1) (fun σ => fX9_move σ 462 w p q) := by
  by_cases h : w = 0
  · subst h
    by_cases h1 : (-400 : Int32).toInt ≤ p.toInt ∧ p.toInt ≤ (400 : Int32).toInt
    · by_cases h2 : (-400 : Int32).toInt ≤ q.toInt ∧ q.toInt ≤ (400 : Int32).toInt
      · refine ⟨3, σ0, 0, su σ0 462 3 3, ?_, ?_, rfl, fun h => absurd h (by decide)⟩
        · simp only [fL_move, fX8_move, f_rw0, f_rr, if_pos h1, if_pos h2, fX8_requireFloating, o_b, o_xb, o_l, o_r, o_nm, if_true, if_false, n_01, n_02, n_10, n_12, n_20, n_21, b_ft, b_1, b_2, e_10, e_20, e_30]
        · simp only [fX9_move_52, fX9_move_39, fX9_move, f_iw0, f_wt h1, f_wt h2, f_r3, o_b, o_xb, o_l, o_r, o_nm, if_true, if_false, n_01, n_02, n_10, n_12, n_20, n_21, b_ft, b_1, b_2, e_10, e_20, e_30]
      · refine ⟨2, σ0, 0, su σ0 462 3 2, ?_, ?_, rfl, fun h => absurd h (by decide)⟩
        · simp only [fL_move, fX8_move, f_rw0, f_rr, if_pos h1, if_neg h2, o_b, o_xb, o_l, o_r, o_nm, if_true, if_false, n_01, n_02, n_10, n_12, n_20, n_21, b_ft, b_1, b_2, e_10, e_20, e_30]
        · simp only [fX9_move_52, fX9_move_39, fX9_move, f_iw0, f_wt h1, f_wf h2, f_r2, o_b, o_xb, o_l, o_r, o_nm, if_true, if_false, n_01, n_02, n_10, n_12, n_20, n_21, b_ft, b_1, b_2, e_10, e_20, e_30]
    · refine ⟨2, σ0, 0, su σ0 462 3 2, ?_, ?_, rfl, fun h => absurd h (by decide)⟩
      · simp only [fL_move, fX8_move, f_rw0, f_rr, if_neg h1, o_b, o_xb, o_l, o_r, o_nm, if_true, if_false, n_01, n_02, n_10, n_12, n_20, n_21, b_ft, b_1, b_2, e_10, e_20, e_30]
      · simp only [fX9_move_52, fX9_move_39, fX9_move, f_iw0, f_wf h1, f_r2, o_b, o_xb, o_l, o_r, o_nm, if_true, if_false, n_01, n_02, n_10, n_12, n_20, n_21, b_ft, b_1, b_2, e_10, e_20, e_30]
  · refine ⟨1, σ0, 0, su σ0 462 3 1, ?_, ?_, rfl, fun h => absurd h (by decide)⟩
    · simp only [fL_move, fX8_move, f_rw h, o_b, o_xb, o_l, o_r, o_nm, if_true, if_false, n_01, n_02, n_10, n_12, n_20, n_21, b_ft, b_1, b_2, e_10, e_20, e_30]
    · simp only [fX9_move_52, fX9_move_39, fX9_move, f_iw h, f_r1, o_b, o_xb, o_l, o_r, o_nm, if_true, if_false, n_01, n_02, n_10, n_12, n_20, n_21, b_ft, b_1, b_2, e_10, e_20, e_30]
theorem one_floating (i : Int32) : okq (fX8_floating σ0 i) (fX9_floating σ0 462 i) := by
  refine ⟨-1, su σ0 462 3 0, ?_, ?_⟩
  · unfold fX8_floating fX0_item
    rw [f_at (by decide), o_b]
    have e0 : (0 : Int32).toInt = 0 := by decide
    by_cases h : (σ0.1 ((1 + 5) + 6) 1) ≤ i
    · rw [if_pos h, o_b]
    · rw [if_neg h, o_b]
      have := mt (i_le (a := 0) (b := i)).mpr h
      rw [if_neg (by omega)]
  · have e0 : (0 : Int32).toInt = 0 := by decide
    have e1 : (((su σ0 462 3 0).1 (462 + 1) (246 : Int32).toNatClampNeg) - 1).toInt = -1 := by decide +kernel
    unfold fX9_floating
    rw [o_nm, if_pos (by decide), f_wf (by rw [e1, e0]; omega), o_b, if_neg (by decide)]
theorem one_focus (i : Int32) : okq (fX8_focus σ0 i) (fX9_focus σ0 462 i) := by
  refine ⟨-1, su σ0 462 3 0, ?_, ?_⟩
  · unfold fX8_focus fX0_item
    rw [f_at (by decide), o_b]
    have e0 : (0 : Int32).toInt = 0 := by decide
    by_cases h : (σ0.1 (1 + 3) 1) ≤ i
    · rw [if_pos h, o_b]
    · rw [if_neg h, o_b]
      have := mt (i_le (a := 0) (b := i)).mpr h
      rw [if_neg (by omega)]
  · have e0 : (0 : Int32).toInt = 0 := by decide
    have e1 : (((su σ0 462 3 0).1 (462 + 1) (251 : Int32).toNatClampNeg) - 1).toInt = -1 := by decide +kernel
    unfold fX9_focus
    rw [o_nm, if_pos (by decide), f_wf (by rw [e1, e0]; omega), o_b, if_neg (by decide)]
theorem one_character (i : Int32) : okq (fX8_character σ0 i) (fX9_character σ0 462 i) := by
  refine ⟨-1, su σ0 462 3 0, ?_, ?_⟩
  · unfold fX8_character fX5_code
    rw [f_at (by decide), o_b]
    have e0 : (0 : Int32).toInt = 0 := by decide
    by_cases h : (σ0.1 438 1) ≤ i
    · rw [if_pos h, o_b]
    · rw [if_neg h, o_b]
      have := mt (i_le (a := 0) (b := i)).mpr h
      rw [if_neg (by omega)]
  · have e0 : (0 : Int32).toInt = 0 := by decide
    have e1 : (((su σ0 462 3 0).1 462 5) - 1).toInt = -1 := by decide +kernel
    unfold fX9_character
    rw [o_nm, f_wf (by rw [e1, e0]; omega), o_b, if_neg (by decide)]
theorem one_drag (p1 p2 p3 : Int32) : okc (fL_drag σ0 p1 p2 p3 476 1) (fun σ => fX9_drag σ 462 p1 p2 p3) := by
  obtain ⟨σ4, h4, -⟩ := o_any (show (fX9_lays σ0 462).any (fun _ => true) = true by decide +kernel)
  refine ⟨1, σ0, 0, su σ4 462 3 1, ?_, ?_, rfl, fun h => absurd h (by decide)⟩
  · simp only [fL_drag, fX8_drag, f_rp, o_b, o_xb, o_l, o_r, o_nm, if_true, if_false, n_01, n_02, n_10, n_12, n_20, n_21, b_ft, b_1, b_2, e_10, e_20, e_30]
  · simp only [fX9_drag, fX9_drag_38, fX9_drag_39, fX9_drag_90, fX9_drag_91, fX9_drag_122, h4, f_ip, f_r1, o_b, o_xb, o_l, o_r, o_nm, if_true, if_false, n_01, n_02, n_10, n_12, n_20, n_21, b_ft, b_1, b_2, e_10, e_20, e_30]

