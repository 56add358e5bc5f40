/-! THE LOOP: a theorem for each block of the law -/
section RC4
variable {L : Nat} {xs : Nat → Int32} {k : Sg → Int32 → Option Bool} {σ : Sg} {l4 : Int32}
theorem lgc (x : Int64) : lg_cmp x x = 0 := by
  unfold lg_cmp
  simp
theorem ck01 : ck 0 1 := by decide
theorem blk_0 (hk : ∀ σ' : Sg, RR σ' → k σ' (l4 + 6) = some true) (h : RR σ) (c1 : ck (l4 + 1) L) (c2 : ck (l4 + 2) L) (c3 : ck (l4 + 3) L) (c4 : ck (l4 + 4) L) (c5 : ck (l4 + 5) L) : fL_law_196 L xs k σ l4 = some true := by
  obtain ⟨t, σ1, v, σ2, h1, h2, h3, hr, h4⟩ := c_create h (xs (l4 + 1).toNatClampNeg) (xs (l4 + 2).toNatClampNeg)
  have h2 : fX9_create σ1 462 (xs (l4 + 1).toNatClampNeg) (xs (l4 + 2).toNatClampNeg) = some (v, σ2) := h2
  have e := hk σ2 hr
  simp only [fL_law_196, fL_law_1379, if_pos c1, if_pos c2, if_pos c3, if_pos c4, if_pos c5, if_pos ck01, h1, j_b, h2, if_true, e]
theorem blk_1 (hk : ∀ σ' : Sg, RR σ' → k σ' (l4 + 6) = some true) (h : RR σ) (c1 : ck (l4 + 1) L) (c2 : ck (l4 + 2) L) (c3 : ck (l4 + 3) L) (c4 : ck (l4 + 4) L) (c5 : ck (l4 + 5) L) : fL_law_236 L xs k σ l4 = some true := by
  obtain ⟨t, σ1, v, σ2, h1, h2, h3, hr, h4⟩ := c_remove h (xs (l4 + 1).toNatClampNeg)
  have h2 : fX9_remove σ1 462 (xs (l4 + 1).toNatClampNeg) = some (v, σ2) := h2
  have e := hk σ2 hr
  simp only [fL_law_236, fL_law_1379, if_pos c1, if_pos c2, if_pos c3, if_pos c4, if_pos c5, if_pos ck01, h1, j_b, h2, if_true, e]
theorem blk_2 (hk : ∀ σ' : Sg, RR σ' → k σ' (l4 + 6) = some true) (h : RR σ) (c1 : ck (l4 + 1) L) (c2 : ck (l4 + 2) L) (c3 : ck (l4 + 3) L) (c4 : ck (l4 + 4) L) (c5 : ck (l4 + 5) L) : fL_law_264 L xs k σ l4 = some true := by
  obtain ⟨t, σ1, v, σ2, h1, h2, h3, hr, h4⟩ := c_setMinimum h (xs (l4 + 1).toNatClampNeg) (xs (l4 + 2).toNatClampNeg) (xs (l4 + 3).toNatClampNeg)
  have h2 : fX9_setMinimum σ1 462 (xs (l4 + 1).toNatClampNeg) (xs (l4 + 2).toNatClampNeg) (xs (l4 + 3).toNatClampNeg) = some (v, σ2) := h2
  have e := hk σ2 hr
  simp only [fL_law_264, fL_law_1379, if_pos c1, if_pos c2, if_pos c3, if_pos c4, if_pos c5, if_pos ck01, h1, j_b, h2, if_true, e]
theorem blk_3 (hk : ∀ σ' : Sg, RR σ' → k σ' (l4 + 6) = some true) (h : RR σ) (c1 : ck (l4 + 1) L) (c2 : ck (l4 + 2) L) (c3 : ck (l4 + 3) L) (c4 : ck (l4 + 4) L) (c5 : ck (l4 + 5) L) : fL_law_316 L xs k σ l4 = some true := by
  obtain ⟨v, σ2, h1, h2, hr⟩ := c_panes h 
  have e := hk σ2 hr
  simp only [fL_law_316, fL_law_1379, if_pos c1, if_pos c2, if_pos c3, if_pos c4, if_pos c5, if_pos ck01, h1, j_b, h2, if_true, e]
theorem blk_4 (hk : ∀ σ' : Sg, RR σ' → k σ' (l4 + 6) = some true) (h : RR σ) (c1 : ck (l4 + 1) L) (c2 : ck (l4 + 2) L) (c3 : ck (l4 + 3) L) (c4 : ck (l4 + 4) L) (c5 : ck (l4 + 5) L) : fL_law_329 L xs k σ l4 = some true := by
  obtain ⟨t, σ1, v, σ2, h1, h2, h3, hr, h4⟩ := c_pane h (xs (l4 + 1).toNatClampNeg) (xs (l4 + 2).toNatClampNeg)
  have h2 : fX9_pane σ1 462 (xs (l4 + 1).toNatClampNeg) (xs (l4 + 2).toNatClampNeg) = some (v, σ2) := h2
  have e := hk σ2 hr
  simp only [fL_law_329, fL_law_1379, if_pos c1, if_pos c2, if_pos c3, if_pos c4, if_pos c5, if_pos ck01, h1, j_b, h2, if_true, e]
theorem blk_5 (hk : ∀ σ' : Sg, RR σ' → k σ' (l4 + 6) = some true) (h : RR σ) (c1 : ck (l4 + 1) L) (c2 : ck (l4 + 2) L) (c3 : ck (l4 + 3) L) (c4 : ck (l4 + 4) L) (c5 : ck (l4 + 5) L) : fL_law_369 L xs k σ l4 = some true := by
  obtain ⟨t, σ1, v, σ2, h1, h2, h3, hr, h4⟩ := c_rectangle h (xs (l4 + 1).toNatClampNeg) (xs (l4 + 2).toNatClampNeg)
  have h2 : fX9_rectangle σ1 462 (xs (l4 + 1).toNatClampNeg) (xs (l4 + 2).toNatClampNeg) = some (v, σ2) := h2
  have e := hk σ2 hr
  simp only [fL_law_369, fL_law_1379, if_pos c1, if_pos c2, if_pos c3, if_pos c4, if_pos c5, if_pos ck01, h1, j_b, h2, if_true, e]
theorem blk_6 (hk : ∀ σ' : Sg, RR σ' → k σ' (l4 + 6) = some true) (h : RR σ) (c1 : ck (l4 + 1) L) (c2 : ck (l4 + 2) L) (c3 : ck (l4 + 3) L) (c4 : ck (l4 + 4) L) (c5 : ck (l4 + 5) L) : fL_law_409 L xs k σ l4 = some true := by
  obtain ⟨t, σ1, v, σ2, h1, h2, h3, hr, h4⟩ := c_tab h (xs (l4 + 1).toNatClampNeg) (xs (l4 + 2).toNatClampNeg)
  have h2 : fX9_tab σ1 462 (xs (l4 + 1).toNatClampNeg) (xs (l4 + 2).toNatClampNeg) = some (v, σ2) := h2
  have e := hk σ2 hr
  simp only [fL_law_409, fL_law_1379, if_pos c1, if_pos c2, if_pos c3, if_pos c4, if_pos c5, if_pos ck01, h1, j_b, h2, if_true, e]
theorem blk_7 (hk : ∀ σ' : Sg, RR σ' → k σ' (l4 + 6) = some true) (h : RR σ) (c1 : ck (l4 + 1) L) (c2 : ck (l4 + 2) L) (c3 : ck (l4 + 3) L) (c4 : ck (l4 + 4) L) (c5 : ck (l4 + 5) L) : fL_law_449 L xs k σ l4 = some true := by
  obtain ⟨t, σ1, v, σ2, h1, h2, h3, hr, h4⟩ := c_resize h (xs (l4 + 1).toNatClampNeg) (xs (l4 + 2).toNatClampNeg) (xs (l4 + 3).toNatClampNeg)
  have h2 : fX9_resize σ1 462 (xs (l4 + 1).toNatClampNeg) (xs (l4 + 2).toNatClampNeg) (xs (l4 + 3).toNatClampNeg) = some (v, σ2) := h2
  have e := hk σ2 hr
  simp only [fL_law_449, fL_law_1379, if_pos c1, if_pos c2, if_pos c3, if_pos c4, if_pos c5, if_pos ck01, h1, j_b, h2, if_true, e]
theorem blk_8 (hk : ∀ σ' : Sg, RR σ' → k σ' (l4 + 6) = some true) (h : RR σ) (c1 : ck (l4 + 1) L) (c2 : ck (l4 + 2) L) (c3 : ck (l4 + 3) L) (c4 : ck (l4 + 4) L) (c5 : ck (l4 + 5) L) : fL_law_501 L xs k σ l4 = some true := by
  obtain ⟨t, σ1, v, σ2, h1, h2, h3, hr, h4⟩ := c_move h (xs (l4 + 1).toNatClampNeg) (xs (l4 + 2).toNatClampNeg) (xs (l4 + 3).toNatClampNeg)
  have h2 : fX9_move σ1 462 (xs (l4 + 1).toNatClampNeg) (xs (l4 + 2).toNatClampNeg) (xs (l4 + 3).toNatClampNeg) = some (v, σ2) := h2
  have e := hk σ2 hr
  simp only [fL_law_501, fL_law_1379, if_pos c1, if_pos c2, if_pos c3, if_pos c4, if_pos c5, if_pos ck01, h1, j_b, h2, if_true, e]
theorem blk_9 (hk : ∀ σ' : Sg, RR σ' → k σ' (l4 + 6) = some true) (h : RR σ) (c1 : ck (l4 + 1) L) (c2 : ck (l4 + 2) L) (c3 : ck (l4 + 3) L) (c4 : ck (l4 + 4) L) (c5 : ck (l4 + 5) L) : fL_law_553 L xs k σ l4 = some true := by
  obtain ⟨t, σ1, v, σ2, h1, h2, h3, hr, h4⟩ := c_raise h (xs (l4 + 1).toNatClampNeg)
  have h2 : fX9_raise σ1 462 (xs (l4 + 1).toNatClampNeg) = some (v, σ2) := h2
  have e := hk σ2 hr
  simp only [fL_law_553, fL_law_1379, if_pos c1, if_pos c2, if_pos c3, if_pos c4, if_pos c5, if_pos ck01, h1, j_b, h2, if_true, e]
theorem blk_10 (hk : ∀ σ' : Sg, RR σ' → k σ' (l4 + 6) = some true) (h : RR σ) (c1 : ck (l4 + 1) L) (c2 : ck (l4 + 2) L) (c3 : ck (l4 + 3) L) (c4 : ck (l4 + 4) L) (c5 : ck (l4 + 5) L) : fL_law_581 L xs k σ l4 = some true := by
  obtain ⟨t, σ1, v, σ2, h1, h2, h3, hr, h4⟩ := c_window h (xs (l4 + 1).toNatClampNeg) (xs (l4 + 2).toNatClampNeg)
  have h2 : fX9_window_ σ1 462 (xs (l4 + 1).toNatClampNeg) (xs (l4 + 2).toNatClampNeg) = some (v, σ2) := h2
  have e := hk σ2 hr
  simp only [fL_law_581, fL_law_1379, if_pos c1, if_pos c2, if_pos c3, if_pos c4, if_pos c5, if_pos ck01, h1, j_b, h2, if_true, e]
theorem blk_11 (hk : ∀ σ' : Sg, RR σ' → k σ' (l4 + 6) = some true) (h : RR σ) (c1 : ck (l4 + 1) L) (c2 : ck (l4 + 2) L) (c3 : ck (l4 + 3) L) (c4 : ck (l4 + 4) L) (c5 : ck (l4 + 5) L) : fL_law_621 L xs k σ l4 = some true := by
  obtain ⟨v, σ2, h1, h2, hr⟩ := c_floating h (xs (l4 + 1).toNatClampNeg)
  have e := hk σ2 hr
  simp only [fL_law_621, fL_law_1379, if_pos c1, if_pos c2, if_pos c3, if_pos c4, if_pos c5, if_pos ck01, h1, j_b, h2, if_true, e]
theorem blk_12 (hk : ∀ σ' : Sg, RR σ' → k σ' (l4 + 6) = some true) (h : RR σ) (c1 : ck (l4 + 1) L) (c2 : ck (l4 + 2) L) (c3 : ck (l4 + 3) L) (c4 : ck (l4 + 4) L) (c5 : ck (l4 + 5) L) : fL_law_646 L xs k σ l4 = some true := by
  obtain ⟨t, σ1, v, σ2, h1, h2, h3, hr, h4⟩ := c_dock h (xs (l4 + 1).toNatClampNeg) (xs (l4 + 2).toNatClampNeg) (xs (l4 + 3).toNatClampNeg)
  have h2 : fX9_dock σ1 462 (xs (l4 + 1).toNatClampNeg) (xs (l4 + 2).toNatClampNeg) (xs (l4 + 3).toNatClampNeg) = some (v, σ2) := h2
  have e := hk σ2 hr
  simp only [fL_law_646, fL_law_1379, if_pos c1, if_pos c2, if_pos c3, if_pos c4, if_pos c5, if_pos ck01, h1, j_b, h2, if_true, e]
theorem blk_13 (hk : ∀ σ' : Sg, RR σ' → k σ' (l4 + 6) = some true) (h : RR σ) (c1 : ck (l4 + 1) L) (c2 : ck (l4 + 2) L) (c3 : ck (l4 + 3) L) (c4 : ck (l4 + 4) L) (c5 : ck (l4 + 5) L) : fL_law_698 L xs k σ l4 = some true := by
  obtain ⟨t, σ1, v, σ2, h1, h2, h3, hr, h4⟩ := c_start h (xs (l4 + 1).toNatClampNeg)
  have h2 : fX9_start σ1 462 (xs (l4 + 1).toNatClampNeg) = some (v, σ2) := h2
  have e := hk σ2 hr
  simp only [fL_law_698, fL_law_1379, if_pos c1, if_pos c2, if_pos c3, if_pos c4, if_pos c5, if_pos ck01, h1, j_b, h2, if_true, e]
theorem blk_14 (hk : ∀ σ' : Sg, RR σ' → k σ' (l4 + 6) = some true) (h : RR σ) (c1 : ck (l4 + 1) L) (c2 : ck (l4 + 2) L) (c3 : ck (l4 + 3) L) (c4 : ck (l4 + 4) L) (c5 : ck (l4 + 5) L) : fL_law_726 L xs k σ l4 = some true := by
  obtain ⟨t, σ1, v, σ2, h1, h2, h3, hr, h4⟩ := c_floatAt h (xs (l4 + 1).toNatClampNeg) (xs (l4 + 2).toNatClampNeg) (xs (l4 + 3).toNatClampNeg) (xs (l4 + 4).toNatClampNeg) (xs (l4 + 5).toNatClampNeg)
  have h2 : fX9_floatAt σ1 462 (xs (l4 + 1).toNatClampNeg) (xs (l4 + 2).toNatClampNeg) (xs (l4 + 3).toNatClampNeg) (xs (l4 + 4).toNatClampNeg) (xs (l4 + 5).toNatClampNeg) = some (v, σ2) := h2
  have e := hk σ2 hr
  simp only [fL_law_726, fL_law_1379, if_pos c1, if_pos c2, if_pos c3, if_pos c4, if_pos c5, if_pos ck01, h1, j_b, h2, if_true, e]
theorem blk_15 (hk : ∀ σ' : Sg, RR σ' → k σ' (l4 + 6) = some true) (h : RR σ) (c1 : ck (l4 + 1) L) (c2 : ck (l4 + 2) L) (c3 : ck (l4 + 3) L) (c4 : ck (l4 + 4) L) (c5 : ck (l4 + 5) L) : fL_law_802 L xs k σ l4 = some true := by
  obtain ⟨t, σ1, v, σ2, h1, h2, h3, hr, h4⟩ := c_takeAway h (xs (l4 + 1).toNatClampNeg)
  have h2 : fX9_takeAway σ1 462 (xs (l4 + 1).toNatClampNeg) = some (v, σ2) := h2
  have e := hk σ2 hr
  simp only [fL_law_802, fL_law_1379, if_pos c1, if_pos c2, if_pos c3, if_pos c4, if_pos c5, if_pos ck01, h1, j_b, h2, if_true, e]
theorem blk_16 (hk : ∀ σ' : Sg, RR σ' → k σ' (l4 + 6) = some true) (h : RR σ) (c1 : ck (l4 + 1) L) (c2 : ck (l4 + 2) L) (c3 : ck (l4 + 3) L) (c4 : ck (l4 + 4) L) (c5 : ck (l4 + 5) L) : fL_law_830 L xs k σ l4 = some true := by
  by_cases hz : xs (l4 + 2).toNatClampNeg = 0
  · obtain ⟨t, σ1, v, σ2, h1, h2, h3, hr, h4⟩ := c_show h (xs (l4 + 1).toNatClampNeg) 0
    have h2 : fX9_show σ1 462 (xs (l4 + 1).toNatClampNeg) 0 = some (v, σ2) := h2
    have e := hk σ2 hr
    simp only [fL_law_830, fL_law_851, fL_law_878, fL_law_1379, if_pos c1, if_pos c2, if_pos c3, if_pos c4, if_pos c5, if_pos ck01, if_pos hz, h1, j_b, h2, if_true, e]
  · obtain ⟨t, σ1, v, σ2, h1, h2, h3, hr, h4⟩ := c_show h (xs (l4 + 1).toNatClampNeg) 1
    have h2 : fX9_show σ1 462 (xs (l4 + 1).toNatClampNeg) 1 = some (v, σ2) := h2
    have e := hk σ2 hr
    simp only [fL_law_830, fL_law_851, fL_law_878, fL_law_1379, if_pos c1, if_pos c2, if_pos c3, if_pos c4, if_pos c5, if_pos ck01, if_neg hz, h1, j_b, h2, if_true, e]
theorem blk_17 (hk : ∀ σ' : Sg, RR σ' → k σ' (l4 + 6) = some true) (h : RR σ) (c1 : ck (l4 + 1) L) (c2 : ck (l4 + 2) L) (c3 : ck (l4 + 3) L) (c4 : ck (l4 + 4) L) (c5 : ck (l4 + 5) L) : fL_law_886 L xs k σ l4 = some true := by
  obtain ⟨t, σ1, v, σ2, h1, h2, h3, hr, h4⟩ := c_activate h (xs (l4 + 1).toNatClampNeg)
  have h2 : fX9_activate σ1 462 (xs (l4 + 1).toNatClampNeg) = some (v, σ2) := h2
  have e := hk σ2 hr
  simp only [fL_law_886, fL_law_1379, if_pos c1, if_pos c2, if_pos c3, if_pos c4, if_pos c5, if_pos ck01, h1, j_b, h2, if_true, e]
theorem blk_18 (hk : ∀ σ' : Sg, RR σ' → k σ' (l4 + 6) = some true) (h : RR σ) (c1 : ck (l4 + 1) L) (c2 : ck (l4 + 2) L) (c3 : ck (l4 + 3) L) (c4 : ck (l4 + 4) L) (c5 : ck (l4 + 5) L) : fL_law_914 L xs k σ l4 = some true := by
  obtain ⟨t, σ1, v, σ2, h1, h2, h3, hr, h4⟩ := c_moveTab h (xs (l4 + 1).toNatClampNeg) (xs (l4 + 2).toNatClampNeg)
  have h2 : fX9_moveTab σ1 462 (xs (l4 + 1).toNatClampNeg) (xs (l4 + 2).toNatClampNeg) = some (v, σ2) := h2
  have e := hk σ2 hr
  simp only [fL_law_914, fL_law_1379, if_pos c1, if_pos c2, if_pos c3, if_pos c4, if_pos c5, if_pos ck01, h1, j_b, h2, if_true, e]
theorem blk_19 (hk : ∀ σ' : Sg, RR σ' → k σ' (l4 + 6) = some true) (h : RR σ) (c1 : ck (l4 + 1) L) (c2 : ck (l4 + 2) L) (c3 : ck (l4 + 3) L) (c4 : ck (l4 + 4) L) (c5 : ck (l4 + 5) L) : fL_law_954 L xs k σ l4 = some true := by
  obtain ⟨t, σ1, v, σ2, h1, h2, h3, hr, h4⟩ := c_drag h (xs (l4 + 1).toNatClampNeg) (xs (l4 + 2).toNatClampNeg) (xs (l4 + 3).toNatClampNeg)
  have h2 : fX9_drag σ1 462 (xs (l4 + 1).toNatClampNeg) (xs (l4 + 2).toNatClampNeg) (xs (l4 + 3).toNatClampNeg) = some (v, σ2) := h2
  have e := hk σ2 hr
  simp only [fL_law_954, fL_law_1379, if_pos c1, if_pos c2, if_pos c3, if_pos c4, if_pos c5, if_pos ck01, h1, j_b, h2, if_true, e]
theorem blk_20 (hk : ∀ σ' : Sg, RR σ' → k σ' (l4 + 6) = some true) (h : RR σ) (c1 : ck (l4 + 1) L) (c2 : ck (l4 + 2) L) (c3 : ck (l4 + 3) L) (c4 : ck (l4 + 4) L) (c5 : ck (l4 + 5) L) : fL_law_1006 L xs k σ l4 = some true := by
  obtain ⟨t, σ1, v, σ2, h1, h2, h3, hr, h4⟩ := c_even h (xs (l4 + 1).toNatClampNeg)
  have h2 : fX9_even σ1 462 (xs (l4 + 1).toNatClampNeg) = some (v, σ2) := h2
  have e := hk σ2 hr
  simp only [fL_law_1006, fL_law_1379, if_pos c1, if_pos c2, if_pos c3, if_pos c4, if_pos c5, if_pos ck01, h1, j_b, h2, if_true, e]
theorem blk_21 (hk : ∀ σ' : Sg, RR σ' → k σ' (l4 + 6) = some true) (h : RR σ) (c1 : ck (l4 + 1) L) (c2 : ck (l4 + 2) L) (c3 : ck (l4 + 3) L) (c4 : ck (l4 + 4) L) (c5 : ck (l4 + 5) L) : fL_law_1034 L xs k σ l4 = some true := by
  obtain ⟨v, σ2, h1, h2, hr⟩ := c_focus h (xs (l4 + 1).toNatClampNeg)
  have e := hk σ2 hr
  simp only [fL_law_1034, fL_law_1379, if_pos c1, if_pos c2, if_pos c3, if_pos c4, if_pos c5, if_pos ck01, h1, j_b, h2, if_true, e]
theorem blk_22 (hk : ∀ σ' : Sg, RR σ' → k σ' (l4 + 6) = some true) (h : RR σ) (c1 : ck (l4 + 1) L) (c2 : ck (l4 + 2) L) (c3 : ck (l4 + 3) L) (c4 : ck (l4 + 4) L) (c5 : ck (l4 + 5) L) : fL_law_1059 L xs k σ l4 = some true := by
  obtain ⟨v, b, σ2, h1, h2, hr⟩ := c_kindAt h (xs (l4 + 1).toNatClampNeg) (xs (l4 + 2).toNatClampNeg)
  have e := hk σ2 hr
  simp only [fL_law_1059, fL_law_1379, if_pos c1, if_pos c2, if_pos c3, if_pos c4, if_pos c5, if_pos ck01, h1, j_b, h2, if_true, e]
theorem blk_23 (hk : ∀ σ' : Sg, RR σ' → k σ' (l4 + 6) = some true) (h : RR σ) (c1 : ck (l4 + 1) L) (c2 : ck (l4 + 2) L) (c3 : ck (l4 + 3) L) (c4 : ck (l4 + 4) L) (c5 : ck (l4 + 5) L) : fL_law_1096 L xs k σ l4 = some true := by
  obtain ⟨v, b, σ2, h1, h2, hr⟩ := c_paneAt h (xs (l4 + 1).toNatClampNeg) (xs (l4 + 2).toNatClampNeg)
  have e := hk σ2 hr
  simp only [fL_law_1096, fL_law_1379, if_pos c1, if_pos c2, if_pos c3, if_pos c4, if_pos c5, if_pos ck01, h1, j_b, h2, if_true, e]
theorem blk_24 (hk : ∀ σ' : Sg, RR σ' → k σ' (l4 + 6) = some true) (h : RR σ) (c1 : ck (l4 + 1) L) (c2 : ck (l4 + 2) L) (c3 : ck (l4 + 3) L) (c4 : ck (l4 + 4) L) (c5 : ck (l4 + 5) L) : fL_law_1133 L xs k σ l4 = some true := by
  obtain ⟨v, b, σ2, h1, h2, hr⟩ := c_dropAt h (xs (l4 + 1).toNatClampNeg) (xs (l4 + 2).toNatClampNeg)
  have e := hk σ2 hr
  simp only [fL_law_1133, fL_law_1379, if_pos c1, if_pos c2, if_pos c3, if_pos c4, if_pos c5, if_pos ck01, h1, j_b, h2, if_true, e]
theorem blk_25 (hk : ∀ σ' : Sg, RR σ' → k σ' (l4 + 6) = some true) (h : RR σ) (c1 : ck (l4 + 1) L) (c2 : ck (l4 + 2) L) (c3 : ck (l4 + 3) L) (c4 : ck (l4 + 4) L) (c5 : ck (l4 + 5) L) : fL_law_1170 L xs k σ l4 = some true := by
  obtain ⟨t, σ1, v, σ2, h1, h2, h3, hr, h4⟩ := c_store h (xs (l4 + 1).toNatClampNeg)
  have h2 : fX9_store σ1 462 (xs (l4 + 1).toNatClampNeg) = some (v, σ2) := h2
  have e := hk σ2 hr
  simp only [fL_law_1170, fL_law_1379, if_pos c1, if_pos c2, if_pos c3, if_pos c4, if_pos c5, if_pos ck01, h1, j_b, h2, if_true, e]
theorem blk_26 (hk : ∀ σ' : Sg, RR σ' → k σ' (l4 + 6) = some true) (h : RR σ) (c1 : ck (l4 + 1) L) (c2 : ck (l4 + 2) L) (c3 : ck (l4 + 3) L) (c4 : ck (l4 + 4) L) (c5 : ck (l4 + 5) L) : fL_law_1198 L xs k σ l4 = some true := by
  obtain ⟨t, σ1, v, σ2, h1, h2, h3, hr, h4⟩ := c_restore h (xs (l4 + 1).toNatClampNeg)
  have h2 : fX9_restore σ1 462 (xs (l4 + 1).toNatClampNeg) = some (v, σ2) := h2
  have e := hk σ2 hr
  simp only [fL_law_1198, fL_law_1379, if_pos c1, if_pos c2, if_pos c3, if_pos c4, if_pos c5, if_pos ck01, h1, j_b, h2, if_true, e]
theorem blk_27 (hk : ∀ σ' : Sg, RR σ' → k σ' (l4 + 6) = some true) (h : RR σ) (c1 : ck (l4 + 1) L) (c2 : ck (l4 + 2) L) (c3 : ck (l4 + 3) L) (c4 : ck (l4 + 4) L) (c5 : ck (l4 + 5) L) : fL_law_1226 L xs k σ l4 = some true := by
  obtain ⟨t, σ1, v, σ2, h1, h2, h3, hr, h4⟩ := c_type h (xs (l4 + 1).toNatClampNeg)
  have h2 : fX9_type σ1 462 (xs (l4 + 1).toNatClampNeg) = some (v, σ2) := h2
  have e := hk σ2 hr
  simp only [fL_law_1226, fL_law_1379, if_pos c1, if_pos c2, if_pos c3, if_pos c4, if_pos c5, if_pos ck01, h1, j_b, h2, if_true, e]
theorem blk_28 (hk : ∀ σ' : Sg, RR σ' → k σ' (l4 + 6) = some true) (h : RR σ) (c1 : ck (l4 + 1) L) (c2 : ck (l4 + 2) L) (c3 : ck (l4 + 3) L) (c4 : ck (l4 + 4) L) (c5 : ck (l4 + 5) L) : fL_law_1254 L xs k σ l4 = some true := by
  obtain ⟨v, σ1, σ2, h1, h2, hr⟩ := c_clear h
  have h2 : fX9_clearText σ1 462 = some (v, σ2) := h2
  have e := hk σ2 hr
  simp only [fL_law_1254, fL_law_1379, h1, j_b, h2, if_true, e]
theorem blk_29 (hk : ∀ σ' : Sg, RR σ' → k σ' (l4 + 6) = some true) (h : RR σ) (c1 : ck (l4 + 1) L) (c2 : ck (l4 + 2) L) (c3 : ck (l4 + 3) L) (c4 : ck (l4 + 4) L) (c5 : ck (l4 + 5) L) : fL_law_1267 L xs k σ l4 = some true := by
  obtain ⟨v, σ1, σ2, h1, h2, hr⟩ := c_fault h
  have h2 : fX9_fault σ1 462 = some (v, σ2) := h2
  have e := hk σ2 hr
  simp only [fL_law_1267, fL_law_1379, h1, j_b, h2, if_true, e]
theorem blk_30 (hk : ∀ σ' : Sg, RR σ' → k σ' (l4 + 6) = some true) (h : RR σ) (c1 : ck (l4 + 1) L) (c2 : ck (l4 + 2) L) (c3 : ck (l4 + 3) L) (c4 : ck (l4 + 4) L) (c5 : ck (l4 + 5) L) : fL_law_1280 L xs k σ l4 = some true := by
  obtain ⟨t, σ1, v, σ2, h1, h2, h3, hr, h4⟩ := c_read h 
  have h2 : fX9_read σ1 462  = some (v, σ2) := h2
  have e := hk σ2 hr
  simp only [fL_law_1280, fL_law_1379, if_pos c1, if_pos c2, if_pos c3, if_pos c4, if_pos c5, if_pos ck01, h1, j_b, h2, if_true, e]
theorem blk_31 (hk : ∀ σ' : Sg, RR σ' → k σ' (l4 + 6) = some true) (h : RR σ) (c1 : ck (l4 + 1) L) (c2 : ck (l4 + 2) L) (c3 : ck (l4 + 3) L) (c4 : ck (l4 + 4) L) (c5 : ck (l4 + 5) L) : fL_law_1296 L xs k σ l4 = some true := by
  obtain ⟨t, σ1, v, σ2, h1, h2, h3, hr, h4⟩ := c_write h (xs (l4 + 1).toNatClampNeg)
  have h2 : fX9_write σ1 462 (xs (l4 + 1).toNatClampNeg) = some (v, σ2) := h2
  have e := hk σ2 hr
  simp only [fL_law_1296, fL_law_1379, if_pos c1, if_pos c2, if_pos c3, if_pos c4, if_pos c5, if_pos ck01, h1, j_b, h2, if_true, e]
theorem blk_32 (hk : ∀ σ' : Sg, RR σ' → k σ' (l4 + 6) = some true) (h : RR σ) (c1 : ck (l4 + 1) L) (c2 : ck (l4 + 2) L) (c3 : ck (l4 + 3) L) (c4 : ck (l4 + 4) L) (c5 : ck (l4 + 5) L) : fL_law_1324 L xs k σ l4 = some true := by
  obtain ⟨v, σ2, h1, h2, hr⟩ := c_character h (xs (l4 + 1).toNatClampNeg)
  have e := hk σ2 hr
  simp only [fL_law_1324, fL_law_1379, if_pos c1, if_pos c2, if_pos c3, if_pos c4, if_pos c5, if_pos ck01, h1, j_b, h2, if_true, e]
theorem blk_33 (hk : ∀ σ' : Sg, RR σ' → k σ' (l4 + 6) = some true) (h : RR σ) (c1 : ck (l4 + 1) L) (c2 : ck (l4 + 2) L) (c3 : ck (l4 + 3) L) (c4 : ck (l4 + 4) L) (c5 : ck (l4 + 5) L) : fL_law_1349 L xs k σ l4 = some true := by
  obtain ⟨t, σ1, v, σ2, h1, h2, h3, hr, h4⟩ := c_undo h 
  have h2 : fX9_undo σ1 462  = some (v, σ2) := h2
  have e := hk σ2 hr
  simp only [fL_law_1349, fL_law_1379, if_pos c1, if_pos c2, if_pos c3, if_pos c4, if_pos c5, if_pos ck01, h1, j_b, h2, if_true, e]
theorem blk_34 (hk : ∀ σ' : Sg, RR σ' → k σ' (l4 + 6) = some true) (h : RR σ) (c1 : ck (l4 + 1) L) (c2 : ck (l4 + 2) L) (c3 : ck (l4 + 3) L) (c4 : ck (l4 + 4) L) (c5 : ck (l4 + 5) L) : fL_law_1365 L xs k σ l4 = some true := by
  obtain ⟨v, σ2, h1, h2, hr⟩ := c_checksum h
  have e := hk σ2 hr
  have e0 := lgc v
  simp only [fL_law_1365, fL_law_1379, h1, j_b, h2, e0, if_true, e]
end RC4
