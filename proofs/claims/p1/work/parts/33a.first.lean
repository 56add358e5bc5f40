/-! THE FIRST CALL ON A FRESH OBJECT -/
theorem o_b {α β : Type} (a : α) (f : α → Option β) : Option.bind (some a) f = f a := rfl
theorem o_l {α β : Type} (v : α) (h : Nat → Option β) (f : α → Option β) : xcat (.inl v) h f = f v := rfl
theorem o_r {α β : Type} (e : Nat) (h : Nat → Option β) (f : α → Option β) : xcat (.inr e) h f = h e := rfl
theorem o_xb (e : Nat) : xb (.inr e) = .inr e := rfl
theorem o_nm {α β : Type} (x : α) (f : α → β) : nm x f = f x := rfl
theorem o_any {β : Type} {x : Option β} {f : β → Bool} (h : x.any f = true) : ∃ r, x = some r ∧ f r = true := by
  cases x with
  | none => exact absurd h (by simp)
  | some r => exact ⟨r, rfl, h⟩
theorem o_ck {α : Type} {i : Int32} {n : Nat} (h : ck i n) (a b : α) : (if ck i n then a else b) = a := if_pos h
theorem o_c1 {α : Type} (a b : α) : (if ck (0 + 1) 6 then a else b) = a := if_pos (by decide)
theorem o_c2 {α : Type} (a b : α) : (if ck (0 + 2) 6 then a else b) = a := if_pos (by decide)
theorem o_c3 {α : Type} (a b : α) : (if ck (0 + 3) 6 then a else b) = a := if_pos (by decide)
theorem o_c4 {α : Type} (a b : α) : (if ck (0 + 4) 6 then a else b) = a := if_pos (by decide)
theorem o_c5 {α : Type} (a b : α) : (if ck (0 + 5) 6 then a else b) = a := if_pos (by decide)
theorem o_c0 {α : Type} (a b : α) : (if ck 0 1 then a else b) = a := if_pos (by decide)
theorem e_10 : ((1 : Int32) = 0) = False := eq_false (by decide)
theorem e_20 : ((2 : Int32) = 0) = False := eq_false (by decide)
theorem e_30 : ((3 : Int32) = 0) = False := eq_false (by decide)
theorem n_01 : ((0 : Nat) = 1) = False := eq_false (by decide)
theorem n_02 : ((0 : Nat) = 2) = False := eq_false (by decide)
theorem n_10 : ((1 : Nat) = 0) = False := eq_false (by decide)
theorem n_12 : ((1 : Nat) = 2) = False := eq_false (by decide)
theorem n_20 : ((2 : Nat) = 0) = False := eq_false (by decide)
theorem n_21 : ((2 : Nat) = 1) = False := eq_false (by decide)
theorem b_ft : (false = true) = False := eq_false (by decide)
theorem i_le {a b : Int32} : a ≤ b ↔ a.toInt ≤ b.toInt := Int32.le_iff_toInt_le
theorem i_lt {a b : Int32} : a < b ↔ a.toInt < b.toInt := Int32.lt_iff_toInt_lt
theorem i_eq {a b : Int32} : a.toInt = b.toInt ↔ a = b := Int32.toInt_inj
theorem i_add {a b : Int32} (h0 : -2147483648 ≤ a.toInt + b.toInt) (h1 : a.toInt + b.toInt < 2147483648) : (a + b).toInt = a.toInt + b.toInt := by
  rw [Int32.toInt_add, Int.bmod_def]
  split <;> omega
theorem i_nat {n : Nat} (h : n < 2147483648) : (Int32.ofNat n).toInt = n := by
  have e : ((Int32.size : Nat) : Int) = 4294967296 := rfl
  rw [Int32.toInt_ofNat', Int.bmod_def, e]
  split <;> omega
theorem i_of {l : Int32} (h0 : 0 ≤ l.toInt) : l = Int32.ofNat l.toInt.toNat := by
  have := Int32.toInt_lt l
  refine i_eq.mp ?_
  rw [i_nat (by omega)]
  omega
theorem i_all {f : Int32 → Bool} {n : Nat} (h : (List.range n).all (fun i => f (Int32.ofNat i)) = true) {l : Int32} (h0 : 0 ≤ l.toInt) (h1 : l.toInt < n) : f l = true := by
  rw [i_of h0]
  exact List.all_eq_true.mp h _ (List.mem_range.mpr (by omega))
theorem i_ck {i : Int32} {n : Nat} (h0 : 0 ≤ i.toInt) (h1 : i.toInt < n) : ck i n := by
  intro h
  rcases h with h | h
  · have := i_lt.mp h
    have e : (0 : Int32).toInt = 0 := by decide
    omega
  · have e : i.toNatClampNeg = i.toInt.toNat := rfl
    omega
/-- one call that may throw: class and reference alike -/
def okc (F : Option (Int32 × Sg)) (G : Sg → Option (Int32 × Sg)) : Prop := ∃ t σ1 v σ2, F = some (t, σ1) ∧ G σ1 = some (v, σ2) ∧ σ2.1 462 3 = t ∧ (t = 0 → lg_cmp (σ2.2 476 (0 : Int32).toNatClampNeg) v.toInt64 = 0)
theorem okc_of {F : Option (Int32 × Sg)} {G : Sg → Option (Int32 × Sg)} (h : F.any (fun r => (G r.2).any (fun q => decide (q.2.1 462 3 = r.1) && (decide (r.1 ≠ 0) || decide (lg_cmp (q.2.2 476 (0 : Int32).toNatClampNeg) q.1.toInt64 = 0)))) = true) : okc F G := by
  obtain ⟨⟨t, σ1⟩, h1, h2⟩ := o_any h
  obtain ⟨⟨v, σ2⟩, h3, h4⟩ := o_any h2
  rw [Bool.and_eq_true, Bool.or_eq_true] at h4
  refine ⟨t, σ1, v, σ2, h1, h3, of_decide_eq_true h4.1, fun ht => ?_⟩
  rcases h4.2 with h | h
  · exact absurd ht (of_decide_eq_true h)
  · exact of_decide_eq_true h
/-- one call that only asks -/
def okq (F : Option Int32) (G : Option (Int32 × Sg)) : Prop := ∃ v σ2, F = some v ∧ G = some (v, σ2)
theorem okq_of {F : Option Int32} {G : Option (Int32 × Sg)} (h : F.any (fun r => G.any (fun q => decide (r = q.1))) = true) : okq F G := by
  obtain ⟨v, h1, h2⟩ := o_any h
  obtain ⟨⟨w, σ2⟩, h3, h4⟩ := o_any h2
  have : v = w := of_decide_eq_true h4
  subst this
  exact ⟨v, σ2, h1, h3⟩

theorem blk_196 {xs : Nat → Int32} {k : Sg → Int32 → Option Bool} (hk : ∀ σ, k σ (0 + 6) = some true) (h : okc (fL_create σ0 (xs (0 + 1 : Int32).toNatClampNeg) (xs (0 + 2 : Int32).toNatClampNeg) 476 1) (fun σ => fX9_create σ 462 (xs (0 + 1 : Int32).toNatClampNeg) (xs (0 + 2 : Int32).toNatClampNeg))) : fL_law_196 6 xs k σ0 0 = some true := by
  obtain ⟨t, σ1, v, σ2, h1, h2, h3, h4⟩ := h
  simp only [fL_law_196, o_c0, o_c1, o_c2, o_c3, o_c4, o_c5, h1, o_b, h2, fX9_thrown, h3, if_true, fL_law_261, fL_law_2086, hk]
  split
  · rename_i ht
    rw [if_pos (h4 ht)]
  · rfl
theorem blk_264 {xs : Nat → Int32} {k : Sg → Int32 → Option Bool} (hk : ∀ σ, k σ (0 + 6) = some true) (h : okc (fL_remove σ0 (xs (0 + 1 : Int32).toNatClampNeg) 476 1) (fun σ => fX9_remove σ 462 (xs (0 + 1 : Int32).toNatClampNeg))) : fL_law_264 6 xs k σ0 0 = some true := by
  obtain ⟨t, σ1, v, σ2, h1, h2, h3, h4⟩ := h
  simp only [fL_law_264, o_c0, o_c1, o_c2, o_c3, o_c4, o_c5, h1, o_b, h2, fX9_thrown, h3, if_true, fL_law_317, fL_law_2086, hk]
  split
  · rename_i ht
    rw [if_pos (h4 ht)]
  · rfl
theorem blk_320 {xs : Nat → Int32} {k : Sg → Int32 → Option Bool} (hk : ∀ σ, k σ (0 + 6) = some true) (h : okc (fL_setMinimum σ0 (xs (0 + 1 : Int32).toNatClampNeg) (xs (0 + 2 : Int32).toNatClampNeg) (xs (0 + 3 : Int32).toNatClampNeg) 476 1) (fun σ => fX9_setMinimum σ 462 (xs (0 + 1 : Int32).toNatClampNeg) (xs (0 + 2 : Int32).toNatClampNeg) (xs (0 + 3 : Int32).toNatClampNeg))) : fL_law_320 6 xs k σ0 0 = some true := by
  obtain ⟨t, σ1, v, σ2, h1, h2, h3, h4⟩ := h
  simp only [fL_law_320, o_c0, o_c1, o_c2, o_c3, o_c4, o_c5, h1, o_b, h2, fX9_thrown, h3, if_true, fL_law_397, fL_law_2086, hk]
  split
  · rename_i ht
    rw [if_pos (h4 ht)]
  · rfl
theorem blk_400 {xs : Nat → Int32} {k : Sg → Int32 → Option Bool} (hk : ∀ σ, k σ (0 + 6) = some true) (h : okq (fX8_panes σ0 ) (fX9_panes σ0 462 )) : fL_law_400 6 xs k σ0 0 = some true := by
  obtain ⟨v, σ2, h1, h2⟩ := h
  simp only [fL_law_400, o_c0, o_c1, o_c2, o_c3, o_c4, o_c5, h1, o_b, h2, if_true, fL_law_2086, hk]
theorem blk_413 {xs : Nat → Int32} {k : Sg → Int32 → Option Bool} (hk : ∀ σ, k σ (0 + 6) = some true) (h : okc (fL_pane σ0 (xs (0 + 1 : Int32).toNatClampNeg) (xs (0 + 2 : Int32).toNatClampNeg) 476 1) (fun σ => fX9_pane σ 462 (xs (0 + 1 : Int32).toNatClampNeg) (xs (0 + 2 : Int32).toNatClampNeg))) : fL_law_413 6 xs k σ0 0 = some true := by
  obtain ⟨t, σ1, v, σ2, h1, h2, h3, h4⟩ := h
  simp only [fL_law_413, o_c0, o_c1, o_c2, o_c3, o_c4, o_c5, h1, o_b, h2, fX9_thrown, h3, if_true, fL_law_478, fL_law_2086, hk]
  split
  · rename_i ht
    rw [if_pos (h4 ht)]
  · rfl
theorem blk_481 {xs : Nat → Int32} {k : Sg → Int32 → Option Bool} (hk : ∀ σ, k σ (0 + 6) = some true) (h : okc (fL_rectangle σ0 (xs (0 + 1 : Int32).toNatClampNeg) (xs (0 + 2 : Int32).toNatClampNeg) 476 1) (fun σ => fX9_rectangle σ 462 (xs (0 + 1 : Int32).toNatClampNeg) (xs (0 + 2 : Int32).toNatClampNeg))) : fL_law_481 6 xs k σ0 0 = some true := by
  obtain ⟨t, σ1, v, σ2, h1, h2, h3, h4⟩ := h
  simp only [fL_law_481, o_c0, o_c1, o_c2, o_c3, o_c4, o_c5, h1, o_b, h2, fX9_thrown, h3, if_true, fL_law_546, fL_law_2086, hk]
  split
  · rename_i ht
    rw [if_pos (h4 ht)]
  · rfl
theorem blk_549 {xs : Nat → Int32} {k : Sg → Int32 → Option Bool} (hk : ∀ σ, k σ (0 + 6) = some true) (h : okc (fL_tab σ0 (xs (0 + 1 : Int32).toNatClampNeg) (xs (0 + 2 : Int32).toNatClampNeg) 476 1) (fun σ => fX9_tab σ 462 (xs (0 + 1 : Int32).toNatClampNeg) (xs (0 + 2 : Int32).toNatClampNeg))) : fL_law_549 6 xs k σ0 0 = some true := by
  obtain ⟨t, σ1, v, σ2, h1, h2, h3, h4⟩ := h
  simp only [fL_law_549, o_c0, o_c1, o_c2, o_c3, o_c4, o_c5, h1, o_b, h2, fX9_thrown, h3, if_true, fL_law_614, fL_law_2086, hk]
  split
  · rename_i ht
    rw [if_pos (h4 ht)]
  · rfl
theorem blk_617 {xs : Nat → Int32} {k : Sg → Int32 → Option Bool} (hk : ∀ σ, k σ (0 + 6) = some true) (h : okc (fL_resize σ0 (xs (0 + 1 : Int32).toNatClampNeg) (xs (0 + 2 : Int32).toNatClampNeg) (xs (0 + 3 : Int32).toNatClampNeg) 476 1) (fun σ => fX9_resize σ 462 (xs (0 + 1 : Int32).toNatClampNeg) (xs (0 + 2 : Int32).toNatClampNeg) (xs (0 + 3 : Int32).toNatClampNeg))) : fL_law_617 6 xs k σ0 0 = some true := by
  obtain ⟨t, σ1, v, σ2, h1, h2, h3, h4⟩ := h
  simp only [fL_law_617, o_c0, o_c1, o_c2, o_c3, o_c4, o_c5, h1, o_b, h2, fX9_thrown, h3, if_true, fL_law_694, fL_law_2086, hk]
  split
  · rename_i ht
    rw [if_pos (h4 ht)]
  · rfl
theorem blk_697 {xs : Nat → Int32} {k : Sg → Int32 → Option Bool} (hk : ∀ σ, k σ (0 + 6) = some true) (h : okc (fL_move σ0 (xs (0 + 1 : Int32).toNatClampNeg) (xs (0 + 2 : Int32).toNatClampNeg) (xs (0 + 3 : Int32).toNatClampNeg) 476 1) (fun σ => fX9_move σ 462 (xs (0 + 1 : Int32).toNatClampNeg) (xs (0 + 2 : Int32).toNatClampNeg) (xs (0 + 3 : Int32).toNatClampNeg))) : fL_law_697 6 xs k σ0 0 = some true := by
  obtain ⟨t, σ1, v, σ2, h1, h2, h3, h4⟩ := h
  simp only [fL_law_697, o_c0, o_c1, o_c2, o_c3, o_c4, o_c5, h1, o_b, h2, fX9_thrown, h3, if_true, fL_law_774, fL_law_2086, hk]
  split
  · rename_i ht
    rw [if_pos (h4 ht)]
  · rfl
theorem blk_777 {xs : Nat → Int32} {k : Sg → Int32 → Option Bool} (hk : ∀ σ, k σ (0 + 6) = some true) (h : okc (fL_raise σ0 (xs (0 + 1 : Int32).toNatClampNeg) 476 1) (fun σ => fX9_raise σ 462 (xs (0 + 1 : Int32).toNatClampNeg))) : fL_law_777 6 xs k σ0 0 = some true := by
  obtain ⟨t, σ1, v, σ2, h1, h2, h3, h4⟩ := h
  simp only [fL_law_777, o_c0, o_c1, o_c2, o_c3, o_c4, o_c5, h1, o_b, h2, fX9_thrown, h3, if_true, fL_law_830, fL_law_2086, hk]
  split
  · rename_i ht
    rw [if_pos (h4 ht)]
  · rfl
theorem blk_833 {xs : Nat → Int32} {k : Sg → Int32 → Option Bool} (hk : ∀ σ, k σ (0 + 6) = some true) (h : okc (fL_window σ0 (xs (0 + 1 : Int32).toNatClampNeg) (xs (0 + 2 : Int32).toNatClampNeg) 476 1) (fun σ => fX9_window_ σ 462 (xs (0 + 1 : Int32).toNatClampNeg) (xs (0 + 2 : Int32).toNatClampNeg))) : fL_law_833 6 xs k σ0 0 = some true := by
  obtain ⟨t, σ1, v, σ2, h1, h2, h3, h4⟩ := h
  simp only [fL_law_833, o_c0, o_c1, o_c2, o_c3, o_c4, o_c5, h1, o_b, h2, fX9_thrown, h3, if_true, fL_law_898, fL_law_2086, hk]
  split
  · rename_i ht
    rw [if_pos (h4 ht)]
  · rfl
theorem blk_901 {xs : Nat → Int32} {k : Sg → Int32 → Option Bool} (hk : ∀ σ, k σ (0 + 6) = some true) (h : okq (fX8_floating σ0 (xs (0 + 1 : Int32).toNatClampNeg)) (fX9_floating σ0 462 (xs (0 + 1 : Int32).toNatClampNeg))) : fL_law_901 6 xs k σ0 0 = some true := by
  obtain ⟨v, σ2, h1, h2⟩ := h
  simp only [fL_law_901, o_c0, o_c1, o_c2, o_c3, o_c4, o_c5, h1, o_b, h2, if_true, fL_law_2086, hk]
theorem blk_926 {xs : Nat → Int32} {k : Sg → Int32 → Option Bool} (hk : ∀ σ, k σ (0 + 6) = some true) (h : okc (fL_dock σ0 (xs (0 + 1 : Int32).toNatClampNeg) (xs (0 + 2 : Int32).toNatClampNeg) (xs (0 + 3 : Int32).toNatClampNeg) 476 1) (fun σ => fX9_dock σ 462 (xs (0 + 1 : Int32).toNatClampNeg) (xs (0 + 2 : Int32).toNatClampNeg) (xs (0 + 3 : Int32).toNatClampNeg))) : fL_law_926 6 xs k σ0 0 = some true := by
  obtain ⟨t, σ1, v, σ2, h1, h2, h3, h4⟩ := h
  simp only [fL_law_926, o_c0, o_c1, o_c2, o_c3, o_c4, o_c5, h1, o_b, h2, fX9_thrown, h3, if_true, fL_law_1003, fL_law_2086, hk]
  split
  · rename_i ht
    rw [if_pos (h4 ht)]
  · rfl
theorem blk_1006 {xs : Nat → Int32} {k : Sg → Int32 → Option Bool} (hk : ∀ σ, k σ (0 + 6) = some true) (h : okc (fL_start σ0 (xs (0 + 1 : Int32).toNatClampNeg) 476 1) (fun σ => fX9_start σ 462 (xs (0 + 1 : Int32).toNatClampNeg))) : fL_law_1006 6 xs k σ0 0 = some true := by
  obtain ⟨t, σ1, v, σ2, h1, h2, h3, h4⟩ := h
  simp only [fL_law_1006, o_c0, o_c1, o_c2, o_c3, o_c4, o_c5, h1, o_b, h2, fX9_thrown, h3, if_true, fL_law_1059, fL_law_2086, hk]
  split
  · rename_i ht
    rw [if_pos (h4 ht)]
  · rfl
theorem blk_1062 {xs : Nat → Int32} {k : Sg → Int32 → Option Bool} (hk : ∀ σ, k σ (0 + 6) = some true) (h : okc (fL_floatAt σ0 (xs (0 + 1 : Int32).toNatClampNeg) (xs (0 + 2 : Int32).toNatClampNeg) (xs (0 + 3 : Int32).toNatClampNeg) (xs (0 + 4 : Int32).toNatClampNeg) (xs (0 + 5 : Int32).toNatClampNeg) 476 1) (fun σ => fX9_floatAt σ 462 (xs (0 + 1 : Int32).toNatClampNeg) (xs (0 + 2 : Int32).toNatClampNeg) (xs (0 + 3 : Int32).toNatClampNeg) (xs (0 + 4 : Int32).toNatClampNeg) (xs (0 + 5 : Int32).toNatClampNeg))) : fL_law_1062 6 xs k σ0 0 = some true := by
  obtain ⟨t, σ1, v, σ2, h1, h2, h3, h4⟩ := h
  simp only [fL_law_1062, o_c0, o_c1, o_c2, o_c3, o_c4, o_c5, h1, o_b, h2, fX9_thrown, h3, if_true, fL_law_1163, fL_law_2086, hk]
  split
  · rename_i ht
    rw [if_pos (h4 ht)]
  · rfl
theorem blk_1166 {xs : Nat → Int32} {k : Sg → Int32 → Option Bool} (hk : ∀ σ, k σ (0 + 6) = some true) (h : okc (fL_takeAway σ0 (xs (0 + 1 : Int32).toNatClampNeg) 476 1) (fun σ => fX9_takeAway σ 462 (xs (0 + 1 : Int32).toNatClampNeg))) : fL_law_1166 6 xs k σ0 0 = some true := by
  obtain ⟨t, σ1, v, σ2, h1, h2, h3, h4⟩ := h
  simp only [fL_law_1166, o_c0, o_c1, o_c2, o_c3, o_c4, o_c5, h1, o_b, h2, fX9_thrown, h3, if_true, fL_law_1219, fL_law_2086, hk]
  split
  · rename_i ht
    rw [if_pos (h4 ht)]
  · rfl
theorem blk_1222 {xs : Nat → Int32} {k : Sg → Int32 → Option Bool} (hk : ∀ σ, k σ (0 + 6) = some true) (h : ∀ w, (∃ σ1 v σ2, fL_show σ0 (xs (0 + 1 : Int32).toNatClampNeg) w 476 1 = some (1, σ1) ∧ fX9_show σ1 462 (xs (0 + 1 : Int32).toNatClampNeg) w = some (v, σ2) ∧ σ2.1 462 3 = 1)) : fL_law_1222 6 xs k σ0 0 = some true := by
  simp only [fL_law_1222, o_c0, o_c1, o_c2, o_c3, o_c4, o_c5]
  split
  · rename_i hz
    obtain ⟨σ1, v, σ2, h1, h2, h3⟩ := h 0
    simp only [fL_law_1243, o_c0, o_c1, o_c2, o_c3, o_c4, o_c5, h1, o_b, hz, if_true, fL_law_1270, h2, fX9_thrown, h3, e_10, if_false, fL_law_1310, fL_law_2086, hk]
  · rename_i hz
    obtain ⟨σ1, v, σ2, h1, h2, h3⟩ := h 1
    simp only [fL_law_1243, o_c0, o_c1, o_c2, o_c3, o_c4, o_c5, h1, o_b, hz, if_false, fL_law_1270, h2, fX9_thrown, h3, if_true, e_10, fL_law_1310, fL_law_2086, hk]
theorem blk_1313 {xs : Nat → Int32} {k : Sg → Int32 → Option Bool} (hk : ∀ σ, k σ (0 + 6) = some true) (h : okc (fL_activate σ0 (xs (0 + 1 : Int32).toNatClampNeg) 476 1) (fun σ => fX9_activate σ 462 (xs (0 + 1 : Int32).toNatClampNeg))) : fL_law_1313 6 xs k σ0 0 = some true := by
  obtain ⟨t, σ1, v, σ2, h1, h2, h3, h4⟩ := h
  simp only [fL_law_1313, o_c0, o_c1, o_c2, o_c3, o_c4, o_c5, h1, o_b, h2, fX9_thrown, h3, if_true, fL_law_1366, fL_law_2086, hk]
  split
  · rename_i ht
    rw [if_pos (h4 ht)]
  · rfl
theorem blk_1369 {xs : Nat → Int32} {k : Sg → Int32 → Option Bool} (hk : ∀ σ, k σ (0 + 6) = some true) (h : okc (fL_moveTab σ0 (xs (0 + 1 : Int32).toNatClampNeg) (xs (0 + 2 : Int32).toNatClampNeg) 476 1) (fun σ => fX9_moveTab σ 462 (xs (0 + 1 : Int32).toNatClampNeg) (xs (0 + 2 : Int32).toNatClampNeg))) : fL_law_1369 6 xs k σ0 0 = some true := by
  obtain ⟨t, σ1, v, σ2, h1, h2, h3, h4⟩ := h
  simp only [fL_law_1369, o_c0, o_c1, o_c2, o_c3, o_c4, o_c5, h1, o_b, h2, fX9_thrown, h3, if_true, fL_law_1434, fL_law_2086, hk]
  split
  · rename_i ht
    rw [if_pos (h4 ht)]
  · rfl
theorem blk_1437 {xs : Nat → Int32} {k : Sg → Int32 → Option Bool} (hk : ∀ σ, k σ (0 + 6) = some true) (h : okc (fL_drag σ0 (xs (0 + 1 : Int32).toNatClampNeg) (xs (0 + 2 : Int32).toNatClampNeg) (xs (0 + 3 : Int32).toNatClampNeg) 476 1) (fun σ => fX9_drag σ 462 (xs (0 + 1 : Int32).toNatClampNeg) (xs (0 + 2 : Int32).toNatClampNeg) (xs (0 + 3 : Int32).toNatClampNeg))) : fL_law_1437 6 xs k σ0 0 = some true := by
  obtain ⟨t, σ1, v, σ2, h1, h2, h3, h4⟩ := h
  simp only [fL_law_1437, o_c0, o_c1, o_c2, o_c3, o_c4, o_c5, h1, o_b, h2, fX9_thrown, h3, if_true, fL_law_1514, fL_law_2086, hk]
  split
  · rename_i ht
    rw [if_pos (h4 ht)]
  · rfl
theorem blk_1517 {xs : Nat → Int32} {k : Sg → Int32 → Option Bool} (hk : ∀ σ, k σ (0 + 6) = some true) (h : okc (fL_even σ0 (xs (0 + 1 : Int32).toNatClampNeg) 476 1) (fun σ => fX9_even σ 462 (xs (0 + 1 : Int32).toNatClampNeg))) : fL_law_1517 6 xs k σ0 0 = some true := by
  obtain ⟨t, σ1, v, σ2, h1, h2, h3, h4⟩ := h
  simp only [fL_law_1517, o_c0, o_c1, o_c2, o_c3, o_c4, o_c5, h1, o_b, h2, fX9_thrown, h3, if_true, fL_law_1570, fL_law_2086, hk]
  split
  · rename_i ht
    rw [if_pos (h4 ht)]
  · rfl
theorem blk_1573 {xs : Nat → Int32} {k : Sg → Int32 → Option Bool} (hk : ∀ σ, k σ (0 + 6) = some true) (h : okq (fX8_focus σ0 (xs (0 + 1 : Int32).toNatClampNeg)) (fX9_focus σ0 462 (xs (0 + 1 : Int32).toNatClampNeg))) : fL_law_1573 6 xs k σ0 0 = some true := by
  obtain ⟨v, σ2, h1, h2⟩ := h
  simp only [fL_law_1573, o_c0, o_c1, o_c2, o_c3, o_c4, o_c5, h1, o_b, h2, if_true, fL_law_2086, hk]
theorem blk_1598 {xs : Nat → Int32} {k : Sg → Int32 → Option Bool} (hk : ∀ σ, k σ (0 + 6) = some true) (h : okq (fX8_kindAt σ0 (xs (0 + 1 : Int32).toNatClampNeg) (xs (0 + 2 : Int32).toNatClampNeg)) (fX9_kindAt σ0 462 (xs (0 + 1 : Int32).toNatClampNeg) (xs (0 + 2 : Int32).toNatClampNeg))) : fL_law_1598 6 xs k σ0 0 = some true := by
  obtain ⟨v, σ2, h1, h2⟩ := h
  simp only [fL_law_1598, o_c0, o_c1, o_c2, o_c3, o_c4, o_c5, h1, o_b, h2, if_true, fL_law_2086, hk]
theorem blk_1635 {xs : Nat → Int32} {k : Sg → Int32 → Option Bool} (hk : ∀ σ, k σ (0 + 6) = some true) (h : okq (fX8_paneAt σ0 (xs (0 + 1 : Int32).toNatClampNeg) (xs (0 + 2 : Int32).toNatClampNeg)) (fX9_paneAt σ0 462 (xs (0 + 1 : Int32).toNatClampNeg) (xs (0 + 2 : Int32).toNatClampNeg))) : fL_law_1635 6 xs k σ0 0 = some true := by
  obtain ⟨v, σ2, h1, h2⟩ := h
  simp only [fL_law_1635, o_c0, o_c1, o_c2, o_c3, o_c4, o_c5, h1, o_b, h2, if_true, fL_law_2086, hk]
theorem blk_1672 {xs : Nat → Int32} {k : Sg → Int32 → Option Bool} (hk : ∀ σ, k σ (0 + 6) = some true) (h : okq (fX8_dropAt σ0 (xs (0 + 1 : Int32).toNatClampNeg) (xs (0 + 2 : Int32).toNatClampNeg)) (fX9_dropAt σ0 462 (xs (0 + 1 : Int32).toNatClampNeg) (xs (0 + 2 : Int32).toNatClampNeg))) : fL_law_1672 6 xs k σ0 0 = some true := by
  obtain ⟨v, σ2, h1, h2⟩ := h
  simp only [fL_law_1672, o_c0, o_c1, o_c2, o_c3, o_c4, o_c5, h1, o_b, h2, if_true, fL_law_2086, hk]
theorem blk_1709 {xs : Nat → Int32} {k : Sg → Int32 → Option Bool} (hk : ∀ σ, k σ (0 + 6) = some true) (h : okc (fL_store σ0 (xs (0 + 1 : Int32).toNatClampNeg) 476 1) (fun σ => fX9_store σ 462 (xs (0 + 1 : Int32).toNatClampNeg))) : fL_law_1709 6 xs k σ0 0 = some true := by
  obtain ⟨t, σ1, v, σ2, h1, h2, h3, h4⟩ := h
  simp only [fL_law_1709, o_c0, o_c1, o_c2, o_c3, o_c4, o_c5, h1, o_b, h2, fX9_thrown, h3, if_true, fL_law_1762, fL_law_2086, hk]
  split
  · rename_i ht
    rw [if_pos (h4 ht)]
  · rfl
theorem blk_1765 {xs : Nat → Int32} {k : Sg → Int32 → Option Bool} (hk : ∀ σ, k σ (0 + 6) = some true) (h : okc (fL_restore σ0 (xs (0 + 1 : Int32).toNatClampNeg) 476 1) (fun σ => fX9_restore σ 462 (xs (0 + 1 : Int32).toNatClampNeg))) : fL_law_1765 6 xs k σ0 0 = some true := by
  obtain ⟨t, σ1, v, σ2, h1, h2, h3, h4⟩ := h
  simp only [fL_law_1765, o_c0, o_c1, o_c2, o_c3, o_c4, o_c5, h1, o_b, h2, fX9_thrown, h3, if_true, fL_law_1818, fL_law_2086, hk]
  split
  · rename_i ht
    rw [if_pos (h4 ht)]
  · rfl
theorem blk_1821 {xs : Nat → Int32} {k : Sg → Int32 → Option Bool} (hk : ∀ σ, k σ (0 + 6) = some true) (h : okc (fL_type σ0 (xs (0 + 1 : Int32).toNatClampNeg) 476 1) (fun σ => fX9_type σ 462 (xs (0 + 1 : Int32).toNatClampNeg))) : fL_law_1821 6 xs k σ0 0 = some true := by
  obtain ⟨t, σ1, v, σ2, h1, h2, h3, h4⟩ := h
  simp only [fL_law_1821, o_c0, o_c1, o_c2, o_c3, o_c4, o_c5, h1, o_b, h2, fX9_thrown, h3, if_true, fL_law_1874, fL_law_2086, hk]
  split
  · rename_i ht
    rw [if_pos (h4 ht)]
  · rfl
theorem blk_1877 {xs : Nat → Int32} {k : Sg → Int32 → Option Bool} (hk : ∀ σ, k σ (0 + 6) = some true) (h : ∃ v σ1 σ2, fX8_clearText σ0 = some (v, σ1) ∧ fX9_clearText σ1 462 = some (v, σ2)) : fL_law_1877 6 xs k σ0 0 = some true := by
  obtain ⟨v, σ1, σ2, h1, h2⟩ := h
  simp only [fL_law_1877, o_c0, o_c1, o_c2, o_c3, o_c4, o_c5, h1, o_b, h2, if_true, fL_law_2086, hk]
theorem blk_1890 {xs : Nat → Int32} {k : Sg → Int32 → Option Bool} (hk : ∀ σ, k σ (0 + 6) = some true) (h : ∃ v σ1 σ2, fX8_fault σ0 = some (v, σ1) ∧ fX9_fault σ1 462 = some (v, σ2)) : fL_law_1890 6 xs k σ0 0 = some true := by
  obtain ⟨v, σ1, σ2, h1, h2⟩ := h
  simp only [fL_law_1890, o_c0, o_c1, o_c2, o_c3, o_c4, o_c5, h1, o_b, h2, if_true, fL_law_2086, hk]
theorem blk_1903 {xs : Nat → Int32} {k : Sg → Int32 → Option Bool} (hk : ∀ σ, k σ (0 + 6) = some true) (h : okc (fL_read σ0  476 1) (fun σ => fX9_read σ 462 )) : fL_law_1903 6 xs k σ0 0 = some true := by
  obtain ⟨t, σ1, v, σ2, h1, h2, h3, h4⟩ := h
  simp only [fL_law_1903, o_c0, o_c1, o_c2, o_c3, o_c4, o_c5, h1, o_b, h2, fX9_thrown, h3, if_true, fL_law_1944, fL_law_2086, hk]
  split
  · rename_i ht
    rw [if_pos (h4 ht)]
  · rfl
theorem blk_1947 {xs : Nat → Int32} {k : Sg → Int32 → Option Bool} (hk : ∀ σ, k σ (0 + 6) = some true) (h : okc (fL_write σ0 (xs (0 + 1 : Int32).toNatClampNeg) 476 1) (fun σ => fX9_write σ 462 (xs (0 + 1 : Int32).toNatClampNeg))) : fL_law_1947 6 xs k σ0 0 = some true := by
  obtain ⟨t, σ1, v, σ2, h1, h2, h3, h4⟩ := h
  simp only [fL_law_1947, o_c0, o_c1, o_c2, o_c3, o_c4, o_c5, h1, o_b, h2, fX9_thrown, h3, if_true, fL_law_2000, fL_law_2086, hk]
  split
  · rename_i ht
    rw [if_pos (h4 ht)]
  · rfl
theorem blk_2003 {xs : Nat → Int32} {k : Sg → Int32 → Option Bool} (hk : ∀ σ, k σ (0 + 6) = some true) (h : okq (fX8_character σ0 (xs (0 + 1 : Int32).toNatClampNeg)) (fX9_character σ0 462 (xs (0 + 1 : Int32).toNatClampNeg))) : fL_law_2003 6 xs k σ0 0 = some true := by
  obtain ⟨v, σ2, h1, h2⟩ := h
  simp only [fL_law_2003, o_c0, o_c1, o_c2, o_c3, o_c4, o_c5, h1, o_b, h2, if_true, fL_law_2086, hk]
theorem blk_2028 {xs : Nat → Int32} {k : Sg → Int32 → Option Bool} (hk : ∀ σ, k σ (0 + 6) = some true) (h : okc (fL_undo σ0  476 1) (fun σ => fX9_undo σ 462 )) : fL_law_2028 6 xs k σ0 0 = some true := by
  obtain ⟨t, σ1, v, σ2, h1, h2, h3, h4⟩ := h
  simp only [fL_law_2028, o_c0, o_c1, o_c2, o_c3, o_c4, o_c5, h1, o_b, h2, fX9_thrown, h3, if_true, fL_law_2069, fL_law_2086, hk]
  split
  · rename_i ht
    rw [if_pos (h4 ht)]
  · rfl
theorem blk_2072 {xs : Nat → Int32} {k : Sg → Int32 → Option Bool} (hk : ∀ σ, k σ (0 + 6) = some true) (h : ∃ v σ2, fX8_checksumN σ0 = some v ∧ fX9_checksum σ0 462 = some (v, σ2)) : fL_law_2072 6 xs k σ0 0 = some true := by
  obtain ⟨v, σ2, h1, h2⟩ := h
  have e : lg_cmp v v = 0 := by unfold lg_cmp; simp
  simp only [fL_law_2072, h1, o_b, h2, e, if_true, fL_law_2086, hk]
theorem f_ex (p : Int32) : fX4_exists σ0 1 p = some false := by
  unfold fX4_exists
  by_cases h0 : p < 0
  · rw [if_pos h0]
  · rw [if_neg h0]
    by_cases h1 : (12 : Int32) ≤ p
    · rw [if_pos h1]
    · rw [if_neg h1]
      have a0 : 0 ≤ p.toInt := by have := mt i_lt.mpr h0; have e : (0 : Int32).toInt = 0 := by decide
                                  omega
      have a1 : p.toInt < (12 : Nat) := by have := mt i_le.mpr h1; have e : (12 : Int32).toInt = 12 := by decide
                                           omega
      have := i_all (f := fun p => decide (¬ (((σ0.1 1 0) >>> (p &&& 31)) &&& 1) = 1)) (n := 12) (by decide +kernel) a0 a1
      rw [if_neg (of_decide_eq_true this)]
theorem f_rp (p : Int32) : fX8_requirePane σ0 p = some (.inr 0) := by
  unfold fX8_requirePane
  rw [f_ex, o_b, if_neg (by decide)]
theorem f_wi (σ : Sg) (p a c : Int32) : ∃ b, fX9_within σ p a c = some b ∧ (b = true ↔ (a.toInt ≤ p.toInt ∧ p.toInt ≤ c.toInt)) := by
  unfold fX9_within
  by_cases h0 : p < a
  · rw [if_pos h0]
    have := i_lt.mp h0
    exact ⟨_, rfl, by simp; omega⟩
  · rw [if_neg h0]
    have := mt i_lt.mpr h0
    by_cases h1 : c < p
    · rw [if_pos h1]
      have := i_lt.mp h1
      exact ⟨_, rfl, by simp; omega⟩
    · rw [if_neg h1]
      have := mt i_lt.mpr h1
      exact ⟨_, rfl, by simp; omega⟩
theorem f_rr (σ : Sg) (p a c : Int32) : fX8_requireRange σ p a c = some (if a.toInt ≤ p.toInt ∧ p.toInt ≤ c.toInt then .inl () else .inr 1) := by
  unfold fX8_requireRange fX8_requireRange_10
  by_cases h0 : p < a
  · rw [if_pos h0]
    have := i_lt.mp h0
    rw [if_neg (by omega)]
  · rw [if_neg h0]
    have := mt i_lt.mpr h0
    by_cases h1 : p ≤ c
    · rw [if_pos h1]
      have := i_le.mp h1
      rw [if_pos (by omega)]
    · rw [if_neg h1]
      have := mt i_le.mpr h1
      rw [if_neg (by omega)]
theorem f_wt {σ : Sg} {p a c : Int32} (h : a.toInt ≤ p.toInt ∧ p.toInt ≤ c.toInt) : fX9_within σ p a c = some true := by
  obtain ⟨b, h1, h2⟩ := f_wi σ p a c
  rw [h1, h2.mpr h]
theorem f_wf {σ : Sg} {p a c : Int32} (h : ¬ (a.toInt ≤ p.toInt ∧ p.toInt ≤ c.toInt)) : fX9_within σ p a c = some false := by
  obtain ⟨b, h1, h2⟩ := f_wi σ p a c
  cases b with
  | true => exact absurd (h2.mp rfl) h
  | false => exact h1
theorem f_ip (p : Int32) : fX9_isPane σ0 462 p = some false := by
  unfold fX9_isPane
  by_cases h : (0 : Int32).toInt ≤ p.toInt ∧ p.toInt ≤ (11 : Int32).toInt
  · rw [f_wt h, o_b, if_pos rfl]
    have e0 : (0 : Int32).toInt = 0 := by decide
    have e1 : (11 : Int32).toInt = 11 := by decide
    have := i_all (f := fun p => decide (fX9_of σ0 462 p 0 = some 0)) (n := 12) (by decide +kernel) (l := p) (by omega) (by omega)
    rw [of_decide_eq_true this, o_b, if_neg (by decide)]
  · rw [f_wf h, o_b, if_neg (by decide)]
theorem f_re (σ : Sg) (t : Int32) (h : ¬ t ≤ 0) : fX9_refused σ 462 t = some (true, su σ 462 3 t) := by
  unfold fX9_refused
  rw [o_nm, if_neg h]
theorem f_r0 (σ : Sg) : fX9_refused σ 462 0 = some (false, su σ 462 3 0) := by
  unfold fX9_refused
  rw [o_nm, if_pos (by decide)]
theorem f_r1 (σ : Sg) : fX9_refused σ 462 1 = some (true, su σ 462 3 1) := f_re σ 1 (by decide)
theorem f_r2 (σ : Sg) : fX9_refused σ 462 2 = some (true, su σ 462 3 2) := f_re σ 2 (by decide)
theorem f_r3 (σ : Sg) : fX9_refused σ 462 3 = some (true, su σ 462 3 3) := f_re σ 3 (by decide)
theorem b_1 : b2i false = 0 := rfl
theorem b_2 : b2i true = 1 := rfl

theorem one_remove (p1 : Int32) : okc (fL_remove σ0 p1 476 1) (fun σ => fX9_remove σ 462 p1) := by
  refine ⟨1, σ0, 0, su σ0 462 3 1, ?_, ?_, rfl, fun h => absurd h (by decide)⟩
  · simp only [fL_remove, fX8_remove, f_rp, o_b, o_xb, o_l, o_r, o_nm, if_true, if_false, n_01, n_02, n_10, n_12, n_20, n_21, b_ft, b_1, b_2, e_10, e_20, e_30]
  · simp only [fX9_remove_14, fX9_remove, f_ip, f_r1, o_b, o_xb, o_l, o_r, o_nm, if_true, if_false, n_01, n_02, n_10, n_12, n_20, n_21, b_ft, b_1, b_2, e_10, e_20, e_30]
theorem one_setMinimum (p1 p2 p3 : Int32) : okc (fL_setMinimum σ0 p1 p2 p3 476 1) (fun σ => fX9_setMinimum σ 462 p1 p2 p3) := by
  refine ⟨1, σ0, 0, su σ0 462 3 1, ?_, ?_, rfl, fun h => absurd h (by decide)⟩
  · simp only [fL_setMinimum, fX8_setMinimum, f_rp, o_b, o_xb, o_l, o_r, o_nm, if_true, if_false, n_01, n_02, n_10, n_12, n_20, n_21, b_ft, b_1, b_2, e_10, e_20, e_30]
  · simp only [fX9_setMinimum_38, fX9_setMinimum_33, fX9_setMinimum, f_ip, f_r1, o_b, o_xb, o_l, o_r, o_nm, if_true, if_false, n_01, n_02, n_10, n_12, n_20, n_21, b_ft, b_1, b_2, e_10, e_20, e_30]
theorem one_pane (p1 p2 : Int32) : okc (fL_pane σ0 p1 p2 476 1) (fun σ => fX9_pane σ 462 p1 p2) := by
  refine ⟨1, σ0, 0, su σ0 462 3 1, ?_, ?_, rfl, fun h => absurd h (by decide)⟩
  · simp only [fL_pane, fX8_pane, f_rp, o_b, o_xb, o_l, o_r, o_nm, if_true, if_false, n_01, n_02, n_10, n_12, n_20, n_21, b_ft, b_1, b_2, e_10, e_20, e_30]
  · simp only [fX9_pane_28, fX9_pane, f_ip, f_r1, o_b, o_xb, o_l, o_r, o_nm, if_true, if_false, n_01, n_02, n_10, n_12, n_20, n_21, b_ft, b_1, b_2, e_10, e_20, e_30]
theorem one_rectangle (p1 p2 : Int32) : okc (fL_rectangle σ0 p1 p2 476 1) (fun σ => fX9_rectangle σ 462 p1 p2) := by
  refine ⟨1, σ0, 0, su σ0 462 3 1, ?_, ?_, rfl, fun h => absurd h (by decide)⟩
  · simp only [fL_rectangle, fX8_rectangle, f_rp, o_b, o_xb, o_l, o_r, o_nm, if_true, if_false, n_01, n_02, n_10, n_12, n_20, n_21, b_ft, b_1, b_2, e_10, e_20, e_30]
  · simp only [fX9_rectangle_27, fX9_rectangle, f_ip, f_r1, o_b, o_xb, o_l, o_r, o_nm, if_true, if_false, n_01, n_02, n_10, n_12, n_20, n_21, b_ft, b_1, b_2, e_10, e_20, e_30]
theorem one_tab (p1 p2 : Int32) : okc (fL_tab σ0 p1 p2 476 1) (fun σ => fX9_tab σ 462 p1 p2) := by
  refine ⟨1, σ0, 0, su σ0 462 3 1, ?_, ?_, rfl, fun h => absurd h (by decide)⟩
  · simp only [fL_tab, fX8_tab, f_rp, o_b, o_xb, o_l, o_r, o_nm, if_true, if_false, n_01, n_02, n_10, n_12, n_20, n_21, b_ft, b_1, b_2, e_10, e_20, e_30]
  · simp only [fX9_tab_14, fX9_tab, f_ip, f_r1, o_b, o_xb, o_l, o_r, o_nm, if_true, if_false, n_01, n_02, n_10, n_12, n_20, n_21, b_ft, b_1, b_2, e_10, e_20, e_30]
theorem one_dock (p1 p2 p3 : Int32) : okc (fL_dock σ0 p1 p2 p3 476 1) (fun σ => fX9_dock σ 462 p1 p2 p3) := by
  refine ⟨1, σ0, 0, su σ0 462 3 1, ?_, ?_, rfl, fun h => absurd h (by decide)⟩
  · simp only [fL_dock, fX8_dock, f_rp, o_b, o_xb, o_l, o_r, o_nm, if_true, if_false, n_01, n_02, n_10, n_12, n_20, n_21, b_ft, b_1, b_2, e_10, e_20, e_30]
  · simp only [fX9_dock_125, fX9_dock_81, fX9_dock_47, fX9_dock_46, fX9_dock_21, fX9_dock_20, fX9_dock, f_ip, f_r1, o_b, o_xb, o_l, o_r, o_nm, if_true, if_false, n_01, n_02, n_10, n_12, n_20, n_21, b_ft, b_1, b_2, e_10, e_20, e_30]
theorem one_start (p1 : Int32) : okc (fL_start σ0 p1 476 1) (fun σ => fX9_start σ 462 p1) := by
  refine ⟨1, σ0, 0, su σ0 462 3 1, ?_, ?_, rfl, fun h => absurd h (by decide)⟩
  · simp only [fL_start, fX8_start, f_rp, o_b, o_xb, o_l, o_r, o_nm, if_true, if_false, n_01, n_02, n_10, n_12, n_20, n_21, b_ft, b_1, b_2, e_10, e_20, e_30]
  · simp only [fX9_start_65, fX9_start_46, fX9_start_41, fX9_start_40, fX9_start, f_ip, f_r1, o_b, o_xb, o_l, o_r, o_nm, if_true, if_false, n_01, n_02, n_10, n_12, n_20, n_21, b_ft, b_1, b_2, e_10, e_20, e_30]
theorem one_takeAway (p1 : Int32) : okc (fL_takeAway σ0 p1 476 1) (fun σ => fX9_takeAway σ 462 p1) := by
  refine ⟨1, σ0, 0, su σ0 462 3 1, ?_, ?_, rfl, fun h => absurd h (by decide)⟩
  · simp only [fL_takeAway, fX8_takeAway, f_rp, o_b, o_xb, o_l, o_r, o_nm, if_true, if_false, n_01, n_02, n_10, n_12, n_20, n_21, b_ft, b_1, b_2, e_10, e_20, e_30]
  · simp only [fX9_takeAway_28, fX9_takeAway, f_ip, f_r1, o_b, o_xb, o_l, o_r, o_nm, if_true, if_false, n_01, n_02, n_10, n_12, n_20, n_21, b_ft, b_1, b_2, e_10, e_20, e_30]
theorem one_activate (p1 : Int32) : okc (fL_activate σ0 p1 476 1) (fun σ => fX9_activate σ 462 p1) := by
  refine ⟨1, σ0, 0, su σ0 462 3 1, ?_, ?_, rfl, fun h => absurd h (by decide)⟩
  · simp only [fL_activate, fX8_activate, f_rp, o_b, o_xb, o_l, o_r, o_nm, if_true, if_false, n_01, n_02, n_10, n_12, n_20, n_21, b_ft, b_1, b_2, e_10, e_20, e_30]
  · simp only [fX9_activate_28, fX9_activate, f_ip, f_r1, o_b, o_xb, o_l, o_r, o_nm, if_true, if_false, n_01, n_02, n_10, n_12, n_20, n_21, b_ft, b_1, b_2, e_10, e_20, e_30]
theorem one_moveTab (p1 p2 : Int32) : okc (fL_moveTab σ0 p1 p2 476 1) (fun σ => fX9_moveTab σ 462 p1 p2) := by
  refine ⟨1, σ0, 0, su σ0 462 3 1, ?_, ?_, rfl, fun h => absurd h (by decide)⟩
  · simp only [fL_moveTab, fX8_moveTab, f_rp, o_b, o_xb, o_l, o_r, o_nm, if_true, if_false, n_01, n_02, n_10, n_12, n_20, n_21, b_ft, b_1, b_2, e_10, e_20, e_30]
  · simp only [fX9_moveTab_172, fX9_moveTab_169, fX9_moveTab_167, fX9_moveTab_147, fX9_moveTab_68, fX9_moveTab_23, fX9_moveTab_22, fX9_moveTab, f_ip, f_r1, o_b, o_xb, o_l, o_r, o_nm, if_true, if_false, n_01, n_02, n_10, n_12, n_20, n_21, b_ft, b_1, b_2, e_10, e_20, e_30]
theorem one_even (p1 : Int32) : okc (fL_even σ0 p1 476 1) (fun σ => fX9_even σ 462 p1) := by
  refine ⟨1, σ0, 0, su σ0 462 3 1, ?_, ?_, rfl, fun h => absurd h (by decide)⟩
  · simp only [fL_even, fX8_even, f_rp, o_b, o_xb, o_l, o_r, o_nm, if_true, if_false, n_01, n_02, n_10, n_12, n_20, n_21, b_ft, b_1, b_2, e_10, e_20, e_30]
  · simp only [fX9_even_113, fX9_even_57, fX9_even_38, fX9_even_37, fX9_even, f_ip, f_r1, o_b, o_xb, o_l, o_r, o_nm, if_true, if_false, n_01, n_02, n_10, n_12, n_20, n_21, b_ft, b_1, b_2, e_10, e_20, e_30]
theorem one_show (p1 w : Int32) : ∃ σ1 v σ2, fL_show σ0 p1 w 476 1 = some (1, σ1) ∧ fX9_show σ1 462 p1 w = some (v, σ2) ∧ σ2.1 462 3 = 1 := by
  refine ⟨σ0, false, su σ0 462 3 1, ?_, ?_, rfl⟩
  · simp only [fL_show, fX8_show, f_rp, o_b, o_xb, o_l, o_r, o_nm, if_true, if_false, n_01, n_02, n_10, n_12, n_20, n_21, b_ft, b_1, b_2, e_10, e_20, e_30]
  · simp only [fX9_show_130, fX9_show_80, fX9_show_50, fX9_show_28, fX9_show, f_ip, f_r1, o_b, o_xb, o_l, o_r, o_nm, if_true, if_false, n_01, n_02, n_10, n_12, n_20, n_21, b_ft, b_1, b_2, e_10, e_20, e_30]
theorem one_floatAt (p1 p2 p3 p4 p5 : Int32) : okc (fL_floatAt σ0 p1 p2 p3 p4 p5 476 1) (fun σ => fX9_floatAt σ 462 p1 p2 p3 p4 p5) := by
  refine ⟨1, σ0, 0, su σ0 462 3 1, ?_, ?_, rfl, fun h => absurd h (by decide)⟩
  · simp only [fL_floatAt, fX8_floatAt, f_rp, o_b, o_xb, o_l, o_r, o_nm, if_true, if_false, n_01, n_02, n_10, n_12, n_20, n_21, b_ft, b_1, b_2, e_10, e_20, e_30]
  · obtain ⟨b2, h2, -⟩ := f_wi σ0 p2 (-400) 400
    obtain ⟨b3, h3, -⟩ := f_wi σ0 p3 (-400) 400
    obtain ⟨b4, h4, -⟩ := f_wi σ0 p4 10 400
    obtain ⟨b5, h5, -⟩ := f_wi σ0 p5 10 400
    cases b2 <;> cases b3 <;> cases b4 <;> cases b5 <;> simp only [fX9_floatAt_98, fX9_floatAt_57, fX9_floatAt_56, fX9_floatAt, h2, h3, h4, h5, f_ip, f_r1, o_b, o_xb, o_l, o_r, o_nm, if_true, if_false, n_01, n_02, n_10, n_12, n_20, n_21, b_ft, b_1, b_2, e_10, e_20, e_30]
