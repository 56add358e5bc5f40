theorem first_end (xs : Nat → Int32) (σ : Sg) : fL_loop 6 xs 1 σ (0 + 6) = some true := by
  rw [fL_loop]
  unfold fL_law_23
  exact if_pos (by decide)
set_option maxRecDepth 100000 in
theorem first_six (xs : Nat → Int32) : fL_loop 6 xs 2 σ0 0 = some true := by
  have hk : ∀ σ, fL_loop 6 xs 1 σ (0 + 6) = some true := first_end xs
  rw [fL_loop]
  unfold fL_law_23
  rw [if_neg (by decide), if_pos (by decide), o_nm]
  generalize (xs (0 : Int32).toNatClampNeg) &&& 63 = v
  by_cases h0 : v = 0
  · rw [if_pos h0]
    exact blk_196 hk (one_create _ _)
  rw [if_neg h0]
  by_cases h1 : v = 1
  · rw [if_pos h1]
    exact blk_264 hk (one_remove _)
  rw [if_neg h1]
  by_cases h2 : v = 2
  · rw [if_pos h2]
    exact blk_320 hk (one_setMinimum _ _ _)
  rw [if_neg h2]
  by_cases h3 : v = 3
  · rw [if_pos h3]
    exact blk_400 hk one_panes
  rw [if_neg h3]
  by_cases h4 : v = 4
  · rw [if_pos h4]
    exact blk_413 hk (one_pane _ _)
  rw [if_neg h4]
  by_cases h5 : v = 5
  · rw [if_pos h5]
    exact blk_481 hk (one_rectangle _ _)
  rw [if_neg h5]
  by_cases h6 : v = 6
  · rw [if_pos h6]
    exact blk_549 hk (one_tab _ _)
  rw [if_neg h6]
  by_cases h7 : v = 7
  · rw [if_pos h7]
    exact blk_617 hk (one_resize _ _ _)
  rw [if_neg h7]
  by_cases h8 : v = 8
  · rw [if_pos h8]
    exact blk_697 hk (one_move _ _ _)
  rw [if_neg h8]
  by_cases h9 : v = 9
  · rw [if_pos h9]
    exact blk_777 hk (one_raise _)
  rw [if_neg h9]
  by_cases h10 : v = 10
  · rw [if_pos h10]
    exact blk_833 hk (one_window _ _)
  rw [if_neg h10]
  by_cases h11 : v = 11
  · rw [if_pos h11]
    exact blk_901 hk (one_floating _)
  rw [if_neg h11]
  by_cases h12 : v = 12
  · rw [if_pos h12]
    exact blk_926 hk (one_dock _ _ _)
  rw [if_neg h12]
  by_cases h13 : v = 13
  · rw [if_pos h13]
    exact blk_1006 hk (one_start _)
  rw [if_neg h13]
  by_cases h14 : v = 14
  · rw [if_pos h14]
    exact blk_1062 hk (one_floatAt _ _ _ _ _)
  rw [if_neg h14]
  by_cases h15 : v = 15
  · rw [if_pos h15]
    exact blk_1166 hk (one_takeAway _)
  rw [if_neg h15]
  by_cases h16 : v = 16
  · rw [if_pos h16]
    exact blk_1222 hk (fun w => one_show _ w)
  rw [if_neg h16]
  by_cases h17 : v = 17
  · rw [if_pos h17]
    exact blk_1313 hk (one_activate _)
  rw [if_neg h17]
  by_cases h18 : v = 18
  · rw [if_pos h18]
    exact blk_1369 hk (one_moveTab _ _)
  rw [if_neg h18]
  by_cases h19 : v = 19
  · rw [if_pos h19]
    exact blk_1437 hk (one_drag _ _ _)
  rw [if_neg h19]
  by_cases h20 : v = 20
  · rw [if_pos h20]
    exact blk_1517 hk (one_even _)
  rw [if_neg h20]
  by_cases h21 : v = 21
  · rw [if_pos h21]
    exact blk_1573 hk (one_focus _)
  rw [if_neg h21]
  by_cases h22 : v = 22
  · rw [if_pos h22]
    exact blk_1598 hk (one_kindAt _ _)
  rw [if_neg h22]
  by_cases h23 : v = 23
  · rw [if_pos h23]
    exact blk_1635 hk (one_paneAt _ _)
  rw [if_neg h23]
  by_cases h24 : v = 24
  · rw [if_pos h24]
    exact blk_1672 hk (one_dropAt _ _)
  rw [if_neg h24]
  by_cases h25 : v = 25
  · rw [if_pos h25]
    exact blk_1709 hk (one_store _)
  rw [if_neg h25]
  by_cases h26 : v = 26
  · rw [if_pos h26]
    exact blk_1765 hk (one_restore _)
  rw [if_neg h26]
  by_cases h27 : v = 27
  · rw [if_pos h27]
    exact blk_1821 hk (one_type _)
  rw [if_neg h27]
  by_cases h28 : v = 28
  · rw [if_pos h28]
    exact blk_1877 hk one_clear
  rw [if_neg h28]
  by_cases h29 : v = 29
  · rw [if_pos h29]
    exact blk_1890 hk one_fault
  rw [if_neg h29]
  by_cases h30 : v = 30
  · rw [if_pos h30]
    exact blk_1903 hk one_read
  rw [if_neg h30]
  by_cases h31 : v = 31
  · rw [if_pos h31]
    exact blk_1947 hk (one_write _)
  rw [if_neg h31]
  by_cases h32 : v = 32
  · rw [if_pos h32]
    exact blk_2003 hk (one_character _)
  rw [if_neg h32]
  by_cases h33 : v = 33
  · rw [if_pos h33]
    exact blk_2028 hk one_undo
  rw [if_neg h33]
  by_cases h34 : v = 34
  · rw [if_pos h34]
    exact blk_2072 hk one_checksum
  rw [if_neg h34]
  exact hk σ0
theorem first_go {L : Nat} (xs : Nat → Int32) (hL : L ≤ 6) : fL_loop L xs 2 σ0 0 = some true := by
  by_cases h : L = 6
  · subst h
    exact first_six xs
  · have h5 : L < 6 := by omega
    rw [fL_loop]
    unfold fL_law_23
    refine if_pos ?_
    have : ∀ L : Nat, L < 6 → nI L - 6 < 0 := by decide
    exact this L h5
theorem whole_start {p : Program} {e : Env} {s : State} {m : MethodId} {below : List Frame} {meth : Method} {c : Code} (l : Launch) (hflags : l.flags = flags0) {b L : Nat} {xs : Nat → Int32} (hL : L ≤ 6) (C0 : lw_At p s m meth c b L xs) : W p l e room_1 s m #[Value.ref b] below meth c s.heap [] 0 0 (lw_Z below #[Value.ref b] s) (entryFrame m ([Value.ref b] : List Value).toArray 7) :=
  law_start l hflags 2 ⟨by omega, by omega⟩ (first_go xs hL) C0
