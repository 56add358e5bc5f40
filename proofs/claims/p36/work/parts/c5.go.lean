/-! THE LOOP -/
section RC5
variable {L : Nat} {xs : Nat → Int32}
theorem ck_i {l i : Nat} (hL : L ≤ 3072) (h : l + i < L) : ck (nI l + nI i) L := by
  rw [j_a]
  exact j_ckn h (by omega)
theorem loop_go (hL : L ≤ 3072) : ∀ (n : Nat) (σ : Sg) (l : Nat), RR σ → l ≤ L → L < l + 6 * n → fL_loop L xs n σ (nI l) = some true := by
  intro n
  induction n with
  | zero =>
    intro σ l _ h1 h2
    omega
  | succ n ih =>
    intro σ l hr h1 h2
    have t6 : (6 : Int32).toInt = 6 := rfl
    have tL : (nI L).toInt = L := j_nI (by omega)
    have tl : (nI l).toInt = l := j_nI (by omega)
    have e6 : (nI L - 6).toInt = (L : Int) - 6 := by rw [j_sub (by rw [tL, t6]; omega) (by rw [tL, t6]; omega), tL, t6]
    rw [fL_loop]
    unfold fL_law_23
    by_cases z : L < l + 6
    · rw [if_pos (by rw [j_lt, e6, tl]; omega)]
    · rw [if_neg (by rw [j_lt, e6, tl]; omega), if_pos (j_ckn (by omega) (by omega)), j_nm]
      have hk : ∀ σ' : Sg, RR σ' → fL_loop L xs n σ' (nI l + 6) = some true := fun σ' r => by
        rw [show nI l + 6 = nI (l + 6) from j_a l 6]
        exact ih σ' (l + 6) r (by omega) (by omega)
      have c1 : ck (nI l + 1) L := ck_i (i := 1) hL (by omega)
      have c2 : ck (nI l + 2) L := ck_i (i := 2) hL (by omega)
      have c3 : ck (nI l + 3) L := ck_i (i := 3) hL (by omega)
      have c4 : ck (nI l + 4) L := ck_i (i := 4) hL (by omega)
      have c5 : ck (nI l + 5) L := ck_i (i := 5) hL (by omega)
      generalize (xs (nI l).toNatClampNeg) &&& 63 = v
      by_cases h0 : v = 0
      · rw [if_pos h0]
        exact blk_0 hk hr c1 c2 c3 c4 c5
      rw [if_neg h0]
      by_cases h1 : v = 1
      · rw [if_pos h1]
        exact blk_1 hk hr c1 c2 c3 c4 c5
      rw [if_neg h1]
      by_cases h2 : v = 2
      · rw [if_pos h2]
        exact blk_2 hk hr c1 c2 c3 c4 c5
      rw [if_neg h2]
      by_cases h3 : v = 3
      · rw [if_pos h3]
        exact blk_3 hk hr c1 c2 c3 c4 c5
      rw [if_neg h3]
      by_cases h4 : v = 4
      · rw [if_pos h4]
        exact blk_4 hk hr c1 c2 c3 c4 c5
      rw [if_neg h4]
      by_cases h5 : v = 5
      · rw [if_pos h5]
        exact blk_5 hk hr c1 c2 c3 c4 c5
      rw [if_neg h5]
      by_cases h6 : v = 6
      · rw [if_pos h6]
        exact blk_6 hk hr c1 c2 c3 c4 c5
      rw [if_neg h6]
      by_cases h7 : v = 7
      · rw [if_pos h7]
        exact blk_7 hk hr c1 c2 c3 c4 c5
      rw [if_neg h7]
      by_cases h8 : v = 8
      · rw [if_pos h8]
        exact blk_8 hk hr c1 c2 c3 c4 c5
      rw [if_neg h8]
      by_cases h9 : v = 9
      · rw [if_pos h9]
        exact blk_9 hk hr c1 c2 c3 c4 c5
      rw [if_neg h9]
      by_cases h10 : v = 10
      · rw [if_pos h10]
        exact blk_10 hk hr c1 c2 c3 c4 c5
      rw [if_neg h10]
      by_cases h11 : v = 11
      · rw [if_pos h11]
        exact blk_11 hk hr c1 c2 c3 c4 c5
      rw [if_neg h11]
      by_cases h12 : v = 12
      · rw [if_pos h12]
        exact blk_12 hk hr c1 c2 c3 c4 c5
      rw [if_neg h12]
      by_cases h13 : v = 13
      · rw [if_pos h13]
        exact blk_13 hk hr c1 c2 c3 c4 c5
      rw [if_neg h13]
      by_cases h14 : v = 14
      · rw [if_pos h14]
        exact blk_14 hk hr c1 c2 c3 c4 c5
      rw [if_neg h14]
      by_cases h15 : v = 15
      · rw [if_pos h15]
        exact blk_15 hk hr c1 c2 c3 c4 c5
      rw [if_neg h15]
      by_cases h16 : v = 16
      · rw [if_pos h16]
        exact blk_16 hk hr c1 c2 c3 c4 c5
      rw [if_neg h16]
      by_cases h17 : v = 17
      · rw [if_pos h17]
        exact blk_17 hk hr c1 c2 c3 c4 c5
      rw [if_neg h17]
      by_cases h18 : v = 18
      · rw [if_pos h18]
        exact blk_18 hk hr c1 c2 c3 c4 c5
      rw [if_neg h18]
      by_cases h19 : v = 19
      · rw [if_pos h19]
        exact blk_19 hk hr c1 c2 c3 c4 c5
      rw [if_neg h19]
      by_cases h20 : v = 20
      · rw [if_pos h20]
        exact blk_20 hk hr c1 c2 c3 c4 c5
      rw [if_neg h20]
      by_cases h21 : v = 21
      · rw [if_pos h21]
        exact blk_21 hk hr c1 c2 c3 c4 c5
      rw [if_neg h21]
      by_cases h22 : v = 22
      · rw [if_pos h22]
        exact blk_22 hk hr c1 c2 c3 c4 c5
      rw [if_neg h22]
      by_cases h23 : v = 23
      · rw [if_pos h23]
        exact blk_23 hk hr c1 c2 c3 c4 c5
      rw [if_neg h23]
      by_cases h24 : v = 24
      · rw [if_pos h24]
        exact blk_24 hk hr c1 c2 c3 c4 c5
      rw [if_neg h24]
      by_cases h25 : v = 25
      · rw [if_pos h25]
        exact blk_25 hk hr c1 c2 c3 c4 c5
      rw [if_neg h25]
      by_cases h26 : v = 26
      · rw [if_pos h26]
        exact blk_26 hk hr c1 c2 c3 c4 c5
      rw [if_neg h26]
      by_cases h27 : v = 27
      · rw [if_pos h27]
        exact blk_27 hk hr c1 c2 c3 c4 c5
      rw [if_neg h27]
      by_cases h28 : v = 28
      · rw [if_pos h28]
        exact blk_28 hk hr c1 c2 c3 c4 c5
      rw [if_neg h28]
      by_cases h29 : v = 29
      · rw [if_pos h29]
        exact blk_29 hk hr c1 c2 c3 c4 c5
      rw [if_neg h29]
      by_cases h30 : v = 30
      · rw [if_pos h30]
        exact blk_30 hk hr c1 c2 c3 c4 c5
      rw [if_neg h30]
      by_cases h31 : v = 31
      · rw [if_pos h31]
        exact blk_31 hk hr c1 c2 c3 c4 c5
      rw [if_neg h31]
      by_cases h32 : v = 32
      · rw [if_pos h32]
        exact blk_32 hk hr c1 c2 c3 c4 c5
      rw [if_neg h32]
      by_cases h33 : v = 33
      · rw [if_pos h33]
        exact blk_33 hk hr c1 c2 c3 c4 c5
      rw [if_neg h33]
      by_cases h34 : v = 34
      · rw [if_pos h34]
        exact blk_34 hk hr c1 c2 c3 c4 c5
      rw [if_neg h34]
      exact hk σ hr
theorem whole_start {p : Program} {e : Env} {s : State} {m : MethodId} {below : List Frame} {meth : Method} {c : Code} (l : Launch) (hflags : l.flags = flags0) {b L : Nat} {xs : Nat → Int32} (hL : L ≤ 3072) (C0 : lw_At p s m meth c b L xs) : W p l e room_1 s m #[Value.ref b] below meth c s.heap [] 0 0 (lw_Z below #[Value.ref b] s) (entryFrame m ([Value.ref b] : List Value).toArray 7) :=
  law_start l hflags 513 ⟨by omega, by omega⟩ (loop_go hL 513 σ0 0 s0_RR (Nat.zero_le _) (by omega)) C0
end RC5
