/-! THE RELATION: read (20): c_read -/
section RBP
variable {σ s : Sg} {n : Nat} {c : Nat → Int32} {d : Nat → Nat} {wn : Nat → Int}
theorem BMr.w0 {U V : VW} {O : Nat → Bool} (h : BMr U V O) (x : Int) : BMr (mu U 17 0 x) V O := by
  obtain ⟨h1, h2, h3, h4, h5, h6, h7, h8, h9, h10⟩ := h
  have r : ∀ j, j ≠ 17 → mu U 17 0 x j = U j := fun j hj => mu_ne hj
  unfold BMr PR
  rw [r 0 (by decide), r 1 (by decide), r 2 (by decide), r 3 (by decide), r 4 (by decide), r 5 (by decide), r 9 (by decide), r 10 (by decide), r 11 (by decide), r 12 (by decide), r 13 (by decide), r 14 (by decide), r 15 (by decide), r 16 (by decide), r 18 (by decide), r 19 (by decide)]
  refine ⟨h1, h2, h3, h4, h5, h6, fun w hw => ⟨(h7 w hw).1, fun w0 => ?_, (h7 w hw).2.2⟩, h8, h9, h10⟩
  rw [mu_at, if_neg w0]
  exact (h7 w hw).2.1 w0
theorem cnt_m1 (V : VW) : cnt (fun p => decide (V 13 p = -1)) 12 + cnt (fun p => decide (V 13 p ≠ -1)) 12 = 12 := by
  have h : cnt (fun _ => true) 12 = cnt (fun p => decide (V 13 p = -1)) 12 + cnt (fun p => decide (V 13 p ≠ -1)) 12 := cnt_split (fun i _ => by
    by_cases x : V 13 i = -1 <;> simp [x])
  have : cnt (fun _ => true) 12 = 12 := by decide
  omega
/-- the reference begins to read -/
theorem g_start {s0 : Sg} (e5 : s0.1 462 5 = nI n) (e65 : ∀ i, i < n → s0.1 465 i = c i) (x : Int32) : ∃ s5, fX9_goes s0 462 x = fX9_goes_27 462 FU s5 x 1 ∧ MS n c s5 0 0 0 (fun _ => 0) ∧ Fy1 s0 s5 ∧ s5.1 463 = s0.1 463 := by
  obtain ⟨s5, hs5⟩ : ∃ s5 : Sg, s5 = su (su (su (su (su s0 462 15 0) 462 16 (-1)) 462 19 0) 462 20 0) 462 22 0 := ⟨_, rfl⟩
  have x5 : ∀ y, y ≠ 462 → s5.1 y = s0.1 y := fun y hy => by rw [hs5, su_ne hy, su_ne hy, su_ne hy, su_ne hy, su_ne hy]
  have j5 : ∀ j, (j < 15 ∨ 22 < j ∨ j = 17 ∨ j = 18) → s5.1 462 j = s0.1 462 j := fun j h15 => by
    rw [hs5, su_at, if_neg (by omega), su_at, if_neg (by omega), su_at, if_neg (by omega), su_at, if_neg (by omega), su_at, if_neg (by omega)]
  refine ⟨s5, ?_, ⟨⟨?_, fun i hi => ?_, ?_⟩, ?_, ?_, ?_, fun i hi => absurd hi (by omega)⟩, ⟨by rw [hs5]; rfl, fun x h1 _ _ _ _ => x5 x h1, j5⟩, x5 463 (by omega)⟩
  · unfold fX9_goes
    rw [j_nm, j_nm, j_nm, j_nm, j_nm, ← hs5]
  · rw [j5 5 (by omega)]; exact e5
  · rw [x5 465 (by omega)]; exact e65 i hi
  · rw [hs5, su_at, if_neg (by omega), su_at, if_neg (by omega), su_at, if_neg (by omega), su_at, if_neg (by omega), su_at, if_pos ⟨rfl, rfl⟩]; rfl
  · rw [hs5, su_at, if_neg (by omega), su_at, if_neg (by omega), su_at, if_neg (by omega), su_at, if_pos ⟨rfl, rfl⟩]
  · rw [hs5, su_at, if_neg (by omega), su_at, if_neg (by omega), su_at, if_pos ⟨rfl, rfl⟩]; rfl
  · rw [hs5, su_at, if_neg (by omega), su_at, if_pos ⟨rfl, rfl⟩]; rfl
/-- the new layout -/
theorem rd_inv {V V' : VW} {d' : Nat → Nat} {wn' : Nat → Int} (h : Inv V d wn) (kp : KP true V V') (tr : Tree V' d' wn' (fun _ => false)) (tb : Tabs V' (fun _ => false)) : Inv V' d' wn' := by
  obtain ⟨k8, kj, k5⟩ := kp
  refine ⟨tr, tb, ?_, h.2.2.2.cg (kj 1 (by omega)) (kj 2 (by omega)) (kj 3 (by omega)) (kj 4 (by omega))⟩
  have : odp V' = odp V := by
    unfold odp
    rw [kj 6 (by omega), kj 7 (by omega)]
  rw [this]
  refine h.2.2.1.cg (fun w hw => ?_)
  unfold flw
  by_cases z : w = 0
  · rw [z]
    rfl
  · rw [k5 w hw (Or.inl z)]
/-- the reference makes the tree of a good text -/
theorem m_read {S : ST} (hS : SI S) (T : Tt n c) {m1 : Nat} {V' : VW} (par : ParT n c true (-1) 0 0 (setn (alS S) 12) (wds (own (S_pl S)) (S_pl S) 12) n m1 V') {s0 : Sg} (sm : SM (mv (s0.1 463)) S) (e5 : s0.1 462 5 = nI n) (e65 : ∀ i, i < n → s0.1 465 i = c i) : SI (pfS S (fc (plc V') (S_fo S) 12) V') ∧ ∃ s1, fX9_read_29 462 FU s0 0 = some (oI (v_pi V' 0), s1) ∧ SM (mv (s1.1 463)) (pfS S (fc (plc V') (S_fo S) 12) V') ∧ Fy1 s0 s1 := by
  obtain ⟨d, wn, hI⟩ := id hS.2.2.2.2.1
  obtain ⟨W, hW⟩ : ∃ W : VW, W = wds (own (S_pl S)) (S_pl S) 12 := ⟨_, rfl⟩
  obtain ⟨iw, w13⟩ := wds_inv (c := own (S_pl S)) hI 12 (Nat.le_refl _)
  have w0 := emp_root hI
  obtain ⟨s9, a1, a2, a3, a4⟩ := m_clear sm.2.1 hI
  rw [← hW] at iw w13 w0 a3 par
  have al : ∀ q, q < 12 → Nat.testBit (setn (alS S) 12) q = true → exB S q = true ∧ W 13 q = -1 := fun q hq b => by
    rw [setn_bit, decide_eq_true hq, Bool.true_and] at b
    unfold alS at b
    rw [← hW] at b
    simpa using b
  have ex6 : ∀ q, q < 12 → exB S q = true → mv (s9.1 463) 6 q = 1 := fun q hq x => by
    rw [a4 6 (by omega), (sm.1 q hq).1, if_pos x]
  obtain ⟨s5, b1, b2, b3, r63⟩ := g_start (s0 := s9) (n := n) (c := c) (by rw [a2.2 462 (by omega)]; exact e5) (fun i hi => by rw [a2.2 465 (by omega)]; exact e65 i hi) 1
  have fr : 2 * bits (setn (alS S) 12) ≤ frees W + 1 := by
    have f1 := few_nodes iw.1 iw.2.1
    have f2 := cnt_free W
    have f3 := cnt_m1 W
    have f4 : bits (setn (alS S) 12) ≤ cnt (fun p => decide (W 13 p = -1)) 12 := cnt_mono (fun q hq b => decide_eq_true (al q hq b).2)
    unfold frees
    omega
  obtain ⟨d', wn', s6, c1, c2, c3, c4, c5, c6, c7, g, hg, g5, g21, ax⟩ := r_all T par (setn_lt _ 12 (Nat.le_refl _)) iw.1 iw.2.1 (fun q hq b => ⟨(al q hq b).2, (iw.2.1.no hq (al q hq b).2).2⟩) w0 fr b2 (by rw [r63]; exact a3) (fun q hq b => by rw [r63]; exact ex6 q hq (al q hq b).1) (fun q hq z => by
    rw [r63]
    refine ex6 q hq (hS.2.2.2.1 q hq (fun y => z ?_))
    rw [w13 q hq, y]
    by_cases x : q < 12 ∧ own (S_pl S) q = true
    · rw [if_pos x]
    · rw [if_neg x])
  have hI' : Inv V' d' wn' := rd_inv iw c6 c3 c4
  have k9 : ∀ k, (6 ≤ k ∧ k ≤ 8) ∨ 20 ≤ k → mv (s6.1 463) k = mv (s0.1 463) k := fun k hk => by
    rw [c7 k (by omega), r63, a4 k hk]
  have hO := hS.2.2.2.2.2.1
  have hSI : SI (pfS S (fc (plc V') (S_fo S) 12) V') := by
    refine hS.pf hI' (fun p hp z => ?_) ((fc_LO hO 12 (by omega)).cg (fun i hi => by rw [if_pos hi]))
    have := ax p hp z
    rw [k9 6 (by omega), (sm.1 p hp).1] at this
    cases q : exB S p
    · rw [q] at this
      exact absurd this (by decide)
    · rfl
  refine ⟨hSI, ?_⟩
  obtain ⟨s7, x1, x2, x3⟩ := m_s5 (σ := s6) (a := 0) (w := 0) jz0 (by omega) (s6.1 462 21)
  have e21 : (s6.1 462 21).toInt = V' 5 0 := by rw [g21, g5, j_oI (by omega) (by omega)]
  have x3 : mv (s7.1 463) = mu (mv (s6.1 463)) 17 0 (V' 5 0) := by rw [x3, e21]
  have vm7 : VM (mv (s7.1 463)) V' (fun _ => false) := by
    rw [x3]
    exact (c5.w0 (V' 5 0)).vm (by rw [mu_at, if_pos rfl])
  have k7 : ∀ k, (6 ≤ k ∧ k ≤ 8) ∨ 20 ≤ k → mv (s7.1 463) k = mv (s0.1 463) k := fun k hk => by
    rw [x3, mu_ne (by omega)]
    exact k9 k hk
  have oe7 : OE (mo (mv (s7.1 463)) 20) (S_fo S) := by
    have := sm.2.2.1
    unfold mo at this ⊢
    rw [k7 20 (by omega), k7 21 (by omega)]
    exact this
  obtain ⟨s8, y1, y2, y3, y4⟩ := m_focuses (σ := s7) (o := S_fo S) (c := plc V') (fun p hp => by rw [vm7.gr hp]; rfl) oe7 (hO.di (by decide)) hO.pn
  have vm8 : VM (mv (s8.1 463)) V' (fun _ => false) := vm7.rows (fun j hj => y4 j (by omega) (by omega))
  have pin := m_placedIn vm8 c3 c4 0
  refine ⟨s8, ?_, ?_, ?_⟩
  · rw [a1]
    unfold rdG
    rw [b1, c1, j_b]
    dsimp only
    rw [x1, j_b, y1, j_b, pin, j_b]
    rfl
  · refine ⟨fun p hp => ?_, vm8, y3, fun k hk => ?_⟩
    · rw [y4 6 (by decide) (by decide), y4 7 (by decide) (by decide), y4 8 (by decide) (by decide), k7 6 (by omega), k7 7 (by omega), k7 8 (by omega)]
      exact sm.1 p hp
    · rw [y4 (22 + k) (by omega) (by omega), k7 (22 + k) (by omega)]
      exact sm.2.2.2 k hk
  · exact (((Fy1.ou a2).tr b3).tr c2).tr ((Fy1.ou x2).tr (Fy1.ou y2))
end RBP
