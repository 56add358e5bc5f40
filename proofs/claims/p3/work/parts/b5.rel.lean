/-! THE RELATION: write -/
section RB5
variable {σ s : Sg} {W : List Int32} {V : VW} {d : Nat → Nat} {wn : Nat → Int}
theorem m_wroot (t : Tree V d wn (fun _ => false)) (tb : Tabs V (fun _ => false)) {r0 : Nat} (hr : r0 < 23) (hu : V 8 r0 ≠ 3) (r9 : V 9 r0 = -1) (vm : VM (mv (s.1 463)) V (fun _ => false)) (hb : MB s []) : ∃ s', fX9_writesTree s 462 (oI r0) = some s' ∧ Fr s s' ∧ MB s' (txt V 64 r0) := by
  have zp := Zn_pos (V := V) hr hu
  have fu : FU = 6000 := rfl
  have d0 := t.dqr hr r9
  obtain ⟨s', f', g', a1, a2, a3, a4, a5⟩ := m_wtree t tb hr r9 64 r0 FU s [] hr hu (by omega) vm hb (by omega)
  obtain ⟨f, rfl⟩ : ∃ f, f' = f + 1 := ⟨f' - 1, by omega⟩
  obtain ⟨g, rfl⟩ : ∃ g, g' = g + 1 := ⟨g' - 1, by omega⟩
  refine ⟨s', ?_, a2, a3⟩
  show fX9_writesTree_4 462 FU s (oI r0) (oI r0) 1 = _
  rw [a1, fX9_writesTree_75, if_pos rfl]
  unfold fX9_writesTree_117 fX9_writesTree_127
  rw [if_pos rfl, if_pos rfl, fX9_writesTree_4, if_pos rfl]
theorem s_compose {S : ST} (hs : stv σ 1 = S) (hI : Inv (S_pl S) d wn) {p : Int32} {k : Nat} (hk : p.toInt = k) (hk5 : k < 5) : ∃ σ4 W, fX7_compose σ 459 (1 + 5) p = some σ4 ∧ Out σ σ4 460 461 ∧ CB σ4 W ∧ W.length ≤ 2000 ∧ Lc W ∧ ∀ s, VM (mv (s.1 463)) (S_pl S) (fun _ => false) → MB s [] → ∃ s', (∀ K : Sg → Option (Int32 × Sg), ((fX9_window s 462 p 5 1).bind fun r3 => if r3 = (-1) then K s else (fX9_window s 462 p 5 1).bind fun r4 => (fX9_writesTree s 462 r4).bind fun σ5 => K σ5) = K s') ∧ Fr s s' ∧ MB s' W := by
  obtain ⟨w1, hw1⟩ : ∃ w1 : Sg, w1 = su σ 460 1 0 := ⟨_, rfl⟩
  have o1 : Out σ w1 460 461 := by rw [hw1]; exact ⟨rfl, fun x hx => su_ne (by omega)⟩
  have cb : CB w1 [] := ⟨by rw [hw1, su_at, if_pos ⟨rfl, rfl⟩]; rfl, fun i hi => absurd hi (Nat.not_lt_zero _)⟩
  have v1 : pv w1 (1 + 5) = S_pl S := (pv6 o1).trans (S_pv hs)
  have ro : fX1_rootOf w1 (1 + 5) p = some (oI (S_pl S 5 k)) := by rw [s_rootOf, v1, hk, ga_in hk5]
  have em : fX5_empty σ (459 + 1) = some w1 := by
    unfold fX5_empty
    rw [hw1]
    rfl
  rcases hI.1.wi hk5 with z | ⟨n, hn, e5, hu, r9, -⟩
  · refine ⟨w1, [], ?_, o1, cb, by decide, Lc.nil, fun s vm hb => ⟨s, fun K => ?_, Fr.rf, hb⟩⟩
    · unfold fX7_compose
      rw [em, j_b, ro, j_b, z, if_pos (show oI (-1) = (-1 : Int32) from rfl)]
    · rw [m_w5 hk hk5, j_b, vm.ro hk5, z, if_pos (show oI (-1) = (-1 : Int32) from rfl)]
  · have d0 := hI.1.dqr hn r9
    have zp := Zn_pos (V := S_pl S) hn hu
    have en : ¬ oI (n : Int) = (-1 : Int32) := by rw [j_eq, j_oI (by omega) (by omega), jm1]; omega
    obtain ⟨σ4, a1, a2, a3⟩ := s_ptree hI.1 64 n w1 [] hn hu (by omega) v1 cb (by
      show ((0 : Nat) : Int) + _ ≤ _
      omega)
    have tl := txt_len hI.1 64 n hn hu
    refine ⟨σ4, txt (S_pl S) 64 n, ?_, o1.tr a2, a3, by omega, txt_rg hI.1 64 n hn hu, fun s vm hb => ?_⟩
    · rw [d0] at a1
      unfold fX7_compose
      rw [em, j_b, ro, j_b, e5, if_neg en, j_b, show (0 : Int32) = nI 0 from rfl, a1, j_b]
    · obtain ⟨s', b1, b2, b3⟩ := m_wroot hI.1 hI.2.1 hn hu r9 vm hb
      refine ⟨s', fun K => ?_, b2, b3⟩
      rw [m_w5 hk hk5, j_b, vm.ro hk5, e5, if_neg en, j_b, b1, j_b]
theorem m_w70 (hl : W.length ≤ 120) : ∀ (j i fuel : Nat) (s : Sg), i + j = W.length → j < fuel → MB s W → (∀ x, x < i → s.1 465 x = W.getD x 0) → ∃ s', fX9_write_70 462 fuel s (nI i) = some (nI W.length, s') ∧ s'.2 = s.2 ∧ (∀ x, x ≠ 462 → x ≠ 465 → s'.1 x = s.1 x) ∧ (∀ x, x ≠ 5 → s'.1 462 x = s.1 462 x) ∧ s'.1 462 5 = nI W.length ∧ ∀ x, x < W.length → s'.1 465 x = W.getD x 0 := by
  intro j
  induction j with
  | zero =>
    intro i fuel s e hf hb h
    match fuel, hf with
    | f + 1, _ =>
      have ei : i = W.length := by omega
      have m25 : s.1 462 25 = nI W.length := by rw [hb.1, show min W.length 400 = W.length by omega]
      refine ⟨su s 462 5 (nI W.length), ?_, rfl, fun x a b => su_ne a, fun x a => by rw [su_at, if_neg (fun w => a w.2)], by rw [su_at, if_pos ⟨rfl, rfl⟩], fun x hx => by rw [su_ne (by omega)]; exact h x (by omega)⟩
      rw [fX9_write_70, m25, ei, if_pos (by rw [j_le]; exact Int.le_refl _), j_nm, su_at, if_pos ⟨rfl, rfl⟩]
  | succ j ih =>
    intro i fuel s e hf hb h
    match fuel, hf with
    | f + 1, hf =>
      have m25 : s.1 462 25 = nI W.length := by rw [hb.1, show min W.length 400 = W.length by omega]
      have e475 : s.1 475 i = W.getD i 0 := hb.2 i (by omega) (by omega)
      obtain ⟨w1, hw1⟩ : ∃ w1 : Sg, w1 = su s 465 i (W.getD i 0) := ⟨_, rfl⟩
      obtain ⟨s', a1, a2, a3, a4, a5, a6⟩ := ih (i + 1) f w1 (by omega) (by omega) ⟨by rw [hw1, su_ne (by omega)]; exact hb.1, fun x hx h4 => by rw [hw1, su_ne (by omega)]; exact hb.2 x hx h4⟩ (fun x hx => by
        rw [hw1, su_at]
        by_cases y : x = i
        · rw [if_pos ⟨rfl, y⟩, y]
        · rw [if_neg (fun w => y w.2)]
          exact h x (by omega))
      refine ⟨s', ?_, by rw [a2, hw1]; rfl, fun x b b2 => by rw [a3 x b b2, hw1, su_ne b2], fun x b => by rw [a4 x b, hw1, su_ne (by omega)], a5, a6⟩
      rw [fX9_write_70, m25, if_neg (by rw [j_le, j_nI (by omega), j_nI (by omega)]; omega), if_pos (j_ckn (by omega) (by decide)), if_pos (j_ckn (by omega) (by decide)), j_cl _ (by omega), show (462 + 3 : Nat) = 465 from rfl, show (462 + 13 : Nat) = 475 from rfl, e475, ← hw1, j_nm, j_s]
      exact a1
theorem c_write (h : RR σ) (p : Int32) : PI (fL_write σ p 476 1) (fun s => fX9_write s 462 p) := by
  obtain ⟨S, l, c, m, tx⟩ := h
  have h1 := c.1
  have hS := c.2.2.1
  cases q : v_we (S_pl S) p.toInt
  · obtain ⟨s2, hs2⟩ : ∃ s2 : Sg, s2 = su (su σ 462 25 0) 462 3 1 := ⟨_, rfl⟩
    have x2 : ∀ x, x ≠ 462 → s2.1 x = σ.1 x := fun x hx => by rw [hs2, su_ne hx, su_ne hx]
    have j2 : ∀ j, j ≠ 3 → j ≠ 25 → s2.1 462 j = σ.1 462 j := fun j a b => by rw [hs2, su_at, if_neg (by omega), su_at, if_neg (by omega)]
    refine ⟨1, σ, 0, s2, ?_, ?_, by rw [hs2, su_at, if_pos ⟨rfl, rfl⟩], ⟨S, l, c.c (fun x hx => x2 x (by omega)), m.c (j2 2 (by omega) (by omega)) (x2 463 (by omega)) (x2 464 (by omega)), tx.c (by rw [x2 438 (by omega)]) (x2 439 (by omega)) (j2 5 (by omega) (by omega)) (x2 465 (by omega))⟩, fun z => absurd z (by decide)⟩
    · unfold fL_write fX8_write
      rw [s_reqW, h1, q]
      rfl
    · show fX9_write σ 462 p = _
      unfold fX9_write fX9_write_37 fX9_write_60
      rw [m_isW m.2.2.1, j_b, q, j_nm, if_neg Bool.false_ne_true, if_pos (show b2i false = 0 from rfl), rf1, j_b, hs2]
      rfl
  · obtain ⟨k, hk, hk5, -⟩ := v_we_n q
    obtain ⟨d, wn, hI⟩ := hS.2.2.2.2.1
    obtain ⟨σ4, W, a1, a2, a3, a4, a5, a6⟩ := s_compose h1 hI hk hk5
    have e120 : (120 : Int32).toInt = 120 := rfl
    have len4 : σ4.1 (459 + 1) 1 = nI W.length := a3.1
    have le : (nI W.length ≤ (120 : Int32)) ↔ W.length ≤ 120 := by
      rw [j_le, j_nI (by omega), e120]
      omega
    have c4 : ∀ x, (x < 460 ∨ 461 < x) → σ4.1 x = σ.1 x := fun x hx => a2.2 x hx
    -- the reference's part, from any state that the class leaves
    have ref : ∀ s0 : Sg, s0.1 463 = σ.1 463 → ∃ s', (∀ K : Sg → Option (Int32 × Sg), ((fX9_window (su s0 462 25 0) 462 p 5 1).bind fun r3 => if r3 = (-1) then K (su s0 462 25 0) else (fX9_window (su s0 462 25 0) 462 p 5 1).bind fun r4 => (fX9_writesTree (su s0 462 25 0) 462 r4).bind fun σ5 => K σ5) = K s') ∧ Fr s0 s' ∧ MB s' W := fun s0 e63 => by
      obtain ⟨s', b1, b2, b3⟩ := a6 (su s0 462 25 0) (by rw [su_ne (by omega), e63]; exact m.2.2.1) ⟨by rw [su_at, if_pos ⟨rfl, rfl⟩]; rfl, fun i hi => absurd hi (Nat.not_lt_zero _)⟩
      exact ⟨s', b1, Fr.tr (s1 := su s0 462 25 0) ⟨rfl, fun x a b => su_ne a, fun j a => by rw [su_at, if_neg (fun w => a w.2)]⟩ b2, b3⟩
    have isw : ∀ s0 : Sg, s0.1 463 = σ.1 463 → fX9_isWindow s0 462 p = some true := fun s0 e63 => by
      rw [m_isW (V := S_pl S) (X := fun _ => false) (by rw [e63]; exact m.2.2.1), q]
    have pre : ∀ s0 s', s0.1 463 = σ.1 463 → (∀ K : Sg → Option (Int32 × Sg), ((fX9_window (su s0 462 25 0) 462 p 5 1).bind fun r3 => if r3 = (-1) then K (su s0 462 25 0) else (fX9_window (su s0 462 25 0) 462 p 5 1).bind fun r4 => (fX9_writesTree (su s0 462 25 0) 462 r4).bind fun σ5 => K σ5) = K s') → MB s' W → fX9_write s0 462 p = fX9_write_60 462 s' (if W.length ≤ 120 then 0 else 2) := fun s0 s' e63 b1 b3 => by
      have n1 : ¬ b2i true = 0 := by decide
      unfold fX9_write
      rw [isw s0 e63, j_b, j_nm, if_pos rfl, b1 (fun σ5 => fX9_write_37 462 σ5 (b2i true))]
      unfold fX9_write_37
      rw [if_neg n1, b3.1]
      by_cases z : W.length ≤ 120
      · rw [if_pos z, if_pos (by rw [j_le, j_nI (by omega), e120]; omega)]
      · rw [if_neg z, if_neg (by rw [j_le, j_nI (by omega), e120]; omega)]
    by_cases z : W.length ≤ 120
    · -- it is written
      obtain ⟨w5, b1, b2, b3⟩ := s_copyRow (σ := σ4) (c0 := 461) (c1 := 439) (n := 120) (by decide)
      obtain ⟨w6, hw6⟩ : ∃ w6 : Sg, w6 = su w5 438 1 (nI W.length) := ⟨_, rfl⟩
      have l5 : w5.1 (459 + 1) 1 = nI W.length := by rw [b2.2 (459 + 1) (by omega)]; exact len4
      have l6 : w6.1 438 1 = nI W.length := by rw [hw6, su_at, if_pos ⟨rfl, rfl⟩]
      have cp : fX5_copyFrom σ4 438 (459 + 1) = some w6 := by
        unfold fX5_copyFrom
        rw [show (459 + 1 + 1 : Nat) = 461 from rfl, show (438 + 1 : Nat) = 439 from rfl, b1, j_b, l5, j_nm, hw6]
      have c6 : ∀ x, x ≠ 438 → x ≠ 439 → x ≠ 460 → x ≠ 461 → w6.1 x = σ.1 x := fun x h1 h2 h3 h4 => by rw [hw6, su_ne h1, b2.2 x (by omega), c4 x (by omega)]
      have t6 : ∀ i, i < W.length → w6.1 439 i = W.getD i 0 := fun i hi => by rw [hw6, su_ne (by omega), b3 i (by omega), a3.2 i hi (by omega)]
      obtain ⟨s0, hs0⟩ : ∃ s0 : Sg, s0 = sul w6 476 0 (nI W.length).toInt64 := ⟨_, rfl⟩
      have s01 : s0.1 = w6.1 := by rw [hs0]; rfl
      have e63 : s0.1 463 = σ.1 463 := by rw [s01]; exact c6 463 (by omega) (by omega) (by omega) (by omega)
      obtain ⟨s', d1, d2, d3⟩ := ref s0 e63
      obtain ⟨s3, hs3⟩ : ∃ s3 : Sg, s3 = su s' 462 3 0 := ⟨_, rfl⟩
      obtain ⟨s4, g1, g2, g3, g4, g5, g6⟩ := m_w70 z W.length 0 FU s3 (by omega) (by
        have fu : FU = 6000 := rfl
        omega) ⟨by rw [hs3, su_at, if_neg (by omega)]; exact d3.1, fun i hi h4 => by rw [hs3, su_ne (by omega)]; exact d3.2 i hi h4⟩ (fun x hx => absurd hx (by omega))
      have x4 : ∀ x, x ≠ 438 → x ≠ 439 → x ≠ 460 → x ≠ 461 → x ≠ 462 → x ≠ 465 → x ≠ 475 → s4.1 x = σ.1 x := fun x q1 q2 q3 q4 q5 q6 q7 => by
        rw [g3 x q5 q6, hs3, su_ne q5, d2.2.1 x q5 q7, s01, c6 x q1 q2 q3 q4]
      have y4 : ∀ x, (x = 438 ∨ x = 439) → s4.1 x = w6.1 x := fun x hx => by
        rw [g3 x (by omega) (by omega), hs3, su_ne (by omega), d2.2.1 x (by omega) (by omega), s01]
      have k4 : ∀ j, j ≠ 5 → j ≠ 3 → j ≠ 25 → s4.1 462 j = σ.1 462 j := fun j q1 q2 q3 => by
        rw [g4 j q1, hs3, su_at, if_neg (by omega), d2.2.2 j q3, s01, c6 462 (by omega) (by omega) (by omega) (by omega)]
      refine ⟨0, s0, nI W.length, s4, ?_, ?_, ?_, ⟨S, l, c.c (fun x hx => x4 x (by omega) (by omega) (by omega) (by omega) (by omega) (by omega) (by omega)), m.c (k4 2 (by omega) (by omega) (by omega)) (x4 463 (by omega) (by omega) (by omega) (by omega) (by omega) (by omega) (by omega)) (x4 464 (by omega) (by omega) (by omega) (by omega) (by omega) (by omega) (by omega)), ⟨W.length, z, by rw [y4 438 (by omega)]; exact l6, g5, fun i hi => ?_⟩⟩, fun _ => ?_⟩
      · unfold fL_write fX8_write fX5_length
        rw [s_reqW, h1, q, j_b, if_pos rfl, j_xl, a1, j_b, j_b, len4, if_pos (le.mpr z), cp, j_b, j_b, l6, j_b, j_xl, if_pos (by decide), j_nm, hs0]
        rfl
      · show fX9_write s0 462 p = _
        rw [pre s0 s' e63 d1 d3, if_pos z]
        unfold fX9_write_60
        rw [rf0, j_b, ← hs3, if_neg (show ¬ ((false, s3) : Bool × Sg).1 = true from Bool.false_ne_true)]
        dsimp only
        rw [show (0 : Int32) = nI 0 from rfl]
        exact g1
      · rw [g4 3 (by omega), hs3, su_at, if_pos ⟨rfl, rfl⟩]
      · have e1 : s4.1 439 i = W.getD i 0 := by rw [y4 439 (by omega)]; exact t6 i hi
        rw [e1, g6 i hi]
        refine ⟨rfl, a5 _ ?_⟩
        rw [List.getD_eq_getElem?_getD, List.getElem?_eq_getElem hi]
        exact List.getElem_mem hi
      · rw [g2, hs3]
        show s'.2 476 0 = _
        rw [d2.1, hs0]
        rfl
    · -- too long
      have e63 : σ4.1 463 = σ.1 463 := c4 463 (by omega)
      obtain ⟨s', d1, d2, d3⟩ := ref σ4 e63
      obtain ⟨s3, hs3⟩ : ∃ s3 : Sg, s3 = su s' 462 3 2 := ⟨_, rfl⟩
      have x3 : ∀ x, x ≠ 460 → x ≠ 461 → x ≠ 462 → x ≠ 475 → s3.1 x = σ.1 x := fun x q1 q2 q3 q4 => by
        rw [hs3, su_ne q3, d2.2.1 x q3 q4, c4 x (by omega)]
      have k3 : ∀ j, j ≠ 3 → j ≠ 25 → s3.1 462 j = σ.1 462 j := fun j q1 q2 => by
        rw [hs3, su_at, if_neg (by omega), d2.2.2 j q2, c4 462 (by omega)]
      refine ⟨2, σ4, 0, s3, ?_, ?_, by rw [hs3, su_at, if_pos ⟨rfl, rfl⟩], ⟨S, l, c.c (fun x hx => x3 x (by omega) (by omega) (by omega) (by omega)), m.c (k3 2 (by omega) (by omega)) (x3 463 (by omega) (by omega) (by omega) (by omega)) (x3 464 (by omega) (by omega) (by omega) (by omega)), tx.c (by rw [x3 438 (by omega) (by omega) (by omega) (by omega)]) (x3 439 (by omega) (by omega) (by omega) (by omega)) (k3 5 (by omega) (by omega)) (x3 465 (by omega) (by omega) (by omega) (by omega))⟩, fun y => absurd y (by decide)⟩
      · unfold fL_write fX8_write fX5_length
        rw [s_reqW, h1, q, j_b, if_pos rfl, j_xl, a1, j_b, j_b, len4, if_neg (fun y => z (le.mp y)), j_b]
        rfl
      · show fX9_write σ4 462 p = _
        rw [pre σ4 s' e63 d1 d3, if_neg z]
        unfold fX9_write_60
        rw [rf2, j_b, if_pos rfl, hs3]
end RB5
