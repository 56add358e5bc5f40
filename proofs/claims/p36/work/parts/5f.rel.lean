section
/-! THE RELATION: read (21): c_read -/
section RBQ
variable {σ : Sg}
theorem c_read (h : RR σ) : PI (fL_read σ 476 1) (fun s => fX9_read s 462) := by
  obtain ⟨S, l, cr, mr, tx⟩ := h
  obtain ⟨n, c, T, e1, e2, e3, e4⟩ := tx.tt
  have n120 := T.1
  have hS := cr.2.2.1
  obtain ⟨d, wn, hI⟩ := id hS.2.2.2.2.1
  obtain ⟨ok, σ1, p1, m1, a1, a2, a3, a4, a5⟩ := s_fault cr T e1 e2 (m_HA T mr.2 hI)
  have c4 : ∀ x, 459 ≤ x → σ1.1 x = σ.1 x := fun x hx => a2.2 x (by omega)
  by_cases z : ok = true ∧ p1 = n
  · rw [if_pos z] at a1
    have par := a4 z.1 z.2
    obtain ⟨V', hV'⟩ : ∃ V' : VW, V' = pv σ1 443 := ⟨_, rfl⟩
    rw [← hV', z.2] at par
    have cr1 : CR σ1 S l := cr.c (fun x hx => a2.2 x (by omega))
    obtain ⟨σ2, b1, b2, b3⟩ := s_kr cr1
    have x2 := b3.1
    have hO := hS.2.2.2.2.2.1
    obtain ⟨σ3, d1, d2, d3⟩ := s_plcopy (σ := σ2) (b := 1 + 5) (c := 440 + 3) (by omega)
    have v3 : pv σ3 (1 + 5) = V' := by
      have : pv σ3 (1 + 5) = pv σ2 (440 + 3) := d3
      rw [this, hV']
      exact pv_c (fun j h1 h2 => b2 _ (by omega))
    have st3 := stv_pl (σ := σ2) (σ' := σ3) (b := 1) d2
    rw [x2, v3] at st3
    have od3 : odv σ3 (1 + 3) = S_fo S := congrArg S_fo st3
    obtain ⟨σ4, f1, f2, f3⟩ := s_settleFocus (σ := σ3) (b := 1) (by rw [od3]; exact hO.di (by decide)) (by rw [od3]; exact hO.pn)
    rw [od3, v3] at f3
    have st4 := stv_fo (σ := σ3) (σ' := σ4) (b := 1) f2
    rw [st3, f3] at st4
    have hv : stv σ4 1 = pfS S (fc (plc V') (S_fo S) 12) V' := st4
    -- the reference, for its part alone: the new layout is one
    obtain ⟨hSI, -⟩ := m_read (s0 := σ) hS T par mr.2 e3 e4
    have o4 : ∀ x, x = 0 ∨ 71 ≤ x → σ4.1 x = σ2.1 x := fun x hx => by
      rw [f2.2 x (by omega), d2.2 x (by omega)]
    obtain ⟨σ5, g1, g2, g3⟩ := b3.mod o4 hv hSI
    have v5 : pv σ5 (1 + 5) = V' := congrArg S_pl g3.1
    have t0 : (0 : Int32).toInt = 0 := jz0
    obtain ⟨s0, hs0⟩ : ∃ s0 : Sg, s0 = sul σ5 476 0 (oI (v_pi V' 0)).toInt64 := ⟨_, rfl⟩
    have s01 : s0.1 = σ5.1 := by rw [hs0]; rfl
    have k5 : ∀ x, 459 ≤ x → s0.1 x = σ.1 x := fun x hx => by
      rw [s01, g2.2 x (by omega), o4 x (by omega), b2 x (by omega), c4 x hx]
    have k43 : ∀ x, (x = 438 ∨ x = 439) → s0.1 x = σ.1 x := fun x hx => by
      rw [s01, g2.2 x (by omega), o4 x (by omega), b2 x (by omega), a2.2 x (by omega)]
    -- it reads twice
    obtain ⟨s5, h1, h2, h3, h4⟩ := g_start (s0 := s0) (n := n) (c := c) (by rw [k5 462 (by omega)]; exact e3) (fun i hi => by rw [k5 465 (by omega)]; exact e4 i hi) 0
    obtain ⟨s6, i1, i2⟩ := a5 s5 _ (by rw [h4, k5 463 (by omega)]) h2
    rw [if_pos z] at i1
    have fy6 : Fy1 s0 s6 := h3.tr (Fy1.fk i2)
    have r6 : s6.1 463 = σ.1 463 := by rw [i2.2.1 463 (by omega) (by omega) (by omega) (by omega), h4, k5 463 (by omega)]
    have mr6 : MR s6 S l := mr.c (by rw [fy6.2.2 2 (by omega), k5 462 (by omega)]) r6 (by rw [fy6.2.1 464 (by omega) (by omega) (by omega) (by omega) (by omega), k5 464 (by omega)])
    obtain ⟨s8, q1, q2, q3, q4⟩ := m_kr (mr6.s3 (k := 0))
    have y8 : ∀ x, x < 462 ∨ x = 465 → s8.1 x = s0.1 x := fun x hx => by
      have : s8.1 x = (su s6 462 3 0).1 x := by
        rcases hx with hx | hx
        · exact q2.1 x hx
        · rw [hx]
          exact q2.2.1
      rw [this, su_ne (by omega), fy6.2.1 x (by omega) (by omega) (by omega) (by omega) (by omega)]
    have y85 : s8.1 462 5 = nI n := by
      rw [q2.2.2.1, su_at, if_neg (by omega), fy6.2.2 5 (by omega), k5 462 (by omega)]
      exact e3
    have y83 : s8.1 462 3 = 0 := by
      rw [q2.2.2.2.2, su_at, if_pos ⟨rfl, rfl⟩]
    have y86 : s8.2 476 = s0.2 476 := by
      rw [q2.2.2.2.1]
      show s6.2 476 = _
      rw [fy6.1]
    obtain ⟨-, s9, w1, w2, w3⟩ := m_read (s0 := s8) hS T par q4.2 y85 (fun i hi => by rw [y8 465 (by omega), k5 465 (by omega)]; exact e4 i hi)
    have z9 : ∀ x, x < 462 ∨ x = 465 → s9.1 x = s0.1 x := fun x hx => by
      rw [w3.2.1 x (by omega) (by omega) (by omega) (by omega) (by omega), y8 x hx]
    have z95 : s9.1 462 5 = σ.1 462 5 := by rw [w3.2.2 5 (by omega), y85, e3]
    refine ⟨0, s0, oI (v_pi V' 0), s9, ?_, ?_, ?_, ⟨_, _, g3.c (fun x hx => by rw [z9 x (by omega), s01]), ⟨Mh.c q4.1 (w3.2.2 2 (by omega)) (w3.2.1 464 (by omega) (by omega) (by omega) (by omega) (by omega)), w2⟩, tx.c (by rw [z9 438 (by omega), k43 438 (by omega)]) (by rw [z9 439 (by omega), k43 439 (by omega)]) z95 (by rw [z9 465 (by omega), k5 465 (by omega)])⟩, fun _ => ?_⟩
    · unfold fL_read fX8_read
      rw [a1, j_b, if_pos rfl, b1, j_b, d1, j_b, f1, j_b, g1, j_b, s_panesIn, v5, t0, j_b, j_b, j_xl, if_pos (by decide), j_nm, hs0]
      rfl
    · show fX9_read s0 462 = _
      unfold fX9_read
      rw [h1, i1, j_b]
      dsimp only
      rw [if_pos rfl]
      unfold fX9_read_15
      rw [rf0, j_b, if_neg (show ¬ ((false, su s6 462 3 0) : Bool × Sg).1 = true from Bool.false_ne_true)]
      dsimp only
      rw [q1, j_b]
      exact w1
    · rw [w3.2.2 3 (by omega)]
      exact y83
    · rw [w3.1, y86, hs0]
      show (sul σ5 476 0 (oI (v_pi V' 0)).toInt64).2 476 0 = _
      show vp_updL (σ5.2 476) 0 (oI (v_pi V' 0)).toInt64 0 = _
      unfold vp_updL
      rw [if_pos rfl]
  · rw [if_neg z] at a1
    have m1n : nI p1 ≠ -1 := nI_m1 (by omega)
    obtain ⟨s5, h1, h2, h3, h4⟩ := g_start (s0 := σ1) (n := n) (c := c) (by rw [c4 462 (by omega)]; exact e3) (fun i hi => by rw [c4 465 (by omega)]; exact e4 i hi) 0
    obtain ⟨s6, i1, i2⟩ := a5 s5 _ (by rw [h4, c4 463 (by omega)]) h2
    rw [if_neg z] at i1
    have fy6 : Fy1 σ1 s6 := h3.tr (Fy1.fk i2)
    obtain ⟨s7, hs7⟩ : ∃ s7 : Sg, s7 = su s6 462 3 1 := ⟨_, rfl⟩
    have x7 : ∀ x, x ≠ 462 → s7.1 x = s6.1 x := fun x hx => by rw [hs7, su_ne hx]
    have j7 : ∀ j, j < 15 → j ≠ 3 → s7.1 462 j = σ.1 462 j := fun j h1 h3 => by
      rw [hs7, su_at, if_neg (fun w => h3 w.2), fy6.2.2 j (by omega), c4 462 (by omega)]
    have y7 : ∀ x, x < 462 ∨ x = 464 ∨ x = 465 → s7.1 x = σ1.1 x := fun x hx => by
      rw [x7 x (by omega), fy6.2.1 x (by omega) (by omega) (by omega) (by omega) (by omega)]
    have r7 : s7.1 463 = σ.1 463 := by rw [x7 463 (by omega), i2.2.1 463 (by omega) (by omega) (by omega) (by omega), h4, c4 463 (by omega)]
    have u7 : ∀ x, x < 440 → s7.1 x = σ.1 x := fun x hx => by rw [y7 x (by omega), a2.2 x (by omega)]
    refine ⟨1, σ1, 0, s7, ?_, ?_, by rw [hs7, su_at, if_pos ⟨rfl, rfl⟩], ⟨S, l, cr.c (fun x hx => u7 x (by omega)), mr.c (j7 2 (by omega) (by omega)) r7 (by rw [y7 464 (by omega), c4 464 (by omega)]), tx.c (by rw [u7 438 (by omega)]) (u7 439 (by omega)) (j7 5 (by omega) (by omega)) (by rw [y7 465 (by omega), c4 465 (by omega)])⟩, fun z => absurd z (by decide)⟩
    · unfold fL_read fX8_read
      rw [a1, j_b, if_neg m1n, j_b]
      rfl
    · show fX9_read σ1 462 = _
      unfold fX9_read
      rw [h1, i1, j_b]
      dsimp only
      rw [if_neg m1n]
      unfold fX9_read_15
      rw [rf1, j_b, if_pos rfl, hs7]
end RBQ
end
