theorem q_b {α β : Type} (a : α) (f : α → Option β) : Option.bind (some a) f = f a := Eq.trans rfl rfl
theorem q_l {α β : Type} (v : α) (h : Nat → Option β) (f : α → Option β) : xcat (.inl v) h f = f v := Eq.trans rfl rfl
theorem q_r {α β : Type} (e : Nat) (h : Nat → Option β) (f : α → Option β) : xcat (.inr e) h f = h e := Eq.trans rfl rfl
theorem q_nm {α β : Type} (x : α) (f : α → β) : nm x f = f x := Eq.trans rfl rfl
theorem m_res {σ : Sg} {p q : Int32} (h216 : σ.1 463 216 = 1) (h2 : σ.1 462 2 = 0) (h3 : ∀ l : Int32, 0 ≤ l.toInt → l.toInt < 12 → σ.1 463 (6 * l.toInt.toNat + 3) = -1) (hp : (10 : Int32).toInt ≤ p.toInt ∧ p.toInt ≤ (400 : Int32).toInt) (hq : (10 : Int32).toInt ≤ q.toInt ∧ q.toInt ≤ (400 : Int32).toInt) : ∃ σ', fX9_resize σ 462 0 p q = some (0, σ') ∧ σ'.1 462 3 = 0 ∧ σ'.2 = σ.2 := by
  have hw : fX9_isWindow σ 462 0 = some true := by
    unfold fX9_isWindow
    rw [f_wt (by decide), o_b, if_pos rfl, (m_w0 _).1, o_b, if_pos h216]
  have e0 : fX9_refused σ 462 0 = some (false, su σ 462 3 0) := f_r0 _
  obtain ⟨σ8, s1, s2, s3, s4⟩ := m_sv (σ := su σ 462 3 0) h2
  have s5 : σ8.1 462 3 = 0 := s2
  have s6 : σ8.1 463 = σ.1 463 := s4
  have s7 : σ8.2 = σ.2 := s3
  obtain ⟨σ9, t1, t2, t3, t4⟩ : ∃ σ9, fX9_puts σ8 462 0 3 p = some σ9 ∧ (∀ j, ¬ j = 219 → σ9.1 463 j = σ8.1 463 j) ∧ σ9.1 462 = σ8.1 462 ∧ σ9.2 = σ8.2 := ⟨_, m_puts.1, fun j hj => if_neg hj, rfl, rfl⟩
  obtain ⟨σ10, u1, u2, u3, u4⟩ : ∃ σ10, fX9_puts σ9 462 0 4 q = some σ10 ∧ (∀ j, ¬ j = 220 → σ10.1 463 j = σ9.1 463 j) ∧ σ10.1 462 = σ9.1 462 ∧ σ10.2 = σ9.2 := ⟨_, m_puts.2, fun j hj => if_neg hj, rfl, rfl⟩
  have hr : fX9_placedIn σ10 462 0 = some 0 := by
    unfold fX9_placedIn
    refine m_pi (fun l a b => m_pl a b ?_) 0 0 FU 0 (by decide) (by decide) (by decide)
    rw [u2 _ (by omega), t2 _ (by omega), s6]
    exact h3 l a b
  refine ⟨σ10, ?_, by rw [u3, t3]; exact s5, u4.trans (t4.trans s7)⟩
  simp only [fX9_resize, hw, f_wt hp, f_wt hq, fX9_resize_42, e0, s1, t1, u1, hr, q_b, q_l, q_r, q_nm, if_true, if_false, n_01, n_02, n_10, n_12, n_20, n_21, b_ft, b_1, b_2, e_10, e_20, e_30]
theorem c_res {p q : Int32} (hp : (10 : Int32).toInt ≤ p.toInt ∧ p.toInt ≤ (400 : Int32).toInt) (hq : (10 : Int32).toInt ≤ q.toInt ∧ q.toInt ≤ (400 : Int32).toInt) : ∃ σ', fX8_resize σ0 0 p q = some (.inl 0, σ') ∧ σ'.1 463 216 = 1 ∧ σ'.1 462 2 = 0 ∧ (∀ l : Int32, 0 ≤ l.toInt → l.toInt < 12 → σ'.1 463 (6 * l.toInt.toNat + 3) = -1) := by
  obtain ⟨σ5, k1, k2, -, k3, k4⟩ := f_kr
  obtain ⟨σ6, hm, hm1⟩ : ∃ σ6, fX1_setSize σ5 (1 + 5) 0 p q = some σ6 ∧ (∀ k, ¬ k = 9 → ¬ k = 10 → σ6.1 k = σ5.1 k) := by
    unfold fX1_setSize
    rw [f_put (by decide), o_b, f_put (by decide), o_b, if_pos (by decide), if_pos (by decide)]
    exact ⟨_, rfl, fun k a b => (if_neg b).trans (if_neg a)⟩
  obtain ⟨σ7, hc, hc1, -⟩ := c_comp (σ := σ6) (fun l a b => by rw [hm1 11 (by decide) (by decide)]; exact (k2 l a b).2.2)
  have h19 : σ7.1 19 = σ5.1 19 := (hc1 19 (by decide) (by decide)).trans (hm1 19 (by decide) (by decide))
  have h463 : σ7.1 463 = σ5.1 463 := (hc1 463 (by decide) (by decide)).trans (hm1 463 (by decide) (by decide))
  have h462 : σ7.1 462 = σ5.1 462 := (hc1 462 (by decide) (by decide)).trans (hm1 462 (by decide) (by decide))
  have hpi : fX1_panesIn σ7 (1 + 5) 0 = some 0 := by
    unfold fX1_panesIn
    exact c_pi (fun l a b => by rw [h19]; exact (k2 l a b).2.1) 0 0 FU 0 (by decide) (by decide) (by decide)
  refine ⟨σ7, ?_, by rw [h463]; exact k4, by rw [h462]; exact k3, fun l a b => by rw [h463]; exact (k2 l a b).1⟩
  simp only [fX8_resize, f_rw0, f_rr, if_pos hp, if_pos hq, k1, hm, hc, hpi, q_b, q_l, q_r, q_nm, if_true, if_false, n_01, n_02, n_10, n_12, n_20, n_21, b_ft, b_1, b_2, e_10, e_20, e_30]
theorem one_resize (w p q : Int32) : okc (fL_resize σ0 w p q 476 1) (fun σ => fX9_resize σ 462 w p q) := by
  by_cases h : w = 0
  · subst h
    by_cases h1 : (10 : Int32).toInt ≤ p.toInt ∧ p.toInt ≤ (400 : Int32).toInt
    · by_cases h2 : (10 : Int32).toInt ≤ q.toInt ∧ q.toInt ≤ (400 : Int32).toInt
      · obtain ⟨σ7, k1, k2, k3, k4⟩ := c_res h1 h2
        obtain ⟨σ8, a1, a2, a3⟩ := m_res (σ := sul σ7 476 (0 : Int32).toNatClampNeg (0 : Int32).toInt64) (p := p) (q := q) k2 k3 k4 h1 h2
        refine ⟨0, sul σ7 476 (0 : Int32).toNatClampNeg (0 : Int32).toInt64, 0, σ8, ?_, a1, a2, fun _ => ?_⟩
        · simp only [fL_resize, k1, o_c0, q_b, q_l, q_r, q_nm, if_true, if_false, n_01, n_02, n_10, n_12, n_20, n_21, b_ft, b_1, b_2, e_10, e_20, e_30]
        · have e9 : σ8.2 476 (0 : Int32).toNatClampNeg = (0 : Int32).toInt64 := by
            rw [a3]
            rfl
          rw [e9]
          decide
      · refine ⟨2, σ0, 0, su σ0 462 3 2, ?_, ?_, rfl, fun h => absurd h (by decide)⟩
        · simp only [fL_resize, fX8_resize, f_rw0, f_rr, if_pos h1, if_neg h2, q_b, q_l, q_r, q_nm, if_true, if_false, n_01, n_02, n_10, n_12, n_20, n_21, b_ft, b_1, b_2, e_10, e_20, e_30]
        · simp only [fX9_resize_42, fX9_resize_37, fX9_resize, f_iw0, f_wt h1, f_wf h2, f_r2, q_b, q_l, q_r, q_nm, if_true, if_false, n_01, n_02, n_10, n_12, n_20, n_21, b_ft, b_1, b_2, e_10, e_20, e_30]
    · refine ⟨2, σ0, 0, su σ0 462 3 2, ?_, ?_, rfl, fun h => absurd h (by decide)⟩
      · simp only [fL_resize, fX8_resize, f_rw0, f_rr, if_neg h1, q_b, q_l, q_r, q_nm, if_true, if_false, n_01, n_02, n_10, n_12, n_20, n_21, b_ft, b_1, b_2, e_10, e_20, e_30]
      · simp only [fX9_resize_42, fX9_resize_37, fX9_resize, f_iw0, f_wf h1, f_r2, q_b, q_l, q_r, q_nm, if_true, if_false, n_01, n_02, n_10, n_12, n_20, n_21, b_ft, b_1, b_2, e_10, e_20, e_30]
  · refine ⟨1, σ0, 0, su σ0 462 3 1, ?_, ?_, rfl, fun h => absurd h (by decide)⟩
    · simp only [fL_resize, fX8_resize, f_rw h, q_b, q_l, q_r, q_nm, if_true, if_false, n_01, n_02, n_10, n_12, n_20, n_21, b_ft, b_1, b_2, e_10, e_20, e_30]
    · simp only [fX9_resize_42, fX9_resize_37, fX9_resize, f_iw h, f_r1, q_b, q_l, q_r, q_nm, if_true, if_false, n_01, n_02, n_10, n_12, n_20, n_21, b_ft, b_1, b_2, e_10, e_20, e_30]

