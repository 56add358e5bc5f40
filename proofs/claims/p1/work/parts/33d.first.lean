theorem c_fill1 : ∀ (n : Nat) (σ : Sg) (l : Int32), 0 ≤ l.toInt → 23 - l.toInt < n → 0 < n → ∃ σ', fJ7_fill_53178_5 (422 + 1) 23 n σ 0 l (nI 23) = some σ' ∧ (∀ k, ¬ k = 423 → σ'.1 k = σ.1 k) ∧ σ'.2 = σ.2 := by
  intro n
  have e23 : (nI 23).toInt = 23 := by decide
  induction n with
  | zero => intro σ l h0 h1 h2; omega
  | succ n ih =>
    intro σ l h0 h1 _
    rw [fJ7_fill_53178_5]
    by_cases h : nI 23 ≤ l
    · rw [if_pos h]
      exact ⟨σ, rfl, fun _ _ => rfl, rfl⟩
    · rw [if_neg h]
      have h2 := mt i_le.mpr h
      rw [if_pos (i_ck h0 (by omega)), o_nm]
      have h4 := i_suc (l := l) (m := 23) h0 (by omega) (by omega)
      obtain ⟨σ', a1, a2, a3⟩ := ih (su σ (422 + 1) l.toNatClampNeg 0) (l + 1) (by omega) (by omega) (by omega)
      exact ⟨σ', a1, fun k hk => (a2 k hk).trans (if_neg hk), a3⟩
theorem c_ln (σ : Sg) (n : Nat) : fX2_listNodes_12 422 (1 + 5) (n + 1) (su σ 422 8 0) 0 = some (su σ 422 8 0) := by
  rw [fX2_listNodes_12, if_neg (by decide)]
  exact if_pos (show (0 : Int32) ≤ 0 by decide)
theorem c_147 (σ : Sg) (n : Nat) : fX2_computeWindow_147 422 1 (n + 1) (su σ 422 8 0) 0 = some (su σ 422 8 0) := by
  rw [fX2_computeWindow_147]
  exact if_pos (show (0 : Int32) ≤ 0 by decide)
theorem c_27 (σ : Sg) (n : Nat) (l : Int32) : fX2_computeWindow_27 422 1 (n + 1) (su σ 422 8 0) l (-1) (-1) = some (su σ 422 8 0) := by
  rw [fX2_computeWindow_27, if_pos (by decide)]
  have e : ¬ (0 ≤ (-1 : Int32).toInt ∧ (-1 : Int32).toInt < ((23 : Nat) : Int)) := by decide
  simp only [f_at (n := 5) (by decide), f_put (n := 23) (by decide), o_b, if_neg e]
  exact c_147 σ 5999
theorem c_win {σ : Sg} (hr : ∀ l : Int32, 0 ≤ l.toInt → l.toInt < 12 → σ.1 11 l.toInt.toNat = -1) (l : Int32) : fX2_computeWindow σ 422 1 l = some (su σ 422 8 0) := by
  have hro : fX1_rootOf σ (1 + 5) l = some (-1) := by
    unfold fX1_rootOf
    rw [f_at (by decide), o_b]
    by_cases h : 0 ≤ l.toInt ∧ l.toInt < ((5 : Nat) : Int)
    · rw [if_pos h]
      exact congrArg some (hr l h.1 (by omega))
    · rw [if_neg h]
  have hln : fX2_listNodes σ 422 (1 + 5) (-1) = some (su σ 422 8 0) := by
    unfold fX2_listNodes fX2_list
    rw [o_nm, if_pos rfl, o_b]
    exact c_ln σ 5999
  unfold fX2_computeWindow
  rw [hro, o_b, hln, o_b, o_nm, show (su σ 422 8 0).1 422 8 - 1 = (-1 : Int32) from by show (0 : Int32) - 1 = -1; decide]
  exact c_27 σ 5999 l
theorem c_10 : ∀ (n : Nat) (σ : Sg) (l : Int32), (∀ l : Int32, 0 ≤ l.toInt → l.toInt < 12 → σ.1 11 l.toInt.toNat = -1) → 0 ≤ l.toInt → 5 - l.toInt < n → 0 < n → ∃ σ', fX2_compute_10 422 1 n σ l = some σ' ∧ (∀ k, ¬ k = 422 → σ'.1 k = σ.1 k) ∧ σ'.2 = σ.2 := by
  intro n
  have e5 : (5 : Int32).toInt = 5 := by decide
  induction n with
  | zero => intro σ l hr h0 h1 h2; omega
  | succ n ih =>
    intro σ l hr h0 h1 _
    rw [fX2_compute_10]
    by_cases h : (5 : Int32) ≤ l
    · rw [if_pos h]
      exact ⟨σ, rfl, fun _ _ => rfl, rfl⟩
    · rw [if_neg h]
      have h2 := mt i_le.mpr h
      rw [c_win hr, o_b]
      have h4 := i_suc (l := l) (m := 5) h0 (by omega) (by omega)
      obtain ⟨σ', a1, a2, a3⟩ := ih (su σ 422 8 0) (l + 1) hr (by omega) (by omega) (by omega)
      exact ⟨σ', a1, fun k hk => (a2 k hk).trans (if_neg hk), a3⟩
theorem c_comp {σ : Sg} (hr : ∀ l : Int32, 0 ≤ l.toInt → l.toInt < 12 → σ.1 11 l.toInt.toNat = -1) : ∃ σ', fX2_compute σ 422 1 = some σ' ∧ (∀ k, ¬ k = 422 → ¬ k = 423 → σ'.1 k = σ.1 k) ∧ σ'.2 = σ.2 := by
  obtain ⟨σ1, a1, a2, a3⟩ := c_fill1 FU σ 0 (by decide) (by decide) (by decide)
  obtain ⟨σ2, b1, b2, b3⟩ := c_10 FU σ1 0 (fun l h0 h1 => by rw [a2 11 (by decide)]; exact hr l h0 h1) (by decide) (by decide) (by decide)
  refine ⟨σ2, ?_, fun k h1 h2 => (b2 k h1).trans (a2 k h2), b3.trans a3⟩
  unfold fX2_compute fJ7_fill_53178
  rw [o_nm, a1, o_b]
  exact b1
theorem c_pi {σ : Sg} (hr : ∀ l : Int32, 0 ≤ l.toInt → l.toInt < 12 → σ.1 19 l.toInt.toNat = -1) (w v : Int32) : ∀ (n : Nat) (l : Int32), 0 ≤ l.toInt → 12 - l.toInt < n → 0 < n → fX1_panesIn_4 σ (1 + 5) n w v l = some v := by
  intro n
  have e12 : (12 : Int32).toInt = 12 := by decide
  induction n with
  | zero => intro l h0 h1 h2; omega
  | succ n ih =>
    intro l h0 h1 _
    rw [fX1_panesIn_4]
    by_cases h : (12 : Int32) ≤ l
    · rw [if_pos h]
    · rw [if_neg h]
      have h2 := mt i_le.mpr h
      have hg : fX1_groupOf σ (1 + 5) l = some (-1) := by
        unfold fX1_groupOf
        rw [f_at (by decide), o_b, if_pos (show 0 ≤ l.toInt ∧ l.toInt < ((12 : Nat) : Int) from ⟨h0, by omega⟩)]
        exact congrArg some (hr l h0 (by omega))
      rw [hg, o_b, if_pos rfl]
      unfold fX1_panesIn_37 fX1_panesIn_38
      rw [o_nm, Int32.add_zero]
      have h4 := i_suc (l := l) (m := 12) h0 (by omega) (by omega)
      exact ih (l + 1) (by omega) (by omega) (by omega)
theorem m_pi {σ : Sg} (hr : ∀ l : Int32, 0 ≤ l.toInt → l.toInt < 12 → fX9_isPlaced σ 462 l = some false) (w v : Int32) : ∀ (n : Nat) (l : Int32), 0 ≤ l.toInt → 12 - l.toInt < n → 0 < n → fX9_placedIn_4 σ 462 n w v l = some v := by
  intro n
  have e12 : (12 : Int32).toInt = 12 := by decide
  induction n with
  | zero => intro l h0 h1 h2; omega
  | succ n ih =>
    intro l h0 h1 _
    rw [fX9_placedIn_4]
    by_cases h : (12 : Int32) ≤ l
    · rw [if_pos h]
    · rw [if_neg h]
      have h2 := mt i_le.mpr h
      rw [hr l h0 (by omega), o_b, if_neg (by decide)]
      unfold fX9_placedIn_37 fX9_placedIn_38
      rw [o_nm, Int32.add_zero]
      have h4 := i_suc (l := l) (m := 12) h0 (by omega) (by omega)
      exact ih (l + 1) (by omega) (by omega) (by omega)
theorem m_pl {σ : Sg} {l : Int32} (h0 : 0 ≤ l.toInt) (h1 : l.toInt < 12) (h : σ.1 463 (6 * l.toInt.toNat + 3) = -1) : fX9_isPlaced σ 462 l = some false := by
  have := i_all (f := fun l => decide (ck ((6 * l) + 3) 921 ∧ ((6 * l) + 3).toNatClampNeg = 6 * l.toInt.toNat + 3)) (n := 12) (by decide +kernel) h0 h1
  obtain ⟨a, b⟩ := of_decide_eq_true this
  unfold fX9_isPlaced fX9_of
  rw [if_pos a, o_b, b, if_pos h]

