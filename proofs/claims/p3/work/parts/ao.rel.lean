/-! THE RELATION: type, clearText, character -/
section RAO
theorem CR.t {σ σ' : Sg} {S : ST} {l : List ST} (h : CR σ S l) (e : ∀ c, c < 438 → σ'.1 c = σ.1 c) : CR σ' S l := h.c e
theorem c_type {σ : Sg} (h : RR σ) (p : Int32) : PI (fL_type σ p 476 1) (fun s => fX9_type s 462 p) := by
  obtain ⟨S, l, c, m, tx⟩ := h
  have hR : RR σ := ⟨S, l, c, m, tx⟩
  obtain ⟨n, n120, t1, t2, t3⟩ := id tx
  have e32 : (32 : Int32).toInt = 32 := rfl
  have e126 : (126 : Int32).toInt = 126 := rfl
  by_cases q : 32 ≤ p.toInt ∧ p.toInt ≤ 126
  · by_cases z : n = 120
    · subst z
      refine pi_no (k := 2) (b := 0) hR ?_ (by decide) ?_
      · unfold fL_type fX8_type fX5_length
        rw [s_reqR, j_b, e32, e126, decide_eq_true q, if_pos rfl, j_xl, j_b, t1, if_neg (by decide)]
        rfl
      · show fX9_type σ 462 p = _
        unfold fX9_type fX9_type_30
        rw [m_within, j_b, e32, e126, decide_eq_true q, if_pos rfl, t2, if_pos (show nI 120 = (120 : Int32) from rfl), rf2]
        rfl
    · have lt : n < 120 := by omega
      have l8 : nI n < 120 := by rw [j_lt, j_nI (by omega)]; show (n : Int) < 120; omega
      obtain ⟨w1, hw1⟩ : ∃ w1 : Sg, w1 = su (su σ 439 n p) 438 1 (nI (n + 1)) := ⟨_, rfl⟩
      have a1 : fX8_type σ p = some (.inl (nI (n + 1)), w1) := by
        unfold fX8_type fX5_length fX5_append
        rw [s_reqR, j_b, e32, e126, decide_eq_true q, if_pos rfl, j_xl, j_b, t1, if_pos l8, show (438 + 1 : Nat) = 439 from rfl, s_putn (by decide) lt, j_b]
        have e : (su σ 439 n p).1 438 1 = nI n := by rw [su_at, if_neg (by omega), t1]
        rw [e, j_s, j_nm, j_b, ← hw1, j_b]
        have : w1.1 438 1 = nI (n + 1) := by rw [hw1, su_at, if_pos ⟨rfl, rfl⟩]
        rw [this]
      have cell : ∀ c, c ≠ 438 → c ≠ 439 → w1.1 c = σ.1 c := fun c h1 h2 => by rw [hw1, su_ne h1, su_ne h2]
      obtain ⟨s1, hs1⟩ : ∃ s1 : Sg, s1 = sul w1 476 0 (nI (n + 1)).toInt64 := ⟨_, rfl⟩
      have s11 : s1.1 = w1.1 := by rw [hs1]; rfl
      obtain ⟨s2, hs2⟩ : ∃ s2 : Sg, s2 = su s1 462 3 0 := ⟨_, rfl⟩
      obtain ⟨s3, hs3⟩ : ∃ s3 : Sg, s3 = su (su s2 465 n p) 462 5 (nI (n + 1)) := ⟨_, rfl⟩
      have f5 : s2.1 462 5 = nI n := by rw [hs2, su_at, if_neg (by omega), s11, cell 462 (by omega) (by omega)]; exact t2
      have G : fX9_type s1 462 p = some (nI (n + 1), s3) := by
        unfold fX9_type fX9_type_30
        have c5 : s1.1 462 5 = nI n := by rw [s11, cell 462 (by omega) (by omega)]; exact t2
        rw [m_within, j_b, e32, e126, decide_eq_true q, if_pos rfl, c5, if_neg (fun y => by rw [j_eq, j_nI (by omega)] at y; have : (120 : Int32).toInt = 120 := rfl; omega), rf0, j_b]
        show (if ck (s1.1 462 5) 120 then _ else none) = _
        have g5 : (su s1 462 3 0).1 462 5 = nI n := by rw [← hs2]; exact f5
        show (if ck ((su s1 462 3 0).1 462 5) 120 then nm (su (su s1 462 3 0) (462 + 3) ((su s1 462 3 0).1 462 5).toNatClampNeg p) (fun σ3 => nm (su σ3 462 5 ((σ3.1 462 5) + 1)) fun σ4 => some (σ4.1 462 5, σ4)) else none) = _
        rw [← hs2, f5, if_pos (j_ckn lt (by decide)), j_nm, j_cl _ (by omega), show (462 + 3 : Nat) = 465 from rfl]
        have e : (su s2 465 n p).1 462 5 = nI n := by rw [su_at, if_neg (by omega)]; exact f5
        rw [e, j_s, j_nm, ← hs3]
        have : s3.1 462 5 = nI (n + 1) := by rw [hs3, su_at, if_pos ⟨rfl, rfl⟩]
        rw [this]
      have c3 : ∀ c, c ≠ 438 → c ≠ 439 → c ≠ 462 → c ≠ 465 → s3.1 c = σ.1 c := fun c h1 h2 h3 h4 => by
        rw [hs3, su_ne h3, su_ne h4, hs2, su_ne h3, s11, cell c h1 h2]
      refine ⟨0, s1, nI (n + 1), s3, ?_, G, ?_, ⟨S, l, c.c (fun x hx => c3 x (by omega) (by omega) (by omega) (by omega)), m.c ?_ (c3 463 (by omega) (by omega) (by omega) (by omega)) (c3 464 (by omega) (by omega) (by omega) (by omega)), ⟨n + 1, by omega, ?_, ?_, fun i hi => ?_⟩⟩, fun _ => ?_⟩
      · unfold fL_type
        rw [a1, j_b, j_xl, if_pos (by decide), j_nm, hs1]
        rfl
      · rw [hs3, su_at, if_neg (by omega), su_ne (by omega), hs2, su_at, if_pos ⟨rfl, rfl⟩]
      · rw [hs3, su_at, if_neg (by omega), su_ne (by omega), hs2, su_at, if_neg (by omega), s11, cell 462 (by omega) (by omega)]
      · rw [hs3, su_ne (by omega), su_ne (by omega), hs2, su_ne (by omega), s11, hw1, su_at, if_pos ⟨rfl, rfl⟩]
      · rw [hs3, su_at, if_pos ⟨rfl, rfl⟩]
      · have v1 : s3.1 439 i = if i = n then p else σ.1 439 i := by
          rw [hs3, su_ne (by omega), su_ne (by omega), hs2, su_ne (by omega), s11, hw1, su_ne (by omega), su_at]
          by_cases w : i = n
          · rw [if_pos ⟨rfl, w⟩, if_pos w]
          · rw [if_neg (fun u => w u.2), if_neg w]
        have v2 : s3.1 465 i = if i = n then p else σ.1 465 i := by
          rw [hs3, su_ne (by omega), su_at]
          by_cases w : i = n
          · rw [if_pos ⟨rfl, w⟩, if_pos w]
          · rw [if_neg (fun u => w u.2), if_neg w, hs2, su_ne (by omega), s11, cell 465 (by omega) (by omega)]
        rw [v1, v2]
        by_cases w : i = n
        · rw [if_pos w, if_pos w]
          exact ⟨rfl, q.1, q.2⟩
        · rw [if_neg w, if_neg w]
          exact t3 i (by omega)
      · rw [hs3, hs2, hs1]
        rfl
  · refine pi_no (k := 1) (b := 0) hR ?_ (by decide) ?_
    · unfold fL_type fX8_type
      rw [s_reqR, j_b, e32, e126, decide_eq_false q]
      rfl
    · show fX9_type σ 462 p = _
      unfold fX9_type fX9_type_30
      rw [m_within, j_b, e32, e126, decide_eq_false q, rf1]
      rfl
/-- a call that throws nothing and changes the object -/
def PS (F : Option (Int32 × Sg)) (G : Sg → Option (Int32 × Sg)) : Prop := ∃ v σ1 σ2, F = some (v, σ1) ∧ G σ1 = some (v, σ2) ∧ RR σ2
theorem c_clear {σ : Sg} (h : RR σ) : PS (fX8_clearText σ) (fun s => fX9_clearText s 462) := by
  obtain ⟨S, l, c, m, tx⟩ := h
  obtain ⟨n, n120, t1, t2, t3⟩ := id tx
  refine ⟨nI n, su σ 438 1 0, su (su (su σ 438 1 0) 462 3 0) 462 5 0, ?_, ?_, ⟨S, l, c.c (fun x hx => by rw [su_ne (by omega), su_ne (by omega), su_ne (by omega)]), m.c (by rw [su_at, if_neg (by omega), su_at, if_neg (by omega), su_ne (by omega)]) (by rw [su_ne (by omega), su_ne (by omega), su_ne (by omega)]) (by rw [su_ne (by omega), su_ne (by omega), su_ne (by omega)]), ⟨0, by omega, ?_, ?_, fun i hi => absurd hi (by omega)⟩⟩⟩
  · unfold fX8_clearText fX5_length fX5_empty
    rw [j_b, j_nm, j_b, t1]
  · show fX9_clearText (su σ 438 1 0) 462 = _
    unfold fX9_clearText
    rw [j_nm, su_at, if_neg (by omega), su_ne (by omega), t2, j_nm, j_nm]
  · rw [su_ne (by omega), su_ne (by omega), su_at, if_pos ⟨rfl, rfl⟩]
    rfl
  · rw [su_at, if_pos ⟨rfl, rfl⟩]
    rfl
theorem c_character {σ : Sg} (h : RR σ) (p : Int32) : PQ (fX8_character σ p) (fX9_character σ 462 p) := by
  obtain ⟨S, l, c, m, tx⟩ := h
  have hR : RR σ := ⟨S, l, c, m, tx⟩
  obtain ⟨n, n120, t1, t2, t3⟩ := id tx
  have f5 : (su σ 462 3 0).1 462 5 = nI n := by rw [su_at, if_neg (by omega)]; exact t2
  have em : (nI n - 1).toInt = (n : Int) - 1 := by
    rw [j_sub (by rw [j_nI (by omega), jz1]; omega) (by rw [j_nI (by omega), jz1]; omega), j_nI (by omega), jz1]
  by_cases q : 0 ≤ p.toInt ∧ p.toInt ≤ (n : Int) - 1
  · obtain ⟨k, hk⟩ : ∃ k : Nat, p.toInt = k := ⟨p.toInt.toNat, by omega⟩
    have ep : p = nI k := j_eq.mpr (by rw [hk, j_nI (by omega)])
    refine ⟨σ.1 439 k, su σ 462 3 0, ?_, ?_, hR.s3⟩
    · unfold fX8_character fX5_code
      rw [t1, if_neg (by rw [j_le, j_nI (by omega), hk]; omega), ep, show (438 + 1 : Nat) = 439 from rfl, s_atn (by decide) (by omega), j_b, j_b]
    · unfold fX9_character
      rw [j_nm, f5, m_within, j_b, jz0, em, decide_eq_true q, if_pos rfl, ep, if_pos (j_ckn (by omega) (by decide)), j_cl _ (by omega), show (462 + 3 : Nat) = 465 from rfl, su_ne (by omega), (t3 k (by omega)).1]
  · refine ⟨-1, su σ 462 3 0, ?_, ?_, hR.s3⟩
    · unfold fX8_character fX5_code
      by_cases z : (n : Int) ≤ p.toInt
      · rw [t1, if_pos (by rw [j_le, j_nI (by omega)]; exact z), j_b]
      · rw [t1, if_neg (fun y => z (by rw [j_le, j_nI (by omega)] at y; exact y)), s_at (by decide), j_b, j_b]
        unfold ga
        rw [if_neg (by omega)]
        rfl
    · unfold fX9_character
      rw [j_nm, f5, m_within, j_b, jz0, em, decide_eq_false q, if_neg Bool.false_ne_true]
end RAO
