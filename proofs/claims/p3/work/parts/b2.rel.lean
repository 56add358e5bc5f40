/-! THE RELATION: write (2): numbers, tabs -/
section RB2
variable {σ s : Sg} {W : List Int32} {V : VW} {d : Nat → Nat} {wn : Nat → Int}
theorem m_end20 (s : Sg) (w : Int32) (f : Nat) : fX9_writesNumber_20 462 (f + 1) s w 0 = some s := by
  rw [fX9_writesNumber_20, if_pos (show (0 : Int32) ≤ 0 by decide)]
theorem m_num0 (h : MB s W) {w : Int32} (h0 : 1 ≤ w.toInt) (h1 : w.toInt < 10) : ∃ s', fX9_writesNumber s 462 w = some s' ∧ Fr s s' ∧ MB s' (W ++ numl w) := by
  have u0 : (1 : Int32).toInt = 1 := rfl
  have u1 : (10 : Int32).toInt = 10 := rfl
  have u2 : (100 : Int32).toInt = 100 := rfl
  have u3 : (1000 : Int32).toInt = 1000 := rfl
  have u4 : (10000 : Int32).toInt = 10000 := rfl
  have u5 : (100000 : Int32).toInt = 100000 := rfl
  have u6 : (1000000 : Int32).toInt = 1000000 := rfl
  obtain ⟨s1, a1, b1, c1⟩ := m_unit (s := s) h w 1 (by decide) 5999
  refine ⟨s1, ?_, b1, ?_⟩
  · unfold fX9_writesNumber
    rw [show FU = 5999 + 1 from rfl, m_up (u := 1) (by omega) (by decide), if_pos (by rw [u0]; omega), show FU = 5999 + 1 from rfl, a1, show (1 : Int32) / 10 = 0 by decide, show (5999 : Nat) = 5998 + 1 from rfl, m_end20]
  · have en : numl w = [dgt w 1] := by
      unfold numl
      rw [if_pos (show w < 1000000 by rw [j_lt, u6]; omega), if_pos (show w < 100000 by rw [j_lt, u5]; omega), if_pos (show w < 10000 by rw [j_lt, u4]; omega), if_pos (show w < 1000 by rw [j_lt, u3]; omega), if_pos (show w < 100 by rw [j_lt, u2]; omega), if_pos (show w < 10 by rw [j_lt, u1]; omega), if_neg (show ¬ w < 1 by rw [j_lt, u0]; omega)]
      rfl
    rw [en]
    simpa [List.append_assoc] using c1
theorem m_num1 (h : MB s W) {w : Int32} (h0 : 10 ≤ w.toInt) (h1 : w.toInt < 100) : ∃ s', fX9_writesNumber s 462 w = some s' ∧ Fr s s' ∧ MB s' (W ++ numl w) := by
  have u0 : (1 : Int32).toInt = 1 := rfl
  have u1 : (10 : Int32).toInt = 10 := rfl
  have u2 : (100 : Int32).toInt = 100 := rfl
  have u3 : (1000 : Int32).toInt = 1000 := rfl
  have u4 : (10000 : Int32).toInt = 10000 := rfl
  have u5 : (100000 : Int32).toInt = 100000 := rfl
  have u6 : (1000000 : Int32).toInt = 1000000 := rfl
  obtain ⟨s1, a1, b1, c1⟩ := m_unit (s := s) h w 10 (by decide) 5999
  obtain ⟨s2, a2, b2, c2⟩ := m_unit (s := s1) c1 w 1 (by decide) 5998
  refine ⟨s2, ?_, (b1).tr b2, ?_⟩
  · unfold fX9_writesNumber
    rw [show FU = 5999 + 1 from rfl, m_up (u := 1) (by omega) (by decide), if_neg (by rw [u0]; omega), show (1 : Int32) * 10 = 10 by decide, show (5999 : Nat) = 5998 + 1 from rfl, m_up (u := 10) (by omega) (by decide), if_pos (by rw [u1]; omega), show FU = 5999 + 1 from rfl, a1, show (10 : Int32) / 10 = 1 by decide, show (5999 : Nat) = 5998 + 1 from rfl, a2, show (1 : Int32) / 10 = 0 by decide, show (5998 : Nat) = 5997 + 1 from rfl, m_end20]
  · have en : numl w = [dgt w 10, dgt w 1] := by
      unfold numl
      rw [if_pos (show w < 1000000 by rw [j_lt, u6]; omega), if_pos (show w < 100000 by rw [j_lt, u5]; omega), if_pos (show w < 10000 by rw [j_lt, u4]; omega), if_pos (show w < 1000 by rw [j_lt, u3]; omega), if_pos (show w < 100 by rw [j_lt, u2]; omega), if_neg (show ¬ w < 10 by rw [j_lt, u1]; omega), if_neg (show ¬ w < 1 by rw [j_lt, u0]; omega)]
      rfl
    rw [en]
    simpa [List.append_assoc] using c2
theorem m_num2 (h : MB s W) {w : Int32} (h0 : 100 ≤ w.toInt) (h1 : w.toInt < 1000) : ∃ s', fX9_writesNumber s 462 w = some s' ∧ Fr s s' ∧ MB s' (W ++ numl w) := by
  have u0 : (1 : Int32).toInt = 1 := rfl
  have u1 : (10 : Int32).toInt = 10 := rfl
  have u2 : (100 : Int32).toInt = 100 := rfl
  have u3 : (1000 : Int32).toInt = 1000 := rfl
  have u4 : (10000 : Int32).toInt = 10000 := rfl
  have u5 : (100000 : Int32).toInt = 100000 := rfl
  have u6 : (1000000 : Int32).toInt = 1000000 := rfl
  obtain ⟨s1, a1, b1, c1⟩ := m_unit (s := s) h w 100 (by decide) 5999
  obtain ⟨s2, a2, b2, c2⟩ := m_unit (s := s1) c1 w 10 (by decide) 5998
  obtain ⟨s3, a3, b3, c3⟩ := m_unit (s := s2) c2 w 1 (by decide) 5997
  refine ⟨s3, ?_, ((b1).tr b2).tr b3, ?_⟩
  · unfold fX9_writesNumber
    rw [show FU = 5999 + 1 from rfl, m_up (u := 1) (by omega) (by decide), if_neg (by rw [u0]; omega), show (1 : Int32) * 10 = 10 by decide, show (5999 : Nat) = 5998 + 1 from rfl, m_up (u := 10) (by omega) (by decide), if_neg (by rw [u1]; omega), show (10 : Int32) * 10 = 100 by decide, show (5998 : Nat) = 5997 + 1 from rfl, m_up (u := 100) (by omega) (by decide), if_pos (by rw [u2]; omega), show FU = 5999 + 1 from rfl, a1, show (100 : Int32) / 10 = 10 by decide, show (5999 : Nat) = 5998 + 1 from rfl, a2, show (10 : Int32) / 10 = 1 by decide, show (5998 : Nat) = 5997 + 1 from rfl, a3, show (1 : Int32) / 10 = 0 by decide, show (5997 : Nat) = 5996 + 1 from rfl, m_end20]
  · have en : numl w = [dgt w 100, dgt w 10, dgt w 1] := by
      unfold numl
      rw [if_pos (show w < 1000000 by rw [j_lt, u6]; omega), if_pos (show w < 100000 by rw [j_lt, u5]; omega), if_pos (show w < 10000 by rw [j_lt, u4]; omega), if_pos (show w < 1000 by rw [j_lt, u3]; omega), if_neg (show ¬ w < 100 by rw [j_lt, u2]; omega), if_neg (show ¬ w < 10 by rw [j_lt, u1]; omega), if_neg (show ¬ w < 1 by rw [j_lt, u0]; omega)]
      rfl
    rw [en]
    simpa [List.append_assoc] using c3
theorem m_num3 (h : MB s W) {w : Int32} (h0 : 1000 ≤ w.toInt) (h1 : w.toInt < 10000) : ∃ s', fX9_writesNumber s 462 w = some s' ∧ Fr s s' ∧ MB s' (W ++ numl w) := by
  have u0 : (1 : Int32).toInt = 1 := rfl
  have u1 : (10 : Int32).toInt = 10 := rfl
  have u2 : (100 : Int32).toInt = 100 := rfl
  have u3 : (1000 : Int32).toInt = 1000 := rfl
  have u4 : (10000 : Int32).toInt = 10000 := rfl
  have u5 : (100000 : Int32).toInt = 100000 := rfl
  have u6 : (1000000 : Int32).toInt = 1000000 := rfl
  obtain ⟨s1, a1, b1, c1⟩ := m_unit (s := s) h w 1000 (by decide) 5999
  obtain ⟨s2, a2, b2, c2⟩ := m_unit (s := s1) c1 w 100 (by decide) 5998
  obtain ⟨s3, a3, b3, c3⟩ := m_unit (s := s2) c2 w 10 (by decide) 5997
  obtain ⟨s4, a4, b4, c4⟩ := m_unit (s := s3) c3 w 1 (by decide) 5996
  refine ⟨s4, ?_, (((b1).tr b2).tr b3).tr b4, ?_⟩
  · unfold fX9_writesNumber
    rw [show FU = 5999 + 1 from rfl, m_up (u := 1) (by omega) (by decide), if_neg (by rw [u0]; omega), show (1 : Int32) * 10 = 10 by decide, show (5999 : Nat) = 5998 + 1 from rfl, m_up (u := 10) (by omega) (by decide), if_neg (by rw [u1]; omega), show (10 : Int32) * 10 = 100 by decide, show (5998 : Nat) = 5997 + 1 from rfl, m_up (u := 100) (by omega) (by decide), if_neg (by rw [u2]; omega), show (100 : Int32) * 10 = 1000 by decide, show (5997 : Nat) = 5996 + 1 from rfl, m_up (u := 1000) (by omega) (by decide), if_pos (by rw [u3]; omega), show FU = 5999 + 1 from rfl, a1, show (1000 : Int32) / 10 = 100 by decide, show (5999 : Nat) = 5998 + 1 from rfl, a2, show (100 : Int32) / 10 = 10 by decide, show (5998 : Nat) = 5997 + 1 from rfl, a3, show (10 : Int32) / 10 = 1 by decide, show (5997 : Nat) = 5996 + 1 from rfl, a4, show (1 : Int32) / 10 = 0 by decide, show (5996 : Nat) = 5995 + 1 from rfl, m_end20]
  · have en : numl w = [dgt w 1000, dgt w 100, dgt w 10, dgt w 1] := by
      unfold numl
      rw [if_pos (show w < 1000000 by rw [j_lt, u6]; omega), if_pos (show w < 100000 by rw [j_lt, u5]; omega), if_pos (show w < 10000 by rw [j_lt, u4]; omega), if_neg (show ¬ w < 1000 by rw [j_lt, u3]; omega), if_neg (show ¬ w < 100 by rw [j_lt, u2]; omega), if_neg (show ¬ w < 10 by rw [j_lt, u1]; omega), if_neg (show ¬ w < 1 by rw [j_lt, u0]; omega)]
      rfl
    rw [en]
    simpa [List.append_assoc] using c4
theorem m_num4 (h : MB s W) {w : Int32} (h0 : 10000 ≤ w.toInt) (h1 : w.toInt < 100000) : ∃ s', fX9_writesNumber s 462 w = some s' ∧ Fr s s' ∧ MB s' (W ++ numl w) := by
  have u0 : (1 : Int32).toInt = 1 := rfl
  have u1 : (10 : Int32).toInt = 10 := rfl
  have u2 : (100 : Int32).toInt = 100 := rfl
  have u3 : (1000 : Int32).toInt = 1000 := rfl
  have u4 : (10000 : Int32).toInt = 10000 := rfl
  have u5 : (100000 : Int32).toInt = 100000 := rfl
  have u6 : (1000000 : Int32).toInt = 1000000 := rfl
  obtain ⟨s1, a1, b1, c1⟩ := m_unit (s := s) h w 10000 (by decide) 5999
  obtain ⟨s2, a2, b2, c2⟩ := m_unit (s := s1) c1 w 1000 (by decide) 5998
  obtain ⟨s3, a3, b3, c3⟩ := m_unit (s := s2) c2 w 100 (by decide) 5997
  obtain ⟨s4, a4, b4, c4⟩ := m_unit (s := s3) c3 w 10 (by decide) 5996
  obtain ⟨s5, a5, b5, c5⟩ := m_unit (s := s4) c4 w 1 (by decide) 5995
  refine ⟨s5, ?_, ((((b1).tr b2).tr b3).tr b4).tr b5, ?_⟩
  · unfold fX9_writesNumber
    rw [show FU = 5999 + 1 from rfl, m_up (u := 1) (by omega) (by decide), if_neg (by rw [u0]; omega), show (1 : Int32) * 10 = 10 by decide, show (5999 : Nat) = 5998 + 1 from rfl, m_up (u := 10) (by omega) (by decide), if_neg (by rw [u1]; omega), show (10 : Int32) * 10 = 100 by decide, show (5998 : Nat) = 5997 + 1 from rfl, m_up (u := 100) (by omega) (by decide), if_neg (by rw [u2]; omega), show (100 : Int32) * 10 = 1000 by decide, show (5997 : Nat) = 5996 + 1 from rfl, m_up (u := 1000) (by omega) (by decide), if_neg (by rw [u3]; omega), show (1000 : Int32) * 10 = 10000 by decide, show (5996 : Nat) = 5995 + 1 from rfl, m_up (u := 10000) (by omega) (by decide), if_pos (by rw [u4]; omega), show FU = 5999 + 1 from rfl, a1, show (10000 : Int32) / 10 = 1000 by decide, show (5999 : Nat) = 5998 + 1 from rfl, a2, show (1000 : Int32) / 10 = 100 by decide, show (5998 : Nat) = 5997 + 1 from rfl, a3, show (100 : Int32) / 10 = 10 by decide, show (5997 : Nat) = 5996 + 1 from rfl, a4, show (10 : Int32) / 10 = 1 by decide, show (5996 : Nat) = 5995 + 1 from rfl, a5, show (1 : Int32) / 10 = 0 by decide, show (5995 : Nat) = 5994 + 1 from rfl, m_end20]
  · have en : numl w = [dgt w 10000, dgt w 1000, dgt w 100, dgt w 10, dgt w 1] := by
      unfold numl
      rw [if_pos (show w < 1000000 by rw [j_lt, u6]; omega), if_pos (show w < 100000 by rw [j_lt, u5]; omega), if_neg (show ¬ w < 10000 by rw [j_lt, u4]; omega), if_neg (show ¬ w < 1000 by rw [j_lt, u3]; omega), if_neg (show ¬ w < 100 by rw [j_lt, u2]; omega), if_neg (show ¬ w < 10 by rw [j_lt, u1]; omega), if_neg (show ¬ w < 1 by rw [j_lt, u0]; omega)]
      rfl
    rw [en]
    simpa [List.append_assoc] using c5
theorem m_num5 (h : MB s W) {w : Int32} (h0 : 100000 ≤ w.toInt) (h1 : w.toInt < 1000000) : ∃ s', fX9_writesNumber s 462 w = some s' ∧ Fr s s' ∧ MB s' (W ++ numl w) := by
  have u0 : (1 : Int32).toInt = 1 := rfl
  have u1 : (10 : Int32).toInt = 10 := rfl
  have u2 : (100 : Int32).toInt = 100 := rfl
  have u3 : (1000 : Int32).toInt = 1000 := rfl
  have u4 : (10000 : Int32).toInt = 10000 := rfl
  have u5 : (100000 : Int32).toInt = 100000 := rfl
  have u6 : (1000000 : Int32).toInt = 1000000 := rfl
  obtain ⟨s1, a1, b1, c1⟩ := m_unit (s := s) h w 100000 (by decide) 5999
  obtain ⟨s2, a2, b2, c2⟩ := m_unit (s := s1) c1 w 10000 (by decide) 5998
  obtain ⟨s3, a3, b3, c3⟩ := m_unit (s := s2) c2 w 1000 (by decide) 5997
  obtain ⟨s4, a4, b4, c4⟩ := m_unit (s := s3) c3 w 100 (by decide) 5996
  obtain ⟨s5, a5, b5, c5⟩ := m_unit (s := s4) c4 w 10 (by decide) 5995
  obtain ⟨s6, a6, b6, c6⟩ := m_unit (s := s5) c5 w 1 (by decide) 5994
  refine ⟨s6, ?_, (((((b1).tr b2).tr b3).tr b4).tr b5).tr b6, ?_⟩
  · unfold fX9_writesNumber
    rw [show FU = 5999 + 1 from rfl, m_up (u := 1) (by omega) (by decide), if_neg (by rw [u0]; omega), show (1 : Int32) * 10 = 10 by decide, show (5999 : Nat) = 5998 + 1 from rfl, m_up (u := 10) (by omega) (by decide), if_neg (by rw [u1]; omega), show (10 : Int32) * 10 = 100 by decide, show (5998 : Nat) = 5997 + 1 from rfl, m_up (u := 100) (by omega) (by decide), if_neg (by rw [u2]; omega), show (100 : Int32) * 10 = 1000 by decide, show (5997 : Nat) = 5996 + 1 from rfl, m_up (u := 1000) (by omega) (by decide), if_neg (by rw [u3]; omega), show (1000 : Int32) * 10 = 10000 by decide, show (5996 : Nat) = 5995 + 1 from rfl, m_up (u := 10000) (by omega) (by decide), if_neg (by rw [u4]; omega), show (10000 : Int32) * 10 = 100000 by decide, show (5995 : Nat) = 5994 + 1 from rfl, m_up (u := 100000) (by omega) (by decide), if_pos (by rw [u5]; omega), show FU = 5999 + 1 from rfl, a1, show (100000 : Int32) / 10 = 10000 by decide, show (5999 : Nat) = 5998 + 1 from rfl, a2, show (10000 : Int32) / 10 = 1000 by decide, show (5998 : Nat) = 5997 + 1 from rfl, a3, show (1000 : Int32) / 10 = 100 by decide, show (5997 : Nat) = 5996 + 1 from rfl, a4, show (100 : Int32) / 10 = 10 by decide, show (5996 : Nat) = 5995 + 1 from rfl, a5, show (10 : Int32) / 10 = 1 by decide, show (5995 : Nat) = 5994 + 1 from rfl, a6, show (1 : Int32) / 10 = 0 by decide, show (5994 : Nat) = 5993 + 1 from rfl, m_end20]
  · have en : numl w = [dgt w 100000, dgt w 10000, dgt w 1000, dgt w 100, dgt w 10, dgt w 1] := by
      unfold numl
      rw [if_pos (show w < 1000000 by rw [j_lt, u6]; omega), if_neg (show ¬ w < 100000 by rw [j_lt, u5]; omega), if_neg (show ¬ w < 10000 by rw [j_lt, u4]; omega), if_neg (show ¬ w < 1000 by rw [j_lt, u3]; omega), if_neg (show ¬ w < 100 by rw [j_lt, u2]; omega), if_neg (show ¬ w < 10 by rw [j_lt, u1]; omega), if_neg (show ¬ w < 1 by rw [j_lt, u0]; omega)]
      rfl
    rw [en]
    simpa [List.append_assoc] using c6
theorem m_num6 (h : MB s W) {w : Int32} (h0 : 1000000 ≤ w.toInt) (h1 : w.toInt ≤ 1000000) : ∃ s', fX9_writesNumber s 462 w = some s' ∧ Fr s s' ∧ MB s' (W ++ numl w) := by
  have u0 : (1 : Int32).toInt = 1 := rfl
  have u1 : (10 : Int32).toInt = 10 := rfl
  have u2 : (100 : Int32).toInt = 100 := rfl
  have u3 : (1000 : Int32).toInt = 1000 := rfl
  have u4 : (10000 : Int32).toInt = 10000 := rfl
  have u5 : (100000 : Int32).toInt = 100000 := rfl
  have u6 : (1000000 : Int32).toInt = 1000000 := rfl
  obtain ⟨s1, a1, b1, c1⟩ := m_unit (s := s) h w 1000000 (by decide) 5999
  obtain ⟨s2, a2, b2, c2⟩ := m_unit (s := s1) c1 w 100000 (by decide) 5998
  obtain ⟨s3, a3, b3, c3⟩ := m_unit (s := s2) c2 w 10000 (by decide) 5997
  obtain ⟨s4, a4, b4, c4⟩ := m_unit (s := s3) c3 w 1000 (by decide) 5996
  obtain ⟨s5, a5, b5, c5⟩ := m_unit (s := s4) c4 w 100 (by decide) 5995
  obtain ⟨s6, a6, b6, c6⟩ := m_unit (s := s5) c5 w 10 (by decide) 5994
  obtain ⟨s7, a7, b7, c7⟩ := m_unit (s := s6) c6 w 1 (by decide) 5993
  refine ⟨s7, ?_, ((((((b1).tr b2).tr b3).tr b4).tr b5).tr b6).tr b7, ?_⟩
  · unfold fX9_writesNumber
    rw [show FU = 5999 + 1 from rfl, m_up (u := 1) (by omega) (by decide), if_neg (by rw [u0]; omega), show (1 : Int32) * 10 = 10 by decide, show (5999 : Nat) = 5998 + 1 from rfl, m_up (u := 10) (by omega) (by decide), if_neg (by rw [u1]; omega), show (10 : Int32) * 10 = 100 by decide, show (5998 : Nat) = 5997 + 1 from rfl, m_up (u := 100) (by omega) (by decide), if_neg (by rw [u2]; omega), show (100 : Int32) * 10 = 1000 by decide, show (5997 : Nat) = 5996 + 1 from rfl, m_up (u := 1000) (by omega) (by decide), if_neg (by rw [u3]; omega), show (1000 : Int32) * 10 = 10000 by decide, show (5996 : Nat) = 5995 + 1 from rfl, m_up (u := 10000) (by omega) (by decide), if_neg (by rw [u4]; omega), show (10000 : Int32) * 10 = 100000 by decide, show (5995 : Nat) = 5994 + 1 from rfl, m_up (u := 100000) (by omega) (by decide), if_neg (by rw [u5]; omega), show (100000 : Int32) * 10 = 1000000 by decide, show (5994 : Nat) = 5993 + 1 from rfl, m_up (u := 1000000) (by omega) (by decide), if_pos (by rw [u6]; omega), show FU = 5999 + 1 from rfl, a1, show (1000000 : Int32) / 10 = 100000 by decide, show (5999 : Nat) = 5998 + 1 from rfl, a2, show (100000 : Int32) / 10 = 10000 by decide, show (5998 : Nat) = 5997 + 1 from rfl, a3, show (10000 : Int32) / 10 = 1000 by decide, show (5997 : Nat) = 5996 + 1 from rfl, a4, show (1000 : Int32) / 10 = 100 by decide, show (5996 : Nat) = 5995 + 1 from rfl, a5, show (100 : Int32) / 10 = 10 by decide, show (5995 : Nat) = 5994 + 1 from rfl, a6, show (10 : Int32) / 10 = 1 by decide, show (5994 : Nat) = 5993 + 1 from rfl, a7, show (1 : Int32) / 10 = 0 by decide, show (5993 : Nat) = 5992 + 1 from rfl, m_end20]
  · have en : numl w = [dgt w 1000000, dgt w 100000, dgt w 10000, dgt w 1000, dgt w 100, dgt w 10, dgt w 1] := by
      unfold numl
      rw [if_neg (show ¬ w < 1000000 by rw [j_lt, u6]; omega), if_neg (show ¬ w < 100000 by rw [j_lt, u5]; omega), if_neg (show ¬ w < 10000 by rw [j_lt, u4]; omega), if_neg (show ¬ w < 1000 by rw [j_lt, u3]; omega), if_neg (show ¬ w < 100 by rw [j_lt, u2]; omega), if_neg (show ¬ w < 10 by rw [j_lt, u1]; omega), if_neg (show ¬ w < 1 by rw [j_lt, u0]; omega)]
      rfl
    rw [en]
    simpa [List.append_assoc] using c7
theorem m_number (h : MB s W) {w : Int32} (h0 : 1 ≤ w.toInt) (h1 : w.toInt ≤ 1000000) : ∃ s', fX9_writesNumber s 462 w = some s' ∧ Fr s s' ∧ MB s' (W ++ numl w) := by
  by_cases z1 : w.toInt < 10
  · exact m_num0 h h0 z1
  · by_cases z2 : w.toInt < 100
    · exact m_num1 h (by omega) z2
    · by_cases z3 : w.toInt < 1000
      · exact m_num2 h (by omega) z3
      · by_cases z4 : w.toInt < 10000
        · exact m_num3 h (by omega) z4
        · by_cases z5 : w.toInt < 100000
          · exact m_num4 h (by omega) z5
          · by_cases z6 : w.toInt < 1000000
            · exact m_num5 h (by omega) z6
            · exact m_num6 h (by omega) h1
def tb1 (V : VW) (g : Int) (k : Nat) : List Int32 := [97 + oI (v_ta V g k)] ++ (if v_hd V (v_ta V g k) = true then [45] else if ga (V 12) 23 g = v_ta V g k then [42] else [])
def tbl (V : VW) (g : Int) : Nat → List Int32
  | 0 => []
  | k + 1 => tbl V g k ++ tb1 V g k
theorem tb1_len (V : VW) (g : Int) (k : Nat) : (tb1 V g k).length ≤ 2 := by
  unfold tb1
  by_cases z : v_hd V (v_ta V g k) = true
  · rw [if_pos z]; exact Nat.le_refl _
  · rw [if_neg z]
    by_cases y : ga (V 12) 23 g = v_ta V g k
    · rw [if_pos y]; exact Nat.le_refl _
    · rw [if_neg y]; exact Nat.le_succ _
theorem tbl_len (V : VW) (g : Int) : ∀ k, (tbl V g k).length ≤ 2 * k
  | 0 => Nat.le_refl _
  | k + 1 => by
    have h1 := tbl_len V g k
    have h2 := tb1_len V g k
    unfold tbl
    rw [List.length_append]
    omega
theorem pv6 {σ' : Sg} (o : Out σ σ' 460 461) : pv σ' (1 + 5) = pv σ (1 + 5) := pv_c (fun j h1 h2 => o.2 _ (by omega))
theorem s_ptabs9 (g : Int32) (hv : pv σ (1 + 5) = V) : ∀ (k i fuel : Nat) (σ1 : Sg) (W : List Int32), i + k = v_tc V g.toInt → k < fuel → Out σ σ1 460 461 → CB σ1 W → W.length + 2 * k < 100000 → ∃ σ', fX7_putTabs_9 459 (1 + 5) fuel σ1 g (oI (v_tc V g.toInt)) (nI i) = some σ' ∧ Out σ σ' 460 461 ∧ ∃ L, CB σ' (W ++ L) ∧ tbl V g.toInt i ++ L = tbl V g.toInt (v_tc V g.toInt) := by
  intro k
  induction k with
  | zero =>
    intro i fuel σ1 W e hf o h hl
    have tr := v_tc_rg V g.toInt
    match fuel, hf with
    | f + 1, _ =>
      refine ⟨σ1, ?_, o, [], by rw [List.append_nil]; exact h, by rw [List.append_nil, show i = v_tc V g.toInt by omega]⟩
      rw [fX7_putTabs_9, if_pos (by rw [j_le, t_tc, j_nI (by omega)]; omega)]
  | succ k ih =>
    intro i fuel σ1 W e hf o h hl
    have tr := v_tc_rg V g.toInt
    match fuel, hf with
    | f + 1, hf =>
      have v1 : pv σ1 (1 + 5) = V := (pv6 o).trans hv
      have ti : (nI i).toInt = i := j_nI (by omega)
      have ta := v_ta_rg V g.toInt i
      obtain ⟨w1, a1, a2, a3⟩ := h.app (by omega) (97 + oI (v_ta V g.toInt i))
      have v2 : pv w1 (1 + 5) = V := (pv6 a2).trans v1
      have start : fX7_putTabs_9 459 (1 + 5) (f + 1) σ1 g (oI (v_tc V g.toInt)) (nI i) = if v_hd V (v_ta V g.toInt i) = true then (fX5_append w1 (459 + 1) 45).bind (fun σ5 => fX7_putTabs_9 459 (1 + 5) f σ5 g (oI (v_tc V g.toInt)) (nI (i + 1))) else if ga (V 12) 23 g.toInt = v_ta V g.toInt i then (fX5_append w1 (459 + 1) 42).bind (fun σ7 => fX7_putTabs_9 459 (1 + 5) f σ7 g (oI (v_tc V g.toInt)) (nI (i + 1))) else fX7_putTabs_9 459 (1 + 5) f w1 g (oI (v_tc V g.toInt)) (nI (i + 1)) := by
        have gr : -2147483648 ≤ ga (V 12) 23 g.toInt ∧ ga (V 12) 23 g.toInt < 2147483648 := by rw [← v2]; exact ga_rg _
        have ea : (oI (ga (V 12) 23 g.toInt) = oI (v_ta V g.toInt i)) ↔ ga (V 12) 23 g.toInt = v_ta V g.toInt i := j_oe gr.1 gr.2 (by omega) (by omega)
        rw [fX7_putTabs_9, if_neg (by rw [j_le, t_tc, ti]; omega), s_tabAt, j_b, v1, ti, a1, j_b, s_isHidden, j_b, v2, t_ta]
        unfold fX7_putTabs_76
        rw [j_s]
        by_cases z : v_hd V (v_ta V g.toInt i) = true
        · rw [if_pos z, if_pos z]
        · rw [if_neg z, if_neg z, s_activeOf, j_b, v2]
          by_cases y : ga (V 12) 23 g.toInt = v_ta V g.toInt i
          · rw [if_pos y, if_pos (ea.mpr y)]
          · rw [if_neg y, if_neg (fun w => y (ea.mp w))]
      have ll : (W ++ [97 + oI (v_ta V g.toInt i)]).length = W.length + 1 := by rw [List.length_append]; rfl
      have fin : ∀ (w2 : Sg) (x : List Int32), Out w1 w2 460 461 → CB w2 (W ++ tb1 V g.toInt i) → ∃ σ', fX7_putTabs_9 459 (1 + 5) f w2 g (oI (v_tc V g.toInt)) (nI (i + 1)) = some σ' ∧ Out σ σ' 460 461 ∧ ∃ L, CB σ' (W ++ L) ∧ tbl V g.toInt i ++ L = tbl V g.toInt (v_tc V g.toInt) := fun w2 x o2 c2 => by
        have t2 := tb1_len V g.toInt i
        obtain ⟨σ', b1, b2, L, b3, b4⟩ := ih (i + 1) f w2 (W ++ tb1 V g.toInt i) (by omega) (by omega) ((o.tr a2).tr o2) c2 (by rw [List.length_append]; omega)
        refine ⟨σ', b1, b2, tb1 V g.toInt i ++ L, by rw [← List.append_assoc]; exact b3, ?_⟩
        rw [← b4, ← List.append_assoc]
        rfl
      rw [start]
      by_cases z : v_hd V (v_ta V g.toInt i) = true
      · obtain ⟨w2, d1, d2, d3⟩ := a3.app (by omega) 45
        rw [if_pos z, d1, j_b]
        refine fin w2 [] d2 ?_
        unfold tb1
        rw [if_pos z, ← List.append_assoc]
        exact d3
      · rw [if_neg z]
        by_cases y : ga (V 12) 23 g.toInt = v_ta V g.toInt i
        · obtain ⟨w2, d1, d2, d3⟩ := a3.app (by omega) 42
          rw [if_pos y, d1, j_b]
          refine fin w2 [] d2 ?_
          unfold tb1
          rw [if_neg z, if_pos y, ← List.append_assoc]
          exact d3
        · rw [if_neg y]
          refine fin w1 [] Out.rf ?_
          unfold tb1
          rw [if_neg z, if_neg y, List.append_nil]
          exact a3
theorem s_ptabs (g : Int32) (hv : pv σ (1 + 5) = V) (h : CB σ W) (hl : W.length < 90000) : ∃ σ', fX7_putTabs σ 459 (1 + 5) g = some σ' ∧ Out σ σ' 460 461 ∧ CB σ' (W ++ tbl V g.toInt (v_tc V g.toInt)) := by
  have tr := v_tc_rg V g.toInt
  have fu : FU = 6000 := rfl
  obtain ⟨σ', a1, a2, L, a3, a4⟩ := s_ptabs9 g hv (v_tc V g.toInt) 0 FU σ W (by omega) (by omega) Out.rf h (by omega)
  refine ⟨σ', ?_, a2, ?_⟩
  · unfold fX7_putTabs
    rw [s_tabCount, j_b, hv]
    exact a1
  · have : L = tbl V g.toInt (v_tc V g.toInt) := a4
    rw [← this]
    exact a3
theorem m_wg2 (h : VM (mv (s.1 463)) V (fun _ => false)) (tb : Tabs V (fun _ => false)) {g : Nat} (hg : g < 23) (kg : V 8 g = 2) : ∀ (k i fuel : Nat) (s1 : Sg) (W : List Int32), i + k = v_tc V g → k < fuel → Fr s s1 → MB s1 W → ∃ s', fX9_writesGroup_2 462 fuel s1 (oI g) (nI i) = some s' ∧ Fr s s' ∧ ∃ L, MB s' (W ++ L) ∧ tbl V g i ++ L = tbl V g (v_tc V g) := by
  have tg : (oI (g : Int)).toInt = g := j_oI (by omega) (by omega)
  intro k
  induction k with
  | zero =>
    intro i fuel s1 W e hf o hb
    have tr := v_tc_rg V g
    match fuel, hf with
    | f + 1, _ =>
      have vm : VM (mv (s1.1 463)) V (fun _ => false) := by rw [o.2.1 463 (by omega) (by omega)]; exact h
      refine ⟨s1, ?_, o, [], by rw [List.append_nil]; exact hb, by rw [List.append_nil, show i = v_tc V g by omega]⟩
      rw [fX9_writesGroup_2, m_tabMany, j_b, tg, vm.tc, if_pos (by rw [j_le, t_tc, j_nI (by omega)]; omega)]
  | succ k ih =>
    intro i fuel s1 W e hf o hb
    have tr := v_tc_rg V g
    match fuel, hf with
    | f + 1, hf =>
      have vm : VM (mv (s1.1 463)) V (fun _ => false) := by rw [o.2.1 463 (by omega) (by omega)]; exact h
      have ti : (nI i).toInt = i := j_nI (by omega)
      have nu := tb.nu hg kg
      obtain ⟨q, hq, mq, eq⟩ := nu.2.1 i (by
        have : v_tc V g = cnt (fun p => decide (V 13 p = g)) 12 := rfl
        omega)
      have g13 : V 13 q = g := of_decide_eq_true mq
      have ta : v_ta V g i = q := by rw [← eq]; exact v_ta_at nu hq g13
      have tq : (oI (q : Int)).toInt = q := j_oI (by omega) (by omega)
      have hd : v_hd V (q : Int) = decide (V 15 q = 1) := v_hd_in hq
      obtain ⟨w1, a1, a2, a3⟩ := hb.wr (97 + oI (v_ta V g i))
      have vm2 : VM (mv (w1.1 463)) V (fun _ => false) := by rw [a2.2.1 463 (by omega) (by omega)]; exact vm
      have start : fX9_writesGroup_2 462 (f + 1) s1 (oI g) (nI i) = if v_hd V (v_ta V g i) = true then (fX9_writes w1 462 45).bind (fun σ5 => fX9_writesGroup_2 462 f σ5 (oI g) (nI (i + 1))) else if ga (V 12) 23 (g : Int) = v_ta V g i then (fX9_writes w1 462 42).bind (fun σ7 => fX9_writesGroup_2 462 f σ7 (oI g) (nI (i + 1))) else fX9_writesGroup_2 462 f w1 (oI g) (nI (i + 1)) := by
        rw [fX9_writesGroup_2, m_tabMany, j_b, tg, vm.tc, if_neg (by rw [j_le, t_tc, ti]; omega), m_tabAt, j_b, tg, ti, vm.ta (by omega), a1, j_b, ta, m_o5 tq hq, j_b, vm2.hi hq, hd]
        unfold fX9_writesGroup_61
        rw [j_s]
        by_cases z : V 15 q = 1
        · rw [if_pos (by rw [z]; rfl), if_pos (decide_eq_true z)]
        · have z0 : V 15 q = 0 := by
            rcases tb.hi hq with y | y
            · exact y
            · exact absurd y z
          rw [if_neg (by rw [z0]; decide), if_neg (by rw [decide_eq_false z]; exact Bool.false_ne_true), m_i5 tg (by omega), j_b, vm2.ac hg kg rfl, ga_in hg]
          have r5 := mv_rg (w1.1 463) 5 g
          rw [vm2.ac hg kg rfl] at r5
          have ea : (oI (V 12 g) = oI (q : Int)) ↔ V 12 g = (q : Int) := j_oe r5.1 r5.2 (by omega) (by omega)
          by_cases y : V 12 g = (q : Int)
          · rw [if_pos y, if_pos (ea.mpr y)]
          · rw [if_neg y, if_neg (fun w => y (ea.mp w))]
      have fin : ∀ w2 : Sg, Fr w1 w2 → MB w2 (W ++ tb1 V g i) → ∃ s', fX9_writesGroup_2 462 f w2 (oI g) (nI (i + 1)) = some s' ∧ Fr s s' ∧ ∃ L, MB s' (W ++ L) ∧ tbl V g i ++ L = tbl V g (v_tc V g) := fun w2 o2 c2 => by
        obtain ⟨s', b1, b2, L, b3, b4⟩ := ih (i + 1) f w2 (W ++ tb1 V g i) (by omega) (by omega) ((o.tr a2).tr o2) c2
        refine ⟨s', b1, b2, tb1 V g i ++ L, by rw [← List.append_assoc]; exact b3, ?_⟩
        rw [← b4, ← List.append_assoc]
        rfl
      rw [start]
      by_cases z : v_hd V (v_ta V g i) = true
      · obtain ⟨w2, d1, d2, d3⟩ := a3.wr 45
        rw [if_pos z, d1, j_b]
        refine fin w2 d2 ?_
        unfold tb1
        rw [if_pos z, ← List.append_assoc]
        exact d3
      · rw [if_neg z]
        by_cases y : ga (V 12) 23 (g : Int) = v_ta V g i
        · obtain ⟨w2, d1, d2, d3⟩ := a3.wr 42
          rw [if_pos y, d1, j_b]
          refine fin w2 d2 ?_
          unfold tb1
          rw [if_neg z, if_pos y, ← List.append_assoc]
          exact d3
        · rw [if_neg y]
          refine fin w1 Fr.rf ?_
          unfold tb1
          rw [if_neg z, if_neg y, List.append_nil]
          exact a3
theorem m_wgroup (h : VM (mv (s.1 463)) V (fun _ => false)) (tb : Tabs V (fun _ => false)) {g : Nat} (hg : g < 23) (kg : V 8 g = 2) (hb : MB s W) : ∃ s', fX9_writesGroup s 462 (oI g) = some s' ∧ Fr s s' ∧ MB s' (W ++ tbl V g (v_tc V g)) := by
  have tr := v_tc_rg V g
  have fu : FU = 6000 := rfl
  obtain ⟨s', a1, a2, L, a3, a4⟩ := m_wg2 h tb hg kg (v_tc V g) 0 FU s W (by omega) (by omega) Fr.rf hb
  refine ⟨s', a1, a2, ?_⟩
  have : L = tbl V g (v_tc V g) := a4
  rw [← this]
  exact a3
end RB2
