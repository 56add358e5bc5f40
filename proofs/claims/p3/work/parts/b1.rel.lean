/-! THE RELATION: write (1): what is written, numbers -/
section RB1
def CB (σ : Sg) (W : List Int32) : Prop := σ.1 460 1 = nI W.length ∧ ∀ i, i < W.length → i < 120 → σ.1 461 i = W.getD i 0
def MB (s : Sg) (W : List Int32) : Prop := s.1 462 25 = nI (min W.length 400) ∧ ∀ i, i < W.length → i < 400 → s.1 475 i = W.getD i 0
def Fr (s s1 : Sg) : Prop := s1.2 = s.2 ∧ (∀ x, x ≠ 462 → x ≠ 475 → s1.1 x = s.1 x) ∧ ∀ j, j ≠ 25 → s1.1 462 j = s.1 462 j
variable {σ s : Sg} {W : List Int32}
theorem Fr.rf : Fr s s := ⟨rfl, fun _ _ _ => rfl, fun _ _ => rfl⟩
theorem Fr.tr {s1 s2 : Sg} (h : Fr s s1) (h2 : Fr s1 s2) : Fr s s2 := ⟨h2.1.trans h.1, fun x a b => (h2.2.1 x a b).trans (h.2.1 x a b), fun j a => (h2.2.2 j a).trans (h.2.2 j a)⟩
theorem gd_lt {x : Int32} {i : Nat} (h : i < W.length) : (W ++ [x]).getD i 0 = W.getD i 0 := by
  simp [List.getD_eq_getElem?_getD, List.getElem?_append, h]
theorem gd_eq {x : Int32} : (W ++ [x]).getD W.length 0 = x := by
  simp [List.getD_eq_getElem?_getD]
theorem CB.app (h : CB σ W) (hl : W.length < 1000000) (x : Int32) : ∃ σ', fX5_append σ (459 + 1) x = some σ' ∧ Out σ σ' 460 461 ∧ CB σ' (W ++ [x]) := by
  have e : (nI W.length).toInt = W.length := j_nI (by omega)
  obtain ⟨w1, hw1⟩ : ∃ w1 : Sg, w1 = pt σ 461 120 (nI W.length) x := ⟨_, rfl⟩
  have c460 : w1.1 460 = σ.1 460 := by
    rw [hw1]
    exact (pt_out (σ := σ) (c := 461) (n := 120) (p := nI W.length) (v := x)).2 460 (by omega)
  have c461 : ∀ i, w1.1 461 i = if W.length < 120 ∧ i = W.length then x else σ.1 461 i := fun i => by
    rw [hw1]
    unfold pt
    by_cases z : W.length < 120
    · rw [if_pos (by omega), su_at, e, Int.toNat_natCast]
      by_cases y : i = W.length
      · rw [if_pos ⟨rfl, y⟩, if_pos ⟨z, y⟩]
      · rw [if_neg (fun w => y w.2), if_neg (fun w => y w.2)]
    · rw [if_neg (by omega), if_neg (fun w => z w.1)]
  refine ⟨su w1 460 1 (nI (W.length + 1)), ?_, ?_, ?_, fun i hi h120 => ?_⟩
  · unfold fX5_append
    have c1 : w1.1 (459 + 1) 1 = nI W.length := by show w1.1 460 1 = _; rw [c460]; exact h.1
    rw [show (459 + 1 + 1 : Nat) = 461 from rfl, s_pt (by decide), j_b, show σ.1 (459 + 1) 1 = nI W.length from h.1, ← hw1, c1, j_s, j_nm]
  · refine Out.tr (σ1 := w1) (by rw [hw1]; exact pt_out.mo (by omega) (by omega)) ⟨rfl, fun y hy => su_ne (by omega)⟩
  · rw [su_at, if_pos ⟨rfl, rfl⟩, List.length_append]
    rfl
  · rw [su_ne (by omega), c461]
    rw [List.length_append] at hi
    have hi : i < W.length + 1 := hi
    by_cases y : i = W.length
    · rw [if_pos ⟨by omega, y⟩, y, gd_eq]
    · rw [if_neg (fun w => y w.2), gd_lt (by omega)]
      exact h.2 i (by omega) h120
theorem MB.wr (h : MB s W) (x : Int32) : ∃ s', fX9_writes s 462 x = some s' ∧ Fr s s' ∧ MB s' (W ++ [x]) := by
  have e400 : (400 : Int32).toInt = 400 := rfl
  unfold fX9_writes
  by_cases z : W.length < 400
  · have em : min W.length 400 = W.length := by omega
    have h1 := h.1
    rw [em] at h1
    refine ⟨su (su s 475 W.length x) 462 25 (nI (W.length + 1)), ?_, ⟨rfl, fun y a b => by rw [su_ne a, su_ne b], fun j a => by rw [su_at, if_neg (fun w => a w.2), su_ne (by omega)]⟩, ?_, fun i hi h4 => ?_⟩
    · have c1 : (su s 475 W.length x).1 462 25 = nI W.length := by rw [su_ne (by omega)]; exact h1
      rw [h1, if_neg (by rw [j_le_nI (by omega), e400]; omega), if_pos (j_ckn z (by decide)), j_cl _ (by omega), show (462 + 13 : Nat) = 475 from rfl, j_nm, c1, j_s, j_nm]
    · rw [su_at, if_pos ⟨rfl, rfl⟩, List.length_append, show min (W.length + [x].length) 400 = W.length + 1 by
        show min (W.length + 1) 400 = _
        omega]
    · rw [su_ne (by omega), su_at]
      rw [List.length_append] at hi
      have hi : i < W.length + 1 := hi
      by_cases y : i = W.length
      · rw [if_pos ⟨rfl, y⟩, y, gd_eq]
      · rw [if_neg (fun w => y w.2), gd_lt (by omega)]
        exact h.2 i (by omega) h4
  · have em : min W.length 400 = 400 := by omega
    have h1 := h.1
    rw [em] at h1
    refine ⟨s, ?_, Fr.rf, ?_, fun i hi h4 => ?_⟩
    · rw [h1, if_pos (by decide)]
    · rw [h1, List.length_append, show min (W.length + [x].length) 400 = 400 by
        show min (W.length + 1) 400 = _
        omega]
    · rw [gd_lt (by omega)]
      exact h.2 i (by omega) h4
def dgt (w u : Int32) : Int32 := 48 + ((w / u) - (w / u) / 10 * 10)
theorem q_div {w u : Int32} (hw : 0 ≤ w.toInt) (hu : 1 ≤ u.toInt) : (w / u).toInt = w.toInt / u.toInt := by
  have h1 := j_hi w
  have q1 : Int.tdiv w.toInt u.toInt = w.toInt / u.toInt := Int.tdiv_eq_ediv_of_nonneg hw
  have q2 : 0 ≤ w.toInt / u.toInt := Int.ediv_nonneg hw (by omega)
  have q3 : w.toInt / u.toInt ≤ w.toInt := Int.ediv_le_self _ hw
  rw [Int32.toInt_div, q1, Int.bmod_eq_of_le (by omega) (by omega)]
/-- the class's unit -/
theorem s_unit (h : CB σ W) (hl : W.length < 900000) (w u : Int32) (hu : 1 ≤ u.toInt) (f : Nat) : ∃ σ', fX7_putNumber_3 459 (f + 1) σ w u = fX7_putNumber_3 459 f σ' w (u / 10) ∧ Out σ σ' 460 461 ∧ CB σ' (W ++ (if w < u then [] else [dgt w u])) := by
  have u0 : ¬ u ≤ 0 := by rw [j_le, jz0]; omega
  have u1 : ¬ u = 0 := by rw [j_eq, jz0]; omega
  rw [fX7_putNumber_3, if_neg u0]
  unfold fX7_putNumber_28
  by_cases z : w < u
  · refine ⟨σ, ?_, Out.rf, ?_⟩
    · rw [if_pos z, j_nm]
    · rw [if_pos z, List.append_nil]
      exact h
  · obtain ⟨σ1, a1, a2, a3⟩ := h.app (by omega) (dgt w u)
    refine ⟨σ1, ?_, a2, ?_⟩
    · unfold dgt at a1
      rw [if_neg z, if_neg u1, a1, j_b, j_nm]
    · rw [if_neg z]
      exact a3
def numl (w : Int32) : List Int32 := (if w < 1000000 then [] else [dgt w 1000000]) ++ ((if w < 100000 then [] else [dgt w 100000]) ++ ((if w < 10000 then [] else [dgt w 10000]) ++ ((if w < 1000 then [] else [dgt w 1000]) ++ ((if w < 100 then [] else [dgt w 100]) ++ ((if w < 10 then [] else [dgt w 10]) ++ (if w < 1 then [] else [dgt w 1]))))))
theorem il_le (w u : Int32) : (if w < u then ([] : List Int32) else [dgt w u]).length ≤ 1 := by
  by_cases z : w < u
  · rw [if_pos z]; exact Nat.zero_le _
  · rw [if_neg z]; exact Nat.le_refl _
theorem numl_len (w : Int32) : (numl w).length ≤ 7 := by
  have h1 := il_le w 1000000
  have h2 := il_le w 100000
  have h3 := il_le w 10000
  have h4 := il_le w 1000
  have h5 := il_le w 100
  have h6 := il_le w 10
  have h7 := il_le w 1
  unfold numl
  simp only [List.length_append]
  omega
theorem s_number (h : CB σ W) (hl : W.length < 800000) (w : Int32) : ∃ σ', fX7_putNumber σ 459 w = some σ' ∧ Out σ σ' 460 461 ∧ CB σ' (W ++ numl w) := by
  have l1 := il_le w 1000000
  have l2 := il_le w 100000
  have l3 := il_le w 10000
  have l4 := il_le w 1000
  have l5 := il_le w 100
  have l6 := il_le w 10
  obtain ⟨σ1, a1, b1, c1⟩ := s_unit h (by omega) w 1000000 (by decide) 5999
  obtain ⟨σ2, a2, b2, c2⟩ := s_unit c1 (by rw [List.length_append]; omega) w 100000 (by decide) 5998
  obtain ⟨σ3, a3, b3, c3⟩ := s_unit c2 (by rw [List.length_append, List.length_append]; omega) w 10000 (by decide) 5997
  obtain ⟨σ4, a4, b4, c4⟩ := s_unit c3 (by rw [List.length_append, List.length_append, List.length_append]; omega) w 1000 (by decide) 5996
  obtain ⟨σ5, a5, b5, c5⟩ := s_unit c4 (by rw [List.length_append, List.length_append, List.length_append, List.length_append]; omega) w 100 (by decide) 5995
  obtain ⟨σ6, a6, b6, c6⟩ := s_unit c5 (by rw [List.length_append, List.length_append, List.length_append, List.length_append, List.length_append]; omega) w 10 (by decide) 5994
  obtain ⟨σ7, a7, b7, c7⟩ := s_unit c6 (by rw [List.length_append, List.length_append, List.length_append, List.length_append, List.length_append, List.length_append]; omega) w 1 (by decide) 5993
  refine ⟨σ7, ?_, (((((b1.tr b2).tr b3).tr b4).tr b5).tr b6).tr b7, ?_⟩
  · unfold fX7_putNumber
    rw [show FU = 5999 + 1 from rfl, a1, show (1000000 : Int32) / 10 = 100000 by decide, a2, show (100000 : Int32) / 10 = 10000 by decide, a3, show (10000 : Int32) / 10 = 1000 by decide, a4, show (1000 : Int32) / 10 = 100 by decide, a5, show (100 : Int32) / 10 = 10 by decide, a6, show (10 : Int32) / 10 = 1 by decide, a7, show (1 : Int32) / 10 = 0 by decide, show (5993 : Nat) = 5992 + 1 from rfl, fX7_putNumber_3, if_pos (show (0 : Int32) ≤ 0 by decide)]
  · unfold numl
    simp only [List.append_assoc] at c7
    exact c7
/-- the reference's unit -/
theorem m_unit (h : MB s W) (w u : Int32) (hu : 1 ≤ u.toInt) (f : Nat) : ∃ s', fX9_writesNumber_20 462 (f + 1) s w u = fX9_writesNumber_20 462 f s' w (u / 10) ∧ Fr s s' ∧ MB s' (W ++ [dgt w u]) := by
  obtain ⟨s1, a1, a2, a3⟩ := h.wr (dgt w u)
  refine ⟨s1, ?_, a2, a3⟩
  unfold dgt at a1
  rw [fX9_writesNumber_20, if_neg (by rw [j_le, jz0]; omega), if_neg (by rw [j_eq, jz0]; omega), a1, j_b, j_nm]
theorem m_up {w u : Int32} (hw : 0 ≤ w.toInt) (hu : 1 ≤ u.toInt) (f : Nat) : fX9_writesNumber_2 462 (f + 1) s w u = if w.toInt / u.toInt ≤ 9 then fX9_writesNumber_20 462 FU s w u else fX9_writesNumber_2 462 f s w (u * 10) := by
  have e9 : (9 : Int32).toInt = 9 := rfl
  rw [fX9_writesNumber_2, if_neg (by rw [j_eq, jz0]; omega)]
  by_cases z : w.toInt / u.toInt ≤ 9
  · rw [if_pos (by rw [j_le, q_div hw hu, e9]; exact z), if_pos z]
  · rw [if_neg (by rw [j_le, q_div hw hu, e9]; exact z), if_neg z, j_nm]
end RB1
