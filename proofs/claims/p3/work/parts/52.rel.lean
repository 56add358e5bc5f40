/-! THE RELATION: a placement of the class, what it answers -/
abbrev VW : Type := Nat → Nat → Int
def wd (j : Nat) : Nat := match j with
  | 1 => 5 | 2 => 5 | 3 => 5 | 4 => 5 | 5 => 5 | 6 => 2 | 7 => 12 | 8 => 23 | 9 => 23 | 10 => 23 | 11 => 23 | 12 => 23 | 13 => 12 | 14 => 12 | 15 => 12 | _ => 0
def inr (j i : Nat) : Bool := decide (i < wd j) && !(j == 6 && i == 0)
def pv (σ : Sg) (b : Nat) : VW := fun j i => if inr j i then (σ.1 (b + j) i).toInt else 0
theorem wd_hi {j : Nat} (h : j = 0 ∨ 16 ≤ j) : wd j = 0 := by
  unfold wd
  split <;> first | rfl | omega
theorem inr_hi {j : Nat} (i : Nat) (h : j = 0 ∨ 16 ≤ j) : inr j i = false := by
  unfold inr
  rw [wd_hi h]
  simp
theorem inr_8 (i : Nat) : inr 8 i = decide (i < 23) := by simp [inr, wd]
theorem inr_9 (i : Nat) : inr 9 i = decide (i < 23) := by simp [inr, wd]
theorem inr_10 (i : Nat) : inr 10 i = decide (i < 23) := by simp [inr, wd]
theorem inr_11 (i : Nat) : inr 11 i = decide (i < 23) := by simp [inr, wd]
theorem inr_12 (i : Nat) : inr 12 i = decide (i < 23) := by simp [inr, wd]
theorem inr_13 (i : Nat) : inr 13 i = decide (i < 12) := by simp [inr, wd]
theorem inr_14 (i : Nat) : inr 14 i = decide (i < 12) := by simp [inr, wd]
theorem inr_15 (i : Nat) : inr 15 i = decide (i < 12) := by simp [inr, wd]
theorem inr_1 (i : Nat) : inr 1 i = decide (i < 5) := by simp [inr, wd]
theorem inr_2 (i : Nat) : inr 2 i = decide (i < 5) := by simp [inr, wd]
theorem inr_3 (i : Nat) : inr 3 i = decide (i < 5) := by simp [inr, wd]
theorem inr_4 (i : Nat) : inr 4 i = decide (i < 5) := by simp [inr, wd]
theorem inr_5 (i : Nat) : inr 5 i = decide (i < 5) := by simp [inr, wd]
theorem inr_7 (i : Nat) : inr 7 i = decide (i < 12) := by simp [inr, wd]
theorem inr_6 (i : Nat) : inr 6 i = decide (i = 1) := by
  by_cases h : i = 1
  · simp [inr, wd, h]
  · by_cases h0 : i = 0
    · simp [inr, wd, h0]
    · have h2 : ¬ i < 2 := by omega
      simp [inr, wd, h, h2]
theorem pv_in {σ : Sg} {b j i : Nat} (h : inr j i = true) : pv σ b j i = (σ.1 (b + j) i).toInt := if_pos h
theorem pv_no {σ : Sg} {b j i : Nat} (h : inr j i = false) : pv σ b j i = 0 := if_neg (by rw [h]; decide)
theorem pv_rg (σ : Sg) (b j i : Nat) : -2147483648 ≤ pv σ b j i ∧ pv σ b j i < 2147483648 := by
  unfold pv
  split
  · exact ⟨j_lo _, j_hi _⟩
  · omega
theorem ga_rg {σ : Sg} {b j n : Nat} (p : Int) : -2147483648 ≤ ga (pv σ b j) n p ∧ ga (pv σ b j) n p < 2147483648 := by
  unfold ga
  split
  · exact pv_rg σ b j _
  · omega
theorem t_ga {σ : Sg} {b j n : Nat} {p : Int} : (oI (ga (pv σ b j) n p)).toInt = ga (pv σ b j) n p := j_oI (ga_rg p).1 (ga_rg p).2
theorem s_v {σ : Sg} {b j n : Nat} (hn : n < 2147483648) (h : ∀ i, i < n → inr j i = true) (p : Int32) : fX8_at σ (b + j) n p = some (oI (ga (pv σ b j) n p.toInt)) := by
  rw [s_at hn]
  congr 2
  unfold ga
  by_cases q : 0 ≤ p.toInt ∧ p.toInt < n
  · rw [if_pos q, if_pos q, pv_in (h _ (by omega))]
  · rw [if_neg q, if_neg q]
theorem s_v1 {σ : Sg} {b : Nat} (p : Int32) : fX8_at σ (b + 1) 5 p = some (oI (ga (pv σ b 1) 5 p.toInt)) := s_v (by decide) (fun i h => by rw [inr_1]; exact decide_eq_true h) p
theorem s_v2 {σ : Sg} {b : Nat} (p : Int32) : fX8_at σ (b + 2) 5 p = some (oI (ga (pv σ b 2) 5 p.toInt)) := s_v (by decide) (fun i h => by rw [inr_2]; exact decide_eq_true h) p
theorem s_v3 {σ : Sg} {b : Nat} (p : Int32) : fX8_at σ (b + 3) 5 p = some (oI (ga (pv σ b 3) 5 p.toInt)) := s_v (by decide) (fun i h => by rw [inr_3]; exact decide_eq_true h) p
theorem s_v4 {σ : Sg} {b : Nat} (p : Int32) : fX8_at σ (b + 4) 5 p = some (oI (ga (pv σ b 4) 5 p.toInt)) := s_v (by decide) (fun i h => by rw [inr_4]; exact decide_eq_true h) p
theorem s_v5 {σ : Sg} {b : Nat} (p : Int32) : fX8_at σ (b + 5) 5 p = some (oI (ga (pv σ b 5) 5 p.toInt)) := s_v (by decide) (fun i h => by rw [inr_5]; exact decide_eq_true h) p
theorem s_v8 {σ : Sg} {b : Nat} (p : Int32) : fX8_at σ (b + 8) 23 p = some (oI (ga (pv σ b 8) 23 p.toInt)) := s_v (by decide) (fun i h => by rw [inr_8]; exact decide_eq_true h) p
theorem s_v9 {σ : Sg} {b : Nat} (p : Int32) : fX8_at σ (b + 9) 23 p = some (oI (ga (pv σ b 9) 23 p.toInt)) := s_v (by decide) (fun i h => by rw [inr_9]; exact decide_eq_true h) p
theorem s_v10 {σ : Sg} {b : Nat} (p : Int32) : fX8_at σ (b + 10) 23 p = some (oI (ga (pv σ b 10) 23 p.toInt)) := s_v (by decide) (fun i h => by rw [inr_10]; exact decide_eq_true h) p
theorem s_v11 {σ : Sg} {b : Nat} (p : Int32) : fX8_at σ (b + 11) 23 p = some (oI (ga (pv σ b 11) 23 p.toInt)) := s_v (by decide) (fun i h => by rw [inr_11]; exact decide_eq_true h) p
theorem s_v12 {σ : Sg} {b : Nat} (p : Int32) : fX8_at σ (b + 12) 23 p = some (oI (ga (pv σ b 12) 23 p.toInt)) := s_v (by decide) (fun i h => by rw [inr_12]; exact decide_eq_true h) p
theorem s_v13 {σ : Sg} {b : Nat} (p : Int32) : fX8_at σ (b + 13) 12 p = some (oI (ga (pv σ b 13) 12 p.toInt)) := s_v (by decide) (fun i h => by rw [inr_13]; exact decide_eq_true h) p
theorem s_v14 {σ : Sg} {b : Nat} (p : Int32) : fX8_at σ (b + 14) 12 p = some (oI (ga (pv σ b 14) 12 p.toInt)) := s_v (by decide) (fun i h => by rw [inr_14]; exact decide_eq_true h) p
theorem s_v15 {σ : Sg} {b : Nat} (p : Int32) : fX8_at σ (b + 15) 12 p = some (oI (ga (pv σ b 15) 12 p.toInt)) := s_v (by decide) (fun i h => by rw [inr_15]; exact decide_eq_true h) p
theorem pv_8 {σ : Sg} {b i : Nat} (h : i < 23) : pv σ b 8 i = (σ.1 (b + 8) i).toInt := pv_in (by rw [inr_8]; exact decide_eq_true h)
theorem pv_9 {σ : Sg} {b i : Nat} (h : i < 23) : pv σ b 9 i = (σ.1 (b + 9) i).toInt := pv_in (by rw [inr_9]; exact decide_eq_true h)
theorem pv_10 {σ : Sg} {b i : Nat} (h : i < 23) : pv σ b 10 i = (σ.1 (b + 10) i).toInt := pv_in (by rw [inr_10]; exact decide_eq_true h)
theorem pv_11 {σ : Sg} {b i : Nat} (h : i < 23) : pv σ b 11 i = (σ.1 (b + 11) i).toInt := pv_in (by rw [inr_11]; exact decide_eq_true h)
theorem pv_12 {σ : Sg} {b i : Nat} (h : i < 23) : pv σ b 12 i = (σ.1 (b + 12) i).toInt := pv_in (by rw [inr_12]; exact decide_eq_true h)
theorem pv_13 {σ : Sg} {b i : Nat} (h : i < 12) : pv σ b 13 i = (σ.1 (b + 13) i).toInt := pv_in (by rw [inr_13]; exact decide_eq_true h)
theorem pv_14 {σ : Sg} {b i : Nat} (h : i < 12) : pv σ b 14 i = (σ.1 (b + 14) i).toInt := pv_in (by rw [inr_14]; exact decide_eq_true h)
theorem pv_15 {σ : Sg} {b i : Nat} (h : i < 12) : pv σ b 15 i = (σ.1 (b + 15) i).toInt := pv_in (by rw [inr_15]; exact decide_eq_true h)
theorem pv_5 {σ : Sg} {b i : Nat} (h : i < 5) : pv σ b 5 i = (σ.1 (b + 5) i).toInt := pv_in (by rw [inr_5]; exact decide_eq_true h)
theorem jm1 : (-1 : Int32).toInt = -1 := rfl
theorem jz0 : (0 : Int32).toInt = 0 := rfl
theorem jz1 : (1 : Int32).toInt = 1 := rfl
theorem n_ge (a : Int32) {m i : Nat} (ha : a.toInt = m) (hi : i < m) (hm : m < 2147483648) : ¬ a ≤ nI i := by
  rw [j_le, j_nI (by omega), ha]
  omega
theorem n_le (a : Int32) {m : Nat} (ha : a.toInt = m) (hm : m < 2147483648) : a ≤ nI m := by
  rw [j_le, j_nI (by omega), ha]
  omega
def v_hd (V : VW) (p : Int) : Bool := decide (ga (V 15) 12 p = 1)
def v_cc (V : VW) (s : Int) : Nat := if s = -1 then 0 else cnt (fun n => decide (V 9 n = s)) 23
def v_ca (V : VW) (s k : Int) : Int := if s = -1 then -1 else fnd (fun n => decide (V 9 n = s) && decide (V 10 n = k)) 23
def v_tc (V : VW) (g : Int) : Nat := cnt (fun p => decide (V 13 p = g)) 12
def v_ta (V : VW) (g k : Int) : Int := if g = -1 then -1 else fnd (fun p => decide (V 13 p = g) && decide (V 14 p = k)) 12
def v_sc (V : VW) (g : Int) : Nat := cnt (fun p => decide (V 13 p = g) && !v_hd V p) 12
/-- at spot k of the group there is a tab that is shown -/
def v_ok (V : VW) (g : Int) (k : Nat) : Bool := decide (v_ta V g k ≠ -1) && !v_hd V (v_ta V g k)
def lst (c : Nat → Bool) : Nat → Int
  | 0 => -1
  | n + 1 => if c n then n else lst c n
def v_ai (V : VW) (g fr : Int) : Int := if fnd (fun k => decide (fr < k) && v_ok V g k) 12 = -1 then (if lst (v_ok V g) fr.toNat = -1 then -1 else v_ta V g (lst (v_ok V g) fr.toNat)) else v_ta V g (fnd (fun k => decide (fr < k) && v_ok V g k) 12)
def v_sta (V : VW) (g k : Int) : Int := if fnd (fun i => v_ok V g i && decide ((cnt (v_ok V g) i : Int) = k)) 12 = -1 then -1 else v_ta V g (fnd (fun i => v_ok V g i && decide ((cnt (v_ok V g) i : Int) = k)) 12)
def v_top (V : VW) : Nat → Int → Int
  | 0, n => n
  | k + 1, n => if ga (V 9) 23 n = -1 then n else v_top V k (ga (V 9) 23 n)
def v_wo (V : VW) (n : Int) : Int := if v_top V 23 n = -1 then -1 else fnd (fun w => decide (V 5 w = v_top V 23 n)) 5
def v_pi (V : VW) (w : Int) : Nat := cnt (fun p => decide (V 13 p ≠ -1) && decide (v_wo V (V 13 p) = w)) 12
def v_we (V : VW) (w : Int) : Bool := decide (w = 0) || decide (ga (V 5) 5 w ≠ -1)
def v_lw (V : VW) : Int := fnd (fun w => decide (1 ≤ w) && decide (V 5 w = -1)) 5
def v_mn (V : VW) : Int := fnd (fun n => decide (V 8 n = 3)) 23
section RD
variable {σ : Sg} {b : Nat}
theorem s_groupOf (p : Int32) : fX1_groupOf σ b p = some (oI (ga (pv σ b 13) 12 p.toInt)) := by
  unfold fX1_groupOf
  rw [s_v13, j_b]
theorem s_spotOf (p : Int32) : fX1_spotOf σ b p = some (oI (ga (pv σ b 14) 12 p.toInt)) := by
  unfold fX1_spotOf
  rw [s_v14, j_b]
theorem s_rootOf (p : Int32) : fX1_rootOf σ b p = some (oI (ga (pv σ b 5) 5 p.toInt)) := by
  unfold fX1_rootOf
  rw [s_v5, j_b]
theorem s_kindOf (p : Int32) : fX1_kindOf σ b p = some (oI (ga (pv σ b 8) 23 p.toInt)) := by
  unfold fX1_kindOf
  rw [s_v8, j_b]
theorem s_parentOf (p : Int32) : fX1_parentOf σ b p = some (oI (ga (pv σ b 9) 23 p.toInt)) := by
  unfold fX1_parentOf
  rw [s_v9, j_b]
theorem s_placeOf (p : Int32) : fX1_placeOf σ b p = some (oI (ga (pv σ b 10) 23 p.toInt)) := by
  unfold fX1_placeOf
  rw [s_v10, j_b]
theorem s_weightOf (p : Int32) : fX1_weightOf σ b p = some (oI (ga (pv σ b 11) 23 p.toInt)) := by
  unfold fX1_weightOf
  rw [s_v11, j_b]
theorem s_activeOf (p : Int32) : fX1_activeOf σ b p = some (oI (ga (pv σ b 12) 23 p.toInt)) := by
  unfold fX1_activeOf
  rw [s_v12, j_b]
theorem s_isHidden (p : Int32) : fX1_isHidden σ b p = some (v_hd (pv σ b) p.toInt) := by
  unfold fX1_isHidden v_hd
  rw [s_v15, j_b]
  by_cases h : ga (pv σ b 15) 12 p.toInt = 1
  · rw [if_pos (by rw [j_eq, t_ga]; exact h), decide_eq_true h]
  · rw [if_neg (by rw [j_eq, t_ga]; exact h), decide_eq_false h]
theorem s_childCount (s : Int32) : fX1_childCount σ b s = some (oI (v_cc (pv σ b) s.toInt)) := by
  unfold fX1_childCount v_cc
  by_cases e : s = -1
  · subst e
    rw [jm1, if_pos rfl, show FU = 5999 + 1 from rfl, fX1_childCount_4, if_neg (by decide), if_pos rfl]
    rfl
  · have e' : ¬ s.toInt = -1 := fun q => e (j_eq.mpr q)
    rw [if_neg e', ← j_nIo _ (by have := cnt_le (fun n => decide (pv σ b 9 n = s.toInt)) 23; omega)]
    refine lp_cnt (F := fun n a l => fX1_childCount_4 σ b n s a l) 23 ?_ ?_ FU (by decide)
    · intro n a i hi
      show fX1_childCount_4 σ b (n + 1) s a (nI i) = _
      rw [fX1_childCount_4, if_neg (n_ge 23 (m := 23) rfl hi (by decide)), if_neg e, s_atn (by decide) hi, j_b]
      unfold fX1_childCount_33
      by_cases q : σ.1 (b + 9) i = s
      · rw [if_pos q, if_pos (by rw [decide_eq_true_eq, pv_9 hi, q]), j_nm, j_s]
      · rw [if_neg q, if_neg (by rw [decide_eq_true_eq, pv_9 hi, ← j_eq]; exact q), j_nm, j_s]
    · intro n a
      show fX1_childCount_4 σ b (n + 1) s a (nI 23) = _
      rw [fX1_childCount_4, if_pos (n_le 23 (m := 23) rfl (by decide))]
theorem s_childAt (s k : Int32) : fX1_childAt σ b s k = some (oI (v_ca (pv σ b) s.toInt k.toInt)) := by
  unfold fX1_childAt v_ca
  by_cases e : s = -1
  · subst e
    rw [jm1, if_pos rfl, show FU = 5999 + 1 from rfl, fX1_childAt_2, if_neg (by decide), if_pos rfl]
    rfl
  · have e' : ¬ s.toInt = -1 := fun q => e (j_eq.mpr q)
    rw [if_neg e']
    refine lp_fnd (F := fun n l => fX1_childAt_2 σ b n s k l) 23 (by decide) ?_ ?_ FU (by decide)
    · intro n i hi
      show fX1_childAt_2 σ b (n + 1) s k (nI i) = _
      rw [fX1_childAt_2, if_neg (n_ge 23 (m := 23) rfl hi (by decide)), if_neg e, s_atn (by decide) hi, j_b]
      unfold fX1_childAt_39
      rw [pv_9 hi, pv_10 hi]
      by_cases q : σ.1 (b + 9) i = s
      · rw [if_pos q, s_atn (by decide) hi, j_b, q, j_s]
        by_cases q2 : σ.1 (b + 10) i = k
        · rw [if_pos q2, q2]
          simp
        · rw [if_neg q2, if_neg (by simp [← j_eq, q2])]
      · rw [if_neg q, if_neg (by simp [← j_eq, q]), j_s]
    · intro n
      show fX1_childAt_2 σ b (n + 1) s k (nI 23) = _
      rw [fX1_childAt_2, if_pos (n_le 23 (m := 23) rfl (by decide))]
theorem s_tabCount (s : Int32) : fX1_tabCount σ b s = some (oI (v_tc (pv σ b) s.toInt)) := by
  unfold fX1_tabCount v_tc
  rw [← j_nIo _ (by have := cnt_le (fun n => decide (pv σ b 13 n = s.toInt)) 12; omega)]
  refine lp_cnt (F := fun n a l => fX1_tabCount_4 σ b n s a l) 12 ?_ ?_ FU (by decide)
  · intro n a i hi
    show fX1_tabCount_4 σ b (n + 1) s a (nI i) = _
    rw [fX1_tabCount_4, if_neg (n_ge 12 (m := 12) rfl hi (by decide)), s_atn (by decide) hi, j_b]
    unfold fX1_tabCount_28
    by_cases q : σ.1 (b + 13) i = s
    · rw [if_pos q, if_pos (by rw [decide_eq_true_eq, pv_13 hi, q]), j_nm, j_s]
    · rw [if_neg q, if_neg (by rw [decide_eq_true_eq, pv_13 hi, ← j_eq]; exact q), j_nm, j_s]
  · intro n a
    show fX1_tabCount_4 σ b (n + 1) s a (nI 12) = _
    rw [fX1_tabCount_4, if_pos (n_le 12 (m := 12) rfl (by decide))]
theorem s_tabAt (s k : Int32) : fX1_tabAt σ b s k = some (oI (v_ta (pv σ b) s.toInt k.toInt)) := by
  unfold fX1_tabAt v_ta
  by_cases e : s = -1
  · subst e
    rw [jm1, if_pos rfl, show FU = 5999 + 1 from rfl, fX1_tabAt_2, if_neg (by decide), if_pos rfl]
    rfl
  · have e' : ¬ s.toInt = -1 := fun q => e (j_eq.mpr q)
    rw [if_neg e']
    refine lp_fnd (F := fun n l => fX1_tabAt_2 σ b n s k l) 12 (by decide) ?_ ?_ FU (by decide)
    · intro n i hi
      show fX1_tabAt_2 σ b (n + 1) s k (nI i) = _
      rw [fX1_tabAt_2, if_neg (n_ge 12 (m := 12) rfl hi (by decide)), if_neg e, s_atn (by decide) hi, j_b]
      unfold fX1_tabAt_39
      rw [pv_13 hi, pv_14 hi]
      by_cases q : σ.1 (b + 13) i = s
      · rw [if_pos q, s_atn (by decide) hi, j_b, q, j_s]
        by_cases q2 : σ.1 (b + 14) i = k
        · rw [if_pos q2, q2]
          simp
        · rw [if_neg q2, if_neg (by simp [← j_eq, q2])]
      · rw [if_neg q, if_neg (by simp [← j_eq, q]), j_s]
    · intro n
      show fX1_tabAt_2 σ b (n + 1) s k (nI 12) = _
      rw [fX1_tabAt_2, if_pos (n_le 12 (m := 12) rfl (by decide))]
end RD
