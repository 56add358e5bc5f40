/-! THE RELATION: a placement of the class, what it answers (2) -/
theorem lst_rg (c : Nat → Bool) : ∀ n, -1 ≤ lst c n ∧ lst c n < n ∧ (lst c n = -1 → ∀ i, i < n → c i = false) ∧ (lst c n ≠ -1 → c (lst c n).toNat = true)
  | 0 => ⟨by show (-1 : Int) ≤ -1; omega, by show (-1 : Int) < 0; omega, fun _ i hi => absurd hi (by omega), fun h => absurd rfl h⟩
  | n + 1 => by
    have h := lst_rg c n
    unfold lst
    cases hc : c n
    · simp only [Bool.false_eq_true, if_false]
      refine ⟨h.1, by omega, fun e i hi => ?_, h.2.2.2⟩
      by_cases q : i = n
      · rw [q]; exact hc
      · exact h.2.2.1 e i (by omega)
    · simp only [if_true]
      exact ⟨by omega, by omega, fun e => absurd e (by omega), fun _ => hc⟩
theorem lst_congr {c d : Nat → Bool} : ∀ {n : Nat}, (∀ i, i < n → c i = d i) → lst c n = lst d n
  | 0, _ => rfl
  | n + 1, h => by
    unfold lst
    rw [lst_congr (fun i hi => h i (by omega)), h n (by omega)]
theorem v_ta_rg (V : VW) (g k : Int) : -1 ≤ v_ta V g k ∧ v_ta V g k < 12 := by
  unfold v_ta
  split
  · omega
  · exact fnd_rg _ 12
theorem v_ca_rg (V : VW) (s k : Int) : -1 ≤ v_ca V s k ∧ v_ca V s k < 23 := by
  unfold v_ca
  split
  · omega
  · exact fnd_rg _ 23
theorem v_cc_rg (V : VW) (s : Int) : v_cc V s ≤ 23 := by
  unfold v_cc
  split
  · omega
  · exact cnt_le _ 23
theorem v_tc_rg (V : VW) (s : Int) : v_tc V s ≤ 12 := cnt_le _ 12
theorem t_ta (V : VW) (g k : Int) : (oI (v_ta V g k)).toInt = v_ta V g k := j_oI (by have := v_ta_rg V g k; omega) (by have := v_ta_rg V g k; omega)
theorem t_ca (V : VW) (g k : Int) : (oI (v_ca V g k)).toInt = v_ca V g k := j_oI (by have := v_ca_rg V g k; omega) (by have := v_ca_rg V g k; omega)
theorem t_cc (V : VW) (s : Int) : (oI (v_cc V s)).toInt = v_cc V s := j_oI (by omega) (by have := v_cc_rg V s; omega)
theorem t_tc (V : VW) (s : Int) : (oI (v_tc V s)).toInt = v_tc V s := j_oI (by omega) (by have := v_tc_rg V s; omega)
theorem t_fnd (c : Nat → Bool) {n : Nat} (h : n < 2147483648) : (oI (fnd c n)).toInt = fnd c n := j_oI (by have := fnd_rg c n; omega) (by have := fnd_rg c n; omega)
theorem v_ai_rg (V : VW) (g fr : Int) : -1 ≤ v_ai V g fr ∧ v_ai V g fr < 12 := by
  unfold v_ai
  split
  · split
    · omega
    · exact v_ta_rg _ _ _
  · exact v_ta_rg _ _ _
theorem v_sta_rg (V : VW) (g fr : Int) : -1 ≤ v_sta V g fr ∧ v_sta V g fr < 12 := by
  unfold v_sta
  split
  · omega
  · exact v_ta_rg _ _ _
theorem v_wo_rg (V : VW) (n : Int) : -1 ≤ v_wo V n ∧ v_wo V n < 5 := by
  unfold v_wo
  split
  · omega
  · exact fnd_rg _ 5
theorem t_wo (V : VW) (n : Int) : (oI (v_wo V n)).toInt = v_wo V n := j_oI (by have := v_wo_rg V n; omega) (by have := v_wo_rg V n; omega)
theorem t_ai (V : VW) (g n : Int) : (oI (v_ai V g n)).toInt = v_ai V g n := j_oI (by have := v_ai_rg V g n; omega) (by have := v_ai_rg V g n; omega)
theorem t_sta (V : VW) (g n : Int) : (oI (v_sta V g n)).toInt = v_sta V g n := j_oI (by have := v_sta_rg V g n; omega) (by have := v_sta_rg V g n; omega)
theorem t_pi (V : VW) (w : Int) : (oI (v_pi V w)).toInt = v_pi V w := j_oI (by omega) (by have : v_pi V w ≤ 12 := cnt_le _ 12; omega)
theorem v_top_rg {σ : Sg} {b : Nat} : ∀ (k : Nat) (n : Int), -2147483648 ≤ n ∧ n < 2147483648 → -2147483648 ≤ v_top (pv σ b) k n ∧ v_top (pv σ b) k n < 2147483648
  | 0, n, h => h
  | k + 1, n, h => by
    unfold v_top
    split
    · exact h
    · exact v_top_rg k _ (ga_rg _)
section RD2
variable {σ : Sg} {b : Nat}
theorem s_ai46 (g : Int32) : ∀ (m fuel : Nat) (l : Int32), l.toInt = (m : Int) - 1 → m ≤ 12 → m < fuel → fX1_activeInstead_46 σ b fuel g l = some (oI (if lst (v_ok (pv σ b) g.toInt) m = -1 then -1 else v_ta (pv σ b) g.toInt (lst (v_ok (pv σ b) g.toInt) m)))
  | m, 0, _, _, _, hf => absurd hf (by omega)
  | 0, f + 1, l, hl, _, _ => by
    rw [fX1_activeInstead_46, if_pos (by rw [j_lt, hl, jz0]; decide), lst, if_pos rfl]
    rfl
  | m + 1, f + 1, l, hl, hm, hf => by
    have hl2 : l.toInt = m := by omega
    have hr := v_ta_rg (pv σ b) g.toInt m
    have ih := s_ai46 g m f (l + (-1)) (by rw [j_add (by rw [jm1]; omega) (by rw [jm1]; omega), jm1]; omega) (by omega) (by omega)
    have L0 : v_ok (pv σ b) g.toInt m = false → lst (v_ok (pv σ b) g.toInt) (m + 1) = lst (v_ok (pv σ b) g.toInt) m := fun h => by rw [lst, h, if_neg (by decide)]
    have L1 : v_ok (pv σ b) g.toInt m = true → lst (v_ok (pv σ b) g.toInt) (m + 1) = m := fun h => by rw [lst, h, if_pos rfl]
    rw [fX1_activeInstead_46, if_neg (by rw [j_lt, hl2, jz0]; omega), s_tabAt, j_b, hl2]
    unfold fX1_activeInstead_76
    by_cases e : v_ta (pv σ b) g.toInt m = -1
    · rw [if_pos (by rw [j_eq, t_ta, jm1]; exact e), L0 (by unfold v_ok; simp [e])]
      exact ih
    · rw [if_neg (by rw [j_eq, t_ta, jm1]; exact e), s_isHidden, j_b, t_ta]
      cases hh : v_hd (pv σ b) (v_ta (pv σ b) g.toInt m)
      · rw [if_neg (by decide), L1 (by unfold v_ok; simp [e, hh]), if_neg (by omega)]
      · rw [if_pos rfl, L0 (by unfold v_ok; simp [hh])]
        exact ih
theorem s_activeInstead (g fr : Int32) (h0 : -1 ≤ fr.toInt) (h1 : fr.toInt ≤ 12) : fX1_activeInstead σ b g fr = some (oI (v_ai (pv σ b) g.toInt fr.toInt)) := by
  unfold fX1_activeInstead
  rw [j_nm]
  obtain ⟨i0, hi0⟩ : ∃ i0 : Nat, fr.toInt + 1 = i0 := ⟨(fr.toInt + 1).toNat, by omega⟩
  have hs : fr + 1 = nI i0 := j_eq.mpr (by rw [j_add (by rw [jz1]; omega) (by rw [jz1]; omega), jz1, hi0, j_nI (by omega)])
  rw [hs]
  refine lpx (F := fun n s => fX1_activeInstead_4 σ b n g fr s) (Q := fun r => r = some (oI (v_ai (pv σ b) g.toInt fr.toInt))) (fun i s => s = nI i ∧ i0 ≤ i ∧ ∀ k : Nat, fr.toInt < k → k < i → v_ok (pv σ b) g.toInt k = false) (max 12 i0) ?_ ?_ (max 12 i0 - i0) i0 FU (nI i0) (by omega) (by show _ < 6000; omega) ⟨rfl, Nat.le_refl _, fun k hk hk2 => absurd hk (by omega)⟩
  · rintro n i _ hi ⟨rfl, hge, hv⟩
    have hi12 : i < 12 := by omega
    show fX1_activeInstead_4 σ b (n + 1) g fr (nI i) = _ ∨ _
    have hr := v_ta_rg (pv σ b) g.toInt i
    by_cases e : v_ok (pv σ b) g.toInt i = true
    · left
      have e2 := e
      unfold v_ok at e2
      simp only [Bool.and_eq_true, decide_eq_true_eq, Bool.not_eq_true'] at e2
      rw [fX1_activeInstead_4, if_neg (n_ge 12 (m := 12) rfl hi12 (by decide)), s_tabAt, j_b, j_nI (by omega), if_neg (by rw [j_eq, t_ta, jm1]; exact e2.1), s_isHidden, j_b, t_ta, e2.2, if_neg (by decide)]
      have hf : fnd (fun k => decide (fr.toInt < k) && v_ok (pv σ b) g.toInt k) 12 = i := fnd_at hi12 (by simp [e]; omega) (fun k hk => by
        by_cases q : fr.toInt < k
        · simp [hv k q hk]
        · simp [q])
      unfold v_ai
      rw [hf, if_neg (by omega)]
    · right
      have e' : v_ok (pv σ b) g.toInt i = false := by simpa using e
      refine ⟨nI (i + 1), ⟨rfl, by omega, fun k hk hk2 => ?_⟩, ?_⟩
      · by_cases q : k = i
        · rw [q]; exact e'
        · exact hv k hk (by omega)
      · show fX1_activeInstead_4 σ b (n + 1) g fr (nI i) = fX1_activeInstead_4 σ b n g fr (nI (i + 1))
        rw [fX1_activeInstead_4, if_neg (n_ge 12 (m := 12) rfl hi12 (by decide)), s_tabAt, j_b, j_nI (by omega)]
        unfold fX1_activeInstead_36
        by_cases e2 : v_ta (pv σ b) g.toInt i = -1
        · rw [if_pos (by rw [j_eq, t_ta, jm1]; exact e2), j_s]
        · rw [if_neg (by rw [j_eq, t_ta, jm1]; exact e2), s_isHidden, j_b, t_ta]
          have : v_hd (pv σ b) (v_ta (pv σ b) g.toInt i) = true := by
            unfold v_ok at e'
            simpa [e2] using e'
          rw [this, if_pos rfl, j_s]
  · rintro n _ ⟨rfl, hge, hv⟩
    show fX1_activeInstead_4 σ b (n + 1) g fr (nI (max 12 i0)) = _
    rw [fX1_activeInstead_4, if_pos (by rw [j_le_nI (by omega)]; show (12 : Int) ≤ _; omega), j_nm]
    have hf : fnd (fun k => decide (fr.toInt < k) && v_ok (pv σ b) g.toInt k) 12 = -1 := fnd_no (fun k hk => by
      by_cases q : fr.toInt < k
      · simp [hv k q (by omega)]
      · simp [q])
    unfold v_ai
    rw [hf, if_pos rfl]
    by_cases q : fr.toInt = -1
    · rw [show FU = 5999 + 1 from rfl, fX1_activeInstead_46, if_pos (by rw [j_lt, j_sub (by rw [jz1]; omega) (by rw [jz1]; omega), jz1, jz0]; omega), q]
      rfl
    · exact s_ai46 g fr.toInt.toNat FU (fr - 1) (by rw [j_sub (by rw [jz1]; omega) (by rw [jz1]; omega), jz1]; omega) (by omega) (by show _ < 6000; omega)
theorem s_wo37 (l : Int32) : fX1_windowOf_37 σ b l = some (oI (if l.toInt = -1 then -1 else fnd (fun w => decide (pv σ b 5 w = l.toInt)) 5)) := by
  unfold fX1_windowOf_37
  by_cases e : l = -1
  · subst e
    rw [jm1, if_pos rfl, show FU = 5999 + 1 from rfl, fX1_windowOf_39, if_neg (by decide), if_pos rfl]
    rfl
  · have e' : ¬ l.toInt = -1 := fun q => e (j_eq.mpr q)
    rw [if_neg e']
    refine lp_fnd (F := fun n i => fX1_windowOf_39 σ b n l i) 5 (by decide) ?_ ?_ FU (by decide)
    · intro n i hi
      show fX1_windowOf_39 σ b (n + 1) l (nI i) = _
      rw [fX1_windowOf_39, if_neg (n_ge 5 (m := 5) rfl hi (by decide)), if_neg e, s_atn (by decide) hi, j_b, j_s]
      by_cases q : σ.1 (b + 5) i = l
      · rw [if_pos q, if_pos (by rw [decide_eq_true_eq, pv_5 hi, q])]
      · rw [if_neg q, if_neg (by rw [decide_eq_true_eq, pv_5 hi, ← j_eq]; exact q)]
    · intro n
      show fX1_windowOf_39 σ b (n + 1) l (nI 5) = _
      rw [fX1_windowOf_39, if_pos (n_le 5 (m := 5) rfl (by decide))]
theorem s_wo4 : ∀ (k i fuel : Nat) (l : Int32), i + k = 23 → k < fuel → fX1_windowOf_4 σ b fuel l (nI i) = some (oI (if v_top (pv σ b) k l.toInt = -1 then -1 else fnd (fun w => decide (pv σ b 5 w = v_top (pv σ b) k l.toInt)) 5))
  | _, _, 0, _, _, hf => absurd hf (by omega)
  | 0, i, f + 1, l, hk, _ => by
    rw [fX1_windowOf_4, if_pos (by rw [j_le_nI (by omega)]; show (23 : Int) ≤ _; omega), s_wo37]
    rfl
  | k + 1, i, f + 1, l, hk, hf => by
    rw [fX1_windowOf_4, if_neg (n_ge 23 (m := 23) rfl (by omega) (by decide)), s_v9, j_b, v_top]
    by_cases e : ga (pv σ b 9) 23 l.toInt = -1
    · rw [if_pos (by rw [j_eq, t_ga, jm1]; exact e), s_wo37, if_pos e]
    · rw [if_neg (by rw [j_eq, t_ga, jm1]; exact e), j_b, j_s, s_wo4 k (i + 1) f _ (by omega) (by omega), if_neg e, t_ga]
theorem s_windowOf (l : Int32) : fX1_windowOf σ b l = some (oI (v_wo (pv σ b) l.toInt)) := by
  unfold fX1_windowOf
  exact s_wo4 23 0 FU l rfl (by decide)
theorem s_panesIn (w : Int32) : fX1_panesIn σ b w = some (oI (v_pi (pv σ b) w.toInt)) := by
  unfold fX1_panesIn v_pi
  rw [← j_nIo _ (by have := cnt_le (fun p => decide (pv σ b 13 p ≠ -1) && decide (v_wo (pv σ b) (pv σ b 13 p) = w.toInt)) 12; omega)]
  refine lp_cnt (F := fun n a l => fX1_panesIn_4 σ b n w a l) 12 ?_ ?_ FU (by decide)
  · intro n a i hi
    show fX1_panesIn_4 σ b (n + 1) w a (nI i) = _
    rw [fX1_panesIn_4, if_neg (n_ge 12 (m := 12) rfl hi (by decide)), s_groupOf, j_b, j_nI (by omega), ga_in hi]
    have t13 : (oI (pv σ b 13 i)).toInt = pv σ b 13 i := j_oI (pv_rg _ _ _ _).1 (pv_rg _ _ _ _).2
    unfold fX1_panesIn_37 fX1_panesIn_38
    by_cases q : pv σ b 13 i = -1
    · rw [if_pos (by rw [j_eq, t13, jm1]; exact q), if_neg (by simp [q]), j_nm, j_s]
    · rw [if_neg (by rw [j_eq, t13, jm1]; exact q), j_b, s_windowOf, j_b, t13]
      by_cases q2 : v_wo (pv σ b) (pv σ b 13 i) = w.toInt
      · rw [if_pos (by rw [j_eq, t_wo]; exact q2), if_pos (by simp [q, q2]), j_nm, j_s]
      · rw [if_neg (by rw [j_eq, t_wo]; exact q2), if_neg (by simp [q2]), j_nm, j_s]
  · intro n a
    show fX1_panesIn_4 σ b (n + 1) w a (nI 12) = _
    rw [fX1_panesIn_4, if_pos (n_le 12 (m := 12) rfl (by decide))]
theorem s_windowExists (w : Int32) : fX1_windowExists σ b w = some (v_we (pv σ b) w.toInt) := by
  unfold fX1_windowExists v_we
  by_cases h : w = 0
  · rw [if_pos h, h]
    rfl
  · have h' : ¬ w.toInt = 0 := fun q => h (j_eq.mpr q)
    rw [if_neg h, s_rootOf, j_b]
    by_cases e : ga (pv σ b 5) 5 w.toInt = -1
    · rw [if_pos (by rw [j_eq, t_ga, jm1]; exact e)]
      simp [h', e]
    · rw [if_neg (by rw [j_eq, t_ga, jm1]; exact e)]
      simp [h', e]
theorem s_lowestFreeWindow : fX1_lowestFreeWindow σ b = some (oI (v_lw (pv σ b))) := by
  unfold fX1_lowestFreeWindow v_lw
  refine lpx (F := fun n s => fX1_lowestFreeWindow_2 σ b n s) (Q := fun r => r = some (oI (fnd (fun w => decide (1 ≤ w) && decide (pv σ b 5 w = -1)) 5))) (fun i s => s = nI i ∧ 1 ≤ i ∧ ∀ k, k < i → (decide (1 ≤ k) && decide (pv σ b 5 k = -1)) = false) 5 ?_ ?_ 4 1 FU 1 rfl (by decide) ⟨rfl, Nat.le_refl _, fun k hk => by simp [show ¬ 1 ≤ k by omega]⟩
  · rintro n i _ hi ⟨rfl, hge, hv⟩
    show fX1_lowestFreeWindow_2 σ b (n + 1) (nI i) = _ ∨ _
    rw [fX1_lowestFreeWindow_2, if_neg (n_ge 5 (m := 5) rfl hi (by decide)), s_rootOf, j_b, j_nI (by omega), ga_in hi]
    have t5 : (oI (pv σ b 5 i)).toInt = pv σ b 5 i := j_oI (pv_rg _ _ _ _).1 (pv_rg _ _ _ _).2
    by_cases q : pv σ b 5 i = -1
    · left
      rw [if_pos (by rw [j_eq, t5, jm1]; exact q), fnd_at hi (by simp [q, hge]) hv, j_nIo _ (by omega)]
    · right
      rw [if_neg (by rw [j_eq, t5, jm1]; exact q)]
      refine ⟨nI (i + 1), ⟨rfl, by omega, fun k hk => ?_⟩, by rw [j_s]⟩
      by_cases e : k = i
      · simp [e, q]
      · exact hv k (by omega)
  · rintro n _ ⟨rfl, hge, hv⟩
    show fX1_lowestFreeWindow_2 σ b (n + 1) (nI 5) = _
    rw [fX1_lowestFreeWindow_2, if_pos (n_le 5 (m := 5) rfl (by decide)), fnd_no hv]
    rfl
theorem s_shownCount (s : Int32) : fX1_shownCount σ b s = some (oI (v_sc (pv σ b) s.toInt)) := by
  unfold fX1_shownCount v_sc
  rw [← j_nIo _ (by have := cnt_le (fun p => decide (pv σ b 13 p = s.toInt) && !v_hd (pv σ b) p) 12; omega)]
  refine lp_cnt (F := fun n a l => fX1_shownCount_4 σ b n s a l) 12 ?_ ?_ FU (by decide)
  · intro n a i hi
    show fX1_shownCount_4 σ b (n + 1) s a (nI i) = _
    rw [fX1_shownCount_4, if_neg (n_ge 12 (m := 12) rfl hi (by decide)), s_atn (by decide) hi, j_b]
    unfold fX1_shownCount_35 fX1_shownCount_36
    by_cases q : σ.1 (b + 13) i = s
    · rw [if_pos q, s_isHidden, j_b, j_nI (by omega)]
      have q' : pv σ b 13 i = s.toInt := by rw [pv_13 hi, q]
      cases hh : v_hd (pv σ b) i
      · rw [if_neg (by decide), if_pos (by simp [q']), j_nm, j_s]
      · rw [if_pos rfl, if_neg (by simp), j_nm, j_s]
    · have q' : ¬ pv σ b 13 i = s.toInt := by rw [pv_13 hi, ← j_eq]; exact q
      rw [if_neg q, if_neg (by simp [q']), j_nm, j_s]
  · intro n a
    show fX1_shownCount_4 σ b (n + 1) s a (nI 12) = _
    rw [fX1_shownCount_4, if_pos (n_le 12 (m := 12) rfl (by decide))]
theorem s_shownTabAt (g k : Int32) : fX1_shownTabAt σ b g k = some (oI (v_sta (pv σ b) g.toInt k.toInt)) := by
  unfold fX1_shownTabAt
  refine lpx (F := fun n (s : Int32 × Int32) => fX1_shownTabAt_5 σ b n g k s.1 s.2) (Q := fun r => r = some (oI (v_sta (pv σ b) g.toInt k.toInt))) (fun i s => s = (nI (cnt (v_ok (pv σ b) g.toInt) i), nI i) ∧ ∀ m, m < i → (v_ok (pv σ b) g.toInt m && decide ((cnt (v_ok (pv σ b) g.toInt) m : Int) = k.toInt)) = false) 12 ?_ ?_ 12 0 FU (0, 0) rfl (by decide) ⟨rfl, fun m hm => absurd hm (by omega)⟩
  · rintro n i _ hi ⟨rfl, hv⟩
    have hc := cnt_le (v_ok (pv σ b) g.toInt) i
    have hr := v_ta_rg (pv σ b) g.toInt i
    show fX1_shownTabAt_5 σ b (n + 1) g k (nI (cnt (v_ok (pv σ b) g.toInt) i)) (nI i) = _ ∨ _
    rw [fX1_shownTabAt_5, if_neg (n_ge 12 (m := 12) rfl hi (by decide)), s_tabAt, j_b, j_nI (n := i) (by omega)]
    unfold fX1_shownTabAt_47
    by_cases e : v_ok (pv σ b) g.toInt i = true
    · have e2 := e
      unfold v_ok at e2
      simp only [Bool.and_eq_true, decide_eq_true_eq, Bool.not_eq_true'] at e2
      rw [if_neg (by rw [j_eq, t_ta, jm1]; exact e2.1), s_isHidden, j_b, t_ta, e2.2, if_neg (by decide)]
      by_cases q : (cnt (v_ok (pv σ b) g.toInt) i : Int) = k.toInt
      · left
        rw [if_pos (by rw [j_eq, j_nI (by omega)]; exact q)]
        unfold v_sta
        rw [fnd_at hi (by simp [e, q]) hv, if_neg (by omega)]
      · right
        rw [if_neg (by rw [j_eq, j_nI (by omega)]; exact q)]
        refine ⟨_, ⟨rfl, fun m hm => ?_⟩, ?_⟩
        · by_cases w : m = i
          · simp [w, q]
          · exact hv m (by omega)
        · show fX1_shownTabAt_5 σ b n g k (nI (cnt (v_ok (pv σ b) g.toInt) i) + 1) (nI i + 1) = fX1_shownTabAt_5 σ b n g k (nI (cnt (v_ok (pv σ b) g.toInt) i + _)) (nI (i + 1))
          rw [j_s, j_s, if_pos e]
    · right
      have e' : v_ok (pv σ b) g.toInt i = false := by simpa using e
      refine ⟨_, ⟨rfl, fun m hm => ?_⟩, ?_⟩
      · by_cases w : m = i
        · simp [w, e']
        · exact hv m (by omega)
      · show _ = fX1_shownTabAt_5 σ b n g k (nI (cnt (v_ok (pv σ b) g.toInt) i + _)) (nI (i + 1))
        rw [if_neg e, Nat.add_zero]
        by_cases e2 : v_ta (pv σ b) g.toInt i = -1
        · rw [if_pos (by rw [j_eq, t_ta, jm1]; exact e2), j_s]
        · rw [if_neg (by rw [j_eq, t_ta, jm1]; exact e2), s_isHidden, j_b, t_ta]
          have : v_hd (pv σ b) (v_ta (pv σ b) g.toInt i) = true := by
            unfold v_ok at e'
            simpa [e2] using e'
          rw [this, if_pos rfl, j_s]
  · rintro n _ ⟨rfl, hv⟩
    show fX1_shownTabAt_5 σ b (n + 1) g k _ (nI 12) = _
    rw [fX1_shownTabAt_5, if_pos (n_le 12 (m := 12) rfl (by decide))]
    unfold v_sta
    rw [fnd_no hv, if_pos rfl]
    rfl
theorem s_windowContains (w x y : Int32) : ∃ r, fX1_windowContains σ b w x y = some r := by
  unfold fX1_windowContains
  rw [s_v1, j_b, s_v2, j_b, s_v3, j_b, s_v4, j_b]
  split
  · exact ⟨_, rfl⟩
  · split
    · exact ⟨_, rfl⟩
    · split
      · exact ⟨_, rfl⟩
      · split <;> exact ⟨_, rfl⟩
end RD2
