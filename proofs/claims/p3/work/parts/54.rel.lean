/-! THE RELATION: a placement of the class, what it does -/
def up (V : VW) (j : Nat) (p x : Int) : VW := fun j' i => if j' = j ∧ (i : Int) = p ∧ inr j i = true then x else V j' i
theorem up_ne {V : VW} {j j' : Nat} {p x : Int} (h : j' ≠ j) : up V j p x j' = V j' := by
  funext i
  exact if_neg (fun q => h q.1)
theorem up_m1 {V : VW} {j : Nat} {x : Int} : up V j (-1) x = V := by
  funext j' i
  exact if_neg (fun q => by omega)
theorem up_at {V : VW} {j p : Nat} {x : Int} (i : Nat) (h : inr j p = true) : up V j p x j i = if i = p then x else V j i := by
  unfold up
  by_cases q : i = p
  · subst q
    rw [if_pos ⟨rfl, rfl, h⟩, if_pos rfl]
  · rw [if_neg (fun w => q (by omega)), if_neg q]
def wr (x : Int) : Int := (oI x).toInt
theorem wr_id {x : Int} (h0 : -2147483648 ≤ x) (h1 : x < 2147483648) : wr x = x := j_oI h0 h1
theorem wr_add (a b : Int32) : (a + b).toInt = wr (a.toInt + b.toInt) := by
  show _ = (Int32.ofInt (a.toInt + b.toInt)).toInt
  rw [Int32.ofInt_add, Int32.ofInt_toInt, Int32.ofInt_toInt]
theorem wr_sub (a b : Int32) : (a - b).toInt = wr (a.toInt - b.toInt) := by
  show _ = (Int32.ofInt (a.toInt - b.toInt)).toInt
  rw [Int32.ofInt_sub, Int32.ofInt_toInt, Int32.ofInt_toInt]
/-- what put leaves -/
def pt (σ : Sg) (c n : Nat) (p v : Int32) : Sg := if 0 ≤ p.toInt ∧ p.toInt < n then su σ c p.toInt.toNat v else σ
theorem s_pt {σ : Sg} {c n : Nat} (hn : n < 2147483648) (p v : Int32) : fX8_put σ c n p v = some (pt σ c n p v) := s_put hn p v
theorem pt_out {σ : Sg} {c n : Nat} {p v : Int32} : Out σ (pt σ c n p v) c c := by
  unfold pt
  split
  · exact su_out
  · exact Out.rf
theorem pv_def (σ : Sg) (b j i : Nat) : pv σ b j i = if inr j i = true then (σ.1 (b + j) i).toInt else 0 := rfl
theorem up_def (V : VW) (j : Nat) (p x : Int) (j' i : Nat) : up V j p x j' i = if j' = j ∧ (i : Int) = p ∧ inr j i = true then x else V j' i := rfl
theorem pv_su {σ : Sg} {b j i : Nat} {v : Int32} {j' i' : Nat} (h : ¬ (j' = j ∧ i' = i)) : pv (su σ (b + j) i v) b j' i' = pv σ b j' i' := by
  rw [pv_def, pv_def, su_at, if_neg (c := b + j' = b + j ∧ i' = i) (fun z => h ⟨by omega, z.2⟩)]
theorem pv_pt {σ : Sg} {b j n : Nat} {p v : Int32} (h : ∀ i, inr j i = decide (i < n)) : pv (pt σ (b + j) n p v) b = up (pv σ b) j p.toInt v.toInt := by
  funext j' i
  rw [up_def]
  unfold pt
  by_cases q : 0 ≤ p.toInt ∧ p.toInt < n
  · rw [if_pos q]
    by_cases e : j' = j ∧ (i : Int) = p.toInt ∧ inr j i = true
    · obtain ⟨rfl, e1, e2⟩ := e
      rw [pv_def, if_pos e2, if_pos ⟨rfl, e1, e2⟩, su_at, if_pos ⟨rfl, by omega⟩]
    · rw [if_neg e]
      by_cases w : inr j' i = true
      · refine pv_su (fun z => ?_)
        obtain ⟨rfl, h2⟩ := z
        exact e ⟨rfl, by omega, w⟩
      · rw [pv_def, pv_def, if_neg w, if_neg w]
  · rw [if_neg q, if_neg]
    rintro ⟨_, h1, h2⟩
    rw [h, decide_eq_true_eq] at h2
    exact q (by omega)
theorem p_v1 {σ : Sg} {b : Nat} {p v : Int32} : pv (pt σ (b + 1) 5 p v) b = up (pv σ b) 1 p.toInt v.toInt := pv_pt inr_1
theorem p_v2 {σ : Sg} {b : Nat} {p v : Int32} : pv (pt σ (b + 2) 5 p v) b = up (pv σ b) 2 p.toInt v.toInt := pv_pt inr_2
theorem p_v3 {σ : Sg} {b : Nat} {p v : Int32} : pv (pt σ (b + 3) 5 p v) b = up (pv σ b) 3 p.toInt v.toInt := pv_pt inr_3
theorem p_v4 {σ : Sg} {b : Nat} {p v : Int32} : pv (pt σ (b + 4) 5 p v) b = up (pv σ b) 4 p.toInt v.toInt := pv_pt inr_4
theorem p_v5 {σ : Sg} {b : Nat} {p v : Int32} : pv (pt σ (b + 5) 5 p v) b = up (pv σ b) 5 p.toInt v.toInt := pv_pt inr_5
theorem p_v8 {σ : Sg} {b : Nat} {p v : Int32} : pv (pt σ (b + 8) 23 p v) b = up (pv σ b) 8 p.toInt v.toInt := pv_pt inr_8
theorem p_v9 {σ : Sg} {b : Nat} {p v : Int32} : pv (pt σ (b + 9) 23 p v) b = up (pv σ b) 9 p.toInt v.toInt := pv_pt inr_9
theorem p_v10 {σ : Sg} {b : Nat} {p v : Int32} : pv (pt σ (b + 10) 23 p v) b = up (pv σ b) 10 p.toInt v.toInt := pv_pt inr_10
theorem p_v11 {σ : Sg} {b : Nat} {p v : Int32} : pv (pt σ (b + 11) 23 p v) b = up (pv σ b) 11 p.toInt v.toInt := pv_pt inr_11
theorem p_v12 {σ : Sg} {b : Nat} {p v : Int32} : pv (pt σ (b + 12) 23 p v) b = up (pv σ b) 12 p.toInt v.toInt := pv_pt inr_12
theorem p_v13 {σ : Sg} {b : Nat} {p v : Int32} : pv (pt σ (b + 13) 12 p v) b = up (pv σ b) 13 p.toInt v.toInt := pv_pt inr_13
theorem p_v14 {σ : Sg} {b : Nat} {p v : Int32} : pv (pt σ (b + 14) 12 p v) b = up (pv σ b) 14 p.toInt v.toInt := pv_pt inr_14
theorem p_v15 {σ : Sg} {b : Nat} {p v : Int32} : pv (pt σ (b + 15) 12 p v) b = up (pv σ b) 15 p.toInt v.toInt := pv_pt inr_15
theorem pt_o {σ : Sg} {b j n : Nat} {p v : Int32} (h : 1 ≤ j ∧ j ≤ 15) : Out σ (pt σ (b + j) n p v) (b + 1) (b + 15) := pt_out.mo (by omega) (by omega)
/-- it does V' to the placement at b, and nothing else -/
def Do (F : Option Sg) (σ : Sg) (b : Nat) (V' : VW) : Prop := ∃ σ', F = some σ' ∧ Out σ σ' (b + 1) (b + 15) ∧ pv σ' b = V'
def v_shift (V : VW) (s k d : Int) : VW := fun j i => if j = 10 ∧ i < 23 ∧ s ≠ -1 ∧ V 9 i = s ∧ k ≤ V 10 i then wr (V 10 i + d) else V j i
def v_detach (V : VW) (n : Int) : VW := v_shift (up V 9 n (-1)) (ga (V 9) 23 n) (ga (V 10) 23 n) (-1)
def v_free (V : VW) (n : Int) : VW := up V 8 n 3
def v_repl (V : VW) (old fresh : Int) : VW := if ga (V 9) 23 old = -1 then up V 5 (v_wo V old) fresh else up (up (up (up V 9 old (-1)) 9 fresh (ga (V 9) 23 old)) 10 fresh (ga (V 10) 23 old)) 11 fresh (ga (V 11) 23 old)
def v_attach (V : VW) (n s k w : Int) : VW := if n = -1 then V else if s = -1 then V else up (up (up (v_shift V s k 1) 9 n s) 10 n k) 11 n w
def v_hide (V : VW) (p : Int) : VW := if ga (V 12) 23 (ga (V 13) 12 p) = p then up (up V 15 p 1) 12 (ga (V 13) 12 p) (v_ai (up V 15 p 1) (ga (V 13) 12 p) (ga (V 14) 12 p)) else up V 15 p 1
def v_reveal (V : VW) (p : Int) : VW := if ga (V 12) 23 (ga (V 13) 12 p) = -1 then up (up V 15 p 0) 12 (ga (V 13) 12 p) p else up V 15 p 0
def v_step (old k t : Int) : Int := if old < t ∧ t ≤ k then -1 else if t < old ∧ k ≤ t then 1 else 0
def v_move (V : VW) (p k : Int) : VW := up (fun j i => if j = 14 ∧ i < 12 ∧ V 13 i = ga (V 13) 12 p then wr (V 14 i + v_step (ga (V 14) 12 p) k (V 14 i)) else V j i) 14 p k
def v_join (V : VW) (p g : Int) : VW := up (up (up V 14 p (v_tc V g)) 13 p g) 12 g p
def odp (V : VW) : OD := (V 6 1, V 7)
def v_od (V : VW) (o : OD) : VW := fun j i => if j = 6 then (if i = 1 then o.1 else V 6 i) else if j = 7 then o.2 i else V j i
def v_fin (V : VW) (g s : Int) : VW := if v_cc (v_free (v_detach V g) g) s = 1 then v_free (v_repl (v_detach (v_free (v_detach V g) g) (v_ca (v_free (v_detach V g) g) s 0)) s (v_ca (v_free (v_detach V g) g) s 0)) s else v_free (v_detach V g) g
def v_remg (V : VW) (g : Int) : VW := if ga (V 9) 23 g = -1 then v_fin (v_od (up V 5 (v_wo V g) (-1)) (o_lv (odp V) (v_wo V g))) g (-1) else v_fin V g (ga (V 9) 23 g)
def v_out (V : VW) (p : Int) : VW := up (up (up (v_move (v_hide V p) p (wr (v_tc (v_hide V p) (ga (V 13) 12 p) - 1))) 13 p (-1)) 14 p (-1)) 15 p 0
def v_withdraw (V : VW) (p : Int) : VW := if ga (V 13) 12 p = -1 then V else if v_tc (v_out V p) (ga (V 13) 12 p) = 0 then v_remg (v_out V p) (ga (V 13) 12 p) else v_out V p
def v_dir (side : Int) : Int := if side = 0 ∨ side = 1 then 0 else 1
def v_beh (side : Int) : Int := if side = 1 ∨ side = 3 then 1 else 0
def v_bes1 (V : VW) (t side : Int) (f : Int) (V1 : VW) : VW := v_attach (up V1 11 t (max 1 (wr (ga (V 11) 23 t - wr (Int.tdiv (ga (V 11) 23 t) 2))))) f (ga (V 9) 23 t) (wr (ga (V 10) 23 t + v_beh side)) (max 1 (wr (Int.tdiv (ga (V 11) 23 t) 2)))
def v_bes2 (t side : Int) (f : Int) (V1 : VW) : VW := v_attach (v_attach (v_repl (up V1 8 (v_mn V1) (v_dir side)) t (v_mn V1)) t (v_mn V1) 0 1000) f (v_mn V1) (v_beh side) 1000
def v_bes (V : VW) (t side : Int) : VW := if ga (V 9) 23 t = -1 then v_bes2 t side (v_mn V) (up V 8 (v_mn V) 2) else if ga (up V 8 (v_mn V) 2 8) 23 (ga (V 9) 23 t) = v_dir side then v_bes1 V t side (v_mn V) (up V 8 (v_mn V) 2) else v_bes2 t side (v_mn V) (up V 8 (v_mn V) 2)
section WR
variable {σ : Sg} {b : Nat}
theorem s_shift (s k d : Int32) : Do (fX1_shiftChildren σ b s k d) σ b (v_shift (pv σ b) s.toInt k.toInt d.toInt) := by
  unfold Do fX1_shiftChildren
  by_cases e : s = -1
  · subst e
    rw [show FU = 5999 + 1 from rfl, fX1_shiftChildren_3, if_neg (by decide), if_pos rfl]
    exact ⟨σ, rfl, Out.rf, by funext j i; unfold v_shift; rw [jm1, if_neg (by simp)]⟩
  · have e' : ¬ s.toInt = -1 := fun q => e (j_eq.mpr q)
    refine lp (F := fun n (w : Sg × Int32) => fX1_shiftChildren_3 b n w.1 s k d w.2) (Q := fun r => ∃ σ', r = some σ' ∧ Out σ σ' (b + 1) (b + 15) ∧ pv σ' b = v_shift (pv σ b) s.toInt k.toInt d.toInt) (fun i w => w.2 = nI i ∧ Out σ w.1 (b + 1) (b + 15) ∧ pv w.1 b = fun j m => if m < i then v_shift (pv σ b) s.toInt k.toInt d.toInt j m else pv σ b j m) 23 ?_ ?_ 23 0 FU (σ, 0) rfl (by decide) ⟨rfl, Out.rf, by funext j m; rw [if_neg (by omega)]⟩
    · rintro n i ⟨w, l⟩ hi ⟨rfl, ho, hv⟩
      simp only at ho hv
      have h9 : pv w b 9 i = pv σ b 9 i := by rw [hv]; simp only [Nat.lt_irrefl, if_false]
      have h10 : pv w b 10 i = pv σ b 10 i := by rw [hv]; simp only [Nat.lt_irrefl, if_false]
      have ext : ∀ W : VW, (W 10 i = v_shift (pv σ b) s.toInt k.toInt d.toInt 10 i) → (∀ j m, ¬ (j = 10 ∧ m = i) → W j m = pv w b j m) → W = fun j m => if m < i + 1 then v_shift (pv σ b) s.toInt k.toInt d.toInt j m else pv σ b j m := by
        intro W h1 h2
        funext j m
        by_cases q : j = 10 ∧ m = i
        · obtain ⟨rfl, rfl⟩ := q
          rw [h1, if_pos (by omega)]
        · rw [h2 j m q, hv]
          show (if m < i then _ else _) = _
          by_cases q2 : m < i
          · rw [if_pos q2, if_pos (by omega)]
          · rw [if_neg q2]
            by_cases q3 : m = i
            · subst q3
              rw [if_pos (by omega), v_shift, if_neg (fun z => q ⟨z.1, rfl⟩)]
            · rw [if_neg (by omega)]
      by_cases q : pv σ b 9 i = s.toInt ∧ k.toInt ≤ pv σ b 10 i
      · refine ⟨(su w (b + 10) i (w.1 (b + 10) i + d), nI (i + 1)), ⟨rfl, ho.tr (su_out.mo (by omega) (by omega)), ext _ ?_ ?_⟩, ?_⟩
        · show pv (su w (b + 10) i (w.1 (b + 10) i + d)) b 10 i = _
          rw [pv_10 hi, su_at, if_pos ⟨rfl, rfl⟩, wr_add, ← pv_10 hi, h10, v_shift, if_pos ⟨rfl, hi, e', q⟩]
        · intro j m hjm
          exact pv_su hjm
        · show fX1_shiftChildren_3 b (n + 1) w s k d (nI i) = fX1_shiftChildren_3 b n _ s k d (nI (i + 1))
          rw [fX1_shiftChildren_3, if_neg (n_ge 23 (m := 23) rfl hi (by decide)), if_neg e, s_atn (by decide) hi, j_b, if_pos (by rw [j_eq, ← pv_9 hi, h9]; exact q.1), s_atn (by decide) hi, j_b, if_neg (by rw [j_lt, ← pv_10 hi, h10]; omega), j_b, s_putn (by decide) hi, j_b]
          unfold fX1_shiftChildren_61
          rw [j_s]
      · refine ⟨(w, nI (i + 1)), ⟨rfl, ho, ext _ ?_ (fun _ _ _ => rfl)⟩, ?_⟩
        · rw [h10, v_shift, if_neg (fun z => q z.2.2.2)]
        · show fX1_shiftChildren_3 b (n + 1) w s k d (nI i) = fX1_shiftChildren_3 b n w s k d (nI (i + 1))
          rw [fX1_shiftChildren_3, if_neg (n_ge 23 (m := 23) rfl hi (by decide)), if_neg e, s_atn (by decide) hi, j_b]
          unfold fX1_shiftChildren_61
          by_cases q2 : pv σ b 9 i = s.toInt
          · rw [if_pos (by rw [j_eq, ← pv_9 hi, h9]; exact q2), s_atn (by decide) hi, j_b, if_pos (by rw [j_lt, ← pv_10 hi, h10]; omega), j_s]
          · rw [if_neg (by rw [j_eq, ← pv_9 hi, h9]; exact q2), j_s]
    · rintro n ⟨w, l⟩ ⟨rfl, ho, hv⟩
      show ∃ σ', fX1_shiftChildren_3 b (n + 1) w s k d (nI 23) = some σ' ∧ _
      rw [fX1_shiftChildren_3, if_pos (n_le 23 (m := 23) rfl (by decide))]
      refine ⟨w, rfl, ho, ?_⟩
      simp only at hv
      rw [hv]
      funext j m
      by_cases q : m < 23
      · rw [if_pos q]
      · rw [if_neg q, v_shift, if_neg (fun z => q z.2.1)]
theorem s_free (n : Int32) : Do (fX1_freeNode σ b n) σ b (v_free (pv σ b) n.toInt) := by
  unfold Do fX1_freeNode v_free
  rw [s_pt (by decide), j_b]
  exact ⟨_, rfl, pt_o (by omega), by rw [p_v8]; rfl⟩
theorem s_detach (n : Int32) : Do (fX1_detach σ b n) σ b (v_detach (pv σ b) n.toInt) := by
  unfold Do fX1_detach v_detach
  rw [s_v9, j_b, s_pt (by decide), j_b, s_v10, j_b]
  obtain ⟨σ', h1, h2, h3⟩ := s_shift (σ := pt σ (b + 9) 23 n (-1)) (b := b) (oI (ga (pv σ b 9) 23 n.toInt)) (oI (ga (pv (pt σ (b + 9) 23 n (-1)) b 10) 23 n.toInt)) (-1)
  rw [h1, j_b]
  refine ⟨σ', rfl, (pt_o (by omega)).tr h2, ?_⟩
  rw [h3, p_v9, t_ga, jm1]
  congr 1
  rw [← jm1, ← p_v9, t_ga, p_v9, up_ne (by decide)]
theorem s_replace (o f : Int32) : Do (fX1_replace σ b o f) σ b (v_repl (pv σ b) o.toInt f.toInt) := by
  unfold Do fX1_replace v_repl
  rw [s_v9, j_b]
  by_cases e : ga (pv σ b 9) 23 o.toInt = -1
  · rw [if_pos (by rw [j_eq, t_ga, jm1]; exact e), if_pos e, s_windowOf, j_b, s_pt (by decide), j_b]
    exact ⟨_, rfl, pt_o (by omega), by rw [p_v5, t_wo]⟩
  · rw [if_neg (by rw [j_eq, t_ga, jm1]; exact e), if_neg e, s_pt (by decide), j_b, s_pt (by decide), j_b, s_v10, j_b, s_pt (by decide), j_b, s_v11, j_b, s_pt (by decide), j_b]
    refine ⟨_, rfl, (((pt_o (by omega)).tr (pt_o (by omega))).tr (pt_o (by omega))).tr (pt_o (by omega)), ?_⟩
    simp [-Int32.toInt_ofInt, p_v9, p_v10, p_v11, up_ne, t_ga, jm1]
theorem s_attach (n s k w : Int32) : Do (fX1_attach σ b n s k w) σ b (v_attach (pv σ b) n.toInt s.toInt k.toInt w.toInt) := by
  unfold Do fX1_attach v_attach
  by_cases e : n = -1
  · rw [if_pos e, if_pos (by rw [e]; rfl)]
    exact ⟨σ, rfl, Out.rf, rfl⟩
  · have e' : ¬ n.toInt = -1 := fun q => e (j_eq.mpr q)
    rw [if_neg e, if_neg e']
    by_cases e2 : s = -1
    · rw [if_pos e2, if_pos (by rw [e2]; rfl)]
      exact ⟨σ, rfl, Out.rf, rfl⟩
    · have e2' : ¬ s.toInt = -1 := fun q => e2 (j_eq.mpr q)
      rw [if_neg e2, if_neg e2']
      obtain ⟨σ', h1, h2, h3⟩ := s_shift (σ := σ) (b := b) s k 1
      rw [h1, j_b, s_pt (by decide), j_b, s_pt (by decide), j_b, s_pt (by decide), j_b]
      refine ⟨_, rfl, ((h2.tr (pt_o (by omega))).tr (pt_o (by omega))).tr (pt_o (by omega)), ?_⟩
      rw [p_v11, p_v10, p_v9, h3, jz1]
theorem s_hide (p : Int32) (h0 : -1 ≤ ga (pv σ b 14) 12 p.toInt) (h1 : ga (pv σ b 14) 12 p.toInt ≤ 12) : Do (fX1_hide σ b p) σ b (v_hide (pv σ b) p.toInt) := by
  unfold Do fX1_hide v_hide
  rw [s_groupOf, j_b, s_pt (by decide), j_b, s_v12, j_b, p_v15, t_ga, up_ne (j := 15) (j' := 12) (by decide)]
  have h14 : ga (pv (pt σ (b + 15) 12 p 1) b 14) 12 p.toInt = ga (pv σ b 14) 12 p.toInt := by rw [p_v15, up_ne (by decide)]
  by_cases e : ga (pv σ b 12) 23 (ga (pv σ b 13) 12 p.toInt) = p.toInt
  · rw [if_pos (by rw [j_eq, t_ga]; exact e), if_pos e, s_spotOf, j_b, s_activeInstead _ _ (by rw [t_ga, h14]; exact h0) (by rw [t_ga, h14]; exact h1), j_b, s_pt (by decide), j_b]
    refine ⟨_, rfl, (pt_o (by omega)).tr (pt_o (by omega)), ?_⟩
    rw [p_v12, t_ai, t_ga, t_ga, h14, p_v15, jz1]
  · rw [if_neg (by rw [j_eq, t_ga]; exact e), if_neg e]
    exact ⟨_, rfl, pt_o (by omega), by rw [p_v15, jz1]⟩
theorem s_reveal (p : Int32) : Do (fX1_reveal σ b p) σ b (v_reveal (pv σ b) p.toInt) := by
  unfold Do fX1_reveal v_reveal
  rw [s_groupOf, j_b, s_pt (by decide), j_b, s_v12, j_b, p_v15, t_ga, up_ne (j := 15) (j' := 12) (by decide)]
  by_cases e : ga (pv σ b 12) 23 (ga (pv σ b 13) 12 p.toInt) = -1
  · rw [if_pos (by rw [j_eq, t_ga, jm1]; exact e), if_pos e, s_pt (by decide), j_b]
    refine ⟨_, rfl, (pt_o (by omega)).tr (pt_o (by omega)), ?_⟩
    rw [p_v12, t_ga, p_v15, jz0]
  · rw [if_neg (by rw [j_eq, t_ga, jm1]; exact e), if_neg e]
    exact ⟨_, rfl, pt_o (by omega), by rw [p_v15, jz0]⟩
theorem s_join (p g : Int32) : Do (fX1_joinGroup σ b p g) σ b (v_join (pv σ b) p.toInt g.toInt) := by
  unfold Do fX1_joinGroup v_join
  rw [s_tabCount, j_b, s_pt (by decide), j_b, s_pt (by decide), j_b, s_pt (by decide), j_b]
  refine ⟨_, rfl, ((pt_o (by omega)).tr (pt_o (by omega))).tr (pt_o (by omega)), ?_⟩
  rw [p_v12, p_v13, p_v14, t_tc]
theorem s_moveToSpot (p k : Int32) : Do (fX1_moveToSpot σ b p k) σ b (v_move (pv σ b) p.toInt k.toInt) := by
  unfold Do fX1_moveToSpot
  rw [s_spotOf, j_b]
  have H : ∀ (V W : VW), W = (fun j i => if j = 14 ∧ i < 12 ∧ V 13 i = ga (V 13) 12 p.toInt then wr (V 14 i + v_step (ga (V 14) 12 p.toInt) k.toInt (V 14 i)) else V j i) → up W 14 p.toInt k.toInt = v_move V p.toInt k.toInt := fun V W h => by rw [h]; rfl
  refine lp (F := fun n (w : Sg × Int32) => fX1_moveToSpot_9 b n w.1 p k (oI (ga (pv σ b 14) 12 p.toInt)) w.2) (Q := fun r => ∃ σ', r = some σ' ∧ Out σ σ' (b + 1) (b + 15) ∧ pv σ' b = v_move (pv σ b) p.toInt k.toInt) (fun i w => w.2 = nI i ∧ Out σ w.1 (b + 1) (b + 15) ∧ pv w.1 b = fun j m => if j = 14 ∧ m < i ∧ pv σ b 13 m = ga (pv σ b 13) 12 p.toInt then wr (pv σ b 14 m + v_step (ga (pv σ b 14) 12 p.toInt) k.toInt (pv σ b 14 m)) else pv σ b j m) 12 ?_ ?_ 12 0 FU (σ, 0) rfl (by decide) ⟨rfl, Out.rf, by funext j m; rw [if_neg (by omega)]⟩
  · rintro n i ⟨w, l⟩ hi ⟨rfl, ho, hv⟩
    simp only at ho hv
    have h13 : pv w b 13 = pv σ b 13 := by rw [hv]; funext m; exact if_neg (by omega)
    have h14 : pv w b 14 i = pv σ b 14 i := by rw [hv]; exact if_neg (by omega)
    have t13 : (oI (pv σ b 13 i)).toInt = pv σ b 13 i := j_oI (pv_rg _ _ _ _).1 (pv_rg _ _ _ _).2
    have t14 : (oI (pv σ b 14 i)).toInt = pv σ b 14 i := j_oI (pv_rg _ _ _ _).1 (pv_rg _ _ _ _).2
    have ext : ∀ W : VW, (W 14 i = if pv σ b 13 i = ga (pv σ b 13) 12 p.toInt then wr (pv σ b 14 i + v_step (ga (pv σ b 14) 12 p.toInt) k.toInt (pv σ b 14 i)) else pv σ b 14 i) → (∀ j m, ¬ (j = 14 ∧ m = i) → W j m = pv w b j m) → W = fun j m => if j = 14 ∧ m < i + 1 ∧ pv σ b 13 m = ga (pv σ b 13) 12 p.toInt then wr (pv σ b 14 m + v_step (ga (pv σ b 14) 12 p.toInt) k.toInt (pv σ b 14 m)) else pv σ b j m := by
      intro W h1 h2
      funext j m
      by_cases q : j = 14 ∧ m = i
      · obtain ⟨rfl, rfl⟩ := q
        rw [h1]
        by_cases q2 : pv σ b 13 m = ga (pv σ b 13) 12 p.toInt
        · rw [if_pos q2, if_pos ⟨rfl, by omega, q2⟩]
        · rw [if_neg q2, if_neg (fun z => q2 z.2.2)]
      · rw [h2 j m q, hv]
        dsimp only
        by_cases q2 : j = 14 ∧ m < i ∧ pv σ b 13 m = ga (pv σ b 13) 12 p.toInt
        · rw [if_pos q2, if_pos ⟨q2.1, by omega, q2.2.2⟩]
        · rw [if_neg q2, if_neg (fun z => q2 ⟨z.1, by omega, z.2.2⟩)]
    have step : ∀ s0 : Int32, pv σ b 13 i = ga (pv σ b 13) 12 p.toInt → s0.toInt = v_step (ga (pv σ b 14) 12 p.toInt) k.toInt (pv σ b 14 i) → ∃ s' : Sg × Int32, (s'.2 = nI (i + 1) ∧ Out σ s'.1 (b + 1) (b + 15) ∧ pv s'.1 b = fun j m => if j = 14 ∧ m < i + 1 ∧ pv σ b 13 m = ga (pv σ b 13) 12 p.toInt then wr (pv σ b 14 m + v_step (ga (pv σ b 14) 12 p.toInt) k.toInt (pv σ b 14 m)) else pv σ b j m) ∧ fX1_moveToSpot_77 b (fX1_moveToSpot_9 b n) w p k (oI (ga (pv σ b 14) 12 p.toInt)) (nI i) (oI (pv σ b 14 i)) s0 = fX1_moveToSpot_9 b n s'.1 p k (oI (ga (pv σ b 14) 12 p.toInt)) s'.2 := by
      intro s0 hg hs
      refine ⟨(su w (b + 14) i (oI (pv σ b 14 i) + s0), nI (i + 1)), ⟨rfl, ho.tr (su_out.mo (by omega) (by omega)), ext _ ?_ ?_⟩, ?_⟩
      · show pv (su w (b + 14) i (oI (pv σ b 14 i) + s0)) b 14 i = _
        rw [pv_14 hi, su_at, if_pos ⟨rfl, rfl⟩, wr_add, t14, hs, if_pos hg]
      · intro j m hjm
        exact pv_su hjm
      · unfold fX1_moveToSpot_77 fX1_moveToSpot_93
        rw [s_putn (by decide) hi, j_b, j_s]
    show ∃ s' : Sg × Int32, _ ∧ fX1_moveToSpot_9 b (n + 1) w p k (oI (ga (pv σ b 14) 12 p.toInt)) (nI i) = _
    rw [fX1_moveToSpot_9, if_neg (n_ge 12 (m := 12) rfl hi (by decide)), s_spotOf, j_b, s_v13, j_b, s_v13, j_b, j_nI (by omega), ga_in hi, ga_in hi, h14, h13]
    by_cases hg : pv σ b 13 i = ga (pv σ b 13) 12 p.toInt
    · rw [if_pos (by rw [hg])]
      unfold fX1_moveToSpot_60 fX1_moveToSpot_76
      by_cases q1 : pv σ b 14 i ≤ ga (pv σ b 14) 12 p.toInt
      · rw [if_pos (by rw [j_le, t14, t_ga]; exact q1)]
        by_cases q2 : ga (pv σ b 14) 12 p.toInt ≤ pv σ b 14 i
        · rw [if_pos (by rw [j_le, t14, t_ga]; exact q2)]
          exact step 0 hg (by unfold v_step; rw [if_neg (by omega), if_neg (by omega)]; rfl)
        · rw [if_neg (by rw [j_le, t14, t_ga]; exact q2)]
          by_cases q3 : pv σ b 14 i < k.toInt
          · rw [if_pos (by rw [j_lt, t14]; exact q3)]
            exact step 0 hg (by unfold v_step; rw [if_neg (by omega), if_neg (by omega)]; rfl)
          · rw [if_neg (by rw [j_lt, t14]; exact q3)]
            exact step 1 hg (by unfold v_step; rw [if_neg (by omega), if_pos (by omega)]; rfl)
      · rw [if_neg (by rw [j_le, t14, t_ga]; exact q1)]
        by_cases q4 : k.toInt < pv σ b 14 i
        · rw [if_pos (by rw [j_lt, t14]; exact q4), if_pos (by rw [j_le, t14, t_ga]; omega)]
          exact step 0 hg (by unfold v_step; rw [if_neg (by omega), if_neg (by omega)]; rfl)
        · rw [if_neg (by rw [j_lt, t14]; exact q4)]
          exact step (-1) hg (by unfold v_step; rw [if_pos (by omega)]; rfl)
    · have : ¬ oI (pv σ b 13 i) = oI (ga (pv σ b 13) 12 p.toInt) := by rw [j_eq, t13, t_ga]; exact hg
      rw [if_neg this]
      refine ⟨(w, nI (i + 1)), ⟨rfl, ho, ext _ ?_ (fun _ _ _ => rfl)⟩, ?_⟩
      · rw [h14, if_neg hg]
      · unfold fX1_moveToSpot_93
        rw [j_s]
  · rintro n ⟨w, l⟩ ⟨rfl, ho, hv⟩
    show ∃ σ', fX1_moveToSpot_9 b (n + 1) w p k _ (nI 12) = some σ' ∧ _
    simp only at ho hv
    rw [fX1_moveToSpot_9, if_pos (n_le 12 (m := 12) rfl (by decide)), s_pt (by decide), j_b]
    refine ⟨_, rfl, ho.tr (pt_o (by omega)), ?_⟩
    rw [p_v14]
    exact H _ _ hv
end WR
