/-! THE RELATION: a placement of the class, what it does (2) -/
theorem odp_odv (σ : Sg) (b : Nat) : odp (pv σ b) = odv σ (b + 6) := by
  refine Prod.ext ?_ (funext fun i => ?_)
  · exact pv_in (i := 1) (by rw [inr_6]; rfl)
  · show pv σ b 7 i = if i < 12 then _ else 0
    rw [pv_def, inr_7]
    by_cases h : i < 12
    · rw [if_pos (decide_eq_true h), if_pos h]
    · rw [if_neg (by simpa using h), if_neg h]
theorem pv_od {σ σ' : Sg} {b : Nat} (h : Out σ σ' (b + 6) (b + 6 + 1)) : pv σ' b = v_od (pv σ b) (odv σ' (b + 6)) := by
  funext j i
  unfold v_od
  by_cases e : j = 6
  · subst e
    rw [if_pos rfl, ← odp_odv]
    by_cases e1 : i = 1
    · rw [if_pos e1, e1]
      rfl
    · rw [if_neg e1, pv_def, pv_def, inr_6, if_neg (by simpa using e1), if_neg (by simpa using e1)]
  · rw [if_neg e]
    by_cases e7 : j = 7
    · subst e7
      rw [if_pos rfl, ← odp_odv]
      rfl
    · rw [if_neg e7, pv_def, pv_def, h.2 (b + j) (by omega)]
theorem v_od_ne {V : VW} {o : OD} {j : Nat} (h6 : j ≠ 6) (h7 : j ≠ 7) : v_od V o j = V j := by
  funext i
  unfold v_od
  rw [if_neg h6, if_neg h7]
theorem v_od_odp {V : VW} {o : OD} : odp (v_od V o) = o := rfl
theorem odp_up {V : VW} {j : Nat} {p x : Int} (h6 : j ≠ 6) (h7 : j ≠ 7) : odp (up V j p x) = odp V := by
  unfold odp
  rw [up_ne (fun q => h6 q.symm), up_ne (fun q => h7 q.symm)]
section WR2
variable {σ : Sg} {b : Nat}
theorem s_flleave (w : Int32) (h : OkO (odp (pv σ b))) : Do (fX0_leave σ (b + 6) w) σ b (v_od (pv σ b) (o_lv (odp (pv σ b)) w.toInt)) := by
  rw [odp_odv] at *
  obtain ⟨σ', h1, h2, h3⟩ := s_leave h w
  exact ⟨σ', h1, h2.mo (by omega) (by omega), by rw [pv_od h2, h3]⟩
theorem s_flLast (w : Int32) (h : OkO (odp (pv σ b))) : Do (fX0_putLast σ (b + 6) w) σ b (v_od (pv σ b) (o_pl (odp (pv σ b)) w.toInt)) := by
  rw [odp_odv] at *
  obtain ⟨σ', h1, h2, h3⟩ := s_putLast h w
  exact ⟨σ', h1, h2.mo (by omega) (by omega), by rw [pv_od h2, h3]⟩
theorem s_fin (g s : Int32) : Do (fX1_removeGroup_37 b σ g s) σ b (v_fin (pv σ b) g.toInt s.toInt) := by
  unfold Do fX1_removeGroup_37 v_fin
  obtain ⟨σ1, h1, o1, e1⟩ := s_detach (σ := σ) (b := b) g
  obtain ⟨σ2, h2, o2, e2⟩ := s_free (σ := σ1) (b := b) g
  rw [h1, j_b, h2, j_b, s_childCount, j_b]
  have E : pv σ2 b = v_free (v_detach (pv σ b) g.toInt) g.toInt := by rw [e2, e1]
  rw [← E]
  by_cases q : v_cc (pv σ2 b) s.toInt = 1
  · rw [if_pos (by rw [j_eq, t_cc, q]; rfl), if_pos q, s_childAt, j_b]
    obtain ⟨σ3, h3, o3, e3⟩ := s_detach (σ := σ2) (b := b) (oI (v_ca (pv σ2 b) s.toInt (0 : Int32).toInt))
    obtain ⟨σ4, h4, o4, e4⟩ := s_replace (σ := σ3) (b := b) s (oI (v_ca (pv σ2 b) s.toInt (0 : Int32).toInt))
    obtain ⟨σ5, h5, o5, e5⟩ := s_free (σ := σ4) (b := b) s
    rw [h3, j_b, h4, j_b, h5, j_b]
    refine ⟨_, rfl, (((o1.tr o2).tr o3).tr o4).tr o5, ?_⟩
    rw [e5, e4, e3, t_ca, jz0]
  · rw [if_neg (by rw [j_eq, t_cc]; show ¬ (v_cc (pv σ2 b) s.toInt : Int) = 1; omega), if_neg q]
    exact ⟨_, rfl, o1.tr o2, rfl⟩
theorem s_removeGroup (g : Int32) (h : OkO (odp (pv σ b))) : Do (fX1_removeGroup σ b g) σ b (v_remg (pv σ b) g.toInt) := by
  unfold Do fX1_removeGroup v_remg
  rw [s_v9, j_b]
  by_cases e : ga (pv σ b 9) 23 g.toInt = -1
  · rw [if_pos (by rw [j_eq, t_ga, jm1]; exact e), if_pos e, s_windowOf, j_b, s_pt (by decide), j_b]
    have e5 : pv (pt σ (b + 5) 5 (oI (v_wo (pv σ b) g.toInt)) (-1)) b = up (pv σ b) 5 (v_wo (pv σ b) g.toInt) (-1) := by rw [p_v5, t_wo, jm1]
    have hO : odp (pv (pt σ (b + 5) 5 (oI (v_wo (pv σ b) g.toInt)) (-1)) b) = odp (pv σ b) := by rw [e5, odp_up (by decide) (by decide)]
    obtain ⟨σ2, h2, o2, e2⟩ := s_flleave (σ := pt σ (b + 5) 5 (oI (v_wo (pv σ b) g.toInt)) (-1)) (b := b) (oI (v_wo (pv σ b) g.toInt)) (by rw [hO]; exact h)
    obtain ⟨σ3, h3, o3, e3⟩ := s_fin (σ := σ2) (b := b) g (oI (ga (pv σ b 9) 23 g.toInt))
    rw [h2, j_b]
    refine ⟨σ3, h3, ((pt_o (by omega)).tr o2).tr o3, ?_⟩
    rw [e3, e2, hO, e5, t_wo, t_ga, e]
  · rw [if_neg (by rw [j_eq, t_ga, jm1]; exact e), if_neg e]
    obtain ⟨σ3, h3, o3, e3⟩ := s_fin (σ := σ) (b := b) g (oI (ga (pv σ b 9) 23 g.toInt))
    exact ⟨σ3, h3, o3, by rw [e3, t_ga]⟩
theorem v_hide_ne {V : VW} {p : Int} {j : Nat} (h : j ≠ 12) (h2 : j ≠ 15) : v_hide V p j = V j := by
  unfold v_hide
  split
  · rw [up_ne h, up_ne h2]
  · rw [up_ne h2]
theorem v_move_ne {V : VW} {p k : Int} {j : Nat} (h : j ≠ 14) : v_move V p k j = V j := by
  unfold v_move
  rw [up_ne h]
  funext i
  exact if_neg (fun q => h q.1)
theorem v_out_ne {V : VW} {p : Int} {j : Nat} (h : j ≠ 12) (h2 : j ≠ 13) (h3 : j ≠ 14) (h4 : j ≠ 15) : v_out V p j = V j := by
  unfold v_out
  rw [up_ne h4, up_ne h3, up_ne h2, v_move_ne h3, v_hide_ne h h4]
theorem odp_out {V : VW} {p : Int} : odp (v_out V p) = odp V := by
  unfold odp
  rw [v_out_ne (by decide) (by decide) (by decide) (by decide), v_out_ne (by decide) (by decide) (by decide) (by decide)]
theorem s_withdraw (p : Int32) (h0 : -1 ≤ ga (pv σ b 14) 12 p.toInt) (h1 : ga (pv σ b 14) 12 p.toInt ≤ 12) (h : OkO (odp (pv σ b))) : Do (fX1_withdraw σ b p) σ b (v_withdraw (pv σ b) p.toInt) := by
  unfold Do fX1_withdraw v_withdraw
  rw [s_groupOf, j_b]
  by_cases e : ga (pv σ b 13) 12 p.toInt = -1
  · rw [if_pos (by rw [j_eq, t_ga, jm1]; exact e), if_pos e]
    exact ⟨σ, rfl, Out.rf, rfl⟩
  · rw [if_neg (by rw [j_eq, t_ga, jm1]; exact e), if_neg e]
    obtain ⟨σ1, a1, o1, e1⟩ := s_hide (σ := σ) (b := b) p h0 h1
    rw [a1, j_b, s_tabCount, j_b]
    obtain ⟨σ2, a2, o2, e2⟩ := s_moveToSpot (σ := σ1) (b := b) p (oI (v_tc (pv σ1 b) (oI (ga (pv σ b 13) 12 p.toInt)).toInt) - 1)
    rw [a2, j_b, s_pt (by decide), j_b, s_pt (by decide), j_b, s_pt (by decide), j_b, s_tabCount, j_b]
    have E : pv (pt (pt (pt σ2 (b + 13) 12 p (-1)) (b + 14) 12 p (-1)) (b + 15) 12 p 0) b = v_out (pv σ b) p.toInt := by
      rw [p_v15, p_v14, p_v13, e2, jm1, jz0, wr_sub, jz1, t_tc, t_ga, e1]
      rfl
    have O : Out σ (pt (pt (pt σ2 (b + 13) 12 p (-1)) (b + 14) 12 p (-1)) (b + 15) 12 p 0) (b + 1) (b + 15) := (((o1.tr o2).tr (pt_o (by omega))).tr (pt_o (by omega))).tr (pt_o (by omega))
    rw [E, t_ga]
    by_cases q : v_tc (v_out (pv σ b) p.toInt) (ga (pv σ b 13) 12 p.toInt) = 0
    · rw [if_pos (by rw [j_eq, t_tc, q]; rfl), if_pos q]
      obtain ⟨σ3, a3, o3, e3⟩ := s_removeGroup (σ := pt (pt (pt σ2 (b + 13) 12 p (-1)) (b + 14) 12 p (-1)) (b + 15) 12 p 0) (b := b) (oI (ga (pv σ b 13) 12 p.toInt)) (by rw [E, odp_out]; exact h)
      rw [a3, j_b]
      exact ⟨_, rfl, O.tr o3, by rw [e3, E, t_ga]⟩
    · rw [if_neg (by rw [j_eq, t_tc, jz0]; omega), if_neg q]
      exact ⟨_, rfl, O, E⟩
theorem s_makeNode (k : Int32) : ∃ σ', fX1_makeNode σ b k = some (oI (v_mn (pv σ b)), σ') ∧ Out σ σ' (b + 1) (b + 15) ∧ pv σ' b = up (pv σ b) 8 (v_mn (pv σ b)) k.toInt := by
  unfold fX1_makeNode v_mn
  refine lpx (F := fun n s => fX1_makeNode_2 b n σ k s) (Q := fun r => ∃ σ', r = some (oI (fnd (fun n => decide (pv σ b 8 n = 3)) 23), σ') ∧ Out σ σ' (b + 1) (b + 15) ∧ pv σ' b = up (pv σ b) 8 (fnd (fun n => decide (pv σ b 8 n = 3)) 23) k.toInt) (fun i s => s = nI i ∧ ∀ m, m < i → decide (pv σ b 8 m = 3) = false) 23 ?_ ?_ 23 0 FU 0 rfl (by decide) ⟨rfl, fun m hm => absurd hm (by omega)⟩
  · rintro n i _ hi ⟨rfl, hv⟩
    show (∃ σ', fX1_makeNode_2 b (n + 1) σ k (nI i) = _ ∧ _) ∨ _
    rw [fX1_makeNode_2, if_neg (n_ge 23 (m := 23) rfl hi (by decide)), s_atn (by decide) hi, j_b]
    by_cases q : σ.1 (b + 8) i = 3
    · left
      rw [if_pos q, s_pt (by decide), j_b, fnd_at hi (by rw [decide_eq_true_eq, pv_8 hi, q]; rfl) hv, j_nIo _ (by omega)]
      refine ⟨_, rfl, pt_o (by omega), ?_⟩
      rw [p_v8, j_oI (by omega) (by omega)]
    · right
      rw [if_neg q]
      refine ⟨nI (i + 1), ⟨rfl, fun m hm => ?_⟩, ?_⟩
      · by_cases w : m = i
        · rw [w, decide_eq_false_iff_not, pv_8 hi]
          exact fun z => q (j_eq.mpr z)
        · exact hv m (by omega)
      · rw [j_s]
  · rintro n _ ⟨rfl, hv⟩
    show ∃ σ', fX1_makeNode_2 b (n + 1) σ k (nI 23) = _ ∧ _
    rw [fX1_makeNode_2, if_pos (n_le 23 (m := 23) rfl (by decide)), fnd_no hv]
    exact ⟨σ, rfl, Out.rf, by rw [up_m1]⟩
theorem t_mn (V : VW) : (oI (v_mn V)).toInt = v_mn V := t_fnd _ (by decide)
theorem s_dir (s : Int32) : fX8_directionOf σ s = some (oI (v_dir s.toInt)) := by
  unfold fX8_directionOf v_dir
  by_cases h : s = 0
  · rw [if_pos h, if_pos (Or.inl (by rw [h]; rfl))]
    rfl
  · have h' : ¬ s.toInt = 0 := fun q => h (j_eq.mpr q)
    rw [if_neg h]
    by_cases h1 : s = 1
    · rw [if_pos h1, if_pos (Or.inr (by rw [h1]; rfl))]
      rfl
    · have h1' : ¬ s.toInt = 1 := fun q => h1 (j_eq.mpr q)
      rw [if_neg h1, if_neg (by omega)]
      rfl
theorem t_dir (s : Int) : (oI (v_dir s)).toInt = v_dir s := by
  unfold v_dir
  split <;> rfl
theorem s_max (x : Int) (a : Int32) (ha : a.toInt = x) : (if 1 < a then a else 1).toInt = max 1 x := by
  by_cases h : 1 < a
  · rw [if_pos h, ha]
    rw [j_lt, jz1, ha] at h
    omega
  · rw [if_neg h, jz1]
    rw [j_lt, jz1, ha] at h
    omega
theorem wr_div2 (a : Int32) : (a / 2).toInt = wr (Int.tdiv a.toInt 2) := by
  have h0 := j_lo a
  have h1 := j_hi a
  have e2 : (2 : Int32).toInt = 2 := rfl
  have e : (a / 2).toInt = (Int.tdiv a.toInt 2).bmod (2 ^ 32) := by
    rw [Int32.toInt_div, e2]
  rw [e]
  show _ = (Int32.ofInt _).toInt
  rw [Int32.toInt_ofInt]
theorem s_bes121 (t d k f : Int32) (h : ∀ V, pv σ b = V → True) : ∃ σ', fX1_makeGroupBeside_121 b σ t d k f = some (f, σ') ∧ Out σ σ' (b + 1) (b + 15) ∧ pv σ' b = v_attach (v_attach (v_repl (up (pv σ b) 8 (v_mn (pv σ b)) d.toInt) t.toInt (v_mn (pv σ b))) t.toInt (v_mn (pv σ b)) 0 1000) f.toInt (v_mn (pv σ b)) k.toInt 1000 := by
  unfold fX1_makeGroupBeside_121
  obtain ⟨σ1, a1, o1, e1⟩ := s_makeNode (σ := σ) (b := b) d
  rw [a1, j_b]
  dsimp only
  obtain ⟨σ2, a2, o2, e2⟩ := s_replace (σ := σ1) (b := b) t (oI (v_mn (pv σ b)))
  obtain ⟨σ3, a3, o3, e3⟩ := s_attach (σ := σ2) (b := b) t (oI (v_mn (pv σ b))) 0 1000
  obtain ⟨σ4, a4, o4, e4⟩ := s_attach (σ := σ3) (b := b) f (oI (v_mn (pv σ b))) k 1000
  rw [a2, j_b, a3, j_b, a4, j_b]
  refine ⟨_, rfl, ((o1.tr o2).tr o3).tr o4, ?_⟩
  rw [e4, e3, e2, e1, t_mn]
  rfl
theorem s_bes20 (t d k : Int32) (side : Int) (hd : d.toInt = v_dir side) (hk : k.toInt = v_beh side) : ∃ σ', fX1_makeGroupBeside_20 b σ t d k = some (oI (v_mn (pv σ b)), σ') ∧ Out σ σ' (b + 1) (b + 15) ∧ pv σ' b = v_bes (pv σ b) t.toInt side := by
  unfold fX1_makeGroupBeside_20 v_bes
  obtain ⟨σ1, a1, o1, e1⟩ := s_makeNode (σ := σ) (b := b) 2
  have e2 : (2 : Int32).toInt = 2 := rfl
  rw [e2] at e1
  rw [a1, j_b]
  dsimp only
  obtain ⟨σ4, a4, o4, e4⟩ := s_bes121 (σ := σ1) (b := b) t d k (oI (v_mn (pv σ b))) (fun _ _ => trivial)
  have B2 : pv σ4 b = v_bes2 t.toInt side (v_mn (pv σ b)) (pv σ1 b) := by
    rw [e4, t_mn, hd, hk]
    rfl
  have h9 : pv σ1 b 9 = pv σ b 9 := by rw [e1, up_ne (by decide)]
  have h10 : pv σ1 b 10 = pv σ b 10 := by rw [e1, up_ne (by decide)]
  have h11 : pv σ1 b 11 = pv σ b 11 := by rw [e1, up_ne (by decide)]
  rw [s_v9, j_b, ← e1, h9]
  by_cases q : ga (pv σ b 9) 23 t.toInt = -1
  · rw [if_pos (by rw [j_eq, t_ga, jm1]; exact q), if_pos q, a4]
    exact ⟨_, rfl, o1.tr o4, B2⟩
  · rw [if_neg (by rw [j_eq, t_ga, jm1]; exact q), if_neg q, s_v8, j_b, t_ga]
    by_cases q2 : ga (pv σ1 b 8) 23 (ga (pv σ b 9) 23 t.toInt) = v_dir side
    · rw [if_pos (by rw [j_eq, t_ga, hd]; exact q2), if_pos q2, s_v11, j_b, j_nm, j_b, j_nm, s_pt (by decide), j_b, s_v10, j_b, j_nm, h11]
      have m1 : (if 1 < oI (ga (pv σ b 11) 23 t.toInt) / 2 then oI (ga (pv σ b 11) 23 t.toInt) / 2 else 1).toInt = max 1 (wr (Int.tdiv (ga (pv σ b 11) 23 t.toInt) 2)) := s_max _ _ (by rw [wr_div2, t_ga])
      have m2 : (if 1 < oI (ga (pv σ b 11) 23 t.toInt) - oI (ga (pv σ b 11) 23 t.toInt) / 2 then oI (ga (pv σ b 11) 23 t.toInt) - oI (ga (pv σ b 11) 23 t.toInt) / 2 else 1).toInt = max 1 (wr (ga (pv σ b 11) 23 t.toInt - wr (Int.tdiv (ga (pv σ b 11) 23 t.toInt) 2))) := s_max _ _ (by rw [wr_sub, wr_div2, t_ga])
      generalize (if 1 < oI (ga (pv σ b 11) 23 t.toInt) / 2 then oI (ga (pv σ b 11) 23 t.toInt) / 2 else 1) = x1 at m1 ⊢
      generalize (if 1 < oI (ga (pv σ b 11) 23 t.toInt) - oI (ga (pv σ b 11) 23 t.toInt) / 2 then oI (ga (pv σ b 11) 23 t.toInt) - oI (ga (pv σ b 11) 23 t.toInt) / 2 else 1) = x2 at m2 ⊢
      obtain ⟨σ5, a5, o5, e5⟩ := s_attach (σ := pt σ1 (b + 11) 23 t x2) (b := b) (oI (v_mn (pv σ b))) (oI (ga (pv σ b 9) 23 t.toInt)) (oI (ga (pv (pt σ1 (b + 11) 23 t x2) b 10) 23 t.toInt) + k) x1
      rw [a5, j_b]
      refine ⟨_, rfl, (o1.tr (pt_o (by omega))).tr o5, ?_⟩
      rw [e5, t_mn, t_ga, m1, wr_add, t_ga, hk, p_v11, m2, up_ne (j := 11) (j' := 10) (by decide), h10]
      rfl
    · rw [if_neg (by rw [j_eq, t_ga, hd]; exact q2), if_neg q2, a4]
      exact ⟨_, rfl, o1.tr o4, B2⟩
theorem s_makeGroupBeside (t s : Int32) : ∃ σ', fX1_makeGroupBeside σ b t s = some (oI (v_mn (pv σ b)), σ') ∧ Out σ σ' (b + 1) (b + 15) ∧ pv σ' b = v_bes (pv σ b) t.toInt s.toInt := by
  unfold fX1_makeGroupBeside fX1_makeGroupBeside_15
  rw [s_dir, j_b]
  by_cases h : s = 1
  · rw [if_pos h]
    exact s_bes20 t _ 1 s.toInt (t_dir _) (by rw [h]; rfl)
  · have h' : ¬ s.toInt = 1 := fun q => h (j_eq.mpr q)
    rw [if_neg h]
    by_cases h1 : s = 3
    · rw [if_pos h1]
      exact s_bes20 t _ 1 s.toInt (t_dir _) (by rw [h1]; rfl)
    · have h1' : ¬ s.toInt = 3 := fun q => h1 (j_eq.mpr q)
      rw [if_neg h1]
      exact s_bes20 t _ 0 s.toInt (t_dir _) (by unfold v_beh; rw [if_neg (by omega)]; rfl)
theorem s_setRoot (w n : Int32) : Do (fX1_setRoot σ b w n) σ b (up (pv σ b) 5 w.toInt n.toInt) := by
  unfold Do fX1_setRoot
  rw [s_pt (by decide), j_b]
  exact ⟨_, rfl, pt_o (by omega), p_v5⟩
theorem s_setWeight (n w : Int32) : Do (fX1_setWeight σ b n w) σ b (up (pv σ b) 11 n.toInt w.toInt) := by
  unfold Do fX1_setWeight
  rw [s_pt (by decide), j_b]
  exact ⟨_, rfl, pt_o (by omega), p_v11⟩
theorem s_setActive (n p : Int32) : Do (fX1_setActive σ b n p) σ b (up (pv σ b) 12 n.toInt p.toInt) := by
  unfold Do fX1_setActive
  rw [s_pt (by decide), j_b]
  exact ⟨_, rfl, pt_o (by omega), p_v12⟩
theorem s_setCorner (w x y : Int32) : Do (fX1_setCorner σ b w x y) σ b (up (up (pv σ b) 1 w.toInt x.toInt) 2 w.toInt y.toInt) := by
  unfold Do fX1_setCorner
  rw [s_pt (by decide), j_b, s_pt (by decide), j_b]
  exact ⟨_, rfl, (pt_o (by omega)).tr (pt_o (by omega)), by rw [p_v2, p_v1]⟩
theorem s_setSize (w x y : Int32) : Do (fX1_setSize σ b w x y) σ b (up (up (pv σ b) 3 w.toInt x.toInt) 4 w.toInt y.toInt) := by
  unfold Do fX1_setSize
  rw [s_pt (by decide), j_b, s_pt (by decide), j_b]
  exact ⟨_, rfl, (pt_o (by omega)).tr (pt_o (by omega)), by rw [p_v4, p_v3]⟩
theorem s_makeRootGroup (w : Int32) : ∃ σ', fX1_makeRootGroup σ b w = some (oI (v_mn (pv σ b)), σ') ∧ Out σ σ' (b + 1) (b + 15) ∧ pv σ' b = up (up (pv σ b) 8 (v_mn (pv σ b)) 2) 5 w.toInt (v_mn (pv σ b)) := by
  unfold fX1_makeRootGroup
  obtain ⟨σ1, a1, o1, e1⟩ := s_makeNode (σ := σ) (b := b) 2
  obtain ⟨σ2, a2, o2, e2⟩ := s_setRoot (σ := σ1) (b := b) w (oI (v_mn (pv σ b)))
  rw [a1, j_b]
  dsimp only
  rw [a2, j_b]
  exact ⟨_, rfl, o1.tr o2, by rw [e2, e1, t_mn]; rfl⟩
end WR2
