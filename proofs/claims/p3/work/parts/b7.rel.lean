/-! THE RELATION: read (2): the reference empties the main window -/
section RB7
variable {σ s : Sg} {V : VW} {d : Nat → Nat} {wn : Nat → Int} {Y : Nat → Bool}
def WR (U V : VW) : Prop := (∀ n, n < 23 → V 8 n ≠ 3 → U 1 n = V 9 n) ∧ ∀ w, w < 5 → U 12 w = (if w = 0 ∨ V 5 w ≠ -1 then 1 else 0) ∧ U 17 w = V 5 w
theorem VM.wr {U : VW} {X : Nat → Bool} (h : VM U V X) : WR U V := ⟨fun n hn q => h.pa hn q, fun w hw => ⟨h.ex hw, h.ro hw⟩⟩
theorem WR.cg {U U' : VW} (h : WR U V) (e1 : U' 1 = U 1) (e12 : U' 12 = U 12) (e17 : U' 17 = U 17) : WR U' V := by
  unfold WR
  rw [e1, e12, e17]
  exact h
theorem r_root2 (h : WR (mv (σ.1 463)) V) (t : Tree V d wn Y) : ∀ (k fuel n : Nat) (a : Int32), a.toInt = n → n < 23 → V 8 n ≠ 3 → ga (V 9) 23 (v_top V k n) = -1 → k < fuel → fX9_rootOf_2 σ 462 fuel a = some (oI (v_top V k n))
  | _, 0, _, _, _, _, _, _, hf => absurd hf (by omega)
  | k, f + 1, n, a, ha, hn, hu, hk, hf => by
    rw [fX9_rootOf_2, m_i1 ha (by omega), j_b, h.1 n hn hu]
    by_cases q : V 9 n = -1
    · have st : v_top V k n = n := by
        have := v_top_st V (n := (n : Int)) (k := 0) (by show ga (V 9) 23 n = -1; rw [ga_in hn]; exact q) k
        rw [Nat.zero_add] at this
        exact this
      rw [q, if_pos (show oI (-1) = (-1 : Int32) from rfl), st, ← ha, j_oIt]
    · obtain ⟨s, s1, s2, s3, _, _⟩ := t.pa hn q
      rw [s2, if_neg (by rw [show (-1 : Int32) = oI (-1) from rfl, j_oe (by omega) (by omega) (by omega) (by omega)]; omega), j_b]
      have nx : v_top V (k - 1 + 1) n = v_top V (k - 1) (V 9 n) := by
        show (if ga (V 9) 23 n = -1 then (n : Int) else v_top V (k - 1) (ga (V 9) 23 n)) = _
        rw [ga_in hn, if_neg q]
      have k1 : 1 ≤ k := by
        refine Nat.one_le_iff_ne_zero.mpr (fun z => ?_)
        rw [z] at hk
        have : ga (V 9) 23 n = -1 := hk
        rw [ga_in hn] at this
        exact q this
      rw [show k - 1 + 1 = k by omega, s2] at nx
      rw [nx] at hk ⊢
      exact r_root2 h t (k - 1) f s _ (j_oI (by omega) (by omega)) s1 (by omega) hk (by omega)
theorem r_windowOf (h : WR (mv (σ.1 463)) V) (t : Tree V d wn Y) {a : Int32} {n : Nat} (ha : a.toInt = n) (hn : n < 23) (hu : V 8 n ≠ 3) : fX9_windowOf σ 462 a = some (oI (wn n)) := by
  obtain ⟨m, m1, m2, m3, m4, m5⟩ := t.top hn hu
  obtain ⟨w, w1, w2, w3⟩ := t.ro m1 m3 m4
  have ro : fX9_rootOf σ 462 a = some (oI (v_top V 23 n)) := by
    unfold fX9_rootOf
    exact r_root2 h t 23 FU n a ha hn hu (by rw [m2, ga_in m1]; exact m4) (by decide)
  unfold fX9_windowOf
  rw [ro, j_b, m2, ← m5, w2]
  refine lp (F := fun n s => fX9_windowOf_8 σ 462 n (oI (m : Int)) s) (Q := fun r => r = some (oI (w : Int))) (fun i s => s = nI i) w ?_ ?_ w 0 FU 0 (by omega) (by show _ < 6000; omega) rfl
  · rintro n i _ hi rfl
    refine ⟨nI (i + 1), rfl, ?_⟩
    show fX9_windowOf_8 σ 462 (n + 1) (oI (m : Int)) (nI i) = fX9_windowOf_8 σ 462 n (oI (m : Int)) (nI (i + 1))
    rw [fX9_windowOf_8, m_w0 (w := i) (j_nI (by omega)) (by omega), j_b]
    unfold fX9_windowOf_29
    by_cases q : mv (σ.1 463) 12 i = 0
    · rw [if_pos (by rw [j_eq, t_mv]; exact q), j_s]
    · rw [if_neg (by rw [j_eq, t_mv]; exact q), m_w5 (w := i) (j_nI (by omega)) (by omega), j_b, if_neg, j_s]
      rw [j_eq, t_mv, j_oI (by omega) (by omega)]
      intro z
      have : V 5 i = m := by rw [← (h.2 i (by omega)).2]; exact z
      have := t.un (by omega) w1 this w3
      omega
  · rintro n _ rfl
    show fX9_windowOf_8 σ 462 (n + 1) (oI (m : Int)) (nI w) = _
    have e0 : mv (σ.1 463) 12 w = 1 := by
      rw [(h.2 w w1).1, if_pos (Or.inr (by omega))]
    have e5 : mv (σ.1 463) 17 w = m := by
      rw [(h.2 w w1).2, w3]
    rw [fX9_windowOf_8, m_w0 (w := w) (j_nI (by omega)) (by omega), j_b, e0, if_neg (by decide), m_w5 (w := w) (j_nI (by omega)) (by omega), j_b, e5, if_pos rfl, j_nIo w (by omega)]
/-- panes of the main window are marked -/
theorem m_rd29 (vm : VM (mv (σ.1 463)) V (fun _ => false)) (h : Inv V d wn) : ∀ (k i fuel : Nat) (s : Sg), i + k = 12 → k < fuel → Out σ s 463 463 → (∀ j, j ≠ 11 → mv (s.1 463) j = mv (σ.1 463) j) → (∀ p, p < 12 → mv (s.1 463) 11 p = if p < i ∧ own V p = true then 2 else mv (σ.1 463) 11 p) → ∃ s', fX9_read_29 462 fuel s (nI i) = fX9_read_71 462 FU s' 0 ∧ Out σ s' 463 463 ∧ (∀ j, j ≠ 11 → mv (s'.1 463) j = mv (σ.1 463) j) ∧ ∀ p, p < 12 → mv (s'.1 463) 11 p = if own V p = true then 2 else mv (σ.1 463) 11 p := by
  intro k
  induction k with
  | zero =>
    intro i fuel s e hf o hj h11
    match fuel, hf with
    | f + 1, _ =>
      have : i = 12 := by omega
      subst this
      refine ⟨s, by rw [fX9_read_29, if_pos (n_le 12 (m := 12) rfl (by decide))], o, hj, fun p hp => ?_⟩
      rw [h11 p hp]
      by_cases z : own V p = true
      · rw [if_pos ⟨hp, z⟩, if_pos z]
      · rw [if_neg (fun y => z y.2), if_neg z]
  | succ k ih =>
    intro i fuel s e hf o hj h11
    match fuel, hf with
    | f + 1, hf =>
      have ti : (nI i).toInt = i := j_nI (by omega)
      have hi : i < 12 := by omega
      have wr : WR (mv (s.1 463)) V := vm.wr.cg (hj 1 (by omega)) (hj 12 (by omega)) (hj 17 (by omega))
      have e9 : mv (s.1 463) 9 i = V 13 i := by rw [hj 9 (by omega)]; exact vm.gr hi
      have no : own V i = false → ∃ s', fX9_read_29 462 f s (nI (i + 1)) = fX9_read_71 462 FU s' 0 ∧ Out σ s' 463 463 ∧ (∀ j, j ≠ 11 → mv (s'.1 463) j = mv (σ.1 463) j) ∧ ∀ p, p < 12 → mv (s'.1 463) 11 p = if own V p = true then 2 else mv (σ.1 463) 11 p := fun z => ih (i + 1) f s (by omega) (by omega) o hj (fun p hp => by
        rw [h11 p hp]
        by_cases y : p < i ∧ own V p = true
        · rw [if_pos y, if_pos ⟨by omega, y.2⟩]
        · rw [if_neg y, if_neg (fun u => y ⟨by
            have : p ≠ i := fun w => by rw [w, z] at u; exact absurd u.2 Bool.false_ne_true
            omega, u.2⟩)])
      rw [fX9_read_29, if_neg (n_ge 12 (m := 12) rfl hi (by decide)), m_isPlaced ti hi, j_b, e9]
      unfold fX9_read_63
      rw [j_s]
      by_cases z : V 13 i = -1
      · rw [decide_eq_false (fun y => y z), if_neg Bool.false_ne_true]
        exact no (by
          unfold own
          rw [z, v_wo_m1]
          rfl)
      · obtain ⟨g, hg, eg, kg⟩ : ∃ g : Nat, g < 23 ∧ V 13 i = g ∧ V 8 g = 2 := by
          rcases h.2.1.gr hi with y | y
          · exact absurd y z
          · exact y
        obtain ⟨w, w5, ew, -⟩ := h.1.wr5 hg (by omega : V 8 g ≠ 3)
        have ow := own_k h hi eg
        rw [decide_eq_true z, if_pos rfl, m_o3 ti hi, j_b, e9, r_windowOf wr h.1 (n := g) (by rw [eg, j_oI (by omega) (by omega)]) hg (by omega), j_b]
        by_cases y : wn g = 0
        · obtain ⟨s2, a1, a2, a3⟩ := m_p5 (σ := s) ti hi 2
          rw [if_pos (by rw [y]; rfl), a1, j_b]
          have oi : own V i = true := by rw [ow]; exact decide_eq_true y
          refine ih (i + 1) f s2 (by omega) (by omega) (o.tr a2) (fun j hj2 => by rw [a3, mu_ne hj2]; exact hj j hj2) (fun p hp => ?_)
          rw [a3, mu_at, h11 p hp]
          by_cases x : p = i
          · rw [if_pos x, if_pos ⟨by omega, by rw [x]; exact oi⟩]
            rfl
          · rw [if_neg x]
            by_cases v : p < i ∧ own V p = true
            · rw [if_pos v, if_pos ⟨by omega, v.2⟩]
            · rw [if_neg v, if_neg (fun u => v ⟨by omega, u.2⟩)]
        · rw [if_neg (by rw [j_eq, j_oI (by omega) (by omega), jz0]; exact y)]
          exact no (by rw [ow]; exact decide_eq_false y)
/-- nodes of the main window are marked -/
theorem m_rd71 (wr0 : WR (mv (σ.1 463)) V) (h : Inv V d wn) (k0 : ∀ n, n < 23 → (mv (σ.1 463) 0 n = 0 ↔ V 8 n = 3)) (k23 : mv (σ.1 463) 0 23 = 0) : ∀ (k i fuel : Nat) (s : Sg), i + k = 24 → k < fuel → Out σ s 463 463 → (∀ j, j ≠ 5 → mv (s.1 463) j = mv (σ.1 463) j) → (∀ n, n < 23 → mv (s.1 463) 5 n = if n < i ∧ V 8 n ≠ 3 ∧ wn n = 0 then -5 else mv (σ.1 463) 5 n) → ∃ s', fX9_read_71 462 fuel s (nI i) = fX9_read_110 462 FU s' 0 ∧ Out σ s' 463 463 ∧ (∀ j, j ≠ 5 → mv (s'.1 463) j = mv (σ.1 463) j) ∧ ∀ n, n < 23 → mv (s'.1 463) 5 n = if V 8 n ≠ 3 ∧ wn n = 0 then -5 else mv (σ.1 463) 5 n := by
  intro k
  induction k with
  | zero =>
    intro i fuel s e hf o hj h5
    match fuel, hf with
    | f + 1, _ =>
      have : i = 24 := by omega
      subst this
      refine ⟨s, by rw [fX9_read_71, if_pos (n_le 24 (m := 24) rfl (by decide))], o, hj, fun n hn => ?_⟩
      rw [h5 n hn]
      by_cases z : V 8 n ≠ 3 ∧ wn n = 0
      · rw [if_pos ⟨by omega, z⟩, if_pos z]
      · rw [if_neg (fun y => z y.2), if_neg z]
  | succ k ih =>
    intro i fuel s e hf o hj h5
    match fuel, hf with
    | f + 1, hf =>
      have ti : (nI i).toInt = i := j_nI (by omega)
      have wr : WR (mv (s.1 463)) V := wr0.cg (hj 1 (by omega)) (hj 12 (by omega)) (hj 17 (by omega))
      have e0 : mv (s.1 463) 0 i = mv (σ.1 463) 0 i := by rw [hj 0 (by omega)]
      have no : (i < 23 → ¬ (V 8 i ≠ 3 ∧ wn i = 0)) → ∃ s', fX9_read_71 462 f s (nI (i + 1)) = fX9_read_110 462 FU s' 0 ∧ Out σ s' 463 463 ∧ (∀ j, j ≠ 5 → mv (s'.1 463) j = mv (σ.1 463) j) ∧ ∀ n, n < 23 → mv (s'.1 463) 5 n = if V 8 n ≠ 3 ∧ wn n = 0 then -5 else mv (σ.1 463) 5 n := fun z => ih (i + 1) f s (by omega) (by omega) o hj (fun n hn => by
        rw [h5 n hn]
        by_cases y : n < i ∧ V 8 n ≠ 3 ∧ wn n = 0
        · rw [if_pos y, if_pos ⟨by omega, y.2⟩]
        · rw [if_neg y, if_neg (fun u => y ⟨by
            have : n ≠ i := fun w => z (by omega) (by rw [← w]; exact u.2)
            omega, u.2⟩)])
      rw [fX9_read_71, if_neg (n_ge 24 (m := 24) rfl (by omega) (by decide)), m_i0 ti (by omega), j_b, e0]
      unfold fX9_read_102
      rw [j_s]
      by_cases z : mv (σ.1 463) 0 i = 0
      · rw [if_pos (by rw [z]; rfl)]
        exact no (fun hi u => u.1 ((k0 i hi).mp z))
      · have hi : i < 23 := by
          refine Classical.byContradiction (fun y => z ?_)
          rw [show i = 23 by omega]
          exact k23
        have hu : V 8 i ≠ 3 := fun y => z ((k0 i hi).mpr y)
        obtain ⟨w, w5, ew, -⟩ := h.1.wr5 hi hu
        rw [if_neg (by rw [j_eq, t_mv, jz0]; exact z), r_windowOf wr h.1 ti hi hu, j_b]
        by_cases y : wn i = 0
        · obtain ⟨s2, a1, a2, a3⟩ := m_l5 (σ := s) ti (by omega) (-5)
          rw [if_pos (by rw [y]; rfl), a1, j_b]
          refine ih (i + 1) f s2 (by omega) (by omega) (o.tr a2) (fun j hj2 => by rw [a3, mu_ne hj2]; exact hj j hj2) (fun n hn => ?_)
          rw [a3, mu_at, h5 n hn]
          by_cases x : n = i
          · rw [if_pos x, if_pos ⟨by omega, by rw [x]; exact ⟨hu, y⟩⟩]
            rfl
          · rw [if_neg x]
            by_cases v : n < i ∧ V 8 n ≠ 3 ∧ wn n = 0
            · rw [if_pos v, if_pos ⟨by omega, v.2⟩]
            · rw [if_neg v, if_neg (fun u => v ⟨by omega, u.2⟩)]
        · rw [if_neg (by rw [j_eq, j_oI (by omega) (by omega), jz0]; exact y)]
          exact no (fun _ u => y u.2)
/-- they are freed -/
theorem m_rd110 (c : Nat → Bool) (h5 : ∀ n, n < 23 → mv (σ.1 463) 0 n ≠ 0 → (mv (σ.1 463) 5 n = -5 ↔ c n = true)) (k23 : mv (σ.1 463) 0 23 = 0) : ∀ (k i fuel : Nat) (s : Sg), i + k = 24 → k < fuel → Out σ s 463 463 → (∀ j, j ≠ 0 → mv (s.1 463) j = mv (σ.1 463) j) → (∀ n, n < 24 → mv (s.1 463) 0 n = if n < i ∧ n < 23 ∧ c n = true then 0 else mv (σ.1 463) 0 n) → ∃ s', fX9_read_110 462 fuel s (nI i) = fX9_read_151 462 FU s' 0 ∧ Out σ s' 463 463 ∧ (∀ j, j ≠ 0 → mv (s'.1 463) j = mv (σ.1 463) j) ∧ ∀ n, n < 24 → mv (s'.1 463) 0 n = if n < 23 ∧ c n = true then 0 else mv (σ.1 463) 0 n := by
  intro k
  induction k with
  | zero =>
    intro i fuel s e hf o hj h0
    match fuel, hf with
    | f + 1, _ =>
      have : i = 24 := by omega
      subst this
      refine ⟨s, by rw [fX9_read_110, if_pos (n_le 24 (m := 24) rfl (by decide))], o, hj, fun n hn => ?_⟩
      rw [h0 n hn]
      by_cases z : n < 23 ∧ c n = true
      · rw [if_pos ⟨by omega, z⟩, if_pos z]
      · rw [if_neg (fun y => z y.2), if_neg z]
  | succ k ih =>
    intro i fuel s e hf o hj h0
    match fuel, hf with
    | f + 1, hf =>
      have ti : (nI i).toInt = i := j_nI (by omega)
      have e0 : mv (s.1 463) 0 i = mv (σ.1 463) 0 i := by rw [h0 i (by omega), if_neg (by omega)]
      have e5 : mv (s.1 463) 5 i = mv (σ.1 463) 5 i := by rw [hj 5 (by omega)]
      have no : ¬ (i < 23 ∧ c i = true) ∨ mv (σ.1 463) 0 i = 0 → ∃ s', fX9_read_110 462 f s (nI (i + 1)) = fX9_read_151 462 FU s' 0 ∧ Out σ s' 463 463 ∧ (∀ j, j ≠ 0 → mv (s'.1 463) j = mv (σ.1 463) j) ∧ ∀ n, n < 24 → mv (s'.1 463) 0 n = if n < 23 ∧ c n = true then 0 else mv (σ.1 463) 0 n := fun z => ih (i + 1) f s (by omega) (by omega) o hj (fun n hn => by
        rw [h0 n hn]
        by_cases y : n < i ∧ n < 23 ∧ c n = true
        · rw [if_pos y, if_pos ⟨by omega, y.2⟩]
        · rw [if_neg y]
          by_cases x : n < i + 1 ∧ n < 23 ∧ c n = true
          · have : n = i := by
              refine Classical.byContradiction (fun w => y ⟨by omega, x.2⟩)
            subst this
            rcases z with z | z
            · exact absurd x.2 z
            · rw [if_pos x, z]
          · rw [if_neg x])
      rw [fX9_read_110, if_neg (n_ge 24 (m := 24) rfl (by omega) (by decide)), m_i0 ti (by omega), j_b, e0]
      unfold fX9_read_143
      rw [j_s]
      by_cases z : mv (σ.1 463) 0 i = 0
      · rw [if_pos (by rw [z]; rfl)]
        exact no (Or.inr z)
      · have hi : i < 23 := by
          refine Classical.byContradiction (fun y => z ?_)
          rw [show i = 23 by omega]
          exact k23
        rw [if_neg (by rw [j_eq, t_mv, jz0]; exact z), m_i5 ti (by omega), j_b, e5]
        have m5 : (-5 : Int32).toInt = -5 := rfl
        by_cases y : c i = true
        · obtain ⟨s2, a1, a2, a3⟩ := m_l0 (σ := s) ti (by omega) 0
          rw [if_pos (by rw [j_eq, t_mv, m5]; exact (h5 i hi z).mpr y), a1, j_b]
          refine ih (i + 1) f s2 (by omega) (by omega) (o.tr a2) (fun j hj2 => by rw [a3, mu_ne hj2]; exact hj j hj2) (fun n hn => ?_)
          rw [a3, mu_at, h0 n hn]
          by_cases x : n = i
          · rw [if_pos x, if_pos ⟨by omega, by omega, by rw [x]; exact y⟩]
            rfl
          · rw [if_neg x]
            by_cases v : n < i ∧ n < 23 ∧ c n = true
            · rw [if_pos v, if_pos ⟨by omega, v.2⟩]
            · rw [if_neg v, if_neg (fun u => v ⟨by omega, u.2⟩)]
        · rw [if_neg (by rw [j_eq, t_mv, m5]; exact fun w => y ((h5 i hi z).mp w))]
          exact no (Or.inl (fun u => y u.2))
end RB7
