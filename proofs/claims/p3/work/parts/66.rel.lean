/-! THE RELATION: how many nodes are in use; withdraw, join -/
theorem sm_pick (x : Int) : ∀ m : Nat, sm (fun s => if x = (s : Int) then 1 else 0) m = if 0 ≤ x ∧ x < m then 1 else 0
  | 0 => by
    rw [if_neg (by omega)]
    rfl
  | m + 1 => by
    show sm _ m + (if x = (m : Int) then 1 else 0) = _
    rw [sm_pick x m]
    by_cases h : x = m
    · rw [if_pos h, if_neg (by omega), if_pos (by omega)]
      rfl
    · rw [if_neg h]
      by_cases q : 0 ≤ x ∧ x < m
      · rw [if_pos q, if_pos (by omega)]
        rfl
      · rw [if_neg q, if_neg (by omega)]
        rfl
/-- who points below m, counted at the ends -/
theorem cnt_ends (f : Nat → Int) (m n : Nat) : sm (fun s => (cnt (fun i => decide (f i = s)) n : Int)) m = cnt (fun i => decide (0 ≤ f i ∧ f i < m)) n := by
  have h1 : sm (fun s => (cnt (fun i => decide (f i = s)) n : Int)) m = sm (fun s => sm (fun i => if f i = (s : Int) then 1 else 0) n) m := sm_congr (fun s _ => by
    rw [← sm_cnt]
    exact sm_congr (fun i _ => by simp))
  rw [h1, ← sm_swap (fun i s => if f i = (s : Int) then 1 else 0) m n, ← sm_cnt]
  refine sm_congr (fun i _ => ?_)
  rw [sm_pick]
  simp
theorem sm_two (c : Nat → Bool) : ∀ n, sm (fun i => if c i then 2 else 0) n = 2 * (cnt c n : Int)
  | 0 => rfl
  | n + 1 => by
    show sm _ n + (if c n then 2 else 0) = 2 * ((cnt c n + (if c n then 1 else 0) : Nat) : Int)
    rw [sm_two c n]
    split <;> omega
/-- the splits are less than the groups, by the trees -/
theorem few_nodes {V : VW} {d : Nat → Nat} {wn : Nat → Int} (h : Tree V d wn (fun _ => false)) (ht : Tabs V (fun _ => false)) : cnt (fun n => decide (V 8 n ≠ 3)) 23 + (if cnt (fun p => decide (V 13 p ≠ -1)) 12 = 0 then 0 else 1) ≤ 2 * cnt (fun p => decide (V 13 p ≠ -1)) 12 := by
  have a1 : cnt (fun n => decide (V 8 n ≠ 3)) 23 = cnt (fun n => decide (V 8 n ≤ 1)) 23 + cnt (fun n => decide (V 8 n = 2)) 23 := cnt_split (fun i hi => by
    have := h.ki hi
    by_cases x : V 8 i ≤ 1
    · have y : ¬ V 8 i = 2 := by omega
      have z : ¬ V 8 i = 3 := by omega
      simp [x, y, z]
    · by_cases y : V 8 i = 2
      · simp [y]
      · have z : V 8 i = 3 := by omega
        simp [z])
  have a2 : cnt (fun n => decide (V 8 n ≠ 3)) 23 = cnt (fun n => decide (V 9 n ≠ -1)) 23 + cnt (fun n => decide (V 8 n ≠ 3) && decide (V 9 n = -1)) 23 := cnt_split (fun i hi => by
    by_cases x : V 9 i = -1
    · simp [x]
    · have := h.us hi x
      simp [x, this])
  have a3 : (2 : Int) * (cnt (fun n => decide (V 8 n ≤ 1)) 23 : Int) ≤ cnt (fun n => decide (V 9 n ≠ -1)) 23 := by
    have e1 : (cnt (fun n => decide (V 9 n ≠ -1)) 23 : Int) = sm (fun s => (cnt (fun i => decide (V 9 i = s)) 23 : Int)) 23 := by
      rw [cnt_ends]
      congr 1
      refine cnt_congr (fun i hi => ?_)
      by_cases x : V 9 i = -1
      · simp [x]
      · obtain ⟨s, s1, s2, _⟩ := h.pa hi x
        have : (0 : Int) ≤ s ∧ (s : Int) < 23 := by omega
        rw [s2]
        simp
        omega
    rw [e1, ← sm_two]
    refine sm_le (fun s hs => ?_)
    by_cases x : V 8 s ≤ 1
    · have := (h.sp hs x).2 rfl
      simp only [x, decide_true, if_true]
      omega
    · simp only [x, decide_false, Bool.false_eq_true, if_false]
      omega
  have a4 : (cnt (fun n => decide (V 8 n = 2)) 23 : Int) ≤ cnt (fun p => decide (V 13 p ≠ -1)) 12 := by
    have e1 : (cnt (fun p => decide (V 13 p ≠ -1)) 12 : Int) = sm (fun s => (cnt (fun i => decide (V 13 i = s)) 12 : Int)) 23 := by
      rw [cnt_ends]
      congr 1
      refine cnt_congr (fun i hi => ?_)
      rcases ht.gr hi with x | ⟨g, g1, g2, _⟩
      · simp [x]
      · have : (0 : Int) ≤ g ∧ (g : Int) < 23 := by omega
        rw [g2]
        simp
        omega
    rw [e1, ← sm_cnt]
    refine sm_le (fun s hs => ?_)
    by_cases x : V 8 s = 2
    · have := (ht.fu hs x rfl).1
      simp only [x, decide_true, if_true]
      omega
    · simp only [x, decide_false, Bool.false_eq_true, if_false]
      omega
  by_cases z : cnt (fun p => decide (V 13 p ≠ -1)) 12 = 0
  · rw [if_pos z]
    omega
  · rw [if_neg z]
    have a5 : 1 ≤ cnt (fun n => decide (V 8 n ≠ 3) && decide (V 9 n = -1)) 23 := by
      obtain ⟨p, hp, q⟩ := cnt_ex (c := fun p => decide (V 13 p ≠ -1)) (n := 12) (by omega)
      rw [decide_eq_true_eq] at q
      rcases ht.gr hp with x | ⟨g, g1, g2, g3⟩
      · exact absurd x q
      · obtain ⟨m, m1, m2, m3, m4, m5⟩ := h.top g1 (by omega)
        exact cnt_pos m1 (by simp [m3, m4])
    omega
theorem cnt_free (V : VW) : cnt (fun n => decide (V 8 n = 3)) 23 + cnt (fun n => decide (V 8 n ≠ 3)) 23 = 23 := by
  have h : cnt (fun _ => true) 23 = cnt (fun n => decide (V 8 n = 3)) 23 + cnt (fun n => decide (V 8 n ≠ 3)) 23 := cnt_split (fun i _ => by
    by_cases x : V 8 i = 3 <;> simp [x])
  have : cnt (fun _ => true) 23 = 23 := by decide
  omega
theorem v_mn_sp {V : VW} (h : 1 ≤ cnt (fun n => decide (V 8 n = 3)) 23) : ∃ f : Nat, f < 23 ∧ v_mn V = f ∧ V 8 f = 3 ∧ ∀ k, k < f → V 8 k ≠ 3 := by
  unfold v_mn
  rcases fnd_spec (fun n => decide (V 8 n = 3)) 23 with ⟨_, h2⟩ | ⟨i, h1, h2, h3, h4⟩
  · rw [cnt_zero.mpr h2] at h
    omega
  · rw [decide_eq_true_eq] at h3
    exact ⟨i, h1, h2, h3, fun k hk => by simpa using h4 k hk⟩
/-- a pane is taken away: what is left as it was -/
def Wd (V V' : VW) (p : Nat) (wn : Nat → Int) : Prop :=
  (∀ i, i < 12 → V' 13 i = if i = p then -1 else V 13 i) ∧ (∀ i, i < 12 → V' 15 i = if i = p then 0 else V 15 i) ∧
  (∀ n, n < 23 → V' 8 n = 3 ∨ V' 8 n = V 8 n) ∧ (∀ n, n < 23 → V 8 n = 3 → V' 8 n = 3) ∧
  (∀ n, n < 23 → V 8 n ≠ 3 → (∀ g : Nat, V 13 p = g → wn n ≠ wn g) → V' 8 n = V 8 n ∧ V' 9 n = V 9 n ∧ (V 9 n ≠ -1 → V' 10 n = V 10 n ∧ V' 11 n = V 11 n) ∧ V' 12 n = V 12 n) ∧
  (∀ i, i < 12 → i ≠ p → (∀ g : Nat, V 13 p = g → V 13 i ≠ g) → V' 14 i = V 14 i) ∧
  (∀ w : Nat, w < 5 → (∀ g : Nat, V 13 p = g → (w : Int) ≠ wn g) → V' 5 w = V 5 w) ∧
  V' 1 = V 1 ∧ V' 2 = V 2 ∧ V' 3 = V 3 ∧ V' 4 = V 4
theorem withdraw_ok {V : VW} {d : Nat → Nat} {wn : Nat → Int} (h : Inv V d wn) {p : Nat} (hp : p < 12) : Inv (v_withdraw V p) d wn ∧ Wd V (v_withdraw V p) p wn := by
  obtain ⟨h1, h2, h3, h4⟩ := h
  unfold v_withdraw
  rw [ga_in hp]
  rcases h2.gr hp with q | ⟨g, g1, g2, g3⟩
  · rw [if_pos q]
    obtain ⟨q14, q15⟩ := h2.no hp q
    refine ⟨⟨h1, h2, h3, h4⟩, fun i hi => ?_, fun i hi => ?_, fun n hn => Or.inr rfl, fun n hn z => z, fun n hn _ _ => ⟨rfl, rfl, fun _ => ⟨rfl, rfl⟩, rfl⟩, fun i _ _ _ => rfl, fun w _ _ => rfl, rfl, rfl, rfl, rfl⟩
    · by_cases e : i = p
      · rw [if_pos e, e, q]
      · rw [if_neg e]
    · by_cases e : i = p
      · rw [if_pos e, e, q15]
      · rw [if_neg e]
  · rw [if_neg (by omega), g2]
    obtain ⟨r13, r14, r15, r12⟩ := out_rows h2 hp g2
    have r : ∀ j, j ≠ 12 → j ≠ 13 → j ≠ 14 → j ≠ 15 → v_out V p j = V j := fun j => v_out_ne
    have T : Tree (v_out V p) d wn (fun _ => false) := h1.cg (fun n _ => by rw [r 8 (by decide) (by decide) (by decide) (by decide)]) (fun n _ => by rw [r 9 (by decide) (by decide) (by decide) (by decide)]) (fun n _ => by rw [r 10 (by decide) (by decide) (by decide) (by decide)]) (fun n hn q => by rw [r 11 (by decide) (by decide) (by decide) (by decide)]; exact h1.we hn q) (fun n _ => by rw [r 5 (by decide) (by decide) (by decide) (by decide)])
    have L : LO (odp (v_out V p)) 5 (flw (v_out V p)) := by
      rw [odp_out]
      exact h3.cg (fun i _ => by unfold flw; rw [r 5 (by decide) (by decide) (by decide) (by decide)])
    have G : Geo (v_out V p) := h4.cg (r 1 (by decide) (by decide) (by decide) (by decide)) (r 2 (by decide) (by decide) (by decide) (by decide)) (r 3 (by decide) (by decide) (by decide) (by decide)) (r 4 (by decide) (by decide) (by decide) (by decide))
    have r12' : ∀ n, n < 23 → wn n ≠ wn g → v_out V p 12 n = V 12 n := fun n hn q => by
      rw [r12 n hn, if_neg (fun z => q (by rw [z.1]))]
    by_cases q : v_tc (v_out V p) g = 0
    · rw [if_pos q]
      have T2 := out_tabs h2 hp g2 (X' := fun k => k == g) (fun k hk => by simp [hk]) (fun z => by simp at z)
      have k8 : v_out V p 8 = V 8 := r 8 (by decide) (by decide) (by decide) (by decide)
      obtain ⟨A, B, C⟩ := remg_ok T L g1 (by rw [k8]; exact g3)
      obtain ⟨c1, c2, c3, c4, c5, c6, e1, e2, e3, e4, e12, e13, e14, e15⟩ := C
      rw [k8] at c1 c2 c3 c5
      rw [r 9 (by decide) (by decide) (by decide) (by decide), r 10 (by decide) (by decide) (by decide) (by decide), r 11 (by decide) (by decide) (by decide) (by decide)] at c3
      rw [r 5 (by decide) (by decide) (by decide) (by decide)] at c4
      refine ⟨⟨A, ?_, B, G.cg e1 e2 e3 e4⟩, fun i hi => by rw [e13]; exact r13 i hi, fun i hi => by rw [e15]; exact r15 i hi, c1, c2, fun n hn z z2 => ?_, fun i hi ne z => ?_, fun w hw z => c4 w hw (z g g2), ?_, ?_, ?_, ?_⟩
      · have n0 : ∀ i, i < 12 → v_out V p 13 i ≠ g := fun i hi z => by
          have := cnt_zero.mp q i hi
          simp at this
          exact this z
        refine ⟨fun i hi => ?_, fun i hi z => ?_, fun i hi => by rw [e15]; exact T2.hi hi, fun t ht z => ?_⟩
        · rw [e13]
          rcases T2.gr hi with x | ⟨t, t1, t2, t3⟩
          · exact Or.inl x
          · refine Or.inr ⟨t, t1, t2, c5 t t1 (by rw [← k8]; exact t3) (fun y => ?_)⟩
            rw [y] at t2
            exact n0 i hi t2
        · rw [e13] at z
          rw [e14, e15]
          exact T2.no hi z
        · have nt : t ≠ g := fun y => by rw [y, c6] at z; omega
          have k2 : v_out V p 8 t = 2 := by
            rw [k8]
            rcases c1 t ht with y | y
            · omega
            · omega
          rw [e13, e14]
          refine ⟨T2.nu ht k2, fun _ => ?_⟩
          obtain ⟨f1, f2⟩ := T2.fu ht k2 (by simpa using nt)
          refine ⟨f1, ?_⟩
          unfold Act at f2 ⊢
          rw [e12, e13, e15]
          exact f2
      · obtain ⟨x1, x2, x3⟩ := c3 n hn z (z2 g g2)
        exact ⟨x1, x2, x3, by rw [e12]; exact r12' n hn (z2 g g2)⟩
      · rw [e14, r14 i hi, if_neg ne, if_neg (fun y => z g g2 y.1)]
      · rw [e1]; exact r 1 (by decide) (by decide) (by decide) (by decide)
      · rw [e2]; exact r 2 (by decide) (by decide) (by decide) (by decide)
      · rw [e3]; exact r 3 (by decide) (by decide) (by decide) (by decide)
      · rw [e4]; exact r 4 (by decide) (by decide) (by decide) (by decide)
    · rw [if_neg q]
      have T2 := out_tabs h2 hp g2 (X' := fun _ => false) (fun k hk => rfl) (fun z => ⟨rfl, q⟩)
      refine ⟨⟨T, T2, L, G⟩, r13, r15, fun n hn => Or.inr (by rw [r 8 (by decide) (by decide) (by decide) (by decide)]), fun n hn z => by rw [r 8 (by decide) (by decide) (by decide) (by decide)]; exact z, fun n hn z z2 => ?_, fun i hi ne z => ?_, fun w hw z => by rw [r 5 (by decide) (by decide) (by decide) (by decide)], r 1 (by decide) (by decide) (by decide) (by decide), r 2 (by decide) (by decide) (by decide) (by decide), r 3 (by decide) (by decide) (by decide) (by decide), r 4 (by decide) (by decide) (by decide) (by decide)⟩
      · exact ⟨by rw [r 8 (by decide) (by decide) (by decide) (by decide)], by rw [r 9 (by decide) (by decide) (by decide) (by decide)], fun _ => ⟨by rw [r 10 (by decide) (by decide) (by decide) (by decide)], by rw [r 11 (by decide) (by decide) (by decide) (by decide)]⟩, r12' n hn (z2 g g2)⟩
      · rw [r14 i hi, if_neg ne, if_neg (fun y => z g g2 y.1)]
theorem join_rows {V : VW} {p g : Nat} (hp : p < 12) (hg : g < 23) : (∀ i, v_join V p g 13 i = if i = p then (g : Int) else V 13 i) ∧ (∀ i, v_join V p g 14 i = if i = p then (v_tc V g : Int) else V 14 i) ∧ (∀ i, v_join V p g 12 i = if i = g then (p : Int) else V 12 i) ∧ ∀ j, j ≠ 12 → j ≠ 13 → j ≠ 14 → v_join V p g j = V j := by
  refine ⟨fun i => ?_, fun i => ?_, fun i => ?_, fun j a b c => ?_⟩
  · unfold v_join
    rw [up_ne (by decide), up13 hp, up_ne (by decide)]
  · unfold v_join
    rw [up_ne (by decide), up_ne (by decide), up14 hp]
  · unfold v_join
    rw [up12 hg, up_ne (by decide), up_ne (by decide)]
  · unfold v_join
    rw [up_ne a, up_ne b, up_ne c]
theorem join_tabs {V : VW} {X X' : Nat → Bool} (h : Tabs V X) {p g : Nat} (hp : p < 12) (hu : V 13 p = -1) (hg : g < 23) (hk : V 8 g = 2) (hX : ∀ k, k ≠ g → X' k = X k) : Tabs (v_join V p g) X' := by
  obtain ⟨r13, r14, r12, rj⟩ := join_rows (V := V) hp hg
  have r8 := rj 8 (by decide) (by decide) (by decide)
  have r15 := rj 15 (by decide) (by decide) (by decide)
  obtain ⟨u14, u15⟩ := h.no hp hu
  refine ⟨fun i hi => ?_, fun i hi q => ?_, fun i hi => by rw [r15]; exact h.hi hi, fun t ht q => ?_⟩
  · rw [r13 i, r8]
    by_cases e : i = p
    · exact Or.inr ⟨g, hg, if_pos e, hk⟩
    · rw [if_neg e]
      exact h.gr hi
  · rw [r13 i] at q
    by_cases e : i = p
    · rw [if_pos e] at q
      omega
    · rw [if_neg e] at q
      rw [r14 i, if_neg e, r15]
      exact h.no hi q
  · rw [r8] at q
    have a := h.nu ht q
    by_cases e : t = g
    · subst e
      have b := a.ins (m' := fun i => decide (v_join V p t 13 i = (t : Int))) (p' := v_join V p t 14) (k0 := (v_tc V t : Int)) hp (by rw [decide_eq_false_iff_not, hu]; omega) (by unfold v_tc; omega) (by rw [r13 p, if_pos rfl]; simp) (fun i _ ne => by rw [r13 i, if_neg ne]) (by rw [r14 p, if_pos rfl]) (fun i hi ne mi => by
        have := a.1 i hi mi
        rw [r14 i, if_neg ne, if_neg (by unfold v_tc; omega)])
      refine ⟨b.1, fun _ => ⟨by omega, Or.inr ⟨p, hp, by rw [r12 t, if_pos rfl], by rw [r13 p, if_pos rfl], by rw [r15]; exact u15⟩⟩⟩
    · have c : ∀ i, i < 12 → decide (v_join V p g 13 i = (t : Int)) = decide (V 13 i = (t : Int)) := fun i hi => by
        rw [r13 i]
        by_cases z : i = p
        · rw [if_pos z, z, hu]
          have h1 : ¬ (-1 : Int) = t := by omega
          have h2 : ¬ (g : Int) = t := by omega
          simp [h1, h2]
        · rw [if_neg z]
      refine ⟨a.cg c (fun i hi mi => ?_), fun x => ?_⟩
      · rw [decide_eq_true_eq] at mi
        rw [r14 i, if_neg (fun z => by rw [z, hu] at mi; omega)]
      · obtain ⟨f1, f2⟩ := h.fu ht q (by rw [← hX t e]; exact x)
        refine ⟨by rw [cnt_congr c]; exact f1, ?_⟩
        unfold Act
        rw [r12 t, if_neg e, r15]
        rcases f2 with ⟨b1, b2⟩ | ⟨y, c1, c2, c3, c4⟩
        · refine Or.inl ⟨b1, fun i hi e1 => ?_⟩
          rw [r13 i] at e1
          by_cases z : i = p
          · rw [if_pos z] at e1
            omega
          · rw [if_neg z] at e1
            exact b2 i hi e1
        · refine Or.inr ⟨y, c1, c2, ?_, c4⟩
          rw [r13 y, if_neg (fun z => by rw [z, hu] at c3; omega)]
          exact c3
