/-! THE RELATION: a pane goes; rows -/
section RW
variable {V : VW}
theorem up5 {w : Nat} {x : Int} (h : w < 5) (i : Nat) : up V 5 w x 5 i = if i = w then x else V 5 i := up_at i (by rw [inr_5]; exact decide_eq_true h)
theorem up1 {w : Nat} {x : Int} (h : w < 5) (i : Nat) : up V 1 w x 1 i = if i = w then x else V 1 i := up_at i (by rw [inr_1]; exact decide_eq_true h)
theorem up2 {w : Nat} {x : Int} (h : w < 5) (i : Nat) : up V 2 w x 2 i = if i = w then x else V 2 i := up_at i (by rw [inr_2]; exact decide_eq_true h)
theorem up3 {w : Nat} {x : Int} (h : w < 5) (i : Nat) : up V 3 w x 3 i = if i = w then x else V 3 i := up_at i (by rw [inr_3]; exact decide_eq_true h)
theorem up4 {w : Nat} {x : Int} (h : w < 5) (i : Nat) : up V 4 w x 4 i = if i = w then x else V 4 i := up_at i (by rw [inr_4]; exact decide_eq_true h)
theorem up8 {n : Nat} {x : Int} (h : n < 23) (i : Nat) : up V 8 n x 8 i = if i = n then x else V 8 i := up_at i (by rw [inr_8]; exact decide_eq_true h)
theorem up9 {n : Nat} {x : Int} (h : n < 23) (i : Nat) : up V 9 n x 9 i = if i = n then x else V 9 i := up_at i (by rw [inr_9]; exact decide_eq_true h)
theorem up10 {n : Nat} {x : Int} (h : n < 23) (i : Nat) : up V 10 n x 10 i = if i = n then x else V 10 i := up_at i (by rw [inr_10]; exact decide_eq_true h)
theorem up11 {n : Nat} {x : Int} (h : n < 23) (i : Nat) : up V 11 n x 11 i = if i = n then x else V 11 i := up_at i (by rw [inr_11]; exact decide_eq_true h)
theorem up12 {n : Nat} {x : Int} (h : n < 23) (i : Nat) : up V 12 n x 12 i = if i = n then x else V 12 i := up_at i (by rw [inr_12]; exact decide_eq_true h)
theorem up13 {p : Nat} {x : Int} (h : p < 12) (i : Nat) : up V 13 p x 13 i = if i = p then x else V 13 i := up_at i (by rw [inr_13]; exact decide_eq_true h)
theorem up14 {p : Nat} {x : Int} (h : p < 12) (i : Nat) : up V 14 p x 14 i = if i = p then x else V 14 i := up_at i (by rw [inr_14]; exact decide_eq_true h)
theorem up15 {p : Nat} {x : Int} (h : p < 12) (i : Nat) : up V 15 p x 15 i = if i = p then x else V 15 i := up_at i (by rw [inr_15]; exact decide_eq_true h)
end RW
/-- p leaves its group g: the rows of tabs -/
theorem out_rows {V : VW} {X : Nat → Bool} (h : Tabs V X) {p g : Nat} (hp : p < 12) (hg : V 13 p = g) :
    (∀ i, i < 12 → v_out V p 13 i = if i = p then -1 else V 13 i) ∧
    (∀ i, i < 12 → v_out V p 14 i = if i = p then -1 else if V 13 i = g ∧ V 14 p < V 14 i then V 14 i - 1 else V 14 i) ∧
    (∀ i, i < 12 → v_out V p 15 i = if i = p then 0 else V 15 i) ∧
    ∀ i, i < 23 → v_out V p 12 i = if i = g ∧ V 12 g = p then v_ai (up V 15 p 1) g (V 14 p) else V 12 i := by
  obtain ⟨g1, g2⟩ := h.g2 hp hg
  have nu := h.nu g1 g2
  have hide13 : v_hide V p 13 = V 13 := v_hide_ne (by decide) (by decide)
  have hide14 : v_hide V p 14 = V 14 := v_hide_ne (by decide) (by decide)
  have tc : v_tc (v_hide V p) g = cnt (fun q => decide (V 13 q = (g : Int))) 12 := by
    unfold v_tc
    rw [hide13]
  have tc1 := cnt_pos (c := fun q => decide (V 13 q = (g : Int))) (n := 12) hp (by simp [hg])
  have tc2 := cnt_le (fun q => decide (V 13 q = (g : Int))) 12
  have spp := nu.1 p hp (by simp [hg])
  refine ⟨fun i hi => ?_, fun i hi => ?_, fun i hi => ?_, fun i hi => ?_⟩
  · unfold v_out
    rw [up_ne (by decide), up_ne (by decide), up13 hp, v_move_ne (by decide), hide13]
  · unfold v_out
    rw [up_ne (by decide), up14 hp, up_ne (by decide)]
    by_cases e : i = p
    · rw [if_pos e, if_pos e]
    · rw [if_neg e, if_neg e]
      unfold v_move
      rw [up14 hp, if_neg e, hide13, hide14, ga_in hp, ga_in hp, hg, tc]
      by_cases q : V 13 i = g
      · have spi := nu.1 i hi (by simp [q])
        have ne : V 14 i ≠ V 14 p := fun z => e (nu.2.2 i p hi hp (by simp [q]) (by simp [hg]) z)
        rw [if_pos ⟨rfl, hi, q⟩, wr_id (x := (cnt (fun q => decide (V 13 q = (g : Int))) 12 : Int) - 1) (by omega) (by omega)]
        unfold v_step
        by_cases w : V 14 p < V 14 i
        · rw [if_pos (by omega), if_pos ⟨q, w⟩, wr_id (by omega) (by omega)]
          omega
        · rw [if_neg (by omega), if_neg (by omega), if_neg (fun z => w z.2), wr_id (by omega) (by omega)]
          omega
      · rw [if_neg (fun z => q z.2.2), if_neg (fun z => q z.1)]
  · unfold v_out
    rw [up15 hp, up_ne (by decide), up_ne (by decide), v_move_ne (by decide)]
    by_cases e : i = p
    · rw [if_pos e, if_pos e]
    · rw [if_neg e, if_neg e]
      unfold v_hide
      split
      · rw [up_ne (by decide), up15 hp, if_neg e]
      · rw [up15 hp, if_neg e]
  · unfold v_out
    rw [up_ne (by decide), up_ne (by decide), up_ne (by decide), v_move_ne (by decide)]
    unfold v_hide
    rw [ga_in hp, hg, ga_in g1, ga_in hp]
    by_cases q : V 12 g = p
    · rw [if_pos q, up12 g1, up_ne (by decide)]
      by_cases e : i = g
      · rw [if_pos e, if_pos ⟨e, q⟩]
      · rw [if_neg e, if_neg (fun z => e z.1)]
    · rw [if_neg q, up_ne (by decide), if_neg (fun z => q z.2)]
theorem out_tabs {V : VW} {X X' : Nat → Bool} (h : Tabs V X) {p g : Nat} (hp : p < 12) (hg : V 13 p = g) (hX : ∀ k, k ≠ g → X' k = X k) (hx : X' g = false → X g = false ∧ v_tc (v_out V p) g ≠ 0) : Tabs (v_out V p) X' := by
  obtain ⟨r13, r14, r15, r12⟩ := out_rows h hp hg
  obtain ⟨g1, g2⟩ := h.g2 hp hg
  have r8 : v_out V p 8 = V 8 := v_out_ne (by decide) (by decide) (by decide) (by decide)
  refine ⟨fun i hi => ?_, fun i hi q => ?_, fun i hi => ?_, fun t ht q => ?_⟩
  · rw [r13 i hi, r8]
    by_cases e : i = p
    · exact Or.inl (if_pos e)
    · rw [if_neg e]
      exact h.gr hi
  · rw [r13 i hi] at q
    rw [r14 i hi, r15 i hi]
    by_cases e : i = p
    · rw [if_pos e, if_pos e]
      exact ⟨rfl, rfl⟩
    · rw [if_neg e] at q ⊢
      rw [if_neg e, if_neg (fun z => by omega)]
      exact h.no hi q
  · rw [r15 i hi]
    by_cases e : i = p
    · rw [if_pos e]
      exact Or.inl rfl
    · rw [if_neg e]
      exact h.hi hi
  · rw [r8] at q
    have a := h.nu ht q
    by_cases e : t = g
    · subst e
      have b := a.rem (m' := fun i => decide (v_out V p 13 i = (t : Int))) (p' := v_out V p 14) hp (by simp [hg]) (by rw [r13 p hp, if_pos rfl, decide_eq_false_iff_not]; omega) (fun i hi ne => by rw [r13 i hi, if_neg ne]) (fun i hi ne mi => by
        rw [decide_eq_true_eq] at mi
        rw [r14 i hi, if_neg ne]
        by_cases w : V 14 p < V 14 i
        · rw [if_pos w, if_pos ⟨mi, w⟩]
        · rw [if_neg w, if_neg (fun z => w z.2)])
      refine ⟨b.1, fun x => ?_⟩
      obtain ⟨x1, x2⟩ := hx x
      refine ⟨by unfold v_tc at x2; omega, ?_⟩
      obtain ⟨_, act⟩ := h.fu ht q x1
      unfold Act
      rw [r12 t ht]
      by_cases w : V 12 t = p
      · rw [if_pos ⟨rfl, w⟩]
        have H13 : (up V 15 p 1) 13 = V 13 := up_ne (by decide)
        have H14 : (up V 15 p 1) 14 = V 14 := up_ne (by decide)
        have nu' : Nmb 12 (fun i => decide ((up V 15 p 1) 13 i = (t : Int))) ((up V 15 p 1) 14) := by rw [H13, H14]; exact a
        rcases v_ai_sp (fr := V 14 p) nu' (fun i hi e1 e2 => by
          rw [H13] at e1
          rw [H14] at e2
          have : i = p := a.2.2 i p hi hp (by simp [e1]) (by simp [hg]) e2
          rw [this, up15 hp, if_pos rfl]) with ⟨z1, z2⟩ | ⟨c, c1, c2, c3, c4⟩
        · left
          refine ⟨z1, fun i hi e1 => ?_⟩
          rw [r13 i hi] at e1
          have ne : i ≠ p := fun z => by rw [if_pos z] at e1; omega
          rw [if_neg ne] at e1
          have := z2 i hi (by rw [H13]; exact e1)
          rw [up15 hp, if_neg ne] at this
          rw [r15 i hi, if_neg ne, this]
        · right
          rw [H13] at c3
          have ne : c ≠ p := fun z => c4 (by rw [z, up15 hp, if_pos rfl])
          rw [up15 hp, if_neg ne] at c4
          refine ⟨c, c1, c2, by rw [r13 c c1, if_neg ne]; exact c3, ?_⟩
          rw [r15 c c1, if_neg ne]
          rcases h.hi c1 with y | y
          · exact y
          · exact absurd y c4
      · rw [if_neg (fun z => w z.2)]
        rcases act with ⟨b1, b2⟩ | ⟨c, c1, c2, c3, c4⟩
        · left
          refine ⟨b1, fun i hi e1 => ?_⟩
          rw [r13 i hi] at e1
          have ne : i ≠ p := fun z => by rw [if_pos z] at e1; omega
          rw [if_neg ne] at e1
          rw [r15 i hi, if_neg ne]
          exact b2 i hi e1
        · right
          have ne : c ≠ p := fun z => w (by rw [c2, z])
          exact ⟨c, c1, c2, by rw [r13 c c1, if_neg ne]; exact c3, by rw [r15 c c1, if_neg ne]; exact c4⟩
    · have c : ∀ i, i < 12 → decide (v_out V p 13 i = (t : Int)) = decide (V 13 i = (t : Int)) := fun i hi => by
        rw [r13 i hi]
        by_cases z : i = p
        · rw [if_pos z, z, hg]
          have h1 : ¬ (-1 : Int) = t := by omega
          have h2 : ¬ (g : Int) = t := by omega
          simp [h1, h2]
        · rw [if_neg z]
      refine ⟨a.cg c (fun i hi mi => ?_), fun x => ?_⟩
      · rw [decide_eq_true_eq] at mi
        have ne : i ≠ p := fun z => by rw [z, hg] at mi; omega
        rw [r14 i hi, if_neg ne, if_neg (fun z => by omega)]
      · obtain ⟨f1, f2⟩ := h.fu ht q (by rw [← hX t e]; exact x)
        refine ⟨by rw [cnt_congr c]; exact f1, ?_⟩
        unfold Act
        rw [r12 t ht, if_neg (fun z => e z.1)]
        rcases f2 with ⟨b1, b2⟩ | ⟨c, c1, c2, c3, c4⟩
        · left
          refine ⟨b1, fun i hi e1 => ?_⟩
          rw [r13 i hi] at e1
          have ne : i ≠ p := fun z => by rw [if_pos z] at e1; omega
          rw [if_neg ne] at e1
          rw [r15 i hi, if_neg ne]
          exact b2 i hi e1
        · right
          have ne : c ≠ p := fun z => by rw [z, hg] at c3; omega
          exact ⟨c, c1, c2, by rw [r13 c c1, if_neg ne]; exact c3, by rw [r15 c c1, if_neg ne]; exact c4⟩
/-- a node that is detached and free -/
theorem fd_rows {V : VW} {g : Nat} (hg : g < 23) :
    (∀ i, v_free (v_detach V g) g 8 i = if i = g then 3 else V 8 i) ∧
    (∀ i, v_free (v_detach V g) g 9 i = if i = g then -1 else V 9 i) ∧
    (∀ i, v_free (v_detach V g) g 10 i = if i < 23 ∧ V 9 g ≠ -1 ∧ i ≠ g ∧ V 9 i = V 9 g ∧ V 10 g ≤ V 10 i then wr (V 10 i - 1) else V 10 i) ∧
    ∀ j, j ≠ 8 → j ≠ 9 → j ≠ 10 → v_free (v_detach V g) g j = V j := by
  have dt : ∀ j, j ≠ 10 → v_detach V g j = up V 9 g (-1) j := fun j hj => by
    funext i
    unfold v_detach v_shift
    rw [if_neg (fun z => hj z.1)]
  refine ⟨fun i => ?_, fun i => ?_, fun i => ?_, fun j h8 h9 h10 => ?_⟩
  · unfold v_free
    rw [up8 hg, dt 8 (by decide), up_ne (by decide)]
  · unfold v_free
    rw [up_ne (by decide), dt 9 (by decide), up9 hg]
  · unfold v_free
    rw [up_ne (by decide)]
    unfold v_detach v_shift
    rw [ga_in hg, ga_in hg, up_ne (j := 9) (j' := 10) (by decide), up9 hg]
    by_cases e : i = g
    · rw [if_pos e, if_neg (fun z => by omega), if_neg (fun z => z.2.2.1 e)]
    · rw [if_neg e]
      by_cases q : i < 23 ∧ V 9 g ≠ -1 ∧ V 9 i = V 9 g ∧ V 10 g ≤ V 10 i
      · rw [if_pos ⟨rfl, q⟩, if_pos ⟨q.1, q.2.1, e, q.2.2⟩]
        rfl
      · rw [if_neg (fun z => q z.2), if_neg (fun z => q ⟨z.1, z.2.1, z.2.2.2⟩)]
  · unfold v_free
    rw [up_ne h8, dt j h10, up_ne h9]
