/-! THE RELATION: numberings and orders -/
/-- the members below N are numbered 0, 1, .. -/
def Nmb (N : Nat) (m : Nat → Bool) (p : Nat → Int) : Prop :=
  (∀ i, i < N → m i = true → 0 ≤ p i ∧ p i < cnt m N) ∧ (∀ k : Nat, k < cnt m N → ∃ i, i < N ∧ m i = true ∧ p i = k) ∧ ∀ i k, i < N → k < N → m i = true → m k = true → p i = p k → i = k
theorem Nmb.cg {N : Nat} {m m' : Nat → Bool} {p p' : Nat → Int} (h : Nmb N m p) (hm : ∀ i, i < N → m' i = m i) (hp : ∀ i, i < N → m i = true → p' i = p i) : Nmb N m' p' := by
  have hc : cnt m' N = cnt m N := cnt_congr hm
  obtain ⟨h1, h2, h3⟩ := h
  refine ⟨fun i hi q => ?_, fun k hk => ?_, fun i k hi hk q1 q2 e => ?_⟩
  · rw [hm i hi] at q
    rw [hp i hi q, hc]
    exact h1 i hi q
  · obtain ⟨i, hi, q, e⟩ := h2 k (by omega)
    exact ⟨i, hi, by rw [hm i hi]; exact q, by rw [hp i hi q]; exact e⟩
  · rw [hm i hi] at q1
    rw [hm k hk] at q2
    rw [hp i hi q1, hp k hk q2] at e
    exact h3 i k hi hk q1 q2 e
theorem Nmb.ins {N : Nat} {m m' : Nat → Bool} {p p' : Nat → Int} {i0 : Nat} {k0 : Int} (h : Nmb N m p) (hi0 : i0 < N) (h0 : m i0 = false) (hk0 : 0 ≤ k0 ∧ k0 ≤ cnt m N) (h0' : m' i0 = true) (hm : ∀ i, i < N → i ≠ i0 → m' i = m i) (hp0 : p' i0 = k0) (hp : ∀ i, i < N → i ≠ i0 → m i = true → p' i = if k0 ≤ p i then p i + 1 else p i) : Nmb N m' p' ∧ cnt m' N = cnt m N + 1 := by
  have hc : cnt m' N = cnt m N + 1 := cnt_one_more hi0 (fun i hi q => (hm i hi q).symm) h0 h0'
  obtain ⟨h1, h2, h3⟩ := h
  refine ⟨⟨fun i hi q => ?_, fun k hk => ?_, fun i k hi hk q1 q2 e => ?_⟩, hc⟩
  · by_cases w : i = i0
    · rw [w, hp0]
      omega
    · rw [hm i hi w] at q
      have := h1 i hi q
      rw [hp i hi w q]
      split <;> omega
  · rcases Int.lt_trichotomy k k0 with q | q | q
    · obtain ⟨i, hi, q1, e⟩ := h2 k (by omega)
      have w : i ≠ i0 := fun z => by rw [z, h0] at q1; cases q1
      exact ⟨i, hi, by rw [hm i hi w]; exact q1, by rw [hp i hi w q1, e, if_neg (by omega)]⟩
    · exact ⟨i0, hi0, h0', by rw [hp0, q]⟩
    · obtain ⟨i, hi, q1, e⟩ := h2 (k - 1) (by omega)
      have w : i ≠ i0 := fun z => by rw [z, h0] at q1; cases q1
      exact ⟨i, hi, by rw [hm i hi w]; exact q1, by rw [hp i hi w q1, e, if_pos (by omega)]; omega⟩
  · by_cases w : i = i0
    · by_cases w2 : k = i0
      · omega
      · rw [hm k hk w2] at q2
        rw [w, hp0, hp k hk w2 q2] at e
        exfalso
        revert e
        split <;> intro e <;> omega
    · rw [hm i hi w] at q1
      by_cases w2 : k = i0
      · rw [w2, hp0, hp i hi w q1] at e
        exfalso
        revert e
        split <;> intro e <;> omega
      · rw [hm k hk w2] at q2
        rw [hp i hi w q1, hp k hk w2 q2] at e
        refine h3 i k hi hk q1 q2 ?_
        revert e
        split <;> split <;> intro e <;> omega
theorem Nmb.rem {N : Nat} {m m' : Nat → Bool} {p p' : Nat → Int} {i0 : Nat} (h : Nmb N m p) (hi0 : i0 < N) (h0 : m i0 = true) (h0' : m' i0 = false) (hm : ∀ i, i < N → i ≠ i0 → m' i = m i) (hp : ∀ i, i < N → i ≠ i0 → m i = true → p' i = if p i0 < p i then p i - 1 else p i) : Nmb N m' p' ∧ cnt m N = cnt m' N + 1 := by
  have hc : cnt m N = cnt m' N + 1 := cnt_one_more hi0 (fun i hi q => hm i hi q) h0' h0
  obtain ⟨h1, h2, h3⟩ := h
  have hb := h1 i0 hi0 h0
  refine ⟨⟨fun i hi q => ?_, fun k hk => ?_, fun i k hi hk q1 q2 e => ?_⟩, hc⟩
  · have w : i ≠ i0 := fun z => by rw [z, h0'] at q; cases q
    rw [hm i hi w] at q
    have := h1 i hi q
    have ne : p i ≠ p i0 := fun z => w (h3 i i0 hi hi0 q h0 z)
    rw [hp i hi w q]
    split <;> omega
  · by_cases q : (k : Int) < p i0
    · obtain ⟨i, hi, q1, e⟩ := h2 k (by omega)
      have w : i ≠ i0 := fun z => by rw [z] at e; omega
      exact ⟨i, hi, by rw [hm i hi w]; exact q1, by rw [hp i hi w q1, e, if_neg (by omega)]⟩
    · obtain ⟨i, hi, q1, e⟩ := h2 (k + 1) (by omega)
      have w : i ≠ i0 := fun z => by rw [z] at e; omega
      exact ⟨i, hi, by rw [hm i hi w]; exact q1, by rw [hp i hi w q1, e, if_pos (by omega)]; omega⟩
  · have w : i ≠ i0 := fun z => by rw [z, h0'] at q1; cases q1
    have w2 : k ≠ i0 := fun z => by rw [z, h0'] at q2; cases q2
    rw [hm i hi w] at q1
    rw [hm k hk w2] at q2
    have ne : p i ≠ p i0 := fun z => w (h3 i i0 hi hi0 q1 h0 z)
    have ne2 : p k ≠ p i0 := fun z => w2 (h3 k i0 hk hi0 q2 h0 z)
    rw [hp i hi w q1, hp k hk w2 q2] at e
    refine h3 i k hi hk q1 q2 ?_
    revert e
    split <;> split <;> intro e <;> omega
theorem Nmb.mov {N : Nat} {m : Nat → Bool} {p p' : Nat → Int} {i0 : Nat} {k0 : Int} (h : Nmb N m p) (hi0 : i0 < N) (h0 : m i0 = true) (hk0 : 0 ≤ k0 ∧ k0 < cnt m N) (hp0 : p' i0 = k0) (hp : ∀ i, i < N → i ≠ i0 → m i = true → p' i = p i + v_step (p i0) k0 (p i)) : Nmb N m p' := by
  obtain ⟨h1, h2, h3⟩ := h
  have hb := h1 i0 hi0 h0
  refine ⟨fun i hi q => ?_, fun k hk => ?_, fun i k hi hk q1 q2 e => ?_⟩
  · by_cases w : i = i0
    · rw [w, hp0]
      omega
    · have := h1 i hi q
      rw [hp i hi w q]
      unfold v_step
      split
      · omega
      · split <;> omega
  · by_cases q : (k : Int) = k0
    · exact ⟨i0, hi0, h0, by rw [hp0, q]⟩
    · -- who comes to k
      have key : ∀ t : Nat, t < cnt m N → (t : Int) ≠ p i0 → (t : Int) + v_step (p i0) k0 t = k → ∃ i, i < N ∧ m i = true ∧ p' i = k := by
        intro t ht hne he
        obtain ⟨i, hi, q1, e⟩ := h2 t ht
        have w : i ≠ i0 := fun z => by rw [z] at e; exact hne e.symm
        exact ⟨i, hi, q1, by rw [hp i hi w q1, e]; exact he⟩
      by_cases a : p i0 ≤ (k : Int) ∧ (k : Int) < k0
      · exact key (k + 1) (by omega) (by omega) (by unfold v_step; rw [if_pos (by omega)]; omega)
      · by_cases b : k0 < (k : Int) ∧ (k : Int) ≤ p i0
        · exact key (k - 1) (by omega) (by omega) (by unfold v_step; rw [if_neg (by omega), if_pos (by omega)]; omega)
        · exact key k hk (by omega) (by unfold v_step; rw [if_neg (by omega), if_neg (by omega)]; omega)
  · by_cases w : i = i0
    · by_cases w2 : k = i0
      · omega
      · have ne2 : p k ≠ p i0 := fun z => w2 (h3 k i0 hk hi0 q2 h0 z)
        rw [w, hp0, hp k hk w2 q2] at e
        exfalso
        revert e
        unfold v_step
        split
        · intro e; omega
        · split <;> intro e <;> omega
    · have ne : p i ≠ p i0 := fun z => w (h3 i i0 hi hi0 q1 h0 z)
      by_cases w2 : k = i0
      · rw [w2, hp0, hp i hi w q1] at e
        exfalso
        revert e
        unfold v_step
        split
        · intro e; omega
        · split <;> intro e <;> omega
      · have ne2 : p k ≠ p i0 := fun z => w2 (h3 k i0 hk hi0 q2 h0 z)
        rw [hp i hi w q1, hp k hk w2 q2] at e
        refine h3 i k hi hk q1 q2 ?_
        revert e
        unfold v_step
        split <;> split <;> (try split) <;> (try split) <;> intro e <;> omega
theorem Nmb.rep {N : Nat} {m m' : Nat → Bool} {p p' : Nat → Int} {i0 i1 : Nat} (h : Nmb N m p) (hi0 : i0 < N) (hi1 : i1 < N) (h0 : m i0 = true) (h1 : m i1 = false) (h0' : m' i0 = false) (h1' : m' i1 = true) (hm : ∀ i, i < N → i ≠ i0 → i ≠ i1 → m' i = m i) (hp1 : p' i1 = p i0) (hp : ∀ i, i < N → i ≠ i0 → i ≠ i1 → m i = true → p' i = p i) : Nmb N m' p' ∧ cnt m' N = cnt m N := by
  have ne : i0 ≠ i1 := fun z => by rw [z, h1] at h0; cases h0
  have hc : cnt m' N = cnt m N := by
    have a := cnt_one_more (c := fun i => m i && i != i0) (d := m) (n := N) hi0 (fun i _ q => by simp [q]) (by simp) h0
    have b := cnt_one_more (c := fun i => m i && i != i0) (d := m') (n := N) hi1 (fun i hi q => by
      by_cases z : i = i0
      · rw [z, h0']; simp
      · rw [hm i hi z q]; simp [z]) (by simp [h1]) h1'
    omega
  obtain ⟨a1, a2, a3⟩ := h
  have sp : ∀ i, i < N → m' i = true → (i = i1 ∧ p' i = p i0) ∨ (i ≠ i0 ∧ i ≠ i1 ∧ m i = true ∧ p' i = p i) := by
    intro i hi q
    by_cases z : i = i1
    · exact Or.inl ⟨z, by rw [z]; exact hp1⟩
    · by_cases z2 : i = i0
      · rw [z2, h0'] at q; cases q
      · rw [hm i hi z2 z] at q
        exact Or.inr ⟨z2, z, q, hp i hi z2 z q⟩
  refine ⟨⟨fun i hi q => ?_, fun k hk => ?_, fun i k hi hk q1 q2 e => ?_⟩, hc⟩
  · rw [hc]
    rcases sp i hi q with ⟨_, e⟩ | ⟨_, _, b, e⟩
    · rw [e]; exact a1 i0 hi0 h0
    · rw [e]; exact a1 i hi b
  · rw [hc] at hk
    obtain ⟨i, hi, q, e⟩ := a2 k hk
    by_cases z : i = i0
    · exact ⟨i1, hi1, h1', by rw [hp1, ← z]; exact e⟩
    · have z1 : i ≠ i1 := fun w => by rw [w, h1] at q; cases q
      exact ⟨i, hi, by rw [hm i hi z z1]; exact q, by rw [hp i hi z z1 q]; exact e⟩
  · rcases sp i hi q1 with ⟨w1, e1⟩ | ⟨n1, n2, b1, e1⟩
    · rcases sp k hk q2 with ⟨w2, e2⟩ | ⟨m1, m2, b2, e2⟩
      · omega
      · rw [e1, e2] at e
        exact absurd (a3 i0 k hi0 hk h0 b2 e).symm m1
    · rcases sp k hk q2 with ⟨w2, e2⟩ | ⟨m1, m2, b2, e2⟩
      · rw [e1, e2] at e
        exact absurd (a3 i i0 hi hi0 b1 h0 e) n1
      · rw [e1, e2] at e
        exact a3 i k hi hk b1 b2 e
/-- the order lists the members below N, each once -/
def LO (o : OD) (N : Nat) (m : Nat → Bool) : Prop := o.1 = cnt m N ∧ (∀ k : Nat, k < cnt m N → ∃ x : Nat, x < N ∧ m x = true ∧ o.2 k = x) ∧ (∀ x : Nat, x < N → m x = true → ∃ k : Nat, k < cnt m N ∧ o.2 k = x) ∧ ∀ j k, j < cnt m N → k < cnt m N → o.2 j = o.2 k → j = k
theorem LO.ok {o : OD} {N : Nat} {m : Nat → Bool} (h : LO o N m) (hN : N ≤ 12) : OkO o := by
  have := cnt_le m N
  have := h.1
  unfold OkO
  omega
theorem LO.cg {o : OD} {N : Nat} {m m' : Nat → Bool} (h : LO o N m) (hm : ∀ i, i < N → m' i = m i) : LO o N m' := by
  have hc : cnt m' N = cnt m N := cnt_congr hm
  obtain ⟨h0, h1, h2, h3⟩ := h
  refine ⟨by rw [hc]; exact h0, fun k hk => ?_, fun x hx q => ?_, fun j k hj hk => h3 j k (by omega) (by omega)⟩
  · obtain ⟨x, hx, q, e⟩ := h1 k (by omega)
    exact ⟨x, hx, by rw [hm x hx]; exact q, e⟩
  · rw [hm x hx] at q
    rw [hc]
    exact h2 x hx q
theorem LO.ix_no {o : OD} {N : Nat} {m : Nat → Bool} (h : LO o N m) {x : Nat} (hx : m x = false) : o_ix o x = -1 := by
  obtain ⟨h0, h1, _, _⟩ := h
  refine fnd_no (fun i hi => ?_)
  obtain ⟨y, hy, q, e⟩ := h1 i (by omega)
  rw [decide_eq_false_iff_not, e]
  intro z
  have : y = x := by omega
  rw [this, hx] at q
  cases q
theorem LO.ix {o : OD} {N : Nat} {m : Nat → Bool} (h : LO o N m) {x : Nat} (hx : x < N) (q : m x = true) : ∃ k : Nat, k < cnt m N ∧ o.2 k = x ∧ o_ix o x = k := by
  obtain ⟨h0, h1, h2, h3⟩ := h
  obtain ⟨k, hk, e⟩ := h2 x hx q
  refine ⟨k, hk, e, fnd_un (by omega) (by simp [e]) (fun j hj e2 => ?_)⟩
  rw [decide_eq_true_eq] at e2
  exact h3 j k (by omega) hk (by rw [e2, e])
theorem LO.lv_no {o : OD} {N : Nat} {m : Nat → Bool} (h : LO o N m) {x : Nat} (hx : m x = false) : o_lv o x = o := by
  unfold o_lv
  rw [if_pos (h.ix_no hx)]
theorem LO.lv {o : OD} {N : Nat} {m m' : Nat → Bool} (h : LO o N m) {x : Nat} (hx : x < N) (q : m x = true) (q' : m' x = false) (hm : ∀ i, i < N → i ≠ x → m' i = m i) : LO (o_lv o x) N m' := by
  obtain ⟨k0, hk0, e0, ei⟩ := h.ix hx q
  have hc : cnt m N = cnt m' N + 1 := cnt_one_more hx (fun i hi z => hm i hi z) q' q
  obtain ⟨h0, h1, h2, h3⟩ := h
  unfold o_lv
  rw [if_neg (by omega), ei]
  have val : ∀ k : Nat, k < cnt m' N → (if (k0 : Int) ≤ k ∧ (k : Int) < o.1 - 1 then o.2 (k + 1) else o.2 k) = o.2 (if k0 ≤ k then k + 1 else k) := by
    intro k hk
    by_cases z : k0 ≤ k
    · rw [if_pos z, if_pos (by omega)]
    · rw [if_neg z, if_neg (by omega)]
  refine ⟨by show o.1 - 1 = _; omega, fun k hk => ?_, fun y hy qy => ?_, fun j k hj hk e => ?_⟩
  · show ∃ x, x < N ∧ m' x = true ∧ (if (k0 : Int) ≤ k ∧ (k : Int) < o.1 - 1 then o.2 (k + 1) else o.2 k) = _
    obtain ⟨y, hy, qy, ey⟩ := h1 (if k0 ≤ k then k + 1 else k) (by split <;> omega)
    have ny : y ≠ x := by
      intro z
      have := h3 (if k0 ≤ k then k + 1 else k) k0 (by split <;> omega) hk0 (by rw [ey, e0, z])
      revert this
      split <;> intro this <;> omega
    exact ⟨y, hy, by rw [hm y hy ny]; exact qy, by rw [val k hk, ey]⟩
  · have ny : y ≠ x := fun z => by rw [z, q'] at qy; cases qy
    rw [hm y hy ny] at qy
    obtain ⟨k, hk, e⟩ := h2 y hy qy
    have nk : k ≠ k0 := fun z => by rw [z, e0] at e; omega
    by_cases z : k0 < k
    · refine ⟨k - 1, by omega, ?_⟩
      show (if (k0 : Int) ≤ ((k - 1 : Nat) : Int) ∧ ((k - 1 : Nat) : Int) < o.1 - 1 then o.2 (k - 1 + 1) else o.2 (k - 1)) = _
      rw [val (k - 1) (by omega), if_pos (by omega), Nat.sub_add_cancel (by omega), e]
    · refine ⟨k, by omega, ?_⟩
      show (if (k0 : Int) ≤ k ∧ (k : Int) < o.1 - 1 then o.2 (k + 1) else o.2 k) = _
      rw [val k (by omega), if_neg (by omega), e]
  · have e' : o.2 (if k0 ≤ j then j + 1 else j) = o.2 (if k0 ≤ k then k + 1 else k) := by
      rw [← val j hj, ← val k hk]
      exact e
    have := h3 _ _ (by split <;> omega) (by split <;> omega) e'
    revert this
    split <;> split <;> intro this <;> omega
theorem LO.pl_new {o : OD} {N : Nat} {m m' : Nat → Bool} (h : LO o N m) (hN : N ≤ 12) {x : Nat} (hx : x < N) (q : m x = false) (q' : m' x = true) (hm : ∀ i, i < N → i ≠ x → m' i = m i) : LO (o_pl o x) N m' := by
  have hc : cnt m' N = cnt m N + 1 := cnt_one_more hx (fun i hi z => (hm i hi z).symm) q q'
  have hle := cnt_le m' N
  unfold o_pl
  rw [h.lv_no q]
  obtain ⟨h0, h1, h2, h3⟩ := h
  rw [if_neg (by omega)]
  refine ⟨by show o.1 + 1 = _; omega, fun k hk => ?_, fun y hy qy => ?_, fun j k hj hk e => ?_⟩
  · show ∃ y, y < N ∧ m' y = true ∧ (if (k : Int) = o.1 then (x : Int) else o.2 k) = _
    by_cases z : (k : Int) = o.1
    · exact ⟨x, hx, q', by rw [if_pos z]⟩
    · obtain ⟨y, hy, qy, ey⟩ := h1 k (by omega)
      have ny : y ≠ x := fun w => by rw [w, q] at qy; cases qy
      exact ⟨y, hy, by rw [hm y hy ny]; exact qy, by rw [if_neg z, ey]⟩
  · show ∃ k : Nat, k < _ ∧ (if (k : Int) = o.1 then (x : Int) else o.2 k) = _
    by_cases z : y = x
    · exact ⟨cnt m N, by omega, by rw [if_pos (by omega), z]⟩
    · rw [hm y hy z] at qy
      obtain ⟨k, hk, e⟩ := h2 y hy qy
      exact ⟨k, by omega, by rw [if_neg (by omega), e]⟩
  · revert e
    show (if (j : Int) = o.1 then (x : Int) else o.2 j) = (if (k : Int) = o.1 then (x : Int) else o.2 k) → _
    have no : ∀ k : Nat, k < cnt m N → o.2 k ≠ x := by
      intro k hk z
      obtain ⟨y, hy, qy, ey⟩ := h1 k hk
      have : y = x := by omega
      rw [this, q] at qy
      cases qy
    by_cases z1 : (j : Int) = o.1
    · by_cases z2 : (k : Int) = o.1
      · intro _; omega
      · rw [if_pos z1, if_neg z2]
        intro e
        exact absurd e.symm (no k (by omega))
    · by_cases z2 : (k : Int) = o.1
      · rw [if_neg z1, if_pos z2]
        intro e
        exact absurd e (no j (by omega))
      · rw [if_neg z1, if_neg z2]
        exact h3 j k (by omega) (by omega)
theorem LO.pl_old {o : OD} {N : Nat} {m : Nat → Bool} (h : LO o N m) (hN : N ≤ 12) {x : Nat} (hx : x < N) (q : m x = true) : LO (o_pl o x) N m := by
  have h1 := h.lv (m' := fun i => m i && i != x) hx q (by simp) (fun i _ z => by simp [z])
  have h2 := h1.pl_new (m' := m) hN hx (by simp) q (fun i _ z => by simp [z])
  unfold o_pl at h2 ⊢
  rw [h1.lv_no (x := x) (by simp)] at h2
  exact h2
theorem LO.pl {o : OD} {N : Nat} {m m' : Nat → Bool} (h : LO o N m) (hN : N ≤ 12) {x : Nat} (hx : x < N) (q' : m' x = true) (hm : ∀ i, i < N → i ≠ x → m' i = m i) : LO (o_pl o x) N m' := by
  cases q : m x
  · exact h.pl_new hN hx q q' hm
  · refine (h.pl_old hN hx q).cg (fun i hi => ?_)
    by_cases z : i = x
    · rw [z, q', q]
    · exact hm i hi z
/-- the last of an order that x has been put behind is x -/
theorem o_pl_last {o : OD} (h : OkO o) (x : Int) (h2 : (o_lv o x).1 < 12) : 1 ≤ (o_pl o x).1 ∧ (o_pl o x).2 ((o_pl o x).1.toNat - 1) = x := by
  have h1 := (o_lv_ok h x).1
  unfold OkO at h1
  unfold o_pl
  rw [if_neg (by omega)]
  refine ⟨by show 1 ≤ (o_lv o x).1 + 1; omega, ?_⟩
  show (if (((((o_lv o x).1 + 1).toNat - 1 : Nat)) : Int) = (o_lv o x).1 then x else _) = _
  rw [if_pos (by omega)]
theorem LO.pf {o : OD} {N : Nat} {m m' : Nat → Bool} (h : LO o N m) (hN : N ≤ 12) {x : Nat} (hx : x < N) (q' : m' x = true) (hm : ∀ i, i < N → i ≠ x → m' i = m i) : LO (o_pf o x) N m' := by
  have hl := h.pl hN hx q' hm
  have hlv : (o_lv o x).1 < 12 := by
    cases q : m x
    · have e := h.lv_no q
      have hc : cnt m' N = cnt m N + 1 := cnt_one_more hx (fun i hi z => (hm i hi z).symm) q q'
      have hle := cnt_le m' N
      rw [e]
      have := h.1
      omega
    · have h1 := h.lv (m' := fun i => m i && i != x) hx q (by simp) (fun i _ z => by simp [z])
      have hc : cnt m N = cnt (fun i => m i && i != x) N + 1 := cnt_one_more hx (fun i hi z => by simp [z]) (by simp) q
      have hle := cnt_le m N
      have := h1.1
      omega
  obtain ⟨l1, l2⟩ := o_pl_last (h.ok hN) x hlv
  obtain ⟨h0, h1, h2, h3⟩ := hl
  have n1 : 1 ≤ cnt m' N := by omega
  rw [show (o_pl o ↑x).1.toNat = cnt m' N by omega] at l2
  have val : ∀ k : Nat, k < cnt m' N → (o_pf o x).2 k = (o_pl o x).2 (if k = 0 then cnt m' N - 1 else k - 1) := by
    intro k hk
    show (if k = 0 then (x : Int) else if (k : Int) < (o_pl o x).1 then (o_pl o x).2 (k - 1) else (o_pl o x).2 k) = _
    by_cases z : k = 0
    · rw [if_pos z, if_pos z, l2]
    · rw [if_neg z, if_neg z, if_pos (by omega)]
  refine ⟨h0, fun k hk => ?_, fun y hy qy => ?_, fun j k hj hk e => ?_⟩
  · rw [val k hk]
    exact h1 _ (by split <;> omega)
  · obtain ⟨k, hk, e⟩ := h2 y hy qy
    by_cases z : k = cnt m' N - 1
    · exact ⟨0, by omega, by rw [val 0 (by omega), if_pos rfl, ← z, e]⟩
    · exact ⟨k + 1, by omega, by rw [val (k + 1) (by omega), if_neg (by omega), Nat.add_sub_cancel, e]⟩
  · rw [val j hj, val k hk] at e
    have := h3 _ _ (by split <;> omega) (by split <;> omega) e
    revert this
    split <;> split <;> intro this <;> omega
