/-! THE RELATION: read (4): a new node, in the class -/
section RB9
variable {V : VW} {d : Nat → Nat} {wn : Nat → Int} {X : Nat → Bool}
theorem att_in (t : Tree V d wn X) {f s : Nat} (fm : v_mn V = f) (hf : f < 23) (hk : V 8 f = 3) (hs : s < 23) (hs1 : V 8 s ≤ 1) (k w : Int) :
    (∀ i, i < 23 → att false V k s w 8 i = if i = f then k else V 8 i) ∧
    (∀ i, i < 23 → att false V k s w 9 i = if i = f then (s : Int) else V 9 i) ∧
    (∀ i, i < 23 → att false V k s w 10 i = if i = f then (v_cc V s : Int) else V 10 i) ∧
    (∀ i, i < 23 → att false V k s w 11 i = if i = f then w else V 11 i) ∧
    ∀ j, j ≠ 8 → j ≠ 9 → j ≠ 10 → j ≠ 11 → att false V k s w j = V j := by
  have e9 : up V 8 (f : Int) k 9 = V 9 := up_ne (by decide)
  have cc : v_cc (up V 8 (f : Int) k) s = v_cc V s := by
    unfold v_cc
    rw [e9]
  have ea : att false V k s w = v_attach (up V 8 (f : Int) k) f s (v_cc V s) w := by
    unfold att
    rw [if_neg Bool.false_ne_true, fm, cc]
  obtain ⟨a9, a10, a11, aj⟩ := at_rows (V := up V 8 (f : Int) k) (n := f) (s := s) (k := v_cc V s) (w := w) hf
  rw [ea]
  refine ⟨fun i hi => ?_, fun i hi => ?_, fun i hi => ?_, fun i hi => ?_, fun j h8 h9 h10 h11 => ?_⟩
  · rw [aj 8 (by decide) (by decide) (by decide), up8 hf]
  · rw [a9 i, e9]
  · rw [a10 i, e9, up_ne (by decide)]
    by_cases z : i = f
    · rw [if_pos z, if_pos z]
    · rw [if_neg z, if_neg z, if_neg (fun y => by
        have m := (t.sp hs hs1).1.1 i hi (by simp [y.2.1])
        have : v_cc V s = cnt (fun n => decide (V 9 n = (s : Int))) 23 := by
          unfold v_cc
          rw [if_neg (by omega)]
        omega)]
  · rw [a11 i, up_ne (by decide)]
  · rw [aj j h9 h10 h11, up_ne h8]
theorem att_rt {f : Nat} (fm : v_mn V = f) (hf : f < 23) (k sp w : Int) :
    (∀ i, i < 23 → att true V k sp w 8 i = if i = f then k else V 8 i) ∧
    (∀ i, i < 5 → att true V k sp w 5 i = if i = 0 then (f : Int) else V 5 i) ∧
    ∀ j, j ≠ 8 → j ≠ 5 → att true V k sp w j = V j := by
  have ea : att true V k sp w = up (up V 8 (f : Int) k) 5 0 f := by
    unfold att
    rw [if_pos rfl, fm]
  rw [ea]
  refine ⟨fun i hi => ?_, fun i hi => ?_, fun j h8 h5 => ?_⟩
  · rw [up_ne (by decide), up8 hf]
  · rw [show up (up V 8 (f : Int) k) 5 0 f 5 i = if i = 0 then (f : Int) else up V 8 (f : Int) k 5 i from up5 (w := 0) (by decide) i, up_ne (by decide)]
  · rw [up_ne h5, up_ne h8]
theorem att_tree (t : Tree V d wn X) {f s : Nat} (fm : v_mn V = f) (hf : f < 23) (hk : V 8 f = 3) (hs : s < 23) (hs1 : V 8 s ≤ 1) {k w : Int} (k2 : 0 ≤ k ∧ k ≤ 2) (w1 : 1 ≤ w ∧ w ≤ 1000000) {X' : Nat → Bool} (hx : k ≤ 1 → X' f = true) (hX : ∀ i, i ≠ f → X' i = X i) : Tree (att false V k s w) (fun n => if n = f then d s + 1 else d n) (fun n => if n = f then wn s else wn n) X' := by
  obtain ⟨r8, r9, r10, r11, rj⟩ := att_in t fm hf hk hs hs1 k w
  have ec : v_cc V s = cnt (fun n => decide (V 9 n = (s : Int))) 23 := by
    unfold v_cc
    rw [if_neg (by omega)]
  refine t.enter (k := v_cc V s) hf hk k2 hs hs1 ⟨by omega, by rw [ec]; exact Int.le_refl _⟩ r8 r9 (fun i hi q => ?_) (fun i hi q => ?_) (fun i _ => by rw [rj 5 (by decide) (by decide) (by decide) (by decide)]) hx hX
  · rw [r10 i hi]
    by_cases z : i = f
    · rw [if_pos z, if_pos z]
    · rw [if_neg z, if_neg z, if_neg (fun y => by
        have m := (t.sp hs hs1).1.1 i hi (by simp [y.1])
        omega)]
  · rw [r9 i hi] at q
    rw [r11 i hi]
    by_cases z : i = f
    · rw [if_pos z]
      exact w1
    · rw [if_neg z] at q ⊢
      exact t.we hi q
theorem att_rtree (t : Tree V d wn X) {f : Nat} (fm : v_mn V = f) (hf : f < 23) (hk : V 8 f = 3) (h0 : V 5 0 = -1) {k sp w : Int} (k2 : 0 ≤ k ∧ k ≤ 2) {X' : Nat → Bool} (hx : k ≤ 1 → X' f = true) (hX : ∀ i, i ≠ f → X' i = X i) : Tree (att true V k sp w) d (fun n => if n = f then ((0 : Nat) : Int) else wn n) X' := by
  obtain ⟨r8, r5, rj⟩ := att_rt fm hf k sp w
  exact t.root hf hk k2 (w := 0) (by omega) h0 r8 (fun i _ => by rw [rj 9 (by decide) (by decide)]) (fun i _ _ => by rw [rj 10 (by decide) (by decide)]) (fun i _ _ => by rw [rj 11 (by decide) (by decide)]) r5 hx hX
def frees (V : VW) : Nat := cnt (fun n => decide (V 8 n = 3)) 23
theorem frees_one {V' : VW} {f : Nat} (hf : f < 23) (hk : V 8 f = 3) {k : Int} (k2 : k ≤ 2) (r8 : ∀ i, i < 23 → V' 8 i = if i = f then k else V 8 i) : frees V = frees V' + 1 := by
  unfold frees
  refine cnt_one_more hf (fun i hi ne => ?_) ?_ (decide_eq_true hk)
  · rw [r8 i hi, if_neg ne]
  · rw [r8 f hf, if_pos rfl]
    exact decide_eq_false (by omega)
/-- the tabs don't see a new split -/
theorem att_tabs {V' : VW} {Z : Nat → Bool} (tb : Tabs V Z) {f : Nat} (hf : f < 23) (hk : V 8 f = 3) {k : Int} (k1 : k ≤ 1) (r8 : ∀ i, i < 23 → V' 8 i = if i = f then k else V 8 i) (e12 : V' 12 = V 12) (e13 : V' 13 = V 13) (e14 : V' 14 = V 14) (e15 : V' 15 = V 15) : Tabs V' Z :=
  tb.cg (fun g hg => by
    rw [r8 g hg]
    by_cases z : g = f
    · rw [if_pos z, z, hk]
      omega
    · rw [if_neg z]) (fun g _ _ => by rw [e12]) (fun p _ => by rw [e13]) (fun p _ => by rw [e14]) (fun p _ => by rw [e15])
/-- a new group has no tab yet -/
theorem att_tabg {V' : VW} {Z Z' : Nat → Bool} (tb : Tabs V Z) {f : Nat} (hf : f < 23) (hk : V 8 f = 3) (r8 : ∀ i, i < 23 → V' 8 i = if i = f then 2 else V 8 i) (e12 : V' 12 = V 12) (e13 : V' 13 = V 13) (e14 : V' 14 = V 14) (e15 : V' 15 = V 15) (hz : Z' f = true) (hZ : ∀ i, i ≠ f → Z' i = Z i) : Tabs V' Z' ∧ v_tc V' f = 0 := by
  have no : ∀ p, p < 12 → V 13 p ≠ f := fun p hp z => by
    have := (tb.g2 hp z).2
    omega
  have zero : cnt (fun p => decide (V' 13 p = (f : Int))) 12 = 0 := cnt_zero.mpr (fun p hp => by
    rw [e13]
    exact decide_eq_false (no p hp))
  refine ⟨⟨fun p hp => ?_, fun p hp q => ?_, fun p hp => ?_, fun g hg q => ?_⟩, zero⟩
  · rw [e13]
    rcases tb.gr hp with z | ⟨g, a, b, c⟩
    · exact Or.inl z
    · exact Or.inr ⟨g, a, b, by rw [r8 g a, if_neg (fun y => by rw [y] at c; omega)]; exact c⟩
  · rw [e13] at q
    rw [e14, e15]
    exact tb.no hp q
  · rw [e15]
    exact tb.hi hp
  · by_cases z : g = f
    · subst z
      exact ⟨(Nmb.emp (fun p hp => by rw [e13]; exact decide_eq_false (no p hp))).1, fun y => by rw [hz] at y; cases y⟩
    · rw [r8 g hg, if_neg z] at q
      unfold Act
      rw [e13, e14, e12, e15, hZ g z]
      exact ⟨tb.nu hg q, fun y => tb.fu hg q y⟩
end RB9
