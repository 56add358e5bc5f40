/-! THE RELATION: read (12): the rows while a tree is made -/
section RBH
/-- as VM, but the parents, weights and places of open nodes and the main window's root are not told -/
def BMr (U V : VW) (O : Nat → Bool) : Prop :=
  (∀ n, n < 23 → (V 8 n = 3 → U 0 n = 0) ∧ (V 8 n = 2 → U 0 n = 2) ∧ (V 8 n ≤ 1 → U 0 n = 1 ∧ U 2 n = V 8 n)) ∧
  U 0 23 = 0 ∧
  (∀ n, n < 23 → V 8 n ≠ 3 → O n = false → U 1 n = V 9 n) ∧
  (∀ n, n < 23 → V 9 n ≠ -1 → O n = false → U 3 n = V 11 n ∧ U 4 n = V 10 n) ∧
  (∀ n, n < 23 → V 8 n = 2 → U 5 n = V 12 n) ∧
  PR U V ∧
  (∀ w, w < 5 → U 12 w = (if w = 0 ∨ V 5 w ≠ -1 then 1 else 0) ∧ (w ≠ 0 → U 17 w = V 5 w) ∧ (w = 0 ∨ V 5 w ≠ -1 → U 13 w = V 1 w ∧ U 14 w = V 2 w ∧ U 15 w = V 3 w ∧ U 16 w = V 4 w)) ∧
  U 18 0 = V 6 1 ∧ (∀ k : Nat, (k : Int) < V 6 1 → U 19 k = V 7 k) ∧ ∀ n, n < 23 → V 8 n ≤ 1 → U 5 n = -1
theorem VM.bm {U V : VW} (h : VM U V (fun _ => false)) (O : Nat → Bool) : BMr U V O :=
  ⟨h.1, h.l, fun n hn q _ => h.pa hn q, fun n hn q _ => ⟨h.we hn q, h.pl hn q⟩, fun n hn q => h.ac hn q rfl, fun p hp => ⟨h.gr hp, h.sp hp, h.hi hp⟩, fun w hw => ⟨h.ex hw, fun _ => h.ro hw, h.geo hw⟩, h.fc, fun k q => h.fi q, fun n hn q => h.a5 hn q⟩
theorem BMr.vm {U V : VW} (h : BMr U V (fun _ => false)) (e : U 17 0 = V 5 0) : VM U V (fun _ => false) := by
  obtain ⟨h1, h2, h3, h4, h5, h6, h7, h8, h9, h10⟩ := h
  refine ⟨h1, h2, fun n hn q => h3 n hn q rfl, fun n hn q => h4 n hn q rfl, fun n hn q _ => h5 n hn q, h6, fun w hw => ⟨(h7 w hw).1, ?_, (h7 w hw).2.2⟩, h8, h9, h10⟩
  by_cases z : w = 0
  · rw [z]
    exact e
  · exact (h7 w hw).2.1 z
/-- which nodes are free tells the same in both -/
theorem BMr.k0 {U V : VW} {O : Nat → Bool} (h : BMr U V O) {n : Nat} (hn : n < 23) (hk : 0 ≤ V 8 n ∧ V 8 n ≤ 3) : U 0 n = 0 ↔ V 8 n = 3 := by
  obtain ⟨a, b, c⟩ := h.1 n hn
  refine ⟨fun q => ?_, a⟩
  by_cases x : V 8 n = 3
  · exact x
  · by_cases y : V 8 n = 2
    · have := b y
      omega
    · have := (c (by omega)).1
      omega
end RBH
