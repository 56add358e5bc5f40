/-! THE RELATION: read (14): a tree takes its place, both sides -/
section RBJ
variable {U V : VW} {O : Nat → Bool}
theorem BMr.jn (h : BMr U V O) {g : Nat} {a b w : Int} (e9 : V 9 g = a) (e10 : V 10 g = b) (e11 : V 11 g = w) : BMr (mu (mu (mu U 1 g a) 4 g b) 3 g w) V (fun n => O n && n != g) := by
  obtain ⟨h1, h2, h3, h4, h5, h6, h7, h8, h9, h10⟩ := h
  have r : ∀ j, j ≠ 1 → j ≠ 3 → j ≠ 4 → mu (mu (mu U 1 g a) 4 g b) 3 g w j = U j := fun j q1 q3 q4 => by rw [mu_ne q3, mu_ne q4, mu_ne q1]
  have r1 : ∀ i, mu (mu (mu U 1 g a) 4 g b) 3 g w 1 i = if i = g then a else U 1 i := fun i => by rw [mu_ne (by decide), mu_ne (by decide), mu_at]
  have r3 : ∀ i, mu (mu (mu U 1 g a) 4 g b) 3 g w 3 i = if i = g then w else U 3 i := fun i => by rw [mu_at, mu_ne (by decide), mu_ne (by decide)]
  have r4 : ∀ i, mu (mu (mu U 1 g a) 4 g b) 3 g w 4 i = if i = g then b else U 4 i := fun i => by rw [mu_ne (by decide), mu_at, mu_ne (by decide)]
  unfold BMr PR
  rw [r 0 (by decide) (by decide) (by decide), r 2 (by decide) (by decide) (by decide), r 5 (by decide) (by decide) (by decide), r 9 (by decide) (by decide) (by decide), r 10 (by decide) (by decide) (by decide), r 11 (by decide) (by decide) (by decide), r 12 (by decide) (by decide) (by decide), r 13 (by decide) (by decide) (by decide), r 14 (by decide) (by decide) (by decide), r 15 (by decide) (by decide) (by decide), r 16 (by decide) (by decide) (by decide), r 17 (by decide) (by decide) (by decide), r 18 (by decide) (by decide) (by decide), r 19 (by decide) (by decide) (by decide)]
  refine ⟨h1, h2, fun n hn q o => ?_, fun n hn q o => ?_, h5, h6, h7, h8, h9, h10⟩
  · rw [r1 n]
    by_cases z : n = g
    · rw [if_pos z, z, e9]
    · rw [if_neg z]
      exact h3 n hn q (by simpa [z] using o)
  · rw [r3 n, r4 n]
    by_cases z : n = g
    · rw [if_pos z, if_pos z, z, e10, e11]
      exact ⟨rfl, rfl⟩
    · rw [if_neg z, if_neg z]
      exact h4 n hn q (by simpa [z] using o)
/-- a root has no place to take -/
theorem BMr.rt (h : BMr U V O) {g : Nat} (e9 : V 9 g = -1) (e1 : U 1 g = -1) : BMr U V (fun n => O n && n != g) := by
  obtain ⟨h1, h2, h3, h4, h5, h6, h7, h8, h9, h10⟩ := h
  refine ⟨h1, h2, fun n hn q o => ?_, fun n hn q o => ?_, h5, h6, h7, h8, h9, h10⟩
  · by_cases z : n = g
    · rw [z, e1, e9]
    · exact h3 n hn q (by simpa [z] using o)
  · by_cases z : n = g
    · rw [z, e9] at q
      exact absurd rfl q
    · exact h4 n hn q (by simpa [z] using o)
theorem BMr.oc {O' : Nat → Bool} (h : BMr U V O) (e : ∀ n, n < 23 → O' n = O n) : BMr U V O' := by
  obtain ⟨h1, h2, h3, h4, h5, h6, h7, h8, h9, h10⟩ := h
  exact ⟨h1, h2, fun n hn q o => h3 n hn q (by rw [← e n hn]; exact o), fun n hn q o => h4 n hn q (by rw [← e n hn]; exact o), h5, h6, h7, h8, h9, h10⟩
end RBJ
