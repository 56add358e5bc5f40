/-! THE RELATION: read (15): a group is made, both sides -/
section RBK
variable {V V1 B U U1 U2 : VW}
theorem BMr.grp {O : Nat → Bool} (h : BMr U V O) {f : Nat} (hf : f < 23) (a : AT V V1 f 2) (u0 : ∀ i, U1 0 i = if i = f then 2 else U 0 i) (un : ∀ i, i ≠ f → U1 1 i = U 1 i ∧ U1 2 i = U 2 i ∧ U1 3 i = U 3 i ∧ U1 4 i = U 4 i ∧ U1 5 i = U 5 i) (uj : ∀ j, 12 ≤ j → U1 j = U j) {act : Int} (p2 : PR U2 B) (u5 : ∀ i, U2 5 i = if i = f then act else U1 5 i) (uk : ∀ k, k ≠ 5 → k ≠ 9 → k ≠ 10 → k ≠ 11 → U2 k = U1 k) (b : ∀ k, k ≠ 12 → k ≠ 13 → k ≠ 14 → k ≠ 15 → B k = V1 k) (b12 : ∀ i, i < 23 → i ≠ f → B 12 i = V1 12 i) : BMr U2 (up B 12 f act) (fun n => O n || n == f) := by
  obtain ⟨h1, h2, h3, h4, h5, h6, h7, h8, h9, h10⟩ := h
  obtain ⟨a8, a9, a5, aj⟩ := a
  have e : ∀ j, j ≠ 12 → up B 12 f act j = B j := fun j hj => up_ne hj
  have e8 : up B 12 f act 8 = V1 8 := (e 8 (by decide)).trans (b 8 (by decide) (by decide) (by decide) (by decide))
  have e9 : up B 12 f act 9 = V1 9 := (e 9 (by decide)).trans (b 9 (by decide) (by decide) (by decide) (by decide))
  have e10 : up B 12 f act 10 = V1 10 := (e 10 (by decide)).trans (b 10 (by decide) (by decide) (by decide) (by decide))
  have e11 : up B 12 f act 11 = V1 11 := (e 11 (by decide)).trans (b 11 (by decide) (by decide) (by decide) (by decide))
  have e5 : up B 12 f act 5 = V1 5 := (e 5 (by decide)).trans (b 5 (by decide) (by decide) (by decide) (by decide))
  have ej : ∀ j, j ≠ 5 → j < 8 → up B 12 f act j = V j := fun j q1 q2 => (e j (by omega)).trans ((b j (by omega) (by omega) (by omega) (by omega)).trans (aj j q1 (by omega) (by omega) (by omega) (by omega)))
  have nf : ∀ {n : Nat}, (O n || n == f) = false → n ≠ f ∧ O n = false := fun {n} o => by
    have z : n ≠ f := fun z => by simp [z] at o
    exact ⟨z, by simpa [z] using o⟩
  unfold BMr PR
  rw [e8, e9, e10, e11, e5, e 13 (by decide), e 14 (by decide), e 15 (by decide), ej 1 (by decide) (by decide), ej 2 (by decide) (by decide), ej 3 (by decide) (by decide), ej 4 (by decide) (by decide), ej 6 (by decide) (by decide), ej 7 (by decide) (by decide)]
  rw [uk 0 (by decide) (by decide) (by decide) (by decide), uk 1 (by decide) (by decide) (by decide) (by decide), uk 2 (by decide) (by decide) (by decide) (by decide), uk 3 (by decide) (by decide) (by decide) (by decide), uk 4 (by decide) (by decide) (by decide) (by decide), uk 12 (by decide) (by decide) (by decide) (by decide), uk 13 (by decide) (by decide) (by decide) (by decide), uk 14 (by decide) (by decide) (by decide) (by decide), uk 15 (by decide) (by decide) (by decide) (by decide), uk 16 (by decide) (by decide) (by decide) (by decide), uk 17 (by decide) (by decide) (by decide) (by decide), uk 18 (by decide) (by decide) (by decide) (by decide), uk 19 (by decide) (by decide) (by decide) (by decide), uj 12 (by decide), uj 13 (by decide), uj 14 (by decide), uj 15 (by decide), uj 16 (by decide), uj 17 (by decide), uj 18 (by decide), uj 19 (by decide)]
  refine ⟨fun n hn => ?_, ?_, fun n hn q o => ?_, fun n hn q o => ?_, fun n hn q => ?_, p2, fun w hw => ⟨?_, fun w0 => ?_, fun q => ?_⟩, h8, h9, fun n hn q => ?_⟩
  · rw [a8 n hn, u0 n]
    by_cases z : n = f
    · rw [if_pos z, if_pos z]
      exact ⟨fun y => by omega, fun _ => rfl, fun y => by omega⟩
    · rw [if_neg z, if_neg z, (un n z).2.1]
      exact h1 n hn
  · rw [u0 23, if_neg (by omega)]
    exact h2
  · obtain ⟨z, o'⟩ := nf o
    rw [a8 n hn, if_neg z] at q
    rw [(un n z).1, (a9 n hn z).1]
    exact h3 n hn q o'
  · obtain ⟨z, o'⟩ := nf o
    rw [(a9 n hn z).1] at q
    rw [(un n z).2.2.1, (un n z).2.2.2.1, (a9 n hn z).2.1, (a9 n hn z).2.2]
    exact h4 n hn q o'
  · rw [a8 n hn] at q
    rw [u5 n, up12 hf]
    by_cases z : n = f
    · rw [if_pos z, if_pos z]
    · rw [if_neg z] at q
      rw [if_neg z, if_neg z, (un n z).2.2.2.2, b12 n hn z, aj 12 (by decide) (by decide) (by decide) (by decide) (by decide)]
      exact h5 n hn q
  · rw [(h7 w hw).1]
    by_cases w0 : w = 0
    · rw [if_pos (Or.inl w0), if_pos (Or.inl w0)]
    · rw [a5 w hw w0]
  · rw [a5 w hw w0]
    exact (h7 w hw).2.1 w0
  · refine (h7 w hw).2.2 ?_
    by_cases w0 : w = 0
    · exact Or.inl w0
    · rw [a5 w hw w0] at q
      exact q
  · rw [a8 n hn] at q
    have z : n ≠ f := fun z => by rw [if_pos z] at q; omega
    rw [if_neg z] at q
    rw [u5 n, if_neg z, (un n z).2.2.2.2]
    exact h10 n hn q
end RBK
