/-! THE RELATION: read (13): a new node, both sides -/
section RBI
variable {V V1 U U1 : VW} {d : Nat → Nat} {wn : Nat → Int} {X : Nat → Bool}
def AT (V V1 : VW) (f : Nat) (k : Int) : Prop := (∀ i, i < 23 → V1 8 i = if i = f then k else V 8 i) ∧ (∀ i, i < 23 → i ≠ f → V1 9 i = V 9 i ∧ V1 10 i = V 10 i ∧ V1 11 i = V 11 i) ∧ (∀ w, w < 5 → w ≠ 0 → V1 5 w = V 5 w) ∧ ∀ j, j ≠ 5 → j ≠ 8 → j ≠ 9 → j ≠ 10 → j ≠ 11 → V1 j = V j
theorem at_in (t : Tree V d wn X) {f s : Nat} (fm : v_mn V = f) (hf : f < 23) (hk : V 8 f = 3) (hs : s < 23) (hs1 : V 8 s ≤ 1) (k w : Int) : AT V (att false V k s w) f k := by
  obtain ⟨r8, r9, r10, r11, rj⟩ := att_in t fm hf hk hs hs1 k w
  exact ⟨r8, fun i hi ne => ⟨by rw [r9 i hi, if_neg ne], by rw [r10 i hi, if_neg ne], by rw [r11 i hi, if_neg ne]⟩, fun w _ _ => by rw [rj 5 (by decide) (by decide) (by decide) (by decide)], fun j _ h8 h9 h10 h11 => rj j h8 h9 h10 h11⟩
theorem at_rt {f : Nat} (fm : v_mn V = f) (hf : f < 23) (k sp w : Int) : AT V (att true V k sp w) f k := by
  obtain ⟨r8, r5, rj⟩ := att_rt fm hf k sp w
  exact ⟨r8, fun i _ _ => ⟨by rw [rj 9 (by decide) (by decide)], by rw [rj 10 (by decide) (by decide)], by rw [rj 11 (by decide) (by decide)]⟩, fun w hw w0 => by rw [r5 w hw, if_neg w0], fun j h5 h8 _ _ _ => rj j h8 h5⟩
/-- a split is opened -/
theorem BMr.opn {O : Nat → Bool} (h : BMr U V O) {f : Nat} (hf : f < 23) {k : Int} (k1 : 0 ≤ k ∧ k ≤ 1) (a : AT V V1 f k) (r9 : V 9 f = -1) (u0 : ∀ i, U1 0 i = if i = f then 1 else U 0 i) (u2 : ∀ i, U1 2 i = if i = f then k else U 2 i) (u5 : ∀ i, U1 5 i = if i = f then -1 else U 5 i) (un : ∀ i, i ≠ f → U1 1 i = U 1 i ∧ U1 3 i = U 3 i ∧ U1 4 i = U 4 i) (uj : ∀ j, 6 ≤ j → U1 j = U j) : BMr U1 V1 (fun n => O n || n == f) := by
  obtain ⟨h1, h2, h3, h4, h5, h6, h7, h8, h9, h10⟩ := h
  obtain ⟨a8, a9, a5, aj⟩ := a
  have j : ∀ j, j ≠ 5 → j ≠ 8 → j ≠ 9 → j ≠ 10 → j ≠ 11 → V1 j = V j := aj
  refine ⟨fun n hn => ?_, ?_, fun n hn q o => ?_, fun n hn q o => ?_, fun n hn q => ?_, fun p hp => ?_, fun w hw => ⟨?_, fun w0 => ?_, fun q => ?_⟩, ?_, fun k hk => ?_, fun n hn q => ?_⟩
  · rw [a8 n hn, u0 n, u2 n]
    by_cases z : n = f
    · rw [if_pos z, if_pos z, if_pos z]
      exact ⟨fun y => by omega, fun y => by omega, fun _ => ⟨rfl, rfl⟩⟩
    · rw [if_neg z, if_neg z, if_neg z]
      exact h1 n hn
  · rw [u0 23, if_neg (by omega)]
    exact h2
  · have z : n ≠ f := fun z => by simp [z] at o
    have o' : O n = false := by simpa [z] using o
    rw [a8 n hn, if_neg z] at q
    rw [(un n z).1, (a9 n hn z).1]
    exact h3 n hn q o'
  · have z : n ≠ f := fun z => by simp [z] at o
    have o' : O n = false := by simpa [z] using o
    rw [(a9 n hn z).1] at q
    rw [(un n z).2.1, (un n z).2.2, (a9 n hn z).2.1, (a9 n hn z).2.2]
    exact h4 n hn q o'
  · have z : n ≠ f := fun z => by rw [a8 n hn, if_pos z] at q; omega
    rw [a8 n hn, if_neg z] at q
    rw [u5 n, if_neg z, j 12 (by decide) (by decide) (by decide) (by decide) (by decide)]
    exact h5 n hn q
  · rw [uj 9 (by decide), uj 10 (by decide), uj 11 (by decide), j 13 (by decide) (by decide) (by decide) (by decide) (by decide), j 14 (by decide) (by decide) (by decide) (by decide) (by decide), j 15 (by decide) (by decide) (by decide) (by decide) (by decide)]
    exact h6 p hp
  · rw [uj 12 (by decide), (h7 w hw).1]
    by_cases w0 : w = 0
    · rw [if_pos (Or.inl w0), if_pos (Or.inl w0)]
    · rw [a5 w hw w0]
  · rw [uj 17 (by decide), a5 w hw w0]
    exact (h7 w hw).2.1 w0
  · rw [uj 13 (by decide), uj 14 (by decide), uj 15 (by decide), uj 16 (by decide), j 1 (by decide) (by decide) (by decide) (by decide) (by decide), j 2 (by decide) (by decide) (by decide) (by decide) (by decide), j 3 (by decide) (by decide) (by decide) (by decide) (by decide), j 4 (by decide) (by decide) (by decide) (by decide) (by decide)]
    refine (h7 w hw).2.2 ?_
    by_cases w0 : w = 0
    · exact Or.inl w0
    · rw [a5 w hw w0] at q
      exact q
  · rw [uj 18 (by decide), j 6 (by decide) (by decide) (by decide) (by decide) (by decide)]
    exact h8
  · rw [j 6 (by decide) (by decide) (by decide) (by decide) (by decide)] at hk
    rw [uj 19 (by decide), j 7 (by decide) (by decide) (by decide) (by decide) (by decide)]
    exact h9 k hk
  · rw [u5 n]
    by_cases z : n = f
    · rw [if_pos z]
    · rw [a8 n hn, if_neg z] at q
      rw [if_neg z]
      exact h10 n hn q
end RBI
