/-! THE RELATION: read (3): the reference empties the main window (2) -/
section RB8
variable {σ s : Sg} {V : VW} {d : Nat → Nat} {wn : Nat → Int} {Y : Nat → Bool}
/-- what the reference's read does from there -/
def rdG (s : Sg) : Option (Int32 × Sg) := (fX9_goes s 462 1).bind fun r15 => (fX9_puts r15.2 462 0 5 (r15.2.1 462 21)).bind fun σ16 => (fX9_focuses σ16 462).bind fun σ17 => (fX9_placedIn σ17 462 0).bind fun r18 => some (r18, σ17)
theorem m_rd151 (c : Nat → Bool) (h11 : ∀ p, p < 12 → (mv (σ.1 463) 11 p = 2 ↔ c p = true)) : ∀ (k i fuel : Nat) (s : Sg), i + k = 12 → k < fuel → Out σ s 463 463 → (∀ j, j ≠ 9 → j ≠ 10 → j ≠ 11 → mv (s.1 463) j = mv (σ.1 463) j) → (∀ p, p < 12 → mv (s.1 463) 9 p = (if p < i ∧ c p = true then -1 else mv (σ.1 463) 9 p) ∧ (c p = false → mv (s.1 463) 10 p = mv (σ.1 463) 10 p) ∧ mv (s.1 463) 11 p = if p < i ∧ c p = true then 0 else mv (σ.1 463) 11 p) → ∃ s', fX9_read_151 462 fuel s (nI i) = (fX9_puts s' 462 0 5 (-1)).bind rdG ∧ Out σ s' 463 463 ∧ (∀ j, j ≠ 9 → j ≠ 10 → j ≠ 11 → mv (s'.1 463) j = mv (σ.1 463) j) ∧ ∀ p, p < 12 → mv (s'.1 463) 9 p = (if c p = true then -1 else mv (σ.1 463) 9 p) ∧ (c p = false → mv (s'.1 463) 10 p = mv (σ.1 463) 10 p) ∧ mv (s'.1 463) 11 p = if c p = true then 0 else mv (σ.1 463) 11 p := by
  intro k
  induction k with
  | zero =>
    intro i fuel s e hf o hj h
    match fuel, hf with
    | f + 1, _ =>
      have : i = 12 := by omega
      subst this
      refine ⟨s, by rw [fX9_read_151, if_pos (n_le 12 (m := 12) rfl (by decide))]; rfl, o, hj, fun p hp => ?_⟩
      obtain ⟨a, b, e⟩ := h p hp
      by_cases z : c p = true
      · rw [if_pos ⟨hp, z⟩] at a e
        rw [if_pos z, if_pos z]
        exact ⟨a, b, e⟩
      · rw [if_neg (fun y => z y.2)] at a e
        rw [if_neg z, if_neg z]
        exact ⟨a, b, e⟩
  | succ k ih =>
    intro i fuel s e hf o hj h
    match fuel, hf with
    | f + 1, hf =>
      have ti : (nI i).toInt = i := j_nI (by omega)
      have hi : i < 12 := by omega
      have e11 : mv (s.1 463) 11 i = mv (σ.1 463) 11 i := by rw [(h i hi).2.2, if_neg (by omega)]
      have i2 : (2 : Int32).toInt = 2 := rfl
      rw [fX9_read_151, if_neg (n_ge 12 (m := 12) rfl hi (by decide)), m_o5 ti hi, j_b, e11]
      unfold fX9_read_188
      rw [j_s]
      by_cases z : c i = true
      · obtain ⟨s1, a1, a2, a3⟩ := m_p3 (σ := s) ti hi (-1)
        obtain ⟨s2, b1, b2, b3⟩ := m_p4 (σ := s1) ti hi 0
        obtain ⟨s3, d1, d2, d3⟩ := m_p5 (σ := s2) ti hi 0
        rw [b3, a3] at d3
        rw [if_pos (by rw [j_eq, t_mv, i2]; exact (h11 i hi).mpr z), a1, j_b, b1, j_b, d1, j_b]
        refine ih (i + 1) f s3 (by omega) (by omega) (((o.tr a2).tr b2).tr d2) (fun j h9 h10 h11' => by rw [d3, mu_ne h11', mu_ne h10, mu_ne h9]; exact hj j h9 h10 h11') (fun p hp => ?_)
        obtain ⟨x1, x2, x3⟩ := h p hp
        have r9 : mv (s3.1 463) 9 p = if p = i then -1 else mv (s.1 463) 9 p := by
          rw [d3, mu_ne (by decide), mu_ne (by decide), mu_at]
          rfl
        have r10 : mv (s3.1 463) 10 p = if p = i then 0 else mv (s.1 463) 10 p := by
          rw [d3, mu_ne (by decide), mu_at, mu_ne (by decide)]
          rfl
        have r11 : mv (s3.1 463) 11 p = if p = i then 0 else mv (s.1 463) 11 p := by
          rw [d3, mu_at, mu_ne (by decide), mu_ne (by decide)]
          rfl
        by_cases y : p = i
        · rw [r9, r10, r11, if_pos y, if_pos y, if_pos y, if_pos ⟨by omega, by rw [y]; exact z⟩, if_pos ⟨by omega, by rw [y]; exact z⟩]
          exact ⟨rfl, fun w => by (rw [y, z] at w; cases w), rfl⟩
        · rw [r9, r10, r11, if_neg y, if_neg y, if_neg y, x1, x3]
          by_cases w : p < i ∧ c p = true
          · rw [if_pos w, if_pos w, if_pos ⟨by omega, w.2⟩, if_pos ⟨by omega, w.2⟩]
            exact ⟨rfl, x2, rfl⟩
          · rw [if_neg w, if_neg w, if_neg (fun u => w ⟨by omega, u.2⟩), if_neg (fun u => w ⟨by omega, u.2⟩)]
            exact ⟨rfl, x2, rfl⟩
      · rw [if_neg (by rw [j_eq, t_mv, i2]; exact fun w => z ((h11 i hi).mp w))]
        refine ih (i + 1) f s (by omega) (by omega) o hj (fun p hp => ?_)
        obtain ⟨x1, x2, x3⟩ := h p hp
        rw [x1, x3]
        by_cases w : p < i ∧ c p = true
        · rw [if_pos w, if_pos w, if_pos ⟨by omega, w.2⟩, if_pos ⟨by omega, w.2⟩]
          exact ⟨rfl, x2, rfl⟩
        · have w' : ¬ (p < i + 1 ∧ c p = true) := fun u => w ⟨by
            have : p ≠ i := fun v => z (by rw [← v]; exact u.2)
            omega, u.2⟩
          rw [if_neg w, if_neg w, if_neg w', if_neg w']
          exact ⟨rfl, x2, rfl⟩
theorem m_clear (vm : VM (mv (σ.1 463)) V (fun _ => false)) (h : Inv V d wn) : ∃ s', fX9_read_29 462 FU σ 0 = rdG s' ∧ Out σ s' 463 463 ∧ VM (mv (s'.1 463)) (wds (own V) V 12) (fun _ => false) ∧ ∀ j, (6 ≤ j ∧ j ≤ 8) ∨ 20 ≤ j → mv (s'.1 463) j = mv (σ.1 463) j := by
  have fu : FU = 6000 := rfl
  obtain ⟨s1, a1, a2, a3, a4⟩ := m_rd29 vm h 12 0 FU σ rfl (by omega) Out.rf (fun _ _ => rfl) (fun p _ => by rw [if_neg (by omega)])
  have k0 : ∀ n, n < 23 → (mv (s1.1 463) 0 n = 0 ↔ V 8 n = 3) := fun n hn => by rw [a3 0 (by omega)]; exact vm.k0 hn (h.1.ki hn)
  have k23 : mv (s1.1 463) 0 23 = 0 := by rw [a3 0 (by omega)]; exact vm.l
  obtain ⟨s2, b1, b2, b3, b4⟩ := m_rd71 (vm.wr.cg (a3 1 (by omega)) (a3 12 (by omega)) (a3 17 (by omega))) h k0 k23 24 0 FU s1 rfl (by omega) Out.rf (fun _ _ => rfl) (fun n _ => by rw [if_neg (by omega)])
  have s20 : mv (s2.1 463) 0 = mv (s1.1 463) 0 := b3 0 (by omega)
  obtain ⟨s3, d1, d2, d3, d4⟩ := m_rd110 (σ := s2) (fun n => decide (V 8 n ≠ 3 ∧ wn n = 0)) (fun n hn z => by
    rw [s20] at z
    have hu : V 8 n ≠ 3 := fun y => z ((k0 n hn).mpr y)
    rw [b4 n hn]
    by_cases y : V 8 n ≠ 3 ∧ wn n = 0
    · rw [if_pos y, decide_eq_true y]
      exact ⟨fun _ => rfl, fun _ => rfl⟩
    · rw [if_neg y, decide_eq_false y, a3 5 (by omega)]
      refine ⟨fun w => ?_, fun w => by cases w⟩
      have ki := h.1.ki hn
      by_cases k2 : V 8 n = 2
      · rw [vm.ac hn k2 rfl] at w
        rcases (h.2.1.fu hn k2 rfl).2 with ⟨u, -⟩ | ⟨a, -, u, -⟩ <;> omega
      · rw [vm.a5 hn (by omega)] at w
        omega) (by rw [s20]; exact k23) 24 0 FU s2 rfl (by omega) Out.rf (fun _ _ => rfl) (fun n _ => by rw [if_neg (by omega)])
  obtain ⟨s4, e1, e2, e3, e4⟩ := m_rd151 (σ := s3) (own V) (fun p hp => by
    rw [d3 11 (by omega), b3 11 (by omega), a4 p hp]
    by_cases z : own V p = true
    · rw [if_pos z]
      exact ⟨fun _ => z, fun _ => rfl⟩
    · rw [if_neg z, vm.hi hp]
      refine ⟨fun w => ?_, fun w => absurd w z⟩
      rcases h.2.1.hi hp with u | u <;> omega) 12 0 FU s3 rfl (by omega) Out.rf (fun _ _ _ _ => rfl) (fun p _ => ⟨by rw [if_neg (by omega)], fun _ => rfl, by rw [if_neg (by omega)]⟩)
  obtain ⟨s5, g1, g2, g3⟩ := m_s5 (σ := s4) (a := 0) (w := 0) rfl (by omega) (-1)
  have all : ∀ j, j ≠ 0 → j ≠ 5 → j ≠ 9 → j ≠ 10 → j ≠ 11 → j ≠ 17 → mv (s5.1 463) j = mv (σ.1 463) j := fun j q0 q5 q9 q10 q11 q17 => by
    rw [g3, mu_ne q17, e3 j q9 q10 q11, d3 j q0, b3 j q5, a3 j q11]
  refine ⟨s5, ?_, ((((a2.tr b2).tr d2).tr e2).tr g2), ?_, fun j hj => all j (by omega) (by omega) (by omega) (by omega) (by omega) (by omega)⟩
  · rw [show (0 : Int32) = nI 0 from rfl, a1, show (0 : Int32) = nI 0 from rfl, b1, show (0 : Int32) = nI 0 from rfl, d1, show (0 : Int32) = nI 0 from rfl, e1, g1, j_b]
  · refine emp_VM h vm (fun n hn => ?_) ?_ (fun j hj => all j (by omega) (by omega) (by omega) (by omega) (by omega) (by omega)) (fun n hn hu w => ?_) (fun p hp => ?_) (fun p hp z => ?_) (fun p hp => ?_) (fun w hw => ?_)
    · rw [g3, mu_ne (by decide), e3 0 (by decide) (by decide) (by decide), d4 n (by omega), s20, a3 0 (by omega)]
      by_cases z : V 8 n ≠ 3 ∧ wn n = 0
      · rw [if_pos ⟨hn, decide_eq_true z⟩, if_pos z]
      · rw [if_neg (fun y => z (of_decide_eq_true y.2)), if_neg z]
    · rw [g3, mu_ne (by decide), e3 0 (by decide) (by decide) (by decide), d4 23 (by omega), if_neg (by omega), s20]
      exact k23
    · rw [g3, mu_ne (by decide), e3 5 (by decide) (by decide) (by decide), d3 5 (by decide), b4 n hn, if_neg (fun y => w y.2), a3 5 (by omega)]
    · rw [g3, mu_ne (by decide), (e4 p hp).1, d3 9 (by decide), b3 9 (by decide), a3 9 (by decide)]
    · rw [g3, mu_ne (by decide), (e4 p hp).2.1 z, d3 10 (by decide), b3 10 (by decide), a3 10 (by decide)]
    · rw [g3, mu_ne (by decide), (e4 p hp).2.2, d3 11 (by decide), b3 11 (by decide), a4 p hp]
      by_cases z : own V p = true
      · rw [if_pos z, if_pos z]
      · rw [if_neg z, if_neg z, if_neg z]
    · rw [g3, mu_at, e3 17 (by decide) (by decide) (by decide), d3 17 (by decide), b3 17 (by decide), a3 17 (by decide)]
      rfl
end RB8
