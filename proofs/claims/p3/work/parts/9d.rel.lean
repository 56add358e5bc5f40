/-! THE RELATION: the reference's plan (4): all least sizes, the deep ones first -/
section MD
variable {σ : Sg} {V : VW} {d : Nat → Nat} {wn : Nat → Int} {X Y : Nat → Bool} {mw mh : Nat → Int}
theorem m_least (h : VM (mv (σ.1 463)) V X) (t : Tree V d wn Y) (hm : ∀ p, p < 12 → V 13 p ≠ -1 → mv (σ.1 463) 7 p = mw p ∧ mv (σ.1 463) 8 p = mh p) (hh : ∀ p, p < 12 → 0 ≤ mh p ∧ mh p ≤ 40) {n : Nat} (hn : n < 23) (hu : V 8 n ≠ 3) (hc : ∀ i, i < 23 → V 9 i = n → mq σ 1 i = 0 ∨ mq σ 1 i = 1) : ∃ σ', fX9_laysLeast σ 462 (nI n) = some σ' ∧ Fq σ σ' n ∧ EM V mw mh (mq σ') n := by
  have kr := t.ki hn
  by_cases q : V 8 n = 2
  · obtain ⟨σ', a, f, g⟩ := m_leastG h hm hh hn q
    exact ⟨σ', a, f, fun _ => g, fun z => absurd z (by omega)⟩
  · by_cases z : V 8 n = 0
    · obtain ⟨σ', a, f, g⟩ := m_leastS0 h t hn z hc
      exact ⟨σ', a, f, fun y => absurd y q, fun _ => g⟩
    · obtain ⟨σ', a, f, g⟩ := m_leastS1 h t hn (by omega) hc
      exact ⟨σ', a, f, fun y => absurd y q, fun _ => g⟩
theorem EM.b01 {V : VW} {P : VW} {n : Nat} (h : EM V mw mh P n) (k : V 8 n = 2 ∨ V 8 n ≤ 1) : P 1 n = 0 ∨ P 1 n = 1 := by
  rcases k with k | k
  · exact (h.1 k).1
  · exact (h.2 k).1
/-- one depth -/
theorem m_lays13 (h : VM (mv (σ.1 463)) V X) (t : Tree V d wn Y) (hm : ∀ p, p < 12 → V 13 p ≠ -1 → mv (σ.1 463) 7 p = mw p ∧ mv (σ.1 463) 8 p = mh p) (hh : ∀ p, p < 12 → 0 ≤ mh p ∧ mh p ≤ 40) (h66 : ∀ n, n < 23 → V 8 n ≠ 3 → σ.1 466 n = nI (dq V n)) (D : Nat) (hD : D ≤ 24) (hE : ∀ n, n < 23 → V 8 n ≠ 3 → D < dq V n → EM V mw mh (mq σ) n) (K : Sg → Int32 → Option Sg) : ∃ σ', fX9_lays_13 462 K FU σ (nI D) 0 = K σ' (nI D + (-1)) ∧ Out σ σ' 467 468 ∧ ∀ n, n < 23 → V 8 n ≠ 3 → D ≤ dq V n → EM V mw mh (mq σ') n := by
  refine lp (F := fun m (s : Sg × Int32) => fX9_lays_13 462 K m s.1 (nI D) s.2) (Q := fun o => ∃ σ', o = K σ' (nI D + (-1)) ∧ Out σ σ' 467 468 ∧ ∀ n, n < 23 → V 8 n ≠ 3 → D ≤ dq V n → EM V mw mh (mq σ') n) (fun i s => s.2 = nI i ∧ Out σ s.1 467 468 ∧ ∀ n, n < 23 → V 8 n ≠ 3 → (D < dq V n ∨ (dq V n = D ∧ n < i)) → EM V mw mh (mq s.1) n) 24 ?_ ?_ 24 0 FU (σ, 0) rfl (by decide) ⟨rfl, Out.rf, fun n hn hu q => hE n hn hu (by omega)⟩
  · rintro m i ⟨s, l⟩ hi ⟨rfl, ho, hv⟩
    simp only at ho hv
    have ei : (nI i).toInt = i := j_nI (by omega)
    have e63 : s.1 463 = σ.1 463 := ho.2 463 (by omega)
    have e66 : s.1 466 = σ.1 466 := ho.2 466 (by omega)
    have nle : ¬ (24 : Int32) ≤ nI i := n_ge 24 (m := 24) rfl hi (by decide)
    show ∃ s' : Sg × Int32, _ ∧ fX9_lays_13 462 K (m + 1) s (nI D) (nI i) = _
    rw [fX9_lays_13, if_neg nle, m_i0 ei hi, j_b, e63]
    by_cases q : i < 23 ∧ V 8 i ≠ 3
    · obtain ⟨i23, iu⟩ := q
      have u0 : ¬ oI (mv (σ.1 463) 0 i) = 0 := fun z => by
        rw [j_eq, t_mv, jz0] at z
        exact iu ((h.k0 i23 (t.ki i23)).mp z)
      rw [if_neg u0, if_pos (j_ckn hi (by decide)), j_cl _ (by omega), show (462 + 4 : Nat) = 466 from rfl, e66, h66 i i23 iu]
      have dq22 := (t.dqs i23 iu).1
      by_cases z : dq V i = D
      · rw [if_pos (by rw [z])]
        obtain ⟨σ2, a2, f2, g2⟩ := m_least (σ := s) (V := V) (X := X) (mw := mw) (mh := mh) (by rw [e63]; exact h) t (by rw [e63]; exact hm) hh i23 iu (fun c hc e => by
          have := t.dqc hc e
          have cu := t.us hc (by omega)
          have kc := t.ki hc
          exact (hv c hc cu (Or.inl (by omega))).b01 (by omega))
        rw [a2, j_b]
        unfold fX9_lays_43
        rw [j_s]
        refine ⟨(σ2, nI (i + 1)), ⟨rfl, ho.tr f2.1, fun n hn hu y => ?_⟩, rfl⟩
        by_cases w : n = i
        · subst w
          exact g2
        · refine (hv n hn hu (by omega)).cg t hn (fun j c _ hc e => f2.row (fun u => ?_))
          subst u
          rcases e with e | e
          · exact w e.symm
          · have := t.dqc hc e
            omega
      · have nz : ¬ nI (dq V i) = nI D := fun y => by
          rw [j_eq, j_nI (by omega), j_nI (by omega)] at y
          omega
        rw [if_neg nz]
        unfold fX9_lays_43
        rw [j_s]
        refine ⟨(s, nI (i + 1)), ⟨rfl, ho, fun n hn hu y => hv n hn hu ?_⟩, rfl⟩
        by_cases w : n = i
        · subst w
          omega
        · omega
    · have u0 : oI (mv (σ.1 463) 0 i) = 0 := j_eq.mpr (by
        rw [t_mv, jz0]
        by_cases y : i < 23
        · exact (h.k0 y (t.ki y)).mpr (Classical.byContradiction (fun u => q ⟨y, u⟩))
        · have : i = 23 := by omega
          rw [this]
          exact h.l)
      rw [if_pos u0]
      unfold fX9_lays_43
      rw [j_s]
      refine ⟨(s, nI (i + 1)), ⟨rfl, ho, fun n hn hu y => hv n hn hu ?_⟩, rfl⟩
      by_cases w : n = i
      · subst w
        exact absurd ⟨hn, hu⟩ q
      · omega
  · rintro m ⟨s, l⟩ ⟨rfl, ho, hv⟩
    simp only at ho hv
    show ∃ σ', fX9_lays_13 462 K (m + 1) s (nI D) (nI 24) = _ ∧ _
    rw [fX9_lays_13, if_pos (n_le 24 (m := 24) rfl (by decide))]
    exact ⟨s, rfl, ho, fun n hn hu q => hv n hn hu (by omega)⟩
/-- all depths -/
theorem m_lays7 (h : VM (mv (σ.1 463)) V X) (t : Tree V d wn Y) (hm : ∀ p, p < 12 → V 13 p ≠ -1 → mv (σ.1 463) 7 p = mw p ∧ mv (σ.1 463) 8 p = mh p) (hh : ∀ p, p < 12 → 0 ≤ mh p ∧ mh p ≤ 40) (h66 : ∀ n, n < 23 → V 8 n ≠ 3 → σ.1 466 n = nI (dq V n)) : ∃ σ', fX9_lays_7 462 FU σ 24 = fX9_lays_57 462 FU σ' 0 ∧ Out σ σ' 467 468 ∧ ∀ n, n < 23 → V 8 n ≠ 3 → EM V mw mh (mq σ') n := by
  refine lp (F := fun m (s : Sg × Int32) => fX9_lays_7 462 m s.1 s.2) (Q := fun o => ∃ σ', o = fX9_lays_57 462 FU σ' 0 ∧ Out σ σ' 467 468 ∧ ∀ n, n < 23 → V 8 n ≠ 3 → EM V mw mh (mq σ') n) (fun i s => s.2 = oI (24 - (i : Int)) ∧ Out σ s.1 467 468 ∧ ∀ n, n < 23 → V 8 n ≠ 3 → 24 < dq V n + i → EM V mw mh (mq s.1) n) 25 ?_ ?_ 25 0 FU (σ, 24) rfl (by decide) ⟨rfl, Out.rf, fun n hn hu q => absurd (t.dqs hn hu).1 (by omega)⟩
  · rintro m i ⟨s, l⟩ hi ⟨rfl, ho, hv⟩
    simp only at ho hv
    have e63 : s.1 463 = σ.1 463 := ho.2 463 (by omega)
    have e66 : s.1 466 = σ.1 466 := ho.2 466 (by omega)
    have eD : oI (24 - (i : Int)) = nI (24 - i) := by
      rw [j_nIo _ (by omega)]
      congr 1
      omega
    have eD1 : nI (24 - i) + (-1) = oI (24 - ((i + 1 : Nat) : Int)) := by
      rw [j_nIo _ (by omega), show (-1 : Int32) = oI (-1) from rfl, j_oa]
      congr 1
      omega
    show ∃ s' : Sg × Int32, _ ∧ fX9_lays_7 462 (m + 1) s (oI (24 - (i : Int))) = _
    have nn : ¬ nI (24 - i) < 0 := by rw [j_lt, j_nI (by omega), jz0]; omega
    rw [eD, fX9_lays_7, if_neg nn]
    obtain ⟨σ2, a2, o2, g2⟩ := m_lays13 (σ := s) (V := V) (X := X) (mw := mw) (mh := mh) (by rw [e63]; exact h) t (by rw [e63]; exact hm) hh (by rw [e66]; exact h66) (24 - i) (by omega) (fun n hn hu q => hv n hn hu (by omega)) (fX9_lays_7 462 m)
    rw [a2, eD1]
    exact ⟨(σ2, _), ⟨rfl, ho.tr o2, fun n hn hu q => g2 n hn hu (by omega)⟩, rfl⟩
  · rintro m ⟨s, l⟩ ⟨rfl, ho, hv⟩
    simp only at ho hv
    show ∃ σ', fX9_lays_7 462 (m + 1) s (oI (24 - ((25 : Nat) : Int))) = _ ∧ _
    rw [fX9_lays_7, if_pos (by decide)]
    exact ⟨s, rfl, ho, fun n hn hu => hv n hn hu (by omega)⟩
end MD
