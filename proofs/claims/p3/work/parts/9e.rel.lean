/-! THE RELATION: the reference's plan (5): the windows' roots -/
section ME
variable {σ : Sg} {V : VW} {d : Nat → Nat} {wn : Nat → Int} {X Y : Nat → Bool} {mw mh : Nat → Int}
theorem m_lays84 {w r : Nat} (hw : w < 5) (hr : r < 24) (K : Sg → Int32 → Option Sg) : ∃ σ', fX9_lays_84 462 K FU σ (nI w) (nI r) 0 = K σ' (nI (w + 1)) ∧ Out σ σ' 469 469 ∧ (∀ i, (i < 4 * r ∨ 4 * r + 4 ≤ i) → σ'.1 469 i = σ.1 469 i) ∧ ∀ k, k < 4 → (σ'.1 469 (4 * r + k)).toInt = mv (σ.1 463) (13 + k) w := by
  have ew : (nI w).toInt = w := j_nI (by omega)
  have nr : ¬ nI r = -1 := fun z => by rw [j_eq, j_nI (by omega), jm1] at z; omega
  have e4 : (4 : Int32) * nI r = nI (4 * r) := (Int32.ofNat_mul 4 r).symm
  refine lp (F := fun m (s : Sg × Int32) => fX9_lays_84 462 K m s.1 (nI w) (nI r) s.2) (Q := fun o => ∃ σ', o = K σ' (nI (w + 1)) ∧ Out σ σ' 469 469 ∧ (∀ i, (i < 4 * r ∨ 4 * r + 4 ≤ i) → σ'.1 469 i = σ.1 469 i) ∧ ∀ k, k < 4 → (σ'.1 469 (4 * r + k)).toInt = mv (σ.1 463) (13 + k) w) (fun i s => s.2 = nI i ∧ Out σ s.1 469 469 ∧ (∀ i, (i < 4 * r ∨ 4 * r + 4 ≤ i) → s.1.1 469 i = σ.1 469 i) ∧ ∀ k, k < i → (s.1.1 469 (4 * r + k)).toInt = mv (σ.1 463) (13 + k) w) 4 ?_ ?_ 4 0 FU (σ, 0) rfl (by decide) ⟨rfl, Out.rf, fun _ _ => rfl, fun k hk => absurd hk (by omega)⟩
  · rintro m i ⟨s, l⟩ hi ⟨rfl, ho, hf, hv⟩
    simp only at ho hf hv
    have e63 : s.1 463 = σ.1 463 := ho.2 463 (by omega)
    have nle : ¬ (4 : Int32) ≤ nI i := n_ge 4 (m := 4) rfl hi (by decide)
    have ew1 : fX9_window s 462 (nI w) (1 + nI i) 1 = some (oI (mv (s.1 463) (12 + (1 + i)) w)) := by
      have : (1 : Int32) + nI i = nI (1 + i) := j_a 1 i
      rw [this]
      exact m_window (k := 1 + i) ew hw (by omega)
    show ∃ s' : Sg × Int32, _ ∧ fX9_lays_84 462 K (m + 1) s (nI w) (nI r) (nI i) = _
    rw [fX9_lays_84, if_neg nle, if_neg nr, ew1, j_b, e4, j_a, if_pos (j_ckn (by omega) (by decide)), j_nm, j_cl _ (by omega), show (462 + 7 : Nat) = 469 from rfl, j_s, e63]
    refine ⟨(_, nI (i + 1)), ⟨rfl, ho.tr su_out, fun k hk => ?_, fun k hk => ?_⟩, rfl⟩
    · show (su s 469 (4 * r + i) _).1 469 k = _
      rw [su_at, if_neg (by omega), hf k hk]
    · show ((su s 469 (4 * r + i) _).1 469 (4 * r + k)).toInt = _
      rw [su_at]
      by_cases q : k = i
      · subst q
        rw [if_pos ⟨rfl, rfl⟩, t_mv, show 12 + (1 + k) = 13 + k by omega]
      · rw [if_neg (by omega)]
        exact hv k (by omega)
  · rintro m ⟨s, l⟩ ⟨rfl, ho, hf, hv⟩
    simp only at ho hf hv
    show ∃ σ', fX9_lays_84 462 K (m + 1) s (nI w) (nI r) (nI 4) = _ ∧ _
    rw [fX9_lays_84, if_pos (n_le 4 (m := 4) rfl (by decide))]
    unfold fX9_lays_119
    rw [j_s]
    exact ⟨s, rfl, ho, hf, hv⟩
theorem m_lays57 (h : VM (mv (σ.1 463)) V X) (t : Tree V d wn Y) : ∃ σ', fX9_lays_57 462 FU σ 0 = fX9_lays_127 462 FU σ' 0 ∧ Out σ σ' 469 469 ∧ LR V (mq σ') := by
  refine lp (F := fun m (s : Sg × Int32) => fX9_lays_57 462 m s.1 s.2) (Q := fun o => ∃ σ', o = fX9_lays_127 462 FU σ' 0 ∧ Out σ σ' 469 469 ∧ LR V (mq σ')) (fun i s => s.2 = nI i ∧ Out σ s.1 469 469 ∧ ∀ w n : Nat, w < i → V 5 w = n → ∀ k, k < 4 → (s.1.1 469 (4 * n + k)).toInt = mv (σ.1 463) (13 + k) w) 5 ?_ ?_ 5 0 FU (σ, 0) rfl (by decide) ⟨rfl, Out.rf, fun w n hw => absurd hw (by omega)⟩
  · rintro m i ⟨s, l⟩ hi ⟨rfl, ho, hv⟩
    simp only at ho hv
    have ei : (nI i).toInt = i := j_nI (by omega)
    have e63 : s.1 463 = σ.1 463 := ho.2 463 (by omega)
    have nle : ¬ (5 : Int32) ≤ nI i := n_ge 5 (m := 5) rfl hi (by decide)
    show ∃ s' : Sg × Int32, _ ∧ fX9_lays_57 462 (m + 1) s (nI i) = _
    rw [fX9_lays_57, if_neg nle, m_isWindow, j_b, ei, decide_eq_true (p := (0 : Int) ≤ (i : Int) ∧ (i : Int) < 5) (by omega), Bool.true_and, Int.toNat_natCast, e63, h.ex hi]
    have none : V 5 i = -1 → ∀ s' : Sg × Int32, s' = (s, nI (i + 1)) → (s'.2 = nI (i + 1) ∧ Out σ s'.1 469 469 ∧ ∀ w n : Nat, w < i + 1 → V 5 w = n → ∀ k, k < 4 → (s'.1.1 469 (4 * n + k)).toInt = mv (σ.1 463) (13 + k) w) := fun z s' e => by
      rw [e]
      refine ⟨rfl, ho, fun w n hw e5 => hv w n ?_ e5⟩
      by_cases y : w = i
      · subst y
        omega
      · omega
    have run : ∀ a : Int32, V 5 i = -1 → a = -1 → fX9_lays_81 462 (fX9_lays_57 462 m) s (nI i) a = fX9_lays_57 462 m s (nI (i + 1)) := fun a _ ha => by
      unfold fX9_lays_81
      show fX9_lays_84 462 _ (5999 + 1) s (nI i) a 0 = _
      rw [fX9_lays_84, if_neg (by decide), if_pos ha]
      unfold fX9_lays_119
      rw [j_s]
    rcases t.wi hi with z | ⟨r, hr, e5, -, -, -⟩
    · by_cases i0 : i = 0
      · have c1 : decide ((if i = 0 ∨ V 5 i ≠ -1 then (1 : Int) else 0) = 1) = true := by rw [if_pos (Or.inl i0)]; rfl
        rw [if_pos c1, m_w5 ei hi, j_b, e63, h.ro hi, z, run (oI (-1)) z rfl]
        exact ⟨_, none z _ rfl, rfl⟩
      · have c1 : ¬ decide ((if i = 0 ∨ V 5 i ≠ -1 then (1 : Int) else 0) = 1) = true := by
          rw [if_neg (by omega)]
          decide
        rw [if_neg c1, run _ z rfl]
        exact ⟨_, none z _ rfl, rfl⟩
    · have c1 : decide ((if i = 0 ∨ V 5 i ≠ -1 then (1 : Int) else 0) = 1) = true := by rw [if_pos (Or.inr (by omega))]; rfl
      have er : oI (V 5 i) = nI r := by rw [e5, j_nIo _ (by omega)]
      rw [if_pos c1, m_w5 ei hi, j_b, e63, h.ro hi, er]
      unfold fX9_lays_81
      obtain ⟨σ2, a2, o2, f2, v2⟩ := m_lays84 (σ := s) hi (show r < 24 by omega) (fX9_lays_57 462 m)
      rw [a2]
      rw [e63] at v2
      refine ⟨(σ2, nI (i + 1)), ⟨rfl, ho.tr o2, fun w n hw e k hk => ?_⟩, rfl⟩
      show (σ2.1 469 (4 * n + k)).toInt = _
      by_cases y : w = i
      · subst y
        have : n = r := by omega
        subst this
        exact v2 k hk
      · have nr : n ≠ r := fun u => by
          subst u
          exact y (t.un (by omega) hi e e5)
        rw [f2 _ (by omega)]
        exact hv w n (by omega) e k hk
  · rintro m ⟨s, l⟩ ⟨rfl, ho, hv⟩
    simp only at ho hv
    show ∃ σ', fX9_lays_57 462 (m + 1) s (nI 5) = _ ∧ _
    rw [fX9_lays_57, if_pos (n_le 5 (m := 5) rfl (by decide))]
    refine ⟨s, rfl, ho, fun w n hw e => ?_⟩
    have n23 : n < 23 := by
      rcases t.wi hw with z | ⟨r, hr, e5, -⟩
      · omega
      · omega
    obtain ⟨g1, g2, g3, g4⟩ := h.geo hw (Or.inr (by omega))
    rw [mq47 (by omega) (by decide) (by decide), mq47 (by omega) (by decide) (by decide), mq47 (by omega) (by decide) (by decide), mq47 (by omega) (by decide) (by decide)]
    exact ⟨(hv w n hw e 0 (by decide)).trans g1, (hv w n hw e 1 (by decide)).trans g2, (hv w n hw e 2 (by decide)).trans g3, (hv w n hw e 3 (by decide)).trans g4⟩
end ME
