/-! THE RELATION: the reference's plan (1): depths and least sizes -/
/-- the reference's plan: 1 seen, 2 and 3 least, 4 to 7 the rectangle -/
def mq (σ : Sg) : VW := fun j n => if n < 24 then (if j = 1 then (σ.1 467 n).toInt else if j = 2 then (σ.1 468 (2 * n)).toInt else if j = 3 then (σ.1 468 (2 * n + 1)).toInt else if 4 ≤ j ∧ j ≤ 7 then (σ.1 469 (4 * n + (j - 4))).toInt else 0) else 0
section ML
variable {σ : Sg} {V : VW} {d : Nat → Nat} {wn : Nat → Int} {X Y : Nat → Bool} {mw mh : Nat → Int}
theorem mq1 {n : Nat} (hn : n < 24) : mq σ 1 n = (σ.1 467 n).toInt := by
  unfold mq
  rw [if_pos hn, if_pos rfl]
theorem mq2 {n : Nat} (hn : n < 24) : mq σ 2 n = (σ.1 468 (2 * n)).toInt := by
  unfold mq
  rw [if_pos hn, if_neg (by decide), if_pos rfl]
theorem mq3 {n : Nat} (hn : n < 24) : mq σ 3 n = (σ.1 468 (2 * n + 1)).toInt := by
  unfold mq
  rw [if_pos hn, if_neg (by decide), if_neg (by decide), if_pos rfl]
theorem mq47 {n j : Nat} (hn : n < 24) (h4 : 4 ≤ j) (h7 : j ≤ 7) : mq σ j n = (σ.1 469 (4 * n + (j - 4))).toInt := by
  unfold mq
  rw [if_pos hn, if_neg (by omega), if_neg (by omega), if_neg (by omega), if_pos ⟨h4, h7⟩]
theorem m_dep17 (h : VM (mv (σ.1 463)) V X) (t : Tree V d wn Y) {n : Nat} (hn : n < 23) (hu : V 8 n ≠ 3) (h0 : σ.1 466 n = 0) (K : Sg → Int32 → Option Sg) : ∃ σ', fX9_laysDepths_17 462 K FU σ (nI n) (nI n) = K σ' (nI (n + 1)) ∧ Out σ σ' 466 466 ∧ (∀ i, i ≠ n → σ'.1 466 i = σ.1 466 i) ∧ σ'.1 466 n = nI (dq V n) := by
  obtain ⟨q1, q2, q3⟩ := t.dqs hn hu
  have en : (nI n).toInt = n := j_nI (by omega)
  refine lp (F := fun m (s : Sg × Int32) => fX9_laysDepths_17 462 K m s.1 (nI n) s.2) (Q := fun o => ∃ σ', o = K σ' (nI (n + 1)) ∧ Out σ σ' 466 466 ∧ (∀ i, i ≠ n → σ'.1 466 i = σ.1 466 i) ∧ σ'.1 466 n = nI (dq V n)) (fun i s => Out σ s.1 466 466 ∧ (∀ k, k ≠ n → s.1.1 466 k = σ.1 466 k) ∧ s.1.1 466 n = nI i ∧ ∃ m : Nat, m < 23 ∧ v_top V i n = m ∧ V 8 m ≠ 3 ∧ s.2 = nI m) (dq V n) ?_ ?_ (dq V n) 0 FU (σ, nI n) (by omega) (by show _ < 6000; omega) ⟨Out.rf, fun _ _ => rfl, h0, n, hn, rfl, hu, rfl⟩
  · rintro f i ⟨s, l⟩ hi ⟨ho, hk, hv, m, hm, em, hum, rfl⟩
    simp only at ho hk hv
    have e63 : s.1 463 = σ.1 463 := ho.2 463 (by omega)
    have mm : (nI m).toInt = m := j_nI (by omega)
    have nr := q3 i hi
    rw [em, ga_in hm] at nr
    obtain ⟨s', hs', es', ks', -⟩ := t.pa hm nr
    have u0 : ¬ oI (mv (σ.1 463) 0 n) = 0 := fun z => by
      rw [j_eq, t_mv, jz0] at z
      exact hu ((h.k0 hn (t.ki hn)).mp z)
    have u1 : oI (mv (σ.1 463) 1 m) = nI s' := j_eq.mpr (by rw [t_mv, h.pa hm hum, es', j_nI (by omega)])
    have u2 : ¬ nI s' = -1 := fun z => by
      rw [j_eq, j_nI (by omega), jm1] at z
      omega
    have up : ∀ v, (su s 466 n v).1 463 = σ.1 463 := fun v => by rw [su_ne (by decide), e63]
    show ∃ s'' : Sg × Int32, _ ∧ fX9_laysDepths_17 462 K (f + 1) s (nI n) (nI m) = _
    rw [fX9_laysDepths_17, m_i0 en (by omega), j_b, e63, if_neg u0, m_i1 mm (by omega), j_b, e63, u1, if_neg u2, if_pos (j_ckn (by omega) (by decide)), if_pos (j_ckn (by omega) (by decide)), j_cl _ (by omega), j_nm, show (462 + 4 : Nat) = 466 from rfl, m_i1 mm (by omega), j_b, up, u1]
    refine ⟨(_, nI s'), ⟨ho.tr su_out, fun k hkn => ?_, ?_, s', hs', ?_, by omega, rfl⟩, rfl⟩
    · show (su s 466 n _).1 466 k = _
      rw [su_at, if_neg (fun z => hkn z.2), hk k hkn]
    · show (su s 466 n _).1 466 n = _
      rw [su_at, if_pos ⟨rfl, rfl⟩, hv, j_s]
    · rw [v_top_nx, em, ga_in hm, if_neg nr, es']
  · rintro f ⟨s, l⟩ ⟨ho, hk, hv, m, hm, em, hum, rfl⟩
    simp only at ho hk hv
    have e63 : s.1 463 = σ.1 463 := ho.2 463 (by omega)
    have mm : (nI m).toInt = m := j_nI (by omega)
    rw [em, ga_in hm] at q2
    have u0 : ¬ oI (mv (σ.1 463) 0 n) = 0 := fun z => by
      rw [j_eq, t_mv, jz0] at z
      exact hu ((h.k0 hn (t.ki hn)).mp z)
    have u1 : oI (mv (σ.1 463) 1 m) = -1 := j_eq.mpr (by rw [t_mv, h.pa hm hum, q2, jm1])
    show ∃ σ', fX9_laysDepths_17 462 K (f + 1) s (nI n) (nI m) = _ ∧ _
    rw [fX9_laysDepths_17, m_i0 en (by omega), j_b, e63, if_neg u0, m_i1 mm (by omega), j_b, e63, if_pos u1]
    unfold fX9_laysDepths_56
    rw [j_s]
    exact ⟨s, rfl, ho, hk, hv⟩
theorem m_laysDepths (h : VM (mv (σ.1 463)) V X) (t : Tree V d wn Y) : ∃ σ', fX9_laysDepths σ 462 = some σ' ∧ Out σ σ' 466 466 ∧ ∀ n, n < 23 → V 8 n ≠ 3 → σ'.1 466 n = nI (dq V n) := by
  unfold fX9_laysDepths
  refine lp (F := fun m (s : Sg × Int32) => fX9_laysDepths_2 462 m s.1 s.2) (Q := fun o => ∃ σ', o = some σ' ∧ Out σ σ' 466 466 ∧ ∀ n, n < 23 → V 8 n ≠ 3 → σ'.1 466 n = nI (dq V n)) (fun i s => s.2 = nI i ∧ Out σ s.1 466 466 ∧ ∀ n, n < i → n < 23 → V 8 n ≠ 3 → s.1.1 466 n = nI (dq V n)) 24 ?_ ?_ 24 0 FU (σ, 0) rfl (by decide) ⟨rfl, Out.rf, fun n hn => absurd hn (by omega)⟩
  · rintro f i ⟨s, l⟩ hi ⟨rfl, ho, hv⟩
    simp only at ho hv
    have ei : (nI i).toInt = i := j_nI (by omega)
    have e63 : (su s 466 i 0).1 463 = σ.1 463 := by rw [su_ne (by decide), ho.2 463 (by omega)]
    show ∃ s' : Sg × Int32, _ ∧ fX9_laysDepths_2 462 (f + 1) s (nI i) = _
    rw [fX9_laysDepths_2, if_neg (n_ge 24 (m := 24) rfl hi (by decide)), if_pos (j_ckn hi (by decide)), j_nm, j_cl _ (by omega), show (462 + 4 : Nat) = 466 from rfl]
    by_cases q : i < 23 ∧ V 8 i ≠ 3
    · obtain ⟨σ2, a2, o2, k2, v2⟩ := m_dep17 (σ := su s 466 i 0) (V := V) (X := X) (by rw [e63]; exact h) t q.1 q.2 (by rw [su_at, if_pos ⟨rfl, rfl⟩]) (fX9_laysDepths_2 462 f)
      rw [a2]
      refine ⟨(σ2, nI (i + 1)), ⟨rfl, (ho.tr su_out).tr o2, fun n hn h23 hu => ?_⟩, rfl⟩
      by_cases z : n = i
      · rw [z]
        exact v2
      · show σ2.1 466 n = _
        rw [k2 n z, su_at, if_neg (fun y => z y.2)]
        exact hv n (by omega) h23 hu
    · have u0 : oI (mv (σ.1 463) 0 i) = 0 := j_eq.mpr (by
        rw [t_mv, jz0]
        by_cases y : i < 23
        · exact (h.k0 y (t.ki y)).mpr (Classical.byContradiction (fun u => q ⟨y, u⟩))
        · have : i = 23 := by omega
          rw [this]
          exact h.l)
      show ∃ s' : Sg × Int32, _ ∧ fX9_laysDepths_17 462 _ (5999 + 1) (su s 466 i 0) (nI i) (nI i) = _
      rw [fX9_laysDepths_17, m_i0 ei hi, j_b, e63, if_pos u0]
      unfold fX9_laysDepths_56
      rw [j_s]
      refine ⟨(_, nI (i + 1)), ⟨rfl, ho.tr su_out, fun n hn h23 hu => ?_⟩, rfl⟩
      show (su s 466 i 0).1 466 n = _
      have z : n ≠ i := fun z => q (by rw [← z]; exact ⟨h23, hu⟩)
      rw [su_at, if_neg (fun y => z y.2)]
      exact hv n (by omega) h23 hu
  · rintro f ⟨s, l⟩ ⟨rfl, ho, hv⟩
    simp only at ho hv
    show ∃ σ', fX9_laysDepths_2 462 (f + 1) s (nI 24) = _ ∧ _
    rw [fX9_laysDepths_2, if_pos (n_le 24 (m := 24) rfl (by decide))]
    exact ⟨s, rfl, ho, fun n hn hu => hv n (by omega) hn hu⟩
end ML
