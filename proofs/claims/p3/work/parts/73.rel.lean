/-! THE RELATION: a pane goes, in the reference -/
/-- all but trees, tabs, windows and floats stays -/
def FR (U U' : VW) : Prop := ∀ j, (j = 6 ∨ j = 7 ∨ j = 8 ∨ 20 ≤ j) → U' j = U j
theorem FR.rf {U : VW} : FR U U := fun _ _ => rfl
theorem FR.tr {U U' U'' : VW} (h : FR U U') (h' : FR U' U'') : FR U U'' := fun j hj => (h' j hj).trans (h j hj)
theorem FR.mu {U : VW} {j i : Nat} {x : Int} (h : j ≠ 6 ∧ j ≠ 7 ∧ j ≠ 8 ∧ j < 20) : FR U (mu U j i x) := fun k hk => mu_ne (by omega)
def nn (U : VW) (n : Nat) (kind : Int) : VW := mu (mu (mu (mu (mu (mu U 0 n kind) 1 n (-1)) 2 n 0) 3 n 1000) 4 n 0) 5 n (-1)
theorem FR.nn {U : VW} {n : Nat} {k : Int} : FR U (nn U n k) := ((((((FR.mu (by omega)).tr (FR.mu (by omega))).tr (FR.mu (by omega))).tr (FR.mu (by omega))).tr (FR.mu (by omega))).tr (FR.mu (by omega)))
theorem nn_rows {U : VW} {n : Nat} {k : Int} : (∀ i, nn U n k 0 i = if i = n then k else U 0 i) ∧ (∀ i, nn U n k 1 i = if i = n then -1 else U 1 i) ∧ (∀ i, nn U n k 2 i = if i = n then 0 else U 2 i) ∧ (∀ i, nn U n k 3 i = if i = n then 1000 else U 3 i) ∧ (∀ i, nn U n k 4 i = if i = n then 0 else U 4 i) ∧ (∀ i, nn U n k 5 i = if i = n then -1 else U 5 i) ∧ ∀ j, 6 ≤ j → nn U n k j = U j := by
  unfold nn
  refine ⟨fun i => ?_, fun i => ?_, fun i => ?_, fun i => ?_, fun i => ?_, fun i => ?_, fun j hj => ?_⟩
  · rw [mu_ne (by decide), mu_ne (by decide), mu_ne (by decide), mu_ne (by decide), mu_ne (by decide), mu_at]
  · rw [mu_ne (by decide), mu_ne (by decide), mu_ne (by decide), mu_ne (by decide), mu_at, mu_ne (by decide)]
  · rw [mu_ne (by decide), mu_ne (by decide), mu_ne (by decide), mu_at, mu_ne (by decide), mu_ne (by decide)]
  · rw [mu_ne (by decide), mu_ne (by decide), mu_at, mu_ne (by decide), mu_ne (by decide), mu_ne (by decide)]
  · rw [mu_ne (by decide), mu_at, mu_ne (by decide), mu_ne (by decide), mu_ne (by decide), mu_ne (by decide)]
  · rw [mu_at, mu_ne (by decide), mu_ne (by decide), mu_ne (by decide), mu_ne (by decide), mu_ne (by decide)]
  · rw [mu_ne (by omega), mu_ne (by omega), mu_ne (by omega), mu_ne (by omega), mu_ne (by omega), mu_ne (by omega)]
section MG
variable {σ : Sg}
theorem m_newNode {n0 : Nat} (h0 : n0 < 24) (hk : mv (σ.1 463) 0 n0 = 0) (hl : ∀ k, k < n0 → mv (σ.1 463) 0 k ≠ 0) (kind : Int32) : ∃ σ', fX9_newNode σ 462 kind = some (oI (n0 : Int), σ') ∧ Out σ σ' 463 463 ∧ mv (σ'.1 463) = nn (mv (σ.1 463)) n0 kind.toInt := by
  unfold fX9_newNode
  refine lp (F := fun n s => fX9_newNode_2 462 n σ kind s) (Q := fun r => ∃ σ', r = some (oI (n0 : Int), σ') ∧ Out σ σ' 463 463 ∧ mv (σ'.1 463) = nn (mv (σ.1 463)) n0 kind.toInt) (fun i s => s = nI i) n0 ?_ ?_ n0 0 FU 0 (Nat.zero_add _) (by show _ < 6000; omega) rfl
  · rintro n i _ hi rfl
    refine ⟨nI (i + 1), rfl, ?_⟩
    show fX9_newNode_2 462 (n + 1) σ kind (nI i) = fX9_newNode_2 462 n σ kind (nI (i + 1))
    rw [fX9_newNode_2, m_i0 (n := i) (j_nI (by omega)) (by omega), j_b, if_neg (by rw [j_eq, t_mv, jz0]; exact hl i hi), j_s]
  · rintro n _ rfl
    show ∃ σ', fX9_newNode_2 462 (n + 1) σ kind (nI n0) = _ ∧ _
    have e : (nI n0).toInt = n0 := j_nI (by omega)
    obtain ⟨σ1, a1, o1, v1⟩ := m_l0 (σ := σ) e h0 kind
    obtain ⟨σ2, a2, o2, v2⟩ := m_l1 (σ := σ1) e h0 (-1)
    obtain ⟨σ3, a3, o3, v3⟩ := m_l2 (σ := σ2) e h0 0
    obtain ⟨σ4, a4, o4, v4⟩ := m_l3 (σ := σ3) e h0 1000
    obtain ⟨σ5, a5, o5, v5⟩ := m_l4 (σ := σ4) e h0 0
    obtain ⟨σ6, a6, o6, v6⟩ := m_l5 (σ := σ5) e h0 (-1)
    rw [fX9_newNode_2, m_i0 e h0, j_b, if_pos (by rw [j_eq, t_mv, jz0]; exact hk), a1, j_b, a2, j_b, a3, j_b, a4, j_b, a5, j_b, a6, j_b, j_nIo n0 (by omega)]
    exact ⟨σ6, rfl, ((((o1.tr o2).tr o3).tr o4).tr o5).tr o6, by rw [v6, v5, v4, v3, v2, v1]; rfl⟩
/-- the children behind a place move up by one -/
def mlv (U : VW) (n : Nat) : VW := fun j i => if j = 4 ∧ i < 24 ∧ (if i = n then 0 else U 0 i) ≠ 0 ∧ U 1 i = U 1 n ∧ U 4 n < U 4 i then wr (U 4 i - 1) else mu U 0 n 0 j i
theorem m_leaves {a : Int32} {g : Nat} (ha : a.toInt = g) (hg : g < 24) : Mo (fX9_leaves σ 462 a) σ (mlv (mv (σ.1 463)) g) := by
  unfold Mo fX9_leaves
  rw [m_i1 ha hg, j_b, m_i4 ha hg, j_b]
  obtain ⟨σ1, a1, o1, v1⟩ := m_l0 (σ := σ) ha hg 0
  rw [a1, j_b]
  refine lp (F := fun n (s : Sg × Int32) => fX9_leaves_24 462 n s.1 (oI (mv (σ.1 463) 1 g)) (oI (mv (σ.1 463) 4 g)) s.2) (Q := fun r => ∃ σ', r = some σ' ∧ Out σ σ' 463 463 ∧ mv (σ'.1 463) = mlv (mv (σ.1 463)) g) (fun i s => s.2 = nI i ∧ Out σ s.1 463 463 ∧ mv (s.1.1 463) = fun j m => if m < i then mlv (mv (σ.1 463)) g j m else mu (mv (σ.1 463)) 0 g 0 j m) 24 ?_ ?_ 24 0 FU (σ1, 0) rfl (by decide) ⟨rfl, o1, by
    rw [v1]
    funext j m
    rw [if_neg (by omega)]
    rfl⟩
  · rintro n i ⟨s, l⟩ hi ⟨rfl, ho, hv⟩
    simp only at ho hv
    have rd : ∀ j, mv (s.1 463) j i = mu (mv (σ.1 463)) 0 g 0 j i := fun j => by rw [hv]; exact if_neg (by omega)
    have e : (nI i).toInt = i := j_nI (by omega)
    have ext : ∀ W : VW, W 4 i = mlv (mv (σ.1 463)) g 4 i → (∀ j m, ¬ (j = 4 ∧ m = i) → W j m = mv (s.1 463) j m) → W = fun j m => if m < i + 1 then mlv (mv (σ.1 463)) g j m else mu (mv (σ.1 463)) 0 g 0 j m := by
      intro W h1 h2
      funext j m
      by_cases q : j = 4 ∧ m = i
      · obtain ⟨rfl, rfl⟩ := q
        rw [h1, if_pos (by omega)]
      · rw [h2 j m q, hv]
        dsimp only
        by_cases q2 : m < i
        · rw [if_pos q2, if_pos (by omega)]
        · rw [if_neg q2]
          by_cases q3 : m = i
          · subst q3
            rw [if_pos (by omega), mlv, if_neg (fun z => q ⟨z.1, rfl⟩)]
          · rw [if_neg (by omega)]
    have r0 : mu (mv (σ.1 463)) 0 g 0 0 i = if i = g then 0 else mv (σ.1 463) 0 i := mu_at i
    have r1 : mu (mv (σ.1 463)) 0 g 0 1 i = mv (σ.1 463) 1 i := by rw [mu_ne (by decide)]
    have r4 : mu (mv (σ.1 463)) 0 g 0 4 i = mv (σ.1 463) 4 i := by rw [mu_ne (by decide)]
    show ∃ s' : Sg × Int32, _ ∧ fX9_leaves_24 462 (n + 1) s (oI (mv (σ.1 463) 1 g)) (oI (mv (σ.1 463) 4 g)) (nI i) = _
    rw [fX9_leaves_24, if_neg (n_ge 24 (m := 24) rfl hi (by decide)), m_isChild e hi, j_b, t_mv, rd 0, rd 1, r0, r1]
    unfold fX9_leaves_68
    by_cases q : (if i = g then 0 else mv (σ.1 463) 0 i) ≠ 0 ∧ mv (σ.1 463) 1 i = mv (σ.1 463) 1 g
    · rw [if_pos (by simp only [q.1, q.2, ne_eq, not_false_eq_true, decide_true, Bool.and_self]), m_i4 e hi, j_b, rd 4, r4]
      by_cases q2 : mv (σ.1 463) 4 g < mv (σ.1 463) 4 i
      · obtain ⟨σ2, a2, o2, v2⟩ := m_l4 (σ := s) e hi (oI (mv (σ.1 463) 4 i) - 1)
        rw [if_neg (by rw [j_le, t_mv, t_mv]; omega), j_b, a2, j_b]
        refine ⟨(σ2, nI (i + 1)), ⟨rfl, ho.tr o2, ext _ ?_ ?_⟩, by rw [j_s]⟩
        · show mv (σ2.1 463) 4 i = _
          rw [v2, mu_at, if_pos rfl, wr_sub, t_mv, jz1, mlv, if_pos ⟨rfl, hi, q.1, q.2, q2⟩]
        · intro j m hjm
          show mv (σ2.1 463) j m = _
          rw [v2, mu_def, if_neg hjm]
      · rw [if_pos (by rw [j_le, t_mv, t_mv]; omega)]
        refine ⟨(s, nI (i + 1)), ⟨rfl, ho, ext _ ?_ (fun _ _ _ => rfl)⟩, by rw [j_s]⟩
        rw [rd 4, mlv, if_neg (fun z => q2 z.2.2.2.2)]
    · rw [if_neg (by
        intro z
        simp only [Bool.and_eq_true, decide_eq_true_eq] at z
        exact q z)]
      refine ⟨(s, nI (i + 1)), ⟨rfl, ho, ext _ ?_ (fun _ _ _ => rfl)⟩, by rw [j_s]⟩
      rw [rd 4, mlv, if_neg (fun z => q ⟨z.2.2.1, z.2.2.2.1⟩)]
  · rintro n ⟨s, l⟩ ⟨rfl, ho, hv⟩
    show ∃ σ', fX9_leaves_24 462 (n + 1) s _ _ (nI 24) = some σ' ∧ _
    rw [fX9_leaves_24, if_pos (n_le 24 (m := 24) rfl (by decide))]
    refine ⟨s, rfl, ho, ?_⟩
    simp only at hv
    rw [hv]
    funext j m
    by_cases q : m < 24
    · rw [if_pos q]
    · rw [if_neg q, mlv, if_neg (fun z => q z.2.1)]
theorem FR.ofl {U : VW} {n : Nat} : FR U (mlv U n) := fun j hj => by
  funext i
  unfold mlv
  rw [if_neg (fun z => by omega), mu_ne (by omega)]
end MG
