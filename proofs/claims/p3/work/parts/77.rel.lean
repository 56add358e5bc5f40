/-! THE RELATION: new groups in the reference -/
section MB
variable {σ : Sg}
theorem m_wo8 {r w : Nat} (hr : r < 1000) (hw : w < 5) (h12 : mv (σ.1 463) 12 w ≠ 0) (h17 : mv (σ.1 463) 17 w = r) (hl : ∀ v, v < w → mv (σ.1 463) 12 v = 0 ∨ mv (σ.1 463) 17 v ≠ r) : fX9_windowOf_8 σ 462 FU (oI (r : Int)) 0 = some (oI (w : Int)) := by
  refine lp (F := fun n s => fX9_windowOf_8 σ 462 n (oI (r : Int)) s) (Q := fun z => z = some (oI (w : Int))) (fun i s => s = nI i) w ?_ ?_ w 0 FU 0 (by omega) (by show _ < 6000; omega) rfl
  · rintro n i _ hi rfl
    refine ⟨nI (i + 1), rfl, ?_⟩
    show fX9_windowOf_8 σ 462 (n + 1) (oI (r : Int)) (nI i) = fX9_windowOf_8 σ 462 n (oI (r : Int)) (nI (i + 1))
    rw [fX9_windowOf_8, m_w0 (w := i) (j_nI (by omega)) (by omega), j_b]
    unfold fX9_windowOf_29
    by_cases q : mv (σ.1 463) 12 i = 0
    · rw [if_pos (by rw [j_eq, t_mv]; exact q), j_s]
    · rw [if_neg (by rw [j_eq, t_mv]; exact q), m_w5 (w := i) (j_nI (by omega)) (by omega), j_b, if_neg, j_s]
      rw [j_eq, t_mv, j_oI (by omega) (by omega)]
      exact (hl i hi).elim (fun z => absurd z q) (fun z => z)
  · rintro n _ rfl
    show fX9_windowOf_8 σ 462 (n + 1) (oI (r : Int)) (nI w) = _
    rw [fX9_windowOf_8, m_w0 (w := w) (j_nI (by omega)) (by omega), j_b, if_neg (by rw [j_eq, t_mv]; exact h12), m_w5 (w := w) (j_nI (by omega)) (by omega), j_b, h17, if_pos rfl, j_nIo w (by omega)]
theorem m_repl {n o w : Nat} (hn : n < 24) (ho : o < 24) (hno : n ≠ o) (hw : mv (σ.1 463) 1 o = -1 → w < 5 ∧ mv (σ.1 463) 12 w ≠ 0 ∧ mv (σ.1 463) 17 w = o ∧ ∀ v, v < w → mv (σ.1 463) 12 v = 0 ∨ mv (σ.1 463) 17 v ≠ o) : ∃ σ3, fX9_replaces σ 462 (oI (n : Int)) (oI (o : Int)) = some σ3 ∧ Out σ σ3 463 463 ∧ mv (σ3.1 463) = mu (mu (mu (if mv (σ.1 463) 1 o = -1 then mu (mv (σ.1 463)) 17 w n else mv (σ.1 463)) 1 n (mv (σ.1 463) 1 o)) 4 n (mv (σ.1 463) 4 o)) 3 n (mv (σ.1 463) 3 o) := by
  have en : (oI (n : Int)).toInt = n := j_oI (by omega) (by omega)
  have eo : (oI (o : Int)).toInt = o := j_oI (by omega) (by omega)
  have r21 : ∀ τ : Sg, (∀ j, j < 6 → mv (τ.1 463) j = mv (σ.1 463) j) → ∃ σ3, fX9_replaces_21 462 τ (oI (n : Int)) (oI (o : Int)) = some σ3 ∧ Out τ σ3 463 463 ∧ mv (σ3.1 463) = mu (mu (mu (mv (τ.1 463)) 1 n (mv (σ.1 463) 1 o)) 4 n (mv (σ.1 463) 4 o)) 3 n (mv (σ.1 463) 3 o) := by
    intro τ hτ
    obtain ⟨τ1, b1, p1, w1⟩ := m_l1 (σ := τ) en hn (oI (mv (τ.1 463) 1 o))
    obtain ⟨τ2, b2, p2, w2⟩ := m_l4 (σ := τ1) en hn (oI (mv (τ1.1 463) 4 o))
    obtain ⟨τ3, b3, p3, w3⟩ := m_l3 (σ := τ2) en hn (oI (mv (τ2.1 463) 3 o))
    unfold fX9_replaces_21
    rw [m_i1 eo ho, j_b, b1, j_b, m_i4 eo ho, j_b, b2, j_b, m_i3 eo ho, j_b, b3, j_b]
    refine ⟨τ3, rfl, (p1.tr p2).tr p3, ?_⟩
    have y4 : mv (τ1.1 463) 4 o = mv (σ.1 463) 4 o := by rw [w1, mu_ne (by decide), hτ 4 (by decide)]
    have y3 : mv (τ2.1 463) 3 o = mv (σ.1 463) 3 o := by rw [w2, mu_ne (by decide), w1, mu_ne (by decide), hτ 3 (by decide)]
    rw [w3, t_mv, y3, w2, t_mv, y4, w1, t_mv, hτ 1 (by decide)]
  unfold fX9_replaces
  rw [m_i1 eo ho, j_b]
  by_cases z : mv (σ.1 463) 1 o = -1
  · obtain ⟨w1, w2, w3, w4⟩ := hw z
    have ew : (oI (w : Int)).toInt = w := j_oI (by omega) (by omega)
    have RO : fX9_rootOf σ 462 (oI (o : Int)) = some (oI (o : Int)) := by
      unfold fX9_rootOf
      rw [show FU = 5999 + 1 from rfl, fX9_rootOf_2, m_i1 eo ho, j_b, z, if_pos (show oI (-1) = (-1 : Int32) from rfl)]
    rw [if_pos (by rw [z]; rfl), if_pos z]
    unfold fX9_windowOf
    rw [RO, j_b, m_wo8 (by omega) w1 w2 w3 w4, j_b]
    obtain ⟨τ, b1, p1, x1⟩ := m_s5 (σ := σ) ew w1 (oI (n : Int))
    rw [b1, j_b]
    obtain ⟨σ3, b2, p2, x2⟩ := r21 τ (fun j hj => by rw [x1, mu_ne (by omega)])
    exact ⟨σ3, b2, p1.tr p2, by rw [x2, x1, en]⟩
  · rw [if_neg (by rw [j_eq, t_mv, jm1]; exact z), if_neg z]
    exact r21 σ (fun _ _ => rfl)
/-- a node enters at a place -/
def men (U : VW) (n : Nat) (s k : Int) : VW := mu (mu (fun j i => if j = 4 ∧ i < 24 ∧ (U 0 i ≠ 0 ∧ U 1 i = s) ∧ k ≤ U 4 i then wr (U 4 i + 1) else U j i) 1 n s) 4 n k
theorem m_enters {n : Nat} (hn : n < 24) (s k : Int32) : Mo (fX9_enters σ 462 (oI (n : Int)) s k) σ (men (mv (σ.1 463)) n s.toInt k.toInt) := by
  have en : (oI (n : Int)).toInt = n := j_oI (by omega) (by omega)
  unfold Mo fX9_enters men
  obtain ⟨W, hW⟩ : ∃ W : VW, W = fun j i => if j = 4 ∧ i < 24 ∧ (mv (σ.1 463) 0 i ≠ 0 ∧ mv (σ.1 463) 1 i = s.toInt) ∧ k.toInt ≤ mv (σ.1 463) 4 i then wr (mv (σ.1 463) 4 i + 1) else mv (σ.1 463) j i := ⟨_, rfl⟩
  rw [← hW]
  refine lp (F := fun f (t : Sg × Int32) => fX9_enters_3 462 f t.1 (oI (n : Int)) s k t.2) (Q := fun r => ∃ σ', r = some σ' ∧ Out σ σ' 463 463 ∧ mv (σ'.1 463) = mu (mu W 1 n s.toInt) 4 n k.toInt) (fun i t => t.2 = nI i ∧ Out σ t.1 463 463 ∧ mv (t.1.1 463) = fun j m => if m < i then W j m else mv (σ.1 463) j m) 24 ?_ ?_ 24 0 FU (σ, 0) rfl (by decide) ⟨rfl, Out.rf, by
    funext j m
    rw [if_neg (by omega)]⟩
  · rintro f i ⟨t, l⟩ hi ⟨rfl, ho, hv⟩
    simp only at ho hv
    have e : (nI i).toInt = i := j_nI (by omega)
    have rd : ∀ j, mv (t.1 463) j i = mv (σ.1 463) j i := fun j => by rw [hv]; exact if_neg (by omega)
    have ext : ∀ Y : VW, Y 4 i = W 4 i → (∀ j m, ¬ (j = 4 ∧ m = i) → Y j m = mv (t.1 463) j m) → Y = fun j m => if m < i + 1 then W j m else mv (σ.1 463) j m := by
      intro Y h1 h2
      funext j m
      by_cases q : j = 4 ∧ m = i
      · obtain ⟨rfl, rfl⟩ := q
        rw [h1, if_pos (by omega)]
      · rw [h2 j m q, hv]
        dsimp only
        by_cases q2 : m < i
        · rw [if_pos q2, if_pos (by omega)]
        · rw [if_neg q2]
          by_cases q3 : m = i
          · subst q3
            rw [if_pos (by omega), hW]
            dsimp only
            rw [if_neg (fun z => q ⟨z.1, rfl⟩)]
          · rw [if_neg (by omega)]
    have w4 : W 4 i = if (mv (σ.1 463) 0 i ≠ 0 ∧ mv (σ.1 463) 1 i = s.toInt) ∧ k.toInt ≤ mv (σ.1 463) 4 i then wr (mv (σ.1 463) 4 i + 1) else mv (σ.1 463) 4 i := by
      rw [hW]
      dsimp only
      by_cases q : (mv (σ.1 463) 0 i ≠ 0 ∧ mv (σ.1 463) 1 i = s.toInt) ∧ k.toInt ≤ mv (σ.1 463) 4 i
      · rw [if_pos q, if_pos ⟨rfl, hi, q⟩]
      · rw [if_neg q, if_neg (fun z => q z.2.2)]
    show ∃ s' : Sg × Int32, _ ∧ fX9_enters_3 462 (f + 1) t (oI (n : Int)) s k (nI i) = _
    rw [fX9_enters_3, if_neg (n_ge 24 (m := 24) rfl hi (by decide)), m_isChild e hi, j_b, rd 0, rd 1]
    unfold fX9_enters_47
    by_cases q : mv (σ.1 463) 0 i ≠ 0 ∧ mv (σ.1 463) 1 i = s.toInt
    · rw [if_pos (by simp only [q.1, q.2, ne_eq, not_false_eq_true, decide_true, Bool.and_self]), m_i4 e hi, j_b, rd 4]
      by_cases q2 : k.toInt ≤ mv (σ.1 463) 4 i
      · obtain ⟨σ2, a2, o2, v2⟩ := m_l4 (σ := t) e hi (oI (mv (σ.1 463) 4 i) + 1)
        rw [if_neg (by rw [j_lt, t_mv]; omega), j_b, a2, j_b]
        refine ⟨(σ2, nI (i + 1)), ⟨rfl, ho.tr o2, ext _ ?_ ?_⟩, by rw [j_s]⟩
        · show mv (σ2.1 463) 4 i = _
          rw [v2, mu_at, if_pos rfl, wr_add, t_mv, jz1, w4, if_pos ⟨q, q2⟩]
        · intro j m hjm
          show mv (σ2.1 463) j m = _
          rw [v2, mu_def, if_neg hjm]
      · rw [if_pos (by rw [j_lt, t_mv]; omega)]
        refine ⟨(t, nI (i + 1)), ⟨rfl, ho, ext _ ?_ (fun _ _ _ => rfl)⟩, by rw [j_s]⟩
        rw [rd 4, w4, if_neg (fun z => q2 z.2)]
    · rw [if_neg (by
        intro z
        simp only [Bool.and_eq_true, decide_eq_true_eq] at z
        exact q z)]
      refine ⟨(t, nI (i + 1)), ⟨rfl, ho, ext _ ?_ (fun _ _ _ => rfl)⟩, by rw [j_s]⟩
      rw [rd 4, w4, if_neg (fun z => q z.1)]
  · rintro f ⟨t, l⟩ ⟨rfl, ho, hv⟩
    simp only at ho hv
    have hv : mv (t.1 463) = W := by
      rw [hv]
      funext j m
      by_cases q : m < 24
      · rw [if_pos q]
      · rw [if_neg q, hW]
        dsimp only
        rw [if_neg (fun z => q z.2.1)]
    show ∃ σ', fX9_enters_3 462 (f + 1) t (oI (n : Int)) s k (nI 24) = some σ' ∧ _
    obtain ⟨σ1, a1, o1, v1⟩ := m_l1 (σ := t) en hn s
    obtain ⟨σ2, a2, o2, v2⟩ := m_l4 (σ := σ1) en hn k
    rw [fX9_enters_3, if_pos (n_le 24 (m := 24) rfl (by decide)), a1, j_b, a2, j_b]
    exact ⟨σ2, rfl, (ho.tr o1).tr o2, by rw [v2, v1, hv]⟩
end MB
/-- all but trees, tabs, windows, floats and focus stays -/
def FS (U U' : VW) : Prop := ∀ j, (j = 6 ∨ j = 7 ∨ j = 8 ∨ 22 ≤ j) → U' j = U j
theorem FR.fs {U U' : VW} (h : FR U U') : FS U U' := fun j hj => h j (by omega)
theorem FS.tr {U U' U'' : VW} (h : FS U U') (h' : FS U' U'') : FS U U'' := fun j hj => (h' j hj).trans (h j hj)
section MS
variable {σ : Sg} {V : VW}
/-- a pane settles in a group -/
theorem m_settles {X : Nat → Bool} (h : VM (mv (σ.1 463)) V X) {a b : Int32} {p g : Nat} (ha : a.toInt = p) (hp : p < 12) (hb : b.toInt = g) (hg : g < 23) (hg2 : V 8 g = 2) (hu : V 13 p = -1) (hh : V 15 p = 0) {o : OD} (ho : OE (mo (mv (σ.1 463)) 20) o) (ok : OkO o) (hl : (o_lv o p).1 < 12) : ∃ σ', fX9_settles σ 462 a b = some σ' ∧ Out σ σ' 463 463 ∧ VM (mv (σ'.1 463)) (v_join V p g) (fun k => X k && k != g) ∧ OE (mo (mv (σ'.1 463)) 20) (o_pf o p) ∧ FS (mv (σ.1 463)) (mv (σ'.1 463)) := by
  obtain ⟨r13, r14, r12, rj⟩ := join_rows (V := V) hp hg
  unfold fX9_settles
  rw [m_tabMany, j_b, hb, h.tc]
  obtain ⟨σ2, a2, o2, v2⟩ := m_p4 (σ := σ) ha hp (oI (v_tc V g))
  obtain ⟨σ3, a3, o3, v3⟩ := m_p3 (σ := σ2) ha hp b
  obtain ⟨σ4, a4, o4, v4⟩ := m_p5 (σ := σ3) ha hp 0
  obtain ⟨σ5, a5, o5, v5⟩ := m_l5 (σ := σ4) hb (by omega : g < 24) a
  rw [a2, j_b, a3, j_b, a4, j_b, a5, j_b]
  rw [v4, v3, v2, t_tc, hb, jz0, ha] at v5
  have m20 : mo (mv (σ5.1 463)) 20 = mo (mv (σ.1 463)) 20 := by rw [v5]; rfl
  have c1 := ho.1
  obtain ⟨k0, k1⟩ := ok
  obtain ⟨σ6, a6, o6, v6, r6⟩ := m_comesFirst (σ := σ5) (j := 20) (c := 251) (cap := 12) (Or.inr ⟨rfl, rfl, rfl⟩) (by rw [m20, c1]; omega) a (by rw [m20, ha, (ho.lv _).1]; omega)
  have a6 : fX9_comesFirst σ5 462 251 a = some σ6 := a6
  rw [a6, j_b]
  rw [m20, ha] at v6
  refine ⟨σ6, rfl, (((o2.tr o3).tr o4).tr o5).tr o6, ?_, v6.tr (ho.pf _), fun j hj => ?_⟩
  · have w : ∀ j, j ≠ 5 → j ≠ 9 → j ≠ 10 → j ≠ 11 → j < 20 → mv (σ6.1 463) j = mv (σ.1 463) j := fun j h5 h9 h10 h11 h20 => by
      rw [r6 j (by omega) (by omega), v5, mu_ne h5, mu_ne h11, mu_ne h9, mu_ne h10]
    have w5 : ∀ i, mv (σ6.1 463) 5 i = if i = g then (p : Int) else mv (σ.1 463) 5 i := fun i => by
      rw [r6 5 (by decide) (by decide), v5, mu_at, mu_ne (by decide), mu_ne (by decide), mu_ne (by decide)]
    have w9 : ∀ i, mv (σ6.1 463) 9 i = if i = p then (g : Int) else mv (σ.1 463) 9 i := fun i => by
      rw [r6 9 (by decide) (by decide), v5, mu_ne (by decide), mu_ne (by decide), mu_at, mu_ne (by decide)]
    have w10 : ∀ i, mv (σ6.1 463) 10 i = if i = p then (v_tc V g : Int) else mv (σ.1 463) 10 i := fun i => by
      rw [r6 10 (by decide) (by decide), v5, mu_ne (by decide), mu_ne (by decide), mu_ne (by decide), mu_at]
    have w11 : ∀ i, mv (σ6.1 463) 11 i = if i = p then 0 else mv (σ.1 463) 11 i := fun i => by
      rw [r6 11 (by decide) (by decide), v5, mu_ne (by decide), mu_at, mu_ne (by decide), mu_ne (by decide)]
    have k8 := rj 8 (by decide) (by decide) (by decide)
    have k9 := rj 9 (by decide) (by decide) (by decide)
    refine ⟨fun n hn => ?_, ?_, fun n hn q => ?_, fun n hn q => ?_, fun n hn q x => ?_, fun i hi => ?_, fun v hv => ?_, ?_, ?_, fun n hn q => by
      rw [k8] at q
      rw [w5 n, if_neg (fun y => by rw [y] at q; omega)]
      exact h.a5 hn q⟩
    · rw [k8, w 0 (by decide) (by decide) (by decide) (by decide) (by decide), w 2 (by decide) (by decide) (by decide) (by decide) (by decide)]
      exact h.1 n hn
    · rw [w 0 (by decide) (by decide) (by decide) (by decide) (by decide)]
      exact h.l
    · rw [k8] at q
      rw [w 1 (by decide) (by decide) (by decide) (by decide) (by decide), k9]
      exact h.pa hn q
    · rw [k9] at q
      rw [w 3 (by decide) (by decide) (by decide) (by decide) (by decide), w 4 (by decide) (by decide) (by decide) (by decide) (by decide), rj 10 (by decide) (by decide) (by decide), rj 11 (by decide) (by decide) (by decide)]
      exact ⟨h.we hn q, h.pl hn q⟩
    · rw [k8] at q
      rw [w5 n, r12 n]
      by_cases z : n = g
      · rw [if_pos z, if_pos z]
      · rw [if_neg z, if_neg z]
        exact h.ac hn q (by simpa [z] using x)
    · rw [w9 i, w10 i, w11 i, r13 i, r14 i, rj 15 (by decide) (by decide) (by decide)]
      by_cases z : i = p
      · rw [if_pos z, if_pos z, if_pos z, if_pos z, if_pos z, z, hh]
        exact ⟨rfl, fun _ => rfl, rfl⟩
      · rw [if_neg z, if_neg z, if_neg z, if_neg z, if_neg z]
        exact ⟨h.gr hi, h.sp hi, h.hi hi⟩
    · rw [w 12 (by decide) (by decide) (by decide) (by decide) (by decide), w 13 (by decide) (by decide) (by decide) (by decide) (by decide), w 14 (by decide) (by decide) (by decide) (by decide) (by decide), w 15 (by decide) (by decide) (by decide) (by decide) (by decide), w 16 (by decide) (by decide) (by decide) (by decide) (by decide), w 17 (by decide) (by decide) (by decide) (by decide) (by decide), rj 5 (by decide) (by decide) (by decide), rj 1 (by decide) (by decide) (by decide), rj 2 (by decide) (by decide) (by decide), rj 3 (by decide) (by decide) (by decide), rj 4 (by decide) (by decide) (by decide)]
      exact ⟨h.ex hv, h.ro hv, h.geo hv⟩
    · rw [w 18 (by decide) (by decide) (by decide) (by decide) (by decide), rj 6 (by decide) (by decide) (by decide)]
      exact h.fc
    · rw [w 19 (by decide) (by decide) (by decide) (by decide) (by decide), rj 6 (by decide) (by decide) (by decide), rj 7 (by decide) (by decide) (by decide)]
      exact fun k hk => h.fi hk
  · rw [r6 j (by omega) (by omega), v5, mu_ne (by omega), mu_ne (by omega), mu_ne (by omega), mu_ne (by omega)]
end MS
