/-! THE RELATION: the reference's plan (12): the pick -/
section MLL
variable {σ : Sg} {V : VW} {d : Nat → Nat} {wn : Nat → Int} {X Y : Nat → Bool} {m w : Nat → Int} {room : Int}
theorem xp_filter {r : Nat → Int} {op p : Nat → Bool} : ∀ (l : List Nat) (b v : Int), (∀ c ∈ l, p c = false → op c = false) → xp r op l b v = xp r op (l.filter p) b v
  | [], _, _, _ => rfl
  | c :: t, b, v, h => by
    have ih : ∀ (b v : Int), xp r op t b v = xp r op (t.filter p) b v := fun b v => xp_filter t b v (fun c hc => h c (List.mem_cons_of_mem _ hc))
    rw [List.filter_cons]
    cases q : p c
    · have := h c (List.mem_cons_self ..) q
      show (if op c && decide (v < r c) then xp r op t c (r c) else xp r op t b v) = _
      rw [this, Bool.false_and]
      simp only [Bool.false_eq_true, if_false]
      exact ih b v
    · simp only [if_true]
      show (if op c && decide (v < r c) then xp r op t c (r c) else xp r op t b v) = (if op c && decide (v < r c) then xp r op (t.filter p) c (r c) else xp r op (t.filter p) b v)
      rw [ih, ih]
theorem m_pick (h : VM (mv (σ.1 463)) V X) (t : Tree V d wn Y) {n : Nat} (hn : n < 23) (k1 : V 8 n ≤ 1) (h12 : σ.1 462 12 = nI n) {P : VW} {op op' : Nat → Bool} (ho : MO σ (pls V P n) op') {W L5 : Int64} (eW : 0 < W.toInt ∧ W.toInt ≤ 1000000000) (e5 : 0 ≤ L5.toInt ∧ L5.toInt ≤ 400) {r : Nat → Int} (hr : ∀ c ∈ pls V P n, r c = L5.toInt * V 11 c % W.toInt) (ex : ∃ c ∈ pls V P n, op' c = true) (K : Sg → Int64 → Int64 → Int64 → Option Sg) (R : Int64) : ∃ c : Nat, c ∈ pls V P n ∧ op' c = true ∧ xp r op' (pls V P n) (-1) (-1) = c ∧ fX9_evens_64 462 K FU σ L5 W R (-1) (-1) 0 = K (su (su σ 470 c (σ.1 470 c + 1)) 471 c 0) L5 W (R - 1) := by
  have memc : ∀ c, c ∈ pls V P n ↔ c < 23 ∧ V 9 c = n ∧ P 1 c = 1 := fun c => t.pls_mem hn k1
  have c23 : v_cc V n ≤ 23 := by
    unfold v_cc
    split
    · omega
    · exact cnt_le _ _
  have zW : ¬ W = 0 := by rw [k_eq, kz0]; omega
  have r0 : ∀ c ∈ pls V P n, 0 ≤ r c := fun c hc => by rw [hr c hc]; exact Int.emod_nonneg _ (by omega)
  have fl : xp r op' (pls V P n) (-1) (-1) = xp r op' (kids V n) (-1) (-1) := (xp_filter (kids V n) (-1) (-1) (fun c hc q => by
    cases oc : op' c
    · rfl
    · have := (List.mem_filter.mp (ho.1 c oc)).2
      rw [q] at this
      cases this)).symm
  rw [fl]
  have m1 : (-1 : Int64).toInt = -1 := rfl
  refine lp (F := fun f (s : Int32 × Int64 × Int32) => fX9_evens_64 462 K f σ L5 W R s.1 s.2.1 s.2.2) (Q := fun o => ∃ c : Nat, c ∈ pls V P n ∧ op' c = true ∧ xp r op' (kids V n) (-1) (-1) = c ∧ o = K (su (su σ 470 c (σ.1 470 c + 1)) 471 c 0) L5 W (R - 1)) (fun i s => s.2.2 = nI i ∧ ∃ b, xp r op' (kids V n) (-1) (-1) = xp r op' ((kids V n).drop i) b s.2.1.toInt ∧ ((b = -1 ∧ s.2.1.toInt = -1) ∨ ∃ c : Nat, c ∈ pls V P n ∧ op' c = true ∧ b = c ∧ s.1 = nI c ∧ s.2.1.toInt = r c)) (v_cc V n) ?_ ?_ (v_cc V n) 0 FU (-1, -1, 0) (by omega) (by show _ < 6000; omega) ⟨rfl, -1, rfl, Or.inl ⟨rfl, rfl⟩⟩
  · rintro f i ⟨a, v, l⟩ hi ⟨rfl, b, e, hb⟩
    simp only at e hb
    obtain ⟨c, hc23, ec, e9, gk⟩ := m_kid h t hn k1 hi
    have li : i < (kids V n).length := by rw [kids_len]; exact hi
    have dk := List.drop_eq_getElem_cons li
    have : (kids V n)[i] = c := Option.some.inj ((List.getElem?_eq_getElem li).symm.trans gk)
    rw [this] at dk
    have xpu : xp r op' ((kids V n).drop i) b v.toInt = if op' c && decide (v.toInt < r c) then xp r op' ((kids V n).drop (i + 1)) c (r c) else xp r op' ((kids V n).drop (i + 1)) b v.toInt := by
      rw [dk]
      rfl
    have nle : ¬ nI (v_cc V n) ≤ nI i := by rw [j_le, j_nI (by omega), j_nI (by omega)]; omega
    have ckc : ck (nI c) 24 := j_ckn (by omega) (by decide)
    have ecl : (nI c).toNatClampNeg = c := j_cl _ (by omega)
    have s9 : σ.1 (462 + 9) (nI c).toNatClampNeg = 0 ↔ op' c = false := by
      rw [ecl]
      exact ho.f (by omega)
    have vlo : -1 ≤ v.toInt := by
      rcases hb with ⟨-, z⟩ | ⟨c', hc', -, -, -, z⟩
      · omega
      · have := r0 c' hc'
        omega
    show ∃ s' : Int32 × Int64 × Int32, _ ∧ fX9_evens_64 462 K (f + 1) σ L5 W R a v (nI i) = _
    rw [fX9_evens_64, h12, m_many h t hn, j_b, if_neg nle, ec, j_b, if_pos ckc]
    cases oc : op' c
    · rw [if_pos (s9.mpr oc)]
      unfold fX9_evens_117
      have q : (lg_cmp (-1 : Int64) v) ≤ 0 := by rw [k_le, m1]; exact vlo
      rw [if_pos q]
      unfold fX9_evens_135
      rw [j_s]
      refine ⟨(a, v, nI (i + 1)), ⟨rfl, b, ?_, hb⟩, rfl⟩
      rw [e, xpu, oc]
      rfl
    · have n9 : ¬ σ.1 (462 + 9) (nI c).toNatClampNeg = 0 := fun y => by
        rw [s9, oc] at y
        cases y
      have cin := ho.1 c oc
      have ei : (nI c).toInt = c := j_nI (by omega)
      have wr := t.we hc23 (by omega)
      have wt : (oI (mv (σ.1 463) 3 c)).toInt64.toInt = V 11 c := by rw [k_64, t_mv, h.we hc23 (by omega)]
      have n0 : 0 ≤ L5.toInt * V 11 c := Int.mul_nonneg e5.1 (by omega)
      have n1 : L5.toInt * V 11 c ≤ 400 * 1000000 := Int.mul_le_mul e5.2 wr.2 (by omega) (by omega)
      have v6 : (L5 * (oI (mv (σ.1 463) 3 c)).toInt64).toInt = L5.toInt * V 11 c := by
        rw [k_mul (by rw [wt]; omega) (by rw [wt]; omega), wt]
      rw [if_neg n9, m_i3 ei (by omega), j_b, if_neg zW]
      generalize L5 * (oI (mv (σ.1 463) 3 c)).toInt64 = u at v6
      have qm := Int.mul_ediv_add_emod (L5.toInt * V 11 c) W.toInt
      have em0 := Int.emod_nonneg (L5.toInt * V 11 c) (show W.toInt ≠ 0 by omega)
      have em1 := Int.emod_lt_of_pos (L5.toInt * V 11 c) eW.1
      have uq : (u / W).toInt = L5.toInt * V 11 c / W.toInt := by rw [k_div (by rw [v6]; exact n0) eW.1, v6]
      have uw : (u / W * W).toInt = W.toInt * (L5.toInt * V 11 c / W.toInt) := by
        rw [k_mul (by rw [uq, Int.mul_comm]; omega) (by rw [uq, Int.mul_comm]; omega), uq, Int.mul_comm]
      have ur : (u - u / W * W).toInt = r c := by
        rw [k_sub (by rw [uw, v6]; omega) (by rw [uw, v6]; omega), uw, v6, hr c cin]
        omega
      unfold fX9_evens_117 fX9_evens_135
      by_cases q : r c ≤ v.toInt
      · have q' : (lg_cmp (u - u / W * W) v) ≤ 0 := by rw [k_le, ur]; exact q
        rw [if_pos q', j_s]
        refine ⟨(a, v, nI (i + 1)), ⟨rfl, b, ?_, hb⟩, rfl⟩
        rw [e, xpu, oc, decide_eq_false (show ¬ v.toInt < r c by omega)]
        rfl
      · have q' : ¬ (lg_cmp (u - u / W * W) v) ≤ 0 := by rw [k_le, ur]; exact q
        rw [if_neg q', j_s]
        refine ⟨(nI c, u - u / W * W, nI (i + 1)), ⟨rfl, c, ?_, Or.inr ⟨c, cin, oc, rfl, rfl, ur⟩⟩, rfl⟩
        show _ = xp r op' _ c (u - u / W * W).toInt
        rw [e, xpu, oc, decide_eq_true (show v.toInt < r c by omega), ur]
        rfl
  · rintro f ⟨a, v, l⟩ ⟨rfl, b, e, hb⟩
    simp only at e hb
    have dn : (kids V n).drop (v_cc V n) = [] := List.drop_eq_nil_of_le (by rw [kids_len]; exact Nat.le_refl _)
    rw [dn] at e
    have e : xp r op' (kids V n) (-1) (-1) = b := e
    obtain ⟨y, hy, oy⟩ := ex
    obtain ⟨z, hz, oz, ez⟩ := xp_in (r := r) (op := op') (pls V P n) (-1) (-1) ⟨y, hy, oy, by have := r0 y hy; omega⟩
    rw [fl] at ez
    rcases hb with ⟨hb, -⟩ | ⟨c, hc, oc, rfl, rfl, -⟩
    · omega
    · have c24 := ((memc c).mp hc).1
      have ckc : ck (nI c) 24 := j_ckn (by omega) (by decide)
      have ecl : (nI c).toNatClampNeg = c := j_cl _ (by omega)
      have b0 : vp_nar .boolean (0 : Int32) = 0 := by decide
      refine ⟨c, hc, oc, e, ?_⟩
      show fX9_evens_64 462 K (f + 1) σ L5 W R (nI c) v (nI (v_cc V n)) = _
      rw [fX9_evens_64, h12, m_many h t hn, j_b, if_pos (by rw [j_le]; exact Int.le_refl _), if_pos ckc, if_pos ckc, j_nm, if_pos ckc, j_nm, j_nm, ecl, b0]
end MLL
