/-! THE RELATION: the reference's orders and new nodes -/
/-- alike below the count -/
def OE (o o' : OD) : Prop := o.1 = o'.1 ∧ ∀ k : Nat, (k : Int) < o.1 → o.2 k = o'.2 k
theorem OE.rf {o : OD} : OE o o := ⟨rfl, fun _ _ => rfl⟩
theorem OE.tr {o o' o'' : OD} (h : OE o o') (h' : OE o' o'') : OE o o'' := ⟨h.1.trans h'.1, fun k hk => (h.2 k hk).trans (h'.2 k (by rw [← h.1]; exact hk))⟩
theorem OE.sy {o o' : OD} (h : OE o o') : OE o' o := ⟨h.1.symm, fun k hk => (h.2 k (by rw [h.1]; exact hk)).symm⟩
theorem OE.ix {o o' : OD} (h : OE o o') (x : Int) : o_ix o x = o_ix o' x := by
  unfold o_ix
  rw [h.1]
  exact fnd_congr (fun i hi => by rw [h.2 i (by have := h.1; omega)])
theorem OE.lv {o o' : OD} (h : OE o o') (x : Int) : OE (o_lv o x) (o_lv o' x) := by
  have e := h.ix x
  have e1 := h.1
  unfold o_lv
  rw [← e]
  by_cases q : o_ix o x = -1
  · rw [if_pos q, if_pos q]
    exact h
  · rw [if_neg q, if_neg q]
    refine ⟨by show o.1 - 1 = o'.1 - 1; omega, fun k hk => ?_⟩
    have hk : (k : Int) < o.1 - 1 := hk
    show (if o_ix o x ≤ k ∧ (k : Int) < o.1 - 1 then o.2 (k + 1) else o.2 k) = if o_ix o x ≤ k ∧ (k : Int) < o'.1 - 1 then o'.2 (k + 1) else o'.2 k
    rw [← e1, h.2 k (by omega), h.2 (k + 1) (by omega)]
theorem OE.pl {o o' : OD} (h : OE o o') (x : Int) : OE (o_pl o x) (o_pl o' x) := by
  have hl := h.lv x
  have e1 := hl.1
  unfold o_pl
  rw [← e1]
  by_cases q : 12 ≤ (o_lv o x).1
  · rw [if_pos q, if_pos q]
    exact hl
  · rw [if_neg q, if_neg q]
    refine ⟨rfl, fun k hk => ?_⟩
    have hk : (k : Int) < (o_lv o x).1 + 1 := hk
    show (if (k : Int) = (o_lv o x).1 then x else (o_lv o x).2 k) = if (k : Int) = (o_lv o x).1 then x else (o_lv o' x).2 k
    by_cases z : (k : Int) = (o_lv o x).1
    · rw [if_pos z, if_pos z]
    · rw [if_neg z, if_neg z, hl.2 k (by omega)]
theorem OE.pf {o o' : OD} (h : OE o o') (x : Int) : OE (o_pf o x) (o_pf o' x) := by
  have hl := h.pl x
  have e1 := hl.1
  refine ⟨e1, fun k hk => ?_⟩
  have hk : (k : Int) < (o_pl o x).1 := hk
  show (if k = 0 then x else if (k : Int) < (o_pl o x).1 then (o_pl o x).2 (k - 1) else (o_pl o x).2 k) = if k = 0 then x else if (k : Int) < (o_pl o' x).1 then (o_pl o' x).2 (k - 1) else (o_pl o' x).2 k
  rw [← e1, hl.2 k hk, hl.2 (k - 1) (by omega)]
theorem OE.it {o o' : OD} (h : OE o o') (p : Int) (h12 : o.1 ≤ 12) : o_it o p = o_it o' p := by
  unfold o_it
  rw [← h.1]
  by_cases q : o.1 ≤ p
  · rw [if_pos q, if_pos q]
  · rw [if_neg q, if_neg q]
    unfold ga
    by_cases z : 0 ≤ p ∧ p < (12 : Nat)
    · rw [if_pos z, if_pos z, h.2 p.toNat (by omega)]
    · rw [if_neg z, if_neg z]
/-- an order in the row, at j: the count, then the items -/
def mo (U : VW) (j : Nat) : OD := (U j 0, U (j + 1))
/-- where the orders are: at j, the cell c, so many items -/
def MJ (j c cap : Nat) : Prop := (j = 18 ∧ c = 246 ∧ cap = 4) ∨ (j = 20 ∧ c = 251 ∧ cap = 12)
theorem MJ.a0 {j c cap : Nat} (h : MJ j c cap) : ma j 0 = c ∧ mw j = 1 ∧ mw (j + 1) = cap ∧ cap ≤ 12 ∧ 1 ≤ cap ∧ c + cap < 264 := by
  rcases h with ⟨rfl, rfl, rfl⟩ | ⟨rfl, rfl, rfl⟩ <;> decide
theorem MJ.a1 {j c cap : Nat} (h : MJ j c cap) (i : Nat) : ma (j + 1) i = c + 1 + i := by
  rcases h with ⟨rfl, rfl, rfl⟩ | ⟨rfl, rfl, rfl⟩ <;> unfold ma <;> simp
/-- it changes the order at j alone, to one that tells o -/
def MOo (F : Option Sg) (σ : Sg) (j : Nat) (o : OD) : Prop := ∃ σ', F = some σ' ∧ Out σ σ' 463 463 ∧ OE (mo (mv (σ'.1 463)) j) o ∧ ∀ k, k ≠ j → k ≠ j + 1 → mv (σ'.1 463) k = mv (σ.1 463) k
section MO
variable {σ : Sg} {j c cap : Nat}
theorem mo_ct (h : MJ j c cap) : ((σ.1 463) c).toInt = (mo (mv (σ.1 463)) j).1 := by
  have := h.a0
  show _ = mv (σ.1 463) j 0
  rw [mv_in (by omega), this.1]
theorem mo_it (h : MJ j c cap) {i : Nat} (hi : i < cap) : ((σ.1 463) (c + 1 + i)).toInt = (mo (mv (σ.1 463)) j).2 i := by
  have := h.a0
  show _ = mv (σ.1 463) (j + 1) i
  rw [mv_in (by omega), h.a1]
theorem m_placeIn (h : MJ j c cap) (hc : 0 ≤ (mo (mv (σ.1 463)) j).1 ∧ (mo (mv (σ.1 463)) j).1 ≤ cap) (x : Int32) : fX9_placeIn σ 462 (nI c) x = some (oI (o_ix (mo (mv (σ.1 463)) j) x.toInt)) := by
  have H := h.a0
  have ct := mo_ct (σ := σ) h
  unfold fX9_placeIn o_ix
  refine lp_fnd (F := fun n l => fX9_placeIn_2 σ 462 n (nI c) x l) (mo (mv (σ.1 463)) j).1.toNat (by omega) ?_ ?_ FU (by show _ < 6000; omega)
  · intro n i hi
    show fX9_placeIn_2 σ 462 (n + 1) (nI c) x (nI i) = _
    rw [fX9_placeIn_2, if_pos (j_ckn (by omega) (by decide)), j_cl c (by omega), if_neg (by rw [j_le, j_nI (by omega)]; show ¬ ((σ.1 463) c).toInt ≤ _; omega), j_s c, j_a, if_pos (j_ckn (by omega) (by decide)), j_cl _ (by omega), j_s]
    have it := mo_it (σ := σ) h (i := i) (by omega)
    by_cases q : σ.1 (462 + 1) (c + 1 + i) = x
    · rw [if_pos q, if_pos (by rw [decide_eq_true_eq, ← it]; exact congrArg Int32.toInt q)]
    · rw [if_neg q, if_neg (by rw [decide_eq_true_eq, ← it, ← j_eq]; exact q)]
  · intro n
    show fX9_placeIn_2 σ 462 (n + 1) (nI c) x _ = _
    rw [fX9_placeIn_2, if_pos (j_ckn (by omega) (by decide)), j_cl c (by omega), if_pos (by rw [j_le, j_nI (by omega)]; show ((σ.1 463) c).toInt ≤ _; omega)]
theorem m_dropsFrom (h : MJ j c cap) (hc : 0 ≤ (mo (mv (σ.1 463)) j).1 ∧ (mo (mv (σ.1 463)) j).1 ≤ cap) (x : Int32) : MOo (fX9_dropsFrom σ 462 (nI c) x) σ j (o_lv (mo (mv (σ.1 463)) j) x.toInt) := by
  have H := h.a0
  have ct := mo_ct (σ := σ) h
  have hr := o_ix_rg (o := mo (mv (σ.1 463)) j) x.toInt
  unfold MOo fX9_dropsFrom
  rw [m_placeIn h hc, j_b]
  by_cases e : o_ix (mo (mv (σ.1 463)) j) x.toInt = -1
  · rw [if_pos (by rw [e]; rfl)]
    exact ⟨σ, rfl, Out.rf, by rw [o_lv, if_pos e]; exact OE.rf, fun _ _ _ => rfl⟩
  · obtain ⟨i0, hi0⟩ : ∃ i0 : Nat, o_ix (mo (mv (σ.1 463)) j) x.toInt = i0 := ⟨(o_ix (mo (mv (σ.1 463)) j) x.toInt).toNat, by omega⟩
    obtain ⟨N, hN⟩ : ∃ N : Nat, (mo (mv (σ.1 463)) j).1 = (N : Int) + 1 := ⟨((mo (mv (σ.1 463)) j).1 - 1).toNat, by omega⟩
    rw [if_neg (by rw [show (-1 : Int32) = oI (-1) from rfl, j_oe (by omega) (by omega) (by omega) (by omega)]; exact e), hi0, ← j_nIo i0 (by omega)]
    refine lp (F := fun n (s : Sg × Int32) => fX9_dropsFrom_16 462 n s.1 (nI c) s.2) (Q := fun r => ∃ σ', r = some σ' ∧ Out σ σ' 463 463 ∧ OE (mo (mv (σ'.1 463)) j) (o_lv (mo (mv (σ.1 463)) j) x.toInt) ∧ ∀ k, k ≠ j → k ≠ j + 1 → mv (σ'.1 463) k = mv (σ.1 463) k) (fun i s => s.2 = nI i ∧ i0 ≤ i ∧ Out σ s.1 463 463 ∧ (∀ k, k ≠ j + 1 → mv (s.1.1 463) k = mv (σ.1 463) k) ∧ ∀ k, k < cap → mv (s.1.1 463) (j + 1) k = if i0 ≤ k ∧ k < i then mv (σ.1 463) (j + 1) (k + 1) else mv (σ.1 463) (j + 1) k) N ?_ ?_ (N - i0) i0 FU (σ, nI i0) (by omega) (by show _ < 6000; omega) ⟨rfl, Nat.le_refl _, Out.rf, fun _ _ => rfl, fun k hk => by rw [if_neg (by omega)]⟩
    · rintro n i ⟨s, l⟩ hi ⟨rfl, hge, ho, hs, hv⟩
      simp only at ho hs hv
      have cts := mo_ct (σ := s) h
      have e0 : (mo (mv (s.1 463)) j).1 = (N : Int) + 1 := by
        rw [← hN]
        show mv (s.1 463) j 0 = mv (σ.1 463) j 0
        rw [hs j (by omega)]
      have e2 : (s.1 (462 + 1) c - 1).toInt = N := by
        have : (s.1 (462 + 1) c).toInt = (N : Int) + 1 := by rw [← e0]; exact cts
        rw [j_sub (by rw [this, jz1]; omega) (by rw [this, jz1]; omega), this, jz1]
        omega
      refine ⟨(su s 463 (c + 1 + i) (s.1 463 (c + 1 + (i + 1))), nI (i + 1)), ⟨rfl, by omega, ho.tr su_out, fun k hk => ?_, fun k hk => ?_⟩, ?_⟩
      · show mv ((su s 463 (c + 1 + i) _).1 463) k = _
        rw [← h.a1 i, mv_su (by omega), mu_ne hk, hs k hk]
      · show mv ((su s 463 (c + 1 + i) _).1 463) (j + 1) k = _
        rw [← h.a1 i, mv_su (by omega), mu_at, ← h.a1 (i + 1), ← mv_in (f := s.1 463) (by omega)]
        by_cases q : k = i
        · subst q
          rw [if_pos rfl, hv (k + 1) (by omega), if_neg (by omega), if_pos (by omega)]
        · rw [if_neg q, hv k hk]
          by_cases q2 : i0 ≤ k ∧ k < i
          · rw [if_pos q2, if_pos (by omega)]
          · rw [if_neg q2, if_neg (by omega)]
      · show fX9_dropsFrom_16 462 (n + 1) s (nI c) (nI i) = fX9_dropsFrom_16 462 n _ (nI c) (nI (i + 1))
        rw [fX9_dropsFrom_16, if_pos (j_ckn (by omega) (by decide)), if_neg (by rw [j_cl c (by omega), j_le, e2, j_nI (by omega)]; omega), show nI c + 2 = nI (c + 2) from j_a c 2, j_s c, j_a, j_a, if_pos (j_ckn (by omega) (by decide)), if_pos (j_ckn (by omega) (by decide)), j_nm, j_cl _ (by omega), j_cl _ (by omega), j_s, show c + 2 + i = c + 1 + (i + 1) by omega]
    · rintro n ⟨s, l⟩ ⟨rfl, hge, ho, hs, hv⟩
      simp only at ho hs hv
      have cts := mo_ct (σ := s) h
      have e0 : (mo (mv (s.1 463)) j).1 = (N : Int) + 1 := by
        rw [← hN]
        show mv (s.1 463) j 0 = mv (σ.1 463) j 0
        rw [hs j (by omega)]
      have e1 : (s.1 (462 + 1) c).toInt = (N : Int) + 1 := by rw [← e0]; exact cts
      have e1' : s.1 (462 + 1) c = nI (N + 1) := j_eq.mpr (by rw [e1, j_nI (by omega)]; omega)
      have e2 : (s.1 (462 + 1) c - 1).toInt = N := by
        rw [j_sub (by rw [e1, jz1]; omega) (by rw [e1, jz1]; omega), e1, jz1]
        omega
      show ∃ σ', fX9_dropsFrom_16 462 (n + 1) s (nI c) (nI N) = some σ' ∧ _
      rw [fX9_dropsFrom_16, if_pos (j_ckn (by omega) (by decide)), if_pos (by rw [j_cl c (by omega), j_le, e2, j_nI (by omega)]; omega), if_pos (j_ckn (by omega) (by decide)), if_pos (by rw [j_cl c (by omega), e1', j_a]; exact j_ckn (by omega) (by decide)), j_nm, if_pos (j_ckn (by omega) (by decide)), if_pos (j_ckn (by omega) (by decide)), j_nm, j_cl c (by omega), e1', j_a, j_cl _ (by omega)]
      have eN : c + (N + 1) = c + 1 + N := by omega
      rw [eN]
      have c1 : (su s (462 + 1) (c + 1 + N) 0).1 (462 + 1) c = nI (N + 1) := by rw [su_at, if_neg (by omega), e1']
      have cN : nI (N + 1) - 1 = nI N := j_eq.mpr (by rw [← e1', e2, j_nI (by omega)])
      rw [c1, cN]
      have a1 : mv ((su (su s (462 + 1) (c + 1 + N) 0) (462 + 1) c (nI N)).1 463) = mu (mu (mv (s.1 463)) (j + 1) N 0) j 0 N := by
        have x1 : mv ((su s (462 + 1) (c + 1 + N) 0).1 463) = mu (mv (s.1 463)) (j + 1) N 0 := by
          rw [← h.a1 N]
          exact mv_su (by omega)
        have x2 : mv ((su (su s (462 + 1) (c + 1 + N) 0) (462 + 1) c (nI N)).1 463) = mu (mv ((su s (462 + 1) (c + 1 + N) 0).1 463)) j 0 (nI N).toInt := by
          rw [← H.1]
          exact mv_su (by omega)
        rw [x2, x1, j_nI (by omega)]
      refine ⟨_, rfl, (ho.tr su_out).tr su_out, ?_, fun k k1 k2 => by rw [a1, mu_ne k1, mu_ne k2, hs k k2]⟩
      rw [o_lv, if_neg e, hi0]
      refine ⟨?_, fun k hk => ?_⟩
      · show mv _ j 0 = (mo (mv (σ.1 463)) j).1 - 1
        rw [a1, mu_at, if_pos rfl, hN]
        omega
      · have hk' : (k : Int) < N := by
          have : (k : Int) < mv ((su (su s (462 + 1) (c + 1 + N) 0) (462 + 1) c (nI N)).1 463) j 0 := hk
          rw [a1, mu_at, if_pos rfl] at this
          exact this
        show mv _ (j + 1) k = if (i0 : Int) ≤ k ∧ (k : Int) < (mo (mv (σ.1 463)) j).1 - 1 then mv (σ.1 463) (j + 1) (k + 1) else mv (σ.1 463) (j + 1) k
        rw [a1, mu_ne (by omega), mu_at, if_neg (by omega), hv k (by omega)]
        by_cases q : i0 ≤ k ∧ k < N
        · rw [if_pos q, if_pos (by omega)]
        · rw [if_neg q, if_neg (by omega)]
theorem m_comesLast (h : MJ j c cap) (hc : 0 ≤ (mo (mv (σ.1 463)) j).1 ∧ (mo (mv (σ.1 463)) j).1 ≤ cap) (x : Int32) (hl : (o_lv (mo (mv (σ.1 463)) j) x.toInt).1 < cap) : MOo (fX9_comesLast σ 462 (nI c) x) σ j (o_pl (mo (mv (σ.1 463)) j) x.toInt) := by
  have H := h.a0
  obtain ⟨σ1, a1, o1, v1, r1⟩ := m_dropsFrom h hc x
  have ok := (o_lv_ok (o := mo (mv (σ.1 463)) j) ⟨hc.1, by omega⟩ x.toInt).1
  obtain ⟨m, hm⟩ : ∃ m : Nat, (o_lv (mo (mv (σ.1 463)) j) x.toInt).1 = m := ⟨(o_lv (mo (mv (σ.1 463)) j) x.toInt).1.toNat, by unfold OkO at ok; omega⟩
  have ct := mo_ct (σ := σ1) h
  have e1 : (σ1.1 (462 + 1) c).toInt = m := by
    rw [← hm, ← v1.1]
    exact ct
  have e1' : σ1.1 (462 + 1) c = nI m := j_eq.mpr (by rw [e1, j_nI (by omega)])
  unfold MOo fX9_comesLast
  rw [a1, j_b, if_pos (j_ckn (by omega) (by decide)), if_pos (by rw [j_cl c (by omega), e1', j_s c, j_a]; exact j_ckn (by omega) (by decide)), j_nm, if_pos (j_ckn (by omega) (by decide)), if_pos (j_ckn (by omega) (by decide)), j_nm, j_cl c (by omega), e1', j_s c, j_a, j_cl _ (by omega)]
  have c1 : (su σ1 (462 + 1) (c + 1 + m) x).1 (462 + 1) c = nI m := by rw [su_at, if_neg (by omega), e1']
  rw [c1, j_s]
  have A : mv ((su (su σ1 (462 + 1) (c + 1 + m) x) (462 + 1) c (nI (m + 1))).1 463) = mu (mu (mv (σ1.1 463)) (j + 1) m x.toInt) j 0 ((m + 1 : Nat) : Int) := by
    have x1 : mv ((su σ1 (462 + 1) (c + 1 + m) x).1 463) = mu (mv (σ1.1 463)) (j + 1) m x.toInt := by
      rw [← h.a1 m]
      exact mv_su (by omega)
    have x2 : mv ((su (su σ1 (462 + 1) (c + 1 + m) x) (462 + 1) c (nI (m + 1))).1 463) = mu (mv ((su σ1 (462 + 1) (c + 1 + m) x).1 463)) j 0 (nI (m + 1)).toInt := by
      rw [← H.1]
      exact mv_su (by omega)
    rw [x2, x1, j_nI (by omega)]
  refine ⟨_, rfl, (o1.tr su_out).tr su_out, ?_, fun k k1 k2 => by rw [A, mu_ne k1, mu_ne k2, r1 k k1 k2]⟩
  rw [o_pl, if_neg (by omega)]
  refine ⟨?_, fun k hk => ?_⟩
  · show mv _ j 0 = (o_lv (mo (mv (σ.1 463)) j) x.toInt).1 + 1
    rw [A, mu_at, if_pos rfl, hm]
    omega
  · have hk' : (k : Int) < m + 1 := by
      have : (k : Int) < mv ((su (su σ1 (462 + 1) (c + 1 + m) x) (462 + 1) c (nI (m + 1))).1 463) j 0 := hk
      rw [A, mu_at, if_pos rfl] at this
      omega
    show mv _ (j + 1) k = if (k : Int) = (o_lv (mo (mv (σ.1 463)) j) x.toInt).1 then x.toInt else (o_lv (mo (mv (σ.1 463)) j) x.toInt).2 k
    rw [A, mu_ne (by omega), mu_at, hm]
    by_cases q : k = m
    · rw [if_pos q, if_pos (by omega)]
    · rw [if_neg q, if_neg (by omega), ← v1.2 k (by rw [v1.1, hm]; omega)]
      rfl
theorem m_comesFirst (h : MJ j c cap) (hc : 0 ≤ (mo (mv (σ.1 463)) j).1 ∧ (mo (mv (σ.1 463)) j).1 ≤ cap) (x : Int32) (hl : (o_lv (mo (mv (σ.1 463)) j) x.toInt).1 < cap) : MOo (fX9_comesFirst σ 462 (nI c) x) σ j (o_pf (mo (mv (σ.1 463)) j) x.toInt) := by
  have H := h.a0
  obtain ⟨σ1, a1, o1, v1, r1⟩ := m_comesLast h hc x hl
  have ok := (o_lv_ok (o := mo (mv (σ.1 463)) j) ⟨hc.1, by omega⟩ x.toInt).1
  unfold OkO at ok
  obtain ⟨m, hm⟩ : ∃ m : Nat, (o_pl (mo (mv (σ.1 463)) j) x.toInt).1 = (m : Int) + 1 ∧ m < cap := ⟨(o_lv (mo (mv (σ.1 463)) j) x.toInt).1.toNat, by
    unfold o_pl
    rw [if_neg (by omega)]
    show (o_lv (mo (mv (σ.1 463)) j) x.toInt).1 + 1 = _ ∧ _
    omega⟩
  have ct := mo_ct (σ := σ1) h
  have e1 : (σ1.1 (462 + 1) c).toInt = (m : Int) + 1 := by
    rw [← hm.1, ← v1.1]
    exact ct
  have es : σ1.1 (462 + 1) c - 1 = nI m := j_eq.mpr (by rw [j_sub (by rw [e1, jz1]; omega) (by rw [e1, jz1]; omega), e1, jz1, j_nI (by omega)]; omega)
  unfold MOo fX9_comesFirst
  rw [a1, j_b, if_pos (j_ckn (by omega) (by decide)), j_cl c (by omega), j_nm, es]
  refine lp (F := fun n (s : Sg × Int32) => fX9_comesFirst_15 462 n s.1 (nI c) x s.2) (Q := fun r => ∃ σ', r = some σ' ∧ Out σ σ' 463 463 ∧ OE (mo (mv (σ'.1 463)) j) (o_pf (mo (mv (σ.1 463)) j) x.toInt) ∧ ∀ k, k ≠ j → k ≠ j + 1 → mv (σ'.1 463) k = mv (σ.1 463) k) (fun i s => s.2.toInt = (m : Int) - i ∧ Out σ s.1 463 463 ∧ (∀ k, k ≠ j + 1 → mv (s.1.1 463) k = mv (σ1.1 463) k) ∧ ∀ k, k < cap → mv (s.1.1 463) (j + 1) k = if (m : Int) - i < k ∧ k ≤ m then mv (σ1.1 463) (j + 1) (k - 1) else mv (σ1.1 463) (j + 1) k) m ?_ ?_ m 0 FU (σ1, nI m) (Nat.zero_add _) (by show _ < 6000; omega) ⟨by rw [j_nI (by omega)]; omega, o1, fun _ _ => rfl, fun k hk => by rw [if_neg (by omega)]⟩
  · rintro n i ⟨s, l⟩ hi ⟨hl2, ho, hs, hv⟩
    simp only at hl2 ho hs hv
    obtain ⟨t, ht⟩ : ∃ t : Nat, (m : Int) - i = (t : Int) + 1 := ⟨m - i - 1, by omega⟩
    have l2 : l = nI (t + 1) := j_eq.mpr (by rw [hl2, j_nI (by omega)]; omega)
    have l3 : nI (t + 1) + (-1) = nI t := j_eq.mpr (by rw [j_add (by rw [j_nI (by omega), jm1]; omega) (by rw [j_nI (by omega), jm1]; omega), j_nI (by omega), j_nI (by omega), jm1]; omega)
    refine ⟨(su s 463 (c + 1 + (t + 1)) (s.1 463 (c + 1 + t)), nI t), ⟨by show (nI t).toInt = _; rw [j_nI (by omega)]; omega, ho.tr su_out, fun k hk => ?_, fun k hk => ?_⟩, ?_⟩
    · show mv ((su s 463 (c + 1 + (t + 1)) _).1 463) k = _
      rw [← h.a1 (t + 1), mv_su (by omega), mu_ne hk, hs k hk]
    · show mv ((su s 463 (c + 1 + (t + 1)) _).1 463) (j + 1) k = _
      rw [← h.a1 (t + 1), mv_su (by omega), mu_at, ← h.a1 t, ← mv_in (f := s.1 463) (by omega)]
      by_cases q : k = t + 1
      · subst q
        rw [if_pos rfl, hv t (by omega), if_neg (by omega), if_pos (by omega), Nat.add_sub_cancel]
      · rw [if_neg q, hv k hk]
        by_cases q2 : (m : Int) - i < k ∧ k ≤ m
        · rw [if_pos q2, if_pos (by omega)]
        · rw [if_neg q2, if_neg (by omega)]
    · show fX9_comesFirst_15 462 (n + 1) s (nI c) x l = fX9_comesFirst_15 462 n _ (nI c) x (nI t)
      rw [fX9_comesFirst_15, l2, if_neg (by rw [j_le, j_nI (by omega), jz0]; omega), j_a, j_s c, j_a, if_pos (j_ckn (by omega) (by decide)), if_pos (j_ckn (by omega) (by decide)), j_nm, j_cl _ (by omega), j_cl _ (by omega), l3, show c + (t + 1) = c + 1 + t by omega]
  · rintro n ⟨s, l⟩ ⟨hl2, ho, hs, hv⟩
    simp only at hl2 ho hs hv
    have l2 : l = nI 0 := j_eq.mpr (by rw [hl2, j_nI (by omega)]; omega)
    show ∃ σ', fX9_comesFirst_15 462 (n + 1) s (nI c) x l = some σ' ∧ _
    rw [fX9_comesFirst_15, l2, if_pos (by decide), j_s c, if_pos (j_ckn (by omega) (by decide)), j_nm, j_cl _ (by omega)]
    have A : mv ((su s (462 + 1) (c + 1) x).1 463) = mu (mv (s.1 463)) (j + 1) 0 x.toInt := by
      rw [show c + 1 = ma (j + 1) 0 by rw [h.a1]]
      exact mv_su (by omega)
    refine ⟨_, rfl, ho.tr su_out, ?_, fun k k1 k2 => by rw [A, mu_ne k2, hs k k2, r1 k k1 k2]⟩
    refine ⟨?_, fun k hk => ?_⟩
    · show mv _ j 0 = (o_pl (mo (mv (σ.1 463)) j) x.toInt).1
      rw [A, mu_ne (by omega), hs j (by omega), ← v1.1]
      rfl
    · have hk' : (k : Int) < (m : Int) + 1 := by
        have : (k : Int) < mv ((su s (462 + 1) (c + 1) x).1 463) j 0 := hk
        rw [A, mu_ne (by omega), hs j (by omega)] at this
        rw [← hm.1, ← v1.1]
        exact this
      show mv _ (j + 1) k = if k = 0 then x.toInt else if (k : Int) < (o_pl (mo (mv (σ.1 463)) j) x.toInt).1 then (o_pl (mo (mv (σ.1 463)) j) x.toInt).2 (k - 1) else (o_pl (mo (mv (σ.1 463)) j) x.toInt).2 k
      rw [A, mu_at]
      by_cases q : k = 0
      · rw [if_pos q, if_pos q]
      · rw [if_neg q, if_neg q, hv k (by omega), if_pos (by omega), if_pos (by rw [hm.1]; omega), ← v1.2 (k - 1) (by rw [v1.1, hm.1]; omega)]
        rfl
end MO
