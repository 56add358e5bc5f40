/-! THE RELATION: the class's plan, arranged (2) -/
section A2
variable {σ : Sg} {d : Nat → Nat} {wn : Nat → Int} {X : Nat → Bool}
theorem s_add {k : Nat} (h : σ.1 432 5 = nI k) (hk : k < 23) (a w : Int32) : fX3_add σ 432 a w = some (su (su (su σ 433 k a) 434 k w) 432 5 (nI (k + 1))) := by
  have e1 : ∀ v, (su σ 433 k v).1 432 5 = nI k := fun v => by rw [su_at, if_neg (by omega), h]
  have e2 : ∀ v u, (su (su σ 433 k v) 434 k u).1 432 5 = nI k := fun v u => by rw [su_at, if_neg (by omega), e1]
  unfold fX3_add
  rw [h, if_neg (by rw [j_le, j_nI (by omega), j_nI (by omega)]; omega), show (432 + 1 : Nat) = 433 from rfl, s_putn (by decide) hk, j_b, e1, show (432 + 2 : Nat) = 434 from rfl, s_putn (by decide) hk, j_b, e2, j_s, j_nm]
theorem s_arr30 {n : Nat} (hn : n < 23) (t : Tree (pv σ 6) d wn X) {pl : List Nat} (mem : ∀ c ∈ pl, c < 23) (len : pl.length ≤ 23) (h31 : rl (σ.1 431) pl) (h5 : σ.1 432 5 = 0) (l3 : Int32) (D : Nat) (hD : (l3 = 0 ∧ D = 0) ∨ (¬ l3 = 0 ∧ D = 1)) : ∃ σ', fX2_arrange_30 422 6 FU σ (nI n) l3 (nI pl.length) 0 = (fX2_extentOf σ' 422 (nI n) l3).bind (fun r4 => nm (if 0 < (r4 - (nI pl.length - 1)) then (r4 - (nI pl.length - 1)) else 0) fun v5 => (fX3_shareOut σ' (422 + 10) v5).bind fun σ6 => fX2_arrange_105 422 6 FU σ6 (nI n) l3 (nI pl.length) 0 0) ∧ Out σ σ' 432 434 ∧ SI0 σ' pl (qv σ (2 + D)) (pv σ 6 11) := by
  refine lp (F := fun m (s : Sg × Int32) => fX2_arrange_30 422 6 m s.1 (nI n) l3 (nI pl.length) s.2) (Q := fun o => ∃ σ', o = (fX2_extentOf σ' 422 (nI n) l3).bind (fun r4 => nm (if 0 < (r4 - (nI pl.length - 1)) then (r4 - (nI pl.length - 1)) else 0) fun v5 => (fX3_shareOut σ' (422 + 10) v5).bind fun σ6 => fX2_arrange_105 422 6 FU σ6 (nI n) l3 (nI pl.length) 0 0) ∧ Out σ σ' 432 434 ∧ SI0 σ' pl (qv σ (2 + D)) (pv σ 6 11)) (fun i s => s.2 = nI i ∧ Out σ s.1 432 434 ∧ s.1.1 432 5 = nI i ∧ ∀ k c, k < i → pl[k]? = some c → (s.1.1 433 k).toInt = qv σ (2 + D) c ∧ (s.1.1 434 k).toInt = pv σ 6 11 c) pl.length ?_ ?_ pl.length 0 FU (σ, 0) (by omega) (by show _ < 6000; omega) ⟨rfl, Out.rf, h5, fun k c hk => absurd hk (by omega)⟩
  · rintro m i ⟨s, l⟩ hi ⟨rfl, ho, h5', hv⟩
    simp only at ho h5' hv
    have gi := List.getElem?_eq_getElem hi
    generalize pl[i] = c at gi
    have hc := mem c (List.mem_iff_getElem?.mpr ⟨i, gi⟩)
    have i23 : i < 23 := by omega
    have s31 : s.1 431 i = nI c := by rw [ho.2 431 (by omega)]; exact h31 i c gi
    have mo : fX2_minimumOf s 422 (nI c) l3 = some (σ.1 (422 + (2 + D)) c) := by
      unfold fX2_minimumOf
      rcases hD with ⟨z, rfl⟩ | ⟨z, rfl⟩
      · rw [if_pos z]
        unfold fX2_minimumOf_15
        rw [show (422 + 2 : Nat) = 424 from rfl, s_atn (by decide) hc, j_b, ho.2 424 (by omega)]
      · rw [if_neg z]
        unfold fX2_minimumOf_15
        rw [show (422 + 3 : Nat) = 425 from rfl, s_atn (by decide) hc, j_b, ho.2 425 (by omega)]
    have D1 : D ≤ 1 := by omega
    have qm : qv σ (2 + D) c = (σ.1 (422 + (2 + D)) c).toInt := qv_at (by omega) (by omega) hc
    have pe : pv s 6 = pv σ 6 := pv_oc ho (by decide)
    have ew : (nI c).toInt = c := j_nI (by omega)
    have nle : ¬ nI pl.length ≤ nI i := by rw [j_le, j_nI (by omega), j_nI (by omega)]; omega
    show ∃ s' : Sg × Int32, _ ∧ fX2_arrange_30 422 6 (m + 1) s (nI n) l3 (nI pl.length) (nI i) = _
    rw [fX2_arrange_30, if_neg nle, show (422 + 9 : Nat) = 431 from rfl, s_atn (by decide) i23, j_b, s31, mo, j_b, j_b, s_weightOf, j_b, pe, ew, ga_in hc, show (422 + 10 : Nat) = 432 from rfl, s_add h5' i23, j_b, j_s]
    refine ⟨(_, nI (i + 1)), ⟨rfl, ((ho.tr (su_out.mo (by omega) (by omega))).tr (su_out.mo (by omega) (by omega))).tr (su_out.mo (by omega) (by omega)), ?_, fun k z hk gz => ?_⟩, rfl⟩
    · show (su (su (su s 433 i _) 434 i _) 432 5 (nI (i + 1))).1 432 5 = _
      rw [su_at, if_pos ⟨rfl, rfl⟩]
    · show ((su (su (su s 433 i _) 434 i _) 432 5 (nI (i + 1))).1 433 k).toInt = _ ∧ ((su (su (su s 433 i _) 434 i _) 432 5 (nI (i + 1))).1 434 k).toInt = _
      by_cases q : k = i
      · subst q
        have : z = c := Option.some.inj (gz.symm.trans gi)
        subst this
        rw [su_at, if_neg (by omega), su_at, if_neg (by omega), su_at, if_pos ⟨rfl, rfl⟩, su_at, if_neg (by omega), su_at, if_pos ⟨rfl, rfl⟩, qm]
        refine ⟨rfl, j_oI (pv_rg σ 6 11 z).1 (pv_rg σ 6 11 z).2⟩
      · rw [su_at, if_neg (by omega), su_at, if_neg (by omega), su_at, if_neg (by omega), su_at, if_neg (by omega), su_at, if_neg (by omega), su_at, if_neg (by omega)]
        exact hv k z (by omega) gz
  · rintro m ⟨s, l⟩ ⟨rfl, ho, h5', hv⟩
    simp only at ho h5' hv
    show ∃ σ', fX2_arrange_30 422 6 (m + 1) s (nI n) l3 (nI pl.length) (nI pl.length) = _ ∧ _
    rw [fX2_arrange_30, if_pos (by rw [j_le]; exact Int.le_refl _)]
    exact ⟨s, rfl, ho, h5', fun k c hk => (hv k c (List.getElem?_eq_some_iff.mp hk).1 hk).1, fun k c hk => (hv k c (List.getElem?_eq_some_iff.mp hk).1 hk).2⟩
theorem SI0.lm {pl : List Nat} {m w : Nat → Int} (h : SI0 σ pl m w) : SI0 σ pl (lm pl m) (lm pl w) := by
  refine ⟨h.1, fun k c g => ?_, fun k c g => ?_⟩
  · rw [h.2.1 k c g]
    exact (if_pos (List.mem_iff_getElem?.mpr ⟨k, g⟩)).symm
  · rw [h.2.2 k c g]
    exact (if_pos (List.mem_iff_getElem?.mpr ⟨k, g⟩)).symm
theorem s_ext {n : Nat} (hn : n < 23) (l3 : Int32) (D : Nat) (hD : (l3 = 0 ∧ D = 0) ∨ (¬ l3 = 0 ∧ D = 1)) : fX2_extentOf σ 422 (nI n) l3 = some (σ.1 (422 + (6 + D)) n) := by
  unfold fX2_extentOf
  rcases hD with ⟨z, rfl⟩ | ⟨z, rfl⟩
  · rw [if_pos z]
    unfold fX2_extentOf_15
    rw [show (422 + 6 : Nat) = 428 from rfl, s_atn (by decide) hn, j_b]
  · rw [if_neg z]
    unfold fX2_extentOf_15
    rw [show (422 + 7 : Nat) = 429 from rfl, s_atn (by decide) hn, j_b]
/-- arrange -/
theorem s_arrange (t : Tree (pv σ 6) d wn X) {n : Nat} (hn : n < 23) (k : pv σ 6 8 n ≤ 1) (hq : qv σ 1 n = 1) (hne : pls (pv σ 6) (qv σ) n ≠ []) (hb : ∀ c ∈ pls (pv σ 6) (qv σ) n, 0 ≤ qv σ (2 + dr (pv σ 6) n) c ∧ qv σ (2 + dr (pv σ 6) n) c ≤ 965) (he : 0 ≤ qv σ (6 + dr (pv σ 6) n) n ∧ qv σ (6 + dr (pv σ 6) n) n ≤ 400) : ∃ σ', fX2_arrange σ 422 6 (nI n) = some σ' ∧ Ff σ σ' (pls (pv σ 6) (qv σ) n) ∧ LA (pv σ 6) (qv σ') n := by
  have en : (nI n).toInt = n := j_nI (by omega)
  have gk : ga (pv σ 6 8) 23 (nI n).toInt = pv σ 6 8 n := by rw [en]; exact ga_in hn
  have t8 := t_ga (σ := σ) (b := 6) (j := 8) (n := 23) (p := (n : Int))
  rw [ga_in hn] at t8
  obtain ⟨d1, d2⟩ := t.drs hn k
  have kr := t.ki hn
  have n2 : ¬ oI (pv σ 6 8 n) = 2 := fun z => by
    rw [j_eq, t8] at z
    have : (2 : Int32).toInt = 2 := rfl
    omega
  have hD : (oI (pv σ 6 8 n) = 0 ∧ dr (pv σ 6) n = 0) ∨ (¬ oI (pv σ 6 8 n) = 0 ∧ dr (pv σ 6) n = 1) := by
    have z : dr (pv σ 6) n = 0 ∨ dr (pv σ 6) n = 1 := by omega
    rcases z with z | z
    · exact Or.inl ⟨j_eq.mpr (by rw [t8, jz0]; omega), z⟩
    · exact Or.inr ⟨fun y => by rw [j_eq, t8, jz0] at y; omega, z⟩
  obtain ⟨σ1, a1, o1, r1⟩ := s_listParts t hn k
  have mem : ∀ c ∈ pls (pv σ 6) (qv σ) n, c < 23 ∧ c ≠ n := fun c hc => pls_kid t hn k (List.mem_filter.mp hc).1
  have memt := fun c => t.pls_mem (P := qv σ) hn k (c := c)
  have nd := t.pls_nd (P := qv σ) hn k
  have len := t.pls_len (P := qv σ) hn k
  generalize hpl : pls (pv σ 6) (qv σ) n = pl at *
  have f1 : Ff σ (su σ1 432 5 0) pl := (Ff.ou (o1.mo (by omega) (by omega))).tr (Ff.ou (su_out.mo (by omega) (by omega)))
  have pe := f1.pv
  obtain ⟨σ2, a2, o2, s2⟩ := s_arr30 (σ := su σ1 432 5 0) (d := d) (wn := wn) (X := X) hn (by rw [pe]; exact t) (fun c hc => (mem c hc).1) len (by rw [su_ne (by omega)]; exact r1) (by rw [su_at, if_pos ⟨rfl, rfl⟩]) (oI (pv σ 6 8 n)) (dr (pv σ 6) n) hD
  have q1 : ∀ j i, j ≤ 3 → qv (su σ1 432 5 0) j i = qv σ j i := fun j i hj => qv_eq (by rw [f1.2.1 _ (by omega)])
  have f2 : Ff σ σ2 pl := f1.tr (Ff.ou (o2.mo (by omega) (by omega)))
  have s2 := s2.lm
  have ew : lm pl (qv (su σ1 432 5 0) (2 + dr (pv σ 6) n)) = lm pl (qv σ (2 + dr (pv σ 6) n)) := lm_cg (fun c _ => q1 _ c (by omega))
  rw [ew, pe] at s2
  have nn : ¬ n ∈ pl := fun z => (mem n z).2 rfl
  have lmv : ∀ f c, c ∈ pl → lm pl f c = f c := fun f c hc => if_pos hc
  have xb : XB pl (lm pl (qv σ (2 + dr (pv σ 6) n))) (lm pl (pv σ 6 11)) := by
    refine ⟨⟨nd, fun c hc => ?_, fun c hc => ?_⟩, len, fun c hc => ?_, fun c hc => ?_⟩
    · rw [lmv _ c hc]; exact (hb c hc).1
    · rw [lmv _ c hc]; exact (t.we (mem c hc).1 (by have := ((memt c).mp hc).2.1; omega)).1
    · rw [lmv _ c hc]; exact (hb c hc).2
    · rw [lmv _ c hc]; exact (t.we (mem c hc).1 (by have := ((memt c).mp hc).2.1; omega)).2
  have ex : σ2.1 (422 + (6 + dr (pv σ 6) n)) n = σ.1 (422 + (6 + dr (pv σ 6) n)) n := f2.2.2 _ n (by omega) (by omega) nn
  have qe : qv σ (6 + dr (pv σ 6) n) n = (σ.1 (422 + (6 + dr (pv σ 6) n)) n).toInt := qv_at (by omega) (by omega) hn
  have lpos : 1 ≤ pl.length := by
    cases hp : pl with
    | nil => exact absurd hp hne
    | cons y u => simp
  have lm1 : (nI pl.length - 1).toInt = pl.length - 1 := by
    rw [j_sub (by rw [j_nI (by omega), jz1]; omega) (by rw [j_nI (by omega), jz1]; omega), j_nI (by omega), jz1]
  have rm : (σ.1 (422 + (6 + dr (pv σ 6) n)) n - (nI pl.length - 1)).toInt = qv σ (6 + dr (pv σ 6) n) n - (pl.length - 1) := by
    rw [j_sub (by rw [lm1, ← qe]; omega) (by rw [lm1, ← qe]; omega), lm1, ← qe]
  have eroom : (if 0 < (σ.1 (422 + (6 + dr (pv σ 6) n)) n - (nI pl.length - 1)) then (σ.1 (422 + (6 + dr (pv σ 6) n)) n - (nI pl.length - 1)) else 0) = oI (lrm (pv σ 6) (qv σ) n) := by
    unfold lrm
    rw [hpl]
    by_cases z : 0 < qv σ (6 + dr (pv σ 6) n) n - ((pl.length : Int) - 1)
    · rw [if_pos z, if_pos (by rw [j_lt, jz0, rm]; exact z), ← rm, j_oIt]
    · rw [if_neg z, if_neg (fun y => z (by rw [j_lt, jz0, rm] at y; exact y))]
      rfl
  have hroom : 0 ≤ lrm (pv σ 6) (qv σ) n ∧ lrm (pv σ 6) (qv σ) n ≤ 400 := by
    unfold lrm
    rw [hpl]
    split <;> omega
  obtain ⟨σ3, a3, o3, v3⟩ := s_shareOut hne s2 xb hroom
  have f3 : Ff σ σ3 pl := f2.tr (Ff.ou (o3.mo (by omega) (by omega)))
  have r31 : rl (σ3.1 431) pl := by
    rw [o3.2 431 (by omega), o2.2 431 (by omega), su_ne (by omega)]
    exact r1
  obtain ⟨σ4, a4, f4, v4⟩ := s_arr105 (σ := σ3) hn nd mem len r31 v3 (decide (dr (pv σ 6) n = 0)) (oI (pv σ 6 8 n)) (by
    rcases hD with ⟨y, z⟩ | ⟨y, z⟩
    · exact ⟨fun _ => decide_eq_true z, fun _ => y⟩
    · exact ⟨fun u => absurd u y, fun u => by have := of_decide_eq_true u; omega⟩)
  have F : Ff σ σ4 pl := f3.tr f4
  refine ⟨σ4, ?_, F, ?_⟩
  · unfold fX2_arrange
    rw [s_kindOf, j_b, gk, if_neg n2, a1, j_b]
    unfold fX3_begin
    rw [j_nm, j_b, show (422 + 10 : Nat) = 432 from rfl, a2, s_ext hn _ _ hD, j_b, ex, j_nm, eroom, show (422 + 10 : Nat) = 432 from rfl, a3, j_b]
    exact a4
  · have ep : pls (pv σ 6) (qv σ4) n = pl := by
      rw [← hpl]
      exact pls_cg (fun c hc => qv_eq (by rw [F.2.1 423 (by omega)]))
    have Q3 : ∀ j i, j ≤ 3 → qv σ4 j i = qv σ j i := fun j i hj => qv_eq (by rw [F.2.1 _ (by omega)])
    have Qn : ∀ j, j ≤ 7 → qv σ4 j n = qv σ j n := fun j hj => qv_eq (by
      by_cases q : j ≤ 3
      · rw [F.2.1 _ (by omega)]
      · exact F.2.2 _ n (by omega) (by omega) nn)
    have el : lsh (pv σ 6) (qv σ4) n = share pl (lrm (pv σ 6) (qv σ) n) (lm pl (qv σ (2 + dr (pv σ 6) n))) (lm pl (pv σ 6 11)) := by
      unfold lsh
      rw [ep, lm_cg (f := qv σ4 (2 + dr (pv σ 6) n)) (g := qv σ (2 + dr (pv σ 6) n)) (fun c _ => Q3 _ c (by omega))]
      congr 1
      unfold lrm
      rw [ep, hpl, Qn _ (by omega)]
    intro i c gi
    rw [ep] at gi
    rw [el, ep]
    have hc : c ∈ pl := List.mem_iff_getElem?.mpr ⟨i, gi⟩
    have c23 := (mem c hc).1
    obtain ⟨w4, w5, w6, w7⟩ := v4 i c gi
    have n3 : ∀ j, 4 ≤ j → j ≤ 7 → σ3.1 (422 + j) n = oI (qv σ j n) := fun j h4 h7 => by
      rw [f3.2.2 _ n (by omega) (by omega) nn, qv_at (by omega) h7 hn, j_oIt]
    have w4 : σ4.1 (422 + 4) c = _ := w4
    have w5 : σ4.1 (422 + 5) c = _ := w5
    have w6 : σ4.1 (422 + 6) c = _ := w6
    have w7 : σ4.1 (422 + 7) c = _ := w7
    have shr := share_rg xb.1 hroom.1 (show pl.length ≤ 24 by omega) hc
    have eqs : ∀ x, (oI (share pl (lrm (pv σ 6) (qv σ) n) (lm pl (qv σ (2 + dr (pv σ 6) n))) (lm pl (pv σ 6 11)) c)).toInt = x ↔ share pl (lrm (pv σ 6) (qv σ) n) (lm pl (qv σ (2 + dr (pv σ 6) n))) (lm pl (pv σ 6 11)) c = x := fun x => by
      rw [j_oI (by omega) (by omega)]
    have qrg : ∀ j, (oI (qv σ j n)).toInt = qv σ j n := fun j => by
      unfold qv
      split
      · rw [j_oIt]
      · rfl
    have z0 : ∀ a : Int32, a + 0 = a := fun a => by simp
    have z : dr (pv σ 6) n = 0 ∨ dr (pv σ 6) n = 1 := by omega
    rcases z with z | z
    · rw [z] at w4 w5 w6 w7 eqs ⊢
      simp only [Nat.add_zero, Nat.sub_zero, decide_true, if_true] at w4 w5 w6 w7 eqs ⊢
      rw [qv_at (by decide) (by decide) c23, qv_at (by decide) (by decide) c23, qv_at (by decide) (by decide) c23, qv_at (by decide) (by decide) c23, w4, w5, w6, w7, show (426 : Nat) = 422 + 4 from rfl, n3 4 (by decide) (by decide), show (427 : Nat) = 422 + 5 from rfl, n3 5 (by decide) (by decide), show (429 : Nat) = 422 + 7 from rfl, n3 7 (by decide) (by decide), z0, j_oa, qrg, qrg, Qn 4 (by decide), Qn 5 (by decide), Qn 7 (by decide)]
      exact ⟨(eqs _).mpr rfl, rfl, rfl, rfl⟩
    · rw [z] at w4 w5 w6 w7 eqs ⊢
      simp only [Nat.reduceAdd, Nat.reduceSub, show decide ((1 : Nat) = 0) = false from rfl, Bool.false_eq_true, if_false] at w4 w5 w6 w7 eqs ⊢
      rw [qv_at (by decide) (by decide) c23, qv_at (by decide) (by decide) c23, qv_at (by decide) (by decide) c23, qv_at (by decide) (by decide) c23]
      simp only [Nat.reduceAdd]
      rw [w4, w5, w6, w7, show (426 : Nat) = 422 + 4 from rfl, n3 4 (by decide) (by decide), show (427 : Nat) = 422 + 5 from rfl, n3 5 (by decide) (by decide), show (428 : Nat) = 422 + 6 from rfl, n3 6 (by decide) (by decide), z0, j_oa, qrg, qrg, Qn 4 (by decide), Qn 5 (by decide), Qn 6 (by decide)]
      exact ⟨(eqs _).mpr rfl, rfl, rfl, rfl⟩
end A2
