section
/-! THE RELATION: the class's plan, arranged (2) -/
section A2
variable {σ : Sg} {d : Nat → Nat} {wn : Nat → Int} {X : Nat → Bool}
theorem s_add {k : Nat} (h : σ.1 432 5 = nI k) (hk : k < 23) (a w : Int32) : fX3_add σ 432 a w = some (su (su (su σ 433 k a) 434 k w) 432 5 (nI (k + 1))) := by
  have e1 : ∀ v, (su σ 433 k v).1 432 5 = nI k := fun v => by rw [su_at, if_neg (by omega), h]
  have e2 : ∀ v u, (su (su σ 433 k v) 434 k u).1 432 5 = nI k := fun v u => by rw [su_at, if_neg (by omega), e1]
  unfold fX3_add
  rw [h, if_neg (by rw [j_le, j_nI (by omega), j_nI (by omega)]; omega), show (432 + 1 : Nat) = 433 from rfl, s_putn (by decide) hk, j_b, e1, show (432 + 2 : Nat) = 434 from rfl, s_putn (by decide) hk, j_b, e2, j_s, j_nm]
theorem s_arr30 {n : Nat} (hn : n < 23) (t : Tree (pv σ 6) d wn X) {pl : List Nat} (mem : ∀ c ∈ pl, c < 23) (len : pl.length ≤ 23) (h31 : rl (σ.1 431) pl) (h5 : σ.1 432 5 = 0) (l3 : Int32) (D : Nat) (hD : (l3 = 0 ∧ D = 0) ∨ (¬ l3 = 0 ∧ D = 1)) : ∃ σ', fX2_arrange_30 422 6 FU σ (nI n) l3 (nI pl.length) 0 = (fX2_extentOf σ' 422 (nI n) l3).bind (fun r4 => nm (if 0 < (r4 - (nI pl.length - 1)) then (r4 - (nI pl.length - 1)) else 0) fun v5 => (fX3_shareOut σ' (422 + 10) v5).bind fun σ6 => fX2_arrange_105 422 6 FU σ6 (nI n) l3 (nI pl.length) 0 0) ∧ Out σ σ' 432 434 ∧ SI0 σ' pl (qv σ (2 + D)) (pv σ 6 11) := by
  refine lp (F := fun m (s : Sg × Int32) => fX2_arrange_30 422 6 m s.1 (nI n) l3 (nI pl.length) s.2) (Q := fun o => ∃ σ', o = (fX2_extentOf σ' 422 (nI n) l3).bind (fun r4 => nm (if 0 < (r4 - (nI pl.length - 1)) then (r4 - (nI pl.length - 1)) else 0) fun v5 => (fX3_shareOut σ' (422 + 10) v5).bind fun σ6 => fX2_arrange_105 422 6 FU σ6 (nI n) l3 (nI pl.length) 0 0) ∧ Out σ σ' 432 434 ∧ SI0 σ' pl (qv σ (2 + D)) (pv σ 6 11)) (fun i s => s.2 = nI i ∧ Out σ s.1 432 434 ∧ s.1.1 432 5 = nI i ∧ ∀ k c, k < i → pl[k]? = some c → (s.1.1 433 k).toInt = qv σ (2 + D) c ∧ (s.1.1 434 k).toInt = pv σ 6 11 c) pl.length ?_ ?_ pl.length 0 FU (σ, 0) (by omega) (by show _ < 6000; omega) ⟨rfl, Out.rf, h5, fun k c hk => absurd hk (by omega)⟩
  · rintro m i ⟨s, l⟩ hi ⟨rfl, ho, h5', hv⟩
    simp only at ho h5' hv
    have gi := List.getElem?_eq_getElem hi
    generalize pl[i] = c at gi
    have hc := mem c (List.mem_iff_getElem?.mpr ⟨i, gi⟩)
    have i23 : i < 23 := by omega
    have s31 : s.1 431 i = nI c := by rw [ho.2 431 (by omega)]; exact h31 i c gi
    have mo : fX2_minimumOf s 422 (nI c) l3 = some (σ.1 (422 + (2 + D)) c) := by
      unfold fX2_minimumOf
      rcases hD with ⟨z, rfl⟩ | ⟨z, rfl⟩
      · rw [if_pos z]
        unfold fX2_minimumOf_15
        rw [show (422 + 2 : Nat) = 424 from rfl, s_atn (by decide) hc, j_b, ho.2 424 (by omega)]
      · rw [if_neg z]
        unfold fX2_minimumOf_15
        rw [show (422 + 3 : Nat) = 425 from rfl, s_atn (by decide) hc, j_b, ho.2 425 (by omega)]
    have D1 : D ≤ 1 := by omega
    have qm : qv σ (2 + D) c = (σ.1 (422 + (2 + D)) c).toInt := qv_at (by omega) (by omega) hc
    have pe : pv s 6 = pv σ 6 := pv_oc ho (by decide)
    have ew : (nI c).toInt = c := j_nI (by omega)
    have nle : ¬ nI pl.length ≤ nI i := by rw [j_le, j_nI (by omega), j_nI (by omega)]; omega
    show ∃ s' : Sg × Int32, _ ∧ fX2_arrange_30 422 6 (m + 1) s (nI n) l3 (nI pl.length) (nI i) = _
    rw [fX2_arrange_30, if_neg nle, show (422 + 9 : Nat) = 431 from rfl, s_atn (by decide) i23, j_b, s31, mo, j_b, j_b, s_weightOf, j_b, pe, ew, ga_in hc, show (422 + 10 : Nat) = 432 from rfl, s_add h5' i23, j_b, j_s]
    refine ⟨(_, nI (i + 1)), ⟨rfl, ((ho.tr (su_out.mo (by omega) (by omega))).tr (su_out.mo (by omega) (by omega))).tr (su_out.mo (by omega) (by omega)), ?_, fun k z hk gz => ?_⟩, rfl⟩
    · show (su (su (su s 433 i _) 434 i _) 432 5 (nI (i + 1))).1 432 5 = _
      rw [su_at, if_pos ⟨rfl, rfl⟩]
    · show ((su (su (su s 433 i _) 434 i _) 432 5 (nI (i + 1))).1 433 k).toInt = _ ∧ ((su (su (su s 433 i _) 434 i _) 432 5 (nI (i + 1))).1 434 k).toInt = _
      by_cases q : k = i
      · subst q
        have : z = c := Option.some.inj (gz.symm.trans gi)
        subst this
        rw [su_at, if_neg (by omega), su_at, if_neg (by omega), su_at, if_pos ⟨rfl, rfl⟩, su_at, if_neg (by omega), su_at, if_pos ⟨rfl, rfl⟩, qm]
        refine ⟨rfl, j_oI (pv_rg σ 6 11 z).1 (pv_rg σ 6 11 z).2⟩
      · rw [su_at, if_neg (by omega), su_at, if_neg (by omega), su_at, if_neg (by omega), su_at, if_neg (by omega), su_at, if_neg (by omega), su_at, if_neg (by omega)]
        exact hv k z (by omega) gz
  · rintro m ⟨s, l⟩ ⟨rfl, ho, h5', hv⟩
    simp only at ho h5' hv
    show ∃ σ', fX2_arrange_30 422 6 (m + 1) s (nI n) l3 (nI pl.length) (nI pl.length) = _ ∧ _
    rw [fX2_arrange_30, if_pos (by rw [j_le]; exact Int.le_refl _)]
    exact ⟨s, rfl, ho, h5', fun k c hk => (hv k c (List.getElem?_eq_some_iff.mp hk).1 hk).1, fun k c hk => (hv k c (List.getElem?_eq_some_iff.mp hk).1 hk).2⟩
theorem SI0.lm {pl : List Nat} {m w : Nat → Int} (h : SI0 σ pl m w) : SI0 σ pl (lm pl m) (lm pl w) := by
  refine ⟨h.1, fun k c g => ?_, fun k c g => ?_⟩
  · rw [h.2.1 k c g]
    exact (if_pos (List.mem_iff_getElem?.mpr ⟨k, g⟩)).symm
  · rw [h.2.2 k c g]
    exact (if_pos (List.mem_iff_getElem?.mpr ⟨k, g⟩)).symm
theorem s_ext {n : Nat} (hn : n < 23) (l3 : Int32) (D : Nat) (hD : (l3 = 0 ∧ D = 0) ∨ (¬ l3 = 0 ∧ D = 1)) : fX2_extentOf σ 422 (nI n) l3 = some (σ.1 (422 + (6 + D)) n) := by
  unfold fX2_extentOf
  rcases hD with ⟨z, rfl⟩ | ⟨z, rfl⟩
  · rw [if_pos z]
    unfold fX2_extentOf_15
    rw [show (422 + 6 : Nat) = 428 from rfl, s_atn (by decide) hn, j_b]
  · rw [if_neg z]
    unfold fX2_extentOf_15
    rw [show (422 + 7 : Nat) = 429 from rfl, s_atn (by decide) hn, j_b]
/-- arrange -/
theorem s_arrange (t : Tree (pv σ 6) d wn X) {n : Nat} (hn : n < 23) (k : pv σ 6 8 n ≤ 1) (hq : qv σ 1 n = 1) (hne : pls (pv σ 6) (qv σ) n ≠ []) (hb : ∀ c ∈ pls (pv σ 6) (qv σ) n, 0 ≤ qv σ (2 + dr (pv σ 6) n) c ∧ qv σ (2 + dr (pv σ 6) n) c ≤ 965) (he : 0 ≤ qv σ (6 + dr (pv σ 6) n) n ∧ qv σ (6 + dr (pv σ 6) n) n ≤ 400) : ∃ σ', fX2_arrange σ 422 6 (nI n) = some σ' ∧ Ff σ σ' (pls (pv σ 6) (qv σ) n) ∧ LA (pv σ 6) (qv σ') n := by
  have en : (nI n).toInt = n := j_nI (by omega)
  have gk : ga (pv σ 6 8) 23 (nI n).toInt = pv σ 6 8 n := by rw [en]; exact ga_in hn
  have t8 := t_ga (σ := σ) (b := 6) (j := 8) (n := 23) (p := (n : Int))
  rw [ga_in hn] at t8
  obtain ⟨d1, d2⟩ := t.drs hn k
  have kr := t.ki hn
  have n2 : ¬ oI (pv σ 6 8 n) = 2 := fun z => by
    rw [j_eq, t8] at z
    have : (2 : Int32).toInt = 2 := rfl
    omega
  have hD : (oI (pv σ 6 8 n) = 0 ∧ dr (pv σ 6) n = 0) ∨ (¬ oI (pv σ 6 8 n) = 0 ∧ dr (pv σ 6) n = 1) := by
    have z : dr (pv σ 6) n = 0 ∨ dr (pv σ 6) n = 1 := by omega
    rcases z with z | z
    · exact Or.inl ⟨j_eq.mpr (by rw [t8, jz0]; omega), z⟩
    · exact Or.inr ⟨fun y => by rw [j_eq, t8, jz0] at y; omega, z⟩
  obtain ⟨σ1, a1, o1, r1⟩ := s_listParts t hn k
  have mem : ∀ c ∈ pls (pv σ 6) (qv σ) n, c < 23 ∧ c ≠ n := fun c hc => pls_kid t hn k (List.mem_filter.mp hc).1
  have memt := fun c => t.pls_mem (P := qv σ) hn k (c := c)
  have nd := t.pls_nd (P := qv σ) hn k
  have len := t.pls_len (P := qv σ) hn k
  generalize hpl : pls (pv σ 6) (qv σ) n = pl at *
  have f1 : Ff σ (su σ1 432 5 0) pl := (Ff.ou (o1.mo (by omega) (by omega))).tr (Ff.ou (su_out.mo (by omega) (by omega)))
  have pe := f1.pv
  obtain ⟨σ2, a2, o2, s2⟩ := s_arr30 (σ := su σ1 432 5 0) (d := d) (wn := wn) (X := X) hn (by rw [pe]; exact t) (fun c hc => (mem c hc).1) len (by rw [su_ne (by omega)]; exact r1) (by rw [su_at, if_pos ⟨rfl, rfl⟩]) (oI (pv σ 6 8 n)) (dr (pv σ 6) n) hD
  have q1 : ∀ j i, j ≤ 3 → qv (su σ1 432 5 0) j i = qv σ j i := fun j i hj => qv_eq (by rw [f1.2.1 _ (by omega)])
  have f2 : Ff σ σ2 pl := f1.tr (Ff.ou (o2.mo (by omega) (by omega)))
  have s2 := s2.lm
  have ew : lm pl (qv (su σ1 432 5 0) (2 + dr (pv σ 6) n)) = lm pl (qv σ (2 + dr (pv σ 6) n)) := lm_cg (fun c _ => q1 _ c (by omega))
  rw [ew, pe] at s2
  have nn : ¬ n ∈ pl := fun z => (mem n z).2 rfl
  have lmv : ∀ f c, c ∈ pl → lm pl f c = f c := fun f c hc => if_pos hc
  have xb : XB pl (lm pl (qv σ (2 + dr (pv σ 6) n))) (lm pl (pv σ 6 11)) := by
    refine ⟨⟨nd, fun c hc => ?_, fun c hc => ?_⟩, len, fun c hc => ?_, fun c hc => ?_⟩
    · rw [lmv _ c hc]; exact (hb c hc).1
    · rw [lmv _ c hc]; exact (t.we (mem c hc).1 (by have := ((memt c).mp hc).2.1; omega)).1
    · rw [lmv _ c hc]; exact (hb c hc).2
    · rw [lmv _ c hc]; exact (t.we (mem c hc).1 (by have := ((memt c).mp hc).2.1; omega)).2
  have ex : σ2.1 (422 + (6 + dr (pv σ 6) n)) n = σ.1 (422 + (6 + dr (pv σ 6) n)) n := f2.2.2 _ n (by omega) (by omega) nn
  have qe : qv σ (6 + dr (pv σ 6) n) n = (σ.1 (422 + (6 + dr (pv σ 6) n)) n).toInt := qv_at (by omega) (by omega) hn
  have lpos : 1 ≤ pl.length := by
    cases hp : pl with
    | nil => exact absurd hp hne
    | cons y u => simp
  have lm1 : (nI pl.length - 1).toInt = pl.length - 1 := by
    rw [j_sub (by rw [j_nI (by omega), jz1]; omega) (by rw [j_nI (by omega), jz1]; omega), j_nI (by omega), jz1]
  have rm : (σ.1 (422 + (6 + dr (pv σ 6) n)) n - (nI pl.length - 1)).toInt = qv σ (6 + dr (pv σ 6) n) n - (pl.length - 1) := by
    rw [j_sub (by rw [lm1, ← qe]; omega) (by rw [lm1, ← qe]; omega), lm1, ← qe]
  have eroom : (if 0 < (σ.1 (422 + (6 + dr (pv σ 6) n)) n - (nI pl.length - 1)) then (σ.1 (422 + (6 + dr (pv σ 6) n)) n - (nI pl.length - 1)) else 0) = oI (lrm (pv σ 6) (qv σ) n) := by
    unfold lrm
    rw [hpl]
    by_cases z : 0 < qv σ (6 + dr (pv σ 6) n) n - ((pl.length : Int) - 1)
    · rw [if_pos z, if_pos (by rw [j_lt, jz0, rm]; exact z), ← rm, j_oIt]
    · rw [if_neg z, if_neg (fun y => z (by rw [j_lt, jz0, rm] at y; exact y))]
      rfl
  have hroom : 0 ≤ lrm (pv σ 6) (qv σ) n ∧ lrm (pv σ 6) (qv σ) n ≤ 400 := by
    unfold lrm
    rw [hpl]
    split <;> omega
  obtain ⟨σ3, a3, o3, v3⟩ := s_shareOut hne s2 xb hroom
  have f3 : Ff σ σ3 pl := f2.tr (Ff.ou (o3.mo (by omega) (by omega)))
  have r31 : rl (σ3.1 431) pl := by
    rw [o3.2 431 (by omega), o2.2 431 (by omega), su_ne (by omega)]
    exact r1
  obtain ⟨σ4, a4, f4, v4⟩ := s_arr105 (σ := σ3) hn nd mem len r31 v3 (decide (dr (pv σ 6) n = 0)) (oI (pv σ 6 8 n)) (by
    rcases hD with ⟨y, z⟩ | ⟨y, z⟩
    · exact ⟨fun _ => decide_eq_true z, fun _ => y⟩
    · exact ⟨fun u => absurd u y, fun u => by have := of_decide_eq_true u; omega⟩)
  have F : Ff σ σ4 pl := f3.tr f4
  refine ⟨σ4, ?_, F, ?_⟩
  · unfold fX2_arrange
    rw [s_kindOf, j_b, gk, if_neg n2, a1, j_b]
    unfold fX3_begin
    rw [j_nm, j_b, show (422 + 10 : Nat) = 432 from rfl, a2, s_ext hn _ _ hD, j_b, ex, j_nm, eroom, show (422 + 10 : Nat) = 432 from rfl, a3, j_b]
    exact a4
  · have ep : pls (pv σ 6) (qv σ4) n = pl := by
      rw [← hpl]
      exact pls_cg (fun c hc => qv_eq (by rw [F.2.1 423 (by omega)]))
    have Q3 : ∀ j i, j ≤ 3 → qv σ4 j i = qv σ j i := fun j i hj => qv_eq (by rw [F.2.1 _ (by omega)])
    have Qn : ∀ j, j ≤ 7 → qv σ4 j n = qv σ j n := fun j hj => qv_eq (by
      by_cases q : j ≤ 3
      · rw [F.2.1 _ (by omega)]
      · exact F.2.2 _ n (by omega) (by omega) nn)
    have el : lsh (pv σ 6) (qv σ4) n = share pl (lrm (pv σ 6) (qv σ) n) (lm pl (qv σ (2 + dr (pv σ 6) n))) (lm pl (pv σ 6 11)) := by
      unfold lsh
      rw [ep, lm_cg (f := qv σ4 (2 + dr (pv σ 6) n)) (g := qv σ (2 + dr (pv σ 6) n)) (fun c _ => Q3 _ c (by omega))]
      congr 1
      unfold lrm
      rw [ep, hpl, Qn _ (by omega)]
    intro i c gi
    rw [ep] at gi
    rw [el, ep]
    have hc : c ∈ pl := List.mem_iff_getElem?.mpr ⟨i, gi⟩
    have c23 := (mem c hc).1
    obtain ⟨w4, w5, w6, w7⟩ := v4 i c gi
    have n3 : ∀ j, 4 ≤ j → j ≤ 7 → σ3.1 (422 + j) n = oI (qv σ j n) := fun j h4 h7 => by
      rw [f3.2.2 _ n (by omega) (by omega) nn, qv_at (by omega) h7 hn, j_oIt]
    have w4 : σ4.1 (422 + 4) c = _ := w4
    have w5 : σ4.1 (422 + 5) c = _ := w5
    have w6 : σ4.1 (422 + 6) c = _ := w6
    have w7 : σ4.1 (422 + 7) c = _ := w7
    have shr := share_rg xb.1 hroom.1 (show pl.length ≤ 24 by omega) hc
    have eqs : ∀ x, (oI (share pl (lrm (pv σ 6) (qv σ) n) (lm pl (qv σ (2 + dr (pv σ 6) n))) (lm pl (pv σ 6 11)) c)).toInt = x ↔ share pl (lrm (pv σ 6) (qv σ) n) (lm pl (qv σ (2 + dr (pv σ 6) n))) (lm pl (pv σ 6 11)) c = x := fun x => by
      rw [j_oI (by omega) (by omega)]
    have qrg : ∀ j, (oI (qv σ j n)).toInt = qv σ j n := fun j => by
      unfold qv
      split
      · rw [j_oIt]
      · rfl
    have z0 : ∀ a : Int32, a + 0 = a := fun a => by simp
    have z : dr (pv σ 6) n = 0 ∨ dr (pv σ 6) n = 1 := by omega
    rcases z with z | z
    · rw [z] at w4 w5 w6 w7 eqs ⊢
      simp only [Nat.add_zero, Nat.sub_zero, decide_true, if_true] at w4 w5 w6 w7 eqs ⊢
      rw [qv_at (by decide) (by decide) c23, qv_at (by decide) (by decide) c23, qv_at (by decide) (by decide) c23, qv_at (by decide) (by decide) c23, w4, w5, w6, w7, show (426 : Nat) = 422 + 4 from rfl, n3 4 (by decide) (by decide), show (427 : Nat) = 422 + 5 from rfl, n3 5 (by decide) (by decide), show (429 : Nat) = 422 + 7 from rfl, n3 7 (by decide) (by decide), z0, j_oa, qrg, qrg, Qn 4 (by decide), Qn 5 (by decide), Qn 7 (by decide)]
      exact ⟨(eqs _).mpr rfl, rfl, rfl, rfl⟩
    · rw [z] at w4 w5 w6 w7 eqs ⊢
      simp only [Nat.reduceAdd, Nat.reduceSub, show decide ((1 : Nat) = 0) = false from rfl, Bool.false_eq_true, if_false] at w4 w5 w6 w7 eqs ⊢
      rw [qv_at (by decide) (by decide) c23, qv_at (by decide) (by decide) c23, qv_at (by decide) (by decide) c23, qv_at (by decide) (by decide) c23]
      simp only [Nat.reduceAdd]
      rw [w4, w5, w6, w7, show (426 : Nat) = 422 + 4 from rfl, n3 4 (by decide) (by decide), show (427 : Nat) = 422 + 5 from rfl, n3 5 (by decide) (by decide), show (428 : Nat) = 422 + 6 from rfl, n3 6 (by decide) (by decide), z0, j_oa, qrg, qrg, Qn 4 (by decide), Qn 5 (by decide), Qn 6 (by decide)]
      exact ⟨(eqs _).mpr rfl, rfl, rfl, rfl⟩
end A2
end
section
/-! THE RELATION: the class's plan, a window -/
section CW
variable {σ : Sg} {V : VW} {d : Nat → Nat} {wn : Nat → Int} {X : Nat → Bool} {mw mh : Nat → Int} {P P' : VW}
/-- a node is measured -/
def EM (V : VW) (mw mh : Nat → Int) (P : VW) (n : Nat) : Prop := (V 8 n = 2 → LG V mw mh P n) ∧ (V 8 n ≤ 1 → LT V P n)
def EA (V P : VW) (n : Nat) : Prop := V 8 n ≤ 1 → P 1 n = 1 → LA V P n
theorem EM.cg (t : Tree V d wn X) {n : Nat} (hn : n < 23) (h : EM V mw mh P n) (e : ∀ j c, j ≤ 3 → c < 23 → (c = n ∨ V 9 c = n) → P' j c = P j c) : EM V mw mh P' n := by
  have en : ∀ j, j ≤ 3 → P' j n = P j n := fun j hj => e j n hj hn (Or.inl rfl)
  refine ⟨fun k => ?_, fun k => ?_⟩
  · have a := h.1 k
    unfold LG at *
    rw [en 1 (by decide), en 2 (by decide), en 3 (by decide)]
    exact a
  · obtain ⟨a, b, c⟩ := h.2 k
    have kc : ∀ c ∈ kids V n, c < 23 ∧ V 9 c = n := fun c hc => (t.kids_mem hn k).mp hc
    have ep : pls V P' n = pls V P n := pls_cg (fun c hc => e 1 c (by decide) (kc c hc).1 (Or.inr (kc c hc).2))
    have pm : ∀ c ∈ pls V P n, c < 23 ∧ V 9 c = n := fun c hc => ⟨((t.pls_mem hn k).mp hc).1, ((t.pls_mem hn k).mp hc).2.1⟩
    obtain ⟨d1, d2⟩ := t.drs hn k
    refine ⟨by rw [en 1 (by decide)]; exact a, ?_, fun q => ?_⟩
    · rw [en 1 (by decide), b]
      constructor
      · rintro ⟨c, h1, h2, h3⟩
        exact ⟨c, h1, h2, by rw [e 1 c (by decide) h1 (Or.inr h2)]; exact h3⟩
      · rintro ⟨c, h1, h2, h3⟩
        exact ⟨c, h1, h2, by rw [← e 1 c (by decide) h1 (Or.inr h2)]; exact h3⟩
    · obtain ⟨u, v⟩ := c (by rw [← en 1 (by decide)]; exact q)
      rw [ep, en _ (by omega), en _ (by omega), u, v, Sm_congr (f := P' (2 + dr V n)) (g := P (2 + dr V n)) (fun c hc => e _ c (by omega) (pm c hc).1 (Or.inr (pm c hc).2)), lgx_cg (f := P' (3 - dr V n)) (g := P (3 - dr V n)) (fun c hc => e _ c (by omega) (pm c hc).1 (Or.inr (pm c hc).2))]
      exact ⟨rfl, rfl⟩
theorem EA.cg (t : Tree V d wn X) {n : Nat} (hn : n < 23) (h : EA V P n) (e : ∀ j c, j ≤ 7 → c < 23 → (c = n ∨ V 9 c = n) → P' j c = P j c) : EA V P' n := fun k q => by
  have en : ∀ j, j ≤ 7 → P' j n = P j n := fun j hj => e j n hj hn (Or.inl rfl)
  have a := h k (by rw [← en 1 (by decide)]; exact q)
  have kc : ∀ c ∈ kids V n, c < 23 ∧ V 9 c = n := fun c hc => (t.kids_mem hn k).mp hc
  have ep : pls V P' n = pls V P n := pls_cg (fun c hc => e 1 c (by decide) (kc c hc).1 (Or.inr (kc c hc).2))
  have pm : ∀ c ∈ pls V P n, c < 23 ∧ V 9 c = n := fun c hc => ⟨((t.pls_mem hn k).mp hc).1, ((t.pls_mem hn k).mp hc).2.1⟩
  obtain ⟨d1, d2⟩ := t.drs hn k
  have el : lsh V P' n = lsh V P n := by
    unfold lsh
    rw [ep, lm_cg (f := P' (2 + dr V n)) (g := P (2 + dr V n)) (fun c hc => e _ c (by omega) (pm c hc).1 (Or.inr (pm c hc).2))]
    congr 1
    unfold lrm
    rw [ep, en _ (by omega)]
  intro i c gi
  rw [ep] at gi
  have hc := pm c (List.mem_iff_getElem?.mpr ⟨i, gi⟩)
  obtain ⟨a1, a2, a3, a4⟩ := a i c gi
  rw [el, ep, e _ c (by omega) hc.1 (Or.inr hc.2), e _ c (by omega) hc.1 (Or.inr hc.2), e _ c (by omega) hc.1 (Or.inr hc.2), e _ c (by omega) hc.1 (Or.inr hc.2), en _ (by omega), en _ (by omega), en _ (by omega)]
  exact ⟨a1, a2, a3, a4⟩
/-- what measuring a window's nodes leaves alone -/
def Fw (σ σ' : Sg) (ls : List Nat) : Prop := σ'.2 = σ.2 ∧ (∀ j, (j < 423 ∨ (425 < j ∧ j ≠ 431)) → σ'.1 j = σ.1 j) ∧ ∀ j i, j ≠ 431 → ¬ i ∈ ls → σ'.1 j i = σ.1 j i
theorem Fw.pv {ls : List Nat} {σ' : Sg} (h : Fw σ σ' ls) : pv σ' 6 = pv σ 6 := pv_cg (fun j hj => h.2.1 j (by omega))
/-- the nodes of the list are measured, the last first -/
theorem s_measure (t : Tree (pv σ 6) d wn X) (tb : Tabs (pv σ 6) X) (hw : ∀ p, p < 12 → (0 ≤ rw12 (σ.1 2) p ∧ rw12 (σ.1 2) p ≤ 40) ∧ (pv σ 6 13 p ≠ -1 → 1 ≤ rw12 (σ.1 2) p)) (hh : ∀ p, p < 12 → 0 ≤ rw12 (σ.1 3) p ∧ rw12 (σ.1 3) p ≤ 40) {r : Nat} {ls : List Nat} (B : BL (pv σ 6) r ls ls.length 0) (h9 : pv σ 6 9 r = -1) (hr : rl (σ.1 430) ls) (l2 l4 : Int32) : ∃ σ', fX2_computeWindow_27 422 1 FU σ l2 l4 (nI ls.length - 1) = fX2_computeWindow_27 422 1 1 σ' l2 l4 (-1) ∧ Fw σ σ' ls ∧ ∀ n ∈ ls, EM (pv σ 6) (rw12 (σ.1 2)) (rw12 (σ.1 3)) (qv σ') n := by
  have len := B.len
  have mem : ∀ k c, ls[k]? = some c → c < 23 ∧ pv σ 6 8 c ≠ 3 := fun k c g => B.2.2.1 c (List.mem_iff_getElem?.mpr ⟨k, g⟩)
  have st : nI ls.length - 1 = oI ((ls.length : Int) - 1 - (0 : Nat)) := by
    rw [j_nIo _ (by omega), show (1 : Int32) = oI 1 from rfl, j_os]
    congr 1
    omega
  rw [st]
  refine lp (F := fun m (s : Sg × Int32) => fX2_computeWindow_27 422 1 m s.1 l2 l4 s.2) (Q := fun o => ∃ σ', o = fX2_computeWindow_27 422 1 1 σ' l2 l4 (-1) ∧ Fw σ σ' ls ∧ ∀ n ∈ ls, EM (pv σ 6) (rw12 (σ.1 2)) (rw12 (σ.1 3)) (qv σ') n) (fun i s => s.2 = oI ((ls.length : Int) - 1 - (i : Nat)) ∧ Fw σ s.1 ls ∧ ∀ k c, ls.length ≤ k + i → ls[k]? = some c → EM (pv σ 6) (rw12 (σ.1 2)) (rw12 (σ.1 3)) (qv s.1) c) ls.length ?_ ?_ ls.length 0 FU (σ, oI ((ls.length : Int) - 1 - (0 : Nat))) (by omega) (by show _ < 6000; omega) ⟨rfl, ⟨rfl, fun _ _ => rfl, fun _ _ _ _ => rfl⟩, fun k c hk g => absurd (List.getElem?_eq_some_iff.mp g).1 (by omega)⟩
  · rintro m i ⟨s, l⟩ hi ⟨rfl, hf, hv⟩
    simp only at hf hv
    obtain ⟨k, hk⟩ : ∃ k, k + i + 1 = ls.length := ⟨ls.length - i - 1, by omega⟩
    have ek : oI ((ls.length : Int) - 1 - (i : Nat)) = nI k := by
      rw [j_nIo _ (by omega)]
      congr 1
      omega
    have ek1 : nI k + (-1) = oI ((ls.length : Int) - 1 - ((i + 1 : Nat) : Int)) := by
      rw [j_nIo _ (by omega), show (-1 : Int32) = oI (-1) from rfl, j_oa]
      congr 1
      omega
    have gk := List.getElem?_eq_getElem (show k < ls.length by omega)
    generalize ls[k] = c at gk
    obtain ⟨c23, cu⟩ := mem k c gk
    have hc : c ∈ ls := List.mem_iff_getElem?.mpr ⟨k, gk⟩
    have pe := hf.pv
    have s30 : s.1 430 k = nI c := by rw [hf.2.1 430 (by omega)]; exact hr k c gk
    have ec : (nI c).toInt = c := j_nI (by omega)
    have gk8 : ga (pv σ 6 8) 23 (nI c).toInt = pv σ 6 8 c := by rw [ec]; exact ga_in c23
    have t8 := t_ga (σ := σ) (b := 6) (j := 8) (n := 23) (p := (c : Int))
    rw [ga_in c23] at t8
    have two : (2 : Int32).toInt = 2 := rfl
    -- what is measured stays
    have keepm : ∀ s2 : Sg, (∀ j z, j ≠ 431 → z ≠ c → s2.1 j z = s.1 j z) → EM (pv σ 6) (rw12 (σ.1 2)) (rw12 (σ.1 3)) (qv s2) c → ∀ k' c', ls.length ≤ k' + (i + 1) → ls[k']? = some c' → EM (pv σ 6) (rw12 (σ.1 2)) (rw12 (σ.1 3)) (qv s2) c' := fun s2 h2 hE k' c' hk' g' => by
      by_cases q : k' = k
      · subst q
        rw [← Option.some.inj (gk.symm.trans g')]
        exact hE
      · refine (hv k' c' (by omega) g').cg t (mem k' c' g').1 (fun j z hj _ hz => qv_eq (h2 _ z (by omega) ?_))
        intro y
        subst y
        rcases hz with y | y
        · exact q (nd_inj B.1 g' (y ▸ gk))
        · have k0 : k ≠ 0 := fun u => by
            have b0 := B.2.1
            rw [← u, gk] at b0
            have := Option.some.inj b0
            subst this
            omega
          obtain ⟨a, s', b1, b2, b3⟩ := B.2.2.2.1 k z gk k0
          have : s' = c' := by omega
          subst this
          have := nd_inj B.1 b2 g'
          omega
    show ∃ s' : Sg × Int32, _ ∧ fX2_computeWindow_27 422 1 (m + 1) s l2 l4 (oI ((ls.length : Int) - 1 - (i : Nat))) = _
    rw [ek]
    have nneg : ¬ nI k < 0 := by rw [j_lt, j_nI (by omega), jz0]; omega
    rw [fX2_computeWindow_27, if_neg nneg, show (422 + 8 : Nat) = 430 from rfl, s_atn (by decide) (by omega), j_b, s30, show (1 + 5 : Nat) = 6 from rfl, s_kindOf, j_b, pe, gk8]
    by_cases q : pv σ 6 8 c = 2
    · have e2 : oI (pv σ 6 8 c) = 2 := j_eq.mpr (by rw [t8, q, two])
      obtain ⟨σ2, a2, o2, f2, g2⟩ := s_measureGroup (σ := s) (X := X) (by rw [pe]; exact tb) (by rw [hf.2.1 2 (by omega), pe]; exact hw) (by rw [hf.2.1 3 (by omega)]; exact hh) c23
      rw [if_pos e2, a2, j_b]
      unfold fX2_computeWindow_70
      rw [ek1]
      rw [hf.2.1 2 (by omega), hf.2.1 3 (by omega), pe] at g2
      refine ⟨(σ2, _), ⟨rfl, ⟨o2.1.trans hf.1, fun j hj => (o2.2 j (by omega)).trans (hf.2.1 j hj), fun j z hj hz => (f2 j z (fun y => hz (y ▸ hc))).trans (hf.2.2 j z hj hz)⟩, ?_⟩, rfl⟩
      exact keepm σ2 (fun j z _ hz => f2 j z hz) ⟨fun _ => g2, fun y => absurd y (by omega)⟩
    · have e2 : ¬ oI (pv σ 6 8 c) = 2 := fun y => q (by rw [j_eq, t8, two] at y; exact y)
      have kr := t.ki c23
      obtain ⟨σ2, a2, o2, g2⟩ := s_measureSplit (σ := s) (d := d) (wn := wn) (X := X) (by rw [pe]; exact t) c23 (by rw [pe]; omega)
      rw [if_neg e2, a2, j_b]
      unfold fX2_computeWindow_70
      rw [ek1]
      rw [pe] at g2
      refine ⟨(σ2, _), ⟨rfl, ⟨o2.1.trans hf.1, fun j hj => (o2.2.1 j hj).trans (hf.2.1 j hj), fun j z hj hz => (o2.2.2 j z hj (fun y => hz (y ▸ hc))).trans (hf.2.2 j z hj hz)⟩, ?_⟩, rfl⟩
      exact keepm σ2 (fun j z hj hz => o2.2.2 j z hj hz) ⟨fun y => absurd y q, fun _ => g2⟩
  · rintro m ⟨s, l⟩ ⟨rfl, hf, hv⟩
    simp only at hf hv
    have e1 : oI ((ls.length : Int) - 1 - (ls.length : Nat)) = -1 := by
      have : (ls.length : Int) - 1 - (ls.length : Nat) = -1 := by omega
      rw [this]
      rfl
    show ∃ σ', fX2_computeWindow_27 422 1 (m + 1) s l2 l4 (oI ((ls.length : Int) - 1 - (ls.length : Nat))) = _ ∧ _
    rw [e1]
    refine ⟨s, ?_, hf, fun n hn => ?_⟩
    · rw [fX2_computeWindow_27, if_pos (by decide)]
      show _ = fX2_computeWindow_27 422 1 (0 + 1) s l2 l4 (-1)
      rw [fX2_computeWindow_27, if_pos (by decide)]
    · obtain ⟨k, hk⟩ := List.mem_iff_getElem?.mp hn
      exact hv k n (by omega) hk
end CW
end
section
/-! THE RELATION: the class's plan, a window (2) -/
section CX
variable {σ : Sg} {d : Nat → Nat} {wn : Nat → Int} {X : Nat → Bool} {mw mh : Nat → Int}
theorem s_arrangeG {n : Nat} (hn : n < 23) (k : pv σ 6 8 n = 2) : fX2_arrange σ 422 6 (nI n) = some σ := by
  have en : (nI n).toInt = n := j_nI (by omega)
  have t8 := t_ga (σ := σ) (b := 6) (j := 8) (n := 23) (p := (n : Int))
  rw [ga_in hn] at t8
  have two : (2 : Int32).toInt = 2 := rfl
  unfold fX2_arrange
  rw [s_kindOf, j_b, en, ga_in hn, if_pos (j_eq.mpr (by rw [t8, k, two]))]
theorem s_arrange0 (t : Tree (pv σ 6) d wn X) {n : Nat} (hn : n < 23) (k : pv σ 6 8 n ≤ 1) (h0 : pls (pv σ 6) (qv σ) n = []) : ∃ σ', fX2_arrange σ 422 6 (nI n) = some σ' ∧ Ff σ σ' [] := by
  have en : (nI n).toInt = n := j_nI (by omega)
  have gk : ga (pv σ 6 8) 23 (nI n).toInt = pv σ 6 8 n := by rw [en]; exact ga_in hn
  have t8 := t_ga (σ := σ) (b := 6) (j := 8) (n := 23) (p := (n : Int))
  rw [ga_in hn] at t8
  obtain ⟨d1, d2⟩ := t.drs hn k
  have two : (2 : Int32).toInt = 2 := rfl
  have n2 : ¬ oI (pv σ 6 8 n) = 2 := fun z => by
    rw [j_eq, t8, two] at z
    omega
  have hD : (oI (pv σ 6 8 n) = 0 ∧ dr (pv σ 6) n = 0) ∨ (¬ oI (pv σ 6 8 n) = 0 ∧ dr (pv σ 6) n = 1) := by
    have z : dr (pv σ 6) n = 0 ∨ dr (pv σ 6) n = 1 := by omega
    rcases z with z | z
    · exact Or.inl ⟨j_eq.mpr (by rw [t8, jz0]; omega), z⟩
    · exact Or.inr ⟨fun y => by rw [j_eq, t8, jz0] at y; omega, z⟩
  obtain ⟨σ1, a1, o1, r1⟩ := s_listParts t hn k
  rw [h0] at a1 r1
  have f1 : Ff σ (su σ1 432 5 0) [] := (Ff.ou (o1.mo (by omega) (by omega))).tr (Ff.ou (su_out.mo (by omega) (by omega)))
  have pe := f1.pv
  obtain ⟨σ2, a2, o2, s2⟩ := s_arr30 (σ := su σ1 432 5 0) (d := d) (wn := wn) (X := X) hn (by rw [pe]; exact t) (pl := []) (fun c hc => by cases hc) (by decide) (fun k c g => by cases g) (by rw [su_at, if_pos ⟨rfl, rfl⟩]) (oI (pv σ 6 8 n)) (dr (pv σ 6) n) hD
  have f2 : Ff σ σ2 [] := f1.tr (Ff.ou (o2.mo (by omega) (by omega)))
  obtain ⟨σ3, a3, o3⟩ := s_share0 (σ := σ2) s2.1 (if 0 < (σ2.1 (422 + (6 + dr (pv σ 6) n)) n - (nI ([] : List Nat).length - 1)) then (σ2.1 (422 + (6 + dr (pv σ 6) n)) n - (nI ([] : List Nat).length - 1)) else 0)
  refine ⟨σ3, ?_, f2.tr (Ff.ou (o3.mo (by omega) (by omega)))⟩
  unfold fX2_arrange
  rw [s_kindOf, j_b, gk, if_neg n2, a1, j_b]
  unfold fX3_begin
  rw [j_nm, j_b, show (422 + 10 : Nat) = 432 from rfl, a2, s_ext hn _ _ hD, j_b, j_nm, show (422 + 10 : Nat) = 432 from rfl, a3, j_b]
  show fX2_arrange_105 422 6 (5999 + 1) σ3 (nI n) (oI (pv σ 6 8 n)) (nI 0) 0 0 = some σ3
  rw [fX2_arrange_105, if_pos (by decide)]
/-- all nodes of the list are arranged -/
theorem s_arr147 (t : Tree (pv σ 6) d wn X) (hwB : ∀ p, p < 12 → 0 ≤ mw p ∧ mw p ≤ 40) (hhB : ∀ p, p < 12 → 0 ≤ mh p ∧ mh p ≤ 40) {r : Nat} {ls : List Nat} (B : BL (pv σ 6) r ls ls.length 0) (h9 : pv σ 6 9 r = -1) (hr : rl (σ.1 430) ls) (h8 : σ.1 422 8 = nI ls.length) (hE : ∀ n ∈ ls, EM (pv σ 6) mw mh (qv σ) n) (hroot : (0 ≤ qv σ 6 r ∧ qv σ 6 r ≤ 400) ∧ 0 ≤ qv σ 7 r ∧ qv σ 7 r ≤ 400) : ∃ σ', fX2_computeWindow_147 422 1 FU σ 0 = some σ' ∧ Ff σ σ' ls ∧ (∀ j, 426 ≤ j → j ≤ 429 → σ'.1 j r = σ.1 j r) ∧ ∀ n ∈ ls, EA (pv σ 6) (qv σ') n := by
  have len := B.len
  have mem : ∀ k c, ls[k]? = some c → c < 23 ∧ pv σ 6 8 c ≠ 3 := fun k c g => B.2.2.1 c (List.mem_iff_getElem?.mpr ⟨k, g⟩)
  have kid : ∀ c s, c < 23 → s ∈ ls → pv σ 6 9 c = (s : Nat) → c ∈ ls := fun c s hc hs e => by
    obtain ⟨a, ha⟩ := List.mem_iff_getElem?.mp hs
    exact (B.2.2.2.2 c hc).mpr (Or.inr (Or.inl ⟨a, s, (List.getElem?_eq_some_iff.mp ha).1, ha, e⟩))
  -- a child stands behind its parent
  have later : ∀ a b c s : Nat, ls[a]? = some c → ls[b]? = some s → pv σ 6 9 c = s → b < a := fun a b c s ha hb e => by
    have a0 : a ≠ 0 := fun z => by
      subst z
      have := Option.some.inj (ha.symm.trans B.2.1)
      subst this
      omega
    obtain ⟨a', s', b1, b2, b3⟩ := B.2.2.2.1 a c ha a0
    have : s' = s := by omega
    subst this
    have := nd_inj B.1 b2 hb
    omega
  have bd : ∀ n ∈ ls, qv σ 1 n = 1 → ∀ i, (i = 2 ∨ i = 3) → 0 ≤ qv σ i n ∧ qv σ i n ≤ 965 := fun n hn q i hi => by
    obtain ⟨n23, nu⟩ := B.2.2.1 n hn
    have a := bdA (A := fun x => x ∈ ls) (P := qv σ) t (fun c s hc hs e => kid c s hc hs e) (fun n _ hn k => (hE n hn).1 k) (fun n _ hn k => (hE n hn).2 k) hwB hhB 22 n (by omega) n23 hn nu q i hi
    have b := (gl_pos (V := pv σ 6) n23 nu).2
    omega
  refine lp (F := fun m (s : Sg × Int32) => fX2_computeWindow_147 422 1 m s.1 s.2) (Q := fun o => ∃ σ', o = some σ' ∧ Ff σ σ' ls ∧ (∀ j, 426 ≤ j → j ≤ 429 → σ'.1 j r = σ.1 j r) ∧ ∀ n ∈ ls, EA (pv σ 6) (qv σ') n) (fun i s => s.2 = nI i ∧ Ff σ s.1 ls ∧ (∀ j, 426 ≤ j → j ≤ 429 → s.1.1 j r = σ.1 j r) ∧ (∀ k c, k < i → ls[k]? = some c → EA (pv σ 6) (qv s.1) c) ∧ ∀ x ∈ ls, qv σ 1 x = 1 → (x = r ∨ ∃ k s' : Nat, k < i ∧ ls[k]? = some s' ∧ pv σ 6 9 x = s') → (0 ≤ qv s.1 6 x ∧ qv s.1 6 x ≤ 400) ∧ 0 ≤ qv s.1 7 x ∧ qv s.1 7 x ≤ 400) ls.length ?_ ?_ ls.length 0 FU (σ, 0) (by omega) (by show _ < 6000; omega) ⟨rfl, Ff.rf, fun _ _ _ => rfl, fun k c hk => absurd hk (by omega), fun x hx q y => by
    rcases y with y | ⟨k, s', hk, -⟩
    · rw [y]
      exact hroot
    · omega⟩
  · rintro m i ⟨s, l⟩ hi ⟨rfl, hf, hrt, hv, hb⟩
    simp only at hf hrt hv hb
    have gi := List.getElem?_eq_getElem hi
    generalize ls[i] = n at gi
    obtain ⟨n23, nu⟩ := mem i n gi
    have hn : n ∈ ls := List.mem_iff_getElem?.mpr ⟨i, gi⟩
    have pe := hf.pv
    have Q3 : ∀ j x, j ≤ 3 → qv s j x = qv σ j x := fun j x hj => qv_eq (by rw [hf.2.1 _ (by omega)])
    have s30 : s.1 430 i = nI n := by rw [hf.2.1 430 (by omega)]; exact hr i n gi
    have s8 : s.1 422 8 = nI ls.length := by rw [hf.2.1 422 (by omega)]; exact h8
    have kr := t.ki n23
    show ∃ s' : Sg × Int32, _ ∧ fX2_computeWindow_147 422 1 (m + 1) s (nI i) = _
    have nle : ¬ nI ls.length ≤ nI i := by rw [j_le, j_nI (by omega), j_nI (by omega)]; omega
    rw [fX2_computeWindow_147, s8, if_neg nle, show (422 + 8 : Nat) = 430 from rfl, s_atn (by decide) (by omega), j_b, s30, show (1 + 5 : Nat) = 6 from rfl]
    have noch : ∀ x, qv σ 1 x = 1 → pv σ 6 8 n = 2 ∨ qv σ 1 n ≠ 1 → x < 23 → pv σ 6 9 x = n → False := fun x q y hx e => by
      rcases y with y | y
      · have := (t.par hx e).2.1
        omega
      · have k1 := (t.par hx e).2.1
        exact y (((hE n hn).2 k1).2.1.mpr ⟨x, hx, e, q⟩)
    by_cases k2 : pv σ 6 8 n = 2
    · rw [s_arrangeG n23 (by rw [pe]; exact k2), j_b, j_s]
      refine ⟨(s, nI (i + 1)), ⟨rfl, hf, hrt, fun k c hk g => ?_, fun x hx q y => ?_⟩, rfl⟩
      · by_cases z : k = i
        · subst z
          have := Option.some.inj (gi.symm.trans g)
          subst this
          exact fun k1 => absurd k1 (by omega)
        · exact hv k c (by omega) g
      · refine hb x hx q (y.elim Or.inl (fun ⟨k, s', hk, g, e⟩ => Or.inr ⟨k, s', ?_, g, e⟩))
        by_cases z : k = i
        · subst z
          have := Option.some.inj (gi.symm.trans g)
          subst this
          exact absurd e (fun e => noch x q (Or.inl k2) (B.2.2.1 x hx).1 e)
        · omega
    · have k1 : pv σ 6 8 n ≤ 1 := by omega
      by_cases q1 : qv σ 1 n = 1
      · -- shown
        have ep : pls (pv s 6) (qv s) n = pls (pv σ 6) (qv σ) n := by
          rw [pe]
          exact pls_cg (fun c _ => Q3 1 c (by decide))
        have pmem := fun c => t.pls_mem (P := qv σ) n23 k1 (c := c)
        obtain ⟨d1, d2⟩ := t.drs n23 k1
        have rb := hb n hn q1 (by
          by_cases z : i = 0
          · left
            rw [z] at gi
            exact Option.some.inj (gi.symm.trans B.2.1)
          · right
            obtain ⟨a, s', b1, b2, b3⟩ := B.2.2.2.1 i n gi z
            exact ⟨a, s', b1, b2, b3⟩)
        have exN : 0 ≤ qv s (6 + dr (pv σ 6) n) n ∧ qv s (6 + dr (pv σ 6) n) n ≤ 400 := by
          have z : dr (pv σ 6) n = 0 ∨ dr (pv σ 6) n = 1 := by omega
          rcases z with z | z
          · rw [z]; exact rb.1
          · rw [z]; exact rb.2
        have inl : ∀ c ∈ pls (pv σ 6) (qv σ) n, c ∈ ls := fun c hc => kid c n ((pmem c).mp hc).1 hn ((pmem c).mp hc).2.1
        have hbs : ∀ c ∈ pls (pv σ 6) (qv σ) n, 0 ≤ qv s (2 + dr (pv σ 6) n) c ∧ qv s (2 + dr (pv σ 6) n) c ≤ 965 := fun c hc => by
          rw [Q3 _ c (by omega)]
          exact bd c (inl c hc) ((pmem c).mp hc).2.2 _ (by omega)
        have hne : pls (pv σ 6) (qv σ) n ≠ [] := fun z => by
          obtain ⟨c, x1, x2, x3⟩ := ((hE n hn).2 k1).2.1.mp q1
          have := (pmem c).mpr ⟨x1, x2, x3⟩
          rw [z] at this
          cases this
        obtain ⟨σ2, a2, f2, la⟩ := s_arrange (σ := s) (d := d) (wn := wn) (X := X) (by rw [pe]; exact t) n23 (by rw [pe]; exact k1) (by rw [Q3 1 n (by decide)]; exact q1) (by rw [ep]; exact hne) (by rw [ep, pe]; exact hbs) (by rw [pe]; exact exN)
        rw [ep] at f2
        rw [pe] at la
        rw [a2, j_b, j_s]
        have F : Ff σ σ2 ls := hf.tr ⟨f2.1, f2.2.1, fun j z h1 h2 hz => f2.2.2 j z h1 h2 (fun y => hz (inl z y))⟩
        have nr : ¬ r ∈ pls (pv σ 6) (qv σ) n := fun z => by have := ((pmem r).mp z).2.1; omega
        have stay : ∀ x, ¬ x ∈ pls (pv σ 6) (qv σ) n → ∀ j, j ≤ 7 → qv σ2 j x = qv s j x := fun x hx j hj => qv_eq (by
          by_cases z : j ≤ 3
          · rw [f2.2.1 _ (by omega)]
          · exact f2.2.2 _ x (by omega) (by omega) hx)
        refine ⟨(σ2, nI (i + 1)), ⟨rfl, F, fun j h1 h2 => (f2.2.2 j r h1 h2 nr).trans (hrt j h1 h2), fun k c hk g => ?_, fun x hx q y => ?_⟩, rfl⟩
        · by_cases z : k = i
          · subst z
            have := Option.some.inj (gi.symm.trans g)
            subst this
            exact fun _ _ => la
          · refine (hv k c (by omega) g).cg t (mem k c g).1 (fun j x hj _ hx => stay x (fun w => ?_) j hj)
            have e := ((pmem x).mp w).2.1
            rcases hx with rfl | hx
            · have := later k i x n g gi e
              omega
            · have : c = n := by omega
              subst this
              exact z (nd_inj B.1 g gi)
        · by_cases w : x ∈ pls (pv σ 6) (qv σ) n
          · -- a new one: from its parent
            obtain ⟨a, ga'⟩ := List.mem_iff_getElem?.mp w
            have eq2 : pls (pv σ 6) (qv σ2) n = pls (pv σ 6) (qv σ) n := pls_cg (fun c _ => qv_eq (by rw [F.2.1 _ (by omega)]))
            obtain ⟨e1, e2, -, -⟩ := la a x (by rw [eq2]; exact ga')
            have nn : ¬ n ∈ pls (pv σ 6) (qv σ) n := fun z => by
              have := (t.par ((pmem n).mp z).1 ((pmem n).mp z).2.1).2.2.1
              omega
            have lrg : 0 ≤ lrm (pv σ 6) (qv σ2) n ∧ lrm (pv σ 6) (qv σ2) n ≤ 400 := by
              unfold lrm
              rw [stay n nn _ (by omega), eq2]
              have : 1 ≤ (pls (pv σ 6) (qv σ) n).length := List.length_pos_of_mem w
              split <;> omega
            have xp : XP (pls (pv σ 6) (qv σ2) n) (lm (pls (pv σ 6) (qv σ2) n) (qv σ2 (2 + dr (pv σ 6) n))) (lm (pls (pv σ 6) (qv σ2) n) (pv σ 6 11)) := by
              rw [eq2]
              refine ⟨t.pls_nd n23 k1, fun c hc => ?_, fun c hc => ?_⟩
              · rw [show lm (pls (pv σ 6) (qv σ) n) (qv σ2 (2 + dr (pv σ 6) n)) c = qv σ2 (2 + dr (pv σ 6) n) c from if_pos hc]
                have : qv σ2 (2 + dr (pv σ 6) n) c = qv s (2 + dr (pv σ 6) n) c := qv_eq (by rw [f2.2.1 _ (by omega)])
                rw [this]
                exact (hbs c hc).1
              · rw [show lm (pls (pv σ 6) (qv σ) n) (pv σ 6 11) c = pv σ 6 11 c from if_pos hc]
                exact (t.we ((pmem c).mp hc).1 (by have := ((pmem c).mp hc).2.1; omega)).1
            have sr' : 0 ≤ lsh (pv σ 6) (qv σ2) n x ∧ lsh (pv σ 6) (qv σ2) n x ≤ lrm (pv σ 6) (qv σ2) n := share_rg xp lrg.1 (by
              have := t.pls_len (P := qv σ2) n23 k1
              omega) (c := x) (by rw [eq2]; exact w)
            rw [← e1] at sr'
            have sr' : 0 ≤ qv σ2 (6 + dr (pv σ 6) n) x ∧ qv σ2 (6 + dr (pv σ 6) n) x ≤ 400 := ⟨sr'.1, by omega⟩
            clear e1
            have z : dr (pv σ 6) n = 0 ∨ dr (pv σ 6) n = 1 := by omega
            rcases z with z | z
            · rw [z] at e2 sr'
              simp only [Nat.add_zero, Nat.sub_zero] at e2 sr'
              rw [e2, stay n nn 7 (by decide)]
              exact ⟨by omega, rb.2⟩
            · rw [z] at e2 sr'
              simp only [Nat.reduceAdd, Nat.reduceSub] at e2 sr'
              rw [e2, stay n nn 6 (by decide)]
              exact ⟨rb.1, by omega⟩
          · rw [stay x w 6 (by decide), stay x w 7 (by decide)]
            refine hb x hx q (y.elim Or.inl (fun ⟨k, s', hk, g, e⟩ => Or.inr ⟨k, s', ?_, g, e⟩))
            by_cases z : k = i
            · subst z
              have := Option.some.inj (gi.symm.trans g)
              subst this
              exact absurd ((pmem x).mpr ⟨(B.2.2.1 x hx).1, e, q⟩) w
            · omega
      · -- not shown
        have p0 : pls (pv s 6) (qv s) n = [] := by
          rw [pe]
          cases hp : pls (pv σ 6) (qv s) n with
          | nil => rfl
          | cons y u =>
            exfalso
            have : y ∈ pls (pv σ 6) (qv s) n := by rw [hp]; exact List.mem_cons_self ..
            obtain ⟨x1, x2, x3⟩ := (t.pls_mem n23 k1).mp this
            rw [Q3 1 y (by decide)] at x3
            exact noch y x3 (Or.inr q1) x1 x2
        obtain ⟨σ2, a2, f2⟩ := s_arrange0 (σ := s) (d := d) (wn := wn) (X := X) (by rw [pe]; exact t) n23 (by rw [pe]; exact k1) p0
        rw [a2, j_b, j_s]
        have stay : ∀ j x, j ≤ 7 → qv σ2 j x = qv s j x := fun j x hj => qv_eq (by
          by_cases z : j ≤ 3
          · rw [f2.2.1 _ (by omega)]
          · exact f2.2.2 _ x (by omega) (by omega) (fun w => by cases w))
        refine ⟨(σ2, nI (i + 1)), ⟨rfl, hf.tr ⟨f2.1, f2.2.1, fun j z h1 h2 _ => f2.2.2 j z h1 h2 (fun w => by cases w)⟩, fun j h1 h2 => (f2.2.2 j r h1 h2 (fun w => by cases w)).trans (hrt j h1 h2), fun k c hk g => ?_, fun x hx q y => ?_⟩, rfl⟩
        · by_cases z : k = i
          · subst z
            have := Option.some.inj (gi.symm.trans g)
            subst this
            intro _ u
            rw [stay 1 n (by decide), Q3 1 n (by decide)] at u
            exact absurd u q1
          · exact (hv k c (by omega) g).cg t (mem k c g).1 (fun j x hj _ _ => stay j x hj)
        · rw [stay 6 x (by decide), stay 7 x (by decide)]
          refine hb x hx q (y.elim Or.inl (fun ⟨k, s', hk, g, e⟩ => Or.inr ⟨k, s', ?_, g, e⟩))
          by_cases z : k = i
          · subst z
            have := Option.some.inj (gi.symm.trans g)
            subst this
            exact absurd e (fun e => noch x q (Or.inr q1) (B.2.2.1 x hx).1 e)
          · omega
  · rintro m ⟨s, l⟩ ⟨rfl, hf, hrt, hv, hb⟩
    simp only at hf hrt hv hb
    have s8 : s.1 422 8 = nI ls.length := by rw [hf.2.1 422 (by omega)]; exact h8
    show ∃ σ', fX2_computeWindow_147 422 1 (m + 1) s (nI ls.length) = _ ∧ _
    rw [fX2_computeWindow_147, s8, if_pos (by rw [j_le]; exact Int.le_refl _)]
    refine ⟨s, rfl, hf, hrt, fun n hn => ?_⟩
    obtain ⟨k, hk⟩ := List.mem_iff_getElem?.mp hn
    exact hv k n (List.getElem?_eq_some_iff.mp hk).1 hk
end CX
end
section
/-! THE RELATION: the class's plan is a plan -/
/-- window w's part of the plan is right -/
def Wl (V : VW) (mw mh : Nat → Int) (P : VW) (wn : Nat → Int) (w : Nat) : Prop := (∀ n, n < 23 → V 8 n ≠ 3 → wn n = w → EM V mw mh P n ∧ EA V P n) ∧ ∀ r : Nat, V 5 w = r → P 4 r = V 1 w ∧ P 5 r = V 2 w ∧ P 6 r = V 3 w ∧ P 7 r = V 4 w
section CP
variable {σ : Sg} {d : Nat → Nat} {wn : Nat → Int} {X : Nat → Bool}
theorem Wl.cg {V : VW} {mw mh : Nat → Int} {P P' : VW} {w w2 : Nat} (t : Tree V d wn X) (hw : w < 5) (h : Wl V mw mh P wn w) (ne : w ≠ w2) (e : ∀ j n, j ≤ 7 → n < 23 → (V 8 n = 3 ∨ wn n ≠ w2) → P' j n = P j n) : Wl V mw mh P' wn w := by
  have g : ∀ n, n < 23 → wn n = w → ∀ j c, j ≤ 7 → c < 23 → (c = n ∨ V 9 c = n) → P' j c = P j c := fun n hn hwn j c hj c23 hc => by
    refine e j c hj c23 (Or.inr ?_)
    rcases hc with rfl | hc
    · rw [hwn]; omega
    · rw [(t.par c23 hc).2.2.2, hwn]; omega
  refine ⟨fun n hn hu hwn => ⟨(h.1 n hn hu hwn).1.cg t hn (fun j c hj => g n hn hwn j c (by omega)), (h.1 n hn hu hwn).2.cg t hn (g n hn hwn)⟩, fun r hr => ?_⟩
  obtain ⟨a, b, c, f⟩ := h.2 r hr
  rcases t.wi hw with z | ⟨n, hn, e5, -, -, ewn⟩
  · omega
  · have : n = r := by omega
    subst this
    rw [g n hn ewn 4 n (by decide) hn (Or.inl rfl), g n hn ewn 5 n (by decide) hn (Or.inl rfl), g n hn ewn 6 n (by decide) hn (Or.inl rfl), g n hn ewn 7 n (by decide) hn (Or.inl rfl)]
    exact ⟨a, b, c, f⟩
/-- the last step of a window: its root's rectangle, then all the rest -/
theorem s_wend {w : Nat} (hw : w < 5) (l4 : Int32) : ∃ σ', fX2_computeWindow_27 422 1 1 σ (nI w) l4 (-1) = fX2_computeWindow_147 422 1 FU σ' 0 ∧ σ' = pt (pt (pt (pt σ 426 23 l4 (oI (pv σ 6 1 w))) 427 23 l4 (oI (pv σ 6 2 w))) 428 23 l4 (oI (pv σ 6 3 w))) 429 23 l4 (oI (pv σ 6 4 w)) := by
  have ew : (nI w).toInt = w := j_nI (by omega)
  have pe : ∀ (s : Sg) (c : Nat) (v : Int32), 422 ≤ c → pv (pt s c 23 l4 v) 6 = pv s 6 := fun s c v hc => pv_oc (pt_out) (by omega)
  refine ⟨_, ?_, rfl⟩
  show fX2_computeWindow_27 422 1 (0 + 1) σ (nI w) l4 (-1) = _
  rw [fX2_computeWindow_27, if_pos (by decide), show (1 + 5 : Nat) = 6 from rfl, s_v1, j_b, ew, ga_in hw, s_pt (by decide), j_b, s_v2, j_b, ew, ga_in hw, pe _ _ _ (by decide), s_pt (by decide), j_b, s_v3, j_b, ew, ga_in hw, pe _ _ _ (by decide), pe _ _ _ (by decide), s_pt (by decide), j_b, s_v4, j_b, ew, ga_in hw, pe _ _ _ (by decide), pe _ _ _ (by decide), pe _ _ _ (by decide), s_pt (by decide), j_b]
/-- a window is computed -/
theorem s_computeWindow (t : Tree (pv σ 6) d wn X) (tb : Tabs (pv σ 6) X) (ge : Geo (pv σ 6)) (hw : ∀ p, p < 12 → (0 ≤ rw12 (σ.1 2) p ∧ rw12 (σ.1 2) p ≤ 40) ∧ (pv σ 6 13 p ≠ -1 → 1 ≤ rw12 (σ.1 2) p)) (hh : ∀ p, p < 12 → 0 ≤ rw12 (σ.1 3) p ∧ rw12 (σ.1 3) p ≤ 40) {w : Nat} (w5 : w < 5) : ∃ σ', fX2_computeWindow σ 422 1 (nI w) = some σ' ∧ Out σ σ' 422 437 ∧ (∀ j n, j ≤ 7 → n < 23 → (pv σ 6 8 n = 3 ∨ wn n ≠ w) → qv σ' j n = qv σ j n) ∧ Wl (pv σ 6) (rw12 (σ.1 2)) (rw12 (σ.1 3)) (qv σ') wn w := by
  have ew : (nI w).toInt = w := j_nI (by omega)
  have t5 := t_ga (σ := σ) (b := 6) (j := 5) (n := 5) (p := (w : Int))
  rw [ga_in w5] at t5
  unfold fX2_computeWindow
  rw [show (1 + 5 : Nat) = 6 from rfl, s_rootOf, j_b, ew, ga_in w5]
  rcases t.wi w5 with z | ⟨r, hr, e5, hu, h9, ewn⟩
  · -- no root
    have em : oI (pv σ 6 5 w) = -1 := j_eq.mpr (by rw [t5, z, jm1])
    rw [em]
    have a8 : (su σ 422 8 0).1 422 8 = 0 := by rw [su_at, if_pos ⟨rfl, rfl⟩]
    have ln : fX2_listNodes σ 422 6 (-1) = some (su σ 422 8 0) := by
      unfold fX2_listNodes fX2_list
      rw [j_nm, if_pos rfl, j_b]
      show fX2_listNodes_12 422 6 (5999 + 1) _ 0 = _
      rw [fX2_listNodes_12, if_neg (by decide), a8, if_pos (by decide)]
    obtain ⟨σ2, a2, e2⟩ := s_wend (σ := su σ 422 8 0) w5 (-1)
    have same : σ2 = su σ 422 8 0 := by
      have p0 : ∀ (s : Sg) (c : Nat) (v : Int32), pt s c 23 (-1) v = s := fun s c v => by
        unfold pt
        rw [if_neg (by rw [jm1]; omega)]
      rw [e2, p0, p0, p0, p0]
    rw [same] at a2
    have fin : fX2_computeWindow_27 422 1 FU (su σ 422 8 0) (nI w) (-1) (-1) = some (su σ 422 8 0) := by
      have : fX2_computeWindow_27 422 1 FU (su σ 422 8 0) (nI w) (-1) (-1) = fX2_computeWindow_27 422 1 1 (su σ 422 8 0) (nI w) (-1) (-1) := by
        show fX2_computeWindow_27 422 1 (5999 + 1) _ _ _ _ = fX2_computeWindow_27 422 1 (0 + 1) _ _ _ _
        rw [fX2_computeWindow_27, if_pos (by decide), fX2_computeWindow_27, if_pos (by decide)]
      rw [this, a2]
      show fX2_computeWindow_147 422 1 (5999 + 1) _ 0 = _
      rw [fX2_computeWindow_147, a8, if_pos (by decide)]
    rw [ln, j_b, a8, j_nm]
    refine ⟨su σ 422 8 0, fin, su_out.mo (by omega) (by omega), fun j n hj hn _ => ?_, fun n hn nu hwn => ?_, fun r hr => ?_⟩
    · by_cases j0 : j = 0
      · subst j0
        unfold qv
        rw [if_neg (by omega), if_neg (by omega)]
      · exact qv_eq (by rw [su_ne (by omega)])
    · exfalso
      obtain ⟨w', x1, x2, x3⟩ := t.wr5 hn nu
      have : w' = w := by omega
      subst this
      exact x3 z
    · omega
  · have er : oI (pv σ 6 5 w) = nI r := j_eq.mpr (by rw [t5, e5, j_nI (by omega)])
    rw [er]
    obtain ⟨σ1, ls, a1, f1, r1, v1, B⟩ := s_listNodes t hr h9 hu
    have pe1 := f1.pv
    have hwB : ∀ p, p < 12 → 0 ≤ rw12 (σ.1 2) p ∧ rw12 (σ.1 2) p ≤ 40 := fun p hp => (hw p hp).1
    obtain ⟨σ2, a2, f2, hE⟩ := s_measure (σ := σ1) (d := d) (wn := wn) (X := X) (by rw [pe1]; exact t) (by rw [pe1]; exact tb) (by rw [f1.2.1 2 (by decide) (by decide), pe1]; exact hw) (by rw [f1.2.1 3 (by decide) (by decide)]; exact hh) (r := r) (ls := ls) (by rw [pe1]; exact B) (by rw [pe1]; exact h9) r1 (nI w) (nI r)
    rw [pe1, f1.2.1 2 (by decide) (by decide), f1.2.1 3 (by decide) (by decide)] at hE
    have pe2 : pv σ2 6 = pv σ 6 := f2.pv.trans pe1
    obtain ⟨σ3, a3, e3⟩ := s_wend (σ := σ2) w5 (nI r)
    rw [pe2] at e3
    have rr : (nI r).toInt = r := j_nI (by omega)
    have ps : ∀ (s : Sg) (c : Nat) (v : Int32), pt s c 23 (nI r) v = su s c r v := fun s c v => by
      unfold pt
      rw [rr, if_pos (by omega)]
      rfl
    rw [ps, ps, ps, ps] at e3
    have pv4 : ∀ j, (oI (pv σ 6 j w)).toInt = pv σ 6 j w := fun j => j_oI (pv_rg σ 6 j w).1 (pv_rg σ 6 j w).2
    have o3 : Out σ2 σ3 426 429 := by
      rw [e3]
      exact (((su_out.mo (by omega) (by omega)).tr (su_out.mo (by omega) (by omega))).tr (su_out.mo (by omega) (by omega))).tr (su_out.mo (by omega) (by omega))
    have q3 : ∀ j i, i ≠ r → σ3.1 j i = σ2.1 j i := fun j i hi => by
      rw [e3, su_at, if_neg (fun z => hi z.2), su_at, if_neg (fun z => hi z.2), su_at, if_neg (fun z => hi z.2), su_at, if_neg (fun z => hi z.2)]
    have c4 : σ3.1 426 r = oI (pv σ 6 1 w) := by rw [e3, su_at, if_neg (by omega), su_at, if_neg (by omega), su_at, if_neg (by omega), su_at, if_pos ⟨rfl, rfl⟩]
    have c5 : σ3.1 427 r = oI (pv σ 6 2 w) := by rw [e3, su_at, if_neg (by omega), su_at, if_neg (by omega), su_at, if_pos ⟨rfl, rfl⟩]
    have c6 : σ3.1 428 r = oI (pv σ 6 3 w) := by rw [e3, su_at, if_neg (by omega), su_at, if_pos ⟨rfl, rfl⟩]
    have c7 : σ3.1 429 r = oI (pv σ 6 4 w) := by rw [e3, su_at, if_pos ⟨rfl, rfl⟩]
    have pe3 : pv σ3 6 = pv σ 6 := (pv_oc o3 (by decide)).trans pe2
    have Q3 : ∀ j i, j ≤ 3 → qv σ3 j i = qv σ2 j i := fun j i hj => qv_eq (by rw [o3.2 _ (by omega)])
    obtain ⟨g1, g2, g3, g4⟩ := ge w w5
    obtain ⟨σ4, a4, f4, k4, hA⟩ := s_arr147 (σ := σ3) (d := d) (wn := wn) (X := X) (mw := rw12 (σ.1 2)) (mh := rw12 (σ.1 3)) (by rw [pe3]; exact t) hwB hh (r := r) (ls := ls) (by rw [pe3]; exact B) (by rw [pe3]; exact h9) (by rw [o3.2 430 (by omega), f2.2.1 430 (by omega)]; exact r1) (by rw [o3.2 422 (by omega), f2.2.1 422 (by omega)]; exact v1) (fun n hn => by
      rw [pe3]
      exact (hE n hn).cg t (B.2.2.1 n hn).1 (fun j c hj _ _ => Q3 j c hj)) (by
      rw [qv_at (by decide) (by decide) hr, qv_at (by decide) (by decide) hr]
      show (0 ≤ (σ3.1 428 r).toInt ∧ (σ3.1 428 r).toInt ≤ 400) ∧ 0 ≤ (σ3.1 429 r).toInt ∧ (σ3.1 429 r).toInt ≤ 400
      rw [c6, c7, pv4, pv4]
      omega)
    rw [pe3] at hA
    have all := B.all t hr h9 hu w5 e5
    have OO : Out σ σ4 422 437 := by
      refine ⟨f4.1.trans (o3.1.trans (f2.1.trans f1.1)), fun c hc => ?_⟩
      rw [f4.2.1 c (by omega), o3.2 c (by omega), f2.2.1 c (by omega), f1.2.1 c (by omega) (by omega)]
    refine ⟨σ4, ?_, OO, fun j n hj hn hx => ?_, fun n hn nu hwn => ?_, fun r' hr' => ?_⟩
    · rw [a1, j_b, v1, j_nm, a2, a3, a4]
    · have nl : ¬ n ∈ ls := fun y => by
        obtain ⟨y1, y2, y3⟩ := (all n).mp y
        rcases hx with x | x
        · exact y2 x
        · exact x y3
      by_cases j0 : j = 0
      · subst j0
        unfold qv
        rw [if_neg (by omega), if_neg (by omega)]
      · refine qv_eq ?_
        have nr : n ≠ r := fun y => nl (by rw [y]; exact (all r).mpr ⟨hr, hu, ewn⟩)
        have b1 : σ4.1 (422 + j) n = σ3.1 (422 + j) n := by
          by_cases y : 4 ≤ j
          · exact f4.2.2 _ n (by omega) (by omega) nl
          · rw [f4.2.1 _ (by omega)]
        rw [b1, q3 _ n nr, f2.2.2 _ n (by omega) nl, f1.2.1 _ (by omega) (by omega)]
    · have nl := (all n).mpr ⟨hn, nu, hwn⟩
      refine ⟨(hE n nl).cg t hn (fun j c hj _ _ => ?_), hA n nl⟩
      rw [← Q3 j c hj]
      exact qv_eq (by rw [f4.2.1 _ (by omega)])
    · have : r' = r := by omega
      subst this
      rw [qv_at (by decide) (by decide) hr, qv_at (by decide) (by decide) hr, qv_at (by decide) (by decide) hr, qv_at (by decide) (by decide) hr]
      show (σ4.1 426 r').toInt = _ ∧ (σ4.1 427 r').toInt = _ ∧ (σ4.1 428 r').toInt = _ ∧ (σ4.1 429 r').toInt = _
      rw [k4 426 (by decide) (by decide), k4 427 (by decide) (by decide), k4 428 (by decide) (by decide), k4 429 (by decide) (by decide), c4, c5, c6, c7, pv4, pv4, pv4, pv4]
      exact ⟨rfl, rfl, rfl, rfl⟩
/-- compute: the plan is right for the state -/
theorem s_compute (t : Tree (pv σ 6) d wn X) (tb : Tabs (pv σ 6) X) (ge : Geo (pv σ 6)) (hw : ∀ p, p < 12 → (0 ≤ rw12 (σ.1 2) p ∧ rw12 (σ.1 2) p ≤ 40) ∧ (pv σ 6 13 p ≠ -1 → 1 ≤ rw12 (σ.1 2) p)) (hh : ∀ p, p < 12 → 0 ≤ rw12 (σ.1 3) p ∧ rw12 (σ.1 3) p ≤ 40) : ∃ σ', fX2_compute σ 422 1 = some σ' ∧ Out σ σ' 422 437 ∧ Lay (pv σ 6) (rw12 (σ.1 2)) (rw12 (σ.1 3)) (qv σ') ∧ ∀ n, n < 23 → pv σ 6 8 n = 3 → qv σ' 1 n = 0 := by
  unfold fX2_compute
  obtain ⟨σ1, a1, o1, v1⟩ := s_fill σ 423 23 0 (by decide)
  rw [show (422 + 1 : Nat) = 423 from rfl, a1, j_b]
  have O1 : Out σ σ1 422 437 := o1.mo (by omega) (by omega)
  refine lp (F := fun m (s : Sg × Int32) => fX2_compute_10 422 1 m s.1 s.2) (Q := fun o => ∃ σ', o = some σ' ∧ Out σ σ' 422 437 ∧ Lay (pv σ 6) (rw12 (σ.1 2)) (rw12 (σ.1 3)) (qv σ') ∧ ∀ n, n < 23 → pv σ 6 8 n = 3 → qv σ' 1 n = 0) (fun i s => s.2 = nI i ∧ Out σ s.1 422 437 ∧ (∀ w, w < i → Wl (pv σ 6) (rw12 (σ.1 2)) (rw12 (σ.1 3)) (qv s.1) wn w) ∧ ∀ n, n < 23 → pv σ 6 8 n = 3 → qv s.1 1 n = 0) 5 ?_ ?_ 5 0 FU (σ1, 0) rfl (by decide) ⟨rfl, O1, fun w hw => absurd hw (by omega), fun n hn _ => by
    rw [qv_at (by decide) (by decide) hn]
    show (σ1.1 423 n).toInt = 0
    rw [v1 n hn]
    rfl⟩
  · rintro m i ⟨s, l⟩ hi ⟨rfl, ho, hv, h0⟩
    simp only at ho hv h0
    have pe : pv s 6 = pv σ 6 := pv_oc ho (by decide)
    have e2 : s.1 2 = σ.1 2 := ho.2 2 (by omega)
    have e3 : s.1 3 = σ.1 3 := ho.2 3 (by omega)
    obtain ⟨σ2, a2, o2, f2, w2⟩ := s_computeWindow (σ := s) (d := d) (wn := wn) (X := X) (by rw [pe]; exact t) (by rw [pe]; exact tb) (by rw [pe]; exact ge) (by rw [pe, e2]; exact hw) (by rw [e3]; exact hh) hi
    rw [pe] at f2
    rw [pe, e2, e3] at w2
    show ∃ s' : Sg × Int32, _ ∧ fX2_compute_10 422 1 (m + 1) s (nI i) = _
    rw [fX2_compute_10, if_neg (n_ge 5 (m := 5) rfl hi (by decide)), a2, j_b, j_s]
    refine ⟨(σ2, nI (i + 1)), ⟨rfl, ho.tr o2, fun w hw => ?_, fun n hn hf => ?_⟩, rfl⟩
    · by_cases q : w = i
      · subst q
        exact w2
      · exact (hv w (by omega)).cg t (by omega) q f2
    · show qv σ2 1 n = 0
      rw [f2 1 n (by decide) hn (Or.inl hf)]
      exact h0 n hn hf
  · rintro m ⟨s, l⟩ ⟨rfl, ho, hv, h0⟩
    simp only at ho hv h0
    show ∃ σ', fX2_compute_10 422 1 (m + 1) s (nI 5) = _ ∧ _
    rw [fX2_compute_10, if_pos (n_le 5 (m := 5) rfl (by decide))]
    have at_ : ∀ n, n < 23 → pv σ 6 8 n ≠ 3 → EM (pv σ 6) (rw12 (σ.1 2)) (rw12 (σ.1 3)) (qv s) n ∧ EA (pv σ 6) (qv s) n := fun n hn hu => by
      obtain ⟨w, w5, e, -⟩ := t.wr5 hn hu
      exact (hv w w5).1 n hn hu e
    exact ⟨s, rfl, ho, ⟨fun n hn k => (at_ n hn (by omega)).1.1 k, fun n hn k => (at_ n hn (by omega)).1.2 k, fun w n hw e => (hv w hw).2 n e, fun n hn k q => (at_ n hn (by omega)).2 k q⟩, h0⟩
end CP
end
section
/-! THE RELATION: the reference's plan (1): depths and least sizes -/
/-- the reference's plan: 1 seen, 2 and 3 least, 4 to 7 the rectangle -/
def mq (σ : Sg) : VW := fun j n => if n < 24 then (if j = 1 then (σ.1 467 n).toInt else if j = 2 then (σ.1 468 (2 * n)).toInt else if j = 3 then (σ.1 468 (2 * n + 1)).toInt else if 4 ≤ j ∧ j ≤ 7 then (σ.1 469 (4 * n + (j - 4))).toInt else 0) else 0
section ML
variable {σ : Sg} {V : VW} {d : Nat → Nat} {wn : Nat → Int} {X Y : Nat → Bool} {mw mh : Nat → Int}
theorem mq1 {n : Nat} (hn : n < 24) : mq σ 1 n = (σ.1 467 n).toInt := by
  unfold mq
  rw [if_pos hn, if_pos rfl]
theorem mq2 {n : Nat} (hn : n < 24) : mq σ 2 n = (σ.1 468 (2 * n)).toInt := by
  unfold mq
  rw [if_pos hn, if_neg (by decide), if_pos rfl]
theorem mq3 {n : Nat} (hn : n < 24) : mq σ 3 n = (σ.1 468 (2 * n + 1)).toInt := by
  unfold mq
  rw [if_pos hn, if_neg (by decide), if_neg (by decide), if_pos rfl]
theorem mq47 {n j : Nat} (hn : n < 24) (h4 : 4 ≤ j) (h7 : j ≤ 7) : mq σ j n = (σ.1 469 (4 * n + (j - 4))).toInt := by
  unfold mq
  rw [if_pos hn, if_neg (by omega), if_neg (by omega), if_neg (by omega), if_pos ⟨h4, h7⟩]
theorem m_dep17 (h : VM (mv (σ.1 463)) V X) (t : Tree V d wn Y) {n : Nat} (hn : n < 23) (hu : V 8 n ≠ 3) (h0 : σ.1 466 n = 0) (K : Sg → Int32 → Option Sg) : ∃ σ', fX9_laysDepths_17 462 K FU σ (nI n) (nI n) = K σ' (nI (n + 1)) ∧ Out σ σ' 466 466 ∧ (∀ i, i ≠ n → σ'.1 466 i = σ.1 466 i) ∧ σ'.1 466 n = nI (dq V n) := by
  obtain ⟨q1, q2, q3⟩ := t.dqs hn hu
  have en : (nI n).toInt = n := j_nI (by omega)
  refine lp (F := fun m (s : Sg × Int32) => fX9_laysDepths_17 462 K m s.1 (nI n) s.2) (Q := fun o => ∃ σ', o = K σ' (nI (n + 1)) ∧ Out σ σ' 466 466 ∧ (∀ i, i ≠ n → σ'.1 466 i = σ.1 466 i) ∧ σ'.1 466 n = nI (dq V n)) (fun i s => Out σ s.1 466 466 ∧ (∀ k, k ≠ n → s.1.1 466 k = σ.1 466 k) ∧ s.1.1 466 n = nI i ∧ ∃ m : Nat, m < 23 ∧ v_top V i n = m ∧ V 8 m ≠ 3 ∧ s.2 = nI m) (dq V n) ?_ ?_ (dq V n) 0 FU (σ, nI n) (by omega) (by show _ < 6000; omega) ⟨Out.rf, fun _ _ => rfl, h0, n, hn, rfl, hu, rfl⟩
  · rintro f i ⟨s, l⟩ hi ⟨ho, hk, hv, m, hm, em, hum, rfl⟩
    simp only at ho hk hv
    have e63 : s.1 463 = σ.1 463 := ho.2 463 (by omega)
    have mm : (nI m).toInt = m := j_nI (by omega)
    have nr := q3 i hi
    rw [em, ga_in hm] at nr
    obtain ⟨s', hs', es', ks', -⟩ := t.pa hm nr
    have u0 : ¬ oI (mv (σ.1 463) 0 n) = 0 := fun z => by
      rw [j_eq, t_mv, jz0] at z
      exact hu ((h.k0 hn (t.ki hn)).mp z)
    have u1 : oI (mv (σ.1 463) 1 m) = nI s' := j_eq.mpr (by rw [t_mv, h.pa hm hum, es', j_nI (by omega)])
    have u2 : ¬ nI s' = -1 := fun z => by
      rw [j_eq, j_nI (by omega), jm1] at z
      omega
    have up : ∀ v, (su s 466 n v).1 463 = σ.1 463 := fun v => by rw [su_ne (by decide), e63]
    show ∃ s'' : Sg × Int32, _ ∧ fX9_laysDepths_17 462 K (f + 1) s (nI n) (nI m) = _
    rw [fX9_laysDepths_17, m_i0 en (by omega), j_b, e63, if_neg u0, m_i1 mm (by omega), j_b, e63, u1, if_neg u2, if_pos (j_ckn (by omega) (by decide)), if_pos (j_ckn (by omega) (by decide)), j_cl _ (by omega), j_nm, show (462 + 4 : Nat) = 466 from rfl, m_i1 mm (by omega), j_b, up, u1]
    refine ⟨(_, nI s'), ⟨ho.tr su_out, fun k hkn => ?_, ?_, s', hs', ?_, by omega, rfl⟩, rfl⟩
    · show (su s 466 n _).1 466 k = _
      rw [su_at, if_neg (fun z => hkn z.2), hk k hkn]
    · show (su s 466 n _).1 466 n = _
      rw [su_at, if_pos ⟨rfl, rfl⟩, hv, j_s]
    · rw [v_top_nx, em, ga_in hm, if_neg nr, es']
  · rintro f ⟨s, l⟩ ⟨ho, hk, hv, m, hm, em, hum, rfl⟩
    simp only at ho hk hv
    have e63 : s.1 463 = σ.1 463 := ho.2 463 (by omega)
    have mm : (nI m).toInt = m := j_nI (by omega)
    rw [em, ga_in hm] at q2
    have u0 : ¬ oI (mv (σ.1 463) 0 n) = 0 := fun z => by
      rw [j_eq, t_mv, jz0] at z
      exact hu ((h.k0 hn (t.ki hn)).mp z)
    have u1 : oI (mv (σ.1 463) 1 m) = -1 := j_eq.mpr (by rw [t_mv, h.pa hm hum, q2, jm1])
    show ∃ σ', fX9_laysDepths_17 462 K (f + 1) s (nI n) (nI m) = _ ∧ _
    rw [fX9_laysDepths_17, m_i0 en (by omega), j_b, e63, if_neg u0, m_i1 mm (by omega), j_b, e63, if_pos u1]
    unfold fX9_laysDepths_56
    rw [j_s]
    exact ⟨s, rfl, ho, hk, hv⟩
theorem m_laysDepths (h : VM (mv (σ.1 463)) V X) (t : Tree V d wn Y) : ∃ σ', fX9_laysDepths σ 462 = some σ' ∧ Out σ σ' 466 466 ∧ ∀ n, n < 23 → V 8 n ≠ 3 → σ'.1 466 n = nI (dq V n) := by
  unfold fX9_laysDepths
  refine lp (F := fun m (s : Sg × Int32) => fX9_laysDepths_2 462 m s.1 s.2) (Q := fun o => ∃ σ', o = some σ' ∧ Out σ σ' 466 466 ∧ ∀ n, n < 23 → V 8 n ≠ 3 → σ'.1 466 n = nI (dq V n)) (fun i s => s.2 = nI i ∧ Out σ s.1 466 466 ∧ ∀ n, n < i → n < 23 → V 8 n ≠ 3 → s.1.1 466 n = nI (dq V n)) 24 ?_ ?_ 24 0 FU (σ, 0) rfl (by decide) ⟨rfl, Out.rf, fun n hn => absurd hn (by omega)⟩
  · rintro f i ⟨s, l⟩ hi ⟨rfl, ho, hv⟩
    simp only at ho hv
    have ei : (nI i).toInt = i := j_nI (by omega)
    have e63 : (su s 466 i 0).1 463 = σ.1 463 := by rw [su_ne (by decide), ho.2 463 (by omega)]
    show ∃ s' : Sg × Int32, _ ∧ fX9_laysDepths_2 462 (f + 1) s (nI i) = _
    rw [fX9_laysDepths_2, if_neg (n_ge 24 (m := 24) rfl hi (by decide)), if_pos (j_ckn hi (by decide)), j_nm, j_cl _ (by omega), show (462 + 4 : Nat) = 466 from rfl]
    by_cases q : i < 23 ∧ V 8 i ≠ 3
    · obtain ⟨σ2, a2, o2, k2, v2⟩ := m_dep17 (σ := su s 466 i 0) (V := V) (X := X) (by rw [e63]; exact h) t q.1 q.2 (by rw [su_at, if_pos ⟨rfl, rfl⟩]) (fX9_laysDepths_2 462 f)
      rw [a2]
      refine ⟨(σ2, nI (i + 1)), ⟨rfl, (ho.tr su_out).tr o2, fun n hn h23 hu => ?_⟩, rfl⟩
      by_cases z : n = i
      · rw [z]
        exact v2
      · show σ2.1 466 n = _
        rw [k2 n z, su_at, if_neg (fun y => z y.2)]
        exact hv n (by omega) h23 hu
    · have u0 : oI (mv (σ.1 463) 0 i) = 0 := j_eq.mpr (by
        rw [t_mv, jz0]
        by_cases y : i < 23
        · exact (h.k0 y (t.ki y)).mpr (Classical.byContradiction (fun u => q ⟨y, u⟩))
        · have : i = 23 := by omega
          rw [this]
          exact h.l)
      show ∃ s' : Sg × Int32, _ ∧ fX9_laysDepths_17 462 _ (5999 + 1) (su s 466 i 0) (nI i) (nI i) = _
      rw [fX9_laysDepths_17, m_i0 ei hi, j_b, e63, if_pos u0]
      unfold fX9_laysDepths_56
      rw [j_s]
      refine ⟨(_, nI (i + 1)), ⟨rfl, ho.tr su_out, fun n hn h23 hu => ?_⟩, rfl⟩
      show (su s 466 i 0).1 466 n = _
      have z : n ≠ i := fun z => q (by rw [← z]; exact ⟨h23, hu⟩)
      rw [su_at, if_neg (fun y => z y.2)]
      exact hv n (by omega) h23 hu
  · rintro f ⟨s, l⟩ ⟨rfl, ho, hv⟩
    simp only at ho hv
    show ∃ σ', fX9_laysDepths_2 462 (f + 1) s (nI 24) = _ ∧ _
    rw [fX9_laysDepths_2, if_pos (n_le 24 (m := 24) rfl (by decide))]
    exact ⟨s, rfl, ho, fun n hn hu => hv n (by omega) hn hu⟩
end ML
end
section
/-! THE RELATION: the reference's plan (2): least sizes -/
section MB
variable {σ : Sg} {V : VW} {d : Nat → Nat} {wn : Nat → Int} {X Y : Nat → Bool} {mw mh : Nat → Int}
/-- what a least size leaves alone -/
def Fq (σ σ' : Sg) (n : Nat) : Prop := Out σ σ' 467 468 ∧ (∀ i, i ≠ n → σ'.1 467 i = σ.1 467 i) ∧ ∀ i, i ≠ 2 * n → i ≠ 2 * n + 1 → σ'.1 468 i = σ.1 468 i
theorem Fq.row {σ' : Sg} {n : Nat} (h : Fq σ σ' n) {j i : Nat} (hi : i ≠ n) : mq σ' j i = mq σ j i := by
  unfold mq
  rw [h.2.1 i hi, h.2.2 (2 * i) (by omega) (by omega), h.2.2 (2 * i + 1) (by omega) (by omega), h.1.2 469 (by omega)]
theorem m_ll282 {n : Nat} (hn : n < 24) (a b : Int32) (s : Bool) : ∃ σ', fX9_laysLeast_282 462 σ (nI n) a b (if s then 1 else 0) = some σ' ∧ Fq σ σ' n ∧ mq σ' 1 n = (if s then 1 else 0) ∧ mq σ' 2 n = a.toInt ∧ mq σ' 3 n = b.toInt := by
  have e2 : (2 : Int32) * nI n = nI (2 * n) := (Int32.ofNat_mul 2 n).symm
  have vb : vp_nar .boolean (if s then (1 : Int32) else 0) = if s then 1 else 0 := by
    cases s
    · decide
    · decide
  unfold fX9_laysLeast_282
  rw [vb, if_pos (j_ckn hn (by decide)), j_nm, e2, if_pos (j_ckn (by omega) (by decide)), j_nm, j_s, if_pos (j_ckn (by omega) (by decide)), j_nm, j_cl _ (by omega), j_cl _ (by omega), j_cl _ (by omega), show (462 + 5 : Nat) = 467 from rfl, show (462 + 6 : Nat) = 468 from rfl]
  refine ⟨_, rfl, ⟨((su_out.mo (by omega) (by omega)).tr (su_out.mo (by omega) (by omega))).tr (su_out.mo (by omega) (by omega)), fun i hi => ?_, fun i h1 h2 => ?_⟩, ?_, ?_, ?_⟩
  · rw [su_at, if_neg (by omega), su_at, if_neg (by omega), su_at, if_neg (fun z => hi z.2)]
  · rw [su_at, if_neg (fun z => h2 z.2), su_at, if_neg (fun z => h1 z.2), su_at, if_neg (by omega)]
  · rw [mq1 hn, su_at, if_neg (by omega), su_at, if_neg (by omega), su_at, if_pos ⟨rfl, rfl⟩]
    cases s <;> rfl
  · rw [mq2 hn, su_at, if_neg (by omega), su_at, if_pos ⟨rfl, rfl⟩]
  · rw [mq3 hn, su_at, if_pos ⟨rfl, rfl⟩]
theorem gx_nil {c : Nat → Bool} {f : Nat → Int} {n : Nat} (h : cnt c n = 0) : gx c f n = 0 := by
  obtain ⟨-, -, r⟩ := gx_le c f n
  rcases r with r | ⟨x, hx, cx, -⟩
  · exact r
  · rw [cnt_zero.mp h x hx] at cx
    cases cx
theorem cnt_nx (c : Nat → Bool) (n : Nat) : cnt c (n + 1) = cnt c n + (if c n then 1 else 0) := rfl
/-- a group's least size -/
theorem m_leastG (h : VM (mv (σ.1 463)) V X) (hm : ∀ p, p < 12 → V 13 p ≠ -1 → mv (σ.1 463) 7 p = mw p ∧ mv (σ.1 463) 8 p = mh p) (hh : ∀ p, p < 12 → 0 ≤ mh p ∧ mh p ≤ 40) {n : Nat} (hn : n < 23) (k : V 8 n = 2) : ∃ σ', fX9_laysLeast σ 462 (nI n) = some σ' ∧ Fq σ σ' n ∧ LG V mw mh (mq σ') n := by
  have en : (nI n).toInt = n := j_nI (by omega)
  have u0 : oI (mv (σ.1 463) 0 n) = 2 := by rw [h.k2 hn k]; rfl
  unfold fX9_laysLeast
  rw [m_i0 en (by omega), j_b, if_pos u0]
  refine lp (F := fun m (s : Int32 × Int32 × Int32 × Int32) => fX9_laysLeast_20 462 m σ (nI n) s.1 s.2.1 s.2.2.1 s.2.2.2) (Q := fun o => ∃ σ', o = some σ' ∧ Fq σ σ' n ∧ LG V mw mh (mq σ') n) (fun i s => s.1.toInt = gx (vis V n) mw i ∧ s.2.1.toInt = (if 1 ≤ cnt (vis V n) i then gx (vis V n) mh i + 1 else 0) ∧ s.2.2.1 = (if decide (1 ≤ cnt (vis V n) i) then 1 else 0) ∧ s.2.2.2 = nI i) 12 ?_ ?_ 12 0 FU (0, 0, 0, 0) rfl (by decide) ⟨rfl, rfl, rfl, rfl⟩
  · rintro m i ⟨a, b, f, l⟩ hi ⟨ha, hb, hf, rfl⟩
    simp only at ha hb hf
    have ei : (nI i).toInt = i := j_nI (by omega)
    have ge : (oI (mv (σ.1 463) 9 i) = nI n) ↔ V 13 i = n := by rw [j_eq, t_mv, h.gr hi, j_nI (by omega)]
    have hid : (oI (mv (σ.1 463) 11 i) = 0) ↔ V 15 i = 0 := by rw [j_eq, t_mv, h.hi hi, jz0]
    have skip : vis V n i = false → ∃ s' : Int32 × Int32 × Int32 × Int32, (s'.1.toInt = gx (vis V n) mw (i + 1) ∧ s'.2.1.toInt = (if 1 ≤ cnt (vis V n) (i + 1) then gx (vis V n) mh (i + 1) + 1 else 0) ∧ s'.2.2.1 = (if decide (1 ≤ cnt (vis V n) (i + 1)) then 1 else 0) ∧ s'.2.2.2 = nI (i + 1)) ∧ fX9_laysLeast_20 462 m σ (nI n) a b f (nI (i + 1)) = fX9_laysLeast_20 462 m σ (nI n) s'.1 s'.2.1 s'.2.2.1 s'.2.2.2 := fun v0 => by
      have c1 : cnt (vis V n) (i + 1) = cnt (vis V n) i := by rw [cnt_nx, v0]; rfl
      have g1 : ∀ f, gx (vis V n) f (i + 1) = gx (vis V n) f i := fun f => by
        show (if vis V n i then _ else _) = _
        rw [v0]
        rfl
      exact ⟨(a, b, f, nI (i + 1)), ⟨by rw [g1]; exact ha, by rw [c1, g1]; exact hb, by rw [c1]; exact hf, rfl⟩, rfl⟩
    show ∃ s' : Int32 × Int32 × Int32 × Int32, _ ∧ fX9_laysLeast_20 462 (m + 1) σ (nI n) a b f (nI i) = _
    have nle : ¬ (12 : Int32) ≤ nI i := n_ge 12 (m := 12) rfl hi (by decide)
    rw [fX9_laysLeast_20, if_neg nle, m_o3 ei hi, j_b]
    by_cases q : V 13 i = n
    · have q' := ge.mpr q
      rw [if_pos q', m_o5 ei hi, j_b]
      by_cases z : V 15 i = 0
      · have z' := hid.mpr z
        have v1 : vis V n i = true := by
          unfold vis
          rw [decide_eq_true q, decide_eq_true z]
          rfl
        obtain ⟨e7, e8⟩ := hm i hi (by omega)
        have c1 : cnt (vis V n) (i + 1) = cnt (vis V n) i + 1 := by rw [cnt_nx, v1]; rfl
        have g1 : ∀ f, gx (vis V n) f (i + 1) = if gx (vis V n) f i < f i then f i else gx (vis V n) f i := fun f => by
          show (if vis V n i then _ else _) = _
          rw [v1]
          rfl
        have hb8 := hh i hi
        have m8 : (oI (mv (σ.1 463) 8 i) + 1).toInt = mh i + 1 := by
          rw [j_add (by rw [t_mv, e8, jz1]; omega) (by rw [t_mv, e8, jz1]; omega), t_mv, e8, jz1]
        have g0 := (gx_le (vis V n) mh i).1
        -- the height
        have ht : ∀ a' : Int32, a'.toInt = gx (vis V n) mw (i + 1) → ∃ s' : Int32 × Int32 × Int32 × Int32, (s'.1.toInt = gx (vis V n) mw (i + 1) ∧ s'.2.1.toInt = (if 1 ≤ cnt (vis V n) (i + 1) then gx (vis V n) mh (i + 1) + 1 else 0) ∧ s'.2.2.1 = (if decide (1 ≤ cnt (vis V n) (i + 1)) then 1 else 0) ∧ s'.2.2.2 = nI (i + 1)) ∧ fX9_laysLeast_73 462 (fX9_laysLeast_20 462 m) σ (nI n) b 1 (nI i) a' = fX9_laysLeast_20 462 m σ (nI n) s'.1 s'.2.1 s'.2.2.1 s'.2.2.2 := fun a' ha' => by
          unfold fX9_laysLeast_73
          rw [m_o2 ei hi, j_b]
          have c2 : decide (1 ≤ cnt (vis V n) (i + 1)) = true := decide_eq_true (by omega)
          have c3 : 1 ≤ cnt (vis V n) (i + 1) := by omega
          by_cases y : (oI (mv (σ.1 463) 8 i) + 1) ≤ b
          · rw [if_pos y]
            rw [j_le, m8, hb] at y
            unfold fX9_laysLeast_100 fX9_laysLeast_101
            rw [j_s]
            refine ⟨(a', b, 1, nI (i + 1)), ⟨ha', ?_, by rw [c2]; rfl, rfl⟩, rfl⟩
            show b.toInt = _
            rw [if_pos c3, g1, hb]
            by_cases w : 1 ≤ cnt (vis V n) i
            · rw [if_pos w] at y ⊢
              rw [if_neg (by omega)]
            · rw [if_neg w] at y
              omega
          · rw [if_neg y, j_b]
            rw [j_le, m8, hb] at y
            unfold fX9_laysLeast_100 fX9_laysLeast_101
            rw [j_s]
            refine ⟨(a', _, 1, nI (i + 1)), ⟨ha', ?_, by rw [c2]; rfl, rfl⟩, rfl⟩
            show (oI (mv (σ.1 463) 8 i) + 1).toInt = _
            rw [m8, if_pos c3, g1]
            by_cases w : 1 ≤ cnt (vis V n) i
            · rw [if_pos w] at y
              rw [if_pos (by omega)]
            · have g00 := gx_nil (f := mh) (show cnt (vis V n) i = 0 by omega)
              rw [g00]
              split <;> omega
        rw [if_pos z', m_o1 ei hi, j_b]
        by_cases y : oI (mv (σ.1 463) 7 i) ≤ a
        · rw [if_pos y]
          rw [j_le, t_mv, e7, ha] at y
          exact ht a (by rw [g1, if_neg (by omega)]; exact ha)
        · rw [if_neg y, j_b]
          rw [j_le, t_mv, e7, ha] at y
          exact ht _ (by rw [t_mv, e7, g1, if_pos (by omega)])
      · have z' : ¬ oI (mv (σ.1 463) 11 i) = 0 := fun y => z (hid.mp y)
        rw [if_neg z']
        unfold fX9_laysLeast_101
        rw [j_s]
        exact skip (by unfold vis; rw [decide_eq_false z, Bool.and_false])
    · have q' : ¬ oI (mv (σ.1 463) 9 i) = nI n := fun y => q (ge.mp y)
      rw [if_neg q']
      unfold fX9_laysLeast_101
      rw [j_s]
      exact skip (by unfold vis; rw [decide_eq_false q, Bool.false_and])
  · rintro m ⟨a, b, f, l⟩ ⟨ha, hb, hf, rfl⟩
    simp only at ha hb hf
    show ∃ σ', fX9_laysLeast_20 462 (m + 1) σ (nI n) a b f (nI 12) = _ ∧ _
    rw [fX9_laysLeast_20, if_pos (n_le 12 (m := 12) rfl (by decide)), hf]
    obtain ⟨σ', e, fq, p1, p2, p3⟩ := m_ll282 (σ := σ) (n := n) (by omega) a b (decide (1 ≤ cnt (vis V n) 12))
    refine ⟨σ', e, fq, ?_⟩
    unfold LG
    rw [p1, p2, p3, ha, hb]
    by_cases w : 1 ≤ cnt (vis V n) 12
    · rw [decide_eq_true w, if_pos rfl, if_pos w]
      exact ⟨Or.inr rfl, ⟨fun _ => cnt_ex w, fun _ => rfl⟩, fun _ => ⟨rfl, rfl⟩⟩
    · rw [decide_eq_false w, if_neg (by decide), if_neg w]
      refine ⟨Or.inl rfl, ⟨fun z => absurd z (by decide), fun ⟨p, hp, vp⟩ => absurd (cnt_pos hp vp) w⟩, fun z => absurd z (by decide)⟩
end MB
end
section
/-! THE RELATION: the reference's plan (3): a split's least size -/
section MC
variable {σ : Sg} {V : VW} {d : Nat → Nat} {wn : Nat → Int} {X Y : Nat → Bool} {mw mh : Nat → Int}
/-- the sum with its dividers -/
def sd (c : Nat → Bool) (f : Nat → Int) (i : Nat) : Int := if 1 ≤ cnt c i then sm (fun k => if c k then f k else 0) i + cnt c i - 1 else 0
theorem sm_nil {c : Nat → Bool} {f : Nat → Int} {n : Nat} (h : cnt c n = 0) : sm (fun k => if c k then f k else 0) n = 0 := by
  refine Eq.trans (sm_congr (h := fun _ => 0) (fun i hi => ?_)) (sm_0 n)
  show (if c i = true then f i else 0) = 0
  rw [cnt_zero.mp h i hi]
  rfl
theorem sd_1 {c : Nat → Bool} {f : Nat → Int} {i : Nat} (h : c i = true) : sd c f (i + 1) = sd c f i + (if 1 ≤ cnt c i then 1 else 0) + f i := by
  have e : sm (fun k => if c k then f k else 0) (i + 1) = sm (fun k => if c k then f k else 0) i + f i := by
    show sm (fun k => if c k then f k else 0) i + (if c i then f i else 0) = _
    rw [h]
    rfl
  have e2 : cnt c (i + 1) = cnt c i + 1 := by rw [cnt_nx, h]; rfl
  unfold sd
  rw [e2, e, if_pos (by omega)]
  by_cases q : 1 ≤ cnt c i
  · rw [if_pos q, if_pos q]
    omega
  · have := sm_nil (f := f) (show cnt c i = 0 by omega)
    rw [if_neg q, if_neg q, this]
    omega
theorem sd_0 {c : Nat → Bool} {f : Nat → Int} {i : Nat} (h : c i = false) : sd c f (i + 1) = sd c f i := by
  have e : sm (fun k => if c k then f k else 0) (i + 1) = sm (fun k => if c k then f k else 0) i := by
    show sm (fun k => if c k then f k else 0) i + (if c i then f i else 0) = _
    rw [h]
    exact Int.add_zero _
  have e2 : cnt c (i + 1) = cnt c i := by rw [cnt_nx, h]; rfl
  unfold sd
  rw [e2, e]
theorem gx_1 {c : Nat → Bool} {f : Nat → Int} {i : Nat} (h : c i = true) : gx c f (i + 1) = if gx c f i < f i then f i else gx c f i := by
  show (if c i then _ else _) = _
  rw [h]
  rfl
theorem gx_0 {c : Nat → Bool} {f : Nat → Int} {i : Nat} (h : c i = false) : gx c f (i + 1) = gx c f i := by
  show (if c i then _ else _) = _
  rw [h]
  rfl
/-- the children seen -/
def cs (V P : VW) (n i : Nat) : Bool := decide (V 9 i = n) && decide (P 1 i = 1)
/-- a split's least size, once the sums are told -/
theorem ls_fin (t : Tree V d wn Y) {n : Nat} (hn : n < 23) (k : V 8 n ≤ 1) {P P' : VW} (hP : ∀ j i, i ≠ n → P' j i = P j i) (h1 : P' 1 n = if decide (1 ≤ cnt (cs V P n) 23) then 1 else 0) (hS : P' (2 + dr V n) n = (oI (sd (cs V P n) (P (2 + dr V n)) 23)).toInt) (hM : P' (3 - dr V n) n = gx (cs V P n) (P (3 - dr V n)) 23) : LT V P' n := by
  have ne : ∀ c, c < 23 → V 9 c = n → c ≠ n := fun c hc e z => by
    have := (t.par hc e).2.2.1
    rw [z] at this
    omega
  have ep : pls V P' n = pls V P n := pls_cg (fun c hc => by
    obtain ⟨a, b⟩ := (t.kids_mem hn k).mp hc
    exact hP 1 c (ne c a b))
  have mem := fun c => t.pls_mem (P := P) hn k (c := c)
  have memc : ∀ c, c ∈ pls V P n ↔ c < 23 ∧ cs V P n c = true := fun c => by
    rw [mem c]
    unfold cs
    simp only [Bool.and_eq_true, decide_eq_true_eq]
  have nd := t.pls_nd (P := P) hn k
  have lc := list_cnt (cs V P n) nd memc
  have pn : ∀ c ∈ pls V P n, c ≠ n := fun c hc => ne c ((mem c).mp hc).1 ((mem c).mp hc).2.1
  refine ⟨by rw [h1]; split <;> omega, ?_, fun q => ?_⟩
  · rw [h1]
    constructor
    · intro z
      by_cases w : 1 ≤ cnt (cs V P n) 23
      · obtain ⟨c, hc, e⟩ := cnt_ex w
        unfold cs at e
        simp only [Bool.and_eq_true, decide_eq_true_eq] at e
        exact ⟨c, hc, e.1, by rw [hP 1 c (ne c hc e.1)]; exact e.2⟩
      · rw [decide_eq_false w] at z
        exact absurd z (by decide)
    · rintro ⟨c, hc, e, p⟩
      rw [hP 1 c (ne c hc e)] at p
      have : 1 ≤ cnt (cs V P n) 23 := cnt_pos hc (by unfold cs; rw [decide_eq_true e, decide_eq_true p]; rfl)
      rw [decide_eq_true this]
      rfl
  · have w : 1 ≤ cnt (cs V P n) 23 := by
      refine Classical.byContradiction (fun w => ?_)
      rw [h1, decide_eq_false w] at q
      exact absurd q (by decide)
    rw [ep, hS, hM]
    constructor
    · refine congrArg (fun x => (oI x).toInt) ?_
      unfold sd
      rw [if_pos w, Sm_congr (f := P' (2 + dr V n)) (g := P (2 + dr V n)) (fun c hc => hP _ c (pn c hc)), list_sm (P (2 + dr V n)) (N := 23) nd (fun c hc => ((mem c).mp hc).1), lc]
      have : sm (fun k => if cs V P n k = true then P (2 + dr V n) k else 0) 23 = sm (fun i => if i ∈ pls V P n then P (2 + dr V n) i else 0) 23 := sm_congr (fun i hi => by
        by_cases y : cs V P n i = true
        · rw [if_pos y, if_pos ((memc i).mpr ⟨hi, y⟩)]
        · rw [if_neg y, if_neg (fun z => y ((memc i).mp z).2)])
      rw [this]
    · rw [lgx_cg (f := P' (3 - dr V n)) (g := P (3 - dr V n)) (fun c hc => hP _ c (pn c hc))]
      exact (lgx_gx (P (3 - dr V n)) (cs V P n) memc).symm
/-- the loop over the children (across) -/
theorem m_leastS0 (h : VM (mv (σ.1 463)) V X) (t : Tree V d wn Y) {n : Nat} (hn : n < 23) (k : V 8 n = 0) (hc : ∀ i, i < 23 → V 9 i = n → mq σ 1 i = 0 ∨ mq σ 1 i = 1) : ∃ σ', fX9_laysLeast σ 462 (nI n) = some σ' ∧ Fq σ σ' n ∧ LT V (mq σ') n := by
  have en : (nI n).toInt = n := j_nI (by omega)
  have two : (2 : Int32).toInt = 2 := rfl
  have k0 := (h.k1 hn (by omega)).1
  have k2 := (h.k1 hn (by omega)).2
  have u0 : ¬ oI (mv (σ.1 463) 0 n) = 2 := fun z => by
    rw [j_eq, t_mv, k0, two] at z
    omega
  have u2 : (oI (mv (σ.1 463) 2 n)) = 0 := by rw [k2, k]; rfl
  have dz : dr V n = 0 := by unfold dr; rw [k]; rfl
  have e2 : ∀ i, (2 : Int32) * nI i = nI (2 * i) := fun i => (Int32.ofNat_mul 2 i).symm
  unfold fX9_laysLeast
  rw [m_i0 en (by omega), j_b, if_neg u0]
  refine lp (F := fun m (s : Int32 × Int32 × Int32 × Int32) => fX9_laysLeast_113 462 m σ (nI n) s.1 s.2.1 s.2.2.1 s.2.2.2) (Q := fun o => ∃ σ', o = some σ' ∧ Fq σ σ' n ∧ LT V (mq σ') n) (fun i s => s.1 = oI (sd (cs V (mq σ) n) (mq σ (2 + 0)) (min i 23)) ∧ s.2.1.toInt = gx (cs V (mq σ) n) (mq σ (3 - 0)) (min i 23) ∧ s.2.2.1 = (if decide (1 ≤ cnt (cs V (mq σ) n) (min i 23)) then 1 else 0) ∧ s.2.2.2 = nI i) 24 ?_ ?_ 24 0 FU (0, 0, 0, 0) rfl (by decide) ⟨rfl, rfl, rfl, rfl⟩
  · rintro m i ⟨a, b, f, l⟩ hi ⟨hS, hM, hf, rfl⟩
    simp only at hS hM hf
    have ei : (nI i).toInt = i := j_nI (by omega)
    show ∃ s' : Int32 × Int32 × Int32 × Int32, _ ∧ fX9_laysLeast_113 462 (m + 1) σ (nI n) a b f (nI i) = _
    have nle : ¬ (24 : Int32) ≤ nI i := n_ge 24 (m := 24) rfl hi (by decide)
    rw [fX9_laysLeast_113, if_neg nle, m_isChild ei hi, j_b, en]
    by_cases i23 : i < 23
    · have m1 : min i 23 = i := by omega
      have m2 : min (i + 1) 23 = i + 1 := by omega
      rw [m1] at hS hM hf
      rw [h.ch t i23 (by omega)]
      have skip : cs V (mq σ) n i = false → ∃ s' : Int32 × Int32 × Int32 × Int32, (s'.1 = oI (sd (cs V (mq σ) n) (mq σ (2 + 0)) (min (i + 1) 23)) ∧ s'.2.1.toInt = gx (cs V (mq σ) n) (mq σ (3 - 0)) (min (i + 1) 23) ∧ s'.2.2.1 = (if decide (1 ≤ cnt (cs V (mq σ) n) (min (i + 1) 23)) then 1 else 0) ∧ s'.2.2.2 = nI (i + 1)) ∧ fX9_laysLeast_276 462 (fX9_laysLeast_113 462 m) σ (nI n) a b f (nI i) = fX9_laysLeast_113 462 m σ (nI n) s'.1 s'.2.1 s'.2.2.1 s'.2.2.2 := fun v0 => by
        unfold fX9_laysLeast_276
        rw [j_s, m2, sd_0 v0, gx_0 v0, cnt_nx, v0]
        exact ⟨(a, b, f, nI (i + 1)), ⟨hS, hM, hf, rfl⟩, rfl⟩
      by_cases q : V 9 i = n
      · have s7 : σ.1 467 i = 0 ↔ mq σ 1 i = 0 := by rw [mq1 (by omega), j_eq, jz0]
        have q' : decide (V 9 i = (n : Int)) = true := decide_eq_true q
        rw [if_pos q', if_pos (j_ckn (by omega) (by decide)), j_cl _ (by omega), show (462 + 5 : Nat) = 467 from rfl]
        rcases hc i i23 q with z | z
        · rw [if_pos (s7.mpr z)]
          exact skip (by unfold cs; rw [decide_eq_false (p := mq σ 1 i = 1) (by omega), Bool.and_false])
        · have n7 : ¬ σ.1 467 i = 0 := fun y => by rw [s7] at y; omega
          have v1 : cs V (mq σ) n i = true := by unfold cs; rw [decide_eq_true q, decide_eq_true z]; rfl
          have p2 : σ.1 468 (2 * i) = oI (mq σ 2 i) := by rw [mq2 (by omega), j_oIt]
          have p3 : σ.1 468 (2 * i + 1) = oI (mq σ 3 i) := by rw [mq3 (by omega), j_oIt]
          have t2 : (oI (mq σ 2 i)).toInt = mq σ 2 i := by rw [← p2, mq2 (by omega)]
          have t3 : (oI (mq σ 3 i)).toInt = mq σ 3 i := by rw [← p3, mq3 (by omega)]
          have c1 : cnt (cs V (mq σ) n) (i + 1) = cnt (cs V (mq σ) n) i + 1 := by rw [cnt_nx, v1]; rfl
          have c2 : decide (1 ≤ cnt (cs V (mq σ) n) (i + 1)) = true := decide_eq_true (by omega)
          have ck0 : ck (nI (2 * i)) 48 := j_ckn (by omega) (by decide)
          have ck1 : ck (nI (2 * i + 1)) 48 := j_ckn (by omega) (by decide)
          have p2' : σ.1 (462 + 6) (nI (2 * i)).toNatClampNeg = oI (mq σ 2 i) := by rw [j_cl _ (by omega)]; exact p2
          have p3' : σ.1 (462 + 6) (nI (2 * i + 1)).toNatClampNeg = oI (mq σ 3 i) := by rw [j_cl _ (by omega)]; exact p3
          have div : ∀ g : Int32, g = (if 1 ≤ cnt (cs V (mq σ) n) i then 1 else 0) → g = oI (if 1 ≤ cnt (cs V (mq σ) n) i then 1 else 0) := fun g hg => by
            rw [hg]
            split <;> rfl
          rw [if_neg n7, m_i2 en (by omega), j_b, u2, if_neg (show ¬ (0 : Int32) = 1 by decide)]
          have go : ∀ g : Int32, g = (if 1 ≤ cnt (cs V (mq σ) n) i then 1 else 0) → ∃ s' : Int32 × Int32 × Int32 × Int32, (s'.1 = oI (sd (cs V (mq σ) n) (mq σ (2 + 0)) (min (i + 1) 23)) ∧ s'.2.1.toInt = gx (cs V (mq σ) n) (mq σ (3 - 0)) (min (i + 1) 23) ∧ s'.2.2.1 = (if decide (1 ≤ cnt (cs V (mq σ) n) (min (i + 1) 23)) then 1 else 0) ∧ s'.2.2.2 = nI (i + 1)) ∧ fX9_laysLeast_167 462 (fX9_laysLeast_113 462 m) σ (nI n) a b (nI i) 0 g = fX9_laysLeast_113 462 m σ (nI n) s'.1 s'.2.1 s'.2.2.1 s'.2.2.2 := fun g hg => by
            have hg := div g hg
            rw [m2, sd_1 v1, gx_1 v1]
            unfold fX9_laysLeast_167
            rw [if_pos rfl, e2, if_pos ck0]
            have sum : (a + g) + σ.1 (462 + 6) (nI (2 * i)).toNatClampNeg = oI (sd (cs V (mq σ) n) (mq σ (2 + 0)) i + (if 1 ≤ cnt (cs V (mq σ) n) i then 1 else 0) + mq σ (2 + 0) i) := by
              rw [p2', hS, hg, j_oa, j_oa]
            unfold fX9_laysLeast_217
            rw [if_pos rfl, e2, j_s, if_pos ck1]
            by_cases y : σ.1 (462 + 6) (nI (2 * i + 1)).toNatClampNeg ≤ b
            · rw [if_pos y]
              unfold fX9_laysLeast_272 fX9_laysLeast_276
              rw [j_s]
              rw [j_le, p3', t3, hM] at y
              refine ⟨(_, b, 1, nI (i + 1)), ⟨sum, ?_, by rw [c2]; rfl, rfl⟩, rfl⟩
              show b.toInt = _
              have y : mq σ (3 - 0) i ≤ gx (cs V (mq σ) n) (mq σ (3 - 0)) i := y
              rw [if_neg (by omega), hM]
            · rw [if_neg y, if_pos ck1]
              unfold fX9_laysLeast_272 fX9_laysLeast_276
              rw [j_s]
              rw [j_le, p3', t3, hM] at y
              refine ⟨(_, _, 1, nI (i + 1)), ⟨sum, ?_, by rw [c2]; rfl, rfl⟩, rfl⟩
              show (σ.1 (462 + 6) (nI (2 * i + 1)).toNatClampNeg).toInt = _
              have y : ¬ mq σ (3 - 0) i ≤ gx (cs V (mq σ) n) (mq σ (3 - 0)) i := y
              rw [if_pos (by omega), p3', t3]
          unfold fX9_laysLeast_155
          by_cases w : 1 ≤ cnt (cs V (mq σ) n) i
          · have f1 : ¬ f = 0 := fun y => by rw [hf, decide_eq_true w] at y; exact absurd y (by decide)
            rw [if_neg f1]
            exact go 1 (by rw [if_pos w])
          · have f1 : f = 0 := by rw [hf, decide_eq_false w]; rfl
            rw [if_pos f1]
            exact go 0 (by rw [if_neg w])
      · have q' : ¬ decide (V 9 i = (n : Int)) = true := fun y => q (of_decide_eq_true y)
        rw [if_neg q']
        exact skip (by unfold cs; rw [decide_eq_false q, Bool.false_and])
    · have i3 : i = 23 := by omega
      subst i3
      have q' : ¬ (decide (mv (σ.1 463) 0 23 ≠ 0) && decide (mv (σ.1 463) 1 23 = (n : Int))) = true := fun y => by
        rw [h.l] at y
        simp at y
      rw [if_neg q']
      unfold fX9_laysLeast_276
      rw [j_s]
      exact ⟨(a, b, f, nI 24), ⟨hS, hM, hf, rfl⟩, rfl⟩
  · rintro m ⟨a, b, f, l⟩ ⟨hS, hM, hf, rfl⟩
    simp only at hS hM hf
    show ∃ σ', fX9_laysLeast_113 462 (m + 1) σ (nI n) a b f (nI 24) = _ ∧ _
    rw [fX9_laysLeast_113, if_pos (n_le 24 (m := 24) rfl (by decide)), hf]
    obtain ⟨σ', e, fq, p1, p2, p3⟩ := m_ll282 (σ := σ) (n := n) (by omega) a b (decide (1 ≤ cnt (cs V (mq σ) n) 23))
    refine ⟨σ', e, fq, ls_fin t hn (by omega) (P := mq σ) (fun j i hi => fq.row hi) p1 ?_ ?_⟩
    · rw [dz]
      show mq σ' 2 n = _
      rw [p2, hS]
      rfl
    · rw [dz]
      show mq σ' 3 n = _
      rw [p3, hM]
      rfl
/-- the loop over the children (down) -/
theorem m_leastS1 (h : VM (mv (σ.1 463)) V X) (t : Tree V d wn Y) {n : Nat} (hn : n < 23) (k : V 8 n = 1) (hc : ∀ i, i < 23 → V 9 i = n → mq σ 1 i = 0 ∨ mq σ 1 i = 1) : ∃ σ', fX9_laysLeast σ 462 (nI n) = some σ' ∧ Fq σ σ' n ∧ LT V (mq σ') n := by
  have en : (nI n).toInt = n := j_nI (by omega)
  have two : (2 : Int32).toInt = 2 := rfl
  have k0 := (h.k1 hn (by omega)).1
  have k2 := (h.k1 hn (by omega)).2
  have u0 : ¬ oI (mv (σ.1 463) 0 n) = 2 := fun z => by
    rw [j_eq, t_mv, k0, two] at z
    omega
  have u2 : (oI (mv (σ.1 463) 2 n)) = 1 := by rw [k2, k]; rfl
  have dz : dr V n = 1 := by unfold dr; rw [k]; rfl
  have e2 : ∀ i, (2 : Int32) * nI i = nI (2 * i) := fun i => (Int32.ofNat_mul 2 i).symm
  unfold fX9_laysLeast
  rw [m_i0 en (by omega), j_b, if_neg u0]
  refine lp (F := fun m (s : Int32 × Int32 × Int32 × Int32) => fX9_laysLeast_113 462 m σ (nI n) s.1 s.2.1 s.2.2.1 s.2.2.2) (Q := fun o => ∃ σ', o = some σ' ∧ Fq σ σ' n ∧ LT V (mq σ') n) (fun i s => s.2.1 = oI (sd (cs V (mq σ) n) (mq σ (2 + 1)) (min i 23)) ∧ s.1.toInt = gx (cs V (mq σ) n) (mq σ (3 - 1)) (min i 23) ∧ s.2.2.1 = (if decide (1 ≤ cnt (cs V (mq σ) n) (min i 23)) then 1 else 0) ∧ s.2.2.2 = nI i) 24 ?_ ?_ 24 0 FU (0, 0, 0, 0) rfl (by decide) ⟨rfl, rfl, rfl, rfl⟩
  · rintro m i ⟨a, b, f, l⟩ hi ⟨hS, hM, hf, rfl⟩
    simp only at hS hM hf
    have ei : (nI i).toInt = i := j_nI (by omega)
    show ∃ s' : Int32 × Int32 × Int32 × Int32, _ ∧ fX9_laysLeast_113 462 (m + 1) σ (nI n) a b f (nI i) = _
    have nle : ¬ (24 : Int32) ≤ nI i := n_ge 24 (m := 24) rfl hi (by decide)
    rw [fX9_laysLeast_113, if_neg nle, m_isChild ei hi, j_b, en]
    by_cases i23 : i < 23
    · have m1 : min i 23 = i := by omega
      have m2 : min (i + 1) 23 = i + 1 := by omega
      rw [m1] at hS hM hf
      rw [h.ch t i23 (by omega)]
      have skip : cs V (mq σ) n i = false → ∃ s' : Int32 × Int32 × Int32 × Int32, (s'.2.1 = oI (sd (cs V (mq σ) n) (mq σ (2 + 1)) (min (i + 1) 23)) ∧ s'.1.toInt = gx (cs V (mq σ) n) (mq σ (3 - 1)) (min (i + 1) 23) ∧ s'.2.2.1 = (if decide (1 ≤ cnt (cs V (mq σ) n) (min (i + 1) 23)) then 1 else 0) ∧ s'.2.2.2 = nI (i + 1)) ∧ fX9_laysLeast_276 462 (fX9_laysLeast_113 462 m) σ (nI n) a b f (nI i) = fX9_laysLeast_113 462 m σ (nI n) s'.1 s'.2.1 s'.2.2.1 s'.2.2.2 := fun v0 => by
        unfold fX9_laysLeast_276
        rw [j_s, m2, sd_0 v0, gx_0 v0, cnt_nx, v0]
        exact ⟨(a, b, f, nI (i + 1)), ⟨hS, hM, hf, rfl⟩, rfl⟩
      by_cases q : V 9 i = n
      · have s7 : σ.1 467 i = 0 ↔ mq σ 1 i = 0 := by rw [mq1 (by omega), j_eq, jz0]
        have q' : decide (V 9 i = (n : Int)) = true := decide_eq_true q
        rw [if_pos q', if_pos (j_ckn (by omega) (by decide)), j_cl _ (by omega), show (462 + 5 : Nat) = 467 from rfl]
        rcases hc i i23 q with z | z
        · rw [if_pos (s7.mpr z)]
          exact skip (by unfold cs; rw [decide_eq_false (p := mq σ 1 i = 1) (by omega), Bool.and_false])
        · have n7 : ¬ σ.1 467 i = 0 := fun y => by rw [s7] at y; omega
          have v1 : cs V (mq σ) n i = true := by unfold cs; rw [decide_eq_true q, decide_eq_true z]; rfl
          have p2 : σ.1 468 (2 * i) = oI (mq σ 2 i) := by rw [mq2 (by omega), j_oIt]
          have p3 : σ.1 468 (2 * i + 1) = oI (mq σ 3 i) := by rw [mq3 (by omega), j_oIt]
          have t2 : (oI (mq σ 2 i)).toInt = mq σ 2 i := by rw [← p2, mq2 (by omega)]
          have t3 : (oI (mq σ 3 i)).toInt = mq σ 3 i := by rw [← p3, mq3 (by omega)]
          have c1 : cnt (cs V (mq σ) n) (i + 1) = cnt (cs V (mq σ) n) i + 1 := by rw [cnt_nx, v1]; rfl
          have c2 : decide (1 ≤ cnt (cs V (mq σ) n) (i + 1)) = true := decide_eq_true (by omega)
          have ck0 : ck (nI (2 * i)) 48 := j_ckn (by omega) (by decide)
          have ck1 : ck (nI (2 * i + 1)) 48 := j_ckn (by omega) (by decide)
          have p2' : σ.1 (462 + 6) (nI (2 * i)).toNatClampNeg = oI (mq σ 2 i) := by rw [j_cl _ (by omega)]; exact p2
          have p3' : σ.1 (462 + 6) (nI (2 * i + 1)).toNatClampNeg = oI (mq σ 3 i) := by rw [j_cl _ (by omega)]; exact p3
          have div : ∀ g : Int32, g = (if 1 ≤ cnt (cs V (mq σ) n) i then 1 else 0) → g = oI (if 1 ≤ cnt (cs V (mq σ) n) i then 1 else 0) := fun g hg => by
            rw [hg]
            split <;> rfl
          rw [if_neg n7, m_i2 en (by omega), j_b, u2, if_pos rfl]
          have go : ∀ g : Int32, g = (if 1 ≤ cnt (cs V (mq σ) n) i then 1 else 0) → ∃ s' : Int32 × Int32 × Int32 × Int32, (s'.2.1 = oI (sd (cs V (mq σ) n) (mq σ (2 + 1)) (min (i + 1) 23)) ∧ s'.1.toInt = gx (cs V (mq σ) n) (mq σ (3 - 1)) (min (i + 1) 23) ∧ s'.2.2.1 = (if decide (1 ≤ cnt (cs V (mq σ) n) (min (i + 1) 23)) then 1 else 0) ∧ s'.2.2.2 = nI (i + 1)) ∧ fX9_laysLeast_167 462 (fX9_laysLeast_113 462 m) σ (nI n) a b (nI i) 1 g = fX9_laysLeast_113 462 m σ (nI n) s'.1 s'.2.1 s'.2.2.1 s'.2.2.2 := fun g hg => by
            have hg := div g hg
            rw [m2, sd_1 v1, gx_1 v1]
            unfold fX9_laysLeast_167
            have n10 : ¬ (1 : Int32) = 0 := by decide
            rw [if_neg n10, e2, if_pos ck0]
            have sum : (b + g) + σ.1 (462 + 6) (nI (2 * i + 1)).toNatClampNeg = oI (sd (cs V (mq σ) n) (mq σ (2 + 1)) i + (if 1 ≤ cnt (cs V (mq σ) n) i then 1 else 0) + mq σ (2 + 1) i) := by
              rw [p3', hS, hg, j_oa, j_oa]
            have tail : ∀ a' : Int32, a'.toInt = (if gx (cs V (mq σ) n) (mq σ (3 - 1)) i < mq σ (3 - 1) i then mq σ (3 - 1) i else gx (cs V (mq σ) n) (mq σ (3 - 1)) i) → ∃ s' : Int32 × Int32 × Int32 × Int32, (s'.2.1 = oI (sd (cs V (mq σ) n) (mq σ (2 + 1)) i + (if 1 ≤ cnt (cs V (mq σ) n) i then 1 else 0) + mq σ (2 + 1) i) ∧ s'.1.toInt = (if gx (cs V (mq σ) n) (mq σ (3 - 1)) i < mq σ (3 - 1) i then mq σ (3 - 1) i else gx (cs V (mq σ) n) (mq σ (3 - 1)) i) ∧ s'.2.2.1 = (if decide (1 ≤ cnt (cs V (mq σ) n) (i + 1)) then 1 else 0) ∧ s'.2.2.2 = nI (i + 1)) ∧ fX9_laysLeast_217 462 (fX9_laysLeast_113 462 m) σ (nI n) b (nI i) 1 g a' = fX9_laysLeast_113 462 m σ (nI n) s'.1 s'.2.1 s'.2.2.1 s'.2.2.2 := fun a' ha' => by
              unfold fX9_laysLeast_217
              rw [if_neg n10, e2, j_s, if_pos ck1]
              unfold fX9_laysLeast_272 fX9_laysLeast_276
              rw [j_s]
              exact ⟨(a', _, 1, nI (i + 1)), ⟨sum, ha', by rw [c2]; rfl, rfl⟩, rfl⟩
            by_cases y : σ.1 (462 + 6) (nI (2 * i)).toNatClampNeg ≤ a
            · rw [if_pos y]
              rw [j_le, p2', t2, hM] at y
              have y : mq σ (3 - 1) i ≤ gx (cs V (mq σ) n) (mq σ (3 - 1)) i := y
              exact tail a (by rw [if_neg (by omega), hM])
            · rw [if_neg y, if_pos ck0]
              rw [j_le, p2', t2, hM] at y
              have y : ¬ mq σ (3 - 1) i ≤ gx (cs V (mq σ) n) (mq σ (3 - 1)) i := y
              exact tail _ (by rw [if_pos (by omega), p2', t2])
          unfold fX9_laysLeast_155
          by_cases w : 1 ≤ cnt (cs V (mq σ) n) i
          · have f1 : ¬ f = 0 := fun y => by rw [hf, decide_eq_true w] at y; exact absurd y (by decide)
            rw [if_neg f1]
            exact go 1 (by rw [if_pos w])
          · have f1 : f = 0 := by rw [hf, decide_eq_false w]; rfl
            rw [if_pos f1]
            exact go 0 (by rw [if_neg w])
      · have q' : ¬ decide (V 9 i = (n : Int)) = true := fun y => q (of_decide_eq_true y)
        rw [if_neg q']
        exact skip (by unfold cs; rw [decide_eq_false q, Bool.false_and])
    · have i3 : i = 23 := by omega
      subst i3
      have q' : ¬ (decide (mv (σ.1 463) 0 23 ≠ 0) && decide (mv (σ.1 463) 1 23 = (n : Int))) = true := fun y => by
        rw [h.l] at y
        simp at y
      rw [if_neg q']
      unfold fX9_laysLeast_276
      rw [j_s]
      exact ⟨(a, b, f, nI 24), ⟨hS, hM, hf, rfl⟩, rfl⟩
  · rintro m ⟨a, b, f, l⟩ ⟨hS, hM, hf, rfl⟩
    simp only at hS hM hf
    show ∃ σ', fX9_laysLeast_113 462 (m + 1) σ (nI n) a b f (nI 24) = _ ∧ _
    rw [fX9_laysLeast_113, if_pos (n_le 24 (m := 24) rfl (by decide)), hf]
    obtain ⟨σ', e, fq, p1, p2, p3⟩ := m_ll282 (σ := σ) (n := n) (by omega) a b (decide (1 ≤ cnt (cs V (mq σ) n) 23))
    refine ⟨σ', e, fq, ls_fin t hn (by omega) (P := mq σ) (fun j i hi => fq.row hi) p1 ?_ ?_⟩
    · rw [dz]
      show mq σ' 3 n = _
      rw [p3, hS]
      rfl
    · rw [dz]
      show mq σ' 2 n = _
      rw [p2, hM]
      rfl
end MC
end
section
/-! THE RELATION: the reference's plan (4): all least sizes, the deep ones first -/
section MD
variable {σ : Sg} {V : VW} {d : Nat → Nat} {wn : Nat → Int} {X Y : Nat → Bool} {mw mh : Nat → Int}
theorem m_least (h : VM (mv (σ.1 463)) V X) (t : Tree V d wn Y) (hm : ∀ p, p < 12 → V 13 p ≠ -1 → mv (σ.1 463) 7 p = mw p ∧ mv (σ.1 463) 8 p = mh p) (hh : ∀ p, p < 12 → 0 ≤ mh p ∧ mh p ≤ 40) {n : Nat} (hn : n < 23) (hu : V 8 n ≠ 3) (hc : ∀ i, i < 23 → V 9 i = n → mq σ 1 i = 0 ∨ mq σ 1 i = 1) : ∃ σ', fX9_laysLeast σ 462 (nI n) = some σ' ∧ Fq σ σ' n ∧ EM V mw mh (mq σ') n := by
  have kr := t.ki hn
  by_cases q : V 8 n = 2
  · obtain ⟨σ', a, f, g⟩ := m_leastG h hm hh hn q
    exact ⟨σ', a, f, fun _ => g, fun z => absurd z (by omega)⟩
  · by_cases z : V 8 n = 0
    · obtain ⟨σ', a, f, g⟩ := m_leastS0 h t hn z hc
      exact ⟨σ', a, f, fun y => absurd y q, fun _ => g⟩
    · obtain ⟨σ', a, f, g⟩ := m_leastS1 h t hn (by omega) hc
      exact ⟨σ', a, f, fun y => absurd y q, fun _ => g⟩
theorem EM.b01 {V : VW} {P : VW} {n : Nat} (h : EM V mw mh P n) (k : V 8 n = 2 ∨ V 8 n ≤ 1) : P 1 n = 0 ∨ P 1 n = 1 := by
  rcases k with k | k
  · exact (h.1 k).1
  · exact (h.2 k).1
/-- one depth -/
theorem m_lays13 (h : VM (mv (σ.1 463)) V X) (t : Tree V d wn Y) (hm : ∀ p, p < 12 → V 13 p ≠ -1 → mv (σ.1 463) 7 p = mw p ∧ mv (σ.1 463) 8 p = mh p) (hh : ∀ p, p < 12 → 0 ≤ mh p ∧ mh p ≤ 40) (h66 : ∀ n, n < 23 → V 8 n ≠ 3 → σ.1 466 n = nI (dq V n)) (D : Nat) (hD : D ≤ 24) (hE : ∀ n, n < 23 → V 8 n ≠ 3 → D < dq V n → EM V mw mh (mq σ) n) (K : Sg → Int32 → Option Sg) : ∃ σ', fX9_lays_13 462 K FU σ (nI D) 0 = K σ' (nI D + (-1)) ∧ Out σ σ' 467 468 ∧ ∀ n, n < 23 → V 8 n ≠ 3 → D ≤ dq V n → EM V mw mh (mq σ') n := by
  refine lp (F := fun m (s : Sg × Int32) => fX9_lays_13 462 K m s.1 (nI D) s.2) (Q := fun o => ∃ σ', o = K σ' (nI D + (-1)) ∧ Out σ σ' 467 468 ∧ ∀ n, n < 23 → V 8 n ≠ 3 → D ≤ dq V n → EM V mw mh (mq σ') n) (fun i s => s.2 = nI i ∧ Out σ s.1 467 468 ∧ ∀ n, n < 23 → V 8 n ≠ 3 → (D < dq V n ∨ (dq V n = D ∧ n < i)) → EM V mw mh (mq s.1) n) 24 ?_ ?_ 24 0 FU (σ, 0) rfl (by decide) ⟨rfl, Out.rf, fun n hn hu q => hE n hn hu (by omega)⟩
  · rintro m i ⟨s, l⟩ hi ⟨rfl, ho, hv⟩
    simp only at ho hv
    have ei : (nI i).toInt = i := j_nI (by omega)
    have e63 : s.1 463 = σ.1 463 := ho.2 463 (by omega)
    have e66 : s.1 466 = σ.1 466 := ho.2 466 (by omega)
    have nle : ¬ (24 : Int32) ≤ nI i := n_ge 24 (m := 24) rfl hi (by decide)
    show ∃ s' : Sg × Int32, _ ∧ fX9_lays_13 462 K (m + 1) s (nI D) (nI i) = _
    rw [fX9_lays_13, if_neg nle, m_i0 ei hi, j_b, e63]
    by_cases q : i < 23 ∧ V 8 i ≠ 3
    · obtain ⟨i23, iu⟩ := q
      have u0 : ¬ oI (mv (σ.1 463) 0 i) = 0 := fun z => by
        rw [j_eq, t_mv, jz0] at z
        exact iu ((h.k0 i23 (t.ki i23)).mp z)
      rw [if_neg u0, if_pos (j_ckn hi (by decide)), j_cl _ (by omega), show (462 + 4 : Nat) = 466 from rfl, e66, h66 i i23 iu]
      have dq22 := (t.dqs i23 iu).1
      by_cases z : dq V i = D
      · rw [if_pos (by rw [z])]
        obtain ⟨σ2, a2, f2, g2⟩ := m_least (σ := s) (V := V) (X := X) (mw := mw) (mh := mh) (by rw [e63]; exact h) t (by rw [e63]; exact hm) hh i23 iu (fun c hc e => by
          have := t.dqc hc e
          have cu := t.us hc (by omega)
          have kc := t.ki hc
          exact (hv c hc cu (Or.inl (by omega))).b01 (by omega))
        rw [a2, j_b]
        unfold fX9_lays_43
        rw [j_s]
        refine ⟨(σ2, nI (i + 1)), ⟨rfl, ho.tr f2.1, fun n hn hu y => ?_⟩, rfl⟩
        by_cases w : n = i
        · subst w
          exact g2
        · refine (hv n hn hu (by omega)).cg t hn (fun j c _ hc e => f2.row (fun u => ?_))
          subst u
          rcases e with e | e
          · exact w e.symm
          · have := t.dqc hc e
            omega
      · have nz : ¬ nI (dq V i) = nI D := fun y => by
          rw [j_eq, j_nI (by omega), j_nI (by omega)] at y
          omega
        rw [if_neg nz]
        unfold fX9_lays_43
        rw [j_s]
        refine ⟨(s, nI (i + 1)), ⟨rfl, ho, fun n hn hu y => hv n hn hu ?_⟩, rfl⟩
        by_cases w : n = i
        · subst w
          omega
        · omega
    · have u0 : oI (mv (σ.1 463) 0 i) = 0 := j_eq.mpr (by
        rw [t_mv, jz0]
        by_cases y : i < 23
        · exact (h.k0 y (t.ki y)).mpr (Classical.byContradiction (fun u => q ⟨y, u⟩))
        · have : i = 23 := by omega
          rw [this]
          exact h.l)
      rw [if_pos u0]
      unfold fX9_lays_43
      rw [j_s]
      refine ⟨(s, nI (i + 1)), ⟨rfl, ho, fun n hn hu y => hv n hn hu ?_⟩, rfl⟩
      by_cases w : n = i
      · subst w
        exact absurd ⟨hn, hu⟩ q
      · omega
  · rintro m ⟨s, l⟩ ⟨rfl, ho, hv⟩
    simp only at ho hv
    show ∃ σ', fX9_lays_13 462 K (m + 1) s (nI D) (nI 24) = _ ∧ _
    rw [fX9_lays_13, if_pos (n_le 24 (m := 24) rfl (by decide))]
    exact ⟨s, rfl, ho, fun n hn hu q => hv n hn hu (by omega)⟩
/-- all depths -/
theorem m_lays7 (h : VM (mv (σ.1 463)) V X) (t : Tree V d wn Y) (hm : ∀ p, p < 12 → V 13 p ≠ -1 → mv (σ.1 463) 7 p = mw p ∧ mv (σ.1 463) 8 p = mh p) (hh : ∀ p, p < 12 → 0 ≤ mh p ∧ mh p ≤ 40) (h66 : ∀ n, n < 23 → V 8 n ≠ 3 → σ.1 466 n = nI (dq V n)) : ∃ σ', fX9_lays_7 462 FU σ 24 = fX9_lays_57 462 FU σ' 0 ∧ Out σ σ' 467 468 ∧ ∀ n, n < 23 → V 8 n ≠ 3 → EM V mw mh (mq σ') n := by
  refine lp (F := fun m (s : Sg × Int32) => fX9_lays_7 462 m s.1 s.2) (Q := fun o => ∃ σ', o = fX9_lays_57 462 FU σ' 0 ∧ Out σ σ' 467 468 ∧ ∀ n, n < 23 → V 8 n ≠ 3 → EM V mw mh (mq σ') n) (fun i s => s.2 = oI (24 - (i : Int)) ∧ Out σ s.1 467 468 ∧ ∀ n, n < 23 → V 8 n ≠ 3 → 24 < dq V n + i → EM V mw mh (mq s.1) n) 25 ?_ ?_ 25 0 FU (σ, 24) rfl (by decide) ⟨rfl, Out.rf, fun n hn hu q => absurd (t.dqs hn hu).1 (by omega)⟩
  · rintro m i ⟨s, l⟩ hi ⟨rfl, ho, hv⟩
    simp only at ho hv
    have e63 : s.1 463 = σ.1 463 := ho.2 463 (by omega)
    have e66 : s.1 466 = σ.1 466 := ho.2 466 (by omega)
    have eD : oI (24 - (i : Int)) = nI (24 - i) := by
      rw [j_nIo _ (by omega)]
      congr 1
      omega
    have eD1 : nI (24 - i) + (-1) = oI (24 - ((i + 1 : Nat) : Int)) := by
      rw [j_nIo _ (by omega), show (-1 : Int32) = oI (-1) from rfl, j_oa]
      congr 1
      omega
    show ∃ s' : Sg × Int32, _ ∧ fX9_lays_7 462 (m + 1) s (oI (24 - (i : Int))) = _
    have nn : ¬ nI (24 - i) < 0 := by rw [j_lt, j_nI (by omega), jz0]; omega
    rw [eD, fX9_lays_7, if_neg nn]
    obtain ⟨σ2, a2, o2, g2⟩ := m_lays13 (σ := s) (V := V) (X := X) (mw := mw) (mh := mh) (by rw [e63]; exact h) t (by rw [e63]; exact hm) hh (by rw [e66]; exact h66) (24 - i) (by omega) (fun n hn hu q => hv n hn hu (by omega)) (fX9_lays_7 462 m)
    rw [a2, eD1]
    exact ⟨(σ2, _), ⟨rfl, ho.tr o2, fun n hn hu q => g2 n hn hu (by omega)⟩, rfl⟩
  · rintro m ⟨s, l⟩ ⟨rfl, ho, hv⟩
    simp only at ho hv
    show ∃ σ', fX9_lays_7 462 (m + 1) s (oI (24 - ((25 : Nat) : Int))) = _ ∧ _
    rw [fX9_lays_7, if_pos (by decide)]
    exact ⟨s, rfl, ho, fun n hn hu => hv n hn hu (by omega)⟩
end MD
end
section
/-! THE RELATION: the reference's plan (5): the windows' roots -/
section ME
variable {σ : Sg} {V : VW} {d : Nat → Nat} {wn : Nat → Int} {X Y : Nat → Bool} {mw mh : Nat → Int}
theorem m_lays84 {w r : Nat} (hw : w < 5) (hr : r < 24) (K : Sg → Int32 → Option Sg) : ∃ σ', fX9_lays_84 462 K FU σ (nI w) (nI r) 0 = K σ' (nI (w + 1)) ∧ Out σ σ' 469 469 ∧ (∀ i, (i < 4 * r ∨ 4 * r + 4 ≤ i) → σ'.1 469 i = σ.1 469 i) ∧ ∀ k, k < 4 → (σ'.1 469 (4 * r + k)).toInt = mv (σ.1 463) (13 + k) w := by
  have ew : (nI w).toInt = w := j_nI (by omega)
  have nr : ¬ nI r = -1 := fun z => by rw [j_eq, j_nI (by omega), jm1] at z; omega
  have e4 : (4 : Int32) * nI r = nI (4 * r) := (Int32.ofNat_mul 4 r).symm
  refine lp (F := fun m (s : Sg × Int32) => fX9_lays_84 462 K m s.1 (nI w) (nI r) s.2) (Q := fun o => ∃ σ', o = K σ' (nI (w + 1)) ∧ Out σ σ' 469 469 ∧ (∀ i, (i < 4 * r ∨ 4 * r + 4 ≤ i) → σ'.1 469 i = σ.1 469 i) ∧ ∀ k, k < 4 → (σ'.1 469 (4 * r + k)).toInt = mv (σ.1 463) (13 + k) w) (fun i s => s.2 = nI i ∧ Out σ s.1 469 469 ∧ (∀ i, (i < 4 * r ∨ 4 * r + 4 ≤ i) → s.1.1 469 i = σ.1 469 i) ∧ ∀ k, k < i → (s.1.1 469 (4 * r + k)).toInt = mv (σ.1 463) (13 + k) w) 4 ?_ ?_ 4 0 FU (σ, 0) rfl (by decide) ⟨rfl, Out.rf, fun _ _ => rfl, fun k hk => absurd hk (by omega)⟩
  · rintro m i ⟨s, l⟩ hi ⟨rfl, ho, hf, hv⟩
    simp only at ho hf hv
    have e63 : s.1 463 = σ.1 463 := ho.2 463 (by omega)
    have nle : ¬ (4 : Int32) ≤ nI i := n_ge 4 (m := 4) rfl hi (by decide)
    have ew1 : fX9_window s 462 (nI w) (1 + nI i) 1 = some (oI (mv (s.1 463) (12 + (1 + i)) w)) := by
      have : (1 : Int32) + nI i = nI (1 + i) := j_a 1 i
      rw [this]
      exact m_window (k := 1 + i) ew hw (by omega)
    show ∃ s' : Sg × Int32, _ ∧ fX9_lays_84 462 K (m + 1) s (nI w) (nI r) (nI i) = _
    rw [fX9_lays_84, if_neg nle, if_neg nr, ew1, j_b, e4, j_a, if_pos (j_ckn (by omega) (by decide)), j_nm, j_cl _ (by omega), show (462 + 7 : Nat) = 469 from rfl, j_s, e63]
    refine ⟨(_, nI (i + 1)), ⟨rfl, ho.tr su_out, fun k hk => ?_, fun k hk => ?_⟩, rfl⟩
    · show (su s 469 (4 * r + i) _).1 469 k = _
      rw [su_at, if_neg (by omega), hf k hk]
    · show ((su s 469 (4 * r + i) _).1 469 (4 * r + k)).toInt = _
      rw [su_at]
      by_cases q : k = i
      · subst q
        rw [if_pos ⟨rfl, rfl⟩, t_mv, show 12 + (1 + k) = 13 + k by omega]
      · rw [if_neg (by omega)]
        exact hv k (by omega)
  · rintro m ⟨s, l⟩ ⟨rfl, ho, hf, hv⟩
    simp only at ho hf hv
    show ∃ σ', fX9_lays_84 462 K (m + 1) s (nI w) (nI r) (nI 4) = _ ∧ _
    rw [fX9_lays_84, if_pos (n_le 4 (m := 4) rfl (by decide))]
    unfold fX9_lays_119
    rw [j_s]
    exact ⟨s, rfl, ho, hf, hv⟩
theorem m_lays57 (h : VM (mv (σ.1 463)) V X) (t : Tree V d wn Y) : ∃ σ', fX9_lays_57 462 FU σ 0 = fX9_lays_127 462 FU σ' 0 ∧ Out σ σ' 469 469 ∧ LR V (mq σ') := by
  refine lp (F := fun m (s : Sg × Int32) => fX9_lays_57 462 m s.1 s.2) (Q := fun o => ∃ σ', o = fX9_lays_127 462 FU σ' 0 ∧ Out σ σ' 469 469 ∧ LR V (mq σ')) (fun i s => s.2 = nI i ∧ Out σ s.1 469 469 ∧ ∀ w n : Nat, w < i → V 5 w = n → ∀ k, k < 4 → (s.1.1 469 (4 * n + k)).toInt = mv (σ.1 463) (13 + k) w) 5 ?_ ?_ 5 0 FU (σ, 0) rfl (by decide) ⟨rfl, Out.rf, fun w n hw => absurd hw (by omega)⟩
  · rintro m i ⟨s, l⟩ hi ⟨rfl, ho, hv⟩
    simp only at ho hv
    have ei : (nI i).toInt = i := j_nI (by omega)
    have e63 : s.1 463 = σ.1 463 := ho.2 463 (by omega)
    have nle : ¬ (5 : Int32) ≤ nI i := n_ge 5 (m := 5) rfl hi (by decide)
    show ∃ s' : Sg × Int32, _ ∧ fX9_lays_57 462 (m + 1) s (nI i) = _
    rw [fX9_lays_57, if_neg nle, m_isWindow, j_b, ei, decide_eq_true (p := (0 : Int) ≤ (i : Int) ∧ (i : Int) < 5) (by omega), Bool.true_and, Int.toNat_natCast, e63, h.ex hi]
    have none : V 5 i = -1 → ∀ s' : Sg × Int32, s' = (s, nI (i + 1)) → (s'.2 = nI (i + 1) ∧ Out σ s'.1 469 469 ∧ ∀ w n : Nat, w < i + 1 → V 5 w = n → ∀ k, k < 4 → (s'.1.1 469 (4 * n + k)).toInt = mv (σ.1 463) (13 + k) w) := fun z s' e => by
      rw [e]
      refine ⟨rfl, ho, fun w n hw e5 => hv w n ?_ e5⟩
      by_cases y : w = i
      · subst y
        omega
      · omega
    have run : ∀ a : Int32, V 5 i = -1 → a = -1 → fX9_lays_81 462 (fX9_lays_57 462 m) s (nI i) a = fX9_lays_57 462 m s (nI (i + 1)) := fun a _ ha => by
      unfold fX9_lays_81
      show fX9_lays_84 462 _ (5999 + 1) s (nI i) a 0 = _
      rw [fX9_lays_84, if_neg (by decide), if_pos ha]
      unfold fX9_lays_119
      rw [j_s]
    rcases t.wi hi with z | ⟨r, hr, e5, -, -, -⟩
    · by_cases i0 : i = 0
      · have c1 : decide ((if i = 0 ∨ V 5 i ≠ -1 then (1 : Int) else 0) = 1) = true := by rw [if_pos (Or.inl i0)]; rfl
        rw [if_pos c1, m_w5 ei hi, j_b, e63, h.ro hi, z, run (oI (-1)) z rfl]
        exact ⟨_, none z _ rfl, rfl⟩
      · have c1 : ¬ decide ((if i = 0 ∨ V 5 i ≠ -1 then (1 : Int) else 0) = 1) = true := by
          rw [if_neg (by omega)]
          decide
        rw [if_neg c1, run _ z rfl]
        exact ⟨_, none z _ rfl, rfl⟩
    · have c1 : decide ((if i = 0 ∨ V 5 i ≠ -1 then (1 : Int) else 0) = 1) = true := by rw [if_pos (Or.inr (by omega))]; rfl
      have er : oI (V 5 i) = nI r := by rw [e5, j_nIo _ (by omega)]
      rw [if_pos c1, m_w5 ei hi, j_b, e63, h.ro hi, er]
      unfold fX9_lays_81
      obtain ⟨σ2, a2, o2, f2, v2⟩ := m_lays84 (σ := s) hi (show r < 24 by omega) (fX9_lays_57 462 m)
      rw [a2]
      rw [e63] at v2
      refine ⟨(σ2, nI (i + 1)), ⟨rfl, ho.tr o2, fun w n hw e k hk => ?_⟩, rfl⟩
      show (σ2.1 469 (4 * n + k)).toInt = _
      by_cases y : w = i
      · subst y
        have : n = r := by omega
        subst this
        exact v2 k hk
      · have nr : n ≠ r := fun u => by
          subst u
          exact y (t.un (by omega) hi e e5)
        rw [f2 _ (by omega)]
        exact hv w n (by omega) e k hk
  · rintro m ⟨s, l⟩ ⟨rfl, ho, hv⟩
    simp only at ho hv
    show ∃ σ', fX9_lays_57 462 (m + 1) s (nI 5) = _ ∧ _
    rw [fX9_lays_57, if_pos (n_le 5 (m := 5) rfl (by decide))]
    refine ⟨s, rfl, ho, fun w n hw e => ?_⟩
    have n23 : n < 23 := by
      rcases t.wi hw with z | ⟨r, hr, e5, -⟩
      · omega
      · omega
    obtain ⟨g1, g2, g3, g4⟩ := h.geo hw (Or.inr (by omega))
    rw [mq47 (by omega) (by decide) (by decide), mq47 (by omega) (by decide) (by decide), mq47 (by omega) (by decide) (by decide), mq47 (by omega) (by decide) (by decide)]
    exact ⟨(hv w n hw e 0 (by decide)).trans g1, (hv w n hw e 1 (by decide)).trans g2, (hv w n hw e 2 (by decide)).trans g3, (hv w n hw e 3 (by decide)).trans g4⟩
end ME
end
section
/-! THE RELATION: the reference's plan (6): who shares -/
section MF
variable {σ : Sg} {V : VW} {d : Nat → Nat} {wn : Nat → Int} {X Y : Nat → Bool}
theorem mqL {n D : Nat} (hn : n < 24) (hD : D ≤ 1) : mq σ (2 + D) n = (σ.1 468 (2 * n + D)).toInt := by
  have : D = 0 ∨ D = 1 := by omega
  rcases this with rfl | rfl
  · exact mq2 hn
  · exact mq3 hn
theorem cs_24 (t : Tree V d wn Y) {P : VW} {n i : Nat} (hi : i < 23) : (cs V P n i = true) ↔ V 9 i = n ∧ P 1 i = 1 := by
  unfold cs
  simp only [Bool.and_eq_true, decide_eq_true_eq]
/-- the flags of the children seen, their number and their least sizes -/
theorem m_ls16 (h : VM (mv (σ.1 463)) V X) (t : Tree V d wn Y) {n D : Nat} (hn : n < 23) (hD : D ≤ 1) (hc : ∀ i, i < 23 → V 9 i = n → mq σ 1 i = 0 ∨ mq σ 1 i = 1) (ext : Int32) : ∃ σ', fX9_laysShares_16 462 FU σ (nI n) ext (nI D) 0 0 0 = (if (ext - (nI (cnt (cs V (mq σ) n) 23) - 1)) ≤ 0 then fX9_laysShares_130 462 σ' (nI n) (nI D) (oI (sm (fun k => if cs V (mq σ) n k then mq σ (2 + D) k else 0) 23)) 0 else fX9_laysShares_130 462 σ' (nI n) (nI D) (oI (sm (fun k => if cs V (mq σ) n k then mq σ (2 + D) k else 0) 23)) (ext - (nI (cnt (cs V (mq σ) n) 23) - 1))) ∧ Out σ σ' 471 471 ∧ ∀ c, c < 24 → σ'.1 471 c = if c < 23 ∧ cs V (mq σ) n c = true then 1 else 0 := by
  have en : (nI n).toInt = n := j_nI (by omega)
  have b0 : vp_nar .boolean (0 : Int32) = 0 := by decide
  have b1 : vp_nar .boolean (1 : Int32) = 1 := by decide
  have n10 : ¬ (1 : Int32) = 0 := by decide
  refine lp (F := fun m (s : Sg × Int32 × Int32 × Int32) => fX9_laysShares_16 462 m s.1 (nI n) ext (nI D) s.2.1 s.2.2.1 s.2.2.2) (Q := fun o => ∃ σ', o = (if (ext - (nI (cnt (cs V (mq σ) n) 23) - 1)) ≤ 0 then fX9_laysShares_130 462 σ' (nI n) (nI D) (oI (sm (fun k => if cs V (mq σ) n k then mq σ (2 + D) k else 0) 23)) 0 else fX9_laysShares_130 462 σ' (nI n) (nI D) (oI (sm (fun k => if cs V (mq σ) n k then mq σ (2 + D) k else 0) 23)) (ext - (nI (cnt (cs V (mq σ) n) 23) - 1))) ∧ Out σ σ' 471 471 ∧ ∀ c, c < 24 → σ'.1 471 c = if c < 23 ∧ cs V (mq σ) n c = true then 1 else 0) (fun i s => Out σ s.1 471 471 ∧ s.2.1 = nI (cnt (cs V (mq σ) n) (min i 23)) ∧ s.2.2.1 = oI (sm (fun k => if cs V (mq σ) n k then mq σ (2 + D) k else 0) (min i 23)) ∧ s.2.2.2 = nI i ∧ ∀ c, c < i → s.1.1 471 c = if c < 23 ∧ cs V (mq σ) n c = true then 1 else 0) 24 ?_ ?_ 24 0 FU (σ, 0, 0, 0) rfl (by decide) ⟨Out.rf, rfl, rfl, rfl, fun c hc => absurd hc (by omega)⟩
  · rintro m i ⟨s, a, b, l⟩ hi ⟨ho, ha, hb, rfl, hv⟩
    simp only at ho ha hb hv
    have ei : (nI i).toInt = i := j_nI (by omega)
    have e63 : s.1 463 = σ.1 463 := ho.2 463 (by omega)
    have nle : ¬ (24 : Int32) ≤ nI i := n_ge 24 (m := 24) rfl hi (by decide)
    have cki : ck (nI i) 24 := j_ckn hi (by decide)
    have e2 : (2 : Int32) * nI i + nI D = nI (2 * i + D) := by
      rw [show (2 : Int32) * nI i = nI (2 * i) from (Int32.ofNat_mul 2 i).symm, j_a]
    -- not open
    have no : ¬ (i < 23 ∧ cs V (mq σ) n i = true) → ∃ s' : Sg × Int32 × Int32 × Int32, (Out σ s'.1 471 471 ∧ s'.2.1 = nI (cnt (cs V (mq σ) n) (min (i + 1) 23)) ∧ s'.2.2.1 = oI (sm (fun k => if cs V (mq σ) n k then mq σ (2 + D) k else 0) (min (i + 1) 23)) ∧ s'.2.2.2 = nI (i + 1) ∧ ∀ c, c < i + 1 → s'.1.1 471 c = if c < 23 ∧ cs V (mq σ) n c = true then 1 else 0) ∧ fX9_laysShares_53 462 (fX9_laysShares_16 462 m) s (nI n) ext (nI D) a b (nI i) (nI i) = fX9_laysShares_16 462 m s'.1 (nI n) ext (nI D) s'.2.1 s'.2.2.1 s'.2.2.2 := fun v0 => by
      have g0 : (su s 471 i 0).1 (462 + 9) i = 0 := by
        show (su s 471 i 0).1 471 i = 0
        rw [su_at, if_pos ⟨rfl, rfl⟩]
      unfold fX9_laysShares_53 fX9_laysShares_54
      have ec : (nI i).toNatClampNeg = i := j_cl _ (by omega)
      have g0' : (su s (462 + 9) (nI i).toNatClampNeg 0).1 (462 + 9) (nI i).toNatClampNeg = 0 := by rw [ec]; exact g0
      rw [if_pos cki, b0, j_nm, if_pos cki, if_pos g0']
      unfold fX9_laysShares_72
      rw [j_nm, if_pos cki, if_pos g0']
      unfold fX9_laysShares_102
      rw [j_nm, j_s, ec, show su s (462 + 9) i 0 = su s 471 i 0 from rfl]
      have z0 : ∀ x : Int32, x + 0 = x := fun x => by simp
      rw [z0, z0]
      refine ⟨(su s 471 i 0, a, b, nI (i + 1)), ⟨ho.tr su_out, ?_, ?_, rfl, fun c hc => ?_⟩, rfl⟩
      · show a = _
        by_cases y : i < 23
        · have c0 : cs V (mq σ) n i = false := by
            cases z : cs V (mq σ) n i
            · rfl
            · exact absurd ⟨y, z⟩ v0
          rw [ha, show min i 23 = i by omega, show min (i + 1) 23 = i + 1 by omega, cnt_nx, c0]
          rfl
        · rw [ha, show min i 23 = min (i + 1) 23 by omega]
      · show b = _
        by_cases y : i < 23
        · have c0 : cs V (mq σ) n i = false := by
            cases z : cs V (mq σ) n i
            · rfl
            · exact absurd ⟨y, z⟩ v0
          rw [hb, show min i 23 = i by omega, show min (i + 1) 23 = i + 1 by omega]
          refine congrArg oI ?_
          show _ = sm (fun k => if cs V (mq σ) n k then mq σ (2 + D) k else 0) i + (if cs V (mq σ) n i then mq σ (2 + D) i else 0)
          rw [c0]
          exact (Int.add_zero _).symm
        · rw [hb, show min i 23 = min (i + 1) 23 by omega]
      · show (su s 471 i 0).1 471 c = _
        rw [su_at]
        by_cases q : c = i
        · rw [if_pos ⟨rfl, q⟩, q, if_neg v0]
        · rw [if_neg (fun z => q z.2)]
          exact hv c (by omega)
    show ∃ s' : Sg × Int32 × Int32 × Int32, _ ∧ fX9_laysShares_16 462 (m + 1) s (nI n) ext (nI D) a b (nI i) = _
    rw [fX9_laysShares_16, if_neg nle, m_isChild ei hi, j_b, en, e63]
    by_cases i23 : i < 23
    · rw [h.ch t i23 (by omega)]
      by_cases q : V 9 i = n
      · have q' : decide (V 9 i = (n : Int)) = true := decide_eq_true q
        have s7 : s.1 467 i = 0 ↔ mq σ 1 i = 0 := by rw [ho.2 467 (by omega), mq1 (by omega), j_eq, jz0]
        rw [if_pos q', if_pos cki, j_cl _ (by omega), show (462 + 5 : Nat) = 467 from rfl]
        rcases hc i i23 q with z | z
        · rw [if_pos (s7.mpr z)]
          exact no (fun y => by
            have := ((cs_24 t i23).mp y.2).2
            omega)
        · have n7 : ¬ s.1 467 i = 0 := fun y => by rw [s7] at y; omega
          have v1 : cs V (mq σ) n i = true := (cs_24 t i23).mpr ⟨q, z⟩
          have g1 : (su s 471 i 1).1 (462 + 9) i = 1 := by
            show (su s 471 i 1).1 471 i = 1
            rw [su_at, if_pos ⟨rfl, rfl⟩]
          have g8 : (su s 471 i 1).1 (462 + 6) (2 * i + D) = oI (mq σ (2 + D) i) := by
            show (su s 471 i 1).1 468 (2 * i + D) = _
            rw [su_ne (by omega), ho.2 468 (by omega), mqL (by omega) hD, j_oIt]
          rw [if_neg n7]
          unfold fX9_laysShares_54
          have ec : (nI i).toNatClampNeg = i := j_cl _ (by omega)
          have ec2 : (nI (2 * i + D)).toNatClampNeg = 2 * i + D := j_cl _ (by omega)
          have g1' : ¬ (su s (462 + 9) (nI i).toNatClampNeg 1).1 (462 + 9) (nI i).toNatClampNeg = 0 := by rw [ec]; exact fun z => n10 (g1.symm.trans z)
          rw [if_pos cki, b1, j_nm, if_pos cki, if_neg g1']
          unfold fX9_laysShares_72
          rw [j_nm, if_pos cki, if_neg g1', e2, if_pos (j_ckn (by omega) (by decide))]
          unfold fX9_laysShares_102
          rw [j_nm, j_s, ec, ec2, show su s (462 + 9) i 1 = su s 471 i 1 from rfl, g8]
          refine ⟨(su s 471 i 1, _, _, nI (i + 1)), ⟨ho.tr su_out, ?_, ?_, rfl, fun c hc => ?_⟩, rfl⟩
          · show a + 1 = _
            rw [ha, show min i 23 = i by omega, show min (i + 1) 23 = i + 1 by omega, cnt_nx, v1, j_s]
            rfl
          · show b + oI _ = _
            rw [hb, show min i 23 = i by omega, show min (i + 1) 23 = i + 1 by omega, j_oa]
            refine congrArg oI ?_
            show _ = sm (fun k => if cs V (mq σ) n k then mq σ (2 + D) k else 0) i + (if cs V (mq σ) n i then mq σ (2 + D) i else 0)
            rw [v1]
            rfl
          · show (su s 471 i 1).1 471 c = _
            rw [su_at]
            by_cases w : c = i
            · rw [if_pos ⟨rfl, w⟩, w, if_pos ⟨i23, v1⟩]
            · rw [if_neg (fun z => w z.2)]
              exact hv c (by omega)
      · have q' : ¬ decide (V 9 i = (n : Int)) = true := fun y => q (of_decide_eq_true y)
        rw [if_neg q']
        exact no (fun y => q ((cs_24 t i23).mp y.2).1)
    · have i3 : i = 23 := by omega
      subst i3
      have q' : ¬ (decide (mv (σ.1 463) 0 23 ≠ 0) && decide (mv (σ.1 463) 1 23 = (n : Int))) = true := fun y => by
        rw [h.l] at y
        simp at y
      rw [if_neg q']
      exact no (fun y => i23 y.1)
  · rintro m ⟨s, a, b, l⟩ ⟨ho, ha, hb, rfl, hv⟩
    simp only at ho ha hb hv
    show ∃ σ', fX9_laysShares_16 462 (m + 1) s (nI n) ext (nI D) a b (nI 24) = _ ∧ _
    rw [fX9_laysShares_16, if_pos (n_le 24 (m := 24) rfl (by decide)), ha, hb]
    exact ⟨s, rfl, ho, hv⟩
end MF
end
section
/-! THE RELATION: the reference's plan (7): too little room -/
section MG
variable {σ : Sg} {V : VW} {d : Nat → Nat} {wn : Nat → Int} {X Y : Nat → Bool}
/-- the k-th child in the reference -/
theorem m_kid (h : VM (mv (σ.1 463)) V X) (t : Tree V d wn Y) {n k : Nat} (hn : n < 23) (k1 : V 8 n ≤ 1) (hk : k < v_cc V n) : ∃ c : Nat, c < 23 ∧ fX9_child σ 462 (nI n) (nI k) = some (nI c) ∧ V 9 c = n ∧ (kids V n)[k]? = some c := by
  obtain ⟨c, hc, e1, e2, e3, e4⟩ := t.kid hn k1 hk
  have c23 : v_cc V n ≤ 23 := by
    unfold v_cc
    split
    · omega
    · exact cnt_le _ _
  refine ⟨c, hc, ?_, e2, e4⟩
  rw [m_child, j_nI (by omega), j_nI (by omega), h.ca t (by omega), e1, j_nIo c (by omega)]
theorem m_many (h : VM (mv (σ.1 463)) V X) (t : Tree V d wn Y) {n : Nat} (hn : n < 23) : fX9_childMany σ 462 (nI n) = some (nI (v_cc V n)) := by
  have c23 : v_cc V n ≤ 23 := by
    unfold v_cc
    split
    · omega
    · exact cnt_le _ _
  rw [m_childMany, j_nI (by omega), h.cc t (by omega), j_nIo _ (by omega)]
theorem m_ls146 (h : VM (mv (σ.1 463)) V X) (t : Tree V d wn Y) {n D : Nat} (hn : n < 23) (k1 : V 8 n ≤ 1) (hD : D ≤ 1) (hc : ∀ i, i < 23 → V 9 i = n → mq σ 1 i = 0 ∨ mq σ 1 i = 1) {m : Nat → Int} (hm : ∀ c ∈ pls V (mq σ) n, m c = mq σ (2 + D) c ∧ 0 ≤ m c ∧ m c ≤ 965) {room : Int} (h0 : 0 ≤ room ∧ room ≤ 400) : ∃ σ', fX9_laysShares_146 462 FU σ (nI n) (nI D) (oI room) 0 = some σ' ∧ Out σ σ' 470 470 ∧ ∀ c ∈ pls V (mq σ) n, (σ'.1 470 c).toInt = xm m (pls V (mq σ) n) room c := by
  have nd := t.pls_nd (P := mq σ) hn k1
  have c23 : v_cc V n ≤ 23 := by
    unfold v_cc
    split
    · omega
    · exact cnt_le _ _
  have hpl : pls V (mq σ) n = (kids V n).filter (fun c => decide (mq σ 1 c = 1)) := rfl
  refine lp (F := fun f (s : Sg × Int32 × Int32) => fX9_laysShares_146 462 f s.1 (nI n) (nI D) s.2.1 s.2.2) (Q := fun o => ∃ σ', o = some σ' ∧ Out σ σ' 470 470 ∧ ∀ c ∈ pls V (mq σ) n, (σ'.1 470 c).toInt = xm m (pls V (mq σ) n) room c) (fun i s => s.2.2 = nI i ∧ Out σ s.1 470 470 ∧ (0 ≤ s.2.1.toInt ∧ s.2.1.toInt ≤ 400) ∧ (∀ c ∈ ((kids V n).take i).filter (fun c => decide (mq σ 1 c = 1)), (s.1.1 470 c).toInt = xm m (pls V (mq σ) n) room c) ∧ ∀ c ∈ ((kids V n).drop i).filter (fun c => decide (mq σ 1 c = 1)), xm m (pls V (mq σ) n) room c = xm m (((kids V n).drop i).filter (fun c => decide (mq σ 1 c = 1))) s.2.1.toInt c) (v_cc V n) ?_ ?_ (v_cc V n) 0 FU (σ, oI room, 0) (by omega) (by show _ < 6000; omega) ⟨rfl, Out.rf, by show 0 ≤ (oI room).toInt ∧ (oI room).toInt ≤ 400; rw [j_oI (by omega) (by omega)]; exact h0, fun c hc => (by cases hc), fun c _ => (by
    show _ = xm m _ (oI room).toInt c
    rw [j_oI (by omega) (by omega)]
    rfl)⟩
  · rintro f i ⟨s, r, l⟩ hi ⟨rfl, ho, hr, hv, hx⟩
    simp only at ho hr hv hx
    have e63 : s.1 463 = σ.1 463 := ho.2 463 (by omega)
    obtain ⟨c, hc23, ec, e9, gk⟩ := m_kid (σ := s) (V := V) (X := X) (by rw [e63]; exact h) t hn k1 hi
    have li : i < (kids V n).length := by rw [kids_len]; exact hi
    have dk := List.drop_eq_getElem_cons li
    have gk2 := List.getElem?_eq_getElem li
    have : (kids V n)[i] = c := Option.some.inj (gk2.symm.trans gk)
    rw [this] at dk
    have tk := take_snoc gk
    have nle : ¬ nI (v_cc V n) ≤ nI i := by rw [j_le, j_nI (by omega), j_nI (by omega)]; omega
    have e2 : (2 : Int32) * nI c + nI D = nI (2 * c + D) := by
      rw [show (2 : Int32) * nI c = nI (2 * c) from (Int32.ofNat_mul 2 c).symm, j_a]
    have ecl : (nI c).toNatClampNeg = c := j_cl _ (by omega)
    have ec2 : (nI (2 * c + D)).toNatClampNeg = 2 * c + D := j_cl _ (by omega)
    have ckc : ck (nI c) 24 := j_ckn (by omega) (by decide)
    have ck2 : ck (nI (2 * c + D)) 48 := j_ckn (by omega) (by decide)
    show ∃ s' : Sg × Int32 × Int32, _ ∧ fX9_laysShares_146 462 (f + 1) s (nI n) (nI D) r (nI i) = _
    rw [fX9_laysShares_146, m_many (σ := s) (V := V) (X := X) (by rw [e63]; exact h) t hn, j_b, if_neg nle, ec, j_b, if_pos ckc]
    have s7 : s.1 (462 + 5) (nI c).toNatClampNeg = 0 ↔ mq σ 1 c = 0 := by
      rw [ecl, show (462 + 5 : Nat) = 467 from rfl, ho.2 467 (by omega), mq1 (by omega), j_eq, jz0]
    rcases hc c hc23 e9 with z | z
    · rw [if_pos (s7.mpr z)]
      unfold fX9_laysShares_226
      rw [j_s]
      have nz : ¬ mq σ 1 c = 1 := by omega
      refine ⟨(s, r, nI (i + 1)), ⟨rfl, ho, hr, fun y hy => ?_, fun y hy => ?_⟩, rfl⟩
      · rw [tk, List.filter_append] at hy
        simp [nz] at hy
        exact hv y (by rw [List.mem_filter]; exact ⟨hy.1, decide_eq_true hy.2⟩)
      · have ed : ((kids V n).drop i).filter (fun c => decide (mq σ 1 c = 1)) = ((kids V n).drop (i + 1)).filter (fun c => decide (mq σ 1 c = 1)) := by
          rw [dk, List.filter_cons, decide_eq_false nz]
          rfl
        have := hx y (by rw [ed]; exact hy)
        rw [ed] at this
        exact this
    · have n7 : ¬ s.1 (462 + 5) (nI c).toNatClampNeg = 0 := fun y => by rw [s7] at y; omega
      have cin : c ∈ pls V (mq σ) n := (t.pls_mem hn k1).mpr ⟨hc23, e9, z⟩
      obtain ⟨m1, m0, mB⟩ := hm c cin
      have g8 : (s.1 (462 + 6) (nI (2 * c + D)).toNatClampNeg).toInt = m c := by
        rw [ec2, show (462 + 6 : Nat) = 468 from rfl, ho.2 468 (by omega), ← mqL (by omega) hD, m1]
      have ed : ((kids V n).drop i).filter (fun c => decide (mq σ 1 c = 1)) = c :: ((kids V n).drop (i + 1)).filter (fun c => decide (mq σ 1 c = 1)) := by
        rw [dk, List.filter_cons, decide_eq_true z]
        rfl
      have ndd : (c :: ((kids V n).drop (i + 1)).filter (fun c => decide (mq σ 1 c = 1))).Nodup := by
        rw [← ed]
        exact ((t.kids_nd hn k1).sublist (List.drop_sublist _ _)).filter _
      rw [List.nodup_cons] at ndd
      rw [ed] at hx
      have xc0 := hx c (List.mem_cons_self ..)
      have xc0 : xm m (pls V (mq σ) n) room c = if r.toInt < m c then r.toInt else m c := by
        rw [xc0]
        show (if c = c then _ else _) = _
        rw [if_pos rfl]
      -- the share is given
      have go : ∀ v : Int32, v.toInt = (if r.toInt < m c then r.toInt else m c) → ∃ s' : Sg × Int32 × Int32, (s'.2.2 = nI (i + 1) ∧ Out σ s'.1 470 470 ∧ (0 ≤ s'.2.1.toInt ∧ s'.2.1.toInt ≤ 400) ∧ (∀ c ∈ ((kids V n).take (i + 1)).filter (fun c => decide (mq σ 1 c = 1)), (s'.1.1 470 c).toInt = xm m (pls V (mq σ) n) room c) ∧ ∀ c ∈ ((kids V n).drop (i + 1)).filter (fun c => decide (mq σ 1 c = 1)), xm m (pls V (mq σ) n) room c = xm m (((kids V n).drop (i + 1)).filter (fun c => decide (mq σ 1 c = 1))) s'.2.1.toInt c) ∧ fX9_laysShares_213 462 (fX9_laysShares_146 462 f) s (nI n) (nI D) r (nI i) (nI c) (nI c) v = fX9_laysShares_146 462 f s'.1 (nI n) (nI D) s'.2.1 s'.2.2 := fun v hvT => by
        have vr : 0 ≤ (if r.toInt < m c then r.toInt else m c) ∧ (if r.toInt < m c then r.toInt else m c) ≤ r.toInt := by split <;> omega
        have g470 : (su s 470 c v).1 (462 + 8) c = v := by
          show (su s 470 c v).1 470 c = v
          rw [su_at, if_pos ⟨rfl, rfl⟩]
        unfold fX9_laysShares_213
        rw [if_pos ckc, j_nm, if_pos ckc, j_nm, ecl, show su s (462 + 8) c v = su s 470 c v from rfl, g470]
        unfold fX9_laysShares_226
        rw [j_s]
        have rv' : (r - v).toInt = r.toInt - v.toInt := j_sub (by omega) (by omega)
        refine ⟨(su s 470 c v, r - v, nI (i + 1)), ⟨rfl, ho.tr su_out, by show 0 ≤ (r - v).toInt ∧ (r - v).toInt ≤ 400; omega, fun y hy => ?_, fun y hy => ?_⟩, rfl⟩
        · show ((su s 470 c v).1 470 y).toInt = _
          rw [su_at]
          by_cases w : y = c
          · rw [if_pos ⟨rfl, w⟩, hvT, w, xc0]
          · rw [if_neg (fun u => w u.2)]
            rw [tk, List.filter_append] at hy
            simp [z] at hy
            rcases hy with hy | hy
            · exact hv y (by rw [List.mem_filter]; exact ⟨hy.1, decide_eq_true hy.2⟩)
            · exact absurd hy w
        · have w : y ≠ c := fun u => ndd.1 (u ▸ hy)
          rw [hx y (List.mem_cons_of_mem _ hy)]
          show (if y = c then _ else xm m _ (r.toInt - (if r.toInt < m c then r.toInt else m c)) y) = xm m _ (r - v).toInt y
          rw [if_neg w, rv', hvT]
      rw [if_neg n7, e2, if_pos ck2]
      by_cases y : r ≤ s.1 (462 + 6) (nI (2 * c + D)).toNatClampNeg
      · rw [if_pos y]
        rw [j_le, g8] at y
        exact go r (by split <;> omega)
      · rw [if_neg y, if_pos ck2]
        rw [j_le, g8] at y
        exact go _ (by rw [g8, if_neg (by omega)])
  · rintro f ⟨s, r, l⟩ ⟨rfl, ho, hr, hv, hx⟩
    simp only at ho hr hv hx
    have e63 : s.1 463 = σ.1 463 := ho.2 463 (by omega)
    have ef : (kids V n).take (v_cc V n) = kids V n := List.take_of_length_le (by rw [kids_len]; exact Nat.le_refl _)
    rw [ef] at hv
    show ∃ σ', fX9_laysShares_146 462 (f + 1) s (nI n) (nI D) r (nI (v_cc V n)) = _ ∧ _
    rw [fX9_laysShares_146, m_many (σ := s) (V := V) (X := X) (by rw [e63]; exact h) t hn, j_b, if_pos (by rw [j_le]; exact Int.le_refl _)]
    exact ⟨s, rfl, ho, hv⟩
end MG
end
section
/-! THE RELATION: the reference's plan (8): closed room and open weights -/
section MH9
variable {σ : Sg} {V : VW} {d : Nat → Nat} {wn : Nat → Int} {X Y : Nat → Bool} {pl : List Nat} {m w : Nat → Int}
/-- the flags tell who is open -/
def MO (σ : Sg) (pl : List Nat) (op : Nat → Bool) : Prop := (∀ c, op c = true → c ∈ pl) ∧ ∀ c, c < 24 → σ.1 471 c = if op c then 1 else 0
theorem MO.f {op : Nat → Bool} (h : MO σ pl op) {c : Nat} (hc : c < 24) : σ.1 471 c = 0 ↔ op c = false := by
  rw [h.2 c hc]
  cases op c
  · exact ⟨fun _ => rfl, fun _ => rfl⟩
  · exact ⟨fun z => absurd z (by decide), fun z => by cases z⟩
/-- sums over nodes where only members count -/
theorem sm_pl (nd : pl.Nodup) (mem : ∀ c ∈ pl, c < 23) (g : Nat → Int) (hg : ∀ c, ¬ c ∈ pl → g c = 0) : sm g 24 = Sm g pl := by
  rw [list_sm g (N := 24) nd (fun c hc => by have := mem c hc; omega)]
  refine sm_congr (fun i _ => ?_)
  by_cases q : i ∈ pl
  · rw [if_pos q]
  · rw [if_neg q, hg i q]
/-- the room of the closed ones -/
theorem m_closed (h : VM (mv (σ.1 463)) V X) (t : Tree V d wn Y) {n D : Nat} (hn : n < 23) (k1 : V 8 n ≤ 1) (hD : D ≤ 1) (hc : ∀ i, i < 23 → V 9 i = n → mq σ 1 i = 0 ∨ mq σ 1 i = 1) (h12 : σ.1 462 12 = nI n) {op : Nat → Bool} (ho : MO σ (pls V (mq σ) n) op) (hm : ∀ c ∈ pls V (mq σ) n, m c = mq σ (2 + D) c) : fX9_closed σ 462 (nI D) = some (oI (xc (pls V (mq σ) n) m op)) := by
  have en : (nI n).toInt = n := j_nI (by omega)
  have nd := t.pls_nd (P := mq σ) hn k1
  have memc : ∀ c, c ∈ pls V (mq σ) n ↔ c < 23 ∧ V 9 c = n ∧ mq σ 1 c = 1 := fun c => t.pls_mem hn k1
  have tot : sm (fun c => if c ∈ pls V (mq σ) n then (if op c then 0 else m c) else 0) 24 = xc (pls V (mq σ) n) m op := by
    rw [sm_pl nd (fun c hc => ((memc c).mp hc).1) _ (fun c hc => if_neg hc)]
    exact Sm_congr (fun c hc => if_pos hc)
  rw [← tot]
  unfold fX9_closed
  refine lp (F := fun f (s : Int32 × Int32) => fX9_closed_4 σ 462 f (nI D) s.1 s.2) (Q := fun o => o = some (oI (sm (fun c => if c ∈ pls V (mq σ) n then (if op c then 0 else m c) else 0) 24))) (fun i s => s.1 = oI (sm (fun c => if c ∈ pls V (mq σ) n then (if op c then 0 else m c) else 0) i) ∧ s.2 = nI i) 24 ?_ ?_ 24 0 FU (0, 0) rfl (by decide) ⟨rfl, rfl⟩
  · rintro f i ⟨a, l⟩ hi ⟨ha, rfl⟩
    simp only at ha
    have ei : (nI i).toInt = i := j_nI (by omega)
    have nle : ¬ (24 : Int32) ≤ nI i := n_ge 24 (m := 24) rfl hi (by decide)
    have cki : ck (nI i) 24 := j_ckn hi (by decide)
    have ecl : (nI i).toNatClampNeg = i := j_cl _ (by omega)
    have e2 : (2 : Int32) * nI i + nI D = nI (2 * i + D) := by
      rw [show (2 : Int32) * nI i = nI (2 * i) from (Int32.ofNat_mul 2 i).symm, j_a]
    have ec2 : (nI (2 * i + D)).toNatClampNeg = 2 * i + D := j_cl _ (by omega)
    have nx : sm (fun c => if c ∈ pls V (mq σ) n then (if op c then 0 else m c) else 0) (i + 1) = sm (fun c => if c ∈ pls V (mq σ) n then (if op c then 0 else m c) else 0) i + (if i ∈ pls V (mq σ) n then (if op i then 0 else m i) else 0) := rfl
    have z0 : ∀ x : Int32, x + 0 = x := fun x => by simp
    have skip : (if i ∈ pls V (mq σ) n then (if op i then 0 else m i) else 0) = 0 → ∃ s' : Int32 × Int32, (s'.1 = oI (sm (fun c => if c ∈ pls V (mq σ) n then (if op c then 0 else m c) else 0) (i + 1)) ∧ s'.2 = nI (i + 1)) ∧ fX9_closed_54 σ 462 (fX9_closed_4 σ 462 f) (nI D) (nI i) a = fX9_closed_4 σ 462 f (nI D) s'.1 s'.2 := fun v0 => by
      unfold fX9_closed_54 fX9_closed_55
      rw [j_nm, j_s, z0, nx, v0, Int.add_zero]
      exact ⟨(a, nI (i + 1)), ⟨ha, rfl⟩, rfl⟩
    show ∃ s' : Int32 × Int32, _ ∧ fX9_closed_4 σ 462 (f + 1) (nI D) a (nI i) = _
    rw [fX9_closed_4, if_neg nle, h12, m_isChild ei hi, j_b, en]
    by_cases i23 : i < 23
    · rw [h.ch t i23 (by omega)]
      by_cases q : V 9 i = n
      · have q' : decide (V 9 i = (n : Int)) = true := decide_eq_true q
        have s7 : σ.1 (462 + 5) (nI i).toNatClampNeg = 0 ↔ mq σ 1 i = 0 := by
          rw [ecl, show (462 + 5 : Nat) = 467 from rfl, mq1 (by omega), j_eq, jz0]
        rw [if_pos q', if_pos cki]
        rcases hc i i23 q with z | z
        · rw [if_pos (s7.mpr z)]
          exact skip (if_neg (fun y => by have := ((memc i).mp y).2.2; omega))
        · have n7 : ¬ σ.1 (462 + 5) (nI i).toNatClampNeg = 0 := fun y => by rw [s7] at y; omega
          have iin : i ∈ pls V (mq σ) n := (memc i).mpr ⟨i23, q, z⟩
          have s9 : σ.1 (462 + 9) (nI i).toNatClampNeg = 0 ↔ op i = false := by
            rw [ecl]
            exact ho.f (by omega)
          rw [if_neg n7, if_pos cki]
          cases oi : op i
          · rw [if_pos (s9.mpr oi), e2, if_pos (j_ckn (by omega) (by decide))]
            unfold fX9_closed_55
            rw [j_nm, j_s, ec2, nx, if_pos iin, oi]
            refine ⟨(_, nI (i + 1)), ⟨?_, rfl⟩, rfl⟩
            show a + σ.1 (462 + 6) (2 * i + D) = oI (_ + m i)
            rw [ha, hm i iin, mqL (by omega) hD, ← j_oa, j_oIt]
          · have n9 : ¬ σ.1 (462 + 9) (nI i).toNatClampNeg = 0 := fun y => by
              rw [s9, oi] at y
              cases y
            rw [if_neg n9]
            exact skip (by rw [if_pos iin, oi]; rfl)
      · have q' : ¬ decide (V 9 i = (n : Int)) = true := fun y => q (of_decide_eq_true y)
        rw [if_neg q']
        exact skip (if_neg (fun y => q ((memc i).mp y).2.1))
    · have i3 : i = 23 := by omega
      subst i3
      have q' : ¬ (decide (mv (σ.1 463) 0 23 ≠ 0) && decide (mv (σ.1 463) 1 23 = (n : Int))) = true := fun y => by
        rw [h.l] at y
        simp at y
      rw [if_neg q']
      exact skip (if_neg (fun y => i23 ((memc 23).mp y).1))
  · rintro f ⟨a, l⟩ ⟨ha, rfl⟩
    simp only at ha
    show fX9_closed_4 σ 462 (f + 1) (nI D) a (nI 24) = _
    rw [fX9_closed_4, if_pos (n_le 24 (m := 24) rfl (by decide)), ha]
/-- the weight of the open ones, and the room that they have -/
theorem m_tight5 (h : VM (mv (σ.1 463)) V X) (t : Tree V d wn Y) {n D : Nat} (hn : n < 23) (k1 : V 8 n ≤ 1) (hD : D ≤ 1) (hc : ∀ i, i < 23 → V 9 i = n → mq σ 1 i = 0 ∨ mq σ 1 i = 1) (h12 : σ.1 462 12 = nI n) {op : Nat → Bool} (ho : MO σ (pls V (mq σ) n) op) (hm : ∀ c ∈ pls V (mq σ) n, m c = mq σ (2 + D) c) (hw : ∀ c ∈ pls V (mq σ) n, w c = V 11 c) (room : Int32) : ∃ W : Int64, fX9_tightens σ 462 room (nI D) = fX9_tightens_59 462 FU σ (nI D) W ((room - oI (xc (pls V (mq σ) n) m op)).toInt64) 0 0 ∧ W.toInt = xw (pls V (mq σ) n) w op := by
  have nd := t.pls_nd (P := mq σ) hn k1
  have memc : ∀ c, c ∈ pls V (mq σ) n ↔ c < 23 ∧ V 9 c = n ∧ mq σ 1 c = 1 := fun c => t.pls_mem hn k1
  have w1 : ∀ c ∈ pls V (mq σ) n, 1 ≤ w c ∧ w c ≤ 1000000 := fun c hc => by
    rw [hw c hc]
    exact t.we ((memc c).mp hc).1 (by have := ((memc c).mp hc).2.1; omega)
  have tot : sm (fun c => if op c then w c else 0) 24 = xw (pls V (mq σ) n) w op := sm_pl nd (fun c hc => ((memc c).mp hc).1) _ (fun c hc => if_neg (fun z => hc (ho.1 c z)))
  have bd : ∀ i, i ≤ 24 → 0 ≤ sm (fun c => if op c then w c else 0) i ∧ sm (fun c => if op c then w c else 0) i ≤ 1000000 * (i : Int) := by
    intro i
    induction i with
    | zero => exact fun _ => ⟨Int.le_refl _, Int.le_refl _⟩
    | succ i ih =>
      intro hi
      have := ih (by omega)
      have e : sm (fun c => if op c then w c else 0) (i + 1) = sm (fun c => if op c then w c else 0) i + (if op i then w i else 0) := rfl
      rw [e]
      cases oi : op i
      · simp only [Bool.false_eq_true, if_false]
        omega
      · have := w1 i (ho.1 i oi)
        simp only [if_true]
        omega
  rw [← tot]
  unfold fX9_tightens
  rw [j_nm]
  refine lp (F := fun f (s : Int64 × Int32) => fX9_tightens_5 462 f σ room (nI D) s.1 s.2) (Q := fun o => ∃ W : Int64, o = fX9_tightens_59 462 FU σ (nI D) W ((room - oI (xc (pls V (mq σ) n) m op)).toInt64) 0 0 ∧ W.toInt = sm (fun c => if op c then w c else 0) 24) (fun i s => s.1.toInt = sm (fun c => if op c then w c else 0) i ∧ s.2 = nI i) 24 ?_ ?_ 24 0 FU (0, 0) rfl (by decide) ⟨rfl, rfl⟩
  · rintro f i ⟨a, l⟩ hi ⟨ha, rfl⟩
    simp only at ha
    have ei : (nI i).toInt = i := j_nI (by omega)
    have nle : ¬ (24 : Int32) ≤ nI i := n_ge 24 (m := 24) rfl hi (by decide)
    have cki : ck (nI i) 24 := j_ckn hi (by decide)
    have ecl : (nI i).toNatClampNeg = i := j_cl _ (by omega)
    have s9 : σ.1 (462 + 9) (nI i).toNatClampNeg = 0 ↔ op i = false := by
      rw [ecl]
      exact ho.f hi
    have nx : sm (fun c => if op c then w c else 0) (i + 1) = sm (fun c => if op c then w c else 0) i + (if op i then w i else 0) := rfl
    have b := bd i (by omega)
    show ∃ s' : Int64 × Int32, _ ∧ fX9_tightens_5 462 (f + 1) σ room (nI D) a (nI i) = _
    rw [fX9_tightens_5, if_neg nle, if_pos cki]
    cases oi : op i
    · rw [if_pos (s9.mpr oi)]
      unfold fX9_tightens_35
      rw [j_nm, j_s]
      refine ⟨(_, nI (i + 1)), ⟨?_, rfl⟩, rfl⟩
      show (a + 0).toInt = _
      rw [k_add (by rw [ha, kz0]; omega) (by rw [ha, kz0]; omega), ha, kz0, nx, oi]
      rfl
    · have n9 : ¬ σ.1 (462 + 9) (nI i).toNatClampNeg = 0 := fun y => by
        rw [s9, oi] at y
        cases y
      have iin := ho.1 i oi
      obtain ⟨i23, q, -⟩ := (memc i).mp iin
      have ww := w1 i iin
      rw [if_neg n9, m_i3 ei hi, j_b]
      unfold fX9_tightens_35
      rw [j_nm, j_s]
      refine ⟨(_, nI (i + 1)), ⟨?_, rfl⟩, rfl⟩
      show (a + (oI (mv (σ.1 463) 3 i)).toInt64).toInt = _
      have wt : (oI (mv (σ.1 463) 3 i)).toInt64.toInt = w i := by rw [k_64, t_mv, h.we i23 (by omega), hw i iin]
      rw [k_add (by rw [ha, wt]; omega) (by rw [ha, wt]; omega), ha, wt, nx, oi]
      rfl
  · rintro f ⟨a, l⟩ ⟨ha, rfl⟩
    simp only at ha
    show ∃ W : Int64, fX9_tightens_5 462 (f + 1) σ room (nI D) a (nI 24) = _ ∧ _
    rw [fX9_tightens_5, if_pos (n_le 24 (m := 24) rfl (by decide)), m_closed h t hn k1 hD hc h12 ho hm, j_b, j_nm]
    exact ⟨a, rfl, ha⟩
end MH9
end
section
/-! THE RELATION: the reference's plan (9): a round of shares -/
section MI
variable {σ : Sg} {V : VW} {d : Nat → Nat} {wn : Nat → Int} {X Y : Nat → Bool} {pl : List Nat} {m w : Nat → Int} {room : Int}
/-- who gets less than the least -/
def sml (pl : List Nat) (room : Int) (m w : Nat → Int) (op : Nat → Bool) (c : Nat) : Bool := op c && !xo pl room m w op c
theorem xa_cnt (mem : ∀ c ∈ pl, c < 24) {op : Nat → Bool} (sub : ∀ c, op c = true → c ∈ pl) : xa pl op (xo pl room m w op) = decide (1 ≤ cnt (sml pl room m w op) 24) := by
  cases q : xa pl op (xo pl room m w op)
  · refine (decide_eq_false (fun z => ?_)).symm
    obtain ⟨c, _, e⟩ := cnt_ex z
    have oc : op c = true := by
      unfold sml at e
      simp only [Bool.and_eq_true] at e
      exact e.1
    have : xa pl op (xo pl room m w op) = true := by
      unfold xa
      rw [List.any_eq_true]
      exact ⟨c, sub c oc, e⟩
    rw [q] at this
    cases this
  · unfold xa at q
    rw [List.any_eq_true] at q
    obtain ⟨c, hc, e⟩ := q
    exact (decide_eq_true (cnt_pos (mem c hc) e)).symm
theorem m_tight59 (h : VM (mv (σ.1 463)) V X) {D : Nat} (hD : D ≤ 1) (mem : ∀ c ∈ pl, c < 23 ∧ V 9 c ≠ -1) (x : XB pl m w) (h0 : 0 ≤ room ∧ room ≤ 400) (hs : Sm m pl < room) {op : Nat → Bool} (ho1 : 1 ≤ xn pl op) (ho : MO σ pl op) (hm : ∀ c ∈ pl, m c = mq σ (2 + D) c) (hw : ∀ c ∈ pl, w c = V 11 c) {L5 W : Int64} (e5 : L5.toInt = room - xc pl m op) (eW : W.toInt = xw pl w op) : ∃ σ', fX9_tightens_59 462 FU σ (nI D) W L5 0 0 = (if xa pl op (xo pl room m w op) then fX9_tightens_153 462 FU σ' (nI D) 0 else (fX9_evens σ' 462 L5 W).bind fun σ5 => some (false, σ5)) ∧ Out σ σ' 470 470 ∧ (∀ c, op c = true → (σ'.1 470 c).toInt = xq pl room m w op c) ∧ ∀ c, op c = false → σ'.1 470 c = σ.1 470 c := by
  obtain ⟨y, hy, ey⟩ := xn_ex ho1
  have wp := xw_pos x.1 hy ey
  obtain ⟨c0, c1⟩ := xc_rg x hs op
  have zW : ¬ W = 0 := by rw [k_eq, eW, kz0]; omega
  rw [xa_cnt (fun c hc => by have := (mem c hc).1; omega) ho.1]
  have n10 : ¬ (1 : Int32) = 0 := by decide
  refine lp (F := fun f (s : Sg × Int32 × Int32) => fX9_tightens_59 462 f s.1 (nI D) W L5 s.2.1 s.2.2) (Q := fun o => ∃ σ', o = (if decide (1 ≤ cnt (sml pl room m w op) 24) then fX9_tightens_153 462 FU σ' (nI D) 0 else (fX9_evens σ' 462 L5 W).bind fun σ5 => some (false, σ5)) ∧ Out σ σ' 470 470 ∧ (∀ c, op c = true → (σ'.1 470 c).toInt = xq pl room m w op c) ∧ ∀ c, op c = false → σ'.1 470 c = σ.1 470 c) (fun i s => s.2.2 = nI i ∧ s.2.1 = (if decide (1 ≤ cnt (sml pl room m w op) i) then 1 else 0) ∧ Out σ s.1 470 470 ∧ (∀ c, c < i → op c = true → (s.1.1 470 c).toInt = xq pl room m w op c) ∧ ∀ c, op c = false → s.1.1 470 c = σ.1 470 c) 24 ?_ ?_ 24 0 FU (σ, 0, 0) rfl (by decide) ⟨rfl, rfl, Out.rf, fun c hc => absurd hc (by omega), fun _ _ => rfl⟩
  · rintro f i ⟨s, g, l⟩ hi ⟨rfl, hg, hO, hv, hk⟩
    simp only at hg hO hv hk
    have ei : (nI i).toInt = i := j_nI (by omega)
    have nle : ¬ (24 : Int32) ≤ nI i := n_ge 24 (m := 24) rfl hi (by decide)
    have cki : ck (nI i) 24 := j_ckn hi (by decide)
    have ecl : (nI i).toNatClampNeg = i := j_cl _ (by omega)
    have s9 : s.1 (462 + 9) (nI i).toNatClampNeg = 0 ↔ op i = false := by
      rw [ecl, show (462 + 9 : Nat) = 471 from rfl, hO.2 471 (by omega)]
      exact ho.f hi
    show ∃ s' : Sg × Int32 × Int32, _ ∧ fX9_tightens_59 462 (f + 1) s (nI D) W L5 g (nI i) = _
    rw [fX9_tightens_59, if_neg nle, if_pos cki]
    cases oi : op i
    · rw [if_pos (s9.mpr oi)]
      unfold fX9_tightens_130
      rw [j_s]
      have v0 : sml pl room m w op i = false := by unfold sml; rw [oi, Bool.false_and]
      refine ⟨(s, g, nI (i + 1)), ⟨rfl, ?_, hO, fun c hc oc => ?_, hk⟩, rfl⟩
      · rw [cnt_nx, v0]
        exact hg
      · have : c ≠ i := fun z => by rw [z, oi] at oc; cases oc
        exact hv c (by omega) oc
    · have n9 : ¬ s.1 (462 + 9) (nI i).toNatClampNeg = 0 := fun y => by
        rw [s9, oi] at y
        cases y
      have iin := ho.1 i oi
      obtain ⟨i23, ip⟩ := mem i iin
      have w1 := x.1.2.2 i iin
      have wB := x.2.2.2 i iin
      have qr := xq_rg x h0 hs iin oi
      have n0 : 0 ≤ (room - xc pl m op) * w i := Int.mul_nonneg (by omega) (by omega)
      have n1 : (room - xc pl m op) * w i ≤ 400 * 1000000 := Int.mul_le_mul (by omega) (by omega) (by omega) (by omega)
      have e63 : s.1 463 = σ.1 463 := hO.2 463 (by omega)
      have wt : (oI (mv (s.1 463) 3 i)).toInt64.toInt = w i := by rw [k_64, t_mv, e63, h.we i23 ip, hw i iin]
      have v6 : (L5 * (oI (mv (s.1 463) 3 i)).toInt64).toInt = (room - xc pl m op) * w i := by
        rw [k_mul (by rw [wt, e5]; omega) (by rw [wt, e5]; omega), wt, e5]
      have vq : ((L5 * (oI (mv (s.1 463) 3 i)).toInt64) / W).toInt = xq pl room m w op i := by
        rw [k_div (by rw [v6]; exact n0) (by rw [eW]; omega), v6, eW]
        rfl
      have v32 : ((L5 * (oI (mv (s.1 463) 3 i)).toInt64) / W).toInt32.toInt = xq pl room m w op i := by rw [k_32 (by rw [vq]; omega) (by rw [vq]; omega), vq]
      rw [if_neg n9, m_i3 ei hi, j_b, if_neg zW, if_pos cki, j_nm]
      have e2 : (2 : Int32) * nI i + nI D = nI (2 * i + D) := by
        rw [show (2 : Int32) * nI i = nI (2 * i) from (Int32.ofNat_mul 2 i).symm, j_a]
      have ec2 : (nI (2 * i + D)).toNatClampNeg = 2 * i + D := j_cl _ (by omega)
      have ck2 : ck (nI (2 * i + D)) 48 := j_ckn (by omega) (by decide)
      have g8 : (su s (462 + 8) (nI i).toNatClampNeg ((L5 * (oI (mv (s.1 463) 3 i)).toInt64) / W).toInt32).1 (462 + 8) (nI i).toNatClampNeg = ((L5 * (oI (mv (s.1 463) 3 i)).toInt64) / W).toInt32 := by
        show (su s 470 (nI i).toNatClampNeg ((L5 * (oI (mv (s.1 463) 3 i)).toInt64) / W).toInt32).1 470 (nI i).toNatClampNeg = ((L5 * (oI (mv (s.1 463) 3 i)).toInt64) / W).toInt32
        rw [su_at, if_pos ⟨rfl, rfl⟩]
      have g6 : ((su s (462 + 8) (nI i).toNatClampNeg ((L5 * (oI (mv (s.1 463) 3 i)).toInt64) / W).toInt32).1 (462 + 6) (nI (2 * i + D)).toNatClampNeg).toInt = m i := by
        rw [ec2]
        show ((su s 470 (nI i).toNatClampNeg ((L5 * (oI (mv (s.1 463) 3 i)).toInt64) / W).toInt32).1 468 (2 * i + D)).toInt = m i
        rw [su_ne (by omega), hO.2 468 (by omega), ← mqL (by omega) hD, hm i iin]
      have fin : ∀ g' : Int32, g' = (if decide (1 ≤ cnt (sml pl room m w op) (i + 1)) then 1 else 0) → ∃ s' : Sg × Int32 × Int32, (s'.2.2 = nI (i + 1) ∧ s'.2.1 = (if decide (1 ≤ cnt (sml pl room m w op) (i + 1)) then 1 else 0) ∧ Out σ s'.1 470 470 ∧ (∀ c, c < i + 1 → op c = true → (s'.1.1 470 c).toInt = xq pl room m w op c) ∧ ∀ c, op c = false → s'.1.1 470 c = σ.1 470 c) ∧ fX9_tightens_128 462 (fX9_tightens_59 462 f) (su s (462 + 8) (nI i).toNatClampNeg ((L5 * (oI (mv (s.1 463) 3 i)).toInt64) / W).toInt32) (nI D) W L5 (nI i) g' = fX9_tightens_59 462 f s'.1 (nI D) W L5 s'.2.1 s'.2.2 := fun g' hg' => by
        unfold fX9_tightens_128 fX9_tightens_130
        rw [j_s, ecl]
        refine ⟨(su s 470 i ((L5 * (oI (mv (s.1 463) 3 i)).toInt64) / W).toInt32, g', nI (i + 1)), ⟨rfl, hg', hO.tr su_out, fun c hc oc => ?_, fun c oc => ?_⟩, rfl⟩
        · show ((su s 470 i ((L5 * (oI (mv (s.1 463) 3 i)).toInt64) / W).toInt32).1 470 c).toInt = _
          rw [su_at]
          by_cases z : c = i
          · rw [if_pos ⟨rfl, z⟩, v32, z]
          · rw [if_neg (fun u => z u.2)]
            exact hv c (by omega) oc
        · show (su s 470 i ((L5 * (oI (mv (s.1 463) 3 i)).toInt64) / W).toInt32).1 470 c = _
          have z : c ≠ i := fun z => by rw [z, oi] at oc; cases oc
          rw [su_at, if_neg (fun u => z u.2)]
          exact hk c oc
      by_cases z : 1 ≤ cnt (sml pl room m w op) i
      · have g1 : ¬ g = 0 := fun y => by rw [hg, decide_eq_true z] at y; exact absurd y (by decide)
        rw [if_neg g1]
        unfold fX9_tightens_123
        exact fin 1 (by
          rw [cnt_nx, decide_eq_true (show 1 ≤ cnt (sml pl room m w op) i + _ by omega)]
          rfl)
      · have g0 : g = 0 := by rw [hg, decide_eq_false z]; rfl
        rw [if_pos g0, if_pos cki, e2, if_pos ck2]
        by_cases q : m i ≤ xq pl room m w op i
        · have pq : (su s (462 + 8) (nI i).toNatClampNeg ((L5 * (oI (mv (s.1 463) 3 i)).toInt64) / W).toInt32).1 (462 + 6) (nI (2 * i + D)).toNatClampNeg ≤ (su s (462 + 8) (nI i).toNatClampNeg ((L5 * (oI (mv (s.1 463) 3 i)).toInt64) / W).toInt32).1 (462 + 8) (nI i).toNatClampNeg := by
            rw [j_le, g6, g8, v32]
            exact q
          rw [if_pos pq]
          have v0 : sml pl room m w op i = false := by
            unfold sml xo
            rw [oi, decide_eq_true q]
            rfl
          exact fin 0 (by
            rw [cnt_nx, v0, decide_eq_false (show ¬ 1 ≤ cnt (sml pl room m w op) i + (if false = true then 1 else 0) by simp only [Bool.false_eq_true, if_false]; omega)]
            rfl)
        · have nq : ¬ (su s (462 + 8) (nI i).toNatClampNeg ((L5 * (oI (mv (s.1 463) 3 i)).toInt64) / W).toInt32).1 (462 + 6) (nI (2 * i + D)).toNatClampNeg ≤ (su s (462 + 8) (nI i).toNatClampNeg ((L5 * (oI (mv (s.1 463) 3 i)).toInt64) / W).toInt32).1 (462 + 8) (nI i).toNatClampNeg := by
            rw [j_le, g6, g8, v32]
            exact q
          rw [if_neg nq]
          have v1 : sml pl room m w op i = true := by
            unfold sml xo
            rw [oi, decide_eq_false q]
            rfl
          unfold fX9_tightens_123
          exact fin 1 (by
            rw [cnt_nx, v1, decide_eq_true (show 1 ≤ cnt (sml pl room m w op) i + (if true = true then 1 else 0) by simp only [if_true]; omega)]
            rfl)
  · rintro f ⟨s, g, l⟩ ⟨rfl, hg, hO, hv, hk⟩
    simp only at hg hO hv hk
    show ∃ σ', fX9_tightens_59 462 (f + 1) s (nI D) W L5 g (nI 24) = _ ∧ _
    rw [fX9_tightens_59, if_pos (n_le 24 (m := 24) rfl (by decide))]
    refine ⟨s, ?_, hO, fun c oc => hv c (by have := (mem c (ho.1 c oc)).1; omega) oc, hk⟩
    by_cases z : 1 ≤ cnt (sml pl room m w op) 24
    · rw [decide_eq_true z] at hg ⊢
      have g1 : ¬ g = 0 := fun y => n10 (hg.symm.trans y)
      rw [if_neg g1, if_pos rfl]
    · rw [decide_eq_false z] at hg ⊢
      have g0 : g = 0 := hg
      rw [if_pos g0]
      rfl
end MI
end
section
/-! THE RELATION: the reference's plan (10): a round closes parts -/
section MJ9
variable {σ : Sg} {pl : List Nat} {m w : Nat → Int} {room : Int}
theorem m_tight153 {D : Nat} (hD : D ≤ 1) (mem : ∀ c ∈ pl, c < 23) {op : Nat → Bool} (ho : MO σ pl op) (hm : ∀ c ∈ pl, m c = mq σ (2 + D) c) (hq : ∀ c, op c = true → (σ.1 470 c).toInt = xq pl room m w op c) : ∃ σ', fX9_tightens_153 462 FU σ (nI D) 0 = some (true, σ') ∧ Out σ σ' 470 471 ∧ MO σ' pl (xo pl room m w op) ∧ (∀ c, xo pl room m w op c = true → (σ'.1 470 c).toInt = xq pl room m w op c) ∧ (∀ c, op c = true → xo pl room m w op c = false → (σ'.1 470 c).toInt = m c) ∧ ∀ c, op c = false → σ'.1 470 c = σ.1 470 c := by
  refine lp (F := fun f (s : Sg × Int32) => fX9_tightens_153 462 f s.1 (nI D) s.2) (Q := fun o => ∃ σ', o = some (true, σ') ∧ Out σ σ' 470 471 ∧ MO σ' pl (xo pl room m w op) ∧ (∀ c, xo pl room m w op c = true → (σ'.1 470 c).toInt = xq pl room m w op c) ∧ (∀ c, op c = true → xo pl room m w op c = false → (σ'.1 470 c).toInt = m c) ∧ ∀ c, op c = false → σ'.1 470 c = σ.1 470 c) (fun i s => s.2 = nI i ∧ Out σ s.1 470 471 ∧ (∀ c, c < 24 → s.1.1 471 c = if (if c < i then xo pl room m w op c else op c) then 1 else 0) ∧ (∀ c, op c = true → (c < i → xo pl room m w op c = true) → (s.1.1 470 c).toInt = xq pl room m w op c) ∧ (∀ c, c < i → op c = true → xo pl room m w op c = false → (s.1.1 470 c).toInt = m c) ∧ ∀ c, op c = false → s.1.1 470 c = σ.1 470 c) 24 ?_ ?_ 24 0 FU (σ, 0) rfl (by decide) ⟨rfl, Out.rf, fun c hc => by
    rw [if_neg (show ¬ c < 0 by omega)]
    exact ho.2 c hc, fun c oc _ => hq c oc, fun c hc => absurd hc (by omega), fun _ _ => rfl⟩
  · rintro f i ⟨s, l⟩ hi ⟨rfl, hO, h1, h2, h3, h4⟩
    simp only at hO h1 h2 h3 h4
    have nle : ¬ (24 : Int32) ≤ nI i := n_ge 24 (m := 24) rfl hi (by decide)
    have cki : ck (nI i) 24 := j_ckn hi (by decide)
    have ecl : (nI i).toNatClampNeg = i := j_cl _ (by omega)
    have f9 := h1 i hi
    rw [if_neg (show ¬ i < i by omega)] at f9
    have s9 : s.1 (462 + 9) (nI i).toNatClampNeg = 0 ↔ op i = false := by
      rw [ecl, show (462 + 9 : Nat) = 471 from rfl, f9]
      cases op i
      · exact ⟨fun _ => rfl, fun _ => rfl⟩
      · exact ⟨fun z => absurd z (by decide), fun z => by cases z⟩
    have e2 : (2 : Int32) * nI i + nI D = nI (2 * i + D) := by
      rw [show (2 : Int32) * nI i = nI (2 * i) from (Int32.ofNat_mul 2 i).symm, j_a]
    have ec2 : (nI (2 * i + D)).toNatClampNeg = 2 * i + D := j_cl _ (by omega)
    have ck2 : ck (nI (2 * i + D)) 48 := j_ckn (by omega) (by decide)
    -- nothing changes
    have same : xo pl room m w op i = op i → ∃ s' : Sg × Int32, (s'.2 = nI (i + 1) ∧ Out σ s'.1 470 471 ∧ (∀ c, c < 24 → s'.1.1 471 c = if (if c < i + 1 then xo pl room m w op c else op c) then 1 else 0) ∧ (∀ c, op c = true → (c < i + 1 → xo pl room m w op c = true) → (s'.1.1 470 c).toInt = xq pl room m w op c) ∧ (∀ c, c < i + 1 → op c = true → xo pl room m w op c = false → (s'.1.1 470 c).toInt = m c) ∧ ∀ c, op c = false → s'.1.1 470 c = σ.1 470 c) ∧ fX9_tightens_217 462 (fX9_tightens_153 462 f) s (nI D) (nI i) = fX9_tightens_153 462 f s'.1 (nI D) s'.2 := fun e => by
      unfold fX9_tightens_217
      rw [j_s]
      refine ⟨(s, nI (i + 1)), ⟨rfl, hO, fun c hc => ?_, fun c oc y => h2 c oc (fun z => y (by omega)), fun c hc oc xc => ?_, h4⟩, rfl⟩
      · show s.1 471 c = _
        rw [h1 c hc]
        by_cases z : c = i
        · rw [z, if_neg (show ¬ i < i by omega), if_pos (show i < i + 1 by omega), e]
        · by_cases y : c < i
          · rw [if_pos y, if_pos (show c < i + 1 by omega)]
          · rw [if_neg y, if_neg (show ¬ c < i + 1 by omega)]
      · have : c ≠ i := fun z => by rw [z, e] at xc; rw [z, xc] at oc; cases oc
        exact h3 c (by omega) oc xc
    show ∃ s' : Sg × Int32, _ ∧ fX9_tightens_153 462 (f + 1) s (nI D) (nI i) = _
    rw [fX9_tightens_153, if_neg nle, if_pos cki]
    cases oi : op i
    · rw [if_pos (s9.mpr oi)]
      exact same (by unfold xo; rw [oi, Bool.false_and])
    · have n9 : ¬ s.1 (462 + 9) (nI i).toNatClampNeg = 0 := fun y => by
        rw [s9, oi] at y
        cases y
      have iin := ho.1 i oi
      have g8 : (s.1 (462 + 8) (nI i).toNatClampNeg).toInt = xq pl room m w op i := by
        rw [ecl]
        exact h2 i oi (fun z => absurd z (by omega))
      have g6 : (s.1 (462 + 6) (nI (2 * i + D)).toNatClampNeg).toInt = m i := by
        rw [ec2, show (462 + 6 : Nat) = 468 from rfl, hO.2 468 (by omega), ← mqL (by omega) hD, hm i iin]
      rw [if_neg n9, if_pos cki, e2, if_pos ck2]
      by_cases q : m i ≤ xq pl room m w op i
      · have pq : s.1 (462 + 6) (nI (2 * i + D)).toNatClampNeg ≤ s.1 (462 + 8) (nI i).toNatClampNeg := by
          rw [j_le, g6, g8]
          exact q
        rw [if_pos pq]
        exact same (by unfold xo; rw [oi, decide_eq_true q]; rfl)
      · have nq : ¬ s.1 (462 + 6) (nI (2 * i + D)).toNatClampNeg ≤ s.1 (462 + 8) (nI i).toNatClampNeg := by
          rw [j_le, g6, g8]
          exact q
        have b0 : vp_nar .boolean (0 : Int32) = 0 := by decide
        have xi : xo pl room m w op i = false := by unfold xo; rw [decide_eq_false q, Bool.and_false]
        rw [if_neg nq, if_pos ck2, if_pos cki, j_nm, if_pos cki, j_nm, b0]
        unfold fX9_tightens_217
        rw [j_s, ecl]
        generalize hv : s.1 (462 + 6) (nI (2 * i + D)).toNatClampNeg = v at g6
        refine ⟨(su (su s 470 i v) 471 i 0, nI (i + 1)), ⟨rfl, (hO.tr (su_out.mo (by omega) (by omega))).tr (su_out.mo (by omega) (by omega)), fun c hc => ?_, fun c oc y => ?_, fun c hc oc xc => ?_, fun c oc => ?_⟩, rfl⟩
        · show (su (su s 470 i v) 471 i 0).1 471 c = _
          rw [su_at]
          by_cases z : c = i
          · rw [if_pos ⟨rfl, z⟩, z, if_pos (show i < i + 1 by omega), xi]
            rfl
          · rw [if_neg (fun u => z u.2), su_at, if_neg (by omega), h1 c hc]
            by_cases y : c < i
            · rw [if_pos y, if_pos (show c < i + 1 by omega)]
            · rw [if_neg y, if_neg (show ¬ c < i + 1 by omega)]
        · have z : c ≠ i := fun z => by
            have := y (by omega)
            rw [z, xi] at this
            cases this
          show ((su (su s 470 i v) 471 i 0).1 470 c).toInt = _
          rw [su_at, if_neg (by omega), su_at, if_neg (fun u => z u.2)]
          exact h2 c oc (fun u => y (by omega))
        · show ((su (su s 470 i v) 471 i 0).1 470 c).toInt = _
          rw [su_at, if_neg (by omega), su_at]
          by_cases z : c = i
          · rw [if_pos ⟨rfl, z⟩, g6, z]
          · rw [if_neg (fun u => z u.2)]
            exact h3 c (by omega) oc xc
        · have z : c ≠ i := fun z => by rw [z, oi] at oc; cases oc
          show (su (su s 470 i v) 471 i 0).1 470 c = _
          rw [su_at, if_neg (by omega), su_at, if_neg (fun u => z u.2)]
          exact h4 c oc
  · rintro f ⟨s, l⟩ ⟨rfl, hO, h1, h2, h3, h4⟩
    simp only at hO h1 h2 h3 h4
    show ∃ σ', fX9_tightens_153 462 (f + 1) s (nI D) (nI 24) = _ ∧ _
    rw [fX9_tightens_153, if_pos (n_le 24 (m := 24) rfl (by decide))]
    have lt : ∀ c, op c = true → c < 24 := fun c oc => by have := mem c (ho.1 c oc); omega
    refine ⟨s, rfl, hO, ⟨fun c xc => ho.1 c (xo_in c xc), fun c hc => ?_⟩, fun c xc => h2 c (xo_in c xc) (fun _ => xc), fun c oc xc => h3 c (lt c oc) oc xc, h4⟩
    rw [h1 c hc, if_pos hc]
end MJ9
end
section
/-! THE RELATION: the reference's plan (11): what is left over -/
section MK9
variable {σ : Sg} {pl : List Nat} {m w : Nat → Int} {room : Int}
theorem m_ev6 (nd : pl.Nodup) (mem : ∀ c ∈ pl, c < 23) {op : Nat → Bool} (ho : MO σ pl op) (hq : ∀ c, op c = true → (σ.1 470 c).toInt = xq pl room m w op c) (hB : ∀ c, op c = true → 0 ≤ xq pl room m w op c ∧ xq pl room m w op c ≤ 400) (hr : 0 ≤ room - xc pl m op ∧ room - xc pl m op ≤ 400) {L5 W : Int64} (e5 : L5.toInt = room - xc pl m op) : ∃ R : Int64, fX9_evens σ 462 L5 W = fX9_evens_46 462 FU σ L5 W R ∧ R.toInt = room - Sm (xe pl room m w op) pl := by
  have tot : sm (fun c => if op c then xq pl room m w op c else 0) 24 = Sm (fun c => if op c then xq pl room m w op c else 0) pl := sm_pl nd mem _ (fun c hc => if_neg (fun z => hc (ho.1 c z)))
  have e1 : Sm (xe pl room m w op) pl = xc pl m op + Sm (fun c => if op c then xq pl room m w op c else 0) pl := by
    unfold xc
    rw [← Sm_add]
    refine Sm_congr (fun c _ => ?_)
    show (if op c then xq pl room m w op c else m c) = (if op c then 0 else m c) + (if op c then xq pl room m w op c else 0)
    cases op c <;> simp
  have bd : ∀ i, i ≤ 24 → 0 ≤ sm (fun c => if op c then xq pl room m w op c else 0) i ∧ sm (fun c => if op c then xq pl room m w op c else 0) i ≤ 400 * (i : Int) := by
    intro i
    induction i with
    | zero => exact fun _ => ⟨Int.le_refl _, Int.le_refl _⟩
    | succ i ih =>
      intro hi
      have := ih (by omega)
      have e : sm (fun c => if op c then xq pl room m w op c else 0) (i + 1) = sm (fun c => if op c then xq pl room m w op c else 0) i + (if op i then xq pl room m w op i else 0) := rfl
      rw [e]
      cases oi : op i
      · simp only [Bool.false_eq_true, if_false]
        omega
      · have := hB i oi
        simp only [if_true]
        omega
  have goal : room - Sm (xe pl room m w op) pl = (room - xc pl m op) - sm (fun c => if op c then xq pl room m w op c else 0) 24 := by
    rw [e1, tot]
    omega
  rw [goal]
  unfold fX9_evens
  refine lp (F := fun f (s : Int64 × Int32) => fX9_evens_6 462 f σ L5 W s.1 s.2) (Q := fun o => ∃ R : Int64, o = fX9_evens_46 462 FU σ L5 W R ∧ R.toInt = (room - xc pl m op) - sm (fun c => if op c then xq pl room m w op c else 0) 24) (fun i s => s.1.toInt = (room - xc pl m op) - sm (fun c => if op c then xq pl room m w op c else 0) i ∧ s.2 = nI i) 24 ?_ ?_ 24 0 FU (L5, 0) rfl (by decide) ⟨by
    show L5.toInt = _ - 0
    rw [e5]
    omega, rfl⟩
  · rintro f i ⟨a, l⟩ hi ⟨ha, rfl⟩
    simp only at ha
    have nle : ¬ (24 : Int32) ≤ nI i := n_ge 24 (m := 24) rfl hi (by decide)
    have cki : ck (nI i) 24 := j_ckn hi (by decide)
    have ecl : (nI i).toNatClampNeg = i := j_cl _ (by omega)
    have s9 : σ.1 (462 + 9) (nI i).toNatClampNeg = 0 ↔ op i = false := by
      rw [ecl]
      exact ho.f hi
    have nx : sm (fun c => if op c then xq pl room m w op c else 0) (i + 1) = sm (fun c => if op c then xq pl room m w op c else 0) i + (if op i then xq pl room m w op i else 0) := rfl
    have b := bd i (by omega)
    show ∃ s' : Int64 × Int32, _ ∧ fX9_evens_6 462 (f + 1) σ L5 W a (nI i) = _
    rw [fX9_evens_6, if_neg nle, if_pos cki]
    cases oi : op i
    · rw [if_pos (s9.mpr oi)]
      unfold fX9_evens_37
      rw [j_nm, j_s]
      refine ⟨(_, nI (i + 1)), ⟨?_, rfl⟩, rfl⟩
      show (a - 0).toInt = _
      rw [k_sub (by rw [ha, kz0]; omega) (by rw [ha, kz0]; omega), ha, kz0, nx, oi]
      simp
    · have n9 : ¬ σ.1 (462 + 9) (nI i).toNatClampNeg = 0 := fun y => by
        rw [s9, oi] at y
        cases y
      have qb := hB i oi
      have v8 : (σ.1 (462 + 8) (nI i).toNatClampNeg).toInt64.toInt = xq pl room m w op i := by
        rw [k_64, ecl]
        exact hq i oi
      rw [if_neg n9, if_pos cki]
      unfold fX9_evens_37
      rw [j_nm, j_s]
      refine ⟨(_, nI (i + 1)), ⟨?_, rfl⟩, rfl⟩
      show (a - (σ.1 (462 + 8) (nI i).toNatClampNeg).toInt64).toInt = _
      rw [k_sub (by rw [ha, v8]; omega) (by rw [ha, v8]; omega), ha, v8, nx, oi]
      simp only [if_true]
      omega
  · rintro f ⟨a, l⟩ ⟨ha, rfl⟩
    simp only at ha
    show ∃ R : Int64, fX9_evens_6 462 (f + 1) σ L5 W a (nI 24) = _ ∧ _
    rw [fX9_evens_6, if_pos (n_le 24 (m := 24) rfl (by decide))]
    exact ⟨a, rfl, ha⟩
end MK9
end
section
/-! THE RELATION: the reference's plan (12): the pick -/
section MLL
variable {σ : Sg} {V : VW} {d : Nat → Nat} {wn : Nat → Int} {X Y : Nat → Bool} {m w : Nat → Int} {room : Int}
theorem xp_filter {r : Nat → Int} {op p : Nat → Bool} : ∀ (l : List Nat) (b v : Int), (∀ c ∈ l, p c = false → op c = false) → xp r op l b v = xp r op (l.filter p) b v
  | [], _, _, _ => rfl
  | c :: t, b, v, h => by
    have ih : ∀ (b v : Int), xp r op t b v = xp r op (t.filter p) b v := fun b v => xp_filter t b v (fun c hc => h c (List.mem_cons_of_mem _ hc))
    rw [List.filter_cons]
    cases q : p c
    · have := h c (List.mem_cons_self ..) q
      show (if op c && decide (v < r c) then xp r op t c (r c) else xp r op t b v) = _
      rw [this, Bool.false_and]
      simp only [Bool.false_eq_true, if_false]
      exact ih b v
    · simp only [if_true]
      show (if op c && decide (v < r c) then xp r op t c (r c) else xp r op t b v) = (if op c && decide (v < r c) then xp r op (t.filter p) c (r c) else xp r op (t.filter p) b v)
      rw [ih, ih]
theorem m_pick (h : VM (mv (σ.1 463)) V X) (t : Tree V d wn Y) {n : Nat} (hn : n < 23) (k1 : V 8 n ≤ 1) (h12 : σ.1 462 12 = nI n) {P : VW} {op op' : Nat → Bool} (ho : MO σ (pls V P n) op') {W L5 : Int64} (eW : 0 < W.toInt ∧ W.toInt ≤ 1000000000) (e5 : 0 ≤ L5.toInt ∧ L5.toInt ≤ 400) {r : Nat → Int} (hr : ∀ c ∈ pls V P n, r c = L5.toInt * V 11 c % W.toInt) (ex : ∃ c ∈ pls V P n, op' c = true) (K : Sg → Int64 → Int64 → Int64 → Option Sg) (R : Int64) : ∃ c : Nat, c ∈ pls V P n ∧ op' c = true ∧ xp r op' (pls V P n) (-1) (-1) = c ∧ fX9_evens_64 462 K FU σ L5 W R (-1) (-1) 0 = K (su (su σ 470 c (σ.1 470 c + 1)) 471 c 0) L5 W (R - 1) := by
  have memc : ∀ c, c ∈ pls V P n ↔ c < 23 ∧ V 9 c = n ∧ P 1 c = 1 := fun c => t.pls_mem hn k1
  have c23 : v_cc V n ≤ 23 := by
    unfold v_cc
    split
    · omega
    · exact cnt_le _ _
  have zW : ¬ W = 0 := by rw [k_eq, kz0]; omega
  have r0 : ∀ c ∈ pls V P n, 0 ≤ r c := fun c hc => by rw [hr c hc]; exact Int.emod_nonneg _ (by omega)
  have fl : xp r op' (pls V P n) (-1) (-1) = xp r op' (kids V n) (-1) (-1) := (xp_filter (kids V n) (-1) (-1) (fun c hc q => by
    cases oc : op' c
    · rfl
    · have := (List.mem_filter.mp (ho.1 c oc)).2
      rw [q] at this
      cases this)).symm
  rw [fl]
  have m1 : (-1 : Int64).toInt = -1 := rfl
  refine lp (F := fun f (s : Int32 × Int64 × Int32) => fX9_evens_64 462 K f σ L5 W R s.1 s.2.1 s.2.2) (Q := fun o => ∃ c : Nat, c ∈ pls V P n ∧ op' c = true ∧ xp r op' (kids V n) (-1) (-1) = c ∧ o = K (su (su σ 470 c (σ.1 470 c + 1)) 471 c 0) L5 W (R - 1)) (fun i s => s.2.2 = nI i ∧ ∃ b, xp r op' (kids V n) (-1) (-1) = xp r op' ((kids V n).drop i) b s.2.1.toInt ∧ ((b = -1 ∧ s.2.1.toInt = -1) ∨ ∃ c : Nat, c ∈ pls V P n ∧ op' c = true ∧ b = c ∧ s.1 = nI c ∧ s.2.1.toInt = r c)) (v_cc V n) ?_ ?_ (v_cc V n) 0 FU (-1, -1, 0) (by omega) (by show _ < 6000; omega) ⟨rfl, -1, rfl, Or.inl ⟨rfl, rfl⟩⟩
  · rintro f i ⟨a, v, l⟩ hi ⟨rfl, b, e, hb⟩
    simp only at e hb
    obtain ⟨c, hc23, ec, e9, gk⟩ := m_kid h t hn k1 hi
    have li : i < (kids V n).length := by rw [kids_len]; exact hi
    have dk := List.drop_eq_getElem_cons li
    have : (kids V n)[i] = c := Option.some.inj ((List.getElem?_eq_getElem li).symm.trans gk)
    rw [this] at dk
    have xpu : xp r op' ((kids V n).drop i) b v.toInt = if op' c && decide (v.toInt < r c) then xp r op' ((kids V n).drop (i + 1)) c (r c) else xp r op' ((kids V n).drop (i + 1)) b v.toInt := by
      rw [dk]
      rfl
    have nle : ¬ nI (v_cc V n) ≤ nI i := by rw [j_le, j_nI (by omega), j_nI (by omega)]; omega
    have ckc : ck (nI c) 24 := j_ckn (by omega) (by decide)
    have ecl : (nI c).toNatClampNeg = c := j_cl _ (by omega)
    have s9 : σ.1 (462 + 9) (nI c).toNatClampNeg = 0 ↔ op' c = false := by
      rw [ecl]
      exact ho.f (by omega)
    have vlo : -1 ≤ v.toInt := by
      rcases hb with ⟨-, z⟩ | ⟨c', hc', -, -, -, z⟩
      · omega
      · have := r0 c' hc'
        omega
    show ∃ s' : Int32 × Int64 × Int32, _ ∧ fX9_evens_64 462 K (f + 1) σ L5 W R a v (nI i) = _
    rw [fX9_evens_64, h12, m_many h t hn, j_b, if_neg nle, ec, j_b, if_pos ckc]
    cases oc : op' c
    · rw [if_pos (s9.mpr oc)]
      unfold fX9_evens_117
      have q : (lg_cmp (-1 : Int64) v) ≤ 0 := by rw [k_le, m1]; exact vlo
      rw [if_pos q]
      unfold fX9_evens_135
      rw [j_s]
      refine ⟨(a, v, nI (i + 1)), ⟨rfl, b, ?_, hb⟩, rfl⟩
      rw [e, xpu, oc]
      rfl
    · have n9 : ¬ σ.1 (462 + 9) (nI c).toNatClampNeg = 0 := fun y => by
        rw [s9, oc] at y
        cases y
      have cin := ho.1 c oc
      have ei : (nI c).toInt = c := j_nI (by omega)
      have wr := t.we hc23 (by omega)
      have wt : (oI (mv (σ.1 463) 3 c)).toInt64.toInt = V 11 c := by rw [k_64, t_mv, h.we hc23 (by omega)]
      have n0 : 0 ≤ L5.toInt * V 11 c := Int.mul_nonneg e5.1 (by omega)
      have n1 : L5.toInt * V 11 c ≤ 400 * 1000000 := Int.mul_le_mul e5.2 wr.2 (by omega) (by omega)
      have v6 : (L5 * (oI (mv (σ.1 463) 3 c)).toInt64).toInt = L5.toInt * V 11 c := by
        rw [k_mul (by rw [wt]; omega) (by rw [wt]; omega), wt]
      rw [if_neg n9, m_i3 ei (by omega), j_b, if_neg zW]
      generalize L5 * (oI (mv (σ.1 463) 3 c)).toInt64 = u at v6
      have qm := Int.mul_ediv_add_emod (L5.toInt * V 11 c) W.toInt
      have em0 := Int.emod_nonneg (L5.toInt * V 11 c) (show W.toInt ≠ 0 by omega)
      have em1 := Int.emod_lt_of_pos (L5.toInt * V 11 c) eW.1
      have uq : (u / W).toInt = L5.toInt * V 11 c / W.toInt := by rw [k_div (by rw [v6]; exact n0) eW.1, v6]
      have uw : (u / W * W).toInt = W.toInt * (L5.toInt * V 11 c / W.toInt) := by
        rw [k_mul (by rw [uq, Int.mul_comm]; omega) (by rw [uq, Int.mul_comm]; omega), uq, Int.mul_comm]
      have ur : (u - u / W * W).toInt = r c := by
        rw [k_sub (by rw [uw, v6]; omega) (by rw [uw, v6]; omega), uw, v6, hr c cin]
        omega
      unfold fX9_evens_117 fX9_evens_135
      by_cases q : r c ≤ v.toInt
      · have q' : (lg_cmp (u - u / W * W) v) ≤ 0 := by rw [k_le, ur]; exact q
        rw [if_pos q', j_s]
        refine ⟨(a, v, nI (i + 1)), ⟨rfl, b, ?_, hb⟩, rfl⟩
        rw [e, xpu, oc, decide_eq_false (show ¬ v.toInt < r c by omega)]
        rfl
      · have q' : ¬ (lg_cmp (u - u / W * W) v) ≤ 0 := by rw [k_le, ur]; exact q
        rw [if_neg q', j_s]
        refine ⟨(nI c, u - u / W * W, nI (i + 1)), ⟨rfl, c, ?_, Or.inr ⟨c, cin, oc, rfl, rfl, ur⟩⟩, rfl⟩
        show _ = xp r op' _ c (u - u / W * W).toInt
        rw [e, xpu, oc, decide_eq_true (show v.toInt < r c by omega), ur]
        rfl
  · rintro f ⟨a, v, l⟩ ⟨rfl, b, e, hb⟩
    simp only at e hb
    have dn : (kids V n).drop (v_cc V n) = [] := List.drop_eq_nil_of_le (by rw [kids_len]; exact Nat.le_refl _)
    rw [dn] at e
    have e : xp r op' (kids V n) (-1) (-1) = b := e
    obtain ⟨y, hy, oy⟩ := ex
    obtain ⟨z, hz, oz, ez⟩ := xp_in (r := r) (op := op') (pls V P n) (-1) (-1) ⟨y, hy, oy, by have := r0 y hy; omega⟩
    rw [fl] at ez
    rcases hb with ⟨hb, -⟩ | ⟨c, hc, oc, rfl, rfl, -⟩
    · omega
    · have c24 := ((memc c).mp hc).1
      have ckc : ck (nI c) 24 := j_ckn (by omega) (by decide)
      have ecl : (nI c).toNatClampNeg = c := j_cl _ (by omega)
      have b0 : vp_nar .boolean (0 : Int32) = 0 := by decide
      refine ⟨c, hc, oc, e, ?_⟩
      show fX9_evens_64 462 K (f + 1) σ L5 W R (nI c) v (nI (v_cc V n)) = _
      rw [fX9_evens_64, h12, m_many h t hn, j_b, if_pos (by rw [j_le]; exact Int.le_refl _), if_pos ckc, if_pos ckc, j_nm, if_pos ckc, j_nm, j_nm, ecl, b0]
end MLL
end
section
/-! THE RELATION: the reference's plan (13): all picks -/
section MM9
variable {σ : Sg} {V : VW} {d : Nat → Nat} {wn : Nat → Int} {X Y : Nat → Bool}
theorem m_ev46 (h : VM (mv (σ.1 463)) V X) (t : Tree V d wn Y) {n : Nat} (hn : n < 23) (k1 : V 8 n ≤ 1) (h12 : σ.1 462 12 = nI n) {P : VW} {op : Nat → Bool} (ho : MO σ (pls V P n) op) {W L5 : Int64} (eW : 0 < W.toInt ∧ W.toInt ≤ 1000000000) (e5 : 0 ≤ L5.toInt ∧ L5.toInt ≤ 400) {r : Nat → Int} (hr : ∀ c ∈ pls V P n, r c = L5.toInt * V 11 c % W.toInt) {sh : Nat → Int} (hsh : ∀ c ∈ pls V P n, (σ.1 470 c).toInt = sh c ∧ 0 ≤ sh c ∧ sh c ≤ 965) {R : Int64} {R0 : Nat} (hR : R.toInt = R0) (hRn : (R0 : Int) ≤ xn (pls V P n) op) : ∃ σ', fX9_evens_46 462 FU σ L5 W R = some σ' ∧ Out σ σ' 470 471 ∧ ∀ c ∈ pls V P n, (σ'.1 470 c).toInt = xs (pls V P n) r R0 op sh c := by
  have nd := t.pls_nd (P := P) hn k1
  have len := t.pls_len (P := P) hn k1
  have xl := (xn_le op (pls V P n)).2
  have one : (1 : Int64).toInt = 1 := rfl
  refine lp (F := fun f (s : Sg × Int64) => fX9_evens_46 462 f s.1 L5 W s.2) (Q := fun o => ∃ σ', o = some σ' ∧ Out σ σ' 470 471 ∧ ∀ c ∈ pls V P n, (σ'.1 470 c).toInt = xs (pls V P n) r R0 op sh c) (fun i s => s.2.toInt = (R0 : Int) - i ∧ Out σ s.1 470 471 ∧ ∃ op' sh', MO s.1 (pls V P n) op' ∧ (∀ c ∈ pls V P n, (s.1.1 470 c).toInt = sh' c ∧ 0 ≤ sh' c ∧ sh' c ≤ 965 + (i : Int)) ∧ (R0 : Int) - i ≤ xn (pls V P n) op' ∧ xs (pls V P n) r R0 op sh = xs (pls V P n) r (R0 - i) op' sh') R0 ?_ ?_ R0 0 FU (σ, R) (by omega) (by show R0 < 6000; omega) ⟨by rw [hR]; omega, Out.rf, op, sh, ho, fun c hc => by have := hsh c hc; exact ⟨this.1, this.2.1, by omega⟩, by omega, rfl⟩
  · rintro f i ⟨s, R'⟩ hi ⟨hR', hO, op', sh', ho', hs', hx, hxs⟩
    simp only at hR' hO ho' hs'
    have e63 : s.1 463 = σ.1 463 := hO.2 463 (by omega)
    have nl : ¬ (lg_cmp R' 0) ≤ 0 := by rw [k_le, hR', kz0]; omega
    obtain ⟨z, hz, oz⟩ := xn_ex (pl := pls V P n) (op := op') (by omega)
    obtain ⟨c, hc, oc, ec, hp⟩ := m_pick (σ := s) (V := V) (X := X) (op := op) (by rw [e63]; exact h) t hn k1 (by rw [hO.2 462 (by omega)]; exact h12) (P := P) ho' eW e5 hr ⟨z, hz, oz⟩ (fX9_evens_46 462 f) R'
    show ∃ s' : Sg × Int64, _ ∧ fX9_evens_46 462 (f + 1) s L5 W R' = _
    rw [fX9_evens_46, if_neg nl, j_nm, hp]
    obtain ⟨v1, v2, v3⟩ := hs' c hc
    have add : (s.1 470 c + 1).toInt = sh' c + 1 := by
      rw [j_add (by rw [v1, jz1]; omega) (by rw [v1, jz1]; omega), v1, jz1]
    have c24 : c < 24 := by have := ((t.pls_mem hn k1).mp hc).1; omega
    refine ⟨(su (su s 470 c (s.1 470 c + 1)) 471 c 0, R' - 1), ⟨?_, (hO.tr (su_out.mo (by omega) (by omega))).tr (su_out.mo (by omega) (by omega)), fun y => op' y && !decide (y = c), fun y => if y = c then sh' y + 1 else sh' y, ⟨fun y hy => ?_, fun y hy => ?_⟩, fun y hy => ?_, ?_, ?_⟩, rfl⟩
    · show (R' - 1).toInt = _
      rw [k_sub (by rw [hR', one]; omega) (by rw [hR', one]; omega), hR', one]
      omega
    · simp only [Bool.and_eq_true] at hy
      exact ho'.1 y hy.1
    · show (su (su s 470 c _) 471 c 0).1 471 y = _
      rw [su_at]
      by_cases q : y = c
      · rw [if_pos ⟨rfl, q⟩]
        simp [q]
      · rw [if_neg (fun u => q u.2), su_at, if_neg (by omega), ho'.2 y hy]
        simp [q]
    · have hy' := hs' y hy
      show ((su (su s 470 c (s.1 470 c + 1)) 471 c 0).1 470 y).toInt = (if y = c then sh' y + 1 else sh' y) ∧ 0 ≤ (if y = c then sh' y + 1 else sh' y) ∧ (if y = c then sh' y + 1 else sh' y) ≤ 965 + ((i + 1 : Nat) : Int)
      rw [su_at, if_neg (by omega), su_at]
      by_cases q : y = c
      · rw [if_pos ⟨rfl, q⟩, if_pos q, add, q]
        omega
      · rw [if_neg (fun u => q u.2), if_neg q]
        omega
    · rw [xn_rm nd hc oc]
      omega
    · rw [hxs]
      obtain ⟨q, hq⟩ : ∃ q, R0 - i = q + 1 := ⟨R0 - i - 1, by omega⟩
      have hq2 : R0 - (i + 1) = q := by omega
      rw [hq, hq2]
      show xs (pls V P n) r q (fun z => op' z && !decide (z = (xp r op' (pls V P n) (-1) (-1)).toNat)) (fun z => if z = (xp r op' (pls V P n) (-1) (-1)).toNat then sh' z + 1 else sh' z) = _
      rw [ec]
      rfl
  · rintro f ⟨s, R'⟩ ⟨hR', hO, op', sh', ho', hs', hx, hxs⟩
    simp only at hR' hO ho' hs'
    show ∃ σ', fX9_evens_46 462 (f + 1) s L5 W R' = _ ∧ _
    rw [fX9_evens_46, if_pos (by rw [k_le, hR', kz0]; omega)]
    refine ⟨s, rfl, hO, fun c hc => ?_⟩
    rw [hxs, Nat.sub_self]
    exact (hs' c hc).1
end MM9
end
section
/-! THE RELATION: the reference's plan (14): the shares of a split's children -/
section MN9
variable {σ : Sg} {V : VW} {d : Nat → Nat} {wn : Nat → Int} {X Y : Nat → Bool} {m w : Nat → Int} {room : Int}
theorem mq_o7 {σ σ' : Sg} (h : Out σ σ' 470 471) : mq σ' = mq σ := by
  funext j n
  unfold mq
  rw [h.2 467 (by omega), h.2 468 (by omega), h.2 469 (by omega)]
theorem m_tightens (h : VM (mv (σ.1 463)) V X) (t : Tree V d wn Y) {n D : Nat} (hn : n < 23) (k1 : V 8 n ≤ 1) (hD : D ≤ 1) (hc : ∀ i, i < 23 → V 9 i = n → mq σ 1 i = 0 ∨ mq σ 1 i = 1) (h12 : σ.1 462 12 = nI n) (h0 : 0 ≤ room ∧ room ≤ 400) (x : XB (pls V (mq σ) n) m w) (hs : Sm m (pls V (mq σ) n) < room) {op : Nat → Bool} (ho1 : 1 ≤ xn (pls V (mq σ) n) op) (ho : MO σ (pls V (mq σ) n) op) (hm : ∀ c ∈ pls V (mq σ) n, m c = mq σ (2 + D) c) (hw : ∀ c ∈ pls V (mq σ) n, w c = V 11 c) (hcl : ∀ c ∈ pls V (mq σ) n, op c = false → (σ.1 470 c).toInt = m c) : ∃ σ', fX9_tightens σ 462 (oI room) (nI D) = some (xa (pls V (mq σ) n) op (xo (pls V (mq σ) n) room m w op), σ') ∧ Out σ σ' 470 471 ∧ (xa (pls V (mq σ) n) op (xo (pls V (mq σ) n) room m w op) = true → MO σ' (pls V (mq σ) n) (xo (pls V (mq σ) n) room m w op) ∧ ∀ c ∈ pls V (mq σ) n, xo (pls V (mq σ) n) room m w op c = false → (σ'.1 470 c).toInt = m c) ∧ (xa (pls V (mq σ) n) op (xo (pls V (mq σ) n) room m w op) = false → ∀ c ∈ pls V (mq σ) n, (σ'.1 470 c).toInt = xs (pls V (mq σ) n) (xr (pls V (mq σ) n) room m w op) (room - Sm (xe (pls V (mq σ) n) room m w op) (pls V (mq σ) n)).toNat op (xe (pls V (mq σ) n) room m w op) c) := by
  have nd := t.pls_nd (P := mq σ) hn k1
  have memt := fun c => t.pls_mem (P := mq σ) hn k1 (c := c)
  obtain ⟨W, e1, eW⟩ := m_tight5 h t hn k1 hD hc h12 ho hm hw (oI room)
  obtain ⟨c0, c1⟩ := xc_rg x hs op
  have er : (oI room).toInt = room := j_oI (by omega) (by omega)
  have exc : (oI (xc (pls V (mq σ) n) m op)).toInt = xc (pls V (mq σ) n) m op := j_oI (by omega) (by omega)
  have e5 : ((oI room - oI (xc (pls V (mq σ) n) m op)).toInt64).toInt = room - xc (pls V (mq σ) n) m op := by
    rw [k_64, j_sub (by rw [er, exc]; omega) (by rw [er, exc]; omega), er, exc]
  rw [e1]
  generalize (oI room - oI (xc (pls V (mq σ) n) m op)).toInt64 = L5 at e5
  have mem : ∀ c ∈ pls V (mq σ) n, c < 23 ∧ V 9 c ≠ -1 := fun c hc => by
    have := (memt c).mp hc
    exact ⟨this.1, by rw [this.2.1]; omega⟩
  obtain ⟨σ1, a1, o1, v1, k1'⟩ := m_tight59 h hD mem x h0 hs ho1 ho hm hw e5 eW
  rw [a1]
  have q1 : mq σ1 = mq σ := mq_o7 (o1.mo (by omega) (by omega))
  have ho' : MO σ1 (pls V (mq σ) n) op := ⟨ho.1, fun c hc => by rw [o1.2 471 (by omega)]; exact ho.2 c hc⟩
  have e63 : σ1.1 463 = σ.1 463 := o1.2 463 (by omega)
  cases q : xa (pls V (mq σ) n) op (xo (pls V (mq σ) n) room m w op)
  · rw [if_neg (by decide)]
    obtain ⟨R, a2, eR⟩ := m_ev6 (W := W) nd (fun c hc => (mem c hc).1) ho' v1 (fun c oc => xq_rg x h0 hs (ho.1 c oc) oc) (by omega) e5
    have rest := xe_rest x.1 ho1 hs
    obtain ⟨y, hy, ey⟩ := xn_ex ho1
    have wp := xw_pos x.1 hy ey
    have wB := Sm_up (f := fun c => if op c then w c else 0) (B := 1000000) (l := pls V (mq σ) n) (fun c hc => by
      have := x.2.2.2 c hc
      show (if op c then w c else 0) ≤ 1000000
      split <;> omega)
    have len := x.2.1
    have wB2 : xw (pls V (mq σ) n) w op ≤ 1000000 * 23 := by
      have : xw (pls V (mq σ) n) w op = Sm (fun c => if op c then w c else 0) (pls V (mq σ) n) := rfl
      omega
    obtain ⟨σ2, a3, o3, v3⟩ := m_ev46 (σ := σ1) (W := W) (L5 := L5) (R := R) (X := X) (by rw [e63]; exact h) t hn k1 (by rw [o1.2 462 (by omega)]; exact h12) (P := mq σ) ho' ⟨by rw [eW]; omega, by rw [eW]; omega⟩ (by omega) (r := xr (pls V (mq σ) n) room m w op) (fun c hc => by
      rw [e5, eW, ← hw c hc]
      rfl) (sh := xe (pls V (mq σ) n) room m w op) (fun c hc => by
      have mb := x.2.2.1 c hc
      have m0 := x.1.2.1 c hc
      unfold xe
      cases oc : op c
      · simp only [Bool.false_eq_true, if_false]
        rw [k1' c oc, hcl c hc oc]
        exact ⟨rfl, m0, mb⟩
      · simp only [if_true]
        have := xq_rg x h0 hs hc oc
        exact ⟨v1 c oc, by omega, by omega⟩) (R0 := (room - Sm (xe (pls V (mq σ) n) room m w op) (pls V (mq σ) n)).toNat) (by rw [eR]; omega) (by omega)
    refine ⟨σ2, ?_, (o1.mo (by omega) (by omega)).tr o3, fun z => (by cases z), fun _ => v3⟩
    rw [a2, a3]
    rfl
  · rw [if_pos rfl]
    obtain ⟨σ2, a2, o2, mo2, v2, v3, v4⟩ := m_tight153 (σ := σ1) hD (fun c hc => (mem c hc).1) ho' (fun c hc => by rw [q1]; exact hm c hc) v1
    refine ⟨σ2, a2, (o1.mo (by omega) (by omega)).tr o2, fun _ => ⟨mo2, fun c hc xc => ?_⟩, fun z => (by cases z)⟩
    cases oc : op c
    · rw [v4 c oc, k1' c oc]
      exact hcl c hc oc
    · exact v3 c oc xc
theorem m_ls236 {P : VW} (t : Tree V d wn Y) {n D : Nat} (hn : n < 23) (k1 : V 8 n ≤ 1) (hD : D ≤ 1) (hc : ∀ i, i < 23 → V 9 i = n → P 1 i = 0 ∨ P 1 i = 1) (h0 : 0 ≤ room ∧ room ≤ 400) (x : XB (pls V P n) m w) (hs : Sm m (pls V P n) < room) (hm : ∀ c ∈ pls V P n, m c = P (2 + D) c) (hw : ∀ c ∈ pls V P n, w c = V 11 c) : ∀ (k fuel : Nat) (σ : Sg) (op : Nat → Bool), VM (mv (σ.1 463)) V X → σ.1 462 12 = nI n → mq σ = P → MO σ (pls V P n) op → (∀ c ∈ pls V P n, op c = false → (σ.1 470 c).toInt = m c) → 1 ≤ xn (pls V P n) op → xn (pls V P n) op ≤ k → k + 1 < fuel → ∃ σ', fX9_laysShares_236 462 fuel σ (nI D) (oI room) 1 = some σ' ∧ Out σ σ' 470 471 ∧ ∀ c ∈ pls V P n, (σ'.1 470 c).toInt = xs (pls V P n) (xr (pls V P n) room m w (xg (pls V P n) room m w k op)) (room - Sm (xe (pls V P n) room m w (xg (pls V P n) room m w k op)) (pls V P n)).toNat (xg (pls V P n) room m w k op) (xe (pls V P n) room m w (xg (pls V P n) room m w k op)) c
  | 0, fuel, σ, op, _, _, _, _, _, h1, h2, _ => absurd h1 (by omega)
  | k + 1, 0, σ, op, _, _, _, _, _, _, _, hf => absurd hf (by omega)
  | k + 1, 1, σ, op, _, _, _, _, _, _, _, hf => absurd hf (by omega)
  | k + 1, fuel + 2, σ, op, h, h12, hP, ho, hcl, h1, h2, hf => by
    subst hP
    obtain ⟨σ1, a1, o1, T, F⟩ := m_tightens h t hn k1 hD hc h12 h0 x hs h1 ho hm hw hcl
    have n1 : ¬ (1 : Int32) = 0 := by decide
    rw [fX9_laysShares_236, if_neg n1, a1, j_b]
    cases q : xa (pls V (mq σ) n) op (xo (pls V (mq σ) n) room m w op)
    · rw [show b2i (false, σ1).1 = 0 from rfl, fX9_laysShares_236, if_pos rfl]
      have eg : xg (pls V (mq σ) n) room m w (k + 1) op = op := by
        unfold xg
        rw [q, if_neg (by decide)]
      rw [eg]
      exact ⟨σ1, rfl, o1, F q⟩
    · rw [show b2i (true, σ1).1 = 1 from rfl]
      obtain ⟨mo1, v1⟩ := T q
      have lt := xa_lt (op := op) (op' := xo (pls V (mq σ) n) room m w op) (fun c => xo_in c) q
      have eg : xg (pls V (mq σ) n) room m w (k + 1) op = xg (pls V (mq σ) n) room m w k (xo (pls V (mq σ) n) room m w op) := by
        show (if xa (pls V (mq σ) n) op (xo (pls V (mq σ) n) room m w op) = true then _ else _) = _
        rw [q, if_pos rfl]
      rw [eg]
      have e63 : σ1.1 463 = σ.1 463 := o1.2 463 (by omega)
      obtain ⟨σ2, a2, o2, v2⟩ := m_ls236 t hn k1 hD hc h0 x hs hm hw k (fuel + 1) σ1 (xo (pls V (mq σ) n) room m w op) (by rw [e63]; exact h) (by rw [o1.2 462 (by omega)]; exact h12) (mq_o7 o1) mo1 v1 (xo_ne x.1 hs h1) (by omega) (by omega)
      exact ⟨σ2, a2, o1.tr o2, v2⟩
end MN9
end
section
/-! THE RELATION: the reference's plan (15): the sizes of a split's children -/
section MO9
variable {σ : Sg} {V : VW} {d : Nat → Nat} {wn : Nat → Int} {X Y : Nat → Bool}
theorem j_sn {a b : Nat} (h : b ≤ a) (ha : a < 1000) : nI a - nI b = nI (a - b) := by
  refine j_eq.mpr ?_
  rw [j_sub (by rw [j_nI (by omega), j_nI (by omega)]; omega) (by rw [j_nI (by omega), j_nI (by omega)]; omega), j_nI (by omega), j_nI (by omega), j_nI (by omega)]
  omega
theorem m_laysShares (h : VM (mv (σ.1 463)) V X) (t : Tree V d wn Y) {n : Nat} (hn : n < 23) (k1 : V 8 n ≤ 1) (hc : ∀ i, i < 23 → V 9 i = n → mq σ 1 i = 0 ∨ mq σ 1 i = 1) (h12 : σ.1 462 12 = nI n) (hb : ∀ c ∈ pls V (mq σ) n, 0 ≤ mq σ (2 + dr V n) c ∧ mq σ (2 + dr V n) c ≤ 965) (ne : pls V (mq σ) n ≠ []) {ext : Int32} (he : ext.toInt = mq σ (6 + dr V n) n) (hE : 0 ≤ ext.toInt ∧ ext.toInt ≤ 400) : ∃ σ', fX9_laysShares σ 462 (nI n) ext = some σ' ∧ Out σ σ' 470 471 ∧ ∀ c ∈ pls V (mq σ) n, (σ'.1 470 c).toInt = lsh V (mq σ) n c := by
  obtain ⟨d1, d2⟩ := t.drs hn k1
  have en : (nI n).toInt = n := j_nI (by omega)
  have way : fX9_its σ 462 (nI n) 2 = some (nI (dr V n)) := by
    rw [m_i2 en (by omega), (h.k1 hn k1).2, d2, j_nIo _ (by omega)]
  obtain ⟨σ1, a1, o1, f1⟩ := m_ls16 h t hn d1 hc ext
  have o17 : Out σ σ1 470 471 := o1.mo (by omega) (by omega)
  have q1 : mq σ1 = mq σ := mq_o7 o17
  have nd := t.pls_nd (P := mq σ) hn k1
  have len := t.pls_len (P := mq σ) hn k1
  have mem := fun c => t.pls_mem (P := mq σ) hn k1 (c := c)
  have memc : ∀ c, c ∈ pls V (mq σ) n ↔ c < 23 ∧ cs V (mq σ) n c = true := fun c => by
    rw [mem c]
    unfold cs
    simp only [Bool.and_eq_true, decide_eq_true_eq]
  have lc := list_cnt (cs V (mq σ) n) nd memc
  have ssum : sm (fun k => if cs V (mq σ) n k then mq σ (2 + dr V n) k else 0) 23 = Sm (mq σ (2 + dr V n)) (pls V (mq σ) n) := by
    rw [list_sm (mq σ (2 + dr V n)) (N := 23) nd (fun c hc => ((mem c).mp hc).1)]
    exact sm_congr (fun i hi => by
      by_cases y : cs V (mq σ) n i = true
      · rw [if_pos y, if_pos ((memc i).mpr ⟨hi, y⟩)]
      · rw [if_neg y, if_neg (fun z => y ((memc i).mp z).2)])
  have lmv : ∀ f c, c ∈ pls V (mq σ) n → lm (pls V (mq σ) n) f c = f c := fun f c hc => if_pos hc
  have slm : Sm (lm (pls V (mq σ) n) (mq σ (2 + dr V n))) (pls V (mq σ) n) = Sm (mq σ (2 + dr V n)) (pls V (mq σ) n) := Sm_congr (fun c hc => lmv _ c hc)
  have xb : XB (pls V (mq σ) n) (lm (pls V (mq σ) n) (mq σ (2 + dr V n))) (lm (pls V (mq σ) n) (V 11)) := by
    refine ⟨⟨nd, fun c hc => ?_, fun c hc => ?_⟩, len, fun c hc => ?_, fun c hc => ?_⟩
    · rw [lmv _ c hc]; exact (hb c hc).1
    · rw [lmv _ c hc]; exact (t.we ((mem c).mp hc).1 (by have := ((mem c).mp hc).2.1; omega)).1
    · rw [lmv _ c hc]; exact (hb c hc).2
    · rw [lmv _ c hc]; exact (t.we ((mem c).mp hc).1 (by have := ((mem c).mp hc).2.1; omega)).2
  have lpos : 1 ≤ (pls V (mq σ) n).length := by
    cases hp : pls V (mq σ) n with
    | nil => exact absurd hp ne
    | cons y u => simp
  have hroom : 0 ≤ lrm V (mq σ) n ∧ lrm V (mq σ) n ≤ 400 := by
    unfold lrm
    rw [← he]
    split <;> omega
  have c23 : cnt (cs V (mq σ) n) 23 = (pls V (mq σ) n).length := by omega
  rw [c23, ssum, ← slm] at a1
  have lm1 : (nI (pls V (mq σ) n).length - 1).toInt = (pls V (mq σ) n).length - 1 := by
    rw [j_sub (by rw [j_nI (by omega), jz1]; omega) (by rw [j_nI (by omega), jz1]; omega), j_nI (by omega), jz1]
  have rm : (ext - (nI (pls V (mq σ) n).length - 1)).toInt = ext.toInt - ((pls V (mq σ) n).length - 1) := by
    rw [j_sub (by rw [lm1]; omega) (by rw [lm1]; omega), lm1]
  have eroom : (if (ext - (nI (pls V (mq σ) n).length - 1)) ≤ 0 then fX9_laysShares_130 462 σ1 (nI n) (nI (dr V n)) (oI (Sm (lm (pls V (mq σ) n) (mq σ (2 + dr V n))) (pls V (mq σ) n))) 0 else fX9_laysShares_130 462 σ1 (nI n) (nI (dr V n)) (oI (Sm (lm (pls V (mq σ) n) (mq σ (2 + dr V n))) (pls V (mq σ) n))) (ext - (nI (pls V (mq σ) n).length - 1))) = fX9_laysShares_130 462 σ1 (nI n) (nI (dr V n)) (oI (Sm (lm (pls V (mq σ) n) (mq σ (2 + dr V n))) (pls V (mq σ) n))) (oI (lrm V (mq σ) n)) := by
    have hl : lrm V (mq σ) n = if 0 < ext.toInt - (((pls V (mq σ) n).length : Int) - 1) then ext.toInt - ((pls V (mq σ) n).length - 1) else 0 := by
      unfold lrm
      rw [← he]
    by_cases z : 0 < ext.toInt - (((pls V (mq σ) n).length : Int) - 1)
    · rw [if_pos z] at hl
      rw [if_neg (fun y => by rw [j_le, jz0, rm] at y; omega), hl, ← rm, j_oIt]
    · rw [if_neg z] at hl
      rw [if_pos (by rw [j_le, jz0, rm]; omega), hl]
      rfl
  have smB : 0 ≤ Sm (lm (pls V (mq σ) n) (mq σ (2 + dr V n))) (pls V (mq σ) n) ∧ Sm (lm (pls V (mq σ) n) (mq σ (2 + dr V n))) (pls V (mq σ) n) ≤ 965 * 23 := by
    have a := Sm_up (f := lm (pls V (mq σ) n) (mq σ (2 + dr V n))) (B := 965) (l := pls V (mq σ) n) xb.2.2.1
    exact ⟨Sm_nn xb.1.2.1, by omega⟩
  unfold fX9_laysShares
  rw [way, j_b, a1, eroom]
  unfold fX9_laysShares_130
  have h' : VM (mv (σ1.1 463)) V X := by rw [o1.2 463 (by omega)]; exact h
  by_cases q : Sm (lm (pls V (mq σ) n) (mq σ (2 + dr V n))) (pls V (mq σ) n) < lrm V (mq σ) n
  · rw [if_pos (by rw [j_lt, j_oI (by omega) (by omega), j_oI (by omega) (by omega)]; exact q)]
    have n1 : 1 ≤ xn (pls V (mq σ) n) (fun c => decide (c ∈ pls V (mq σ) n)) := by
      cases hp : pls V (mq σ) n with
      | nil => exact absurd hp ne
      | cons y u => exact xn_pos (c := y) (List.mem_cons_self ..) (decide_eq_true (List.mem_cons_self ..))
    have n2 := (xn_le (fun c => decide (c ∈ pls V (mq σ) n)) (pls V (mq σ) n)).2
    obtain ⟨σ2, a2, o2, v2⟩ := m_ls236 (P := mq σ) t hn k1 d1 hc hroom xb q (fun c hc => lmv _ c hc) (fun c hc => lmv _ c hc) 24 FU σ1 (fun c => decide (c ∈ pls V (mq σ) n)) h' (by rw [o1.2 462 (by omega)]; exact h12) q1 ⟨fun c z => of_decide_eq_true z, fun c hc => by
      rw [f1 c hc]
      by_cases y : c ∈ pls V (mq σ) n
      · rw [if_pos ((memc c).mp y), if_pos (decide_eq_true y)]
      · rw [if_neg (fun z => y ((memc c).mpr z)), if_neg (fun z => y (of_decide_eq_true z))]⟩ (fun c hc z => by
      simp only [decide_eq_true hc] at z
      cases z) n1 (by omega) (by decide)
    refine ⟨σ2, a2, o17.tr o2, fun c hc => ?_⟩
    rw [v2 c hc]
    unfold lsh share
    rw [if_pos q]
  · rw [if_neg (fun z => q (by rw [j_lt, j_oI (by omega) (by omega), j_oI (by omega) (by omega)] at z; exact z))]
    obtain ⟨σ2, a2, o2, v2⟩ := m_ls146 (σ := σ1) h' t hn k1 d1 (by rw [q1]; exact hc) (m := lm (pls V (mq σ) n) (mq σ (2 + dr V n))) (by rw [q1]; exact fun c hc => ⟨lmv _ c hc, xb.1.2.1 c hc, xb.2.2.1 c hc⟩) hroom
    rw [q1] at v2
    refine ⟨σ2, a2, o17.tr (o2.mo (by omega) (by omega)), fun c hc => ?_⟩
    rw [v2 c hc]
    unfold lsh share
    rw [if_neg q]
end MO9
end
section
/-! THE RELATION: the reference's plan (16): the rectangles of a split's children -/
section MP9
variable {σ : Sg} {V : VW} {d : Nat → Nat} {wn : Nat → Int} {X Y : Nat → Bool}
theorem mqR {n D : Nat} (hn : n < 24) (hD : D ≤ 3) : mq σ (4 + D) n = (σ.1 469 (4 * n + D)).toInt := by
  rw [mq47 hn (by omega) (by omega), show 4 + D - 4 = D by omega]
/-- the part of the children that are shown -/
def kf (V P : VW) (n i : Nat) : List Nat := ((kids V n).take i).filter (fun c => decide (P 1 c = 1))
theorem kf_all {V P : VW} {n : Nat} : kf V P n (v_cc V n) = pls V P n := by
  unfold kf pls
  rw [List.take_of_length_le (by rw [kids_len]; exact Nat.le_refl _)]
theorem kf_1 {V P : VW} {n i c : Nat} (g : (kids V n)[i]? = some c) (h : P 1 c = 1) : kf V P n (i + 1) = kf V P n i ++ [c] := by
  unfold kf
  rw [take_snoc g, List.filter_append]
  congr 1
  rw [List.filter_cons_of_pos (by simp [h])]
  rfl
theorem kf_0 {V P : VW} {n i c : Nat} (g : (kids V n)[i]? = some c) (h : ¬ P 1 c = 1) : kf V P n (i + 1) = kf V P n i := by
  unfold kf
  rw [take_snoc g, List.filter_append, List.filter_cons_of_neg (by simp [h])]
  simp
theorem kf_sub {V P : VW} {n i c : Nat} (h : c ∈ kf V P n i) : c ∈ pls V P n := by
  unfold kf at h
  unfold pls
  rw [List.mem_filter] at h ⊢
  exact ⟨List.mem_of_mem_take h.1, h.2⟩
/-- one child's rectangle -/
def KR (σ σ3 : Sg) (n D : Nat) (x : Int) (c : Nat) : Prop := σ.1 469 (4 * c + D) = oI x ∧ σ.1 469 (4 * c + 2 + D) = σ3.1 470 c ∧ σ.1 469 (4 * c + 1 - D) = σ3.1 469 (4 * n + 1 - D) ∧ σ.1 469 (4 * c + 3 - D) = σ3.1 469 (4 * n + 3 - D)
theorem m_lc43 (h : VM (mv (σ.1 463)) V X) (t : Tree V d wn Y) {n D : Nat} (hn : n < 23) (k1 : V 8 n ≤ 1) (hD : D ≤ 1) {P : VW} (hP : mq σ = P) (hc : ∀ i, i < 23 → V 9 i = n → P 1 i = 0 ∨ P 1 i = 1) {g : Nat → Int} (hg : ∀ c ∈ pls V P n, (σ.1 470 c).toInt = g c) : ∃ σ', fX9_laysChildren_43 462 FU σ (nI n) (nI D) (σ.1 469 (4 * n + D)) 0 = some σ' ∧ Out σ σ' 469 469 ∧ (∀ e, (∀ c ∈ pls V P n, e < 4 * c ∨ 4 * c + 4 ≤ e) → σ'.1 469 e = σ.1 469 e) ∧ ∀ a c, (pls V P n)[a]? = some c → KR σ' σ n D ((σ.1 469 (4 * n + D)).toInt + Sm (fun x => g x + 1) ((pls V P n).take a)) c := by
  subst hP
  have cc : v_cc V n ≤ 23 := v_cc_rg V n
  have nn : ¬ n ∈ pls V (mq σ) n := fun z => by
    have := (t.pls_mem (P := mq σ) hn k1).mp z
    have := (t.par hn this.2.1).2.2.1
    omega
  have D3 : D = 0 ∨ D = 1 := by omega
  refine lp (F := fun f (s : Sg × Int32 × Int32) => fX9_laysChildren_43 462 f s.1 (nI n) (nI D) s.2.1 s.2.2) (Q := fun o => ∃ σ', o = some σ' ∧ Out σ σ' 469 469 ∧ (∀ e, (∀ c ∈ pls V (mq σ) n, e < 4 * c ∨ 4 * c + 4 ≤ e) → σ'.1 469 e = σ.1 469 e) ∧ ∀ a c, (pls V (mq σ) n)[a]? = some c → KR σ' σ n D ((σ.1 469 (4 * n + D)).toInt + Sm (fun x => g x + 1) ((pls V (mq σ) n).take a)) c) (fun i s => s.2.2 = nI i ∧ s.2.1 = oI ((σ.1 469 (4 * n + D)).toInt + Sm (fun x => g x + 1) (kf V (mq σ) n i)) ∧ Out σ s.1 469 469 ∧ (∀ e, (∀ c ∈ kf V (mq σ) n i, e < 4 * c ∨ 4 * c + 4 ≤ e) → s.1.1 469 e = σ.1 469 e) ∧ ∀ a c, (kf V (mq σ) n i)[a]? = some c → KR s.1 σ n D ((σ.1 469 (4 * n + D)).toInt + Sm (fun x => g x + 1) ((kf V (mq σ) n i).take a)) c) (v_cc V n) ?_ ?_ (v_cc V n) 0 FU (σ, σ.1 469 (4 * n + D), 0) (by omega) (by show _ < 6000; omega) ⟨rfl, by
    show σ.1 469 (4 * n + D) = oI ((σ.1 469 (4 * n + D)).toInt + 0)
    rw [Int.add_zero, j_oIt], Out.rf, fun _ _ => rfl, fun a c z => by
    have : kf V (mq σ) n 0 = [] := by unfold kf; simp
    rw [this] at z
    simp at z⟩
  · rintro f i ⟨s, l3, l⟩ hi ⟨rfl, hl3, hO, hF, hK⟩
    simp only at hl3 hO hF hK
    have e63 : s.1 463 = σ.1 463 := hO.2 463 (by omega)
    have h' : VM (mv (s.1 463)) V X := by rw [e63]; exact h
    obtain ⟨c, hc23, ec, e9, gk⟩ := m_kid h' t hn k1 hi
    have ne : c ≠ n := fun z => by
      have := (t.par hc23 e9).2.2.1
      rw [z] at this
      omega
    have nle : ¬ nI (v_cc V n) ≤ nI i := by rw [j_le, j_nI (by omega), j_nI (by omega)]; omega
    have ckc : ck (nI c) 24 := j_ckn (by omega) (by decide)
    have ecl : (nI c).toNatClampNeg = c := j_cl _ (by omega)
    have s5 : s.1 (462 + 5) (nI c).toNatClampNeg = σ.1 467 c := by
      rw [ecl]
      show s.1 467 c = _
      rw [hO.2 467 (by omega)]
    have q01 := hc c hc23 e9
    rw [mq1 (by omega)] at q01
    show ∃ s' : Sg × Int32 × Int32, _ ∧ fX9_laysChildren_43 462 (f + 1) s (nI n) (nI D) l3 (nI i) = _
    rw [fX9_laysChildren_43, m_many h' t hn, j_b, if_neg nle, ec, j_b, if_pos ckc]
    by_cases q : mq σ 1 c = 1
    · have n0 : ¬ s.1 (462 + 5) (nI c).toNatClampNeg = 0 := fun z => by
        rw [s5] at z
        rw [mq1 (by omega), z, jz0] at q
        omega
      have cpl : c ∈ pls V (mq σ) n := (t.pls_mem hn k1).mpr ⟨hc23, e9, q⟩
      have c4 : ∀ x : Nat, (4 : Int32) * nI x = nI (4 * x) := fun x => (Int32.ofNat_mul 4 x).symm
      have a1 : (4 : Int32) * nI c + nI D = nI (4 * c + D) := by rw [c4, j_a]
      have a2 : (4 : Int32) * nI c + 2 + nI D = nI (4 * c + 2 + D) := by rw [c4, show (2 : Int32) = nI 2 from rfl, j_a, j_a]
      have a3 : (4 : Int32) * nI c + 1 - nI D = nI (4 * c + 1 - D) := by rw [c4, j_s, j_sn (by omega) (by omega)]
      have a4 : (4 : Int32) * nI c + 3 - nI D = nI (4 * c + 3 - D) := by rw [c4, show (3 : Int32) = nI 3 from rfl, j_a, j_sn (by omega) (by omega)]
      have b3 : (4 : Int32) * nI n + 1 - nI D = nI (4 * n + 1 - D) := by rw [c4, j_s, j_sn (by omega) (by omega)]
      have b4 : (4 : Int32) * nI n + 3 - nI D = nI (4 * n + 3 - D) := by rw [c4, show (3 : Int32) = nI 3 from rfl, j_a, j_sn (by omega) (by omega)]
      have kk : ∀ x, x < 96 → ck (nI x) 96 := fun x hx => j_ckn hx (by decide)
      have kc : ∀ x, x < 96 → (nI x).toNatClampNeg = x := fun x hx => j_cl _ (by omega)
      rw [if_neg n0, a1, if_pos (kk _ (by omega)), j_nm, if_pos ckc, a2, if_pos (kk _ (by omega)), j_nm, b3, if_pos (kk _ (by omega)), a3, if_pos (kk _ (by omega)), j_nm, b4, if_pos (kk _ (by omega)), a4, if_pos (kk _ (by omega)), j_nm, if_pos ckc, j_nm, kc (4 * c + D) (by omega), kc (4 * c + 2 + D) (by omega), kc (4 * n + 1 - D) (by omega), kc (4 * c + 1 - D) (by omega), kc (4 * n + 3 - D) (by omega), kc (4 * c + 3 - D) (by omega), ecl]
      unfold fX9_laysChildren_166
      rw [show (462 + 7 : Nat) = 469 from rfl, show (462 + 8 : Nat) = 470 from rfl, j_s]
      have nrow : ∀ e, 4 * n ≤ e → e < 4 * n + 4 → s.1 469 e = σ.1 469 e := fun e h1 h2 => hF e (fun y hy => by
        have : y ≠ n := fun z => by
          have w := kf_sub hy
          rw [z] at w
          exact nn w
        omega)
      have r70 : ∀ e, s.1 470 e = σ.1 470 e := fun e => by rw [hO.2 470 (by omega)]
      have w2 : (su s 469 (4 * c + D) l3).1 470 c = σ.1 470 c := by rw [su_ne (by omega), r70]
      rw [w2]
      have w3 : (su (su s 469 (4 * c + D) l3) 469 (4 * c + 2 + D) (σ.1 470 c)).1 469 (4 * n + 1 - D) = σ.1 469 (4 * n + 1 - D) := by
        rw [su_at, if_neg (by omega), su_at, if_neg (by omega)]
        exact nrow _ (by omega) (by omega)
      rw [w3]
      have w4 : (su (su (su s 469 (4 * c + D) l3) 469 (4 * c + 2 + D) (σ.1 470 c)) 469 (4 * c + 1 - D) (σ.1 469 (4 * n + 1 - D))).1 469 (4 * n + 3 - D) = σ.1 469 (4 * n + 3 - D) := by
        rw [su_at, if_neg (by omega), su_at, if_neg (by omega), su_at, if_neg (by omega)]
        exact nrow _ (by omega) (by omega)
      rw [w4]
      generalize hs' : su (su (su (su s 469 (4 * c + D) l3) 469 (4 * c + 2 + D) (σ.1 470 c)) 469 (4 * c + 1 - D) (σ.1 469 (4 * n + 1 - D))) 469 (4 * c + 3 - D) (σ.1 469 (4 * n + 3 - D)) = s'
      have at' : ∀ e, s'.1 469 e = if e = 4 * c + 3 - D then σ.1 469 (4 * n + 3 - D) else if e = 4 * c + 1 - D then σ.1 469 (4 * n + 1 - D) else if e = 4 * c + 2 + D then σ.1 470 c else if e = 4 * c + D then l3 else s.1 469 e := fun e => by
        rw [← hs', su_at, su_at, su_at, su_at]
        simp only [true_and]
      have O' : Out σ s' 469 469 := by
        rw [← hs']
        exact (((hO.tr su_out).tr su_out).tr su_out).tr su_out
      have g70 : s'.1 470 c = σ.1 470 c := by rw [O'.2 470 (by omega)]
      rw [g70]
      have kf1 := kf_1 (P := mq σ) gk q
      refine ⟨(s', l3 + (σ.1 470 c + 1), nI (i + 1)), ⟨rfl, ?_, O', fun e he => ?_, fun a y gy => ?_⟩, rfl⟩
      · show l3 + (σ.1 470 c + 1) = _
        have : σ.1 470 c + 1 = oI (g c + 1) := by
          rw [← hg c cpl, ← j_oa, j_oIt]
          rfl
        rw [hl3, this, j_oa, kf1, Sm_app]
        congr 1
        show _ = _ + (_ + (g c + 1 + 0))
        omega
      · rw [kf1] at he
        have h1 := he c (List.mem_append_right _ (List.mem_singleton.mpr rfl))
        show s'.1 469 e = _
        rw [at', if_neg (by omega), if_neg (by omega), if_neg (by omega), if_neg (by omega)]
        exact hF e (fun y hy => he y (List.mem_append_left _ hy))
      · rw [kf1] at gy ⊢
        by_cases z : a < (kf V (mq σ) n i).length
        · rw [List.getElem?_append_left z] at gy
          rw [List.take_append_of_le_length (Nat.le_of_lt z)]
          obtain ⟨v1, v2, v3, v4⟩ := hK a y gy
          have yc : y ≠ c := fun u => by
            -- c stands once among the children
            subst u
            have nd := t.kids_nd hn k1
            have mem1 : y ∈ (kids V n).take i := (List.mem_filter.mp (List.mem_iff_getElem?.mpr ⟨a, gy⟩)).1
            obtain ⟨b, hb⟩ := List.mem_iff_getElem?.mp mem1
            have bi : b < i := by
              have := (List.getElem?_eq_some_iff.mp hb).1
              rw [List.length_take] at this
              omega
            rw [List.getElem?_take_of_lt bi] at hb
            have := nd_inj nd hb gk
            omega
          refine ⟨?_, ?_, ?_, ?_⟩
          · rw [at', if_neg (by omega), if_neg (by omega), if_neg (by omega), if_neg (by omega)]; exact v1
          · rw [at', if_neg (by omega), if_neg (by omega), if_neg (by omega), if_neg (by omega)]; exact v2
          · rw [at', if_neg (by omega), if_neg (by omega), if_neg (by omega), if_neg (by omega)]; exact v3
          · rw [at', if_neg (by omega), if_neg (by omega), if_neg (by omega), if_neg (by omega)]; exact v4
        · have len := (List.getElem?_eq_some_iff.mp gy).1
          rw [List.length_append, List.length_singleton] at len
          have ea : a = (kf V (mq σ) n i).length := by omega
          subst ea
          rw [List.getElem?_append_right (Nat.le_refl _), Nat.sub_self] at gy
          have yc : c = y := by simpa using gy
          subst yc
          rw [List.take_append_of_le_length (Nat.le_refl _), List.take_length]
          refine ⟨?_, ?_, ?_, ?_⟩
          · rw [at', if_neg (by omega), if_neg (by omega), if_neg (by omega), if_pos rfl]
            exact hl3
          · rw [at', if_neg (by omega), if_neg (by omega), if_pos rfl]
          · rw [at', if_neg (by omega), if_pos rfl]
          · rw [at', if_pos rfl]
    · have z0 : s.1 (462 + 5) (nI c).toNatClampNeg = 0 := by
        rw [s5]
        refine j_eq.mpr ?_
        rw [mq1 (by omega)] at q
        rw [jz0]
        omega
      rw [if_pos z0]
      unfold fX9_laysChildren_166
      rw [j_s]
      have kf0 := kf_0 (P := mq σ) gk q
      refine ⟨(s, l3, nI (i + 1)), ⟨rfl, ?_, hO, ?_, ?_⟩, rfl⟩
      · rw [kf0]; exact hl3
      · rw [kf0]; exact hF
      · rw [kf0]; exact hK
  · rintro f ⟨s, l3, l⟩ ⟨rfl, hl3, hO, hF, hK⟩
    simp only at hl3 hO hF hK
    have h' : VM (mv (s.1 463)) V X := by rw [hO.2 463 (by omega)]; exact h
    show ∃ σ', fX9_laysChildren_43 462 (f + 1) s (nI n) (nI D) l3 (nI (v_cc V n)) = _ ∧ _
    rw [fX9_laysChildren_43, m_many h' t hn, j_b, if_pos (by rw [j_le]; exact Int.le_refl _)]
    rw [kf_all] at hF hK
    exact ⟨s, rfl, hO, hF, hK⟩
/-- the cells that the reference's plan changes -/
def Fy (σ σ' : Sg) : Prop := σ'.2 = σ.2 ∧ (∀ c, c ≠ 462 → (c < 466 ∨ 471 < c) → σ'.1 c = σ.1 c) ∧ ∀ j, j ≠ 12 → σ'.1 462 j = σ.1 462 j
theorem Fy.rf : Fy σ σ := ⟨rfl, fun _ _ _ => rfl, fun _ _ => rfl⟩
theorem Fy.tr {σ1 σ2 : Sg} (h : Fy σ σ1) (h2 : Fy σ1 σ2) : Fy σ σ2 := ⟨h2.1.trans h.1, fun c a b => (h2.2.1 c a b).trans (h.2.1 c a b), fun j a => (h2.2.2 j a).trans (h.2.2 j a)⟩
theorem Fy.ou {σ1 : Sg} {lo hi : Nat} (h : Out σ σ1 lo hi) (h1 : 466 ≤ lo) (h2 : hi ≤ 471) : Fy σ σ1 := ⟨h.1, fun c _ b => h.2 c (by omega), fun j _ => by rw [h.2 462 (by omega)]⟩
theorem Fy.s12 {v : Int32} : Fy σ (su σ 462 12 v) := ⟨rfl, fun c a _ => su_ne a, fun j a => by rw [su_at, if_neg (fun z => a z.2)]⟩
theorem m_laysChildren (h : VM (mv (σ.1 463)) V X) (t : Tree V d wn Y) {n : Nat} (hn : n < 23) (k1 : V 8 n ≤ 1) (hc : ∀ i, i < 23 → V 9 i = n → mq σ 1 i = 0 ∨ mq σ 1 i = 1) (hb : ∀ c ∈ pls V (mq σ) n, 0 ≤ mq σ (2 + dr V n) c ∧ mq σ (2 + dr V n) c ≤ 965) (ne : pls V (mq σ) n ≠ []) (hE : 0 ≤ mq σ (6 + dr V n) n ∧ mq σ (6 + dr V n) n ≤ 400) : ∃ σ', fX9_laysChildren σ 462 (nI n) = some σ' ∧ Fy σ σ' ∧ (∀ j c, c < 24 → (j ≤ 3 ∨ ¬ c ∈ pls V (mq σ) n) → mq σ' j c = mq σ j c) ∧ σ'.1 466 = σ.1 466 ∧ LA V (mq σ') n := by
  obtain ⟨d1, d2⟩ := t.drs hn k1
  have en : (nI n).toInt = n := j_nI (by omega)
  have e63 : (su σ 462 12 (nI n)).1 463 = σ.1 463 := su_ne (by omega)
  have way : fX9_its (su σ 462 12 (nI n)) 462 (nI n) 2 = some (nI (dr V n)) := by
    rw [m_i2 en (by omega), e63, (h.k1 hn k1).2, d2, j_nIo _ (by omega)]
  have c4 : (4 : Int32) * nI n = nI (4 * n) := (Int32.ofNat_mul 4 n).symm
  have a2 : (4 : Int32) * nI n + 2 + nI (dr V n) = nI (4 * n + 2 + dr V n) := by rw [c4, show (2 : Int32) = nI 2 from rfl, j_a, j_a]
  have a1 : (4 : Int32) * nI n + nI (dr V n) = nI (4 * n + dr V n) := by rw [c4, j_a]
  have q0 : mq (su σ 462 12 (nI n)) = mq σ := by
    funext j c
    unfold mq
    rw [su_ne (by omega), su_ne (by omega), su_ne (by omega)]
  have eE : ((su σ 462 12 (nI n)).1 469 (4 * n + 2 + dr V n)).toInt = mq σ (6 + dr V n) n := by
    rw [su_ne (by omega), show 6 + dr V n = 4 + (2 + dr V n) by omega, mqR (by omega) (by omega), show 4 * n + (2 + dr V n) = 4 * n + 2 + dr V n by omega]
  obtain ⟨σ2, b2, o2, v2⟩ := m_laysShares (σ := su σ 462 12 (nI n)) (X := X) (by rw [e63]; exact h) t hn k1 (by rw [q0]; exact hc) (by rw [su_at, if_pos ⟨rfl, rfl⟩]) (by rw [q0]; exact hb) (by rw [q0]; exact ne) (ext := (su σ 462 12 (nI n)).1 469 (4 * n + 2 + dr V n)) (by rw [q0]; exact eE) (by rw [eE]; exact hE)
  have q2 : mq σ2 = mq σ := (mq_o7 o2).trans q0
  rw [q0] at v2
  obtain ⟨σ3, b3, o3, F3, v3⟩ := m_lc43 (σ := σ2) (X := X) (by rw [o2.2 463 (by omega), e63]; exact h) t hn k1 d1 q2 hc v2
  have mem := fun c => t.pls_mem (P := mq σ) hn k1 (c := c)
  have nn : ¬ n ∈ pls V (mq σ) n := fun z => by
    have := (mem n).mp z
    have := (t.par hn this.2.1).2.2.1
    omega
  have rows : ∀ j c, c < 24 → (j ≤ 3 ∨ ¬ c ∈ pls V (mq σ) n) → mq σ3 j c = mq σ j c := fun j c hc24 hj => by
    rw [← q2]
    unfold mq
    rw [o3.2 467 (by omega), o3.2 468 (by omega)]
    by_cases z : 4 ≤ j ∧ j ≤ 7
    · have nc : ¬ c ∈ pls V (mq σ) n := by
        rcases hj with y | y
        · omega
        · exact y
      rw [F3 (4 * c + (j - 4)) (fun y hy => by
        have : y ≠ c := fun u => by
          rw [u] at hy
          exact nc hy
        omega)]
    · simp only [if_neg z]
  refine ⟨σ3, ?_, ((Fy.s12).tr (Fy.ou o2 (by omega) (by omega))).tr (Fy.ou o3 (by omega) (by omega)), rows, ?_, ?_⟩
  · unfold fX9_laysChildren
    rw [j_nm, way, j_b, a2, if_pos (j_ckn (by omega) (by decide)), j_cl _ (by omega), show (462 + 7 : Nat) = 469 from rfl, b2, j_b, a1, if_pos (j_ckn (by omega) (by decide)), j_nm, j_cl _ (by omega)]
    exact b3
  · rw [o3.2 466 (by omega), o2.2 466 (by omega), su_ne (by omega)]
  · have ep : pls V (mq σ3) n = pls V (mq σ) n := pls_cg (fun c hc => rows 1 c (by
      have := ((t.kids_mem hn k1).mp hc).1
      omega) (Or.inl (by omega)))
    have el : lsh V (mq σ3) n = lsh V (mq σ) n := by
      unfold lsh
      rw [ep, lm_cg (f := mq σ3 (2 + dr V n)) (g := mq σ (2 + dr V n)) (fun c hc => rows _ c (by have := ((mem c).mp hc).1; omega) (Or.inl (by omega)))]
      congr 1
      unfold lrm
      rw [ep, rows _ n (by omega) (Or.inr nn)]
    intro a c ga
    rw [ep] at ga
    rw [el, ep]
    have hc' : c ∈ pls V (mq σ) n := List.mem_iff_getElem?.mpr ⟨a, ga⟩
    have c23 := ((mem c).mp hc').1
    obtain ⟨w1, w2, w3, w4⟩ := v3 a c ga
    have n69 : ∀ e, 4 * n ≤ e → e < 4 * n + 4 → σ3.1 469 e = σ2.1 469 e := fun e h1 h2 => F3 e (fun y hy => by
      have : y ≠ n := fun u => by
        rw [u] at hy
        exact nn hy
      omega)
    have r : ∀ k, k ≤ 3 → mq σ3 (4 + k) c = (σ3.1 469 (4 * c + k)).toInt := fun k hk => mqR (by omega) hk
    have rn : ∀ k, k ≤ 3 → mq σ3 (4 + k) n = (σ3.1 469 (4 * n + k)).toInt := fun k hk => mqR (by omega) hk
    refine ⟨?_, ?_, ?_, ?_⟩
    · rw [show 6 + dr V n = 4 + (2 + dr V n) by omega, r _ (by omega), show 4 * c + (2 + dr V n) = 4 * c + 2 + dr V n by omega, w2]
      exact v2 c hc'
    · rw [show 7 - dr V n = 4 + (3 - dr V n) by omega, r _ (by omega), rn _ (by omega), show 4 * c + (3 - dr V n) = 4 * c + 3 - dr V n by omega, w4, n69 _ (by omega) (by omega), show 4 * n + (3 - dr V n) = 4 * n + 3 - dr V n by omega]
    · rw [r _ (by omega), rn _ (by omega), w1, n69 _ (by omega) (by omega)]
    · rw [show 5 - dr V n = 4 + (1 - dr V n) by omega, r _ (by omega), rn _ (by omega), show 4 * c + (1 - dr V n) = 4 * c + 1 - dr V n by omega, w3, n69 _ (by omega) (by omega), show 4 * n + (1 - dr V n) = 4 * n + 1 - dr V n by omega]
end MP9
end
section
/-! THE RELATION: the reference's plan (17): the plan -/
section MQ9
variable {σ : Sg} {V : VW} {d : Nat → Nat} {wn : Nat → Int} {X Y : Nat → Bool} {mw mh : Nat → Int}
/-- rows of nodes that lie within -/
def Bx (P : VW) (n : Nat) : Prop := (0 ≤ P 6 n ∧ P 6 n ≤ 400) ∧ 0 ≤ P 7 n ∧ P 7 n ≤ 400
theorem EM.ls {P : VW} (t : Tree V d wn Y) (hE : ∀ n, n < 23 → V 8 n ≠ 3 → EM V mw mh P n) (hw : ∀ p, p < 12 → 0 ≤ mw p ∧ mw p ≤ 40) (hh : ∀ p, p < 12 → 0 ≤ mh p ∧ mh p ≤ 40) {n : Nat} (hn : n < 23) (hu : V 8 n ≠ 3) (q : P 1 n = 1) (i : Nat) (hi : i = 2 ∨ i = 3) : 0 ≤ P i n ∧ P i n ≤ 965 := by
  have a := bdA (A := fun n => V 8 n ≠ 3) (P := P) t (fun c s hc _ e => t.us hc (by omega)) (fun n hn hu k => (hE n hn hu).1 k) (fun n hn hu k => (hE n hn hu).2 k) hw hh 22 n (by omega) hn hu hu q i hi
  have b := gl_pos hn hu
  omega
theorem m_lays135 (h : VM (mv (σ.1 463)) V X) (t : Tree V d wn Y) (hw : ∀ p, p < 12 → 0 ≤ mw p ∧ mw p ≤ 40) (hh : ∀ p, p < 12 → 0 ≤ mh p ∧ mh p ≤ 40) (h66 : ∀ n, n < 23 → V 8 n ≠ 3 → σ.1 466 n = nI (dq V n)) (hE : ∀ n, n < 23 → V 8 n ≠ 3 → EM V mw mh (mq σ) n) {D : Nat} (hD : D ≤ 23) (hB : ∀ n, n < 23 → V 8 n ≠ 3 → dq V n ≤ D → mq σ 1 n = 1 → Bx (mq σ) n) (hA : ∀ n, n < 23 → V 8 n ≠ 3 → dq V n < D → EA V (mq σ) n) (K : Sg → Int32 → Option Sg) : ∃ σ', fX9_lays_135 462 K FU σ (nI D) 0 = K σ' (nI (D + 1)) ∧ Fy σ σ' ∧ σ'.1 466 = σ.1 466 ∧ (∀ j c, c < 23 → (j ≤ 3 ∨ V 9 c = -1 ∨ dq V c ≤ D) → mq σ' j c = mq σ j c) ∧ ∀ n, n < 23 → V 8 n ≠ 3 → dq V n ≤ D → EA V (mq σ') n := by
  refine lp (F := fun f (s : Sg × Int32) => fX9_lays_135 462 K f s.1 (nI D) s.2) (Q := fun o => ∃ σ', o = K σ' (nI (D + 1)) ∧ Fy σ σ' ∧ σ'.1 466 = σ.1 466 ∧ (∀ j c, c < 23 → (j ≤ 3 ∨ V 9 c = -1 ∨ dq V c ≤ D) → mq σ' j c = mq σ j c) ∧ ∀ n, n < 23 → V 8 n ≠ 3 → dq V n ≤ D → EA V (mq σ') n) (fun i s => s.2 = nI i ∧ Fy σ s.1 ∧ s.1.1 466 = σ.1 466 ∧ (∀ j c, c < 23 → (j ≤ 3 ∨ V 9 c = -1 ∨ dq V c ≤ D) → mq s.1 j c = mq σ j c) ∧ ∀ n, n < 23 → V 8 n ≠ 3 → (dq V n < D ∨ (dq V n = D ∧ n < i)) → EA V (mq s.1) n) 24 ?_ ?_ 24 0 FU (σ, 0) rfl (by decide) ⟨rfl, Fy.rf, rfl, fun _ _ _ _ => rfl, fun n hn hu z => hA n hn hu (by omega)⟩
  · rintro f i ⟨s, l⟩ hi ⟨rfl, hF, h6, hR, hS⟩
    simp only at hF h6 hR hS
    have ei : (nI i).toInt = i := j_nI (by omega)
    have nle : ¬ (24 : Int32) ≤ nI i := n_ge 24 (m := 24) rfl hi (by decide)
    have cki : ck (nI i) 24 := j_ckn hi (by decide)
    have ecl : (nI i).toNatClampNeg = i := j_cl _ (by omega)
    have e63 : s.1 463 = σ.1 463 := hF.2.1 463 (by omega) (by omega)
    have h' : VM (mv (s.1 463)) V X := by rw [e63]; exact h
    -- nothing to do
    have skip : (i < 23 → V 8 i ≠ 3 → dq V i = D → EA V (mq s) i) → ∃ s' : Sg × Int32, (s'.2 = nI (i + 1) ∧ Fy σ s'.1 ∧ s'.1.1 466 = σ.1 466 ∧ (∀ j c, c < 23 → (j ≤ 3 ∨ V 9 c = -1 ∨ dq V c ≤ D) → mq s'.1 j c = mq σ j c) ∧ ∀ n, n < 23 → V 8 n ≠ 3 → (dq V n < D ∨ (dq V n = D ∧ n < i + 1)) → EA V (mq s'.1) n) ∧ fX9_lays_175 462 K (fX9_lays_135 462 K f) s (nI D) (nI i) = fX9_lays_135 462 K f s'.1 (nI D) s'.2 := fun z => by
      unfold fX9_lays_175
      rw [j_s]
      refine ⟨(s, nI (i + 1)), ⟨rfl, hF, h6, hR, fun n hn hu y => ?_⟩, rfl⟩
      by_cases q : n = i
      · subst q
        rcases y with y | y
        · exact hS n hn hu (Or.inl y)
        · exact z hn hu y.1
      · exact hS n hn hu (by omega)
    show ∃ s' : Sg × Int32, _ ∧ fX9_lays_135 462 K (f + 1) s (nI D) (nI i) = _
    rw [fX9_lays_135, if_neg nle, m_i0 ei hi, j_b]
    by_cases q1 : i < 23 ∧ V 8 i ≤ 1
    · obtain ⟨i23, k1⟩ := q1
      have hu : V 8 i ≠ 3 := by omega
      have u1 : oI (mv (s.1 463) 0 i) = 1 := by rw [(h'.k1 i23 k1).1]; rfl
      rw [if_pos u1, if_pos cki]
      have s4 : s.1 (462 + 4) (nI i).toNatClampNeg = nI (dq V i) := by
        rw [ecl]
        show s.1 466 i = _
        rw [h6]
        exact h66 i i23 hu
      have dq22 := (t.dqs i23 hu).1
      rw [s4]
      by_cases q2 : dq V i = D
      · rw [if_pos (by rw [q2]), if_pos cki]
        have s5 : s.1 (462 + 5) (nI i).toNatClampNeg = s.1 467 i := by rw [ecl]
        have ES : ∀ n, n < 23 → V 8 n ≠ 3 → EM V mw mh (mq s) n := fun n hn hu => (hE n hn hu).cg t hn (fun j c hj hc _ => hR j c hc (Or.inl hj))
        have b01 := (ES i i23 hu).b01 (Or.inr k1)
        rw [mq1 (by omega)] at b01
        by_cases q3 : mq s 1 i = 1
        · have n5 : ¬ s.1 (462 + 5) (nI i).toNatClampNeg = 0 := fun z => by
            rw [s5] at z
            rw [mq1 (by omega), z, jz0] at q3
            omega
          rw [if_neg n5]
          have mem := fun c => t.pls_mem (P := mq s) i23 k1 (c := c)
          have LTi := (ES i i23 hu).2 k1
          have ne : pls V (mq s) i ≠ [] := fun z => by
            obtain ⟨c, hc, e, p⟩ := LTi.2.1.mp q3
            have := (mem c).mpr ⟨hc, e, p⟩
            rw [z] at this
            cases this
          have BX : Bx (mq s) i := by
            have y := hR 1 i i23 (Or.inl (by omega))
            have := hB i i23 hu (by omega) (by rw [← y]; exact q3)
            unfold Bx
            rw [hR 6 i i23 (Or.inr (Or.inr (by omega))), hR 7 i i23 (Or.inr (Or.inr (by omega)))]
            exact this
          have dd := (t.drs i23 k1).1
          obtain ⟨σ1, a1, F1, r1, e6, la⟩ := m_laysChildren (σ := s) h' t i23 k1 (fun c hc e => (ES c hc (t.us hc (by omega))).b01 (by
            have uc := t.us hc (show V 9 c ≠ -1 by omega)
            have kc := t.ki hc
            omega)) (fun c hc => EM.ls t ES hw hh ((mem c).mp hc).1 (t.us ((mem c).mp hc).1 (by have := ((mem c).mp hc).2.1; omega)) ((mem c).mp hc).2.2 _ (by omega)) ne (by
            have z : dr V i = 0 ∨ dr V i = 1 := by omega
            rcases z with z | z
            · rw [z]; exact BX.1
            · rw [z]; exact BX.2)
          rw [a1, j_b]
          unfold fX9_lays_175
          rw [j_s]
          have np : ∀ c, c < 23 → dq V c ≤ D → ¬ c ∈ pls V (mq s) i := fun c hc hd z => by
            have := t.dqc hc ((mem c).mp z).2.1
            omega
          refine ⟨(σ1, nI (i + 1)), ⟨rfl, hF.tr F1, e6.trans h6, fun j c hc y => ?_, fun n hn hu' y => ?_⟩, rfl⟩
          · rw [r1 j c (by omega) (by
              rcases y with y | y | y
              · exact Or.inl y
              · exact Or.inr (fun z => by have := ((mem c).mp z).2.1; omega)
              · exact Or.inr (np c hc y))]
            exact hR j c hc y
          · by_cases q : n = i
            · subst q
              exact fun _ _ => la
            · refine (hS n hn hu' (by omega)).cg t hn (fun j c hj hc z => r1 j c (by omega) (Or.inr (fun w => ?_)))
              rcases z with z | z
              · exact np c hc (by rw [z]; omega) w
              · have := ((mem c).mp w).2.1
                omega
        · have z5 : s.1 (462 + 5) (nI i).toNatClampNeg = 0 := by
            rw [s5]
            refine j_eq.mpr ?_
            rw [mq1 (by omega)] at q3
            rw [jz0]
            omega
          rw [if_pos z5]
          exact skip (fun _ _ _ _ p => absurd p q3)
      · rw [if_neg (fun z => q2 ((j_inj (by omega) (by omega)).mp z))]
        exact skip (fun _ _ z => absurd z q2)
    · have u1 : ¬ oI (mv (s.1 463) 0 i) = 1 := fun z => by
        rw [j_eq, t_mv, jz1] at z
        by_cases y : i < 23
        · have kr := t.ki y
          have : V 8 i = 2 ∨ V 8 i = 3 := by omega
          rcases this with w | w
          · rw [h'.k2 y w] at z; omega
          · rw [h'.k3 y w] at z; omega
        · have : i = 23 := by omega
          rw [this, h'.l] at z
          omega
      rw [if_neg u1]
      exact skip (fun hi2 _ _ k => absurd ⟨hi2, k⟩ q1)
  · rintro f ⟨s, l⟩ ⟨rfl, hF, h6, hR, hS⟩
    simp only at hF h6 hR hS
    show ∃ σ', fX9_lays_135 462 K (f + 1) s (nI D) (nI 24) = _ ∧ _
    rw [fX9_lays_135, if_pos (n_le 24 (m := 24) rfl (by decide)), j_s]
    exact ⟨s, rfl, hF, h6, hR, fun n hn hu z => hS n hn hu (by omega)⟩
theorem m_lays127 (h : VM (mv (σ.1 463)) V X) (t : Tree V d wn Y) (ge : Geo V) (hw : ∀ p, p < 12 → 0 ≤ mw p ∧ mw p ≤ 40) (hh : ∀ p, p < 12 → 0 ≤ mh p ∧ mh p ≤ 40) (h66 : ∀ n, n < 23 → V 8 n ≠ 3 → σ.1 466 n = nI (dq V n)) (hE : ∀ n, n < 23 → V 8 n ≠ 3 → EM V mw mh (mq σ) n) (hL : LR V (mq σ)) : ∃ σ', fX9_lays_127 462 FU σ 0 = some σ' ∧ Fy σ σ' ∧ Lay V mw mh (mq σ') := by
  refine lp (F := fun f (s : Sg × Int32) => fX9_lays_127 462 f s.1 s.2) (Q := fun o => ∃ σ', o = some σ' ∧ Fy σ σ' ∧ Lay V mw mh (mq σ')) (fun i s => s.2 = nI i ∧ Fy σ s.1 ∧ s.1.1 466 = σ.1 466 ∧ (∀ j c, c < 23 → (j ≤ 3 ∨ V 9 c = -1) → mq s.1 j c = mq σ j c) ∧ (∀ n, n < 23 → V 8 n ≠ 3 → dq V n ≤ i → mq s.1 1 n = 1 → Bx (mq s.1) n) ∧ ∀ n, n < 23 → V 8 n ≠ 3 → dq V n < i → EA V (mq s.1) n) 24 ?_ ?_ 24 0 FU (σ, 0) rfl (by decide) ⟨rfl, Fy.rf, rfl, fun _ _ _ _ => rfl, fun n hn hu hd p => ?_, fun n hn hu hd => absurd hd (by omega)⟩
  · rintro f i ⟨s, l⟩ hi ⟨rfl, hF, h6, hR, hB, hA⟩
    simp only at hF h6 hR hB hA
    have nle : ¬ (24 : Int32) ≤ nI i := n_ge 24 (m := 24) rfl hi (by decide)
    have e63 : s.1 463 = σ.1 463 := hF.2.1 463 (by omega) (by omega)
    have ES : ∀ n, n < 23 → V 8 n ≠ 3 → EM V mw mh (mq s) n := fun n hn hu => (hE n hn hu).cg t hn (fun j c hj hc _ => hR j c hc (Or.inl hj))
    obtain ⟨σ1, a1, F1, e6, r1, A1⟩ := m_lays135 (σ := s) (X := X) (by rw [e63]; exact h) t hw hh (by rw [h6]; exact h66) ES (show i ≤ 23 by omega) hB hA (fX9_lays_127 462 f)
    show ∃ s' : Sg × Int32, _ ∧ fX9_lays_127 462 (f + 1) s (nI i) = _
    rw [fX9_lays_127, if_neg nle, a1]
    refine ⟨(σ1, nI (i + 1)), ⟨rfl, hF.tr F1, e6.trans h6, fun j c hc y => ?_, fun n hn hu hd p => ?_, fun n hn hu hd => A1 n hn hu (by omega)⟩, rfl⟩
    · rw [r1 j c hc (by omega)]
      exact hR j c hc y
    · have p : mq σ1 1 n = 1 := p
      have p' : mq s 1 n = 1 := by rw [← r1 1 n hn (Or.inl (by omega))]; exact p
      by_cases q : dq V n ≤ i
      · unfold Bx
        rw [r1 6 n hn (Or.inr (Or.inr q)), r1 7 n hn (Or.inr (Or.inr q))]
        exact hB n hn hu q p'
      · by_cases q9 : V 9 n = -1
        · have := t.dqr hn q9
          omega
        · obtain ⟨u, hu23, e, ku, -, -⟩ := t.pa hn q9
          have du := t.dqc hn e
          have uu : V 8 u ≠ 3 := by omega
          have pu : mq s 1 u = 1 := ((ES u hu23 uu).2 ku).2.1.mpr ⟨n, hn, e, p'⟩
          have pu1 : mq σ1 1 u = 1 := by rw [r1 1 u hu23 (Or.inl (by omega))]; exact pu
          have la := A1 u hu23 uu (by omega) ku pu1
          have np : n ∈ pls V (mq σ1) u := (t.pls_mem hu23 ku).mpr ⟨hn, e, p⟩
          obtain ⟨a, ga⟩ := List.mem_iff_getElem?.mp np
          obtain ⟨w1, w2, -, -⟩ := la a n ga
          have bu : Bx (mq σ1) u := by
            unfold Bx
            rw [r1 6 u hu23 (Or.inr (Or.inr (by omega))), r1 7 u hu23 (Or.inr (Or.inr (by omega)))]
            exact hB u hu23 uu (by omega) pu
          obtain ⟨d1, d2⟩ := t.drs hu23 ku
          have nd := t.pls_nd (P := mq σ1) hu23 ku
          have len := t.pls_len (P := mq σ1) hu23 ku
          have memu := fun c => t.pls_mem (P := mq σ1) hu23 ku (c := c)
          have E1 : ∀ n, n < 23 → V 8 n ≠ 3 → EM V mw mh (mq σ1) n := fun n hn hu => (ES n hn hu).cg t hn (fun j c hj hc _ => r1 j c hc (Or.inl hj))
          have lmv : ∀ f c, c ∈ pls V (mq σ1) u → lm (pls V (mq σ1) u) f c = f c := fun f c hc => if_pos hc
          have z : dr V u = 0 ∨ dr V u = 1 := by omega
          have rmB : 0 ≤ lrm V (mq σ1) u ∧ lrm V (mq σ1) u ≤ 400 := by
            have : 0 ≤ mq σ1 (6 + dr V u) u ∧ mq σ1 (6 + dr V u) u ≤ 400 := by
              rcases z with z | z
              · rw [z]; exact bu.1
              · rw [z]; exact bu.2
            have lp1 : 1 ≤ (pls V (mq σ1) u).length := by
              cases hp : pls V (mq σ1) u with
              | nil => rw [hp] at np; cases np
              | cons y u => simp
            unfold lrm
            split <;> omega
          have sh := share_rg (pl := pls V (mq σ1) u) (room := lrm V (mq σ1) u) (m := lm (pls V (mq σ1) u) (mq σ1 (2 + dr V u))) (w := lm (pls V (mq σ1) u) (V 11)) ⟨nd, fun c hc => by
            rw [lmv _ c hc]
            exact (EM.ls t E1 hw hh ((memu c).mp hc).1 (t.us ((memu c).mp hc).1 (by have := ((memu c).mp hc).2.1; omega)) ((memu c).mp hc).2.2 _ (by omega)).1, fun c hc => by
            rw [lmv _ c hc]
            exact (t.we ((memu c).mp hc).1 (by have := ((memu c).mp hc).2.1; omega)).1⟩ rmB.1 (by omega) np
          have w1 : mq σ1 (6 + dr V u) n = share _ _ _ _ n := w1
          unfold Bx
          rcases z with z | z
          · rw [z] at w1 w2 sh
            exact ⟨⟨by rw [w1]; exact sh.1, by rw [w1]; omega⟩, by rw [w2]; exact bu.2.1, by rw [w2]; exact bu.2.2⟩
          · rw [z] at w1 w2 sh
            exact ⟨⟨by rw [w2]; exact bu.1.1, by rw [w2]; exact bu.1.2⟩, by rw [w1]; exact sh.1, by rw [w1]; omega⟩
  · rintro f ⟨s, l⟩ ⟨rfl, hF, h6, hR, hB, hA⟩
    simp only at hF h6 hR hB hA
    show ∃ σ', fX9_lays_127 462 (f + 1) s (nI 24) = _ ∧ _
    rw [fX9_lays_127, if_pos (n_le 24 (m := 24) rfl (by decide))]
    have ES : ∀ n, n < 23 → V 8 n ≠ 3 → EM V mw mh (mq s) n := fun n hn hu => (hE n hn hu).cg t hn (fun j c hj hc _ => hR j c hc (Or.inl hj))
    refine ⟨s, rfl, hF, fun n hn k => (ES n hn (by omega)).1 k, fun n hn k => (ES n hn (by omega)).2 k, fun w n hw e => ?_, fun n hn k p => hA n hn (by omega) (by have := (t.dqs hn (show V 8 n ≠ 3 by omega)).1; omega) k p⟩
    have n9 : n < 23 ∧ V 9 n = -1 := by
      rcases t.wi hw with z | ⟨r, hr, e5, -, e9, -⟩
      · omega
      · have : n = r := by omega
        subst this
        exact ⟨hr, e9⟩
    rw [hR 4 n n9.1 (Or.inr n9.2), hR 5 n n9.1 (Or.inr n9.2), hR 6 n n9.1 (Or.inr n9.2), hR 7 n n9.1 (Or.inr n9.2)]
    exact hL w n hw e
  · have q9 : V 9 n = -1 := by
      refine Classical.byContradiction (fun q9 => ?_)
      obtain ⟨u, hu23, e, -⟩ := t.pa hn q9
      have := t.dqc hn e
      omega
    obtain ⟨w, hw5, -, e5⟩ := t.ro hn hu q9
    obtain ⟨-, -, l6, l7⟩ := hL w n hw5 e5
    obtain ⟨-, -, g3, g4⟩ := ge w hw5
    show Bx (mq σ) n
    unfold Bx
    rw [l6, l7]
    omega
/-- the reference lays the plan -/
theorem m_lays (h : VM (mv (σ.1 463)) V X) (t : Tree V d wn Y) (ge : Geo V) (hm : ∀ p, p < 12 → V 13 p ≠ -1 → mv (σ.1 463) 7 p = mw p ∧ mv (σ.1 463) 8 p = mh p) (hw : ∀ p, p < 12 → 0 ≤ mw p ∧ mw p ≤ 40) (hh : ∀ p, p < 12 → 0 ≤ mh p ∧ mh p ≤ 40) : ∃ σ', fX9_lays σ 462 = some σ' ∧ Fy σ σ' ∧ Lay V mw mh (mq σ') := by
  obtain ⟨σ1, a1, o1, v1⟩ := m_laysDepths h t
  obtain ⟨σ2, a2, o2, v2⟩ := m_lays7 (σ := σ1) (mw := mw) (mh := mh) (X := X) (by rw [o1.2 463 (by omega)]; exact h) t (by rw [o1.2 463 (by omega)]; exact hm) hh v1
  have e2 : σ2.1 463 = σ.1 463 := by rw [o2.2 463 (by omega), o1.2 463 (by omega)]
  obtain ⟨σ3, a3, o3, v3⟩ := m_lays57 (σ := σ2) (X := X) (by rw [e2]; exact h) t
  have q3 : ∀ j n, j ≤ 3 → mq σ3 j n = mq σ2 j n := fun j n hj => by
    unfold mq
    rw [o3.2 467 (by omega), o3.2 468 (by omega), if_neg (show ¬ (4 ≤ j ∧ j ≤ 7) by omega), if_neg (show ¬ (4 ≤ j ∧ j ≤ 7) by omega)]
  obtain ⟨σ4, a4, F4, L4⟩ := m_lays127 (σ := σ3) (mw := mw) (mh := mh) (X := X) (by rw [o3.2 463 (by omega), e2]; exact h) t ge hw hh (fun n hn hu => by rw [o3.2 466 (by omega), o2.2 466 (by omega)]; exact v1 n hn hu) (fun n hn hu => (v2 n hn hu).cg t hn (fun j c hj _ _ => q3 j c hj)) v3
  refine ⟨σ4, ?_, (((Fy.ou o1 (by omega) (by omega)).tr (Fy.ou o2 (by omega) (by omega))).tr (Fy.ou o3 (by omega) (by omega))).tr F4, L4⟩
  unfold fX9_lays
  rw [a1, j_b, a2, a3, a4]
end MQ9
end
section
/-! THE RELATION: class and reference, all of it -/
section RA0
def exP (S : ST) (p : Int32) : Bool := decide (0 ≤ p.toInt ∧ p.toInt < 12) && exB S p.toInt.toNat
def SI (S : ST) : Prop := (0 ≤ S_ex S ∧ S_ex S < 4096) ∧ (0 ≤ S_sv S ∧ S_sv S < 8) ∧ (∀ p, p < 12 → (0 ≤ S_mw S p ∧ S_mw S p ≤ 40) ∧ (0 ≤ S_mh S p ∧ S_mh S p ≤ 40) ∧ (exB S p = true → 1 ≤ S_mw S p)) ∧ (∀ p, p < 12 → S_pl S 13 p ≠ -1 → exB S p = true) ∧ (∃ d wn, Inv (S_pl S) d wn) ∧ LO (S_fo S) 12 (plc (S_pl S)) ∧ ∀ s, s < 3 → svB S s = true → ∃ d wn, Inv (S_sl S s) d wn
def PL (σ : Sg) (S : ST) : Prop := Lay (S_pl S) (S_mw S) (S_mh S) (qv σ) ∧ ∀ n, n < 23 → S_pl S 8 n = 3 → qv σ 1 n = 0
def CR (σ : Sg) (S : ST) (l : List ST) : Prop := stv σ 1 = S ∧ Ch σ l ∧ SI S ∧ (∀ T ∈ l, SI T) ∧ PL σ S
def MR (σ : Sg) (S : ST) (l : List ST) : Prop := Mh σ l ∧ SM (mv (σ.1 463)) S
def TX (σ : Sg) : Prop := ∃ n : Nat, n ≤ 120 ∧ σ.1 438 1 = nI n ∧ σ.1 462 5 = nI n ∧ ∀ i, i < n → σ.1 439 i = σ.1 465 i ∧ 32 ≤ (σ.1 439 i).toInt ∧ (σ.1 439 i).toInt ≤ 126
def RR (σ : Sg) : Prop := ∃ S l, CR σ S l ∧ MR σ S l ∧ TX σ
theorem inr_j {j i : Nat} (h : inr j i = true) : 1 ≤ j ∧ j ≤ 15 := by
  refine Classical.byContradiction (fun z => ?_)
  rw [inr_hi i (by omega)] at h
  cases h
theorem pv_c {σ σ' : Sg} {b : Nat} (e : ∀ j, 1 ≤ j → j ≤ 15 → σ'.1 (b + j) = σ.1 (b + j)) : pv σ' b = pv σ b := by
  funext j i
  unfold pv
  by_cases q : inr j i = true
  · have := inr_j q
    rw [if_pos q, if_pos q, e j this.1 this.2]
  · rw [if_neg q, if_neg q]
theorem odv_c {σ σ' : Sg} {c : Nat} (e0 : σ'.1 c = σ.1 c) (e1 : σ'.1 (c + 1) = σ.1 (c + 1)) : odv σ' c = odv σ c := by
  unfold odv
  rw [e0, e1]
theorem stv_c {σ σ' : Sg} {b : Nat} (e : ∀ c, b ≤ c → c ≤ b + 69 → σ'.1 c = σ.1 c) : stv σ' b = stv σ b := by
  refine stv_of (by rw [e b (by omega) (by omega)]) (by rw [e b (by omega) (by omega)]) (fun i _ => by rw [e (b + 1) (by omega) (by omega)]) (fun i _ => by rw [e (b + 2) (by omega) (by omega)]) (odv_c (e _ (by omega) (by omega)) (e _ (by omega) (by omega))) (pv_c (fun j h1 h2 => e _ (by omega) (by omega))) (fun s hs => pv_c (fun j h1 h2 => e _ (by unfold slo; omega) (by unfold slo; omega)))
theorem Ch.c {σ σ' : Sg} {l : List ST} (h : Ch σ l) (e0 : σ'.1 0 = σ.1 0) (e : ∀ c, 72 ≤ c → c ≤ 421 → σ'.1 c = σ.1 c) : Ch σ' l := by
  obtain ⟨k, h1, h2, h3, h4, h5⟩ := h
  refine ⟨k, h1, by rw [e0]; exact h2, h3, by rw [e0]; exact h4, fun j S g => ?_⟩
  have := rb_lo k j
  rw [stv_c (fun c a b => e c (by omega) (by omega))]
  exact h5 j S g
theorem qv_c {σ σ' : Sg} (e : ∀ c, 423 ≤ c → c ≤ 429 → σ'.1 c = σ.1 c) : qv σ' = qv σ := by
  funext j i
  unfold qv
  by_cases q : 1 ≤ j ∧ j ≤ 7 ∧ i < 23
  · rw [if_pos q, if_pos q, e _ (by omega) (by omega)]
  · rw [if_neg q, if_neg q]
theorem PL.c {σ σ' : Sg} {S : ST} (h : PL σ S) (e : ∀ c, 423 ≤ c → c ≤ 429 → σ'.1 c = σ.1 c) : PL σ' S := by
  unfold PL
  rw [qv_c e]
  exact h
theorem CR.c {σ σ' : Sg} {S : ST} {l : List ST} (h : CR σ S l) (e : ∀ c, c < 438 → σ'.1 c = σ.1 c) : CR σ' S l := by
  obtain ⟨h1, h2, h3, h4, h5⟩ := h
  exact ⟨(stv_c (fun c a b => e c (by omega))).trans h1, h2.c (e 0 (by omega)) (fun c a b => e c (by omega)), h3, h4, h5.c (fun c a b => e c (by omega))⟩
theorem Mh.c {σ σ' : Sg} {l : List ST} (h : Mh σ l) (e2 : σ'.1 462 2 = σ.1 462 2) (e4 : σ'.1 464 = σ.1 464) : Mh σ' l := by
  obtain ⟨h1, h2, h3⟩ := h
  refine ⟨h1, by rw [e2]; exact h2, fun k S g => ?_⟩
  have : pr σ' k = pr σ k := by
    funext i
    unfold pr
    rw [e4]
  rw [this]
  exact h3 k S g
theorem MR.c {σ σ' : Sg} {S : ST} {l : List ST} (h : MR σ S l) (e2 : σ'.1 462 2 = σ.1 462 2) (e3 : σ'.1 463 = σ.1 463) (e4 : σ'.1 464 = σ.1 464) : MR σ' S l :=
  ⟨h.1.c e2 e4, by rw [e3]; exact h.2⟩
theorem TX.c {σ σ' : Sg} (h : TX σ) (e1 : σ'.1 438 1 = σ.1 438 1) (e2 : σ'.1 439 = σ.1 439) (e3 : σ'.1 462 5 = σ.1 462 5) (e4 : σ'.1 465 = σ.1 465) : TX σ' := by
  obtain ⟨n, h1, h2, h3, h4⟩ := h
  refine ⟨n, h1, by rw [e1]; exact h2, by rw [e3]; exact h3, fun i hi => ?_⟩
  rw [e2, e4]
  exact h4 i hi
theorem keep_mem {l : List ST} {S T : ST} (h : T ∈ keep l S) : T ∈ l ∨ T = S := by
  unfold keep at h
  rcases List.mem_append.mp h with h | h
  · left
    split at h
    · exact List.mem_of_mem_drop h
    · exact h
  · right
    exact List.mem_singleton.mp h
/-- what the reference's part of a call leaves as it is -/
def F9 (σ σ' : Sg) : Prop := (∀ c, c < 462 → σ'.1 c = σ.1 c) ∧ σ'.1 465 = σ.1 465 ∧ σ'.1 462 5 = σ.1 462 5 ∧ σ'.2 476 = σ.2 476 ∧ σ'.1 462 3 = σ.1 462 3
def G9 (σ σ' : Sg) (k : Int32) : Prop := (∀ c, c < 462 → σ'.1 c = σ.1 c) ∧ σ'.1 465 = σ.1 465 ∧ σ'.1 462 5 = σ.1 462 5 ∧ σ'.2 476 = σ.2 476 ∧ σ'.1 462 3 = k
theorem F9.rf {σ : Sg} : F9 σ σ := ⟨fun _ _ => rfl, rfl, rfl, rfl, rfl⟩
theorem F9.tr {σ σ1 σ2 : Sg} (h : F9 σ σ1) (h2 : F9 σ1 σ2) : F9 σ σ2 := ⟨fun c hc => (h2.1 c hc).trans (h.1 c hc), h2.2.1.trans h.2.1, h2.2.2.1.trans h.2.2.1, h2.2.2.2.1.trans h.2.2.2.1, h2.2.2.2.2.trans h.2.2.2.2⟩
theorem F9.or {σ σ1 : Sg} (h : Or σ σ1) : F9 σ σ1 := ⟨fun c hc => h.2.1 c (by omega) (by omega), h.2.1 465 (by omega) (by omega), h.2.2 5 (by omega), by rw [h.1], h.2.2 3 (by omega)⟩
theorem F9.ou {σ σ1 : Sg} (h : Out σ σ1 463 463) : F9 σ σ1 := ⟨fun c hc => h.2 c (by omega), h.2 465 (by omega), by rw [h.2 462 (by omega)], by rw [h.1], by rw [h.2 462 (by omega)]⟩
theorem F9.fy {σ σ1 : Sg} (h : Fy σ σ1) : F9 σ σ1 := ⟨fun c hc => h.2.1 c (by omega) (by omega), h.2.1 465 (by omega) (by omega), h.2.2 5 (by omega), by rw [h.1], h.2.2 3 (by omega)⟩
theorem G9.s3 {σ : Sg} {k : Int32} : G9 σ (su σ 462 3 k) k := ⟨fun c hc => su_ne (by omega), su_ne (by omega), by rw [su_at, if_neg (by omega)], rfl, by rw [su_at, if_pos ⟨rfl, rfl⟩]⟩
theorem G9.tr {σ σ1 σ2 : Sg} {k : Int32} (h : G9 σ σ1 k) (h2 : F9 σ1 σ2) : G9 σ σ2 k := ⟨fun c hc => (h2.1 c hc).trans (h.1 c hc), h2.2.1.trans h.2.1, h2.2.2.1.trans h.2.2.1, h2.2.2.2.1.trans h.2.2.2.1, h2.2.2.2.2.trans h.2.2.2.2⟩
theorem MR.s3 {σ : Sg} {S : ST} {l : List ST} {k : Int32} (h : MR σ S l) : MR (su σ 462 3 k) S l := h.c (by rw [su_at, if_neg (by omega)]) (su_ne (by omega)) (su_ne (by omega))
theorem RR.s3 {σ : Sg} {k : Int32} (h : RR σ) : RR (su σ 462 3 k) := by
  obtain ⟨S, l, c, m, t⟩ := h
  exact ⟨S, l, c.c (fun c hc => su_ne (by omega)), m.s3, t.c (by rw [su_ne (by omega)]) (su_ne (by omega)) (by rw [su_at, if_neg (by omega)]) (su_ne (by omega))⟩
theorem rf0 {σ : Sg} : fX9_refused σ 462 0 = some (false, su σ 462 3 0) := by
  unfold fX9_refused
  rw [j_nm, if_pos (by decide)]
theorem rf1 {σ : Sg} : fX9_refused σ 462 1 = some (true, su σ 462 3 1) := by
  unfold fX9_refused
  rw [j_nm, if_neg (by decide)]
theorem rf2 {σ : Sg} : fX9_refused σ 462 2 = some (true, su σ 462 3 2) := by
  unfold fX9_refused
  rw [j_nm, if_neg (by decide)]
theorem rf3 {σ : Sg} : fX9_refused σ 462 3 = some (true, su σ 462 3 3) := by
  unfold fX9_refused
  rw [j_nm, if_neg (by decide)]
/-- a call: both end, with one answer, and the relation holds again -/
def PI (F : Option (Int32 × Sg)) (G : Sg → Option (Int32 × Sg)) : Prop := ∃ k σ1 b σ2, F = some (k, σ1) ∧ G σ1 = some (b, σ2) ∧ σ2.1 462 3 = k ∧ RR σ2 ∧ (k = 0 → σ2.2 476 0 = b.toInt64)
theorem pi_no {σ : Sg} {F : Option (Int32 × Sg)} {G : Sg → Option (Int32 × Sg)} {k b : Int32} (h : RR σ) (hF : F = some (k, σ)) (hk : k ≠ 0) (hG : G σ = some (b, su σ 462 3 k)) : PI F G :=
  ⟨k, σ, b, su σ 462 3 k, hF, hG, by rw [su_at, if_pos ⟨rfl, rfl⟩], h.s3, fun z => absurd z hk⟩
theorem pi_ok {σ σ1 : Sg} {F : Option (Int32 × Sg)} {G : Sg → Option (Int32 × Sg)} {v : Int32} {S S' : ST} {l l' : List ST} (tx : TX σ) (m : MR σ S l) (hF : F = some (0, sul σ1 476 0 v.toInt64)) (f8 : ∀ c, 438 ≤ c → σ1.1 c = σ.1 c) (c1 : CR σ1 S' l') (hG : ∀ s, MR s S l → ∃ s', G s = some (v, s') ∧ G9 s s' 0 ∧ MR s' S' l') : PI F G := by
  obtain ⟨s', a, g, m'⟩ := hG (sul σ1 476 0 v.toInt64) (m.c (by show σ1.1 462 2 = _; rw [f8 462 (by omega)]) (f8 463 (by omega)) (f8 464 (by omega)))
  have tx1 : TX (sul σ1 476 0 v.toInt64) := tx.c (by show σ1.1 438 1 = _; rw [f8 438 (by omega)]) (f8 439 (by omega)) (by show σ1.1 462 5 = _; rw [f8 462 (by omega)]) (f8 465 (by omega))
  refine ⟨0, sul σ1 476 0 v.toInt64, v, s', hF, a, g.2.2.2.2, ⟨S', l', c1.c (fun c hc => g.1 c (by omega)), m', tx1.c (by rw [g.1 438 (by omega)]) (g.1 439 (by omega)) g.2.2.1 g.2.1⟩, fun _ => ?_⟩
  rw [g.2.2.2.1]
  show vp_updL ((σ1.2) 476) 0 v.toInt64 0 = _
  rfl
end RA0
end
section
/-! THE RELATION: steps of the calls; create -/
section RA1
theorem s_kr {σ : Sg} {S : ST} {l : List ST} (h : CR σ S l) : ∃ σ', fX8_keepRecord σ = some σ' ∧ (∀ c, 438 ≤ c → σ'.1 c = σ.1 c) ∧ CR σ' S (keep l S) := by
  obtain ⟨h1, h2, h3, h4, h5⟩ := h
  obtain ⟨σ', a, b, e, c⟩ := s_keepRecord h2
  rw [h1] at c
  refine ⟨σ', a, fun k hk => e k (by omega) (by omega), (stv_c (fun k a b => e k (by omega) (by omega))).trans h1, c, h3, fun T hT => ?_, h5.c (fun k a b => e k (by omega) (by omega))⟩
  rcases keep_mem hT with z | z
  · exact h4 T z
  · rw [z]
    exact h3
theorem CR.mod {σ σ1 : Sg} {S S' : ST} {L : List ST} (h : CR σ S L) (o : ∀ c, c = 0 ∨ 71 ≤ c → σ1.1 c = σ.1 c) (hs : stv σ1 1 = S') (hS : SI S') : ∃ σ2, fX2_compute σ1 422 1 = some σ2 ∧ Out σ1 σ2 422 437 ∧ CR σ2 S' L := by
  subst hs
  obtain ⟨-, h2, -, h4, -⟩ := h
  obtain ⟨s1, s2, s3, s4, ⟨d, wn, s5⟩, s6, s7⟩ := hS
  obtain ⟨i1, i2, i3, i4⟩ := s5
  obtain ⟨σ2, a, b, c, e⟩ := s_compute (σ := σ1) i1 i2 i4 (fun p hp => ⟨(s3 p hp).1, fun z => (s3 p hp).2.2 (s4 p hp z)⟩) (fun p hp => (s3 p hp).2.1)
  have hs : stv σ2 1 = stv σ1 1 := stv_c (fun k a1 a2 => b.2 k (by omega))
  refine ⟨σ2, a, b, hs, h2.c ((b.2 0 (by omega)).trans (o 0 (by omega))) (fun k a1 a2 => (b.2 k (by omega)).trans (o k (by omega))), ⟨s1, s2, s3, s4, ⟨d, wn, i1, i2, i3, i4⟩, s6, s7⟩, h4, c, e⟩
theorem CR.mod0 {σ σ1 : Sg} {S S' : ST} {L : List ST} (h : CR σ S L) (o : ∀ c, c = 0 ∨ 71 ≤ c → σ1.1 c = σ.1 c) (hs : stv σ1 1 = S') (hS : SI S') (hp : PL σ S → PL σ S') : CR σ1 S' L := by
  obtain ⟨-, h2, -, h4, h5⟩ := h
  exact ⟨hs, h2.c (o 0 (by omega)) (fun k a1 a2 => o k (by omega)), hS, h4, (hp h5).c (fun k a1 a2 => o k (by omega))⟩
theorem m_kr {σ : Sg} {S : ST} {l : List ST} (h : MR σ S l) : ∃ σ', fX9_saves σ 462 = some σ' ∧ F9 σ σ' ∧ σ'.1 463 = σ.1 463 ∧ MR σ' S (keep l S) := by
  obtain ⟨σ', a, b, c⟩ := m_saves h.1 h.2
  have e := b.2.1 463 (by omega) (by omega)
  exact ⟨σ', a, F9.or b, e, c, by rw [e]; exact h.2⟩
theorem MR.mod {σ σ1 : Sg} {S S' : ST} {L : List ST} (h : MR σ S L) (o : Out σ σ1 463 463) (hs : SM (mv (σ1.1 463)) S') : MR σ1 S' L :=
  ⟨h.1.c (by rw [o.2 462 (by omega)]) (o.2 464 (by omega)), hs⟩
theorem Lay.mw {V : VW} {mw mh mw' mh' : Nat → Int} {P : VW} (h : Lay V mw mh P) (e : ∀ p, p < 12 → V 13 p ≠ -1 → mw' p = mw p ∧ mh' p = mh p) : Lay V mw' mh' P := by
  obtain ⟨h1, h2, h3, h4⟩ := h
  refine ⟨fun n hn k => ?_, h2, h3, h4⟩
  obtain ⟨a, b, c⟩ := h1 n hn k
  have vz : ∀ p, vis V n p = true → V 13 p ≠ -1 := fun p z => by
    unfold vis at z
    simp only [Bool.and_eq_true, decide_eq_true_eq] at z
    omega
  refine ⟨a, b, fun q => ?_⟩
  rw [(c q).1, (c q).2]
  exact ⟨gx_congr (fun i hi => ⟨rfl, fun z => (e i hi (vz i z)).1.symm⟩), by rw [gx_congr (c := vis V n) (d := vis V n) (f := mh) (g := mh') (fun i hi => ⟨rfl, fun z => (e i hi (vz i z)).2.symm⟩)]⟩
theorem VM.rows {U U' V : VW} {X : Nat → Bool} (h : VM U V X) (e : ∀ j, j < 6 ∨ (9 ≤ j ∧ j < 20) → U' j = U j) : VM U' V X := by
  unfold VM
  rw [e 0 (by omega), e 1 (by omega), e 2 (by omega), e 3 (by omega), e 4 (by omega), e 5 (by omega), e 9 (by omega), e 10 (by omega), e 11 (by omega), e 12 (by omega), e 13 (by omega), e 14 (by omega), e 15 (by omega), e 16 (by omega), e 17 (by omega), e 18 (by omega), e 19 (by omega)]
  exact h
theorem s_reqR {σ : Sg} (v lo hi : Int32) : fX8_requireRange σ v lo hi = some (if decide (lo.toInt ≤ v.toInt ∧ v.toInt ≤ hi.toInt) then .inl () else .inr 1) := by
  unfold fX8_requireRange fX8_requireRange_10
  by_cases a : v < lo
  · rw [if_pos a, decide_eq_false (by rw [j_lt] at a; omega)]
    rfl
  · rw [if_neg a]
    by_cases b : v ≤ hi
    · rw [if_pos b, decide_eq_true (by rw [j_lt] at a; rw [j_le] at b; omega)]
      rfl
    · rw [if_neg b, decide_eq_false (by rw [j_le] at b; omega)]
      rfl
def mnP (a b : Int32) : Bool := decide (1 ≤ a.toInt ∧ a.toInt ≤ 40) && decide (1 ≤ b.toInt ∧ b.toInt ≤ 40)
theorem s_reqM {σ : Sg} (a b : Int32) : fX8_requireMinimum σ a b = some (if mnP a b then .inl () else .inr 1) := by
  have e1 : (1 : Int32).toInt = 1 := rfl
  have e40 : (40 : Int32).toInt = 40 := rfl
  unfold fX8_requireMinimum mnP
  rw [s_reqR, s_reqR, e1, e40]
  cases decide (1 ≤ a.toInt ∧ a.toInt ≤ 40) <;> cases decide (1 ≤ b.toInt ∧ b.toInt ≤ 40) <;> rfl
theorem s_reqP {σ : Sg} (h : SI (stv σ 1)) (p : Int32) : fX8_requirePane σ p = some (if exP (stv σ 1) p then .inl () else .inr 0) := by
  unfold fX8_requirePane exP
  rw [s_exists h.1, j_b]
  cases (decide (0 ≤ p.toInt ∧ p.toInt < 12) && exB (stv σ 1) p.toInt.toNat) <;> rfl
theorem m_isP {σ : Sg} {S : ST} (h : SM (mv (σ.1 463)) S) (p : Int32) : fX9_isPane σ 462 p = some (exP S p) := by
  rw [m_isPane]
  unfold exP
  by_cases a : 0 ≤ p.toInt ∧ p.toInt < 12
  · rw [decide_eq_true a, Bool.true_and, Bool.true_and, (h.1 p.toInt.toNat (by omega)).1]
    cases exB S p.toInt.toNat <;> rfl
  · rw [decide_eq_false a, Bool.false_and, Bool.false_and]
theorem exP_n {S : ST} {p : Int32} (h : exP S p = true) : ∃ k : Nat, p.toInt = k ∧ k < 12 ∧ exB S k = true := by
  unfold exP at h
  simp only [Bool.and_eq_true, decide_eq_true_eq] at h
  exact ⟨p.toInt.toNat, by omega, by omega, h.2⟩
/-! create -/
def lfP (S : ST) : Int := fnd (fun p => !exB S p) 12
theorem m_cr2 {σ : Sg} {S : ST} (h : SM (mv (σ.1 463)) S) (a b : Int32) : fX9_create_2 462 FU σ a b 0 = fX9_create_24 462 σ a b (nI (if lfP S = -1 then 12 else (lfP S).toNat)) := by
  refine lpx (F := fun f (s : Int32) => fX9_create_2 462 f σ a b s) (Q := fun o => o = fX9_create_24 462 σ a b (nI (if lfP S = -1 then 12 else (lfP S).toNat))) (fun i s => s = nI i ∧ ∀ k, k < i → exB S k = true) 12 ?_ ?_ 12 0 FU 0 rfl (by decide) ⟨rfl, fun k hk => absurd hk (by omega)⟩
  · rintro f i _ hi ⟨rfl, hl⟩
    have ei : (nI i).toInt = i := j_nI (by omega)
    have nle : ¬ (12 : Int32) ≤ nI i := n_ge 12 (m := 12) rfl hi (by decide)
    have key : fX9_create_2 462 (f + 1) σ a b (nI i) = if exB S i then fX9_create_2 462 f σ a b (nI (i + 1)) else fX9_create_24 462 σ a b (nI i) := by
      rw [fX9_create_2, if_neg nle, m_o0 ei hi, j_b, (h.1 i hi).1, j_s]
      cases exB S i <;> rfl
    cases q : exB S i
    · left
      show fX9_create_2 462 (f + 1) σ a b (nI i) = _
      rw [key, q]
      have : lfP S = i := fnd_at hi (by rw [q]; rfl) (fun k hk => by rw [hl k hk]; rfl)
      show fX9_create_24 462 σ a b (nI i) = _
      rw [this, if_neg (show ¬ (i : Int) = -1 by omega), Int.toNat_natCast]
    · right
      rw [q] at key
      exact ⟨nI (i + 1), ⟨rfl, fun k hk => by
        by_cases z : k = i
        · rw [z]; exact q
        · exact hl k (by omega)⟩, key⟩
  · rintro f _ ⟨rfl, hl⟩
    show fX9_create_2 462 (f + 1) σ a b (nI 12) = _
    rw [fX9_create_2, if_pos (n_le 12 (m := 12) rfl (by decide))]
    have : lfP S = -1 := fnd_no (fun k hk => by rw [hl k hk]; rfl)
    rw [this, if_pos rfl]
def crS (S : ST) (k : Nat) (a b : Int) : ST := (((((S_ex S).toNat ||| 2 ^ k : Nat) : Int), S_sv S), ur (S_mw S) k a, ur (S_mh S) k b, S.2.2.2)
theorem crS_ex {S : ST} {k j : Nat} {a b : Int} : exB (crS S k a b) j = (exB S j || decide (j = k)) := by
  unfold exB crS
  show Nat.testBit ((((S_ex S).toNat ||| 2 ^ k : Nat) : Int)).toNat j = _
  rw [Int.toNat_natCast, or_bit]
theorem crS_SI {S : ST} {k : Nat} (h : SI S) (hk : k < 12) {a b : Int} (ha : 1 ≤ a ∧ a ≤ 40) (hb : 1 ≤ b ∧ b ≤ 40) : SI (crS S k a b) := by
  obtain ⟨h1, h2, h3, h4, h5, h6, h7⟩ := h
  refine ⟨?_, h2, fun p hp => ?_, fun p hp z => ?_, h5, h6, h7⟩
  · have := or_lt (m := (S_ex S).toNat) (by omega) hk
    show (0 : Int) ≤ (((S_ex S).toNat ||| 2 ^ k : Nat) : Int) ∧ (((S_ex S).toNat ||| 2 ^ k : Nat) : Int) < 4096
    omega
  · have := h3 p hp
    show (0 ≤ ur (S_mw S) k a p ∧ ur (S_mw S) k a p ≤ 40) ∧ (0 ≤ ur (S_mh S) k b p ∧ ur (S_mh S) k b p ≤ 40) ∧ (_ → 1 ≤ ur (S_mw S) k a p)
    rw [crS_ex]
    unfold ur
    by_cases q : p = k
    · rw [if_pos q, if_pos q]
      exact ⟨by omega, by omega, fun _ => ha.1⟩
    · rw [if_neg q, if_neg q, decide_eq_false q, Bool.or_false]
      exact this
  · rw [crS_ex, h4 p hp z]
    rfl
theorem s_create {σ : Sg} {S : ST} {l : List ST} (h : CR σ S l) {a b : Int32} (hm : mnP a b = true) {k : Nat} (hk : lfP S = k) (hk12 : k < 12) : ∃ σ1, fX8_create σ a b = some (.inl (nI k), σ1) ∧ (∀ c, 438 ≤ c → σ1.1 c = σ.1 c) ∧ CR σ1 (crS S k a.toInt b.toInt) (keep l S) := by
  have hS := h.2.2.1
  have h1 := h.1
  obtain ⟨σ1, a1, e1, c1⟩ := s_kr h
  have x1 := c1.1
  have nk : (nI k).toInt = k := j_nI (by omega)
  obtain ⟨σ2, a2, o2, v2⟩ := s_addPane (σ := σ1) (b := 1) (by rw [x1]; exact hS.1) (p := nI k) nk hk12
  obtain ⟨σ3, a3, o3, v3⟩ := s_setMinimums (σ := σ2) (b := 1) (p := nI k) nk hk12 a b
  rw [v2, x1] at v3
  unfold mnP at hm
  simp only [Bool.and_eq_true, decide_eq_true_eq] at hm
  have exk : exB S k = false := by
    rcases fnd_spec (fun p => !exB S p) 12 with ⟨z, -⟩ | ⟨i, hi, z, w, -⟩
    · have : lfP S = -1 := z
      omega
    · have : lfP S = i := z
      have : i = k := by omega
      subst this
      simpa using w
  have np : S_pl S 13 k = -1 := by
    refine Classical.byContradiction (fun z => ?_)
    rw [hS.2.2.2.1 k hk12 z] at exk
    cases exk
  refine ⟨σ3, ?_, fun c hc => by rw [o3.2 c (by omega), o2.2 c (by omega)]; exact e1 c hc, c1.mod0 (fun c hc => by rw [o3.2 c (by omega), o2.2 c (by omega)]) v3 (crS_SI hS hk12 hm.1 hm.2) (fun pl => ⟨pl.1.mw (fun p hp z => ?_), pl.2⟩)⟩
  · unfold fX8_create
    rw [s_reqM, j_b, show mnP a b = true by unfold mnP; simp only [Bool.and_eq_true, decide_eq_true_eq]; exact hm, if_pos rfl, j_xl, s_lowestFreePane (b := 1) (by rw [h1]; exact hS.1), j_b, h1]
    have : fnd (fun p => !exB S p) 12 = k := hk
    rw [this, ← j_nIo k (by omega), if_neg (fun z => by rw [j_eq, nk, jm1] at z; omega), a1, j_b, a2, j_b, a3, j_b]
  · have : p ≠ k := fun w => z (by rw [w]; exact np)
    show ur (S_mw S) k a.toInt p = S_mw S p ∧ ur (S_mh S) k b.toInt p = S_mh S p
    unfold ur
    rw [if_neg this, if_neg this]
    exact ⟨rfl, rfl⟩
theorem m_create {σ : Sg} {S : ST} {l : List ST} (h : MR σ S l) {a b : Int32} (hm : mnP a b = true) {k : Nat} (hk : lfP S = k) (hk12 : k < 12) : ∃ σ1, fX9_create σ 462 a b = some (nI k, σ1) ∧ G9 σ σ1 0 ∧ MR σ1 (crS S k a.toInt b.toInt) (keep l S) := by
  have nk : (nI k).toInt = k := j_nI (by omega)
  obtain ⟨σ1, a1, f1, e1, c1⟩ := m_kr (h.s3 (k := 0))
  obtain ⟨σ2, a2, o2, v2⟩ := m_p0 (σ := σ1) nk hk12 1
  obtain ⟨σ3, a3, o3, v3⟩ := m_p1 (σ := σ2) nk hk12 a
  obtain ⟨σ4, a4, o4, v4⟩ := m_p2 (σ := σ3) nk hk12 b
  have o : Out σ1 σ4 463 463 := (o2.tr o3).tr o4
  refine ⟨σ4, ?_, (G9.s3.tr f1).tr (F9.ou o), c1.mod o ?_⟩
  · unfold fX9_create
    rw [m_cr2 h.2, hk, if_neg (by omega), Int.toNat_natCast]
    unfold fX9_create_24
    unfold mnP at hm
    simp only [Bool.and_eq_true, decide_eq_true_eq] at hm
    rw [m_within, j_b, show (1 : Int32).toInt = 1 from rfl, show (40 : Int32).toInt = 40 from rfl, decide_eq_true hm.1, if_pos rfl, m_within, j_b, show (1 : Int32).toInt = 1 from rfl, show (40 : Int32).toInt = 40 from rfl, decide_eq_true hm.2, if_pos rfl, if_neg (fun z => by rw [j_eq, nk, show (12 : Int32).toInt = 12 from rfl] at z; omega)]
    unfold fX9_create_60
    rw [rf0, j_b]
    show (fX9_saves (su σ 462 3 0) 462).bind _ = _
    rw [a1, j_b, a2, j_b, a3, j_b, a4, j_b]
  · obtain ⟨s1, s2, s3, s4⟩ := c1.2
    rw [v4, v3, v2]
    refine ⟨fun p hp => ?_, s2.rows (fun j hj => ?_), ?_, fun s hs => ?_⟩
    · rw [crS_ex]
      obtain ⟨t1, t2⟩ := s1 p hp
      have e6 : ∀ (U : VW) (x y z : Int) (i : Nat), mu (mu (mu U 6 k x) 7 k y) 8 k z 6 i = if i = k then x else U 6 i := fun U x y z i => by rw [mu_ne (by omega), mu_ne (by omega), mu_at]
      have e7 : ∀ (U : VW) (x y z : Int) (i : Nat), mu (mu (mu U 6 k x) 7 k y) 8 k z 7 i = if i = k then y else U 7 i := fun U x y z i => by rw [mu_ne (by omega), mu_at, mu_ne (by omega)]
      have e8 : ∀ (U : VW) (x y z : Int) (i : Nat), mu (mu (mu U 6 k x) 7 k y) 8 k z 8 i = if i = k then z else U 8 i := fun U x y z i => by rw [mu_at, mu_ne (by omega), mu_ne (by omega)]
      rw [e6, e7, e8]
      show (if p = k then (1 : Int32).toInt else _) = _ ∧ (_ → (if p = k then a.toInt else _) = ur (S_mw S) k a.toInt p ∧ (if p = k then b.toInt else _) = ur (S_mh S) k b.toInt p)
      unfold ur
      by_cases q : p = k
      · rw [if_pos q, if_pos q, if_pos q, if_pos q, if_pos q, decide_eq_true q, Bool.or_true]
        exact ⟨rfl, fun _ => ⟨rfl, rfl⟩⟩
      · rw [if_neg q, if_neg q, if_neg q, if_neg q, if_neg q, decide_eq_false q, Bool.or_false]
        exact ⟨t1, t2⟩
    · rw [mu_ne (by omega), mu_ne (by omega), mu_ne (by omega)]
    · show OE (_, _) _
      rw [mu_ne (by omega), mu_ne (by omega), mu_ne (by omega), mu_ne (by omega), mu_ne (by omega), mu_ne (by omega)]
      exact s3
    · rw [mu_ne (by omega), mu_ne (by omega), mu_ne (by omega)]
      exact s4 s hs
theorem c_create {σ : Sg} (h : RR σ) (a b : Int32) : PI (fL_create σ a b 476 1) (fun s => fX9_create s 462 a b) := by
  obtain ⟨S, l, c, m, tx⟩ := h
  have h1 := c.1
  have hS := c.2.2.1
  have hR : RR σ := ⟨S, l, c, m, tx⟩
  have lf := fnd_rg (fun p => !exB S p) 12
  have lf : -1 ≤ lfP S ∧ lfP S < 12 := lf
  cases hm : mnP a b
  · refine pi_no (k := 1) (b := 0) hR ?_ (by decide) ?_
    · unfold fL_create fX8_create
      rw [s_reqM, j_b, hm]
      rfl
    · show fX9_create σ 462 a b = _
      unfold fX9_create
      rw [m_cr2 m.2]
      generalize nI (if lfP S = -1 then 12 else (lfP S).toNat) = l3
      unfold fX9_create_24 fX9_create_45
      rw [m_within, m_within, j_b, show (1 : Int32).toInt = 1 from rfl, show (40 : Int32).toInt = 40 from rfl]
      unfold mnP at hm
      have fin : fX9_create_60 462 σ a b l3 1 = some (0, su σ 462 3 1) := by
        unfold fX9_create_60
        rw [rf1, j_b, if_pos rfl]
      cases q1 : decide (1 ≤ a.toInt ∧ a.toInt ≤ 40)
      · exact fin
      · rw [q1, Bool.true_and] at hm
        rw [hm]
        exact fin
  · by_cases q : lfP S = -1
    · refine pi_no (k := 2) (b := 0) hR ?_ (by decide) ?_
      · unfold fL_create fX8_create
        have : fnd (fun p => !exB S p) 12 = -1 := q
        rw [s_reqM, j_b, hm, if_pos rfl, j_xl, s_lowestFreePane (b := 1) (by rw [h1]; exact hS.1), j_b, h1, this]
        rfl
      · show fX9_create σ 462 a b = _
        unfold fX9_create
        rw [m_cr2 m.2, if_pos q]
        unfold fX9_create_24
        unfold mnP at hm
        simp only [Bool.and_eq_true, decide_eq_true_eq] at hm
        rw [m_within, j_b, show (1 : Int32).toInt = 1 from rfl, show (40 : Int32).toInt = 40 from rfl, decide_eq_true hm.1, if_pos rfl, m_within, j_b, show (1 : Int32).toInt = 1 from rfl, show (40 : Int32).toInt = 40 from rfl, decide_eq_true hm.2, if_pos rfl, if_pos (show nI 12 = (12 : Int32) from rfl)]
        unfold fX9_create_60
        rw [rf2, j_b, if_pos rfl]
    · obtain ⟨k, hk⟩ : ∃ k : Nat, lfP S = k := ⟨(lfP S).toNat, by omega⟩
      obtain ⟨σ1, a1, f1, c1⟩ := s_create c hm hk (by omega)
      refine pi_ok tx m ?_ f1 c1 (fun s ms => m_create ms hm hk (by omega))
      unfold fL_create
      rw [a1, j_b, j_xl, if_pos (by decide), j_nm]
      rfl
end RA1
end
section
/-! THE RELATION: remove, takeAway -/
section RA2
theorem LO.lv2 {o : OD} {N : Nat} {m m' : Nat → Bool} (h : LO o N m) {x : Nat} (hx : x < N) (q' : m' x = false) (hm : ∀ i, i < N → i ≠ x → m' i = m i) : LO (o_lv o x) N m' := by
  cases q : m x
  · rw [h.lv_no q]
    refine h.cg (fun i hi => ?_)
    by_cases z : i = x
    · rw [z, q, q']
    · exact hm i hi z
  · exact h.lv hx q q' hm
theorem LO.pn {o : OD} {m : Nat → Bool} (h : LO o 12 m) : Pn o := fun x hx => by
  obtain ⟨k, hk, e⟩ := ol_mem.mp hx
  obtain ⟨y, hy, -, e2⟩ := h.2.1 k (by have := h.1; omega)
  omega
theorem LO.lt {o : OD} {N : Nat} {m : Nat → Bool} (h : LO o N m) {x : Nat} (hx : x < N) : (o_lv o x).1 < N := by
  have l2 := h.lv2 (m' := fun i => m i && decide (i ≠ x)) hx (by simp) (fun i _ hi => by simp [hi])
  rw [l2.1]
  have a := cnt_one_more (c := fun i => m i && decide (i ≠ x)) (d := fun i => (m i && decide (i ≠ x)) || decide (i = x)) (n := N) hx (fun i _ hi => by simp [hi]) (by simp) (by simp)
  have b := cnt_le (fun i => (m i && decide (i ≠ x)) || decide (i = x)) N
  omega
theorem fl1_one {o : OD} {m c : Nat → Bool} {k : Nat} (h : LO o 12 m) (hk : k < 12) (hc : c k = false) (e : ∀ i, i < 12 → i ≠ k → c i = m i) : fl1 c o 12 = o_lv o k := by
  have l2 := h.lv2 hk hc e
  have key : ∀ n, n ≤ 12 → fl1 c o n = if k < n then o_lv o k else o := by
    intro n
    induction n with
    | zero => exact fun _ => by rw [if_neg (by omega)]; rfl
    | succ n ih =>
      intro hn
      have ih := ih (by omega)
      show (if c n then fl1 c o n else o_lv (fl1 c o n) n) = _
      rw [ih]
      cases q : c n
      · simp only [Bool.false_eq_true, if_false]
        by_cases z : n = k
        · subst z
          rw [if_neg (by omega), if_pos (by omega)]
        · by_cases w : k < n
          · rw [if_pos w, if_pos (by omega)]
            exact l2.lv_no q
          · rw [if_neg w, if_neg (by omega)]
            exact h.lv_no (by rw [← e n (by omega) z]; exact q)
      · simp only [if_true]
        have z : n ≠ k := fun z => by rw [z, hc] at q; cases q
        by_cases w : k < n
        · rw [if_pos w, if_pos (by omega)]
        · rw [if_neg w, if_neg (by omega)]
  rw [key 12 (by omega), if_pos hk]
def pfS (S : ST) (o : OD) (V : VW) : ST := (S.1, S.2.1, S.2.2.1, o, V, S.2.2.2.2.2)
def exS (S : ST) (m : Nat) : ST := (((m : Int), S_sv S), S.2)
theorem SM.pf {U U' : VW} {S : ST} {o : OD} {V : VW} (h : SM U S) (fs : FS U U') (hv : VM U' V (fun _ => false)) (ho : OE (mo U' 20) o) : SM U' (pfS S o V) := by
  obtain ⟨h1, h2, h3, h4⟩ := h
  refine ⟨fun p hp => ?_, hv, ho, fun s hs => ?_⟩
  · rw [fs 6 (by omega), fs 7 (by omega), fs 8 (by omega)]
    exact h1 p hp
  · rw [fs (22 + s) (by omega)]
    exact h4 s hs
theorem SI.pf {S : ST} {o : OD} {V : VW} (h : SI S) {d : Nat → Nat} {wn : Nat → Int} (hI : Inv V d wn) (hp : ∀ p, p < 12 → V 13 p ≠ -1 → exB S p = true) (ho : LO o 12 (plc V)) : SI (pfS S o V) := by
  obtain ⟨h1, h2, h3, h4, h5, h6, h7⟩ := h
  exact ⟨h1, h2, h3, hp, ⟨d, wn, hI⟩, ho, h7⟩
/-! the class's steps -/
theorem s_wd {σ : Sg} {S : ST} (hs : stv σ 1 = S) {d : Nat → Nat} {wn : Nat → Int} (hI : Inv (S_pl S) d wn) (p : Int32) : ∃ σ', fX1_withdraw σ (1 + 5) p = some σ' ∧ Out σ σ' 1 70 ∧ stv σ' 1 = pfS S (S_fo S) (v_withdraw (S_pl S) p.toInt) := by
  subst hs
  obtain ⟨i1, i2, i3, i4⟩ := hI
  have sp := i2.sp2 p.toInt
  obtain ⟨σ', a, b, c⟩ := s_withdraw (σ := σ) (b := 1 + 5) p sp.1 sp.2 (i3.ok (by decide))
  refine ⟨σ', a, b.mo (by omega) (by omega), ?_⟩
  rw [stv_pl (b := 1) b, c]
  rfl
theorem s_lv {σ : Sg} {S : ST} (hs : stv σ 1 = S) (ok : OkO (S_fo S)) (p : Int32) : ∃ σ', fX0_leave σ (1 + 3) p = some σ' ∧ Out σ σ' 1 70 ∧ stv σ' 1 = pfS S (o_lv (S_fo S) p.toInt) (S_pl S) := by
  subst hs
  obtain ⟨σ', a, b, c⟩ := s_leave (σ := σ) (c := 1 + 3) ok p
  refine ⟨σ', a, b.mo (by omega) (by omega), ?_⟩
  rw [stv_fo (b := 1) b, c]
  rfl
theorem s_dp {σ : Sg} {S : ST} (hs : stv σ 1 = S) (h : 0 ≤ S_ex S ∧ S_ex S < 4096) {p : Int32} {k : Nat} (hp : p.toInt = k) (hk : k < 12) : ∃ σ', fX4_dropPane σ 1 p = some σ' ∧ Out σ σ' 1 70 ∧ stv σ' 1 = exS S ((S_ex S).toNat &&& (4095 - 2 ^ k)) := by
  subst hs
  obtain ⟨σ', a, b, c⟩ := s_dropPane (σ := σ) (b := 1) h hp hk
  exact ⟨σ', a, b.mo (by omega) (by omega), c⟩
theorem dp_ex {S : ST} (h : 0 ≤ S_ex S ∧ S_ex S < 4096) {k j : Nat} (hk : k < 12) : exB (exS S ((S_ex S).toNat &&& (4095 - 2 ^ k))) j = (exB S j && decide (j ≠ k)) := by
  unfold exB exS
  show Nat.testBit ((((S_ex S).toNat &&& (4095 - 2 ^ k) : Nat) : Int)).toNat j = _
  rw [Int.toNat_natCast, and_bit (by omega) hk]
theorem v_wd_no {V : VW} {p : Nat} (hp : p < 12) (h : V 13 p = -1) : v_withdraw V p = V := by
  unfold v_withdraw
  rw [ga_in hp, if_pos h]
/-! the reference's steps -/
theorem m_paneSet {σ : Sg} {S : ST} (h : SM (mv (σ.1 463)) S) (hx : 0 ≤ S_ex S ∧ S_ex S < 4096) : fX9_paneSet σ 462 = some (nI (S_ex S).toNat) := by
  have z0 : ∀ p, p < 12 → (0 : Int32) <<< (nI p &&& 31) = 0 := by decide
  unfold fX9_paneSet
  refine lp (F := fun f (s : Int32 × Int32) => fX9_paneSet_4 σ 462 f s.1 s.2) (Q := fun o => o = some (nI (S_ex S).toNat)) (fun i s => s = (nI (setn (exB S) i), nI i)) 12 ?_ ?_ 12 0 FU (0, 0) rfl (by decide) rfl
  · rintro f i _ hi rfl
    have ei : (nI i).toInt = i := j_nI (by omega)
    refine ⟨_, rfl, ?_⟩
    show fX9_paneSet_4 σ 462 (f + 1) (nI (setn (exB S) i)) (nI i) = fX9_paneSet_4 σ 462 f (nI (setn (exB S) (i + 1))) (nI (i + 1))
    rw [fX9_paneSet_4, if_neg (n_ge 12 (m := 12) rfl hi (by decide)), m_o0 ei hi, j_b, (h.1 i hi).1, j_nm, j_s]
    congr 1
    show _ = nI (if exB S i then setn (exB S) i ||| 2 ^ i else setn (exB S) i)
    cases exB S i
    · simp only [Bool.false_eq_true, if_false]
      rw [show oI (0 : Int) = 0 from rfl, z0 i hi, j_0, ni_or, Nat.or_zero]
    · simp only [if_true]
      rw [show oI (1 : Int) = 1 from rfl, ni_bit i hi, ni_or]
  · rintro f _ rfl
    show fX9_paneSet_4 σ 462 (f + 1) (nI (setn (exB S) 12)) (nI 12) = _
    rw [fX9_paneSet_4, if_pos (n_le 12 (m := 12) rfl (by decide)), setn_eq (c := exB S) (m := (S_ex S).toNat) (by omega) (fun j _ => rfl)]
theorem m_size {σ : Sg} {m : Nat} (hm : m < 4096) : fX9_size σ (nI m) = some (nI (cnt (fun p => Nat.testBit m p) 12)) := by
  unfold fX9_size
  refine lp (F := fun f (s : Int32 × Int32) => fX9_size_4 σ f (nI m) s.1 s.2) (Q := fun o => o = some (nI (cnt (fun p => Nat.testBit m p) 12))) (fun i s => s = (nI (cnt (fun p => Nat.testBit m p) i), nI i)) 12 ?_ ?_ 12 0 FU (0, 0) rfl (by decide) rfl
  · rintro f i _ hi rfl
    refine ⟨_, rfl, ?_⟩
    show fX9_size_4 σ (f + 1) (nI m) (nI (cnt (fun p => Nat.testBit m p) i)) (nI i) = fX9_size_4 σ f (nI m) (nI (cnt (fun p => Nat.testBit m p) (i + 1))) (nI (i + 1))
    rw [fX9_size_4, if_neg (n_ge 12 (m := 12) rfl hi (by decide)), bt_one hm hi, j_nm, j_a, j_s]
    rfl
  · rintro f _ rfl
    show fX9_size_4 σ (f + 1) (nI m) (nI (cnt (fun p => Nat.testBit m p) 12)) (nI 12) = _
    rw [fX9_size_4, if_pos (n_le 12 (m := 12) rfl (by decide))]
/-- a pane goes, the orders follow -/
theorem m_gone {σ : Sg} {S : ST} (hS : SI S) (h : SM (mv (σ.1 463)) S) {p : Int32} {k : Nat} (hp : p.toInt = k) (hk : k < 12) : ∃ σ1 σ2, fX9_takes σ 462 p = some σ1 ∧ fX9_leavesFocus σ1 462 = some σ2 ∧ Out σ σ2 463 463 ∧ SM (mv (σ2.1 463)) (pfS S (o_lv (S_fo S) k) (v_withdraw (S_pl S) k)) := by
  obtain ⟨-, -, -, -, ⟨d, wn, hI⟩, hO, -⟩ := hS
  obtain ⟨s1, s2, s3, s4⟩ := h
  obtain ⟨σ1, a1, o1, v1, f1⟩ := m_takes s2 hI.1 hI.2.1 hI.2.2.1 hp hk
  have wd := (withdraw_ok hI hk).2
  have mo1 : mo (mv (σ1.1 463)) 20 = mo (mv (σ.1 463)) 20 := by
    unfold mo
    rw [f1 20 (by omega), f1 21 (by omega)]
  obtain ⟨σ2, a2, o2, v2, r2⟩ := m_leavesFocus (σ := σ1) (o := S_fo S) (c := plc (v_withdraw (S_pl S) k)) (fun q hq => by
    rw [v1.gr hq]
    rfl) (by rw [mo1]; exact s3) (hO.di (by decide)) hO.pn
  rw [fl1_one hO hk (by unfold plc; rw [wd.1 k hk, if_pos rfl]; rfl) (fun i hi ne => by unfold plc; rw [wd.1 i hi, if_neg ne])] at v2
  refine ⟨σ1, σ2, a1, a2, o1.tr o2, SM.pf (U := mv (σ.1 463)) ⟨s1, s2, s3, s4⟩ (f1.fs.tr (fun j hj => r2 j (by omega) (by omega))) (v1.rows (fun j hj => r2 j (by omega) (by omega))) v2⟩
theorem gone_SI {S : ST} (hS : SI S) {k : Nat} (hk : k < 12) : SI (pfS S (o_lv (S_fo S) k) (v_withdraw (S_pl S) k)) := by
  have h := hS
  obtain ⟨-, -, -, h4, ⟨d, wn, hI⟩, hO, -⟩ := h
  obtain ⟨i', wd⟩ := withdraw_ok hI hk
  refine hS.pf i' (fun p hp z => h4 p hp (fun w => z ?_)) (hO.lv2 hk (by unfold plc; rw [wd.1 k hk, if_pos rfl]; rfl) (fun i hi ne => by unfold plc; rw [wd.1 i hi, if_neg ne]))
  rw [wd.1 p hp]
  split
  · rfl
  · exact w
theorem LO.cn {S : ST} (hS : SI S) : (S_fo S).1 = cnt (plc (S_pl S)) 12 := hS.2.2.2.2.2.1.1
/-! remove -/
def reS (S : ST) (k : Nat) : ST := exS (pfS S (o_lv (S_fo S) k) (v_withdraw (S_pl S) k)) ((S_ex S).toNat &&& (4095 - 2 ^ k))
theorem reS_ex {S : ST} (h : 0 ≤ S_ex S ∧ S_ex S < 4096) {k j : Nat} (hk : k < 12) : exB (reS S k) j = (exB S j && decide (j ≠ k)) := dp_ex (S := pfS S (o_lv (S_fo S) k) (v_withdraw (S_pl S) k)) h hk
theorem reS_SI {S : ST} (hS : SI S) {k : Nat} (hk : k < 12) : SI (reS S k) := by
  obtain ⟨h1, h2, h3, h4, h5, h6, h7⟩ := gone_SI hS hk
  have ex := fun j => reS_ex hS.1 (j := j) hk
  obtain ⟨-, -, -, -, ⟨d, wn, hI⟩, -, -⟩ := hS
  have wd := (withdraw_ok hI hk).2
  refine ⟨?_, h2, fun p hp => ⟨(h3 p hp).1, (h3 p hp).2.1, fun z => (h3 p hp).2.2 ?_⟩, fun p hp z => ?_, h5, h6, h7⟩
  · have := and_lt (m := (S_ex S).toNat) (k := 4095 - 2 ^ k) (by have : 0 ≤ S_ex S ∧ S_ex S < 4096 := h1; omega)
    show (0 : Int) ≤ (((S_ex S).toNat &&& (4095 - 2 ^ k) : Nat) : Int) ∧ (((S_ex S).toNat &&& (4095 - 2 ^ k) : Nat) : Int) < 4096
    omega
  · rw [ex] at z
    simp only [Bool.and_eq_true] at z
    exact z.1
  · rw [ex]
    have : exB S p = true := h4 p hp z
    rw [this, Bool.true_and]
    refine decide_eq_true (fun w => z ?_)
    show v_withdraw (S_pl S) k 13 p = -1
    rw [wd.1 p hp, if_pos w]
theorem c_remove {σ : Sg} (h : RR σ) (p : Int32) : PI (fL_remove σ p 476 1) (fun s => fX9_remove s 462 p) := by
  obtain ⟨S, l, c, m, tx⟩ := h
  have h1 := c.1
  have hS := c.2.2.1
  have hR : RR σ := ⟨S, l, c, m, tx⟩
  cases q : exP S p
  · refine pi_no (k := 1) (b := 0) hR ?_ (by decide) ?_
    · unfold fL_remove fX8_remove
      rw [s_reqP (by rw [h1]; exact hS), h1, q]
      rfl
    · show fX9_remove σ 462 p = _
      unfold fX9_remove fX9_remove_14
      rw [m_isP m.2, j_b, q, rf1]
      rfl
  · obtain ⟨k, hk, hk12, ek⟩ := exP_n q
    obtain ⟨σ1, a1, f1, c1⟩ := s_kr c
    obtain ⟨-, -, -, -, ⟨d, wn, hI⟩, hO, -⟩ := id hS
    obtain ⟨σ2, a2, o2, v2⟩ := s_wd c1.1 hI p
    obtain ⟨σ3, a3, o3, v3⟩ := s_lv v2 (hO.ok (by decide)) p
    obtain ⟨σ4, a4, o4, v4⟩ := s_dp v3 hS.1 hk hk12
    have hv : stv σ4 1 = reS S k := by
      rw [v4]
      unfold reS pfS exS
      rw [hk]
    have o : Out σ1 σ4 1 70 := (o2.tr o3).tr o4
    obtain ⟨σ5, a5, o5, c5⟩ := c1.mod (fun x hx => o.2 x (by omega)) hv (reS_SI hS hk12)
    have ml : (S_ex S).toNat &&& (4095 - 2 ^ k) < 4096 := and_lt (by have := hS.1; omega)
    have ex5 : σ5.1 1 0 = nI ((S_ex S).toNat &&& (4095 - 2 ^ k)) := by
      rw [ex_get (σ := σ5) (b := 1) (by rw [c5.1]; exact (reS_SI hS hk12).1), c5.1]
      show nI ((((S_ex S).toNat &&& (4095 - 2 ^ k) : Nat) : Int)).toNat = _
      rw [Int.toNat_natCast]
    refine pi_ok (v := nI (cnt (fun p => Nat.testBit ((S_ex S).toNat &&& (4095 - 2 ^ k)) p) 12)) tx m ?_ (fun x hx => by rw [o5.2 x (by omega), o.2 x (by omega)]; exact f1 x hx) c5 (fun s ms => ?_)
    · unfold fL_remove fX8_remove
      rw [s_reqP (by rw [h1]; exact hS), h1, q, j_b, if_pos rfl, j_xl, a1, j_b, a2, j_b, a3, j_b, a4, j_b, a5, j_b, ex5, bt_cnt _ ml, j_b, j_b, j_xl, if_pos (by decide), j_nm]
      rfl
    · obtain ⟨s1, b1, g1, e1, m1⟩ := m_kr (ms.s3 (k := 0))
      obtain ⟨s2, s3, b2, b3, w3, sm3⟩ := m_gone hS m1.2 hk hk12
      obtain ⟨s4, b4, w4, u4⟩ := m_p0 (σ := s3) hk hk12 0
      have sm4 : SM (mv (s4.1 463)) (reS S k) := by
        obtain ⟨t1, t2, t3, t4⟩ := sm3
        rw [u4]
        refine ⟨fun i hi => ?_, t2.rows (fun j hj => mu_ne (by omega)), ?_, fun t ht => ?_⟩
        · rw [reS_ex hS.1 hk12, mu_at, mu_ne (by omega), mu_ne (by omega)]
          obtain ⟨y1, y2⟩ := t1 i hi
          by_cases z : i = k
          · rw [if_pos z, decide_eq_false (by simp [z]), Bool.and_false]
            exact ⟨rfl, fun w => by cases w⟩
          · rw [if_neg z, decide_eq_true z, Bool.and_true]
            exact ⟨y1, y2⟩
        · show OE (_, _) _
          rw [mu_ne (by omega), mu_ne (by omega)]
          exact t3
        · rw [mu_ne (by omega)]
          exact t4 t ht
      have w : Out s1 s4 463 463 := w3.tr w4
      refine ⟨s4, ?_, (G9.s3.tr g1).tr (F9.ou w), m1.mod w sm4⟩
      unfold fX9_remove fX9_remove_14
      rw [m_isP ms.2, j_b, q, if_pos rfl, rf0, j_b]
      show (fX9_saves (su s 462 3 0) 462).bind _ = _
      rw [b1, j_b, b2, j_b, b3, j_b, b4, j_b, m_paneSet sm4 (reS_SI hS hk12).1, j_b]
      have : (S_ex (reS S k)).toNat = (S_ex S).toNat &&& (4095 - 2 ^ k) := by
        show ((((S_ex S).toNat &&& (4095 - 2 ^ k) : Nat) : Int)).toNat = _
        rw [Int.toNat_natCast]
      rw [this, m_size ml, j_b]
end RA2
end
section
/-! THE RELATION: what the calls tell (1) -/
section RA3
theorem v_we_n {V : VW} {w : Int} (h : v_we V w = true) : ∃ k : Nat, w = k ∧ k < 5 ∧ (k = 0 ∨ V 5 k ≠ -1) := by
  unfold v_we at h
  by_cases a : w = 0
  · exact ⟨0, by omega, by omega, Or.inl rfl⟩
  · rw [decide_eq_false a, Bool.false_or] at h
    have h := of_decide_eq_true h
    unfold ga at h
    by_cases b : 0 ≤ w ∧ w < 5
    · rw [if_pos (show 0 ≤ w ∧ w < ((5 : Nat) : Int) from b)] at h
      exact ⟨w.toNat, by omega, by omega, Or.inr h⟩
    · rw [if_neg (show ¬ (0 ≤ w ∧ w < ((5 : Nat) : Int)) from b)] at h
      exact absurd rfl h
theorem v_we_k {V : VW} {k : Nat} (hk : k < 5) : v_we V k = (decide (k = 0) || decide (V 5 k ≠ -1)) := by
  unfold v_we
  rw [ga_in hk]
  congr 1
  by_cases a : k = 0
  · rw [decide_eq_true a, decide_eq_true (by omega)]
  · rw [decide_eq_false a, decide_eq_false (by omega)]
theorem v_we_hi {V : VW} {w : Int} (h : ¬ (0 ≤ w ∧ w < 5)) : v_we V w = false := by
  cases q : v_we V w
  · rfl
  · obtain ⟨k, a, b, -⟩ := v_we_n q
    omega
theorem s_reqW {σ : Sg} (w : Int32) : fX8_requireWindow σ w = some (if v_we (S_pl (stv σ 1)) w.toInt then .inl () else .inr 0) := by
  unfold fX8_requireWindow
  rw [s_windowExists, j_b]
  show (if v_we (S_pl (stv σ 1)) w.toInt = true then _ else _) = _
  cases v_we (S_pl (stv σ 1)) w.toInt <;> rfl
theorem m_isW {σ : Sg} {V : VW} {X : Nat → Bool} (h : VM (mv (σ.1 463)) V X) (w : Int32) : fX9_isWindow σ 462 w = some (v_we V w.toInt) := by
  rw [m_isWindow]
  by_cases a : 0 ≤ w.toInt ∧ w.toInt < 5
  · obtain ⟨k, hk⟩ : ∃ k : Nat, w.toInt = k := ⟨w.toInt.toNat, by omega⟩
    rw [decide_eq_true a, Bool.true_and, hk, Int.toNat_natCast, h.ex (by omega), v_we_k (by omega)]
    by_cases b : k = 0 ∨ V 5 k ≠ -1
    · rw [if_pos b, decide_eq_true rfl]
      rcases b with b | b
      · rw [decide_eq_true b, Bool.true_or]
      · rw [decide_eq_true b, Bool.or_true]
    · rw [if_neg b, decide_eq_false (by omega), decide_eq_false (fun z => b (Or.inl z)), decide_eq_false (fun z => b (Or.inr z))]
      rfl
  · rw [decide_eq_false a, Bool.false_and, v_we_hi a]
theorem s_reqL {σ : Sg} {p : Int32} {k : Nat} (hp : p.toInt = k) (hk : k < 12) : fX8_requirePlaced σ p = some (if plc (S_pl (stv σ 1)) k then .inl () else .inr 2) := by
  unfold fX8_requirePlaced
  rw [s_groupOf, j_b, hp, ga_in hk]
  show (if oI (S_pl (stv σ 1) 13 k) = -1 then _ else _) = _
  have t := j_oI (pv_rg σ (1 + 5) 13 k).1 (pv_rg σ (1 + 5) 13 k).2
  unfold plc
  by_cases z : S_pl (stv σ 1) 13 k = -1
  · rw [if_pos (by rw [z]; rfl), decide_eq_false (fun w => w z)]
    rfl
  · rw [if_neg (fun w => z (by rw [j_eq, jm1] at w; exact t.symm.trans w)), decide_eq_true z]
    rfl
theorem m_isL {σ : Sg} {V : VW} {X : Nat → Bool} (h : VM (mv (σ.1 463)) V X) {p : Int32} {k : Nat} (hp : p.toInt = k) (hk : k < 12) : fX9_isPlaced σ 462 p = some (plc V k) := by
  rw [m_isPlaced hp hk, h.gr hk]
  rfl
/-- a row of the class's plan -/
theorem s_q {σ : Sg} {j : Nat} (h1 : 1 ≤ j) (h7 : j ≤ 7) (p : Int32) : fX8_at σ (422 + j) 23 p = some (oI (ga (qv σ j) 23 p.toInt)) := by
  rw [s_at (by decide)]
  congr 2
  unfold ga
  by_cases q : 0 ≤ p.toInt ∧ p.toInt < ((23 : Nat) : Int)
  · rw [if_pos q, if_pos q, qv_at h1 h7 (by omega)]
  · rw [if_neg q, if_neg q]
theorem qv_rg (σ : Sg) (j i : Nat) : -2147483648 ≤ qv σ j i ∧ qv σ j i < 2147483648 := by
  unfold qv
  split
  · exact ⟨j_lo _, j_hi _⟩
  · omega
theorem mq_rg (σ : Sg) (j i : Nat) : -2147483648 ≤ mq σ j i ∧ mq σ j i < 2147483648 := by
  unfold mq
  repeat' split
  all_goals first | exact ⟨j_lo _, j_hi _⟩ | omega
theorem s_isShown {σ : Sg} (p : Int32) : fX2_isShown σ 422 p = some (decide (ga (qv σ 1) 23 p.toInt = 1)) := by
  unfold fX2_isShown
  rw [s_q (by decide) (by decide), j_b]
  have t : (oI (ga (qv σ 1) 23 p.toInt)).toInt = ga (qv σ 1) 23 p.toInt := by
    have : -2147483648 ≤ ga (qv σ 1) 23 p.toInt ∧ ga (qv σ 1) 23 p.toInt < 2147483648 := by
      unfold ga
      split
      · exact qv_rg _ _ _
      · omega
    exact j_oI this.1 this.2
  by_cases z : ga (qv σ 1) 23 p.toInt = 1
  · rw [decide_eq_true z, if_pos (by rw [z]; rfl)]
  · rw [decide_eq_false z, if_neg (fun w => z (by rw [j_eq, t, jz1] at w; exact w))]
/-! pane -/
def tlV (S : ST) (k : Nat) (w : Int32) : Int32 :=
  if w = 0 then oI (S_mw S k)
  else if w = 1 then oI (S_mh S k)
  else if w = 2 then oI (v_wo (S_pl S) (S_pl S 13 k))
  else if w = 3 then (if S_pl S 15 k = 1 then 1 else 0)
  else if w = 4 then (if S_pl S 13 k = -1 then 0 else if ga (S_pl S 12) 23 (S_pl S 13 k) = k then 1 else 0)
  else if w = 5 then oI (S_pl S 14 k)
  else if w = 6 then (if S_pl S 13 k = -1 then -1 else oI (v_tc (S_pl S) (S_pl S 13 k)))
  else if w = 7 then (if ga (S_pl S 9) 23 (S_pl S 13 k) = -1 then -1 else oI (ga (S_pl S 11) 23 (S_pl S 13 k)))
  else (if ga (S_pl S 9) 23 (S_pl S 13 k) = -1 then -1 else oI (ga (S_pl S 8) 23 (ga (S_pl S 9) 23 (S_pl S 13 k))))
theorem oi_m1 {x : Int} (h0 : -2147483648 ≤ x) (h1 : x < 2147483648) : oI x = -1 ↔ x = -1 := by
  rw [j_eq, j_oI h0 h1, jm1]
theorem s_told {σ : Sg} {S : ST} (h : stv σ 1 = S) (hS : SI S) {p : Int32} {k : Nat} (hp : p.toInt = k) (hk : k < 12) (hx : exP S p = true) {w : Int32} (hw : 0 ≤ w.toInt ∧ w.toInt ≤ 8) : fX8_pane σ p w = some (.inl (tlV S k w)) ∧ fX8_paneN σ p w = some (tlV S k w) := by
  subst h
  have z8 : (8 : Int32).toInt = 8 := rfl
  have g13 : ga (pv σ (1 + 5) 13) 12 p.toInt = S_pl (stv σ 1) 13 k := by
    rw [hp, ga_in hk]
    rfl
  have g14 : ga (pv σ (1 + 5) 14) 12 p.toInt = S_pl (stv σ 1) 14 k := by
    rw [hp, ga_in hk]
    rfl
  have r13 : -2147483648 ≤ S_pl (stv σ 1) 13 k ∧ S_pl (stv σ 1) 13 k < 2147483648 := pv_rg σ (1 + 5) 13 k
  have t13 : (oI (S_pl (stv σ 1) 13 k)).toInt = S_pl (stv σ 1) 13 k := j_oI r13.1 r13.2
  have a1 : fX8_at σ (1 + 1) 12 p = some (oI (S_mw (stv σ 1) k)) := by
    rw [s_at (by decide), hp, ga_in hk]
    show some (oI (σ.1 2 k).toInt) = some (oI (rw12 (σ.1 2) k))
    rw [rw12_in hk]
  have a2 : fX8_at σ (1 + 2) 12 p = some (oI (S_mh (stv σ 1) k)) := by
    rw [s_at (by decide), hp, ga_in hk]
    show some (oI (σ.1 3 k).toInt) = some (oI (rw12 (σ.1 3) k))
    rw [rw12_in hk]
  have hid : v_hd (pv σ (1 + 5)) p.toInt = decide (S_pl (stv σ 1) 15 k = 1) := by
    rw [hp]
    exact v_hd_in hk
  have rg : ∀ j n x, -2147483648 ≤ ga (pv σ (1 + 5) j) n x ∧ ga (pv σ (1 + 5) j) n x < 2147483648 := fun j n x => ga_rg x
  have nP : fX8_requirePaneN σ p = some () := by
    unfold fX8_requirePaneN
    rw [s_exists hS.1, j_b]
    show (if exP (stv σ 1) p = true then _ else _) = _
    rw [hx, if_pos rfl]
  have nR : fX8_requireRangeN σ w 0 8 = some () := by
    unfold fX8_requireRangeN
    rw [if_neg (by rw [j_lt, jz0]; omega), if_pos (by rw [j_le, z8]; omega)]
  unfold fX8_pane fX8_paneN
  rw [s_reqP hS, j_b, hx, if_pos rfl, j_xl, s_reqR, j_b, jz0, z8, decide_eq_true hw, if_pos rfl, j_xl, s_groupOf, j_b, nP, j_b, nR, j_b, j_b, g13]
  unfold tlV
  by_cases q0 : w = 0
  · rw [if_pos q0, if_pos q0, if_pos q0, a1, j_b, j_b]
    exact ⟨rfl, rfl⟩
  rw [if_neg q0, if_neg q0, if_neg q0]
  by_cases q1 : w = 1
  · rw [if_pos q1, if_pos q1, if_pos q1, a2, j_b, j_b]
    exact ⟨rfl, rfl⟩
  rw [if_neg q1, if_neg q1, if_neg q1]
  by_cases q2 : w = 2
  · rw [if_pos q2, if_pos q2, if_pos q2, s_windowOf, j_b, j_b, t13]
    exact ⟨rfl, rfl⟩
  rw [if_neg q2, if_neg q2, if_neg q2]
  by_cases q3 : w = 3
  · rw [if_pos q3, if_pos q3, if_pos q3, s_isHidden, j_b, j_b, hid]
    by_cases y : S_pl (stv σ 1) 15 k = 1
    · rw [if_pos y, decide_eq_true y]
      exact ⟨rfl, rfl⟩
    · rw [if_neg y, decide_eq_false y]
      exact ⟨rfl, rfl⟩
  rw [if_neg q3, if_neg q3, if_neg q3]
  by_cases q4 : w = 4
  · rw [if_pos q4, if_pos q4, if_pos q4]
    by_cases y : S_pl (stv σ 1) 13 k = -1
    · rw [if_pos y, if_pos ((oi_m1 r13.1 r13.2).mpr y), if_pos ((oi_m1 r13.1 r13.2).mpr y)]
      exact ⟨rfl, rfl⟩
    · have y' := fun z => y ((oi_m1 r13.1 r13.2).mp z)
      rw [if_neg y, if_neg y', if_neg y', s_activeOf, j_b, j_b, t13]
      have tt : (oI (ga (pv σ (1 + 5) 12) 23 (S_pl (stv σ 1) 13 k))).toInt = ga (pv σ (1 + 5) 12) 23 (S_pl (stv σ 1) 13 k) := t_ga
      show (if oI (ga (pv σ (1 + 5) 12) 23 (S_pl (stv σ 1) 13 k)) = p then _ else _) = some (Sum.inl (if ga (pv σ (1 + 5) 12) 23 (S_pl (stv σ 1) 13 k) = k then _ else _)) ∧ (if oI (ga (pv σ (1 + 5) 12) 23 (S_pl (stv σ 1) 13 k)) = p then _ else _) = some (if ga (pv σ (1 + 5) 12) 23 (S_pl (stv σ 1) 13 k) = k then _ else _)
      by_cases u : ga (pv σ (1 + 5) 12) 23 (S_pl (stv σ 1) 13 k) = k
      · have u' : oI (ga (pv σ (1 + 5) 12) 23 (S_pl (stv σ 1) 13 k)) = p := by rw [j_eq, tt, u, hp]
        rw [if_pos u, if_pos u', if_pos u']
        exact ⟨rfl, rfl⟩
      · have u' : ¬ oI (ga (pv σ (1 + 5) 12) 23 (S_pl (stv σ 1) 13 k)) = p := fun z => u (by rw [j_eq, tt, hp] at z; exact z)
        rw [if_neg u, if_neg u', if_neg u']
        exact ⟨rfl, rfl⟩
  rw [if_neg q4, if_neg q4, if_neg q4]
  by_cases q5 : w = 5
  · rw [if_pos q5, if_pos q5, if_pos q5, s_spotOf, j_b, j_b, g14]
    exact ⟨rfl, rfl⟩
  rw [if_neg q5, if_neg q5, if_neg q5]
  by_cases q6 : w = 6
  · rw [if_pos q6, if_pos q6, if_pos q6]
    by_cases y : S_pl (stv σ 1) 13 k = -1
    · rw [if_pos y, if_pos ((oi_m1 r13.1 r13.2).mpr y), if_pos ((oi_m1 r13.1 r13.2).mpr y)]
      exact ⟨rfl, rfl⟩
    · have y' := fun z => y ((oi_m1 r13.1 r13.2).mp z)
      rw [if_neg y, if_neg y', if_neg y', s_tabCount, j_b, j_b, t13]
      exact ⟨rfl, rfl⟩
  rw [if_neg q6, if_neg q6, if_neg q6]
  have tp : (oI (ga (pv σ (1 + 5) 9) 23 (S_pl (stv σ 1) 13 k))).toInt = ga (pv σ (1 + 5) 9) 23 (S_pl (stv σ 1) 13 k) := t_ga
  have yp := oi_m1 (rg 9 23 (S_pl (stv σ 1) 13 k)).1 (rg 9 23 (S_pl (stv σ 1) 13 k)).2
  by_cases q7 : w = 7
  · rw [if_pos q7, if_pos q7, if_pos q7, s_parentOf, j_b, j_b, t13]
    by_cases y : ga (pv σ (1 + 5) 9) 23 (S_pl (stv σ 1) 13 k) = -1
    · rw [if_pos (yp.mpr y), if_pos (yp.mpr y)]
      show _ = some (Sum.inl (if ga (pv σ (1 + 5) 9) 23 (S_pl (stv σ 1) 13 k) = -1 then _ else _)) ∧ _ = some (if ga (pv σ (1 + 5) 9) 23 (S_pl (stv σ 1) 13 k) = -1 then _ else _)
      rw [if_pos y]
      exact ⟨rfl, rfl⟩
    · rw [if_neg (fun z => y (yp.mp z)), if_neg (fun z => y (yp.mp z)), s_weightOf, j_b, j_b, t13]
      show _ = some (Sum.inl (if ga (pv σ (1 + 5) 9) 23 (S_pl (stv σ 1) 13 k) = -1 then _ else _)) ∧ _ = some (if ga (pv σ (1 + 5) 9) 23 (S_pl (stv σ 1) 13 k) = -1 then _ else _)
      rw [if_neg y]
      exact ⟨rfl, rfl⟩
  · rw [if_neg q7, if_neg q7, if_neg q7, s_parentOf, t13]
    simp only [j_b]
    by_cases y : ga (pv σ (1 + 5) 9) 23 (S_pl (stv σ 1) 13 k) = -1
    · rw [if_pos (yp.mpr y), if_pos (yp.mpr y)]
      show _ = some (Sum.inl (if ga (pv σ (1 + 5) 9) 23 (S_pl (stv σ 1) 13 k) = -1 then _ else _)) ∧ _ = some (if ga (pv σ (1 + 5) 9) 23 (S_pl (stv σ 1) 13 k) = -1 then _ else _)
      rw [if_pos y]
      exact ⟨rfl, rfl⟩
    · rw [if_neg (fun z => y (yp.mp z)), if_neg (fun z => y (yp.mp z)), s_kindOf, tp]
      simp only [j_b]
      show _ = some (Sum.inl (if ga (pv σ (1 + 5) 9) 23 (S_pl (stv σ 1) 13 k) = -1 then _ else _)) ∧ _ = some (if ga (pv σ (1 + 5) 9) 23 (S_pl (stv σ 1) 13 k) = -1 then _ else _)
      rw [if_neg y]
      exact ⟨rfl, rfl⟩
theorem m_told {σ : Sg} {S : ST} (h : SM (mv (σ.1 463)) S) (hS : SI S) {p : Int32} {k : Nat} (hp : p.toInt = k) (hk : k < 12) (hx : exP S p = true) {w : Int32} (hw : 0 ≤ w.toInt ∧ w.toInt ≤ 8) : fX9_told σ 462 p w = some (tlV S k w) := by
  obtain ⟨s1, s2, s3, s4⟩ := h
  obtain ⟨-, -, -, -, ⟨d, wn, t, tb, lo, ge⟩, -, -⟩ := hS
  have ek : exB S k = true := by
    obtain ⟨k', h1, h2, h3⟩ := exP_n hx
    have : k' = k := by omega
    rw [← this]
    exact h3
  obtain ⟨e7, e8⟩ := (s1 k hk).2 ek
  have g9 := s2.gr hk
  have r13 : -2147483648 ≤ S_pl S 13 k ∧ S_pl S 13 k < 2147483648 := by rw [← g9]; exact mv_rg _ _ _
  have y13 := oi_m1 r13.1 r13.2
  unfold fX9_told
  rw [m_o3 hp hk, j_b, g9]
  rcases tb.gr hk with z | ⟨g, hg, eg, kg⟩
  · rw [if_pos (y13.mpr z)]
    unfold fX9_told_17 fX9_told_38 fX9_told_39 tlV
    rw [if_pos rfl, m_o1 hp hk, m_o2 hp hk, j_b, j_b, e7, e8]
    obtain ⟨n14, n15⟩ := tb.no hk z
    rw [z, n14, n15, v_wo_m1, if_pos rfl, if_pos rfl]
    simp only [ga_m1, if_true, show ¬ (0 : Int) = 1 from by decide, if_false]
    by_cases q0 : w = 0
    · rw [if_pos q0, if_pos q0]
    rw [if_neg q0, if_neg q0]
    by_cases q1 : w = 1
    · rw [if_pos q1, if_pos q1]
    rw [if_neg q1, if_neg q1]
    by_cases q2 : w = 2
    · rw [if_pos q2, if_pos q2]
      rfl
    rw [if_neg q2, if_neg q2]
    by_cases q3 : w = 3
    · rw [if_pos q3, if_pos q3]
    rw [if_neg q3, if_neg q3]
    by_cases q4 : w = 4
    · rw [if_pos q4, if_pos q4]
    rw [if_neg q4, if_neg q4]
    by_cases q5 : w = 5
    · rw [if_pos q5, if_pos q5]
      rfl
    rw [if_neg q5, if_neg q5]
    by_cases q6 : w = 6
    · rw [if_pos q6, if_pos q6]
    rw [if_neg q6, if_neg q6]
    by_cases q7 : w = 7
    · rw [if_pos q7, if_pos q7]
    rw [if_neg q7, if_neg q7]
  · have ng : S_pl S 13 k ≠ -1 := by omega
    have ng' : ¬ oI (S_pl S 13 k) = -1 := fun y => ng (y13.mp y)
    rw [if_neg ng']
    have ei : (oI (S_pl S 13 k)).toInt = g := by rw [j_oI r13.1 r13.2, eg]
    have u3 : S_pl S 8 g ≠ 3 := by omega
    have e1 := s2.pa hg u3
    have n10 : ¬ (1 : Int32) = 0 := by decide
    unfold fX9_told_17
    rw [if_neg n10, m_i1 ei (by omega), j_b, e1]
    have r9 : -2147483648 ≤ S_pl S 9 g ∧ S_pl S 9 g < 2147483648 := by rw [← e1]; exact mv_rg _ _ _
    have y9 := oi_m1 r9.1 r9.2
    -- what does not hang on the parent
    have base : ∀ s0 : Int32, (w = 7 → (if s0 = 0 then some (-1) else (fX9_its σ 462 (oI (S_pl S 13 k)) 3).bind fun r10 => some r10) = some (tlV S k w)) → (¬ w = 7 → ¬ w = 0 → ¬ w = 1 → ¬ w = 2 → ¬ w = 3 → ¬ w = 4 → ¬ w = 5 → ¬ w = 6 → (if s0 = 0 then some (-1) else (fX9_its σ 462 (oI (S_pl S 13 k)) 1).bind fun r11 => (fX9_its σ 462 r11 2).bind fun r12 => some r12) = some (tlV S k w)) → fX9_told_39 σ 462 p w (oI (S_pl S 13 k)) 1 s0 = some (tlV S k w) := fun s0 h7 h8 => by
      unfold fX9_told_39
      by_cases q7 : w = 7
      · have a := h7 q7
        have e7 : ∀ x : Int32, w = x → x = 7 := fun x y => by rw [← y]; exact q7
        rw [if_neg (fun y => absurd (e7 _ y) (by decide)), if_neg (fun y => absurd (e7 _ y) (by decide)), if_neg (fun y => absurd (e7 _ y) (by decide)), if_neg (fun y => absurd (e7 _ y) (by decide)), if_neg (fun y => absurd (e7 _ y) (by decide)), if_neg (fun y => absurd (e7 _ y) (by decide)), if_neg (fun y => absurd (e7 _ y) (by decide)), if_pos q7]
        exact a
      by_cases q0 : w = 0
      · unfold tlV
        rw [if_pos q0, if_pos q0, m_o1 hp hk, j_b, e7]
      rw [if_neg q0]
      by_cases q1 : w = 1
      · unfold tlV
        rw [if_pos q1, if_neg q0, if_pos q1, m_o2 hp hk, j_b, e8]
      rw [if_neg q1]
      by_cases q2 : w = 2
      · unfold tlV
        rw [if_pos q2, if_neg q0, if_neg q1, if_pos q2, if_neg n10, m_windowOf s2 t ei hg u3, j_b, eg, t.wo hg u3]
      rw [if_neg q2]
      by_cases q3 : w = 3
      · unfold tlV
        rw [if_pos q3, if_neg q0, if_neg q1, if_neg q2, if_pos q3, if_neg n10, m_o5 hp hk, j_b, s2.hi hk]
        rcases tb.hi hk with y | y
        · rw [y]; rfl
        · rw [y]; rfl
      rw [if_neg q3]
      by_cases q4 : w = 4
      · unfold tlV
        have ac := s2.ac hg kg rfl
        rw [if_pos q4, if_neg q0, if_neg q1, if_neg q2, if_neg q3, if_pos q4, if_neg n10, if_neg ng, m_i5 ei (by omega), j_b, ac, eg, ga_in hg]
        have r12 : -2147483648 ≤ S_pl S 12 g ∧ S_pl S 12 g < 2147483648 := by rw [← ac]; exact mv_rg _ _ _
        by_cases u : S_pl S 12 g = k
        · rw [if_pos u, if_pos (by rw [j_eq, j_oI r12.1 r12.2, u, hp])]
        · rw [if_neg u, if_neg (fun y => u (by rw [j_eq, j_oI r12.1 r12.2, hp] at y; exact y))]
      rw [if_neg q4]
      by_cases q5 : w = 5
      · unfold tlV
        rw [if_pos q5, if_neg q0, if_neg q1, if_neg q2, if_neg q3, if_neg q4, if_pos q5, if_neg n10, m_o4 hp hk, j_b, s2.sp hk ng]
      rw [if_neg q5]
      by_cases q6 : w = 6
      · unfold tlV
        rw [if_pos q6, if_neg q0, if_neg q1, if_neg q2, if_neg q3, if_neg q4, if_neg q5, if_pos q6, if_neg n10, if_neg ng, m_tabMany, j_b, ei, eg, s2.tc]
      rw [if_neg q6, if_neg q7]
      exact h8 q7 q0 q1 q2 q3 q4 q5 q6
    by_cases z : S_pl S 9 g = -1
    · rw [if_pos (y9.mpr z)]
      refine base 0 (fun q7 => ?_) (fun q7 q0 q1 q2 q3 q4 q5 q6 => ?_)
      · rw [if_pos rfl]
        subst q7
        unfold tlV
        rw [if_neg (by decide), if_neg (by decide), if_neg (by decide), if_neg (by decide), if_neg (by decide), if_neg (by decide), if_neg (by decide), if_pos rfl, eg, ga_in hg, if_pos z]
      · rw [if_pos rfl]
        unfold tlV
        rw [if_neg q0, if_neg q1, if_neg q2, if_neg q3, if_neg q4, if_neg q5, if_neg q6, if_neg q7, eg, ga_in hg, if_pos z]
    · obtain ⟨s, hs23, es, ks, -, -⟩ := t.pa hg z
      rw [if_neg (fun y => z (y9.mp y))]
      refine base 1 (fun q7 => ?_) (fun q7 q0 q1 q2 q3 q4 q5 q6 => ?_)
      · rw [if_neg n10, m_i3 ei (by omega), j_b, s2.we hg z]
        subst q7
        unfold tlV
        rw [if_neg (by decide), if_neg (by decide), if_neg (by decide), if_neg (by decide), if_neg (by decide), if_neg (by decide), if_neg (by decide), if_pos rfl, eg, ga_in hg, if_neg z, ga_in hg]
      · have e9 : (oI (S_pl S 9 g)).toInt = s := by rw [j_oI r9.1 r9.2, es]
        rw [if_neg n10, m_i1 ei (by omega), j_b, e1, m_i2 e9 (by omega), j_b, (s2.k1 hs23 ks).2]
        unfold tlV
        rw [if_neg q0, if_neg q1, if_neg q2, if_neg q3, if_neg q4, if_neg q5, if_neg q6, if_neg q7, eg, ga_in hg, if_neg z, es, ga_in hs23]
end RA3
end
section
/-! THE RELATION: what the calls tell (2) -/
section RA4
theorem m_ly {σ : Sg} {S : ST} {l : List ST} (h : MR σ S l) (hS : SI S) : ∃ σ', fX9_lays σ 462 = some σ' ∧ F9 σ σ' ∧ MR σ' S l ∧ σ'.1 463 = σ.1 463 ∧ Lay (S_pl S) (S_mw S) (S_mh S) (mq σ') := by
  obtain ⟨h1, h2, h3, h4, ⟨d, wn, t, tb, lo, ge⟩, h6, h7⟩ := hS
  obtain ⟨σ', a, b, c⟩ := m_lays (σ := σ) (mw := S_mw S) (mh := S_mh S) h.2.2.1 t ge (fun p hp z => (h.2.1 p hp).2 (h4 p hp z)) (fun p hp => (h3 p hp).1) (fun p hp => (h3 p hp).2.1)
  have e : σ'.1 463 = σ.1 463 := b.2.1 463 (by omega) (by omega)
  exact ⟨σ', a, F9.fy b, h.c (b.2.2 2 (by omega)) e (b.2.1 464 (by omega) (by omega)), e, c⟩
theorem lay_eq {S : ST} {P Q : VW} (hS : SI S) (hP : Lay (S_pl S) (S_mw S) (S_mh S) P) (hQ : Lay (S_pl S) (S_mw S) (S_mh S) Q) {n : Nat} (hn : n < 23) (hu : S_pl S 8 n ≠ 3) : P 1 n = Q 1 n ∧ (P 1 n = 1 → ∀ j, 2 ≤ j → j ≤ 7 → P j n = Q j n) := by
  obtain ⟨h1, h2, h3, h4, ⟨d, wn, t, tb, lo, ge⟩, h6, h7⟩ := hS
  obtain ⟨a, b⟩ := Lay.u1 t hP hQ 22 n (by omega) hn hu
  have c := Lay.u2 t hP hQ 22 n (t.dqs hn hu).1 hn hu
  refine ⟨a, fun q j j2 j7 => ?_⟩
  obtain ⟨b2, b3⟩ := b q
  obtain ⟨c4, c5, c6, c7⟩ := c q
  have : j = 2 ∨ j = 3 ∨ j = 4 ∨ j = 5 ∨ j = 6 ∨ j = 7 := by omega
  rcases this with rfl | rfl | rfl | rfl | rfl | rfl
  · exact b2
  · exact b3
  · exact c4
  · exact c5
  · exact c6
  · exact c7
def lyV (P : VW) (S : ST) (k j : Nat) : Int32 := if ga (P 1) 23 (S_pl S 13 k) = 1 then oI (ga (P (4 + j)) 23 (S_pl S 13 k)) else -1
theorem ly_eq {S : ST} {P Q : VW} (hS : SI S) (hP : Lay (S_pl S) (S_mw S) (S_mh S) P) (hQ : Lay (S_pl S) (S_mw S) (S_mh S) Q) {k j : Nat} (hk : k < 12) (hj : j ≤ 3) : lyV P S k j = lyV Q S k j := by
  unfold lyV
  have tb : Tabs (S_pl S) (fun _ => false) := by
    obtain ⟨h1, h2, h3, h4, ⟨d, wn, t, tb, lo, ge⟩, h6, h7⟩ := hS
    exact tb
  rcases tb.gr hk with z | ⟨g, hg, eg, kg⟩
  · rw [z, ga_m1 (f := P 1), ga_m1 (f := Q 1), if_neg (by decide), if_neg (by decide)]
  · obtain ⟨a, b⟩ := lay_eq hS hP hQ hg (by omega)
    rw [eg, ga_in hg, ga_in hg, ga_in hg, ga_in hg, a]
    by_cases q : Q 1 g = 1
    · rw [if_pos q, if_pos q, b (by rw [a]; exact q) (4 + j) (by omega) (by omega)]
    · rw [if_neg q, if_neg q]
def wj (w : Int32) : Nat := if w = 0 then 0 else if w = 1 then 1 else if w = 2 then 2 else 3
theorem wj_eq {w : Int32} (h : 0 ≤ w.toInt ∧ w.toInt ≤ 3) : w.toInt = wj w ∧ wj w ≤ 3 := by
  have : w.toInt = 0 ∨ w.toInt = 1 ∨ w.toInt = 2 ∨ w.toInt = 3 := by omega
  rcases this with z | z | z | z
  · have : w = 0 := j_eq.mpr z
    subst this
    exact ⟨rfl, by decide⟩
  · have : w = 1 := j_eq.mpr z
    subst this
    exact ⟨rfl, by decide⟩
  · have : w = 2 := j_eq.mpr z
    subst this
    exact ⟨rfl, by decide⟩
  · have : w = 3 := j_eq.mpr z
    subst this
    exact ⟨rfl, by decide⟩
theorem s_rect {σ : Sg} {S : ST} (h : stv σ 1 = S) (hS : SI S) {p : Int32} {k : Nat} (hp : p.toInt = k) (hk : k < 12) (hx : exP S p = true) {w : Int32} (hw : 0 ≤ w.toInt ∧ w.toInt ≤ 3) : fX8_rectangle σ p w = some (.inl (lyV (qv σ) S k (wj w))) ∧ fX8_rectangleN σ p w = some (lyV (qv σ) S k (wj w)) := by
  subst h
  have z3 : (3 : Int32).toInt = 3 := rfl
  have g13 : ga (pv σ (1 + 5) 13) 12 p.toInt = S_pl (stv σ 1) 13 k := by
    rw [hp, ga_in hk]
    rfl
  have r13 : -2147483648 ≤ S_pl (stv σ 1) 13 k ∧ S_pl (stv σ 1) 13 k < 2147483648 := pv_rg σ (1 + 5) 13 k
  have t13 : (oI (S_pl (stv σ 1) 13 k)).toInt = S_pl (stv σ 1) 13 k := j_oI r13.1 r13.2
  have nP : fX8_requirePaneN σ p = some () := by
    unfold fX8_requirePaneN
    rw [s_exists hS.1, j_b]
    show (if exP (stv σ 1) p = true then _ else _) = _
    rw [hx, if_pos rfl]
  have nR : fX8_requireRangeN σ w 0 3 = some () := by
    unfold fX8_requireRangeN
    rw [if_neg (by rw [j_lt, jz0]; omega), if_pos (by rw [j_le, z3]; omega)]
  unfold fX8_rectangle fX8_rectangleN
  rw [s_reqP hS, j_b, hx, if_pos rfl, j_xl, s_reqR, j_b, jz0, z3, decide_eq_true hw, if_pos rfl, j_xl, s_groupOf, j_b, nP, j_b, nR, j_b, j_b, g13, s_isShown, j_b, j_b, t13]
  unfold lyV wj
  by_cases q : ga (qv σ 1) 23 (S_pl (stv σ 1) 13 k) = 1
  · rw [if_pos q, decide_eq_true q, if_pos rfl, if_pos rfl]
    unfold fX2_leftOf fX2_topOf fX2_columnsOf fX2_rowsOf
    rw [s_q (j := 4) (by decide) (by decide), s_q (j := 5) (by decide) (by decide), s_q (j := 6) (by decide) (by decide), s_q (j := 7) (by decide) (by decide), t13]
    simp only [j_b]
    by_cases q0 : w = 0
    · rw [if_pos q0, if_pos q0, if_pos q0]
      exact ⟨rfl, rfl⟩
    rw [if_neg q0, if_neg q0, if_neg q0]
    by_cases q1 : w = 1
    · rw [if_pos q1, if_pos q1, if_pos q1]
      exact ⟨rfl, rfl⟩
    rw [if_neg q1, if_neg q1, if_neg q1]
    by_cases q2 : w = 2
    · rw [if_pos q2, if_pos q2, if_pos q2]
      exact ⟨rfl, rfl⟩
    rw [if_neg q2, if_neg q2, if_neg q2]
    exact ⟨rfl, rfl⟩
  · rw [if_neg q, decide_eq_false q]
    exact ⟨rfl, rfl⟩
theorem m_corner {σ : Sg} {S : ST} (h : SM (mv (σ.1 463)) S) (hS : SI S) (hL : Lay (S_pl S) (S_mw S) (S_mh S) (mq σ)) {p : Int32} {k : Nat} (hp : p.toInt = k) (hk : k < 12) {w : Int32} (hw : 0 ≤ w.toInt ∧ w.toInt ≤ 3) : fX9_cornerOf σ 462 p w = some (lyV (mq σ) S k (wj w)) := by
  obtain ⟨s1, s2, s3, s4⟩ := h
  obtain ⟨-, -, -, -, ⟨d, wn, t, tb, lo, ge⟩, -, -⟩ := hS
  obtain ⟨ew, wl⟩ := wj_eq hw
  have ew' : w = nI (wj w) := j_eq.mpr (by rw [ew, j_nI (by omega)])
  unfold fX9_cornerOf
  rw [m_isL s2 hp hk, j_b, m_o3 hp hk, j_b, s2.gr hk, j_b]
  unfold lyV plc
  rcases tb.gr hk with z | ⟨g, hg, eg, kg⟩
  · rw [z, ga_m1, if_neg (by decide), if_neg (by decide)]
  · rw [eg, decide_eq_true (by omega), if_pos rfl, ← j_nIo g (by omega), if_pos (j_ckn (by omega) (by decide)), j_cl _ (by omega), ga_in hg, ga_in hg, show (462 + 5 : Nat) = 467 from rfl]
    have b01 := (hL.1 g hg kg).1
    have e4 : (4 : Int32) * nI g + w = nI (4 * g + wj w) := by
      rw [ew', show (4 : Int32) * nI g = nI (4 * g) from (Int32.ofNat_mul 4 g).symm, j_a, ← ew']
    by_cases q : mq σ 1 g = 1
    · have n0 : ¬ σ.1 467 g = 0 := fun y => by
        rw [mq1 (by omega), y, jz0] at q
        omega
      rw [if_pos q, if_neg n0, e4, if_pos (j_ckn (by omega) (by decide)), j_cl _ (by omega), mqR (by omega) wl, j_oIt]
    · have z0 : σ.1 467 g = 0 := by
        refine j_eq.mpr ?_
        rw [mq1 (by omega)] at q b01
        rw [jz0]
        omega
      rw [if_neg q, if_pos z0]
/-! the calls -/
theorem pi_q {σ : Sg} {F : Option (Int32 × Sg)} {G : Sg → Option (Int32 × Sg)} {v : Int32} {S : ST} {l : List ST} (c : CR σ S l) (tx : TX σ) (m : MR σ S l) (hF : F = some (0, sul σ 476 0 v.toInt64)) (hG : ∀ s, MR s S l → ∃ s', G s = some (v, s') ∧ G9 s s' 0 ∧ MR s' S l) : PI F G :=
  pi_ok tx m hF (fun _ _ => rfl) c hG
theorem c_pane {σ : Sg} (h : RR σ) (p w : Int32) : PI (fL_pane σ p w 476 1) (fun s => fX9_pane s 462 p w) := by
  obtain ⟨S, l, c, m, tx⟩ := h
  have h1 := c.1
  have hS := c.2.2.1
  have hR : RR σ := ⟨S, l, c, m, tx⟩
  have z8 : (8 : Int32).toInt = 8 := rfl
  cases q : exP S p
  · refine pi_no (k := 1) (b := 0) hR ?_ (by decide) ?_
    · unfold fL_pane fX8_pane
      rw [s_reqP (by rw [h1]; exact hS), h1, q]
      rfl
    · show fX9_pane σ 462 p w = _
      unfold fX9_pane fX9_pane_28
      rw [m_isP m.2, j_b, q, rf1]
      rfl
  · by_cases hw : 0 ≤ w.toInt ∧ w.toInt ≤ 8
    · obtain ⟨k, hk, hk12, ek⟩ := exP_n q
      refine pi_q (v := tlV S k w) c tx m ?_ (fun s ms => ⟨su s 462 3 0, ?_, G9.s3, ms.s3⟩)
      · unfold fL_pane
        rw [(s_told h1 hS hk hk12 q hw).1, j_b, j_xl, if_pos (by decide), j_nm]
        rfl
      · show fX9_pane s 462 p w = _
        unfold fX9_pane fX9_pane_28
        rw [m_isP ms.2, j_b, q, if_pos rfl, m_within, j_b, jz0, z8, decide_eq_true hw, if_pos rfl, rf0, j_b]
        show (fX9_told (su s 462 3 0) 462 p w).bind _ = _
        rw [m_told (σ := su s 462 3 0) ms.s3.2 hS hk hk12 q hw, j_b]
    · refine pi_no (k := 2) (b := 0) hR ?_ (by decide) ?_
      · unfold fL_pane fX8_pane
        rw [s_reqP (by rw [h1]; exact hS), h1, q, j_b, if_pos rfl, j_xl, s_reqR, j_b, jz0, z8, decide_eq_false hw]
        rfl
      · show fX9_pane σ 462 p w = _
        unfold fX9_pane fX9_pane_28
        rw [m_isP m.2, j_b, q, if_pos rfl, m_within, j_b, jz0, z8, decide_eq_false hw, rf2]
        rfl
theorem c_rectangle {σ : Sg} (h : RR σ) (p w : Int32) : PI (fL_rectangle σ p w 476 1) (fun s => fX9_rectangle s 462 p w) := by
  obtain ⟨S, l, c, m, tx⟩ := h
  have h1 := c.1
  have hS := c.2.2.1
  have hR : RR σ := ⟨S, l, c, m, tx⟩
  have z3 : (3 : Int32).toInt = 3 := rfl
  cases q : exP S p
  · refine pi_no (k := 1) (b := 0) hR ?_ (by decide) ?_
    · unfold fL_rectangle fX8_rectangle
      rw [s_reqP (by rw [h1]; exact hS), h1, q]
      rfl
    · show fX9_rectangle σ 462 p w = _
      unfold fX9_rectangle fX9_rectangle_27
      rw [m_isP m.2, j_b, q, rf1]
      rfl
  · by_cases hw : 0 ≤ w.toInt ∧ w.toInt ≤ 3
    · obtain ⟨k, hk, hk12, ek⟩ := exP_n q
      refine pi_q (v := lyV (qv σ) S k (wj w)) c tx m ?_ (fun s ms => ?_)
      · unfold fL_rectangle
        rw [(s_rect h1 hS hk hk12 q hw).1, j_b, j_xl, if_pos (by decide), j_nm]
        rfl
      · obtain ⟨s1, a1, f1, m1, e1, L1⟩ := m_ly (ms.s3 (k := 0)) hS
        refine ⟨s1, ?_, G9.s3.tr f1, m1⟩
        show fX9_rectangle s 462 p w = _
        unfold fX9_rectangle fX9_rectangle_27
        rw [m_isP ms.2, j_b, q, if_pos rfl, m_within, j_b, jz0, z3, decide_eq_true hw, if_pos rfl, rf0, j_b]
        show (fX9_lays (su s 462 3 0) 462).bind _ = _
        rw [a1, j_b, m_corner m1.2 hS L1 hk hk12 hw, j_b, ly_eq hS L1 c.2.2.2.2.1 hk12 (wj_eq hw).2]
    · refine pi_no (k := 2) (b := 0) hR ?_ (by decide) ?_
      · unfold fL_rectangle fX8_rectangle
        rw [s_reqP (by rw [h1]; exact hS), h1, q, j_b, if_pos rfl, j_xl, s_reqR, j_b, jz0, z3, decide_eq_false hw]
        rfl
      · show fX9_rectangle σ 462 p w = _
        unfold fX9_rectangle fX9_rectangle_27
        rw [m_isP m.2, j_b, q, if_pos rfl, m_within, j_b, jz0, z3, decide_eq_false hw, rf2]
        rfl
theorem c_tab {σ : Sg} (h : RR σ) (p w : Int32) : PI (fL_tab σ p w 476 1) (fun s => fX9_tab s 462 p w) := by
  obtain ⟨S, l, c, m, tx⟩ := h
  have h1 := c.1
  have hS := c.2.2.1
  have hR : RR σ := ⟨S, l, c, m, tx⟩
  cases q : exP S p
  · refine pi_no (k := 1) (b := 0) hR ?_ (by decide) ?_
    · unfold fL_tab fX8_tab
      rw [s_reqP (by rw [h1]; exact hS), h1, q]
      rfl
    · show fX9_tab σ 462 p w = _
      unfold fX9_tab fX9_tab_14
      rw [m_isP m.2, j_b, q, rf1]
      rfl
  · obtain ⟨k, hk, hk12, ek⟩ := exP_n q
    have r13 : -2147483648 ≤ S_pl S 13 k ∧ S_pl S 13 k < 2147483648 := by rw [← h1]; exact pv_rg σ (1 + 5) 13 k
    have t13 : (oI (S_pl S 13 k)).toInt = S_pl S 13 k := j_oI r13.1 r13.2
    refine pi_q (v := oI (v_ta (S_pl S) (S_pl S 13 k) w.toInt)) c tx m ?_ (fun s ms => ⟨su s 462 3 0, ?_, G9.s3, ms.s3⟩)
    · unfold fL_tab fX8_tab
      rw [s_reqP (by rw [h1]; exact hS), h1, q, j_b, if_pos rfl, j_xl, s_groupOf, j_b, hk, ga_in hk12]
      have : pv σ (1 + 5) = S_pl S := by rw [← h1]; rfl
      rw [s_tabAt, j_b, this, t13, j_b, j_xl, if_pos (by decide), j_nm]
      rfl
    · show fX9_tab s 462 p w = _
      unfold fX9_tab fX9_tab_14
      rw [m_isP ms.2, j_b, q, if_pos rfl, rf0, j_b]
      show (fX9_isPlaced (su s 462 3 0) 462 p).bind _ = _
      have sm := (ms.s3 (k := 0)).2.2.1
      rw [m_isL sm hk hk12, j_b]
      unfold plc
      by_cases z : S_pl S 13 k = -1
      · rw [decide_eq_false (fun y => y z), z]
        rfl
      · rw [decide_eq_true z, if_pos rfl, m_o3 hk hk12, j_b, m_tabAt, j_b, sm.gr hk12, t13, sm.ta z]
end RA4
end
section
/-! THE RELATION: what the calls tell (3): windows, panes, orders; setMinimum -/
section RA5
def wtV (P : VW) (S : ST) (k : Nat) (w : Int32) : Int32 :=
  if w = 0 then oI (S_pl S 1 k)
  else if w = 1 then oI (S_pl S 2 k)
  else if w = 2 then oI (S_pl S 3 k)
  else if w = 3 then oI (S_pl S 4 k)
  else if w = 4 then oI (v_pi (S_pl S) k)
  else if w = 5 then (if ga (P 1) 23 (S_pl S 5 k) = 1 then oI (ga (P 2) 23 (S_pl S 5 k)) else 0)
  else if w = 6 then (if ga (P 1) 23 (S_pl S 5 k) = 1 then oI (ga (P 3) 23 (S_pl S 5 k)) else 0)
  else oI (o_ix (odp (S_pl S)) k)
theorem wt_eq {S : ST} {P Q : VW} (hS : SI S) (hP : Lay (S_pl S) (S_mw S) (S_mh S) P) (hQ : Lay (S_pl S) (S_mw S) (S_mh S) Q) {k : Nat} (hk : k < 5) (w : Int32) : wtV P S k w = wtV Q S k w := by
  have t : ∃ d wn, Tree (S_pl S) d wn (fun _ => false) := by
    obtain ⟨h1, h2, h3, h4, ⟨d, wn, t, tb, lo, ge⟩, h6, h7⟩ := hS
    exact ⟨d, wn, t⟩
  obtain ⟨d, wn, t⟩ := t
  have key : ∀ j, 2 ≤ j → j ≤ 7 → (if ga (P 1) 23 (S_pl S 5 k) = 1 then oI (ga (P j) 23 (S_pl S 5 k)) else (0 : Int32)) = if ga (Q 1) 23 (S_pl S 5 k) = 1 then oI (ga (Q j) 23 (S_pl S 5 k)) else 0 := fun j j2 j7 => by
    rcases t.wi hk with z | ⟨g, hg, eg, ug, -⟩
    · rw [z, ga_m1 (f := P 1), ga_m1 (f := Q 1), if_neg (by decide), if_neg (by decide)]
    · obtain ⟨a, b⟩ := lay_eq hS hP hQ hg ug
      rw [eg, ga_in hg, ga_in hg, ga_in hg, ga_in hg, a]
      by_cases q : Q 1 g = 1
      · rw [if_pos q, if_pos q, b (by rw [a]; exact q) j j2 j7]
      · rw [if_neg q, if_neg q]
  unfold wtV
  rw [key 2 (by omega) (by omega), key 3 (by omega) (by omega)]
theorem s_wtold {σ : Sg} {S : ST} (h : stv σ 1 = S) (hS : SI S) {p : Int32} {k : Nat} (hp : p.toInt = k) (hk : k < 5) (hx : v_we (S_pl S) p.toInt = true) {w : Int32} (hw : 0 ≤ w.toInt ∧ w.toInt ≤ 7) : fX8_window σ p w = some (.inl (wtV (qv σ) S k w)) ∧ fX8_windowN σ p w = some (wtV (qv σ) S k w) := by
  subst h
  have z7 : (7 : Int32).toInt = 7 := rfl
  have lo : OkO (odv σ (1 + 5 + 6)) := by
    obtain ⟨h1, h2, h3, h4, ⟨d, wn, t, tb, lo, ge⟩, h6, h7⟩ := hS
    rw [← odp_odv]
    exact lo.ok (by decide)
  have nW : fX8_requireWindowN σ p = some () := by
    unfold fX8_requireWindowN
    rw [s_windowExists, j_b]
    show (if v_we (S_pl (stv σ 1)) p.toInt = true then _ else _) = _
    rw [hx, if_pos rfl]
  have nR : fX8_requireRangeN σ w 0 7 = some () := by
    unfold fX8_requireRangeN
    rw [if_neg (by rw [j_lt, jz0]; omega), if_pos (by rw [j_le, z7]; omega)]
  have g5 : ga (pv σ (1 + 5) 5) 5 p.toInt = S_pl (stv σ 1) 5 k := by
    rw [hp, ga_in hk]
    rfl
  have r5 : -2147483648 ≤ S_pl (stv σ 1) 5 k ∧ S_pl (stv σ 1) 5 k < 2147483648 := pv_rg σ (1 + 5) 5 k
  have t5 : (oI (S_pl (stv σ 1) 5 k)).toInt = S_pl (stv σ 1) 5 k := j_oI r5.1 r5.2
  unfold fX8_window fX8_windowN
  rw [s_reqW, hx, j_b, if_pos rfl, j_xl, s_reqR, j_b, jz0, z7, decide_eq_true hw, if_pos rfl, j_xl, s_rootOf, j_b, nW, j_b, nR, j_b, j_b, g5]
  unfold wtV fX2_minimumOf fX2_minimumOf_15
  rw [if_pos rfl, if_neg (show ¬ (1 : Int32) = 0 by decide), s_v1, s_v2, s_v3, s_v4, s_panesIn, s_isShown, show (422 + 2 : Nat) = 422 + 2 from rfl, s_q (j := 2) (by decide) (by decide), s_q (j := 3) (by decide) (by decide), s_indexOf lo, ← odp_odv, t5, hp, ga_in hk, ga_in hk, ga_in hk, ga_in hk]
  simp only [j_b]
  by_cases q0 : w = 0
  · rw [if_pos q0, if_pos q0, if_pos q0]
    exact ⟨rfl, rfl⟩
  rw [if_neg q0, if_neg q0, if_neg q0]
  by_cases q1 : w = 1
  · rw [if_pos q1, if_pos q1, if_pos q1]
    exact ⟨rfl, rfl⟩
  rw [if_neg q1, if_neg q1, if_neg q1]
  by_cases q2 : w = 2
  · rw [if_pos q2, if_pos q2, if_pos q2]
    exact ⟨rfl, rfl⟩
  rw [if_neg q2, if_neg q2, if_neg q2]
  by_cases q3 : w = 3
  · rw [if_pos q3, if_pos q3, if_pos q3]
    exact ⟨rfl, rfl⟩
  rw [if_neg q3, if_neg q3, if_neg q3]
  by_cases q4 : w = 4
  · rw [if_pos q4, if_pos q4, if_pos q4]
    exact ⟨rfl, rfl⟩
  rw [if_neg q4, if_neg q4, if_neg q4]
  by_cases y : ga (qv σ 1) 23 (S_pl (stv σ 1) 5 k) = 1
  · rw [decide_eq_true y, if_pos rfl, if_pos rfl, if_pos rfl, if_pos rfl, if_pos y, if_pos y]
    by_cases q5 : w = 5
    · rw [if_pos q5, if_pos q5, if_pos q5]
      exact ⟨rfl, rfl⟩
    rw [if_neg q5, if_neg q5, if_neg q5]
    by_cases q6 : w = 6
    · rw [if_pos q6, if_pos q6, if_pos q6]
      exact ⟨rfl, rfl⟩
    rw [if_neg q6, if_neg q6, if_neg q6]
    exact ⟨rfl, rfl⟩
  · rw [decide_eq_false y, if_neg y, if_neg y]
    simp only [Bool.false_eq_true, if_false]
    by_cases q5 : w = 5
    · rw [if_pos q5, if_pos q5, if_pos q5]
      exact ⟨rfl, rfl⟩
    rw [if_neg q5, if_neg q5, if_neg q5]
    by_cases q6 : w = 6
    · rw [if_pos q6, if_pos q6, if_pos q6]
      exact ⟨rfl, rfl⟩
    rw [if_neg q6, if_neg q6, if_neg q6]
    exact ⟨rfl, rfl⟩
theorem m_wtold {σ : Sg} {S : ST} (h : SM (mv (σ.1 463)) S) (hS : SI S) (hL : Lay (S_pl S) (S_mw S) (S_mh S) (mq σ)) {p : Int32} {k : Nat} (hp : p.toInt = k) (hk : k < 5) (hx : v_we (S_pl S) p.toInt = true) {w : Int32} (hw : 0 ≤ w.toInt ∧ w.toInt ≤ 7) : fX9_windowTold σ 462 p w = some (wtV (mq σ) S k w) := by
  obtain ⟨s1, s2, s3, s4⟩ := h
  have hSI := hS
  obtain ⟨-, -, -, -, ⟨d, wn, t, tb, lo, ge⟩, -, -⟩ := hS
  have ex : k = 0 ∨ S_pl S 5 k ≠ -1 := by
    rw [hp, v_we_k hk] at hx
    simp only [Bool.or_eq_true, decide_eq_true_eq] at hx
    exact hx
  obtain ⟨g1, g2, g3, g4⟩ := s2.geo hk ex
  have e5 := s2.ro hk
  have r5 : -2147483648 ≤ S_pl S 5 k ∧ S_pl S 5 k < 2147483648 := by rw [← e5]; exact mv_rg _ _ _
  have y5 := oi_m1 r5.1 r5.2
  have F := fl4 lo
  -- the least sizes
  have mins : ∀ (x : Int32) (D : Nat), D ≤ 1 → x = nI (5 + D) → (if oI (S_pl S 5 k) = -1 then some 0 else if ck (oI (S_pl S 5 k)) 24 then if (σ.1 (462 + 5) (oI (S_pl S 5 k)).toNatClampNeg) = 0 then some 0 else if ck (((2 * oI (S_pl S 5 k)) + x) - 5) 48 then some (σ.1 (462 + 6) (((2 * oI (S_pl S 5 k)) + x) - 5).toNatClampNeg) else none else none) = some (if ga (mq σ 1) 23 (S_pl S 5 k) = 1 then oI (ga (mq σ (2 + D)) 23 (S_pl S 5 k)) else 0) := fun x D hD ex => by
    rcases t.wi hk with z | ⟨g, hg, eg, ug, -⟩
    · rw [if_pos (y5.mpr z), z, ga_m1 (f := mq σ 1), if_neg (by decide)]
    · have b01 : mq σ 1 g = 0 ∨ mq σ 1 g = 1 := by
        have kr := t.ki hg
        have : S_pl S 8 g = 2 ∨ S_pl S 8 g ≤ 1 := by omega
        rcases this with u | u
        · exact (hL.1 g hg u).1
        · exact (hL.2.1 g hg u).1
      have e2 : ((2 * nI g) + x) - 5 = nI (2 * g + D) := by
        rw [ex, show (2 : Int32) * nI g = nI (2 * g) from (Int32.ofNat_mul 2 g).symm, j_a, show (5 : Int32) = nI 5 from rfl, j_sn (by omega) (by omega)]
        congr 1
        omega
      rw [if_neg (fun y => by rw [y5] at y; omega), eg, ← j_nIo g (by omega), if_pos (j_ckn (by omega) (by decide)), j_cl _ (by omega), ga_in hg, ga_in hg, show (462 + 5 : Nat) = 467 from rfl, e2, if_pos (j_ckn (by omega) (by decide)), j_cl _ (by omega), show (462 + 6 : Nat) = 468 from rfl]
      by_cases q : mq σ 1 g = 1
      · have n0 : ¬ σ.1 467 g = 0 := fun y => by
          rw [mq1 (by omega), y, jz0] at q
          omega
        rw [if_pos q, if_neg n0, mqL (by omega) hD, j_oIt]
      · have z0 : σ.1 467 g = 0 := by
          refine j_eq.mpr ?_
          rw [mq1 (by omega)] at q b01
          rw [jz0]
          omega
        rw [if_neg q, if_pos z0]
  have low : ¬ w = 4 → ¬ w = 5 → ¬ w = 6 → ¬ w = 7 → fX9_window σ 462 p (1 + w) 1 = some (wtV (mq σ) S k w) := fun n4 n5 n6 n7 => by
    have : w.toInt = 0 ∨ w.toInt = 1 ∨ w.toInt = 2 ∨ w.toInt = 3 := by
      have m4 : w.toInt ≠ 4 := fun z => n4 (j_eq.mpr z)
      have m5 : w.toInt ≠ 5 := fun z => n5 (j_eq.mpr z)
      have m6 : w.toInt ≠ 6 := fun z => n6 (j_eq.mpr z)
      have m7 : w.toInt ≠ 7 := fun z => n7 (j_eq.mpr z)
      omega
    rcases this with z | z | z | z
    · have : w = 0 := j_eq.mpr z
      subst this
      rw [show (1 + 0 : Int32) = nI 1 from rfl, m_window hp hk (by decide), g1]
      rfl
    · have : w = 1 := j_eq.mpr z
      subst this
      rw [show (1 + 1 : Int32) = nI 2 from rfl, m_window hp hk (by decide), g2]
      rfl
    · have : w = 2 := j_eq.mpr z
      subst this
      rw [show (1 + 2 : Int32) = nI 3 from rfl, m_window hp hk (by decide), g3]
      rfl
    · have : w = 3 := j_eq.mpr z
      subst this
      rw [show (1 + 3 : Int32) = nI 4 from rfl, m_window hp hk (by decide), g4]
      rfl
  unfold fX9_windowTold
  rw [show (5 : Int32) = nI 5 from rfl, m_window hp hk (by decide), j_b, e5]
  by_cases q4 : w = 4
  · rw [if_pos q4, m_placedIn s2 t tb, j_b, hp]
    subst q4
    rfl
  rw [if_neg q4]
  by_cases q5 : w = nI 5
  · rw [if_pos q5]
    have a := mins w 0 (by decide) q5
    have b : wtV (mq σ) S k w = if ga (mq σ 1) 23 (S_pl S 5 k) = 1 then oI (ga (mq σ (2 + 0)) 23 (S_pl S 5 k)) else 0 := by
      rw [q5]
      rfl
    rw [b]
    exact a
  rw [if_neg q5]
  by_cases q6 : w = 6
  · rw [if_pos q6]
    have a := mins w 1 (by decide) q6
    have b : wtV (mq σ) S k w = if ga (mq σ 1) 23 (S_pl S 5 k) = 1 then oI (ga (mq σ (2 + 1)) 23 (S_pl S 5 k)) else 0 := by
      rw [q6]
      rfl
    rw [b]
    exact a
  rw [if_neg q6]
  by_cases q7 : w = 7
  · rw [if_pos q7]
    have b : wtV (mq σ) S k w = oI (o_ix (odp (S_pl S)) k) := by
      rw [q7]
      rfl
    rw [b]
    by_cases z : p = 0
    · have k0 : k = 0 := by
        rw [z, jz0] at hp
        omega
      have := lo.ix_no (x := k) (by rw [k0]; rfl)
      rw [if_pos z, this]
      rfl
    · have oe := s2.oe
      rw [if_neg z, show (246 : Int32) = nI 246 from rfl, m_placeIn (j := 18) (cap := 4) (Or.inl ⟨rfl, rfl, rfl⟩) (by rw [oe.1]; exact F), j_b, oe.ix, hp]
  rw [if_neg q7, low q4 q5 q6 q7]
  rfl
theorem c_window {σ : Sg} (h : RR σ) (p w : Int32) : PI (fL_window σ p w 476 1) (fun s => fX9_window_ s 462 p w) := by
  obtain ⟨S, l, c, m, tx⟩ := h
  have h1 := c.1
  have hS := c.2.2.1
  have hR : RR σ := ⟨S, l, c, m, tx⟩
  have z7 : (7 : Int32).toInt = 7 := rfl
  cases q : v_we (S_pl S) p.toInt
  · refine pi_no (k := 1) (b := 0) hR ?_ (by decide) ?_
    · unfold fL_window fX8_window
      rw [s_reqW, h1, q]
      rfl
    · show fX9_window_ σ 462 p w = _
      unfold fX9_window_ fX9_window__28
      rw [m_isW m.2.2.1, j_b, q, rf1]
      rfl
  · by_cases hw : 0 ≤ w.toInt ∧ w.toInt ≤ 7
    · obtain ⟨k, hk, hk5, -⟩ := v_we_n q
      refine pi_q (v := wtV (qv σ) S k w) c tx m ?_ (fun s ms => ?_)
      · unfold fL_window
        rw [(s_wtold h1 hS hk hk5 q hw).1, j_b, j_xl, if_pos (by decide), j_nm]
        rfl
      · obtain ⟨s1, a1, f1, m1, e1, L1⟩ := m_ly (ms.s3 (k := 0)) hS
        refine ⟨s1, ?_, G9.s3.tr f1, m1⟩
        show fX9_window_ s 462 p w = _
        unfold fX9_window_ fX9_window__28
        rw [m_isW ms.2.2.1, j_b, q, if_pos rfl, m_within, j_b, jz0, z7, decide_eq_true hw, if_pos rfl, rf0, j_b]
        show (fX9_lays (su s 462 3 0) 462).bind _ = _
        rw [a1, j_b, m_wtold m1.2 hS L1 hk hk5 q hw, j_b, wt_eq hS L1 c.2.2.2.2.1 hk5 w]
    · refine pi_no (k := 2) (b := 0) hR ?_ (by decide) ?_
      · unfold fL_window fX8_window
        rw [s_reqW, h1, q, j_b, if_pos rfl, j_xl, s_reqR, j_b, jz0, z7, decide_eq_false hw]
        rfl
      · show fX9_window_ σ 462 p w = _
        unfold fX9_window_ fX9_window__28
        rw [m_isW m.2.2.1, j_b, q, if_pos rfl, m_within, j_b, jz0, z7, decide_eq_false hw, rf2]
        rfl
/-- a call that throws nothing and changes nothing -/
def PQ (F : Option Int32) (G : Option (Int32 × Sg)) : Prop := ∃ v σ2, F = some v ∧ G = some (v, σ2) ∧ RR σ2
theorem c_panes {σ : Sg} (h : RR σ) : PQ (fX8_panes σ) (fX9_panes σ 462) := by
  obtain ⟨S, l, c, m, tx⟩ := h
  have h1 := c.1
  have hS := c.2.2.1
  have hR : RR σ := ⟨S, l, c, m, tx⟩
  refine ⟨nI (S_ex S).toNat, su σ 462 3 0, ?_, ?_, hR.s3⟩
  · unfold fX8_panes
    rw [ex_get (b := 1) (by rw [h1]; exact hS.1), h1]
  · unfold fX9_panes
    rw [j_nm, m_paneSet (S := S) m.s3.2 hS.1, j_b]
theorem m_ordQ {σ : Sg} {j c cap : Nat} (h : MJ j c cap) {o : OD} (oe : OE (mo (mv (σ.1 463)) j) o) (hc : 0 ≤ o.1 ∧ o.1 ≤ cap) (p : Int32) : (if ck (nI c) 921 then (fX9_within σ p 0 ((σ.1 463 c) - 1)).bind fun r2 => if r2 = true then (if ck (nI (c + 1) + p) 921 then some (σ.1 463 (nI (c + 1) + p).toNatClampNeg, σ) else none) else some ((-1), σ) else none) = some (oI (o_it o p.toInt), σ) := by
  obtain ⟨a1, a2, a3, a4, a5, a6⟩ := h.a0
  have ct := mo_ct (σ := σ) h
  rw [oe.1] at ct
  have em : ((σ.1 463 c) - 1).toInt = o.1 - 1 := by
    rw [j_sub (by rw [ct, jz1]; omega) (by rw [ct, jz1]; omega), ct, jz1]
  rw [if_pos (j_ckn (by omega) (by decide)), m_within, j_b, jz0, em]
  unfold o_it
  by_cases q : 0 ≤ p.toInt ∧ p.toInt ≤ o.1 - 1
  · obtain ⟨k, hk⟩ : ∃ k : Nat, p.toInt = k := ⟨p.toInt.toNat, by omega⟩
    have ep : p = nI k := j_eq.mpr (by rw [hk, j_nI (by omega)])
    have it := mo_it (σ := σ) h (i := k) (by omega)
    rw [oe.2 k (by rw [oe.1]; omega)] at it
    rw [decide_eq_true q, if_pos rfl, if_neg (show ¬ o.1 ≤ p.toInt by omega), ep, j_a, if_pos (j_ckn (by omega) (by decide)), j_cl _ (by omega), j_nI (by omega), ga_in (by omega), ← it, j_oIt]
  · rw [decide_eq_false q, if_neg Bool.false_ne_true]
    by_cases z : o.1 ≤ p.toInt
    · rw [if_pos z]
      rfl
    · rw [if_neg z]
      unfold ga
      rw [if_neg (by omega)]
      rfl
theorem c_floating {σ : Sg} (h : RR σ) (p : Int32) : PQ (fX8_floating σ p) (fX9_floating σ 462 p) := by
  obtain ⟨S, l, c, m, tx⟩ := h
  have h1 := c.1
  have hS := c.2.2.1
  have hR : RR σ := ⟨S, l, c, m, tx⟩
  obtain ⟨-, -, -, -, ⟨d, wn, t, tb, lo, ge⟩, -, -⟩ := id hS
  refine ⟨oI (o_it (odp (S_pl S)) p.toInt), su σ 462 3 0, ?_, ?_, hR.s3⟩
  · unfold fX8_floating
    rw [s_item, j_b, ← odp_odv, ← h1]
    rfl
  · unfold fX9_floating
    rw [j_nm]
    exact m_ordQ (σ := su σ 462 3 0) (j := 18) (c := 246) (cap := 4) (Or.inl ⟨rfl, rfl, rfl⟩) (m.s3 (k := 0)).2.2.1.oe (fl4 lo) p
theorem c_focus {σ : Sg} (h : RR σ) (p : Int32) : PQ (fX8_focus σ p) (fX9_focus σ 462 p) := by
  obtain ⟨S, l, c, m, tx⟩ := h
  have h1 := c.1
  have hS := c.2.2.1
  have hR : RR σ := ⟨S, l, c, m, tx⟩
  refine ⟨oI (o_it (S_fo S) p.toInt), su σ 462 3 0, ?_, ?_, hR.s3⟩
  · unfold fX8_focus
    rw [s_item, j_b, ← h1]
    rfl
  · unfold fX9_focus
    rw [j_nm]
    exact m_ordQ (σ := su σ 462 3 0) (j := 20) (c := 251) (cap := 12) (Or.inr ⟨rfl, rfl, rfl⟩) (m.s3 (k := 0)).2.2.2.1 (hS.2.2.2.2.2.1.ok (by decide)) p
end RA5
end
section
/-! THE RELATION: setMinimum, resize, move, raise, takeAway -/
section RA6
theorem s_do {σ : Sg} {S : ST} {V' : VW} {F : Option Sg} (hs : stv σ 1 = S) (h : Do F σ (1 + 5) V') : ∃ σ', F = some σ' ∧ Out σ σ' 1 70 ∧ stv σ' 1 = pfS S (S_fo S) V' := by
  subst hs
  obtain ⟨σ', a, b, c⟩ := h
  refine ⟨σ', a, b.mo (by omega) (by omega), ?_⟩
  rw [stv_pl (b := 1) b, c]
  rfl
theorem S_pv {σ : Sg} {S : ST} (h : stv σ 1 = S) : pv σ (1 + 5) = S_pl S := by
  rw [← h]
  rfl
theorem Inv.rows {V V' : VW} {d : Nat → Nat} {wn : Nat → Int} (h : Inv V d wn) (e : ∀ j, j = 5 ∨ 8 ≤ j → V' j = V j) (lo : LO (odp V') 5 (flw V)) (ge : Geo V') : Inv V' d wn := by
  obtain ⟨t, tb, -, -⟩ := h
  refine ⟨t.cg (fun n _ => by rw [e 8 (by omega)]) (fun n _ => by rw [e 9 (by omega)]) (fun n _ => by rw [e 10 (by omega)]) (fun n hn q => by rw [e 11 (by omega)]; exact t.we hn q) (fun w _ => by rw [e 5 (by omega)]), tb.cg (fun g _ => by rw [e 8 (by omega)]) (fun g _ _ => by rw [e 12 (by omega)]) (fun p _ => by rw [e 13 (by omega)]) (fun p _ => by rw [e 14 (by omega)]) (fun p _ => by rw [e 15 (by omega)]), lo.cg (fun i _ => by unfold flw; rw [e 5 (by omega)]), ge⟩
theorem SI.geo {S : ST} {V' : VW} (h : SI S) (e : ∀ j, 5 ≤ j → V' j = S_pl S j) (ge : Geo V') : SI (pfS S (S_fo S) V') := by
  obtain ⟨h1, h2, h3, h4, ⟨d, wn, i⟩, h6, h7⟩ := h
  refine SI.pf (S := S) ⟨h1, h2, h3, h4, ⟨d, wn, i⟩, h6, h7⟩ (i.rows (V' := V') (fun j hj => e j (by omega)) ?_ ge) (fun p hp z => h4 p hp (by rw [← e 13 (by omega)]; exact z)) (h6.cg (fun p _ => by unfold plc; rw [e 13 (by omega)]))
  have : odp V' = odp (S_pl S) := by
    unfold odp
    rw [e 6 (by omega), e 7 (by omega)]
  rw [this]
  exact i.2.2.1
theorem VM.gm {U U' V V' : VW} {X : Nat → Bool} (h : VM U V X) (e : ∀ j, (j < 6 ∨ (9 ≤ j ∧ j < 13) ∨ (17 ≤ j ∧ j < 20)) → U' j = U j) (e' : ∀ j, 5 ≤ j → V' j = V j) (g : ∀ w, w < 5 → w = 0 ∨ V 5 w ≠ -1 → U' 13 w = V' 1 w ∧ U' 14 w = V' 2 w ∧ U' 15 w = V' 3 w ∧ U' 16 w = V' 4 w) : VM U' V' X := by
  obtain ⟨a1, a2, a3, a4, a5, a6, a7, a8, a9⟩ := h
  unfold VM
  rw [e 0 (by omega), e 1 (by omega), e 2 (by omega), e 3 (by omega), e 4 (by omega), e 5 (by omega), e 9 (by omega), e 10 (by omega), e 11 (by omega), e 12 (by omega), e 17 (by omega), e 18 (by omega), e 19 (by omega), e' 5 (by omega), e' 6 (by omega), e' 7 (by omega), e' 8 (by omega), e' 9 (by omega), e' 10 (by omega), e' 11 (by omega), e' 12 (by omega), e' 13 (by omega), e' 14 (by omega), e' 15 (by omega)]
  exact ⟨a1, a2, a3, a4, a5, a6, fun w hw => ⟨(a7 w hw).1, (a7 w hw).2.1, g w hw⟩, a8, a9⟩
/-! setMinimum -/
def mnS (S : ST) (k : Nat) (a b : Int) : ST := (S.1, ur (S_mw S) k a, ur (S_mh S) k b, S.2.2.2)
theorem mnS_SI {S : ST} {k : Nat} (h : SI S) {a b : Int} (ha : 1 ≤ a ∧ a ≤ 40) (hb : 1 ≤ b ∧ b ≤ 40) : SI (mnS S k a b) := by
  obtain ⟨h1, h2, h3, h4, h5, h6, h7⟩ := h
  refine ⟨h1, h2, fun p hp => ?_, h4, h5, h6, h7⟩
  have := h3 p hp
  show (0 ≤ ur (S_mw S) k a p ∧ ur (S_mw S) k a p ≤ 40) ∧ (0 ≤ ur (S_mh S) k b p ∧ ur (S_mh S) k b p ≤ 40) ∧ (_ → 1 ≤ ur (S_mw S) k a p)
  unfold ur
  by_cases q : p = k
  · rw [if_pos q, if_pos q]
    exact ⟨by omega, by omega, fun _ => ha.1⟩
  · rw [if_neg q, if_neg q]
    exact this
theorem c_setMinimum {σ : Sg} (h : RR σ) (p a b : Int32) : PI (fL_setMinimum σ p a b 476 1) (fun s => fX9_setMinimum s 462 p a b) := by
  obtain ⟨S, l, c, m, tx⟩ := h
  have h1 := c.1
  have hS := c.2.2.1
  have hR : RR σ := ⟨S, l, c, m, tx⟩
  have e1 : (1 : Int32).toInt = 1 := rfl
  have e40 : (40 : Int32).toInt = 40 := rfl
  cases q : exP S p
  · refine pi_no (k := 1) (b := 0) hR ?_ (by decide) ?_
    · unfold fL_setMinimum fX8_setMinimum
      rw [s_reqP (by rw [h1]; exact hS), h1, q]
      rfl
    · show fX9_setMinimum σ 462 p a b = _
      unfold fX9_setMinimum fX9_setMinimum_38
      rw [m_isP m.2, j_b, q, rf1]
      rfl
  · cases hm : mnP a b
    · refine pi_no (k := 2) (b := 0) hR ?_ (by decide) ?_
      · unfold fL_setMinimum fX8_setMinimum
        rw [s_reqP (by rw [h1]; exact hS), h1, q, j_b, if_pos rfl, j_xl, s_reqM, hm]
        rfl
      · show fX9_setMinimum σ 462 p a b = _
        unfold fX9_setMinimum fX9_setMinimum_33
        have fin : fX9_setMinimum_38 462 σ p a b 2 = some (0, su σ 462 3 2) := by
          unfold fX9_setMinimum_38
          rw [rf2, j_b]
          rfl
        unfold mnP at hm
        rw [m_isP m.2, j_b, q, if_pos rfl, m_within, j_b, e1, e40]
        cases q1 : decide (1 ≤ a.toInt ∧ a.toInt ≤ 40)
        · exact fin
        · rw [q1, Bool.true_and] at hm
          rw [if_pos rfl, m_within, j_b, e1, e40, hm]
          exact fin
    · have hmb := hm
      unfold mnP at hm
      simp only [Bool.and_eq_true, decide_eq_true_eq] at hm
      obtain ⟨k, hk, hk12, ek⟩ := exP_n q
      obtain ⟨σ1, a1, f1, c1⟩ := s_kr c
      obtain ⟨σ2, a2, o2, v2⟩ := s_setMinimums (σ := σ1) (b := 1) hk hk12 a b
      have hv : stv σ2 1 = mnS S k a.toInt b.toInt := by
        rw [v2, c1.1]
        rfl
      have hSI := mnS_SI (k := k) hS hm.1 hm.2
      obtain ⟨σ3, a3, o3, c3⟩ := c1.mod (fun x hx => o2.2 x (by omega)) hv hSI
      have w1 : fX8_at σ1 (1 + 1) 12 p = some (oI (S_mw S k)) := by
        rw [s_at (by decide), hk, ga_in hk12, ← c1.1]
        show some (oI (σ1.1 2 k).toInt) = some (oI (rw12 (σ1.1 2) k))
        rw [rw12_in hk12]
      have w2 : fX8_at σ1 (1 + 2) 12 p = some (oI (S_mh S k)) := by
        rw [s_at (by decide), hk, ga_in hk12, ← c1.1]
        show some (oI (σ1.1 3 k).toInt) = some (oI (rw12 (σ1.1 3) k))
        rw [rw12_in hk12]
      refine pi_ok (v := (100 * oI (S_mw S k)) + oI (S_mh S k)) tx m ?_ (fun x hx => by rw [o3.2 x (by omega), o2.2 x (by omega)]; exact f1 x hx) c3 (fun s ms => ?_)
      · unfold fL_setMinimum fX8_setMinimum
        rw [s_reqP (by rw [h1]; exact hS), h1, q, j_b, if_pos rfl, j_xl, s_reqM, hmb, j_b, if_pos rfl, j_xl, a1, j_b, w1, j_b, w2, j_b, j_nm, a2, j_b, a3, j_b, j_b, j_xl, if_pos (by decide), j_nm]
        rfl
      · have ms0 := ms.s3 (k := 0)
        obtain ⟨s1, b1, g1, x1, m1⟩ := m_kr ms0
        obtain ⟨s2, b2, w2, u2⟩ := m_p1 (σ := s1) hk hk12 a
        obtain ⟨s3, b3, w3, u3⟩ := m_p2 (σ := s2) hk hk12 b
        obtain ⟨e7, e8⟩ := (ms0.2.1 k hk12).2 ek
        have w : Out s1 s3 463 463 := w2.tr w3
        refine ⟨s3, ?_, (G9.s3.tr g1).tr (F9.ou w), m1.mod w ?_⟩
        · show fX9_setMinimum s 462 p a b = _
          unfold fX9_setMinimum fX9_setMinimum_38
          rw [m_isP ms.2, j_b, q, if_pos rfl, m_within, j_b, e1, e40, decide_eq_true hm.1, if_pos rfl, m_within, j_b, e1, e40, decide_eq_true hm.2, if_pos rfl, rf0, j_b]
          show (fX9_of (su s 462 3 0) 462 p 1).bind _ = _
          rw [m_o1 hk hk12, j_b, m_o2 hk hk12, j_b, j_nm, b1, j_b, b2, j_b, b3, j_b, e7, e8]
        · obtain ⟨t1, t2, t3, t4⟩ := m1.2
          rw [u3, u2]
          have e6 : ∀ (U : VW) (x y : Int) (i : Nat), mu (mu U 7 k x) 8 k y 6 i = U 6 i := fun U x y i => by rw [mu_ne (by omega), mu_ne (by omega)]
          have e7 : ∀ (U : VW) (x y : Int) (i : Nat), mu (mu U 7 k x) 8 k y 7 i = if i = k then x else U 7 i := fun U x y i => by rw [mu_ne (by omega), mu_at]
          have e8 : ∀ (U : VW) (x y : Int) (i : Nat), mu (mu U 7 k x) 8 k y 8 i = if i = k then y else U 8 i := fun U x y i => by rw [mu_at, mu_ne (by omega)]
          refine ⟨fun i hi => ?_, t2.rows (fun j hj => by rw [mu_ne (by omega), mu_ne (by omega)]), ?_, fun s hs => ?_⟩
          · rw [e6, e7, e8]
            obtain ⟨y1, y2⟩ := t1 i hi
            refine ⟨y1, fun z => ?_⟩
            show (if i = k then a.toInt else _) = ur (S_mw S) k a.toInt i ∧ (if i = k then b.toInt else _) = ur (S_mh S) k b.toInt i
            unfold ur
            by_cases z2 : i = k
            · rw [if_pos z2, if_pos z2, if_pos z2, if_pos z2]
              exact ⟨rfl, rfl⟩
            · rw [if_neg z2, if_neg z2, if_neg z2, if_neg z2]
              exact y2 z
          · show OE (_, _) _
            rw [mu_ne (by omega), mu_ne (by omega), mu_ne (by omega), mu_ne (by omega)]
            exact t3
          · rw [mu_ne (by omega), mu_ne (by omega)]
            exact t4 s hs
/-! resize, move -/
theorem FS.mu {U : VW} {j i : Nat} {x : Int} (h : 9 ≤ j ∧ j < 22) : FS U (mu U j i x) := fun k hk => mu_ne (by omega)
theorem c_resize {σ : Sg} (h : RR σ) (p a b : Int32) : PI (fL_resize σ p a b 476 1) (fun s => fX9_resize s 462 p a b) := by
  obtain ⟨S, l, c, m, tx⟩ := h
  have h1 := c.1
  have hS := c.2.2.1
  have hR : RR σ := ⟨S, l, c, m, tx⟩
  have e10 : (10 : Int32).toInt = 10 := rfl
  have e400 : (400 : Int32).toInt = 400 := rfl
  cases q : v_we (S_pl S) p.toInt
  · refine pi_no (k := 1) (b := 0) hR ?_ (by decide) ?_
    · unfold fL_resize fX8_resize
      rw [s_reqW, h1, q]
      rfl
    · show fX9_resize σ 462 p a b = _
      unfold fX9_resize fX9_resize_42
      rw [m_isW m.2.2.1, j_b, q, rf1]
      rfl
  · have fin : fX9_resize_42 462 σ p a b 2 = some (0, su σ 462 3 2) := by
      unfold fX9_resize_42
      rw [rf2, j_b]
      rfl
    by_cases ha : 10 ≤ a.toInt ∧ a.toInt ≤ 400
    · by_cases hb : 10 ≤ b.toInt ∧ b.toInt ≤ 400
      · obtain ⟨k, hk, hk5, ek⟩ := v_we_n q
        obtain ⟨σ1, a1, f1, c1⟩ := s_kr c
        obtain ⟨σ2, a2, o2, v2⟩ := s_do c1.1 (s_setSize p a b)
        have hpv := S_pv c1.1
        rw [hpv, hk] at v2
        have ge : Geo (S_pl S) := by
          obtain ⟨-, -, -, -, ⟨d, wn, i⟩, -, -⟩ := hS
          exact i.2.2.2
        have r5 : ∀ j, 5 ≤ j → up (up (S_pl S) 3 k a.toInt) 4 k b.toInt j = S_pl S j := fun j hj => by rw [up_ne (by omega), up_ne (by omega)]
        have hSI : SI (pfS S (S_fo S) (up (up (S_pl S) 3 k a.toInt) 4 k b.toInt)) := hS.geo r5 (fun w hw => by
          obtain ⟨g1, g2, g3, g4⟩ := ge w hw
          rw [up_ne (by omega), up_ne (by omega), up_ne (by omega), up_ne (by omega), up_ne (j := 4) (j' := 3) (by omega), up3 hk5, up4 hk5, up_ne (by omega)]
          refine ⟨g1, g2, ?_, ?_⟩
          · split <;> omega
          · split <;> omega)
        obtain ⟨σ3, a3, o3, c3⟩ := c1.mod (fun x hx => o2.2 x (by omega)) v2 hSI
        refine pi_ok (v := oI (v_pi (up (up (S_pl S) 3 k a.toInt) 4 k b.toInt) k)) tx m ?_ (fun x hx => by rw [o3.2 x (by omega), o2.2 x (by omega)]; exact f1 x hx) c3 (fun s ms => ?_)
        · unfold fL_resize fX8_resize
          rw [s_reqW, h1, q, j_b, if_pos rfl, j_xl, s_reqR, j_b, e10, e400, decide_eq_true ha, if_pos rfl, j_xl, s_reqR, j_b, e10, e400, decide_eq_true hb, if_pos rfl, j_xl, a1, j_b, a2, j_b, a3, j_b, s_panesIn, j_b, S_pv c3.1, hk, j_b, j_xl, if_pos (by decide), j_nm]
          rfl
        · have ms0 := ms.s3 (k := 0)
          obtain ⟨s1, b1, g1, x1, m1⟩ := m_kr ms0
          obtain ⟨s2, b2, w2, u2⟩ := m_s3 (σ := s1) hk hk5 a
          obtain ⟨s3, b3, w3, u3⟩ := m_s4 (σ := s2) hk hk5 b
          have w : Out s1 s3 463 463 := w2.tr w3
          have VM' : VM (mv (s3.1 463)) (up (up (S_pl S) 3 k a.toInt) 4 k b.toInt) (fun _ => false) := by
            rw [u3, u2]
            refine m1.2.2.1.gm (fun j hj => by rw [mu_ne (by omega), mu_ne (by omega)]) r5 (fun w hw z => ?_)
            obtain ⟨y1, y2, y3, y4⟩ := m1.2.2.1.geo hw z
            have E : ∀ (U : VW) (x y : Int) (i : Nat), mu (mu U 15 k x) 16 k y 13 i = U 13 i ∧ mu (mu U 15 k x) 16 k y 14 i = U 14 i ∧ mu (mu U 15 k x) 16 k y 15 i = (if i = k then x else U 15 i) ∧ mu (mu U 15 k x) 16 k y 16 i = if i = k then y else U 16 i := fun U x y i => ⟨by rw [mu_ne (by omega), mu_ne (by omega)], by rw [mu_ne (by omega), mu_ne (by omega)], by rw [mu_ne (by omega), mu_at], by rw [mu_at, mu_ne (by omega)]⟩
            obtain ⟨E1, E2, E3, E4⟩ := E (mv (s1.1 463)) a.toInt b.toInt w
            rw [E1, E2, E3, E4, up_ne (by omega), up_ne (by omega), up_ne (by omega), up_ne (by omega), up_ne (j := 4) (j' := 3) (by omega), up3 hk5, up4 hk5, up_ne (by omega), y1, y2, y3, y4]
            exact ⟨rfl, rfl, rfl, rfl⟩
          have tr : ∃ d wn, Tree (up (up (S_pl S) 3 k a.toInt) 4 k b.toInt) d wn (fun _ => false) ∧ Tabs (up (up (S_pl S) 3 k a.toInt) 4 k b.toInt) (fun _ => false) := by
            obtain ⟨-, -, -, -, ⟨d, wn, i⟩, -, -⟩ := hSI
            exact ⟨d, wn, i.1, i.2.1⟩
          obtain ⟨d, wn, t, tb⟩ := tr
          refine ⟨s3, ?_, (G9.s3.tr g1).tr (F9.ou w), m1.mod w (m1.2.pf ?_ VM' ?_)⟩
          · show fX9_resize s 462 p a b = _
            unfold fX9_resize fX9_resize_42
            rw [m_isW ms.2.2.1, j_b, q, if_pos rfl, m_within, j_b, e10, e400, decide_eq_true ha, if_pos rfl, m_within, j_b, e10, e400, decide_eq_true hb, if_pos rfl, rf0, j_b]
            show (fX9_saves (su s 462 3 0) 462).bind _ = _
            rw [b1, j_b, b2, j_b, b3, j_b, m_placedIn VM' t tb, j_b, hk]
          · rw [u3, u2]
            exact (FS.mu (by omega)).tr (FS.mu (by omega))
          · have : mo (mv (s3.1 463)) 20 = mo (mv (s1.1 463)) 20 := by
              unfold mo
              rw [u3, u2, mu_ne (by omega), mu_ne (by omega), mu_ne (by omega), mu_ne (by omega)]
            rw [this]
            exact m1.2.2.2.1
      · refine pi_no (k := 2) (b := 0) hR ?_ (by decide) ?_
        · unfold fL_resize fX8_resize
          rw [s_reqW, h1, q, j_b, if_pos rfl, j_xl, s_reqR, j_b, e10, e400, decide_eq_true ha, if_pos rfl, j_xl, s_reqR, j_b, e10, e400, decide_eq_false hb]
          rfl
        · show fX9_resize σ 462 p a b = _
          unfold fX9_resize fX9_resize_37
          rw [m_isW m.2.2.1, j_b, q, if_pos rfl, m_within, j_b, e10, e400, decide_eq_true ha, if_pos rfl, m_within, j_b, e10, e400, decide_eq_false hb]
          exact fin
    · refine pi_no (k := 2) (b := 0) hR ?_ (by decide) ?_
      · unfold fL_resize fX8_resize
        rw [s_reqW, h1, q, j_b, if_pos rfl, j_xl, s_reqR, j_b, e10, e400, decide_eq_false ha]
        rfl
      · show fX9_resize σ 462 p a b = _
        unfold fX9_resize fX9_resize_37
        rw [m_isW m.2.2.1, j_b, q, if_pos rfl, m_within, j_b, e10, e400, decide_eq_false ha]
        exact fin
end RA6
end
section
/-! THE RELATION: move, raise, takeAway -/
section RA7
theorem c_move {σ : Sg} (h : RR σ) (p a b : Int32) : PI (fL_move σ p a b 476 1) (fun s => fX9_move s 462 p a b) := by
  obtain ⟨S, l, c, m, tx⟩ := h
  have h1 := c.1
  have hS := c.2.2.1
  have hR : RR σ := ⟨S, l, c, m, tx⟩
  have em : (-400 : Int32).toInt = -400 := rfl
  have e400 : (400 : Int32).toInt = 400 := rfl
  cases q : v_we (S_pl S) p.toInt
  · refine pi_no (k := 1) (b := 0) hR ?_ (by decide) ?_
    · unfold fL_move fX8_move
      rw [s_reqW, h1, q]
      rfl
    · show fX9_move σ 462 p a b = _
      unfold fX9_move fX9_move_52
      rw [m_isW m.2.2.1, j_b, q, rf1]
      rfl
  · have fin : fX9_move_52 462 σ p a b 2 = some (0, su σ 462 3 2) := by
      unfold fX9_move_52
      rw [rf2, j_b]
      rfl
    by_cases ha : -400 ≤ a.toInt ∧ a.toInt ≤ 400
    · by_cases hb : -400 ≤ b.toInt ∧ b.toInt ≤ 400
      · by_cases p0 : p = 0
        · refine pi_no (k := 3) (b := 0) hR ?_ (by decide) ?_
          · unfold fL_move fX8_move fX8_requireFloating
            rw [s_reqW, h1, q, j_b, if_pos rfl, j_xl, s_reqR, j_b, em, e400, decide_eq_true ha, if_pos rfl, j_xl, s_reqR, j_b, em, e400, decide_eq_true hb, if_pos rfl, j_xl, if_pos p0]
            rfl
          · show fX9_move σ 462 p a b = _
            unfold fX9_move fX9_move_52
            rw [m_isW m.2.2.1, j_b, q, if_pos rfl, m_within, j_b, em, e400, decide_eq_true ha, if_pos rfl, m_within, j_b, em, e400, decide_eq_true hb, if_pos rfl, if_pos p0, rf3]
            rfl
        · obtain ⟨k, hk, hk5, ek⟩ := v_we_n q
          obtain ⟨σ1, a1, f1, c1⟩ := s_kr c
          obtain ⟨σ2, a2, o2, v2⟩ := s_do c1.1 (s_setCorner p a b)
          have hpv := S_pv c1.1
          rw [hpv, hk] at v2
          have ge : Geo (S_pl S) := by
            obtain ⟨-, -, -, -, ⟨d, wn, i⟩, -, -⟩ := hS
            exact i.2.2.2
          have r5 : ∀ j, 5 ≤ j → up (up (S_pl S) 1 k a.toInt) 2 k b.toInt j = S_pl S j := fun j hj => by rw [up_ne (by omega), up_ne (by omega)]
          have hSI : SI (pfS S (S_fo S) (up (up (S_pl S) 1 k a.toInt) 2 k b.toInt)) := hS.geo r5 (fun w hw => by
            obtain ⟨g1, g2, g3, g4⟩ := ge w hw
            rw [up_ne (j := 2) (j' := 1) (by omega), up1 hk5, up2 hk5, up_ne (by omega), up_ne (by omega), up_ne (by omega), up_ne (by omega), up_ne (by omega)]
            refine ⟨?_, ?_, g3, g4⟩
            · split <;> omega
            · split <;> omega)
          obtain ⟨σ3, a3, o3, c3⟩ := c1.mod (fun x hx => o2.2 x (by omega)) v2 hSI
          refine pi_ok (v := oI (S_pl S 1 k)) tx m ?_ (fun x hx => by rw [o3.2 x (by omega), o2.2 x (by omega)]; exact f1 x hx) c3 (fun s ms => ?_)
          · unfold fL_move fX8_move fX8_requireFloating
            rw [s_reqW, h1, q, j_b, if_pos rfl, j_xl, s_reqR, j_b, em, e400, decide_eq_true ha, if_pos rfl, j_xl, s_reqR, j_b, em, e400, decide_eq_true hb, if_pos rfl, j_xl, if_neg p0, j_b, j_xl, a1, j_b, s_v1, j_b, a2, j_b, a3, j_b, j_b, j_xl, if_pos (by decide), j_nm, hpv, hk, ga_in hk5]
            rfl
          · have ms0 := ms.s3 (k := 0)
            obtain ⟨s1, b1, g1, x1, m1⟩ := m_kr ms0
            obtain ⟨s2, b2, w2, u2⟩ := m_s1 (σ := s1) hk hk5 a
            obtain ⟨s3, b3, w3, u3⟩ := m_s2 (σ := s2) hk hk5 b
            have w : Out s1 s3 463 463 := w2.tr w3
            have VM' : VM (mv (s3.1 463)) (up (up (S_pl S) 1 k a.toInt) 2 k b.toInt) (fun _ => false) := by
              rw [u3, u2]
              refine m1.2.2.1.gm (fun j hj => by rw [mu_ne (by omega), mu_ne (by omega)]) r5 (fun w hw z => ?_)
              obtain ⟨y1, y2, y3, y4⟩ := m1.2.2.1.geo hw z
              have E : ∀ (U : VW) (x y : Int) (i : Nat), mu (mu U 13 k x) 14 k y 15 i = U 15 i ∧ mu (mu U 13 k x) 14 k y 16 i = U 16 i ∧ mu (mu U 13 k x) 14 k y 13 i = (if i = k then x else U 13 i) ∧ mu (mu U 13 k x) 14 k y 14 i = if i = k then y else U 14 i := fun U x y i => ⟨by rw [mu_ne (by omega), mu_ne (by omega)], by rw [mu_ne (by omega), mu_ne (by omega)], by rw [mu_ne (by omega), mu_at], by rw [mu_at, mu_ne (by omega)]⟩
              obtain ⟨E1, E2, E3, E4⟩ := E (mv (s1.1 463)) a.toInt b.toInt w
              rw [E1, E2, E3, E4, up_ne (j := 2) (j' := 1) (by omega), up1 hk5, up2 hk5, up_ne (by omega), up_ne (by omega), up_ne (by omega), up_ne (by omega), up_ne (by omega), y1, y2, y3, y4]
              exact ⟨rfl, rfl, rfl, rfl⟩
            have ek' := (ms0.2.2.1.geo hk5 ek).1
            refine ⟨s3, ?_, (G9.s3.tr g1).tr (F9.ou w), m1.mod w (m1.2.pf ?_ VM' ?_)⟩
            · show fX9_move s 462 p a b = _
              unfold fX9_move fX9_move_52
              rw [m_isW ms.2.2.1, j_b, q, if_pos rfl, m_within, j_b, em, e400, decide_eq_true ha, if_pos rfl, m_within, j_b, em, e400, decide_eq_true hb, if_pos rfl, if_neg p0, rf0, j_b]
              show (fX9_window (su s 462 3 0) 462 p 1 1).bind _ = _
              rw [m_w1 hk hk5, j_b, b1, j_b, b2, j_b, b3, j_b, ek']
            · rw [u3, u2]
              exact (FS.mu (by omega)).tr (FS.mu (by omega))
            · have : mo (mv (s3.1 463)) 20 = mo (mv (s1.1 463)) 20 := by
                unfold mo
                rw [u3, u2, mu_ne (by omega), mu_ne (by omega), mu_ne (by omega), mu_ne (by omega)]
              rw [this]
              exact m1.2.2.2.1
      · refine pi_no (k := 2) (b := 0) hR ?_ (by decide) ?_
        · unfold fL_move fX8_move
          rw [s_reqW, h1, q, j_b, if_pos rfl, j_xl, s_reqR, j_b, em, e400, decide_eq_true ha, if_pos rfl, j_xl, s_reqR, j_b, em, e400, decide_eq_false hb]
          rfl
        · show fX9_move σ 462 p a b = _
          unfold fX9_move fX9_move_39
          rw [m_isW m.2.2.1, j_b, q, if_pos rfl, m_within, j_b, em, e400, decide_eq_true ha, if_pos rfl, m_within, j_b, em, e400, decide_eq_false hb]
          exact fin
    · refine pi_no (k := 2) (b := 0) hR ?_ (by decide) ?_
      · unfold fL_move fX8_move
        rw [s_reqW, h1, q, j_b, if_pos rfl, j_xl, s_reqR, j_b, em, e400, decide_eq_false ha]
        rfl
      · show fX9_move σ 462 p a b = _
        unfold fX9_move fX9_move_39
        rw [m_isW m.2.2.1, j_b, q, if_pos rfl, m_within, j_b, em, e400, decide_eq_false ha]
        exact fin
/-! raise -/
theorem Lay.vc {V V' : VW} {mw mh : Nat → Int} {P : VW} (h : Lay V mw mh P) (e : ∀ j, j ≠ 6 → j ≠ 7 → j ≠ 12 → j ≠ 14 → V' j = V j) : Lay V' mw mh P := by
  have vs : vis V' = vis V := by
    funext n p
    unfold vis
    rw [e 13 (by omega) (by omega) (by omega) (by omega), e 15 (by omega) (by omega) (by omega) (by omega)]
  have kd : kids V' = kids V := by
    funext n
    unfold kids v_cc v_ca
    rw [e 9 (by omega) (by omega) (by omega) (by omega), e 10 (by omega) (by omega) (by omega) (by omega)]
  have pl : pls V' P = pls V P := by
    funext n
    unfold pls
    rw [kd]
  have d8 : dr V' = dr V := by
    funext n
    unfold dr
    rw [e 8 (by omega) (by omega) (by omega) (by omega)]
  unfold Lay LG LT LR LA lsh lrm
  rw [vs, pl, d8, e 8 (by omega) (by omega) (by omega) (by omega), e 9 (by omega) (by omega) (by omega) (by omega), e 11 (by omega) (by omega) (by omega) (by omega), e 5 (by omega) (by omega) (by omega) (by omega), e 1 (by omega) (by omega) (by omega) (by omega), e 2 (by omega) (by omega) (by omega) (by omega), e 3 (by omega) (by omega) (by omega) (by omega), e 4 (by omega) (by omega) (by omega) (by omega)]
  exact h
theorem LO.lt4 {V : VW} (h : LO (odp V) 5 (flw V)) {k : Nat} (hk : k < 5) (k1 : 1 ≤ k) : (o_lv (odp V) k).1 < 4 := by
  have l2 := h.lv2 (m' := fun i => flw V i && decide (i ≠ k)) hk (by simp) (fun i _ hi => by simp [hi])
  rw [l2.1]
  have a := cnt_one_more (c := fun i => flw V i && decide (i ≠ k)) (d := fun i => (flw V i && decide (i ≠ k)) || decide (i = k)) (n := 5) hk (fun i _ hi => by simp [hi]) (by simp) (by simp)
  have f0 : flw V 0 = false := rfl
  have b := cnt_one_more (c := fun i => (flw V i && decide (i ≠ k)) || decide (i = k)) (d := fun i => ((flw V i && decide (i ≠ k)) || decide (i = k)) || decide (i = 0)) (n := 5) (i0 := 0) (by omega) (fun i _ hi => by simp [hi]) (by simp [f0]; omega) (by simp)
  have e := cnt_le (fun i => ((flw V i && decide (i ≠ k)) || decide (i = k)) || decide (i = 0)) 5
  omega
theorem VM.fl {U U' V : VW} {X : Nat → Bool} (h : VM U V X) (e : ∀ j, (j < 6 ∨ (9 ≤ j ∧ j < 18)) → U' j = U j) {o : OD} (oe : OE (mo U' 18) o) : VM U' (v_od V o) X := by
  obtain ⟨a1, a2, a3, a4, a5, a6, a7, a8, a9⟩ := h
  have v : ∀ j, j ≠ 6 → j ≠ 7 → v_od V o j = V j := fun j h6 h7 => v_od_ne h6 h7
  unfold VM
  rw [e 0 (by omega), e 1 (by omega), e 2 (by omega), e 3 (by omega), e 4 (by omega), e 5 (by omega), e 9 (by omega), e 10 (by omega), e 11 (by omega), e 12 (by omega), e 13 (by omega), e 14 (by omega), e 15 (by omega), e 16 (by omega), e 17 (by omega), v 1 (by omega) (by omega), v 2 (by omega) (by omega), v 3 (by omega) (by omega), v 4 (by omega) (by omega), v 5 (by omega) (by omega), v 8 (by omega) (by omega), v 9 (by omega) (by omega), v 10 (by omega) (by omega), v 11 (by omega) (by omega), v 12 (by omega) (by omega), v 13 (by omega) (by omega), v 14 (by omega) (by omega), v 15 (by omega) (by omega)]
  refine ⟨a1, a2, a3, a4, a5, a6, a7, ?_, ?_, a9.2⟩
  · exact oe.1
  · intro k hk
    exact oe.2 k (by rw [oe.1]; exact hk)
theorem flw_k {V : VW} {k : Nat} (h : k = 0 ∨ V 5 k ≠ -1) (k0 : k ≠ 0) : flw V k = true := by
  have : V 5 k ≠ -1 := by omega
  unfold flw
  rw [decide_eq_true this, decide_eq_true (show 1 ≤ k by omega)]
  rfl
theorem SI.fl {S : ST} {k : Nat} (h : SI S) (hk : k < 5) (ek : k = 0 ∨ S_pl S 5 k ≠ -1) (k0 : k ≠ 0) : SI (pfS S (S_fo S) (v_od (S_pl S) (o_pl (odp (S_pl S)) k))) := by
  obtain ⟨h1, h2, h3, h4, ⟨d, wn, i⟩, h6, h7⟩ := h
  have v : ∀ j, j ≠ 6 → j ≠ 7 → v_od (S_pl S) (o_pl (odp (S_pl S)) k) j = S_pl S j := fun j h6 h7 => v_od_ne h6 h7
  refine SI.pf (S := S) ⟨h1, h2, h3, h4, ⟨d, wn, i⟩, h6, h7⟩ (i.rows (V' := v_od (S_pl S) (o_pl (odp (S_pl S)) k)) (fun j hj => v j (by omega) (by omega)) ?_ (i.2.2.2.cg (v 1 (by omega) (by omega)) (v 2 (by omega) (by omega)) (v 3 (by omega) (by omega)) (v 4 (by omega) (by omega)))) (fun p hp z => h4 p hp (by rw [← v 13 (by omega) (by omega)]; exact z)) (h6.cg (fun p _ => by unfold plc; rw [v 13 (by omega) (by omega)]))
  rw [v_od_odp]
  exact i.2.2.1.pl_old (by decide) hk (flw_k ek k0)
theorem PL.vc {σ : Sg} {S : ST} {o : OD} {V' : VW} (h : PL σ S) (e : ∀ j, j ≠ 6 → j ≠ 7 → j ≠ 12 → j ≠ 14 → V' j = S_pl S j) : PL σ (pfS S o V') := by
  refine ⟨h.1.vc e, fun n hn z => h.2 n hn ?_⟩
  rw [← e 8 (by omega) (by omega) (by omega) (by omega)]
  exact z
theorem c_raise {σ : Sg} (h : RR σ) (p : Int32) : PI (fL_raise σ p 476 1) (fun s => fX9_raise s 462 p) := by
  obtain ⟨S, l, c, m, tx⟩ := h
  have h1 := c.1
  have hS := c.2.2.1
  have hR : RR σ := ⟨S, l, c, m, tx⟩
  cases q : v_we (S_pl S) p.toInt
  · refine pi_no (k := 1) (b := 0) hR ?_ (by decide) ?_
    · unfold fL_raise fX8_raise
      rw [s_reqW, h1, q]
      rfl
    · show fX9_raise σ 462 p = _
      unfold fX9_raise fX9_raise_22
      rw [m_isW m.2.2.1, j_b, q, rf1]
      rfl
  · by_cases p0 : p = 0
    · refine pi_no (k := 2) (b := 0) hR ?_ (by decide) ?_
      · unfold fL_raise fX8_raise fX8_requireFloating
        rw [s_reqW, h1, q, j_b, if_pos rfl, j_xl, if_pos p0]
        rfl
      · show fX9_raise σ 462 p = _
        unfold fX9_raise fX9_raise_22
        rw [m_isW m.2.2.1, j_b, q, if_pos rfl, if_pos p0, rf2]
        rfl
    · obtain ⟨k, hk, hk5, ek⟩ := v_we_n q
      have k0 : k ≠ 0 := fun z => p0 (j_eq.mpr (by rw [hk, z]; rfl))
      obtain ⟨-, -, -, -, ⟨d, wn, hI⟩, hO, -⟩ := id hS
      have F := fl4 hI.2.2.1
      obtain ⟨σ1, a1, f1, c1⟩ := s_kr c
      have hpv := S_pv c1.1
      have okf : OkO (odp (pv σ1 (1 + 5))) := by rw [hpv]; exact hI.2.2.1.ok (by decide)
      obtain ⟨σ2, a2, o2, v2⟩ := s_do c1.1 (s_flLast p okf)
      rw [hpv, hk] at v2
      have hSI := hS.fl hk5 ek k0
      have c2 := c1.mod0 (fun x hx => o2.2 x (by omega)) v2 hSI (fun pl => pl.vc (fun j h6 h7 _ _ => v_od_ne h6 h7))
      refine pi_ok (v := oI (o_ix (odp (S_pl S)) k)) tx m ?_ (fun x hx => by rw [o2.2 x (by omega)]; exact f1 x hx) c2 (fun s ms => ?_)
      · unfold fL_raise fX8_raise fX8_requireFloating
        rw [s_reqW, h1, q, j_b, if_pos rfl, j_xl, if_neg p0, j_b, j_xl, a1, j_b, s_indexOf (by rw [← odp_odv]; exact okf), j_b, a2, j_b, ← odp_odv, hpv, hk, j_b, j_xl, if_pos (by decide), j_nm]
        rfl
      · have ms0 := ms.s3 (k := 0)
        have oe0 := ms0.2.2.1.oe
        obtain ⟨s1, b1, g1, x1, m1⟩ := m_kr ms0
        have oe := m1.2.2.1.oe
        obtain ⟨s2, b2, w2, u2, r2⟩ := m_comesLast (σ := s1) (j := 18) (c := 246) (cap := 4) (Or.inl ⟨rfl, rfl, rfl⟩) (by rw [oe.1]; exact F) p (by rw [(oe.lv p.toInt).1, hk]; exact hI.2.2.1.lt4 hk5 (by omega))
        have oe2 : OE (mo (mv (s2.1 463)) 18) (o_pl (odp (S_pl S)) k) := by
          rw [← hk]
          exact u2.tr (oe.pl p.toInt)
        refine ⟨s2, ?_, (G9.s3.tr g1).tr (F9.ou w2), m1.mod w2 (m1.2.pf (fun j hj => r2 j (by omega) (by omega)) (m1.2.2.1.fl (fun j hj => r2 j (by omega) (by omega)) oe2) ?_)⟩
        · show fX9_raise s 462 p = _
          unfold fX9_raise fX9_raise_22
          rw [m_isW ms.2.2.1, j_b, q, if_pos rfl, if_neg p0, rf0, j_b]
          show (fX9_placeIn (su s 462 3 0) 462 246 p).bind _ = _
          rw [show (246 : Int32) = nI 246 from rfl, m_placeIn (j := 18) (cap := 4) (Or.inl ⟨rfl, rfl, rfl⟩) (by rw [oe0.1]; exact F), j_b, b1, j_b, b2, j_b, oe0.ix, hk]
        · have : mo (mv (s2.1 463)) 20 = mo (mv (s1.1 463)) 20 := by
            unfold mo
            rw [r2 20 (by omega) (by omega), r2 21 (by omega) (by omega)]
          rw [this]
          exact m1.2.2.2.1
/-! takeAway -/
theorem c_takeAway {σ : Sg} (h : RR σ) (p : Int32) : PI (fL_takeAway σ p 476 1) (fun s => fX9_takeAway s 462 p) := by
  obtain ⟨S, l, c, m, tx⟩ := h
  have h1 := c.1
  have hS := c.2.2.1
  have hR : RR σ := ⟨S, l, c, m, tx⟩
  cases q : exP S p
  · refine pi_no (k := 1) (b := 0) hR ?_ (by decide) ?_
    · unfold fL_takeAway fX8_takeAway
      rw [s_reqP (by rw [h1]; exact hS), h1, q]
      rfl
    · show fX9_takeAway σ 462 p = _
      unfold fX9_takeAway fX9_takeAway_28
      rw [m_isP m.2, j_b, q, rf1]
      rfl
  · obtain ⟨k, hk, hk12, ek⟩ := exP_n q
    cases qp : plc (S_pl S) k
    · refine pi_no (k := 2) (b := 0) hR ?_ (by decide) ?_
      · unfold fL_takeAway fX8_takeAway
        rw [s_reqP (by rw [h1]; exact hS), h1, q, j_b, if_pos rfl, j_xl, s_reqL hk hk12, h1, qp]
        rfl
      · show fX9_takeAway σ 462 p = _
        unfold fX9_takeAway fX9_takeAway_28
        rw [m_isP m.2, j_b, q, if_pos rfl, m_isL m.2.2.1 hk hk12, qp, rf2]
        rfl
    · obtain ⟨σ1, a1, f1, c1⟩ := s_kr c
      obtain ⟨-, -, -, -, ⟨d, wn, hI⟩, hO, -⟩ := id hS
      obtain ⟨σ2, a2, o2, v2⟩ := s_wd c1.1 hI p
      obtain ⟨σ3, a3, o3, v3⟩ := s_lv v2 (hO.ok (by decide)) p
      have hv : stv σ3 1 = pfS S (o_lv (S_fo S) k) (v_withdraw (S_pl S) k) := by
        rw [v3]
        unfold pfS
        rw [hk]
      have o : Out σ1 σ3 1 70 := o2.tr o3
      have hSI := gone_SI hS hk12
      obtain ⟨σ5, a5, o5, c5⟩ := c1.mod (fun x hx => o.2 x (by omega)) hv hSI
      refine pi_ok (v := oI (o_lv (S_fo S) k).1) tx m ?_ (fun x hx => by rw [o5.2 x (by omega), o.2 x (by omega)]; exact f1 x hx) c5 (fun s ms => ?_)
      · unfold fL_takeAway fX8_takeAway
        have sz : odv σ5 (1 + 3) = o_lv (S_fo S) k := by
          have := congrArg S_fo c5.1
          exact this
        rw [s_reqP (by rw [h1]; exact hS), h1, q, j_b, if_pos rfl, j_xl, s_reqL hk hk12, h1, qp, j_b, if_pos rfl, j_xl, a1, j_b, a2, j_b, a3, j_b, a5, j_b, s_size, sz, j_b, j_b, j_xl, if_pos (by decide), j_nm]
        rfl
      · obtain ⟨s1, b1, g1, e1, m1⟩ := m_kr (ms.s3 (k := 0))
        obtain ⟨s2, s3, b2, b3, w3, sm3⟩ := m_gone hS m1.2 hk hk12
        refine ⟨s3, ?_, (G9.s3.tr g1).tr (F9.ou w3), m1.mod w3 sm3⟩
        show fX9_takeAway s 462 p = _
        unfold fX9_takeAway fX9_takeAway_28
        rw [m_isP ms.2, j_b, q, if_pos rfl, m_isL ms.2.2.1 hk hk12, qp, j_b, if_pos rfl, rf0, j_b]
        show (fX9_saves (su s 462 3 0) 462).bind _ = _
        have cn := LO.cn hSI
        have cn : (o_lv (S_fo S) k).1 = cnt (plc (v_withdraw (S_pl S) k)) 12 := cn
        have pm := sm3.2.1.pm
        have pm : m_pm (mv (s3.1 463)) = cnt (plc (v_withdraw (S_pl S) k)) 12 := pm
        rw [b1, j_b, b2, j_b, b3, j_b, m_placedMany, j_b, pm, ← cn]
end RA7
end
section
/-! THE RELATION: show, activate, moveTab -/
section RA8
variable {V : VW} {X : Nat → Bool}
theorem Act.cg {V V' : VW} {g : Nat} (h : Act V g) (e12 : V' 12 g = V 12 g) (e13 : ∀ p, p < 12 → V' 13 p = V 13 p) (e15 : ∀ p, p < 12 → V 13 p = g → V' 15 p = V 15 p) : Act V' g := by
  rcases h with ⟨a, b⟩ | ⟨a, ha, e, f, z⟩
  · exact Or.inl ⟨by rw [e12]; exact a, fun p hp q => by
      rw [e13 p hp] at q
      rw [e15 p hp q]
      exact b p hp q⟩
  · exact Or.inr ⟨a, ha, by rw [e12]; exact e, by rw [e13 a ha]; exact f, by rw [e15 a ha f]; exact z⟩
theorem hide_rows {p g : Nat} (hp : p < 12) (hg : g < 23) (e : V 13 p = g) : (∀ i, v_hide V p 15 i = if i = p then 1 else V 15 i) ∧ (∀ i, v_hide V p 12 i = if i = g ∧ V 12 g = p then v_ai (up V 15 p 1) g (V 14 p) else V 12 i) ∧ ∀ j, j ≠ 12 → j ≠ 15 → v_hide V p j = V j := by
  refine ⟨fun i => ?_, fun i => ?_, fun j h1 h2 => v_hide_ne h1 h2⟩
  · unfold v_hide
    split
    · rw [up_ne (by omega), up15 hp]
    · rw [up15 hp]
  · unfold v_hide
    rw [ga_in hp, e, ga_in hg, ga_in hp]
    by_cases q : V 12 g = p
    · rw [if_pos q, up12 hg, up_ne (by omega)]
      by_cases z : i = g
      · rw [if_pos z, if_pos ⟨z, q⟩]
      · rw [if_neg z, if_neg (fun w => z w.1)]
    · rw [if_neg q, if_neg (fun w => q w.2), up_ne (by omega)]
theorem Tabs.hide (h : Tabs V (fun _ => false)) {p g : Nat} (hp : p < 12) (e : V 13 p = g) : Tabs (v_hide V p) (fun _ => false) := by
  obtain ⟨hg, kg⟩ := h.g2 hp e
  obtain ⟨r15, r12, rr⟩ := hide_rows hp hg e
  refine ⟨fun q hq => ?_, fun q hq z => ?_, fun q hq => ?_, fun k hk kk => ?_⟩
  · rw [rr 13 (by omega) (by omega), rr 8 (by omega) (by omega)]
    exact h.gr hq
  · rw [rr 13 (by omega) (by omega)] at z
    rw [rr 14 (by omega) (by omega), r15, if_neg (fun w => by rw [w] at z; omega)]
    exact h.no hq z
  · rw [r15]
    split
    · exact Or.inr rfl
    · exact h.hi hq
  · rw [rr 8 (by omega) (by omega)] at kk
    have m := h.nu hk kk
    obtain ⟨f1, f2⟩ := h.fu hk kk rfl
    rw [rr 13 (by omega) (by omega), rr 14 (by omega) (by omega)]
    refine ⟨m, fun _ => ⟨f1, ?_⟩⟩
    by_cases z : k = g
    · subst z
      by_cases q : V 12 k = p
      · have e12 : v_hide V p 12 k = v_ai (up V 15 p 1) k (V 14 p) := by rw [r12, if_pos ⟨rfl, q⟩]
        have m' : Nmb 12 (fun q => decide (up V 15 p 1 13 q = k)) (up V 15 p 1 14) := by
          rw [up_ne (by omega), up_ne (by omega)]
          exact m
        have as := v_ai_sp (V := up V 15 p 1) (g := k) (fr := V 14 p) m' (fun q hq e1 e2 => by
          rw [up_ne (by omega)] at e1 e2
          rw [up15 hp]
          by_cases w : q = p
          · rw [if_pos w]
          · have := m.2.2 q p hq hp (by simp [e1]) (by simp [e]) e2
            exact absurd this w)
        rcases as with ⟨a, b⟩ | ⟨a, ha, ea, e13, e15⟩
        · refine Or.inl ⟨by rw [e12]; exact a, fun q hq w => ?_⟩
          rw [rr 13 (by omega) (by omega)] at w
          have := b q hq (by rw [up_ne (by omega)]; exact w)
          rw [up15 hp] at this
          rw [r15]
          exact this
        · refine Or.inr ⟨a, ha, by rw [e12]; exact ea, ?_, ?_⟩
          · rw [up_ne (by omega)] at e13
            rw [rr 13 (by omega) (by omega)]
            exact e13
          · rw [up15 hp] at e15
            rw [r15]
            by_cases w : a = p
            · rw [if_pos w] at e15
              exact absurd rfl e15
            · rw [if_neg w] at e15 ⊢
              rcases h.hi ha with y | y
              · exact y
              · exact absurd y e15
      · have e12 : v_hide V p 12 k = V 12 k := by rw [r12, if_neg (fun w => q w.2)]
        rcases f2 with ⟨a, b⟩ | ⟨a, ha, ea, e13, e15⟩
        · refine Or.inl ⟨by rw [e12]; exact a, fun q hq w => ?_⟩
          rw [rr 13 (by omega) (by omega)] at w
          rw [r15]
          split
          · rfl
          · exact b q hq w
        · refine Or.inr ⟨a, ha, by rw [e12]; exact ea, by rw [rr 13 (by omega) (by omega)]; exact e13, ?_⟩
          rw [r15, if_neg (fun w => q (by rw [ea, w]))]
          exact e15
    · refine f2.cg (by rw [r12, if_neg (fun w => z w.1)]) (fun q hq => by rw [rr 13 (by omega) (by omega)]) (fun q hq w => ?_)
      rw [r15, if_neg (fun y => by rw [y, e] at w; omega)]
theorem rev_rows {p g : Nat} (hp : p < 12) (hg : g < 23) (e : V 13 p = g) : (∀ i, v_reveal V p 15 i = if i = p then 0 else V 15 i) ∧ (∀ i, v_reveal V p 12 i = if i = g ∧ V 12 g = -1 then (p : Int) else V 12 i) ∧ ∀ j, j ≠ 12 → j ≠ 15 → v_reveal V p j = V j := by
  unfold v_reveal
  rw [ga_in hp, e, ga_in hg]
  by_cases q : V 12 g = -1
  · rw [if_pos q]
    refine ⟨fun i => by rw [up_ne (by omega), up15 hp], fun i => ?_, fun j h1 h2 => by rw [up_ne h1, up_ne h2]⟩
    rw [up12 hg, up_ne (by omega)]
    by_cases z : i = g
    · rw [if_pos z, if_pos ⟨z, q⟩]
    · rw [if_neg z, if_neg (fun w => z w.1)]
  · rw [if_neg q]
    refine ⟨fun i => by rw [up15 hp], fun i => ?_, fun j h1 h2 => by rw [up_ne h2]⟩
    rw [up_ne (by omega), if_neg (fun w => q w.2)]
theorem Tabs.reveal (h : Tabs V (fun _ => false)) {p g : Nat} (hp : p < 12) (e : V 13 p = g) : Tabs (v_reveal V p) (fun _ => false) := by
  obtain ⟨hg, kg⟩ := h.g2 hp e
  obtain ⟨r15, r12, rr⟩ := rev_rows hp hg e
  refine ⟨fun q hq => ?_, fun q hq z => ?_, fun q hq => ?_, fun k hk kk => ?_⟩
  · rw [rr 13 (by omega) (by omega), rr 8 (by omega) (by omega)]
    exact h.gr hq
  · rw [rr 13 (by omega) (by omega)] at z
    rw [rr 14 (by omega) (by omega), r15, if_neg (fun w => by rw [w] at z; omega)]
    exact h.no hq z
  · rw [r15]
    split
    · exact Or.inl rfl
    · exact h.hi hq
  · rw [rr 8 (by omega) (by omega)] at kk
    obtain ⟨f1, f2⟩ := h.fu hk kk rfl
    rw [rr 13 (by omega) (by omega), rr 14 (by omega) (by omega)]
    refine ⟨h.nu hk kk, fun _ => ⟨f1, ?_⟩⟩
    by_cases z : k = g
    · subst z
      by_cases q : V 12 k = -1
      · exact Or.inr ⟨p, hp, by rw [r12, if_pos ⟨rfl, q⟩], by rw [rr 13 (by omega) (by omega)]; exact e, by rw [r15, if_pos rfl]⟩
      · rcases f2 with ⟨a, b⟩ | ⟨a, ha, ea, e13, e15⟩
        · exact absurd a q
        · refine Or.inr ⟨a, ha, by rw [r12, if_neg (fun w => q w.2)]; exact ea, by rw [rr 13 (by omega) (by omega)]; exact e13, ?_⟩
          rw [r15]
          split
          · rfl
          · exact e15
    · refine f2.cg (by rw [r12, if_neg (fun w => z w.1)]) (fun q hq => by rw [rr 13 (by omega) (by omega)]) (fun q hq w => ?_)
      rw [r15, if_neg (fun y => by rw [y, e] at w; omega)]
/-- placements that differ in the tabs' state alone -/
theorem Inv.tb {V V' : VW} {d : Nat → Nat} {wn : Nat → Int} (h : Inv V d wn) (e : ∀ j, j ≠ 12 → j ≠ 14 → j ≠ 15 → V' j = V j) (tb : Tabs V' (fun _ => false)) : Inv V' d wn := by
  obtain ⟨t, -, lo, ge⟩ := h
  have e' : ∀ j, j < 12 → V' j = V j := fun j hj => e j (by omega) (by omega) (by omega)
  refine ⟨t.cg (fun n _ => by rw [e' 8 (by omega)]) (fun n _ => by rw [e' 9 (by omega)]) (fun n _ => by rw [e' 10 (by omega)]) (fun n hn q => by rw [e' 11 (by omega)]; exact t.we hn q) (fun w _ => by rw [e' 5 (by omega)]), tb, ?_, ge.cg (e' 1 (by omega)) (e' 2 (by omega)) (e' 3 (by omega)) (e' 4 (by omega))⟩
  have o : odp V' = odp V := by
    unfold odp
    rw [e' 6 (by omega), e' 7 (by omega)]
  rw [o]
  exact lo.cg (fun i _ => by unfold flw; rw [e' 5 (by omega)])
theorem SI.tb {S : ST} {V' : VW} (h : SI S) (e : ∀ j, j ≠ 12 → j ≠ 14 → j ≠ 15 → V' j = S_pl S j) (tb : Tabs V' (fun _ => false)) : SI (pfS S (S_fo S) V') := by
  obtain ⟨h1, h2, h3, h4, ⟨d, wn, i⟩, h6, h7⟩ := h
  exact SI.pf (S := S) ⟨h1, h2, h3, h4, ⟨d, wn, i⟩, h6, h7⟩ (i.tb e tb) (fun p hp z => h4 p hp (by rw [← e 13 (by omega) (by omega) (by omega)]; exact z)) (h6.cg (fun p _ => by unfold plc; rw [e 13 (by omega) (by omega) (by omega)]))
/-- the reference's row follows -/
theorem VM.tb {U U' V V' : VW} (h : VM U V (fun _ => false)) (e : ∀ j, (j < 5 ∨ j = 9 ∨ (12 ≤ j ∧ j < 20)) → U' j = U j) (e' : ∀ j, j ≠ 12 → j ≠ 14 → j ≠ 15 → V' j = V j) (g5 : ∀ n, n < 23 → V 8 n = 2 → U' 5 n = V' 12 n) (g6 : ∀ n, n < 23 → V 8 n ≤ 1 → U' 5 n = U 5 n) (g10 : ∀ p, p < 12 → V 13 p ≠ -1 → U' 10 p = V' 14 p) (g11 : ∀ p, p < 12 → U' 11 p = V' 15 p) : VM U' V' (fun _ => false) := by
  obtain ⟨a1, a2, a3, a4, a5, a6, a7, a8, a9⟩ := h
  have w : ∀ j, j < 12 → V' j = V j := fun j hj => e' j (by omega) (by omega) (by omega)
  unfold VM
  rw [e 0 (by omega), e 1 (by omega), e 2 (by omega), e 3 (by omega), e 4 (by omega), e 9 (by omega), e 12 (by omega), e 13 (by omega), e 14 (by omega), e 15 (by omega), e 16 (by omega), e 17 (by omega), e 18 (by omega), e 19 (by omega), w 1 (by omega), w 2 (by omega), w 3 (by omega), w 4 (by omega), w 5 (by omega), w 6 (by omega), w 7 (by omega), w 8 (by omega), w 9 (by omega), w 10 (by omega), w 11 (by omega), e' 13 (by omega) (by omega) (by omega)]
  exact ⟨a1, a2, a3, a4, fun n hn k _ => g5 n hn k, fun p hp => ⟨(a6 p hp).1, g10 p hp, g11 p hp⟩, a7, a8, a9.1, fun n hn k => by rw [g6 n hn k]; exact a9.2 n hn k⟩
end RA8
end
