/-! THE RELATION: the reference's states -/
theorem mv_cg {f g : Nat → Int32} (h : ∀ i, i < 921 → f i = g i) : mv f = mv g := by
  funext j i
  unfold mv
  by_cases q : i < mw j
  · rw [if_pos q, if_pos q, h _ (ma_lt q)]
  · rw [if_neg q, if_neg q]
/-- a slot's cells, as the row's own -/
def sr (r : Nat → Int) : VW := fun j i => if i < mw j then (if j < 6 then r (37 + 6 * i + j) else if j < 12 then r (1 + 3 * i + (j - 9)) else if j < 18 then r (181 + 6 * i + (j - 12)) else if j = 18 then r 211 else r (212 + i)) else 0
theorem VM.cg {U U' V : VW} {X : Nat → Bool} (h : VM U V X) (h4 : V 6 1 ≤ 4) (e : ∀ j i, (j < 6 ∨ (9 ≤ j ∧ j < 20)) → i < mw j → U' j i = U j i) : VM U' V X := by
  have n : ∀ j, j < 6 → ∀ i, i < 24 → U' j i = U j i := fun j hj i hi => e j i (Or.inl hj) (by rw [mw_n hj]; exact hi)
  have p : ∀ k, 3 ≤ k → k < 6 → ∀ i, i < 12 → U' (6 + k) i = U (6 + k) i := fun k h3 hk i hi => e (6 + k) i (Or.inr (by omega)) (by rw [mw_p hk]; exact hi)
  have w : ∀ k, k < 6 → ∀ i, i < 5 → U' (12 + k) i = U (12 + k) i := fun k hk i hi => e (12 + k) i (Or.inr (by omega)) (by rw [mw_w hk]; exact hi)
  refine ⟨fun i hi => ?_, ?_, fun i hi q => ?_, fun i hi q => ?_, fun i hi q x => ?_, fun i hi => ?_, fun v hv => ?_, ?_, fun k hk => ?_, fun i hi q => by
    rw [n 5 (by decide) i (by omega)]
    exact h.a5 hi q⟩
  · rw [n 0 (by decide) i (by omega), n 2 (by decide) i (by omega)]
    exact h.1 i hi
  · rw [n 0 (by decide) 23 (by omega)]
    exact h.l
  · rw [n 1 (by decide) i (by omega)]
    exact h.pa hi q
  · rw [n 3 (by decide) i (by omega), n 4 (by decide) i (by omega)]
    exact ⟨h.we hi q, h.pl hi q⟩
  · rw [n 5 (by decide) i (by omega)]
    exact h.ac hi q x
  · have a := p 3 (by decide) (by decide) i hi
    have b := p 4 (by decide) (by decide) i hi
    have c := p 5 (by decide) (by decide) i hi
    simp only [Nat.reduceAdd] at a b c
    rw [a, b, c]
    exact ⟨h.gr hi, h.sp hi, h.hi hi⟩
  · have a := w 0 (by decide) v hv
    have b := w 1 (by decide) v hv
    have c := w 2 (by decide) v hv
    have d := w 3 (by decide) v hv
    have f := w 4 (by decide) v hv
    have g := w 5 (by decide) v hv
    simp only [Nat.reduceAdd] at a b c d f g
    rw [a, b, c, d, f, g]
    exact ⟨h.ex hv, h.ro hv, h.geo hv⟩
  · rw [e 18 0 (Or.inr (by omega)) (by decide)]
    exact h.fc
  · rw [e 19 k (Or.inr (by omega)) (by show k < 4; omega)]
    exact h.fi hk
theorem fl4 {V : VW} (h : LO (odp V) 5 (flw V)) : 0 ≤ V 6 1 ∧ V 6 1 ≤ 4 := by
  have := cnt_one_more (c := flw V) (d := fun i => flw V i || i == 0) (n := 5) (i0 := 0) (by decide) (fun i _ ne => by simp [ne]) (by simp [flw]) (by simp)
  have := cnt_le (fun i => flw V i || i == 0) 5
  have e : V 6 1 = cnt (flw V) 5 := h.1
  omega
/-- the row tells the state -/
def SM (U : VW) (S : ST) : Prop :=
  (∀ p, p < 12 → U 6 p = (if exB S p then 1 else 0) ∧ (exB S p = true → U 7 p = S_mw S p ∧ U 8 p = S_mh S p)) ∧
  VM U (S_pl S) (fun _ => false) ∧ OE (mo U 20) (S_fo S) ∧
  ∀ s, s < 3 → U (22 + s) 0 = (if svB S s then 1 else 0) ∧ (svB S s = true → VM (sr (U (22 + s))) (S_sl S s) (fun _ => false))
/-- a record's row -/
def pr (σ : Sg) (k : Nat) : Nat → Int32 := fun i => σ.1 464 (921 * k + i)
/-- the records of the reference are l, the oldest first -/
def Mh (σ : Sg) (l : List ST) : Prop := l.length ≤ 5 ∧ σ.1 462 2 = nI l.length ∧ ∀ k S, l[k]? = some S → SM (mv (pr σ k)) S
/-- all but the records stays -/
def Or (σ σ' : Sg) : Prop := σ'.2 = σ.2 ∧ (∀ c, c ≠ 462 → c ≠ 464 → σ'.1 c = σ.1 c) ∧ ∀ j, j ≠ 2 → σ'.1 462 j = σ.1 462 j
theorem Or.rf {σ : Sg} : Or σ σ := ⟨rfl, fun _ _ _ => rfl, fun _ _ => rfl⟩
theorem Or.tr {σ σ1 σ2 : Sg} (h : Or σ σ1) (h2 : Or σ1 σ2) : Or σ σ2 := ⟨h2.1.trans h.1, fun c a b => (h2.2.1 c a b).trans (h.2.1 c a b), fun j a => (h2.2.2 j a).trans (h.2.2 j a)⟩
theorem Or.s4 {σ : Sg} {j : Nat} {v : Int32} : Or σ (su σ 464 j v) := ⟨rfl, fun c _ b => su_ne b, fun i _ => by rw [su_at, if_neg (by omega)]⟩
theorem Or.s2 {σ : Sg} {v : Int32} : Or σ (su σ 462 2 v) := ⟨rfl, fun c a _ => su_ne a, fun i q => by rw [su_at, if_neg (fun z => q z.2)]⟩
section MH
variable {σ : Sg}
theorem m_saves49 {m : Nat} (hm : m < 5) (hs : σ.1 462 2 = nI m) : ∃ σ', fX9_saves_49 462 σ = some σ' ∧ Or σ σ' ∧ σ'.1 462 2 = nI (m + 1) ∧ (∀ i, i < 921 → σ'.1 464 (921 * m + i) = σ.1 463 i) ∧ ∀ i, (i < 921 * m ∨ 921 * (m + 1) ≤ i) → σ'.1 464 i = σ.1 464 i := by
  have e921 : ∀ i : Nat, (921 : Int32) * nI m + nI i = nI (921 * m + i) := fun i => by
    rw [show (921 : Int32) * nI m = nI (921 * m) from (Int32.ofNat_mul 921 m).symm, j_a]
  unfold fX9_saves_49
  refine lp (F := fun n (s : Sg × Int32) => fX9_saves_51 462 n s.1 s.2) (Q := fun r => ∃ σ', r = some σ' ∧ Or σ σ' ∧ σ'.1 462 2 = nI (m + 1) ∧ (∀ i, i < 921 → σ'.1 464 (921 * m + i) = σ.1 463 i) ∧ ∀ i, (i < 921 * m ∨ 921 * (m + 1) ≤ i) → σ'.1 464 i = σ.1 464 i) (fun i s => s.2 = nI i ∧ Or σ s.1 ∧ s.1.1 462 2 = nI m ∧ (∀ k, k < i → s.1.1 464 (921 * m + k) = σ.1 463 k) ∧ ∀ k, (k < 921 * m ∨ 921 * m + i ≤ k) → s.1.1 464 k = σ.1 464 k) 921 ?_ ?_ 921 0 FU (σ, 0) rfl (by decide) ⟨rfl, Or.rf, hs, fun k hk => absurd hk (by omega), fun k _ => rfl⟩
  · rintro n i ⟨s, l⟩ hi ⟨rfl, ho, h2, hv, hw⟩
    simp only at ho h2 hv hw
    refine ⟨(su s 464 (921 * m + i) (s.1 463 i), nI (i + 1)), ⟨rfl, ho.tr Or.s4, ?_, fun k hk => ?_, fun k hk => ?_⟩, ?_⟩
    · show (su s 464 _ _).1 462 2 = _
      rw [su_ne (by decide), h2]
    · show (su s 464 _ _).1 464 (921 * m + k) = _
      rw [su_at]
      by_cases q : k = i
      · rw [if_pos ⟨rfl, by omega⟩, ho.2.1 463 (by decide) (by decide), q]
      · rw [if_neg (fun z => q (by omega))]
        exact hv k (by omega)
    · show (su s 464 _ _).1 464 k = _
      rw [su_at, if_neg (fun z => by omega)]
      exact hw k (by omega)
    · show fX9_saves_51 462 (n + 1) s (nI i) = fX9_saves_51 462 n _ (nI (i + 1))
      rw [fX9_saves_51, if_neg (n_ge 921 (m := 921) rfl hi (by decide)), if_pos (j_ckn hi (by decide)), if_pos (by rw [h2, e921]; exact j_ckn (by omega) (by decide)), j_nm, h2, e921, j_cl _ (by omega), j_cl _ (by omega), j_s]
  · rintro n ⟨s, l⟩ ⟨rfl, ho, h2, hv, hw⟩
    simp only at ho h2 hv hw
    show ∃ σ', fX9_saves_51 462 (n + 1) s (nI 921) = some σ' ∧ _
    rw [fX9_saves_51, if_pos (n_le 921 (m := 921) rfl (by decide)), j_nm, h2, j_s]
    refine ⟨_, rfl, ho.tr Or.s2, by rw [su_at, if_pos ⟨rfl, rfl⟩], fun i hi => ?_, fun i hi => ?_⟩
    · rw [su_ne (by decide)]
      exact hv i hi
    · rw [su_ne (by decide)]
      exact hw i (by omega)
theorem m_saves {l : List ST} {S : ST} (h : Mh σ l) (hS : SM (mv (σ.1 463)) S) : ∃ σ', fX9_saves σ 462 = some σ' ∧ Or σ σ' ∧ Mh σ' (keep l S) := by
  obtain ⟨hl, h2, hr⟩ := h
  have last : ∀ (τ σ' : Sg) (l' : List ST), l'.length ≤ 4 → τ.1 463 = σ.1 463 → (∀ k S, l'[k]? = some S → SM (mv (pr τ k)) S) → σ'.1 462 2 = nI (l'.length + 1) → (∀ i, i < 921 → σ'.1 464 (921 * l'.length + i) = τ.1 463 i) → (∀ i, (i < 921 * l'.length ∨ 921 * (l'.length + 1) ≤ i) → σ'.1 464 i = τ.1 464 i) → Mh σ' (l' ++ [S]) := by
    intro τ σ' l' h4 e63 hr' e2 a b
    refine ⟨by simp; omega, by rw [e2]; simp, fun k S' hk => ?_⟩
    by_cases q : k < l'.length
    · rw [List.getElem?_append_left q] at hk
      have e : mv (pr σ' k) = mv (pr τ k) := mv_cg (fun i hi => b (921 * k + i) (Or.inl (by
        have : 921 * (k + 1) ≤ 921 * l'.length := Nat.mul_le_mul_left _ q
        omega)))
      rw [e]
      exact hr' k S' hk
    · have hk2 := (List.getElem?_eq_some_iff.mp hk).1
      simp at hk2
      have : k = l'.length := by omega
      subst this
      rw [List.getElem?_append_right (by omega)] at hk
      simp at hk
      have e : mv (pr σ' l'.length) = mv (σ.1 463) := mv_cg (fun i hi => by rw [← e63]; exact a i hi)
      rw [e, ← hk]
      exact hS
  unfold fX9_saves keep
  by_cases q : l.length = 5
  · rw [if_pos (by rw [h2, q]; rfl), if_pos q]
    refine lp (F := fun n (s : Sg × Int32) => fX9_saves_10 462 n s.1 s.2) (Q := fun r => ∃ σ', r = some σ' ∧ Or σ σ' ∧ Mh σ' (l.drop 1 ++ [S])) (fun i s => s.2 = nI i ∧ Or σ s.1 ∧ s.1.1 462 2 = nI 5 ∧ (∀ k, k < i → s.1.1 464 k = σ.1 464 (k + 921)) ∧ ∀ k, i ≤ k → s.1.1 464 k = σ.1 464 k) 3684 ?_ ?_ 3684 0 FU (σ, 0) rfl (by decide) ⟨rfl, Or.rf, by rw [h2, q], fun k hk => absurd hk (by omega), fun k _ => rfl⟩
    · rintro n i ⟨s, l2⟩ hi ⟨rfl, ho, h2', hv, hw⟩
      simp only at ho h2' hv hw
      refine ⟨(su s 464 i (s.1 464 (i + 921)), nI (i + 1)), ⟨rfl, ho.tr Or.s4, ?_, fun k hk => ?_, fun k hk => ?_⟩, ?_⟩
      · show (su s 464 _ _).1 462 2 = _
        rw [su_ne (by decide), h2']
      · show (su s 464 _ _).1 464 k = _
        rw [su_at]
        by_cases z : k = i
        · rw [if_pos ⟨rfl, z⟩, z, hw (i + 921) (by omega)]
        · rw [if_neg (fun y => z y.2)]
          exact hv k (by omega)
      · show (su s 464 _ _).1 464 k = _
        rw [su_at, if_neg (fun z => by omega)]
        exact hw k (by omega)
      · show fX9_saves_10 462 (n + 1) s (nI i) = fX9_saves_10 462 n _ (nI (i + 1))
        rw [fX9_saves_10, if_neg (n_ge 3684 (m := 3684) rfl hi (by decide)), show nI i + 921 = nI (i + 921) from j_a i 921, if_pos (j_ckn (by omega) (by decide)), if_pos (j_ckn (by omega) (by decide)), j_nm, j_cl _ (by omega), j_cl _ (by omega), j_s]
    · rintro n ⟨s, l2⟩ ⟨rfl, ho, h2', hv, hw⟩
      simp only at ho h2' hv hw
      show ∃ σ', fX9_saves_10 462 (n + 1) s (nI 3684) = some σ' ∧ _
      rw [fX9_saves_10, if_pos (n_le 3684 (m := 3684) rfl (by decide)), j_nm, h2']
      obtain ⟨σ', a, b, c, d, e⟩ := m_saves49 (σ := su s 462 2 (nI 5 - 1)) (m := 4) (by decide) (by rw [su_at, if_pos ⟨rfl, rfl⟩]; rfl)
      refine ⟨σ', a, (ho.tr Or.s2).tr b, last (su s 462 2 (nI 5 - 1)) σ' (l.drop 1) (by simp; omega) (by rw [su_ne (by decide), ho.2.1 463 (by decide) (by decide)]) (fun k S' hk => ?_) (by rw [c]; simp [q]) (fun i hi => ?_) (fun i hi => ?_)⟩
      · have hk1 : l[k + 1]? = some S' := by rw [List.getElem?_drop, Nat.add_comm] at hk; exact hk
        have hk2 := (List.getElem?_eq_some_iff.mp hk1).1
        have e' : mv (pr (su s 462 2 (nI 5 - 1)) k) = mv (pr σ (k + 1)) := mv_cg (fun i hi => by
          show (su s 462 2 (nI 5 - 1)).1 464 (921 * k + i) = σ.1 464 (921 * (k + 1) + i)
          rw [su_ne (by decide), hv (921 * k + i) (by omega), show 921 * k + i + 921 = 921 * (k + 1) + i by omega])
        rw [e']
        exact hr (k + 1) S' hk1
      · have : (l.drop 1).length = 4 := by simp [q]
        rw [this]
        exact d i hi
      · have : (l.drop 1).length = 4 := by simp [q]
        rw [this] at hi
        exact e i hi
  · rw [if_neg (by
      rw [h2]
      show ¬ nI l.length = nI 5
      rw [j_inj (by omega) (by omega)]
      exact q), if_neg q]
    obtain ⟨σ', a, b, c, d, e⟩ := m_saves49 (σ := σ) (m := l.length) (by omega) h2
    exact ⟨σ', a, b, last σ σ' l (by omega) rfl hr c d e⟩
/-- the latest record comes back -/
theorem m_undo33 {m : Nat} (hm : m < 5) (hs : σ.1 462 2 = nI m) : ∃ σ', fX9_undo_33 462 FU σ 0 = some (nI m, σ') ∧ Out σ σ' 463 463 ∧ ∀ i, i < 921 → σ'.1 463 i = σ.1 464 (921 * m + i) := by
  have e921 : ∀ i : Nat, (921 : Int32) * nI m + nI i = nI (921 * m + i) := fun i => by
    rw [show (921 : Int32) * nI m = nI (921 * m) from (Int32.ofNat_mul 921 m).symm, j_a]
  refine lp (F := fun n (s : Sg × Int32) => fX9_undo_33 462 n s.1 s.2) (Q := fun r => ∃ σ', r = some (nI m, σ') ∧ Out σ σ' 463 463 ∧ ∀ i, i < 921 → σ'.1 463 i = σ.1 464 (921 * m + i)) (fun i s => s.2 = nI i ∧ Out σ s.1 463 463 ∧ ∀ k, k < i → s.1.1 463 k = σ.1 464 (921 * m + k)) 921 ?_ ?_ 921 0 FU (σ, 0) rfl (by decide) ⟨rfl, Out.rf, fun k hk => absurd hk (by omega)⟩
  · rintro n i ⟨s, l⟩ hi ⟨rfl, ho, hv⟩
    simp only at ho hv
    have h2 : s.1 462 2 = nI m := by rw [ho.2 462 (by omega), hs]
    refine ⟨(su s 463 i (s.1 464 (921 * m + i)), nI (i + 1)), ⟨rfl, ho.tr su_out, fun k hk => ?_⟩, ?_⟩
    · show (su s 463 _ _).1 463 k = _
      rw [su_at]
      by_cases q : k = i
      · rw [if_pos ⟨rfl, q⟩, ho.2 464 (by omega), q]
      · rw [if_neg (fun z => q z.2)]
        exact hv k (by omega)
    · show fX9_undo_33 462 (n + 1) s (nI i) = fX9_undo_33 462 n _ (nI (i + 1))
      rw [fX9_undo_33, if_neg (n_ge 921 (m := 921) rfl hi (by decide)), if_pos (by rw [h2, e921]; exact j_ckn (by omega) (by decide)), if_pos (j_ckn hi (by decide)), j_nm, h2, e921, j_cl _ (by omega), j_cl _ (by omega), j_s]
  · rintro n ⟨s, l⟩ ⟨rfl, ho, hv⟩
    simp only at ho hv
    have h2 : s.1 462 2 = nI m := by rw [ho.2 462 (by omega), hs]
    show ∃ σ', fX9_undo_33 462 (n + 1) s (nI 921) = _ ∧ _
    rw [fX9_undo_33, if_pos (n_le 921 (m := 921) rfl (by decide)), h2]
    exact ⟨s, rfl, ho, hv⟩
/-! the orders of focus -/
theorem m_leavesFocus {o : OD} {c : Nat → Bool} (h9 : ∀ p, p < 12 → decide (mv (σ.1 463) 9 p ≠ -1) = c p) (ho : OE (mo (mv (σ.1 463)) 20) o) (hd : DI o) (hp : Pn o) : ∃ σ', fX9_leavesFocus σ 462 = some σ' ∧ Out σ σ' 463 463 ∧ OE (mo (mv (σ'.1 463)) 20) (fl1 c o 12) ∧ ∀ k, k ≠ 20 → k ≠ 21 → mv (σ'.1 463) k = mv (σ.1 463) k := by
  unfold fX9_leavesFocus
  refine lp (F := fun n (s : Sg × Int32) => fX9_leavesFocus_2 462 n s.1 s.2) (Q := fun r => ∃ σ', r = some σ' ∧ Out σ σ' 463 463 ∧ OE (mo (mv (σ'.1 463)) 20) (fl1 c o 12) ∧ ∀ k, k ≠ 20 → k ≠ 21 → mv (σ'.1 463) k = mv (σ.1 463) k) (fun i s => s.2 = nI i ∧ Out σ s.1 463 463 ∧ OE (mo (mv (s.1.1 463)) 20) (fl1 c o i) ∧ ∀ k, k ≠ 20 → k ≠ 21 → mv (s.1.1 463) k = mv (σ.1 463) k) 12 ?_ ?_ 12 0 FU (σ, 0) rfl (by decide) ⟨rfl, Out.rf, ho, fun _ _ _ => rfl⟩
  · rintro n i ⟨s, l⟩ hi ⟨rfl, hO, hv, hk⟩
    simp only at hO hv hk
    have ei : (nI i).toInt = i := j_nI (by omega)
    obtain ⟨x1, x2, x3⟩ := fl1_list (c := c) hd hp i (by omega)
    have ok := x2.1
    unfold OkO at ok
    show ∃ s' : Sg × Int32, _ ∧ fX9_leavesFocus_2 462 (n + 1) s (nI i) = _
    rw [fX9_leavesFocus_2, if_neg (n_ge 12 (m := 12) rfl hi (by decide)), m_isPlaced ei hi, j_b, hk 9 (by decide) (by decide), h9 i hi]
    unfold fX9_leavesFocus_24
    cases q : c i
    · obtain ⟨σ1, a1, o1, v1, r1⟩ := m_dropsFrom (σ := s) (j := 20) (c := 251) (cap := 12) (Or.inr ⟨rfl, rfl, rfl⟩) (by rw [hv.1]; omega) (nI i)
      have a1 : fX9_dropsFrom s 462 251 (nI i) = some σ1 := a1
      rw [if_neg (by decide), a1, j_b]
      refine ⟨(σ1, nI (i + 1)), ⟨rfl, hO.tr o1, ?_, fun k k1 k2 => by rw [r1 k k1 k2]; exact hk k k1 k2⟩, by rw [j_s]⟩
      unfold fl1
      rw [if_neg (by simp [q])]
      rw [ei] at v1
      exact v1.tr (hv.lv _)
    · rw [if_pos rfl]
      refine ⟨(s, nI (i + 1)), ⟨rfl, hO, ?_, hk⟩, by rw [j_s]⟩
      unfold fl1
      rw [if_pos q]
      exact hv
  · rintro n ⟨s, l⟩ ⟨rfl, hO, hv, hk⟩
    show ∃ σ', fX9_leavesFocus_2 462 (n + 1) s (nI 12) = some σ' ∧ _
    rw [fX9_leavesFocus_2, if_pos (n_le 12 (m := 12) rfl (by decide))]
    exact ⟨s, rfl, hO, hv, hk⟩
theorem m_focuses {o : OD} {c : Nat → Bool} (h9 : ∀ p, p < 12 → decide (mv (σ.1 463) 9 p ≠ -1) = c p) (ho : OE (mo (mv (σ.1 463)) 20) o) (hd : DI o) (hp : Pn o) : ∃ σ', fX9_focuses σ 462 = some σ' ∧ Out σ σ' 463 463 ∧ OE (mo (mv (σ'.1 463)) 20) (fc c o 12) ∧ ∀ k, k ≠ 20 → k ≠ 21 → mv (σ'.1 463) k = mv (σ.1 463) k := by
  obtain ⟨σ1, a1, o1, v1, r1⟩ := m_leavesFocus h9 ho hd hp
  obtain ⟨l1, l2, l3⟩ := fl1_list (c := c) hd hp 12 (Nat.le_refl _)
  unfold fX9_focuses
  rw [a1, j_b]
  refine lp (F := fun n (s : Sg × Int32) => fX9_focuses_6 462 n s.1 s.2) (Q := fun r => ∃ σ', r = some σ' ∧ Out σ σ' 463 463 ∧ OE (mo (mv (σ'.1 463)) 20) (fc c o 12) ∧ ∀ k, k ≠ 20 → k ≠ 21 → mv (σ'.1 463) k = mv (σ.1 463) k) (fun i s => s.2 = nI i ∧ Out σ s.1 463 463 ∧ OE (mo (mv (s.1.1 463)) 20) (fl2 c (fl1 c o 12) i) ∧ ∀ k, k ≠ 20 → k ≠ 21 → mv (s.1.1 463) k = mv (σ.1 463) k) 12 ?_ ?_ 12 0 FU (σ1, 0) rfl (by decide) ⟨rfl, o1, v1, r1⟩
  · rintro n i ⟨s, l⟩ hi ⟨rfl, hO, hv, hk⟩
    simp only at hO hv hk
    have ei : (nI i).toInt = i := j_nI (by omega)
    obtain ⟨x1, x2, x3⟩ := fl2_list (c := c) l2 l3 i (by omega)
    have ok := x2.1
    unfold OkO at ok
    show ∃ s' : Sg × Int32, _ ∧ fX9_focuses_6 462 (n + 1) s (nI i) = _
    rw [fX9_focuses_6, if_neg (n_ge 12 (m := 12) rfl hi (by decide)), m_isPlaced ei hi, j_b, hk 9 (by decide) (by decide), h9 i hi]
    unfold fX9_focuses_40
    cases q : c i
    · rw [if_neg (by decide)]
      refine ⟨(s, nI (i + 1)), ⟨rfl, hO, ?_, hk⟩, by rw [j_s]⟩
      unfold fl2
      rw [if_neg (by simp [q])]
      exact hv
    · have pi := m_placeIn (σ := s) (j := 20) (c := 251) (cap := 12) (Or.inr ⟨rfl, rfl, rfl⟩) (by rw [hv.1]; omega) (nI i)
      have pi : fX9_placeIn s 462 251 (nI i) = some (oI (o_ix (mo (mv (s.1 463)) 20) (nI i).toInt)) := pi
      rw [if_pos rfl, pi, j_b, ei, hv.ix]
      have hr := o_ix_rg (o := fl2 c (fl1 c o 12) i) (i : Int)
      by_cases z : o_ix (fl2 c (fl1 c o 12) i) i = -1
      · have lt := x3.le x2 hi z
        obtain ⟨σ2, a2, o2, v2, r2⟩ := m_comesLast (σ := s) (j := 20) (c := 251) (cap := 12) (Or.inr ⟨rfl, rfl, rfl⟩) (by rw [hv.1]; omega) (nI i) (by rw [ei, (hv.lv _).1]; omega)
        have a2 : fX9_comesLast s 462 251 (nI i) = some σ2 := a2
        rw [if_pos (by rw [z]; rfl), a2, j_b]
        refine ⟨(σ2, nI (i + 1)), ⟨rfl, hO.tr o2, ?_, fun k k1 k2 => by rw [r2 k k1 k2]; exact hk k k1 k2⟩, by rw [j_s]⟩
        unfold fl2
        rw [if_pos (by simp [q, z])]
        rw [ei] at v2
        exact v2.tr (hv.pl _)
      · rw [if_neg (by rw [show (-1 : Int32) = oI (-1) from rfl, j_oe (by omega) (by omega) (by omega) (by omega)]; exact z)]
        refine ⟨(s, nI (i + 1)), ⟨rfl, hO, ?_, hk⟩, by rw [j_s]⟩
        unfold fl2
        rw [if_neg (by simp [z])]
        exact hv
  · rintro n ⟨s, l⟩ ⟨rfl, hO, hv, hk⟩
    show ∃ σ', fX9_focuses_6 462 (n + 1) s (nI 12) = some σ' ∧ _
    rw [fX9_focuses_6, if_pos (n_le 12 (m := 12) rfl (by decide))]
    exact ⟨s, rfl, hO, hv.tr (settle_same hd hp).sy, hk⟩
end MH
