/-! THE RELATION: the class's plan, a window -/
section CW
variable {σ : Sg} {V : VW} {d : Nat → Nat} {wn : Nat → Int} {X : Nat → Bool} {mw mh : Nat → Int} {P P' : VW}
/-- a node is measured -/
def EM (V : VW) (mw mh : Nat → Int) (P : VW) (n : Nat) : Prop := (V 8 n = 2 → LG V mw mh P n) ∧ (V 8 n ≤ 1 → LT V P n)
def EA (V P : VW) (n : Nat) : Prop := V 8 n ≤ 1 → P 1 n = 1 → LA V P n
theorem EM.cg (t : Tree V d wn X) {n : Nat} (hn : n < 23) (h : EM V mw mh P n) (e : ∀ j c, j ≤ 3 → c < 23 → (c = n ∨ V 9 c = n) → P' j c = P j c) : EM V mw mh P' n := by
  have en : ∀ j, j ≤ 3 → P' j n = P j n := fun j hj => e j n hj hn (Or.inl rfl)
  refine ⟨fun k => ?_, fun k => ?_⟩
  · have a := h.1 k
    unfold LG at *
    rw [en 1 (by decide), en 2 (by decide), en 3 (by decide)]
    exact a
  · obtain ⟨a, b, c⟩ := h.2 k
    have kc : ∀ c ∈ kids V n, c < 23 ∧ V 9 c = n := fun c hc => (t.kids_mem hn k).mp hc
    have ep : pls V P' n = pls V P n := pls_cg (fun c hc => e 1 c (by decide) (kc c hc).1 (Or.inr (kc c hc).2))
    have pm : ∀ c ∈ pls V P n, c < 23 ∧ V 9 c = n := fun c hc => ⟨((t.pls_mem hn k).mp hc).1, ((t.pls_mem hn k).mp hc).2.1⟩
    obtain ⟨d1, d2⟩ := t.drs hn k
    refine ⟨by rw [en 1 (by decide)]; exact a, ?_, fun q => ?_⟩
    · rw [en 1 (by decide), b]
      constructor
      · rintro ⟨c, h1, h2, h3⟩
        exact ⟨c, h1, h2, by rw [e 1 c (by decide) h1 (Or.inr h2)]; exact h3⟩
      · rintro ⟨c, h1, h2, h3⟩
        exact ⟨c, h1, h2, by rw [← e 1 c (by decide) h1 (Or.inr h2)]; exact h3⟩
    · obtain ⟨u, v⟩ := c (by rw [← en 1 (by decide)]; exact q)
      rw [ep, en _ (by omega), en _ (by omega), u, v, Sm_congr (f := P' (2 + dr V n)) (g := P (2 + dr V n)) (fun c hc => e _ c (by omega) (pm c hc).1 (Or.inr (pm c hc).2)), lgx_cg (f := P' (3 - dr V n)) (g := P (3 - dr V n)) (fun c hc => e _ c (by omega) (pm c hc).1 (Or.inr (pm c hc).2))]
      exact ⟨rfl, rfl⟩
theorem EA.cg (t : Tree V d wn X) {n : Nat} (hn : n < 23) (h : EA V P n) (e : ∀ j c, j ≤ 7 → c < 23 → (c = n ∨ V 9 c = n) → P' j c = P j c) : EA V P' n := fun k q => by
  have en : ∀ j, j ≤ 7 → P' j n = P j n := fun j hj => e j n hj hn (Or.inl rfl)
  have a := h k (by rw [← en 1 (by decide)]; exact q)
  have kc : ∀ c ∈ kids V n, c < 23 ∧ V 9 c = n := fun c hc => (t.kids_mem hn k).mp hc
  have ep : pls V P' n = pls V P n := pls_cg (fun c hc => e 1 c (by decide) (kc c hc).1 (Or.inr (kc c hc).2))
  have pm : ∀ c ∈ pls V P n, c < 23 ∧ V 9 c = n := fun c hc => ⟨((t.pls_mem hn k).mp hc).1, ((t.pls_mem hn k).mp hc).2.1⟩
  obtain ⟨d1, d2⟩ := t.drs hn k
  have el : lsh V P' n = lsh V P n := by
    unfold lsh
    rw [ep, lm_cg (f := P' (2 + dr V n)) (g := P (2 + dr V n)) (fun c hc => e _ c (by omega) (pm c hc).1 (Or.inr (pm c hc).2))]
    congr 1
    unfold lrm
    rw [ep, en _ (by omega)]
  intro i c gi
  rw [ep] at gi
  have hc := pm c (List.mem_iff_getElem?.mpr ⟨i, gi⟩)
  obtain ⟨a1, a2, a3, a4⟩ := a i c gi
  rw [el, ep, e _ c (by omega) hc.1 (Or.inr hc.2), e _ c (by omega) hc.1 (Or.inr hc.2), e _ c (by omega) hc.1 (Or.inr hc.2), e _ c (by omega) hc.1 (Or.inr hc.2), en _ (by omega), en _ (by omega), en _ (by omega)]
  exact ⟨a1, a2, a3, a4⟩
/-- what measuring a window's nodes leaves alone -/
def Fw (σ σ' : Sg) (ls : List Nat) : Prop := σ'.2 = σ.2 ∧ (∀ j, (j < 423 ∨ (425 < j ∧ j ≠ 431)) → σ'.1 j = σ.1 j) ∧ ∀ j i, j ≠ 431 → ¬ i ∈ ls → σ'.1 j i = σ.1 j i
theorem Fw.pv {ls : List Nat} {σ' : Sg} (h : Fw σ σ' ls) : pv σ' 6 = pv σ 6 := pv_cg (fun j hj => h.2.1 j (by omega))
/-- the nodes of the list are measured, the last first -/
theorem s_measure (t : Tree (pv σ 6) d wn X) (tb : Tabs (pv σ 6) X) (hw : ∀ p, p < 12 → (0 ≤ rw12 (σ.1 2) p ∧ rw12 (σ.1 2) p ≤ 40) ∧ (pv σ 6 13 p ≠ -1 → 1 ≤ rw12 (σ.1 2) p)) (hh : ∀ p, p < 12 → 0 ≤ rw12 (σ.1 3) p ∧ rw12 (σ.1 3) p ≤ 40) {r : Nat} {ls : List Nat} (B : BL (pv σ 6) r ls ls.length 0) (h9 : pv σ 6 9 r = -1) (hr : rl (σ.1 430) ls) (l2 l4 : Int32) : ∃ σ', fX2_computeWindow_27 422 1 FU σ l2 l4 (nI ls.length - 1) = fX2_computeWindow_27 422 1 1 σ' l2 l4 (-1) ∧ Fw σ σ' ls ∧ ∀ n ∈ ls, EM (pv σ 6) (rw12 (σ.1 2)) (rw12 (σ.1 3)) (qv σ') n := by
  have len := B.len
  have mem : ∀ k c, ls[k]? = some c → c < 23 ∧ pv σ 6 8 c ≠ 3 := fun k c g => B.2.2.1 c (List.mem_iff_getElem?.mpr ⟨k, g⟩)
  have st : nI ls.length - 1 = oI ((ls.length : Int) - 1 - (0 : Nat)) := by
    rw [j_nIo _ (by omega), show (1 : Int32) = oI 1 from rfl, j_os]
    congr 1
    omega
  rw [st]
  refine lp (F := fun m (s : Sg × Int32) => fX2_computeWindow_27 422 1 m s.1 l2 l4 s.2) (Q := fun o => ∃ σ', o = fX2_computeWindow_27 422 1 1 σ' l2 l4 (-1) ∧ Fw σ σ' ls ∧ ∀ n ∈ ls, EM (pv σ 6) (rw12 (σ.1 2)) (rw12 (σ.1 3)) (qv σ') n) (fun i s => s.2 = oI ((ls.length : Int) - 1 - (i : Nat)) ∧ Fw σ s.1 ls ∧ ∀ k c, ls.length ≤ k + i → ls[k]? = some c → EM (pv σ 6) (rw12 (σ.1 2)) (rw12 (σ.1 3)) (qv s.1) c) ls.length ?_ ?_ ls.length 0 FU (σ, oI ((ls.length : Int) - 1 - (0 : Nat))) (by omega) (by show _ < 6000; omega) ⟨rfl, ⟨rfl, fun _ _ => rfl, fun _ _ _ _ => rfl⟩, fun k c hk g => absurd (List.getElem?_eq_some_iff.mp g).1 (by omega)⟩
  · rintro m i ⟨s, l⟩ hi ⟨rfl, hf, hv⟩
    simp only at hf hv
    obtain ⟨k, hk⟩ : ∃ k, k + i + 1 = ls.length := ⟨ls.length - i - 1, by omega⟩
    have ek : oI ((ls.length : Int) - 1 - (i : Nat)) = nI k := by
      rw [j_nIo _ (by omega)]
      congr 1
      omega
    have ek1 : nI k + (-1) = oI ((ls.length : Int) - 1 - ((i + 1 : Nat) : Int)) := by
      rw [j_nIo _ (by omega), show (-1 : Int32) = oI (-1) from rfl, j_oa]
      congr 1
      omega
    have gk := List.getElem?_eq_getElem (show k < ls.length by omega)
    generalize ls[k] = c at gk
    obtain ⟨c23, cu⟩ := mem k c gk
    have hc : c ∈ ls := List.mem_iff_getElem?.mpr ⟨k, gk⟩
    have pe := hf.pv
    have s30 : s.1 430 k = nI c := by rw [hf.2.1 430 (by omega)]; exact hr k c gk
    have ec : (nI c).toInt = c := j_nI (by omega)
    have gk8 : ga (pv σ 6 8) 23 (nI c).toInt = pv σ 6 8 c := by rw [ec]; exact ga_in c23
    have t8 := t_ga (σ := σ) (b := 6) (j := 8) (n := 23) (p := (c : Int))
    rw [ga_in c23] at t8
    have two : (2 : Int32).toInt = 2 := rfl
    -- what is measured stays
    have keepm : ∀ s2 : Sg, (∀ j z, j ≠ 431 → z ≠ c → s2.1 j z = s.1 j z) → EM (pv σ 6) (rw12 (σ.1 2)) (rw12 (σ.1 3)) (qv s2) c → ∀ k' c', ls.length ≤ k' + (i + 1) → ls[k']? = some c' → EM (pv σ 6) (rw12 (σ.1 2)) (rw12 (σ.1 3)) (qv s2) c' := fun s2 h2 hE k' c' hk' g' => by
      by_cases q : k' = k
      · subst q
        rw [← Option.some.inj (gk.symm.trans g')]
        exact hE
      · refine (hv k' c' (by omega) g').cg t (mem k' c' g').1 (fun j z hj _ hz => qv_eq (h2 _ z (by omega) ?_))
        intro y
        subst y
        rcases hz with y | y
        · exact q (nd_inj B.1 g' (y ▸ gk))
        · have k0 : k ≠ 0 := fun u => by
            have b0 := B.2.1
            rw [← u, gk] at b0
            have := Option.some.inj b0
            subst this
            omega
          obtain ⟨a, s', b1, b2, b3⟩ := B.2.2.2.1 k z gk k0
          have : s' = c' := by omega
          subst this
          have := nd_inj B.1 b2 g'
          omega
    show ∃ s' : Sg × Int32, _ ∧ fX2_computeWindow_27 422 1 (m + 1) s l2 l4 (oI ((ls.length : Int) - 1 - (i : Nat))) = _
    rw [ek]
    have nneg : ¬ nI k < 0 := by rw [j_lt, j_nI (by omega), jz0]; omega
    rw [fX2_computeWindow_27, if_neg nneg, show (422 + 8 : Nat) = 430 from rfl, s_atn (by decide) (by omega), j_b, s30, show (1 + 5 : Nat) = 6 from rfl, s_kindOf, j_b, pe, gk8]
    by_cases q : pv σ 6 8 c = 2
    · have e2 : oI (pv σ 6 8 c) = 2 := j_eq.mpr (by rw [t8, q, two])
      obtain ⟨σ2, a2, o2, f2, g2⟩ := s_measureGroup (σ := s) (X := X) (by rw [pe]; exact tb) (by rw [hf.2.1 2 (by omega), pe]; exact hw) (by rw [hf.2.1 3 (by omega)]; exact hh) c23
      rw [if_pos e2, a2, j_b]
      unfold fX2_computeWindow_70
      rw [ek1]
      rw [hf.2.1 2 (by omega), hf.2.1 3 (by omega), pe] at g2
      refine ⟨(σ2, _), ⟨rfl, ⟨o2.1.trans hf.1, fun j hj => (o2.2 j (by omega)).trans (hf.2.1 j hj), fun j z hj hz => (f2 j z (fun y => hz (y ▸ hc))).trans (hf.2.2 j z hj hz)⟩, ?_⟩, rfl⟩
      exact keepm σ2 (fun j z _ hz => f2 j z hz) ⟨fun _ => g2, fun y => absurd y (by omega)⟩
    · have e2 : ¬ oI (pv σ 6 8 c) = 2 := fun y => q (by rw [j_eq, t8, two] at y; exact y)
      have kr := t.ki c23
      obtain ⟨σ2, a2, o2, g2⟩ := s_measureSplit (σ := s) (d := d) (wn := wn) (X := X) (by rw [pe]; exact t) c23 (by rw [pe]; omega)
      rw [if_neg e2, a2, j_b]
      unfold fX2_computeWindow_70
      rw [ek1]
      rw [pe] at g2
      refine ⟨(σ2, _), ⟨rfl, ⟨o2.1.trans hf.1, fun j hj => (o2.2.1 j hj).trans (hf.2.1 j hj), fun j z hj hz => (o2.2.2 j z hj (fun y => hz (y ▸ hc))).trans (hf.2.2 j z hj hz)⟩, ?_⟩, rfl⟩
      exact keepm σ2 (fun j z hj hz => o2.2.2 j z hj hz) ⟨fun y => absurd y q, fun _ => g2⟩
  · rintro m ⟨s, l⟩ ⟨rfl, hf, hv⟩
    simp only at hf hv
    have e1 : oI ((ls.length : Int) - 1 - (ls.length : Nat)) = -1 := by
      have : (ls.length : Int) - 1 - (ls.length : Nat) = -1 := by omega
      rw [this]
      rfl
    show ∃ σ', fX2_computeWindow_27 422 1 (m + 1) s l2 l4 (oI ((ls.length : Int) - 1 - (ls.length : Nat))) = _ ∧ _
    rw [e1]
    refine ⟨s, ?_, hf, fun n hn => ?_⟩
    · rw [fX2_computeWindow_27, if_pos (by decide)]
      show _ = fX2_computeWindow_27 422 1 (0 + 1) s l2 l4 (-1)
      rw [fX2_computeWindow_27, if_pos (by decide)]
    · obtain ⟨k, hk⟩ := List.mem_iff_getElem?.mp hn
      exact hv k n (by omega) hk
end CW
