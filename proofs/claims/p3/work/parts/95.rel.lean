/-! THE RELATION: the class's plan, arranged -/
section AR
variable {σ : Sg} {d : Nat → Nat} {wn : Nat → Int} {X : Nat → Bool}
/-- what arranging a split leaves alone -/
def Ff (σ σ' : Sg) (pl : List Nat) : Prop := σ'.2 = σ.2 ∧ (∀ j, (j < 426 ∨ j = 430 ∨ 437 < j) → σ'.1 j = σ.1 j) ∧ ∀ j i, 426 ≤ j → j ≤ 429 → ¬ i ∈ pl → σ'.1 j i = σ.1 j i
theorem Ff.rf {pl : List Nat} : Ff σ σ pl := ⟨rfl, fun _ _ => rfl, fun _ _ _ _ _ => rfl⟩
theorem Ff.tr {pl : List Nat} {σ1 σ2 : Sg} (h : Ff σ σ1 pl) (h2 : Ff σ1 σ2 pl) : Ff σ σ2 pl := ⟨h2.1.trans h.1, fun j a => (h2.2.1 j a).trans (h.2.1 j a), fun j i a b c => (h2.2.2 j i a b c).trans (h.2.2 j i a b c)⟩
theorem Ff.ou {pl : List Nat} {σ1 : Sg} (h : Out σ σ1 431 437) : Ff σ σ1 pl := ⟨h.1, fun j hj => h.2 j (by omega), fun j i _ _ _ => by rw [h.2 j (by omega)]⟩
theorem Ff.pv {pl : List Nat} {σ1 : Sg} (h : Ff σ σ1 pl) : pv σ1 6 = pv σ 6 := pv_cg (fun j hj => h.2.1 j (by omega))
/-- one part's rectangle -/
theorem s_arr1 {n c k : Nat} (hn : n < 23) (hc : c < 23) (hk : k < 23) (ne : c ≠ n) (K : Sg → Int32 → Int32 → Int32 → Int32 → Int32 → Option Sg) (l3 l4 l5 : Int32) (h : Bool) : ∃ σ', fX2_arrange_132 422 6 K σ (nI n) l3 l4 l5 (nI k) (nI c) (if h then 1 else 0) = K σ' (nI n) l3 l4 (l5 + (σ.1 435 k + 1)) (nI (k + 1)) ∧ σ'.2 = σ.2 ∧ (∀ j, (j < 426 ∨ 429 < j) → σ'.1 j = σ.1 j) ∧ (∀ j i, i ≠ c → σ'.1 j i = σ.1 j i) ∧ σ'.1 426 c = σ.1 426 n + (if h then l5 else 0) ∧ σ'.1 427 c = σ.1 427 n + (if h then 0 else l5) ∧ σ'.1 428 c = (if h then σ.1 435 k else σ.1 428 n) ∧ σ'.1 429 c = (if h then σ.1 429 n else σ.1 435 k) := by
  have g : ∀ a b e f : Int32, ∃ σ', σ' = su (su (su (su σ 426 c a) 427 c b) 428 c e) 429 c f ∧ σ'.2 = σ.2 ∧ (∀ j, (j < 426 ∨ 429 < j) → σ'.1 j = σ.1 j) ∧ (∀ j i, i ≠ c → σ'.1 j i = σ.1 j i) ∧ σ'.1 426 c = a ∧ σ'.1 427 c = b ∧ σ'.1 428 c = e ∧ σ'.1 429 c = f := fun a b e f => by
    refine ⟨_, rfl, rfl, fun j hj => ?_, fun j i hi => ?_, ?_, ?_, ?_, ?_⟩
    · rw [su_ne (by omega), su_ne (by omega), su_ne (by omega), su_ne (by omega)]
    · rw [su_at, if_neg (fun z => hi z.2), su_at, if_neg (fun z => hi z.2), su_at, if_neg (fun z => hi z.2), su_at, if_neg (fun z => hi z.2)]
    · rw [su_at, if_neg (by omega), su_at, if_neg (by omega), su_at, if_neg (by omega), su_at, if_pos ⟨rfl, rfl⟩]
    · rw [su_at, if_neg (by omega), su_at, if_neg (by omega), su_at, if_pos ⟨rfl, rfl⟩]
    · rw [su_at, if_neg (by omega), su_at, if_pos ⟨rfl, rfl⟩]
    · rw [su_at, if_pos ⟨rfl, rfl⟩]
  have ne' : ¬ n = c := fun z => ne z.symm
  have rn : ∀ (j j0 : Nat) (v : Int32) (s : Sg), (su s j0 c v).1 j n = s.1 j n := fun j j0 v s => by rw [su_at, if_neg (fun z => ne' z.2)]
  have rk : ∀ (j0 : Nat) (v : Int32) (s : Sg), j0 ≠ 435 → (su s j0 c v).1 435 k = s.1 435 k := fun j0 v s hj => by rw [su_at, if_neg (fun z => hj z.1.symm)]
  have so : ∀ s : Sg, fX3_sizeOf s (422 + 10) (nI k) = some (s.1 435 k) := fun s => by
    unfold fX3_sizeOf
    rw [show (422 + 10 + 3 : Nat) = 435 from rfl, s_atn (by decide) hk, j_b]
  unfold fX2_arrange_132
  rw [show (422 + 4 : Nat) = 426 from rfl, s_atn (by decide) hn, j_b]
  cases h
  · obtain ⟨σ', e, r⟩ := g (σ.1 426 n + 0) (σ.1 427 n + l5) (σ.1 428 n) (σ.1 435 k)
    refine ⟨σ', ?_, r⟩
    rw [if_pos (by decide)]
    unfold fX2_arrange_159
    rw [show (422 + 4 : Nat) = 426 from rfl, s_putn (by decide) hc, j_b, show (422 + 5 : Nat) = 427 from rfl, s_atn (by decide) hn, j_b, rn, if_pos (by decide)]
    unfold fX2_arrange_188
    rw [show (422 + 5 : Nat) = 427 from rfl, s_putn (by decide) hc, j_b, if_pos (by decide), show (422 + 6 : Nat) = 428 from rfl, s_atn (by decide) hn, j_b, rn, rn]
    unfold fX2_arrange_223
    rw [show (422 + 6 : Nat) = 428 from rfl, s_putn (by decide) hc, j_b, if_pos (by decide), so, j_b, rk _ _ _ (by decide), rk _ _ _ (by decide), rk _ _ _ (by decide)]
    unfold fX2_arrange_257
    rw [show (422 + 7 : Nat) = 429 from rfl, s_putn (by decide) hc, j_b, so, j_b, j_nm, rk _ _ _ (by decide), rk _ _ _ (by decide), rk _ _ _ (by decide), rk _ _ _ (by decide), j_s, e]
  · obtain ⟨σ', e, r⟩ := g (σ.1 426 n + l5) (σ.1 427 n + 0) (σ.1 435 k) (σ.1 429 n)
    refine ⟨σ', ?_, r⟩
    rw [if_neg (by decide)]
    unfold fX2_arrange_159
    rw [show (422 + 4 : Nat) = 426 from rfl, s_putn (by decide) hc, j_b, show (422 + 5 : Nat) = 427 from rfl, s_atn (by decide) hn, j_b, rn, if_neg (by decide)]
    unfold fX2_arrange_188
    rw [show (422 + 5 : Nat) = 427 from rfl, s_putn (by decide) hc, j_b, if_neg (by decide), so, j_b, rk _ _ _ (by decide), rk _ _ _ (by decide)]
    unfold fX2_arrange_223
    rw [show (422 + 6 : Nat) = 428 from rfl, s_putn (by decide) hc, j_b, if_neg (by decide), show (422 + 7 : Nat) = 429 from rfl, s_atn (by decide) hn, j_b, rn, rn, rn]
    unfold fX2_arrange_257
    rw [show (422 + 7 : Nat) = 429 from rfl, s_putn (by decide) hc, j_b, so, j_b, j_nm, rk _ _ _ (by decide), rk _ _ _ (by decide), rk _ _ _ (by decide), rk _ _ _ (by decide), j_s, e]
/-- all parts' rectangles -/
theorem s_arr105 {n : Nat} (hn : n < 23) {pl : List Nat} (nd : pl.Nodup) (mem : ∀ c ∈ pl, c < 23 ∧ c ≠ n) (len : pl.length ≤ 23) (h31 : rl (σ.1 431) pl) {g : Nat → Int} (h35 : rv (σ.1 435) pl g) (h : Bool) (l3 : Int32) (hl : l3 = 0 ↔ h = true) : ∃ σ', fX2_arrange_105 422 6 FU σ (nI n) l3 (nI pl.length) 0 0 = some σ' ∧ Ff σ σ' pl ∧ ∀ k c, pl[k]? = some c → σ'.1 426 c = σ.1 426 n + (if h then oI (Sm (fun x => g x + 1) (pl.take k)) else 0) ∧ σ'.1 427 c = σ.1 427 n + (if h then 0 else oI (Sm (fun x => g x + 1) (pl.take k))) ∧ σ'.1 428 c = (if h then oI (g c) else σ.1 428 n) ∧ σ'.1 429 c = (if h then σ.1 429 n else oI (g c)) := by
  refine lp (F := fun m (s : Sg × Int32 × Int32) => fX2_arrange_105 422 6 m s.1 (nI n) l3 (nI pl.length) s.2.1 s.2.2) (Q := fun o => ∃ σ', o = some σ' ∧ Ff σ σ' pl ∧ ∀ k c, pl[k]? = some c → σ'.1 426 c = σ.1 426 n + (if h then oI (Sm (fun x => g x + 1) (pl.take k)) else 0) ∧ σ'.1 427 c = σ.1 427 n + (if h then 0 else oI (Sm (fun x => g x + 1) (pl.take k))) ∧ σ'.1 428 c = (if h then oI (g c) else σ.1 428 n) ∧ σ'.1 429 c = (if h then σ.1 429 n else oI (g c))) (fun i s => s.2.2 = nI i ∧ s.2.1 = oI (Sm (fun x => g x + 1) (pl.take i)) ∧ (s.1.2 = σ.2 ∧ (∀ j, (j < 426 ∨ 429 < j) → s.1.1 j = σ.1 j) ∧ ∀ j z, ¬ z ∈ pl → s.1.1 j z = σ.1 j z) ∧ ∀ k c, k < i → pl[k]? = some c → s.1.1 426 c = σ.1 426 n + (if h then oI (Sm (fun x => g x + 1) (pl.take k)) else 0) ∧ s.1.1 427 c = σ.1 427 n + (if h then 0 else oI (Sm (fun x => g x + 1) (pl.take k))) ∧ s.1.1 428 c = (if h then oI (g c) else σ.1 428 n) ∧ s.1.1 429 c = (if h then σ.1 429 n else oI (g c))) pl.length ?_ ?_ pl.length 0 FU (σ, 0, 0) (by omega) (by show _ < 6000; omega) ⟨rfl, rfl, ⟨rfl, fun _ _ => rfl, fun _ _ _ => rfl⟩, fun k c hk => absurd hk (by omega)⟩
  · rintro m i ⟨s, a, l⟩ hi ⟨rfl, rfl, ⟨f1, f2, f3⟩, hv⟩
    simp only at f1 f2 f3 hv
    have gi := List.getElem?_eq_getElem hi
    generalize pl[i] = c at gi
    have hc : c ∈ pl := List.mem_iff_getElem?.mpr ⟨i, gi⟩
    obtain ⟨c23, cn⟩ := mem c hc
    have nn : ¬ n ∈ pl := fun z => (mem n z).2 rfl
    have s31 : s.1 431 i = nI c := by rw [f2 431 (by omega)]; exact h31 i c gi
    have s35 : s.1 435 i = oI (g c) := by rw [f2 435 (by omega), ← h35 i c gi, j_oIt]
    obtain ⟨σ2, a2, b1, b2, b3, b4, b5, b6, b7⟩ := s_arr1 (σ := s) hn c23 (k := i) (by omega) cn (fX2_arrange_105 422 6 m) l3 (nI pl.length) (oI (Sm (fun x => g x + 1) (pl.take i))) h
    show ∃ s' : Sg × Int32 × Int32, _ ∧ fX2_arrange_105 422 6 (m + 1) s (nI n) l3 (nI pl.length) (oI (Sm (fun x => g x + 1) (pl.take i))) (nI i) = _
    have nle : ¬ nI pl.length ≤ nI i := by rw [j_le, j_nI (by omega), j_nI (by omega)]; omega
    have st : fX2_arrange_105 422 6 (m + 1) s (nI n) l3 (nI pl.length) (oI (Sm (fun x => g x + 1) (pl.take i))) (nI i) = fX2_arrange_132 422 6 (fX2_arrange_105 422 6 m) s (nI n) l3 (nI pl.length) (oI (Sm (fun x => g x + 1) (pl.take i))) (nI i) (nI c) (if h then 1 else 0) := by
      rw [fX2_arrange_105, if_neg nle, show (422 + 9 : Nat) = 431 from rfl, s_atn (by decide) (by omega), j_b, s31]
      cases h
      · rw [if_neg (fun z => by cases hl.mp z)]
        rfl
      · rw [if_pos (hl.mpr rfl)]
        rfl
    rw [st, a2]
    refine ⟨(σ2, _, nI (i + 1)), ⟨rfl, ?_, ⟨b1.trans f1, fun j hj => (b2 j hj).trans (f2 j hj), fun j z hz => (b3 j z (fun y => hz (y ▸ hc))).trans (f3 j z hz)⟩, fun k z hk gz => ?_⟩, rfl⟩
    · show oI _ + (s.1 435 i + 1) = _
      rw [s35, show (1 : Int32) = oI 1 from rfl, j_oa, j_oa, take_snoc gi, Sm_app]
      refine congrArg oI ?_
      show _ = _ + (g c + 1 + 0)
      omega
    · show σ2.1 426 z = _ ∧ σ2.1 427 z = _ ∧ σ2.1 428 z = _ ∧ σ2.1 429 z = _
      by_cases q : k = i
      · subst q
        have : z = c := Option.some.inj (gz.symm.trans gi)
        subst this
        rw [b4, b5, b6, b7, f3 426 n nn, f3 427 n nn, f3 428 n nn, f3 429 n nn, s35]
        exact ⟨rfl, rfl, rfl, rfl⟩
      · have : z ≠ c := fun y => q (nd_inj nd gz (y ▸ gi))
        rw [b3 _ z this, b3 _ z this, b3 _ z this, b3 _ z this]
        exact hv k z (by omega) gz
  · rintro m ⟨s, a, l⟩ ⟨rfl, rfl, ⟨f1, f2, f3⟩, hv⟩
    simp only at f1 f2 f3 hv
    show ∃ σ', fX2_arrange_105 422 6 (m + 1) s (nI n) l3 (nI pl.length) _ (nI pl.length) = _ ∧ _
    rw [fX2_arrange_105, if_pos (by rw [j_le]; exact Int.le_refl _)]
    exact ⟨s, rfl, ⟨f1, fun j hj => f2 j (by omega), fun j i _ _ hi => f3 j i hi⟩, fun k c hk => hv k c (List.getElem?_eq_some_iff.mp hk).1 hk⟩
end AR
