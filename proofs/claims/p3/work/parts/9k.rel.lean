/-! THE RELATION: the reference's plan (11): what is left over -/
section MK9
variable {σ : Sg} {pl : List Nat} {m w : Nat → Int} {room : Int}
theorem m_ev6 (nd : pl.Nodup) (mem : ∀ c ∈ pl, c < 23) {op : Nat → Bool} (ho : MO σ pl op) (hq : ∀ c, op c = true → (σ.1 470 c).toInt = xq pl room m w op c) (hB : ∀ c, op c = true → 0 ≤ xq pl room m w op c ∧ xq pl room m w op c ≤ 400) (hr : 0 ≤ room - xc pl m op ∧ room - xc pl m op ≤ 400) {L5 W : Int64} (e5 : L5.toInt = room - xc pl m op) : ∃ R : Int64, fX9_evens σ 462 L5 W = fX9_evens_46 462 FU σ L5 W R ∧ R.toInt = room - Sm (xe pl room m w op) pl := by
  have tot : sm (fun c => if op c then xq pl room m w op c else 0) 24 = Sm (fun c => if op c then xq pl room m w op c else 0) pl := sm_pl nd mem _ (fun c hc => if_neg (fun z => hc (ho.1 c z)))
  have e1 : Sm (xe pl room m w op) pl = xc pl m op + Sm (fun c => if op c then xq pl room m w op c else 0) pl := by
    unfold xc
    rw [← Sm_add]
    refine Sm_congr (fun c _ => ?_)
    show (if op c then xq pl room m w op c else m c) = (if op c then 0 else m c) + (if op c then xq pl room m w op c else 0)
    cases op c <;> simp
  have bd : ∀ i, i ≤ 24 → 0 ≤ sm (fun c => if op c then xq pl room m w op c else 0) i ∧ sm (fun c => if op c then xq pl room m w op c else 0) i ≤ 400 * (i : Int) := by
    intro i
    induction i with
    | zero => exact fun _ => ⟨Int.le_refl _, Int.le_refl _⟩
    | succ i ih =>
      intro hi
      have := ih (by omega)
      have e : sm (fun c => if op c then xq pl room m w op c else 0) (i + 1) = sm (fun c => if op c then xq pl room m w op c else 0) i + (if op i then xq pl room m w op i else 0) := rfl
      rw [e]
      cases oi : op i
      · simp only [Bool.false_eq_true, if_false]
        omega
      · have := hB i oi
        simp only [if_true]
        omega
  have goal : room - Sm (xe pl room m w op) pl = (room - xc pl m op) - sm (fun c => if op c then xq pl room m w op c else 0) 24 := by
    rw [e1, tot]
    omega
  rw [goal]
  unfold fX9_evens
  refine lp (F := fun f (s : Int64 × Int32) => fX9_evens_6 462 f σ L5 W s.1 s.2) (Q := fun o => ∃ R : Int64, o = fX9_evens_46 462 FU σ L5 W R ∧ R.toInt = (room - xc pl m op) - sm (fun c => if op c then xq pl room m w op c else 0) 24) (fun i s => s.1.toInt = (room - xc pl m op) - sm (fun c => if op c then xq pl room m w op c else 0) i ∧ s.2 = nI i) 24 ?_ ?_ 24 0 FU (L5, 0) rfl (by decide) ⟨by
    show L5.toInt = _ - 0
    rw [e5]
    omega, rfl⟩
  · rintro f i ⟨a, l⟩ hi ⟨ha, rfl⟩
    simp only at ha
    have nle : ¬ (24 : Int32) ≤ nI i := n_ge 24 (m := 24) rfl hi (by decide)
    have cki : ck (nI i) 24 := j_ckn hi (by decide)
    have ecl : (nI i).toNatClampNeg = i := j_cl _ (by omega)
    have s9 : σ.1 (462 + 9) (nI i).toNatClampNeg = 0 ↔ op i = false := by
      rw [ecl]
      exact ho.f hi
    have nx : sm (fun c => if op c then xq pl room m w op c else 0) (i + 1) = sm (fun c => if op c then xq pl room m w op c else 0) i + (if op i then xq pl room m w op i else 0) := rfl
    have b := bd i (by omega)
    show ∃ s' : Int64 × Int32, _ ∧ fX9_evens_6 462 (f + 1) σ L5 W a (nI i) = _
    rw [fX9_evens_6, if_neg nle, if_pos cki]
    cases oi : op i
    · rw [if_pos (s9.mpr oi)]
      unfold fX9_evens_37
      rw [j_nm, j_s]
      refine ⟨(_, nI (i + 1)), ⟨?_, rfl⟩, rfl⟩
      show (a - 0).toInt = _
      rw [k_sub (by rw [ha, kz0]; omega) (by rw [ha, kz0]; omega), ha, kz0, nx, oi]
      simp
    · have n9 : ¬ σ.1 (462 + 9) (nI i).toNatClampNeg = 0 := fun y => by
        rw [s9, oi] at y
        cases y
      have qb := hB i oi
      have v8 : (σ.1 (462 + 8) (nI i).toNatClampNeg).toInt64.toInt = xq pl room m w op i := by
        rw [k_64, ecl]
        exact hq i oi
      rw [if_neg n9, if_pos cki]
      unfold fX9_evens_37
      rw [j_nm, j_s]
      refine ⟨(_, nI (i + 1)), ⟨?_, rfl⟩, rfl⟩
      show (a - (σ.1 (462 + 8) (nI i).toNatClampNeg).toInt64).toInt = _
      rw [k_sub (by rw [ha, v8]; omega) (by rw [ha, v8]; omega), ha, v8, nx, oi]
      simp only [if_true]
      omega
  · rintro f ⟨a, l⟩ ⟨ha, rfl⟩
    simp only at ha
    show ∃ R : Int64, fX9_evens_6 462 (f + 1) σ L5 W a (nI 24) = _ ∧ _
    rw [fX9_evens_6, if_pos (n_le 24 (m := 24) rfl (by decide))]
    exact ⟨a, rfl, ha⟩
end MK9
