/-! THE RELATION: the reference's plan (13): all picks -/
section MM9
variable {σ : Sg} {V : VW} {d : Nat → Nat} {wn : Nat → Int} {X Y : Nat → Bool}
theorem m_ev46 (h : VM (mv (σ.1 463)) V X) (t : Tree V d wn Y) {n : Nat} (hn : n < 23) (k1 : V 8 n ≤ 1) (h12 : σ.1 462 12 = nI n) {P : VW} {op : Nat → Bool} (ho : MO σ (pls V P n) op) {W L5 : Int64} (eW : 0 < W.toInt ∧ W.toInt ≤ 1000000000) (e5 : 0 ≤ L5.toInt ∧ L5.toInt ≤ 400) {r : Nat → Int} (hr : ∀ c ∈ pls V P n, r c = L5.toInt * V 11 c % W.toInt) {sh : Nat → Int} (hsh : ∀ c ∈ pls V P n, (σ.1 470 c).toInt = sh c ∧ 0 ≤ sh c ∧ sh c ≤ 965) {R : Int64} {R0 : Nat} (hR : R.toInt = R0) (hRn : (R0 : Int) ≤ xn (pls V P n) op) : ∃ σ', fX9_evens_46 462 FU σ L5 W R = some σ' ∧ Out σ σ' 470 471 ∧ ∀ c ∈ pls V P n, (σ'.1 470 c).toInt = xs (pls V P n) r R0 op sh c := by
  have nd := t.pls_nd (P := P) hn k1
  have len := t.pls_len (P := P) hn k1
  have xl := (xn_le op (pls V P n)).2
  have one : (1 : Int64).toInt = 1 := rfl
  refine lp (F := fun f (s : Sg × Int64) => fX9_evens_46 462 f s.1 L5 W s.2) (Q := fun o => ∃ σ', o = some σ' ∧ Out σ σ' 470 471 ∧ ∀ c ∈ pls V P n, (σ'.1 470 c).toInt = xs (pls V P n) r R0 op sh c) (fun i s => s.2.toInt = (R0 : Int) - i ∧ Out σ s.1 470 471 ∧ ∃ op' sh', MO s.1 (pls V P n) op' ∧ (∀ c ∈ pls V P n, (s.1.1 470 c).toInt = sh' c ∧ 0 ≤ sh' c ∧ sh' c ≤ 965 + (i : Int)) ∧ (R0 : Int) - i ≤ xn (pls V P n) op' ∧ xs (pls V P n) r R0 op sh = xs (pls V P n) r (R0 - i) op' sh') R0 ?_ ?_ R0 0 FU (σ, R) (by omega) (by show R0 < 6000; omega) ⟨by rw [hR]; omega, Out.rf, op, sh, ho, fun c hc => by have := hsh c hc; exact ⟨this.1, this.2.1, by omega⟩, by omega, rfl⟩
  · rintro f i ⟨s, R'⟩ hi ⟨hR', hO, op', sh', ho', hs', hx, hxs⟩
    simp only at hR' hO ho' hs'
    have e63 : s.1 463 = σ.1 463 := hO.2 463 (by omega)
    have nl : ¬ (lg_cmp R' 0) ≤ 0 := by rw [k_le, hR', kz0]; omega
    obtain ⟨z, hz, oz⟩ := xn_ex (pl := pls V P n) (op := op') (by omega)
    obtain ⟨c, hc, oc, ec, hp⟩ := m_pick (σ := s) (V := V) (X := X) (op := op) (by rw [e63]; exact h) t hn k1 (by rw [hO.2 462 (by omega)]; exact h12) (P := P) ho' eW e5 hr ⟨z, hz, oz⟩ (fX9_evens_46 462 f) R'
    show ∃ s' : Sg × Int64, _ ∧ fX9_evens_46 462 (f + 1) s L5 W R' = _
    rw [fX9_evens_46, if_neg nl, j_nm, hp]
    obtain ⟨v1, v2, v3⟩ := hs' c hc
    have add : (s.1 470 c + 1).toInt = sh' c + 1 := by
      rw [j_add (by rw [v1, jz1]; omega) (by rw [v1, jz1]; omega), v1, jz1]
    have c24 : c < 24 := by have := ((t.pls_mem hn k1).mp hc).1; omega
    refine ⟨(su (su s 470 c (s.1 470 c + 1)) 471 c 0, R' - 1), ⟨?_, (hO.tr (su_out.mo (by omega) (by omega))).tr (su_out.mo (by omega) (by omega)), fun y => op' y && !decide (y = c), fun y => if y = c then sh' y + 1 else sh' y, ⟨fun y hy => ?_, fun y hy => ?_⟩, fun y hy => ?_, ?_, ?_⟩, rfl⟩
    · show (R' - 1).toInt = _
      rw [k_sub (by rw [hR', one]; omega) (by rw [hR', one]; omega), hR', one]
      omega
    · simp only [Bool.and_eq_true] at hy
      exact ho'.1 y hy.1
    · show (su (su s 470 c _) 471 c 0).1 471 y = _
      rw [su_at]
      by_cases q : y = c
      · rw [if_pos ⟨rfl, q⟩]
        simp [q]
      · rw [if_neg (fun u => q u.2), su_at, if_neg (by omega), ho'.2 y hy]
        simp [q]
    · have hy' := hs' y hy
      show ((su (su s 470 c (s.1 470 c + 1)) 471 c 0).1 470 y).toInt = (if y = c then sh' y + 1 else sh' y) ∧ 0 ≤ (if y = c then sh' y + 1 else sh' y) ∧ (if y = c then sh' y + 1 else sh' y) ≤ 965 + ((i + 1 : Nat) : Int)
      rw [su_at, if_neg (by omega), su_at]
      by_cases q : y = c
      · rw [if_pos ⟨rfl, q⟩, if_pos q, add, q]
        omega
      · rw [if_neg (fun u => q u.2), if_neg q]
        omega
    · rw [xn_rm nd hc oc]
      omega
    · rw [hxs]
      obtain ⟨q, hq⟩ : ∃ q, R0 - i = q + 1 := ⟨R0 - i - 1, by omega⟩
      have hq2 : R0 - (i + 1) = q := by omega
      rw [hq, hq2]
      show xs (pls V P n) r q (fun z => op' z && !decide (z = (xp r op' (pls V P n) (-1) (-1)).toNat)) (fun z => if z = (xp r op' (pls V P n) (-1) (-1)).toNat then sh' z + 1 else sh' z) = _
      rw [ec]
      rfl
  · rintro f ⟨s, R'⟩ ⟨hR', hO, op', sh', ho', hs', hx, hxs⟩
    simp only at hR' hO ho' hs'
    show ∃ σ', fX9_evens_46 462 (f + 1) s L5 W R' = _ ∧ _
    rw [fX9_evens_46, if_pos (by rw [k_le, hR', kz0]; omega)]
    refine ⟨s, rfl, hO, fun c hc => ?_⟩
    rw [hxs, Nat.sub_self]
    exact (hs' c hc).1
end MM9
