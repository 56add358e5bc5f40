/-! THE RELATION: the reference's plan (14): the shares of a split's children -/
section MN9
variable {σ : Sg} {V : VW} {d : Nat → Nat} {wn : Nat → Int} {X Y : Nat → Bool} {m w : Nat → Int} {room : Int}
theorem mq_o7 {σ σ' : Sg} (h : Out σ σ' 470 471) : mq σ' = mq σ := by
  funext j n
  unfold mq
  rw [h.2 467 (by omega), h.2 468 (by omega), h.2 469 (by omega)]
theorem m_tightens (h : VM (mv (σ.1 463)) V X) (t : Tree V d wn Y) {n D : Nat} (hn : n < 23) (k1 : V 8 n ≤ 1) (hD : D ≤ 1) (hc : ∀ i, i < 23 → V 9 i = n → mq σ 1 i = 0 ∨ mq σ 1 i = 1) (h12 : σ.1 462 12 = nI n) (h0 : 0 ≤ room ∧ room ≤ 400) (x : XB (pls V (mq σ) n) m w) (hs : Sm m (pls V (mq σ) n) < room) {op : Nat → Bool} (ho1 : 1 ≤ xn (pls V (mq σ) n) op) (ho : MO σ (pls V (mq σ) n) op) (hm : ∀ c ∈ pls V (mq σ) n, m c = mq σ (2 + D) c) (hw : ∀ c ∈ pls V (mq σ) n, w c = V 11 c) (hcl : ∀ c ∈ pls V (mq σ) n, op c = false → (σ.1 470 c).toInt = m c) : ∃ σ', fX9_tightens σ 462 (oI room) (nI D) = some (xa (pls V (mq σ) n) op (xo (pls V (mq σ) n) room m w op), σ') ∧ Out σ σ' 470 471 ∧ (xa (pls V (mq σ) n) op (xo (pls V (mq σ) n) room m w op) = true → MO σ' (pls V (mq σ) n) (xo (pls V (mq σ) n) room m w op) ∧ ∀ c ∈ pls V (mq σ) n, xo (pls V (mq σ) n) room m w op c = false → (σ'.1 470 c).toInt = m c) ∧ (xa (pls V (mq σ) n) op (xo (pls V (mq σ) n) room m w op) = false → ∀ c ∈ pls V (mq σ) n, (σ'.1 470 c).toInt = xs (pls V (mq σ) n) (xr (pls V (mq σ) n) room m w op) (room - Sm (xe (pls V (mq σ) n) room m w op) (pls V (mq σ) n)).toNat op (xe (pls V (mq σ) n) room m w op) c) := by
  have nd := t.pls_nd (P := mq σ) hn k1
  have memt := fun c => t.pls_mem (P := mq σ) hn k1 (c := c)
  obtain ⟨W, e1, eW⟩ := m_tight5 h t hn k1 hD hc h12 ho hm hw (oI room)
  obtain ⟨c0, c1⟩ := xc_rg x hs op
  have er : (oI room).toInt = room := j_oI (by omega) (by omega)
  have exc : (oI (xc (pls V (mq σ) n) m op)).toInt = xc (pls V (mq σ) n) m op := j_oI (by omega) (by omega)
  have e5 : ((oI room - oI (xc (pls V (mq σ) n) m op)).toInt64).toInt = room - xc (pls V (mq σ) n) m op := by
    rw [k_64, j_sub (by rw [er, exc]; omega) (by rw [er, exc]; omega), er, exc]
  rw [e1]
  generalize (oI room - oI (xc (pls V (mq σ) n) m op)).toInt64 = L5 at e5
  have mem : ∀ c ∈ pls V (mq σ) n, c < 23 ∧ V 9 c ≠ -1 := fun c hc => by
    have := (memt c).mp hc
    exact ⟨this.1, by rw [this.2.1]; omega⟩
  obtain ⟨σ1, a1, o1, v1, k1'⟩ := m_tight59 h hD mem x h0 hs ho1 ho hm hw e5 eW
  rw [a1]
  have q1 : mq σ1 = mq σ := mq_o7 (o1.mo (by omega) (by omega))
  have ho' : MO σ1 (pls V (mq σ) n) op := ⟨ho.1, fun c hc => by rw [o1.2 471 (by omega)]; exact ho.2 c hc⟩
  have e63 : σ1.1 463 = σ.1 463 := o1.2 463 (by omega)
  cases q : xa (pls V (mq σ) n) op (xo (pls V (mq σ) n) room m w op)
  · rw [if_neg (by decide)]
    obtain ⟨R, a2, eR⟩ := m_ev6 (W := W) nd (fun c hc => (mem c hc).1) ho' v1 (fun c oc => xq_rg x h0 hs (ho.1 c oc) oc) (by omega) e5
    have rest := xe_rest x.1 ho1 hs
    obtain ⟨y, hy, ey⟩ := xn_ex ho1
    have wp := xw_pos x.1 hy ey
    have wB := Sm_up (f := fun c => if op c then w c else 0) (B := 1000000) (l := pls V (mq σ) n) (fun c hc => by
      have := x.2.2.2 c hc
      show (if op c then w c else 0) ≤ 1000000
      split <;> omega)
    have len := x.2.1
    have wB2 : xw (pls V (mq σ) n) w op ≤ 1000000 * 23 := by
      have : xw (pls V (mq σ) n) w op = Sm (fun c => if op c then w c else 0) (pls V (mq σ) n) := rfl
      omega
    obtain ⟨σ2, a3, o3, v3⟩ := m_ev46 (σ := σ1) (W := W) (L5 := L5) (R := R) (X := X) (by rw [e63]; exact h) t hn k1 (by rw [o1.2 462 (by omega)]; exact h12) (P := mq σ) ho' ⟨by rw [eW]; omega, by rw [eW]; omega⟩ (by omega) (r := xr (pls V (mq σ) n) room m w op) (fun c hc => by
      rw [e5, eW, ← hw c hc]
      rfl) (sh := xe (pls V (mq σ) n) room m w op) (fun c hc => by
      have mb := x.2.2.1 c hc
      have m0 := x.1.2.1 c hc
      unfold xe
      cases oc : op c
      · simp only [Bool.false_eq_true, if_false]
        rw [k1' c oc, hcl c hc oc]
        exact ⟨rfl, m0, mb⟩
      · simp only [if_true]
        have := xq_rg x h0 hs hc oc
        exact ⟨v1 c oc, by omega, by omega⟩) (R0 := (room - Sm (xe (pls V (mq σ) n) room m w op) (pls V (mq σ) n)).toNat) (by rw [eR]; omega) (by omega)
    refine ⟨σ2, ?_, (o1.mo (by omega) (by omega)).tr o3, fun z => (by cases z), fun _ => v3⟩
    rw [a2, a3]
    rfl
  · rw [if_pos rfl]
    obtain ⟨σ2, a2, o2, mo2, v2, v3, v4⟩ := m_tight153 (σ := σ1) hD (fun c hc => (mem c hc).1) ho' (fun c hc => by rw [q1]; exact hm c hc) v1
    refine ⟨σ2, a2, (o1.mo (by omega) (by omega)).tr o2, fun _ => ⟨mo2, fun c hc xc => ?_⟩, fun z => (by cases z)⟩
    cases oc : op c
    · rw [v4 c oc, k1' c oc]
      exact hcl c hc oc
    · exact v3 c oc xc
theorem m_ls236 {P : VW} (t : Tree V d wn Y) {n D : Nat} (hn : n < 23) (k1 : V 8 n ≤ 1) (hD : D ≤ 1) (hc : ∀ i, i < 23 → V 9 i = n → P 1 i = 0 ∨ P 1 i = 1) (h0 : 0 ≤ room ∧ room ≤ 400) (x : XB (pls V P n) m w) (hs : Sm m (pls V P n) < room) (hm : ∀ c ∈ pls V P n, m c = P (2 + D) c) (hw : ∀ c ∈ pls V P n, w c = V 11 c) : ∀ (k fuel : Nat) (σ : Sg) (op : Nat → Bool), VM (mv (σ.1 463)) V X → σ.1 462 12 = nI n → mq σ = P → MO σ (pls V P n) op → (∀ c ∈ pls V P n, op c = false → (σ.1 470 c).toInt = m c) → 1 ≤ xn (pls V P n) op → xn (pls V P n) op ≤ k → k + 1 < fuel → ∃ σ', fX9_laysShares_236 462 fuel σ (nI D) (oI room) 1 = some σ' ∧ Out σ σ' 470 471 ∧ ∀ c ∈ pls V P n, (σ'.1 470 c).toInt = xs (pls V P n) (xr (pls V P n) room m w (xg (pls V P n) room m w k op)) (room - Sm (xe (pls V P n) room m w (xg (pls V P n) room m w k op)) (pls V P n)).toNat (xg (pls V P n) room m w k op) (xe (pls V P n) room m w (xg (pls V P n) room m w k op)) c
  | 0, fuel, σ, op, _, _, _, _, _, h1, h2, _ => absurd h1 (by omega)
  | k + 1, 0, σ, op, _, _, _, _, _, _, _, hf => absurd hf (by omega)
  | k + 1, 1, σ, op, _, _, _, _, _, _, _, hf => absurd hf (by omega)
  | k + 1, fuel + 2, σ, op, h, h12, hP, ho, hcl, h1, h2, hf => by
    subst hP
    obtain ⟨σ1, a1, o1, T, F⟩ := m_tightens h t hn k1 hD hc h12 h0 x hs h1 ho hm hw hcl
    have n1 : ¬ (1 : Int32) = 0 := by decide
    rw [fX9_laysShares_236, if_neg n1, a1, j_b]
    cases q : xa (pls V (mq σ) n) op (xo (pls V (mq σ) n) room m w op)
    · rw [show b2i (false, σ1).1 = 0 from rfl, fX9_laysShares_236, if_pos rfl]
      have eg : xg (pls V (mq σ) n) room m w (k + 1) op = op := by
        unfold xg
        rw [q, if_neg (by decide)]
      rw [eg]
      exact ⟨σ1, rfl, o1, F q⟩
    · rw [show b2i (true, σ1).1 = 1 from rfl]
      obtain ⟨mo1, v1⟩ := T q
      have lt := xa_lt (op := op) (op' := xo (pls V (mq σ) n) room m w op) (fun c => xo_in c) q
      have eg : xg (pls V (mq σ) n) room m w (k + 1) op = xg (pls V (mq σ) n) room m w k (xo (pls V (mq σ) n) room m w op) := by
        show (if xa (pls V (mq σ) n) op (xo (pls V (mq σ) n) room m w op) = true then _ else _) = _
        rw [q, if_pos rfl]
      rw [eg]
      have e63 : σ1.1 463 = σ.1 463 := o1.2 463 (by omega)
      obtain ⟨σ2, a2, o2, v2⟩ := m_ls236 t hn k1 hD hc h0 x hs hm hw k (fuel + 1) σ1 (xo (pls V (mq σ) n) room m w op) (by rw [e63]; exact h) (by rw [o1.2 462 (by omega)]; exact h12) (mq_o7 o1) mo1 v1 (xo_ne x.1 hs h1) (by omega) (by omega)
      exact ⟨σ2, a2, o1.tr o2, v2⟩
end MN9
