/-! THE RELATION: a pane goes, in the reference (2) -/
section MY
variable {σ : Sg} {V : VW} {d : Nat → Nat} {wn : Nat → Int}
theorem v_ta_m1 {V : VW} {g : Nat} (h : Nmb 12 (fun p => decide (V 13 p = g)) (V 14)) {k : Nat} (hk : v_tc V g ≤ k) : v_ta V g k = -1 := by
  rcases v_ta_sp V g k with a | ⟨q, a, b, c, e⟩
  · exact a
  · have := h.1 q a (by simp [c])
    unfold v_tc at hk
    omega
theorem v_ta_ex {V : VW} {g : Nat} (h : Nmb 12 (fun p => decide (V 13 p = g)) (V 14)) {k : Nat} (hk : k < v_tc V g) : ∃ q : Nat, q < 12 ∧ v_ta V g k = q ∧ V 13 q = g ∧ V 14 q = k := by
  obtain ⟨q, a, b, c⟩ := h.2.1 k hk
  rw [decide_eq_true_eq] at b
  exact ⟨q, a, by rw [← c]; exact v_ta_at h a b, b, c⟩
/-- shown, with p taken as hidden -/
theorem ok_hid {V : VW} {p : Nat} (hp : p < 12) {g k q : Nat} (ht : v_ta V g k = q) (hq : q < 12) : v_ok (up V 15 p 1) g k = (decide (q ≠ p) && decide (V 15 q ≠ 1)) := by
  have e : v_ta (up V 15 p 1) g k = q := by
    have h13 : (up V 15 p 1) 13 = V 13 := up_ne (by decide)
    have h14 : (up V 15 p 1) 14 = V 14 := up_ne (by decide)
    rw [← ht]
    unfold v_ta
    rw [h13, h14]
  unfold v_ok
  rw [e, v_hd_in hq, up15 hp]
  have : ¬ (q : Int) = -1 := by omega
  by_cases z : q = p
  · simp [z]
  · simp [z, this]
theorem m_yields (h : VM (mv (σ.1 463)) V (fun _ => false)) (tb : Tabs V (fun _ => false)) {a : Int32} {p g : Nat} (ha : a.toInt = p) (hp : p < 12) (hg : V 13 p = g) : Mo (fX9_yields σ 462 a) σ (if V 12 g = p then mu (mv (σ.1 463)) 5 g (v_ai (up V 15 p 1) g (V 14 p)) else mv (σ.1 463)) := by
  obtain ⟨g1, g2⟩ := tb.g2 hp hg
  have nu := tb.nu g1 g2
  have spp := nu.1 p hp (by simp [hg])
  have tc12 : v_tc V g ≤ 12 := cnt_le _ 12
  have tcp : (V 14 p) < v_tc V g := spp.2
  have eg : (oI (g : Int)).toInt = g := j_oI (by omega) (by omega)
  unfold Mo fX9_yields
  rw [m_o3 ha hp, j_b, h.gr hp, hg, m_i5 eg (by omega), j_b, h.ac g1 g2 rfl]
  have a12 : -1 ≤ V 12 g ∧ V 12 g < 12 := by
    rcases (tb.fu g1 g2 rfl).2 with ⟨x, _⟩ | ⟨c, c1, c2, _⟩ <;> omega
  by_cases q : V 12 g = p
  · rw [if_pos (by rw [j_eq, j_oI (by omega) (by omega), ha]; exact q), if_pos q, m_tabMany, j_b, eg, h.tc]
    have e10 : mv (σ.1 463) 10 p = V 14 p := h.sp hp (by omega)
    -- what next is before spot k
    have N0 : ∀ k : Nat, k ≤ v_tc V g → ((v_tc V g : Nat) : Int) = (oI (v_tc V g)).toInt := fun k _ => (t_tc V g).symm
    obtain ⟨ok, hok⟩ : ∃ f : Nat → Bool, f = v_ok (up V 15 p 1) g := ⟨_, rfl⟩
    obtain ⟨nx, hnx⟩ : ∃ f : Nat → Int, ∀ k, f k = if lst ok k = -1 then -1 else v_ta V g (lst ok k) := ⟨_, fun _ => rfl⟩
    have okv : ∀ k, k < v_tc V g → ∃ q : Nat, q < 12 ∧ v_ta V g k = q ∧ V 13 q = g ∧ V 14 q = k ∧ ok k = (decide (q ≠ p) && decide (V 15 q ≠ 1)) := fun k hk => by
      obtain ⟨q, q1, q2, q3, q4⟩ := v_ta_ex nu hk
      exact ⟨q, q1, q2, q3, q4, by rw [hok]; exact ok_hid hp q2 q1⟩
    have okno : ∀ k, v_tc V g ≤ k → ok k = false := fun k hk => by
      have h13 : (up V 15 p 1) 13 = V 13 := up_ne (by decide)
      have h14 : (up V 15 p 1) 14 = V 14 := up_ne (by decide)
      have e : v_ta (up V 15 p 1) g k = -1 := by
        have := v_ta_m1 nu hk
        unfold v_ta at this ⊢
        rw [h13, h14]
        exact this
      rw [hok]
      unfold v_ok
      rw [e]
      simp
    have taV : ∀ k : Int, v_ta (up V 15 p 1) g k = v_ta V g k := fun k => by
      have h13 : (up V 15 p 1) 13 = V 13 := up_ne (by decide)
      have h14 : (up V 15 p 1) 14 = V 14 := up_ne (by decide)
      unfold v_ta
      rw [h13, h14]
    obtain ⟨s, hs⟩ : ∃ s : Nat, V 14 p = s := ⟨(V 14 p).toNat, by omega⟩
    rw [hs] at e10
    obtain ⟨cur, hcur⟩ : ∃ f : Nat → Int, ∀ i, f i = if i ≤ s then nx i else nx s := ⟨_, fun _ => rfl⟩
    have AI : ∀ r : Int, ((fnd (fun k => decide ((s : Int) < k) && ok k) 12 = -1 ∧ r = nx s) ∨ ∃ k : Nat, k < 12 ∧ fnd (fun k => decide ((s : Int) < k) && ok k) 12 = k ∧ r = v_ta V g k) → r = v_ai (up V 15 p 1) g (V 14 p) := fun r hr => by
      rw [hs]
      unfold v_ai
      rw [← hok]
      rcases hr with ⟨x, y⟩ | ⟨k, k1, x, y⟩
      · rw [x, if_pos rfl, y, hnx, Int.toNat_natCast, taV]
      · rw [x, if_neg (by omega), y, taV]
    have LS : ∀ k, lst ok (k + 1) = if ok k then (k : Int) else lst ok k := fun k => rfl
    have fin : ∀ r : Int, -1 ≤ r ∧ r < 12 → r = v_ai (up V 15 p 1) g (V 14 p) → ∃ σ', fX9_yields_108 462 σ (oI (g : Int)) (oI r) = some σ' ∧ Out σ σ' 463 463 ∧ mv (σ'.1 463) = mu (mv (σ.1 463)) 5 g (v_ai (up V 15 p 1) g (V 14 p)) := fun r hr er => by
      obtain ⟨σ1, a1, o1, v1⟩ := m_l5 (σ := σ) eg (by omega : g < 24) (oI r)
      unfold fX9_yields_108
      rw [a1, j_b]
      exact ⟨σ1, rfl, o1, by rw [v1, j_oI (by omega) (by omega), er]⟩
    have nxr : ∀ k, -1 ≤ nx k ∧ nx k < 12 := fun k => by
      rw [hnx]
      split
      · omega
      · exact v_ta_rg _ _ _
    refine lpx (F := fun n (t : Int32 × Int32) => fX9_yields_30 462 n σ a (oI (g : Int)) t.1 (oI (v_tc V g)) t.2) (Q := fun r => ∃ σ', r = some σ' ∧ Out σ σ' 463 463 ∧ mv (σ'.1 463) = mu (mv (σ.1 463)) 5 g (v_ai (up V 15 p 1) g (V 14 p))) (fun i t => t = (oI (cur i), nI i) ∧ ∀ k, s < k → k < i → ok k = false) (v_tc V g) ?_ ?_ (v_tc V g) 0 FU (-1, 0) (Nat.zero_add _) (by show _ < 6000; omega) ⟨by
        rw [hcur, if_pos (Nat.zero_le _), hnx]
        rfl, fun k _ hk => absurd hk (by omega)⟩
    · rintro n i _ hi ⟨rfl, hno⟩
      obtain ⟨q, q1, q2, q3, q4, q5⟩ := okv i hi
      have eq : (oI (q : Int)).toInt = q := j_oI (by omega) (by omega)
      show (∃ σ', fX9_yields_30 462 (n + 1) σ a (oI (g : Int)) (oI (cur i)) (oI (v_tc V g)) (nI i) = some σ' ∧ _) ∨ _
      rw [fX9_yields_30, if_neg (by rw [j_le, t_tc, j_nI (by omega)]; omega), m_tabAt, j_b, eg, j_nI (by omega), h.ta (by omega), q2]
      unfold fX9_yields_66 fX9_yields_67 fX9_yields_91 fX9_yields_102
      have e11 : mv (σ.1 463) 11 q = V 15 q := h.hi q1
      have hq01 := tb.hi q1
      by_cases z : q = p
      · -- the pane itself
        have is : i = s := by rw [z] at q4; omega
        right
        rw [if_pos (by rw [j_eq, eq, ha, z]), if_pos rfl, if_pos rfl]
        have oki : ok i = false := by rw [q5]; simp [z]
        refine ⟨_, ⟨rfl, fun k k1 k2 => ?_⟩, ?_⟩
        · omega
        · show fX9_yields_30 462 n σ a (oI (g : Int)) _ (oI (v_tc V g)) (nI i + 1) = fX9_yields_30 462 n σ a (oI (g : Int)) (oI (cur (i + 1))) (oI (v_tc V g)) (nI (i + 1))
          rw [j_s, hcur, hcur, if_pos (by omega), if_neg (by omega), is]
      · rw [if_neg (by rw [j_eq, eq, ha]; omega), m_o5 eq q1, j_b, e11]
        by_cases y : V 15 q = 0
        · have oki : ok i = true := by rw [q5]; simp [z, y]
          rw [if_pos (by rw [y]; rfl), if_neg (by decide), m_o4 ha hp, j_b, e10]
          by_cases w : (s : Int) ≤ i
          · -- the first one behind
            left
            rw [if_pos (by rw [j_le, j_oI (by omega) (by omega), j_nI (by omega)]; exact w), if_neg (by decide)]
            have ns : s ≠ i := fun x => z (by
              have := nu.2.2 q p q1 hp (by simp [q3]) (by simp [hg]) (by omega)
              exact this)
            refine fin q (by omega) (AI q (Or.inr ⟨i, by omega, fnd_at (by omega) (by simp [oki]; omega) (fun k hk => ?_), q2.symm⟩))
            by_cases x : (s : Int) < k
            · simp [hno k (by omega) hk]
            · simp [x]
          · -- one before
            right
            rw [if_neg (by rw [j_le, j_oI (by omega) (by omega), j_nI (by omega)]; exact w)]
            refine ⟨_, ⟨rfl, fun k k1 k2 => by omega⟩, ?_⟩
            show fX9_yields_30 462 n σ a (oI (g : Int)) _ (oI (v_tc V g)) (nI i + 1) = fX9_yields_30 462 n σ a (oI (g : Int)) (oI (cur (i + 1))) (oI (v_tc V g)) (nI (i + 1))
            have : nx (i + 1) = q := by
              rw [hnx, LS, oki, if_pos rfl, if_neg (by omega), q2]
            rw [j_s, hcur, if_pos (by omega), this]
        · have y1 : V 15 q = 1 := by omega
          have oki : ok i = false := by rw [q5]; simp [y1]
          right
          rw [if_neg (by rw [y1]; decide), if_pos rfl, if_pos rfl]
          refine ⟨_, ⟨rfl, fun k k1 k2 => ?_⟩, ?_⟩
          · by_cases x : k = i
            · rw [x]; exact oki
            · exact hno k k1 (by omega)
          · show fX9_yields_30 462 n σ a (oI (g : Int)) _ (oI (v_tc V g)) (nI i + 1) = fX9_yields_30 462 n σ a (oI (g : Int)) (oI (cur (i + 1))) (oI (v_tc V g)) (nI (i + 1))
            rw [j_s, hcur, hcur]
            by_cases w : i + 1 ≤ s
            · have : nx (i + 1) = nx i := by
                rw [hnx, hnx, LS, oki, if_neg (show ¬ (false = true) by decide)]
              rw [if_pos (by omega), if_pos w, this]
            · by_cases w2 : i ≤ s
              · have : i = s := by omega
                rw [if_pos w2, if_neg w, this]
              · rw [if_neg w2, if_neg w]
    · rintro n _ ⟨rfl, hno⟩
      show ∃ σ', fX9_yields_30 462 (n + 1) σ a (oI (g : Int)) (oI (cur (v_tc V g))) (oI (v_tc V g)) (nI (v_tc V g)) = some σ' ∧ _
      rw [fX9_yields_30, if_pos (by rw [j_le, t_tc, j_nI (by omega)]; omega), hcur, if_neg (by omega)]
      refine fin _ (nxr s) (AI _ (Or.inl ⟨fnd_no (fun k hk => ?_), rfl⟩))
      by_cases x : (s : Int) < k
      · by_cases x2 : k < v_tc V g
        · simp [hno k (by omega) x2]
        · simp [okno k (by omega)]
      · simp [x]
  · rw [if_neg (by rw [j_eq, j_oI (by omega) (by omega), ha]; exact q), if_neg q]
    exact ⟨σ, rfl, Out.rf, rfl⟩
end MY
