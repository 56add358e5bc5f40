/-! THE RELATION: tabs -/
/-- the active tab: none, where all are hidden; else one that is shown -/
def Act (V : VW) (g : Nat) : Prop := (V 12 g = -1 ∧ ∀ p : Nat, p < 12 → V 13 p = g → V 15 p = 1) ∨ ∃ a : Nat, a < 12 ∧ V 12 g = a ∧ V 13 a = g ∧ V 15 a = 0
/-- the groups of X may be empty, and their active tab is open -/
def Tabs (V : VW) (X : Nat → Bool) : Prop :=
  (∀ p, p < 12 → V 13 p = -1 ∨ ∃ g : Nat, g < 23 ∧ V 13 p = g ∧ V 8 g = 2) ∧
  (∀ p, p < 12 → V 13 p = -1 → V 14 p = -1 ∧ V 15 p = 0) ∧
  (∀ p, p < 12 → V 15 p = 0 ∨ V 15 p = 1) ∧
  ∀ g : Nat, g < 23 → V 8 g = 2 → Nmb 12 (fun p => decide (V 13 p = g)) (V 14) ∧ (X g = false → 1 ≤ cnt (fun p => decide (V 13 p = g)) 12 ∧ Act V g)
section TB
variable {V V' : VW} {X : Nat → Bool}
theorem Tabs.gr (h : Tabs V X) {p : Nat} (hp : p < 12) : V 13 p = -1 ∨ ∃ g : Nat, g < 23 ∧ V 13 p = g ∧ V 8 g = 2 := h.1 p hp
theorem Tabs.no (h : Tabs V X) {p : Nat} (hp : p < 12) (q : V 13 p = -1) : V 14 p = -1 ∧ V 15 p = 0 := h.2.1 p hp q
theorem Tabs.hi (h : Tabs V X) {p : Nat} (hp : p < 12) : V 15 p = 0 ∨ V 15 p = 1 := h.2.2.1 p hp
theorem Tabs.nu (h : Tabs V X) {g : Nat} (hg : g < 23) (q : V 8 g = 2) : Nmb 12 (fun p => decide (V 13 p = g)) (V 14) := (h.2.2.2 g hg q).1
theorem Tabs.fu (h : Tabs V X) {g : Nat} (hg : g < 23) (q : V 8 g = 2) (x : X g = false) : 1 ≤ cnt (fun p => decide (V 13 p = g)) 12 ∧ Act V g := (h.2.2.2 g hg q).2 x
theorem Tabs.g2 (h : Tabs V X) {p g : Nat} (hp : p < 12) (q : V 13 p = g) : g < 23 ∧ V 8 g = 2 := by
  rcases h.gr hp with a | ⟨t, a, b, c⟩
  · omega
  · have : t = g := by omega
    subst this
    exact ⟨a, c⟩
theorem Tabs.sp (h : Tabs V X) {p : Nat} (hp : p < 12) : -1 ≤ V 14 p ∧ V 14 p < 12 := by
  rcases h.gr hp with a | ⟨g, a, b, c⟩
  · have := (h.no hp a).1
    omega
  · have := (h.nu a c).1 p hp (by simp [b])
    have := cnt_le (fun p => decide (V 13 p = (g : Int))) 12
    omega
theorem Tabs.sp2 (h : Tabs V X) (p : Int) : -1 ≤ ga (V 14) 12 p ∧ ga (V 14) 12 p ≤ 12 := by
  unfold ga
  by_cases q : 0 ≤ p ∧ p < (12 : Nat)
  · rw [if_pos q]
    have := h.sp (p := p.toNat) (by omega)
    omega
  · rw [if_neg q]
    omega
theorem v_hd_in {p : Nat} (hp : p < 12) : v_hd V p = decide (V 15 p = 1) := by
  unfold v_hd
  rw [ga_in hp]
theorem Tabs.cg (h : Tabs V X) (h8 : ∀ g, g < 23 → (V' 8 g = 2 ↔ V 8 g = 2)) (h12 : ∀ g, g < 23 → V 8 g = 2 → V' 12 g = V 12 g) (h13 : ∀ p, p < 12 → V' 13 p = V 13 p) (h14 : ∀ p, p < 12 → V' 14 p = V 14 p) (h15 : ∀ p, p < 12 → V' 15 p = V 15 p) : Tabs V' X := by
  refine ⟨fun p hp => ?_, fun p hp q => ?_, fun p hp => by rw [h15 p hp]; exact h.hi hp, fun g hg q => ?_⟩
  · rw [h13 p hp]
    rcases h.gr hp with a | ⟨g, a, b, c⟩
    · exact Or.inl a
    · exact Or.inr ⟨g, a, b, (h8 g a).mpr c⟩
  · rw [h13 p hp] at q
    rw [h14 p hp, h15 p hp]
    exact h.no hp q
  · rw [h8 g hg] at q
    have c : ∀ p, p < 12 → decide (V' 13 p = (g : Int)) = decide (V 13 p = (g : Int)) := fun p hp => by rw [h13 p hp]
    refine ⟨(h.nu hg q).cg c (fun p hp _ => h14 p hp), fun x => ?_⟩
    obtain ⟨a, b⟩ := h.fu hg q x
    refine ⟨by rw [cnt_congr c]; exact a, ?_⟩
    rcases b with ⟨b, b2⟩ | ⟨t, t1, t2, t3, t4⟩
    · exact Or.inl ⟨by rw [h12 g hg q]; exact b, fun p hp w => by rw [h15 p hp]; rw [h13 p hp] at w; exact b2 p hp w⟩
    · exact Or.inr ⟨t, t1, by rw [h12 g hg q]; exact t2, by rw [h13 t t1]; exact t3, by rw [h15 t t1]; exact t4⟩
/-! the tab at a spot -/
theorem v_ta_sp (V : VW) (g k : Int) : v_ta V g k = -1 ∨ ∃ q : Nat, q < 12 ∧ v_ta V g k = q ∧ V 13 q = g ∧ V 14 q = k := by
  unfold v_ta
  by_cases e : g = -1
  · rw [if_pos e]
    exact Or.inl rfl
  · rw [if_neg e]
    rcases fnd_spec (fun p => decide (V 13 p = g) && decide (V 14 p = k)) 12 with ⟨h1, _⟩ | ⟨i, h1, h2, h3, _⟩
    · exact Or.inl h1
    · simp at h3
      exact Or.inr ⟨i, h1, h2, h3.1, h3.2⟩
theorem v_ta_at {g : Nat} (h : Nmb 12 (fun p => decide (V 13 p = g)) (V 14)) {q : Nat} (hq : q < 12) (e : V 13 q = g) : v_ta V g (V 14 q) = q := by
  unfold v_ta
  rw [if_neg (by omega)]
  refine fnd_un hq (by simp [e]) (fun k hk w => ?_)
  simp at w
  exact h.2.2 k q hk hq (by simp [w.1]) (by simp [e]) w.2
theorem v_ok_sp {g k : Nat} (h : v_ok V g k = true) : ∃ q : Nat, q < 12 ∧ v_ta V g k = q ∧ V 13 q = g ∧ V 14 q = k ∧ V 15 q ≠ 1 := by
  unfold v_ok at h
  simp only [Bool.and_eq_true, decide_eq_true_eq, Bool.not_eq_true'] at h
  rcases v_ta_sp V g k with a | ⟨q, a, b, c, e⟩
  · exact absurd a h.1
  · refine ⟨q, a, b, c, e, ?_⟩
    have := h.2
    rw [b, v_hd_in a] at this
    simpa using this
theorem v_ok_at {g : Nat} (h : Nmb 12 (fun p => decide (V 13 p = g)) (V 14)) {q : Nat} (hq : q < 12) (e : V 13 q = g) (e2 : V 15 q ≠ 1) : v_ok V g (V 14 q).toNat = true := by
  have h0 := (h.1 q hq (by simp [e])).1
  unfold v_ok
  rw [show (((V 14 q).toNat : Nat) : Int) = V 14 q by omega, v_ta_at h hq e, v_hd_in hq]
  simp [e2]
/-- who becomes active instead: none, if all are hidden -/
theorem v_ai_sp {g : Nat} {fr : Int} (h : Nmb 12 (fun p => decide (V 13 p = g)) (V 14)) (hh : ∀ q : Nat, q < 12 → V 13 q = g → V 14 q = fr → V 15 q = 1) : (v_ai V g fr = -1 ∧ ∀ q : Nat, q < 12 → V 13 q = g → V 15 q = 1) ∨ ∃ a : Nat, a < 12 ∧ v_ai V g fr = a ∧ V 13 a = g ∧ V 15 a ≠ 1 := by
  unfold v_ai
  rcases fnd_spec (fun k => decide (fr < k) && v_ok V g k) 12 with ⟨h1, h2⟩ | ⟨i, h1, h2, h3, _⟩
  · rw [h1, if_pos rfl]
    have hl := lst_rg (v_ok V g) fr.toNat
    by_cases e : lst (v_ok V g) fr.toNat = -1
    · left
      rw [if_pos e]
      refine ⟨rfl, fun q hq eq => ?_⟩
      refine Classical.byContradiction (fun no => ?_)
      have ok := v_ok_at h hq eq no
      have h0 := h.1 q hq (by simp [eq])
      have hc := cnt_le (fun p => decide (V 13 p = (g : Int))) 12
      rcases Int.lt_trichotomy (V 14 q) fr with w | w | w
      · rw [hl.2.2.1 e (V 14 q).toNat (by omega)] at ok
        cases ok
      · exact no (hh q hq eq w)
      · have := h2 (V 14 q).toNat (by omega)
        rw [ok] at this
        simp at this
        omega
    · right
      rw [if_neg e]
      have ok := hl.2.2.2 e
      obtain ⟨q, a, b, c, _, f⟩ := v_ok_sp ok
      exact ⟨q, a, by rw [← b]; congr 1; omega, c, f⟩
  · right
    rw [h2, if_neg (by omega)]
    simp only [Bool.and_eq_true, decide_eq_true_eq] at h3
    obtain ⟨q, a, b, c, _, f⟩ := v_ok_sp h3.2
    exact ⟨q, a, b, c, f⟩
end TB
