/-! THE RELATION: show, activate, moveTab -/
section RA8
variable {V : VW} {X : Nat → Bool}
theorem Act.cg {V V' : VW} {g : Nat} (h : Act V g) (e12 : V' 12 g = V 12 g) (e13 : ∀ p, p < 12 → V' 13 p = V 13 p) (e15 : ∀ p, p < 12 → V 13 p = g → V' 15 p = V 15 p) : Act V' g := by
  rcases h with ⟨a, b⟩ | ⟨a, ha, e, f, z⟩
  · exact Or.inl ⟨by rw [e12]; exact a, fun p hp q => by
      rw [e13 p hp] at q
      rw [e15 p hp q]
      exact b p hp q⟩
  · exact Or.inr ⟨a, ha, by rw [e12]; exact e, by rw [e13 a ha]; exact f, by rw [e15 a ha f]; exact z⟩
theorem hide_rows {p g : Nat} (hp : p < 12) (hg : g < 23) (e : V 13 p = g) : (∀ i, v_hide V p 15 i = if i = p then 1 else V 15 i) ∧ (∀ i, v_hide V p 12 i = if i = g ∧ V 12 g = p then v_ai (up V 15 p 1) g (V 14 p) else V 12 i) ∧ ∀ j, j ≠ 12 → j ≠ 15 → v_hide V p j = V j := by
  refine ⟨fun i => ?_, fun i => ?_, fun j h1 h2 => v_hide_ne h1 h2⟩
  · unfold v_hide
    split
    · rw [up_ne (by omega), up15 hp]
    · rw [up15 hp]
  · unfold v_hide
    rw [ga_in hp, e, ga_in hg, ga_in hp]
    by_cases q : V 12 g = p
    · rw [if_pos q, up12 hg, up_ne (by omega)]
      by_cases z : i = g
      · rw [if_pos z, if_pos ⟨z, q⟩]
      · rw [if_neg z, if_neg (fun w => z w.1)]
    · rw [if_neg q, if_neg (fun w => q w.2), up_ne (by omega)]
theorem Tabs.hide (h : Tabs V (fun _ => false)) {p g : Nat} (hp : p < 12) (e : V 13 p = g) : Tabs (v_hide V p) (fun _ => false) := by
  obtain ⟨hg, kg⟩ := h.g2 hp e
  obtain ⟨r15, r12, rr⟩ := hide_rows hp hg e
  refine ⟨fun q hq => ?_, fun q hq z => ?_, fun q hq => ?_, fun k hk kk => ?_⟩
  · rw [rr 13 (by omega) (by omega), rr 8 (by omega) (by omega)]
    exact h.gr hq
  · rw [rr 13 (by omega) (by omega)] at z
    rw [rr 14 (by omega) (by omega), r15, if_neg (fun w => by rw [w] at z; omega)]
    exact h.no hq z
  · rw [r15]
    split
    · exact Or.inr rfl
    · exact h.hi hq
  · rw [rr 8 (by omega) (by omega)] at kk
    have m := h.nu hk kk
    obtain ⟨f1, f2⟩ := h.fu hk kk rfl
    rw [rr 13 (by omega) (by omega), rr 14 (by omega) (by omega)]
    refine ⟨m, fun _ => ⟨f1, ?_⟩⟩
    by_cases z : k = g
    · subst z
      by_cases q : V 12 k = p
      · have e12 : v_hide V p 12 k = v_ai (up V 15 p 1) k (V 14 p) := by rw [r12, if_pos ⟨rfl, q⟩]
        have m' : Nmb 12 (fun q => decide (up V 15 p 1 13 q = k)) (up V 15 p 1 14) := by
          rw [up_ne (by omega), up_ne (by omega)]
          exact m
        have as := v_ai_sp (V := up V 15 p 1) (g := k) (fr := V 14 p) m' (fun q hq e1 e2 => by
          rw [up_ne (by omega)] at e1 e2
          rw [up15 hp]
          by_cases w : q = p
          · rw [if_pos w]
          · have := m.2.2 q p hq hp (by simp [e1]) (by simp [e]) e2
            exact absurd this w)
        rcases as with ⟨a, b⟩ | ⟨a, ha, ea, e13, e15⟩
        · refine Or.inl ⟨by rw [e12]; exact a, fun q hq w => ?_⟩
          rw [rr 13 (by omega) (by omega)] at w
          have := b q hq (by rw [up_ne (by omega)]; exact w)
          rw [up15 hp] at this
          rw [r15]
          exact this
        · refine Or.inr ⟨a, ha, by rw [e12]; exact ea, ?_, ?_⟩
          · rw [up_ne (by omega)] at e13
            rw [rr 13 (by omega) (by omega)]
            exact e13
          · rw [up15 hp] at e15
            rw [r15]
            by_cases w : a = p
            · rw [if_pos w] at e15
              exact absurd rfl e15
            · rw [if_neg w] at e15 ⊢
              rcases h.hi ha with y | y
              · exact y
              · exact absurd y e15
      · have e12 : v_hide V p 12 k = V 12 k := by rw [r12, if_neg (fun w => q w.2)]
        rcases f2 with ⟨a, b⟩ | ⟨a, ha, ea, e13, e15⟩
        · refine Or.inl ⟨by rw [e12]; exact a, fun q hq w => ?_⟩
          rw [rr 13 (by omega) (by omega)] at w
          rw [r15]
          split
          · rfl
          · exact b q hq w
        · refine Or.inr ⟨a, ha, by rw [e12]; exact ea, by rw [rr 13 (by omega) (by omega)]; exact e13, ?_⟩
          rw [r15, if_neg (fun w => q (by rw [ea, w]))]
          exact e15
    · refine f2.cg (by rw [r12, if_neg (fun w => z w.1)]) (fun q hq => by rw [rr 13 (by omega) (by omega)]) (fun q hq w => ?_)
      rw [r15, if_neg (fun y => by rw [y, e] at w; omega)]
theorem rev_rows {p g : Nat} (hp : p < 12) (hg : g < 23) (e : V 13 p = g) : (∀ i, v_reveal V p 15 i = if i = p then 0 else V 15 i) ∧ (∀ i, v_reveal V p 12 i = if i = g ∧ V 12 g = -1 then (p : Int) else V 12 i) ∧ ∀ j, j ≠ 12 → j ≠ 15 → v_reveal V p j = V j := by
  unfold v_reveal
  rw [ga_in hp, e, ga_in hg]
  by_cases q : V 12 g = -1
  · rw [if_pos q]
    refine ⟨fun i => by rw [up_ne (by omega), up15 hp], fun i => ?_, fun j h1 h2 => by rw [up_ne h1, up_ne h2]⟩
    rw [up12 hg, up_ne (by omega)]
    by_cases z : i = g
    · rw [if_pos z, if_pos ⟨z, q⟩]
    · rw [if_neg z, if_neg (fun w => z w.1)]
  · rw [if_neg q]
    refine ⟨fun i => by rw [up15 hp], fun i => ?_, fun j h1 h2 => by rw [up_ne h2]⟩
    rw [up_ne (by omega), if_neg (fun w => q w.2)]
theorem Tabs.reveal (h : Tabs V (fun _ => false)) {p g : Nat} (hp : p < 12) (e : V 13 p = g) : Tabs (v_reveal V p) (fun _ => false) := by
  obtain ⟨hg, kg⟩ := h.g2 hp e
  obtain ⟨r15, r12, rr⟩ := rev_rows hp hg e
  refine ⟨fun q hq => ?_, fun q hq z => ?_, fun q hq => ?_, fun k hk kk => ?_⟩
  · rw [rr 13 (by omega) (by omega), rr 8 (by omega) (by omega)]
    exact h.gr hq
  · rw [rr 13 (by omega) (by omega)] at z
    rw [rr 14 (by omega) (by omega), r15, if_neg (fun w => by rw [w] at z; omega)]
    exact h.no hq z
  · rw [r15]
    split
    · exact Or.inl rfl
    · exact h.hi hq
  · rw [rr 8 (by omega) (by omega)] at kk
    obtain ⟨f1, f2⟩ := h.fu hk kk rfl
    rw [rr 13 (by omega) (by omega), rr 14 (by omega) (by omega)]
    refine ⟨h.nu hk kk, fun _ => ⟨f1, ?_⟩⟩
    by_cases z : k = g
    · subst z
      by_cases q : V 12 k = -1
      · exact Or.inr ⟨p, hp, by rw [r12, if_pos ⟨rfl, q⟩], by rw [rr 13 (by omega) (by omega)]; exact e, by rw [r15, if_pos rfl]⟩
      · rcases f2 with ⟨a, b⟩ | ⟨a, ha, ea, e13, e15⟩
        · exact absurd a q
        · refine Or.inr ⟨a, ha, by rw [r12, if_neg (fun w => q w.2)]; exact ea, by rw [rr 13 (by omega) (by omega)]; exact e13, ?_⟩
          rw [r15]
          split
          · rfl
          · exact e15
    · refine f2.cg (by rw [r12, if_neg (fun w => z w.1)]) (fun q hq => by rw [rr 13 (by omega) (by omega)]) (fun q hq w => ?_)
      rw [r15, if_neg (fun y => by rw [y, e] at w; omega)]
/-- placements that differ in the tabs' state alone -/
theorem Inv.tb {V V' : VW} {d : Nat → Nat} {wn : Nat → Int} (h : Inv V d wn) (e : ∀ j, j ≠ 12 → j ≠ 14 → j ≠ 15 → V' j = V j) (tb : Tabs V' (fun _ => false)) : Inv V' d wn := by
  obtain ⟨t, -, lo, ge⟩ := h
  have e' : ∀ j, j < 12 → V' j = V j := fun j hj => e j (by omega) (by omega) (by omega)
  refine ⟨t.cg (fun n _ => by rw [e' 8 (by omega)]) (fun n _ => by rw [e' 9 (by omega)]) (fun n _ => by rw [e' 10 (by omega)]) (fun n hn q => by rw [e' 11 (by omega)]; exact t.we hn q) (fun w _ => by rw [e' 5 (by omega)]), tb, ?_, ge.cg (e' 1 (by omega)) (e' 2 (by omega)) (e' 3 (by omega)) (e' 4 (by omega))⟩
  have o : odp V' = odp V := by
    unfold odp
    rw [e' 6 (by omega), e' 7 (by omega)]
  rw [o]
  exact lo.cg (fun i _ => by unfold flw; rw [e' 5 (by omega)])
theorem SI.tb {S : ST} {V' : VW} (h : SI S) (e : ∀ j, j ≠ 12 → j ≠ 14 → j ≠ 15 → V' j = S_pl S j) (tb : Tabs V' (fun _ => false)) : SI (pfS S (S_fo S) V') := by
  obtain ⟨h1, h2, h3, h4, ⟨d, wn, i⟩, h6, h7⟩ := h
  exact SI.pf (S := S) ⟨h1, h2, h3, h4, ⟨d, wn, i⟩, h6, h7⟩ (i.tb e tb) (fun p hp z => h4 p hp (by rw [← e 13 (by omega) (by omega) (by omega)]; exact z)) (h6.cg (fun p _ => by unfold plc; rw [e 13 (by omega) (by omega) (by omega)]))
/-- the reference's row follows -/
theorem VM.tb {U U' V V' : VW} (h : VM U V (fun _ => false)) (e : ∀ j, (j < 5 ∨ j = 9 ∨ (12 ≤ j ∧ j < 20)) → U' j = U j) (e' : ∀ j, j ≠ 12 → j ≠ 14 → j ≠ 15 → V' j = V j) (g5 : ∀ n, n < 23 → V 8 n = 2 → U' 5 n = V' 12 n) (g6 : ∀ n, n < 23 → V 8 n ≤ 1 → U' 5 n = U 5 n) (g10 : ∀ p, p < 12 → V 13 p ≠ -1 → U' 10 p = V' 14 p) (g11 : ∀ p, p < 12 → U' 11 p = V' 15 p) : VM U' V' (fun _ => false) := by
  obtain ⟨a1, a2, a3, a4, a5, a6, a7, a8, a9⟩ := h
  have w : ∀ j, j < 12 → V' j = V j := fun j hj => e' j (by omega) (by omega) (by omega)
  unfold VM
  rw [e 0 (by omega), e 1 (by omega), e 2 (by omega), e 3 (by omega), e 4 (by omega), e 9 (by omega), e 12 (by omega), e 13 (by omega), e 14 (by omega), e 15 (by omega), e 16 (by omega), e 17 (by omega), e 18 (by omega), e 19 (by omega), w 1 (by omega), w 2 (by omega), w 3 (by omega), w 4 (by omega), w 5 (by omega), w 6 (by omega), w 7 (by omega), w 8 (by omega), w 9 (by omega), w 10 (by omega), w 11 (by omega), e' 13 (by omega) (by omega) (by omega)]
  exact ⟨a1, a2, a3, a4, fun n hn k _ => g5 n hn k, fun p hp => ⟨(a6 p hp).1, g10 p hp, g11 p hp⟩, a7, a8, a9.1, fun n hn k => by rw [g6 n hn k]; exact a9.2 n hn k⟩
end RA8
