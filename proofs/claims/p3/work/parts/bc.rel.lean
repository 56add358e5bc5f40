/-! THE RELATION: read (7): the tabs of a new group, both sides -/
section RBC
variable {n : Nat} {c : Nat → Int32}
def acf (a : Int) : List (Nat × Nat) → Int
  | [] => a
  | (q, kk) :: l => acf (if kk = 2 ∨ (kk ≠ 1 ∧ a = -1) then q else a) l
/-- the panes' cells agree -/
def PR (U V : VW) : Prop := ∀ p, p < 12 → U 9 p = V 13 p ∧ (V 13 p ≠ -1 → U 10 p = V 14 p) ∧ U 11 p = V 15 p
theorem PR.tab {U V : VW} (h : PR U V) {f q : Nat} (hq : q < 12) (hf : f < 23) (kk : Nat) (h15 : V 15 q = 0) {j : Nat} (hj : v_tc V f = j) (sr : Bool) : PR (tbU U f q j (decide (kk = 1)) sr) (tb2 f q kk V) := by
  obtain ⟨r13, r14, r15, -, -⟩ := tb2_rows (V := V) hq hf kk h15
  intro p hp
  have e9 : tbU U f q j (decide (kk = 1)) sr 9 p = if p = q then (f : Int) else U 9 p := by
    unfold tbU
    rw [mu_ne (by decide), mu_ne (by decide), mu_ne (by decide), mu_at]
  have e10 : tbU U f q j (decide (kk = 1)) sr 10 p = if p = q then (j : Int) else U 10 p := by
    unfold tbU
    rw [mu_ne (by decide), mu_ne (by decide), mu_at, mu_ne (by decide)]
  have e11 : tbU U f q j (decide (kk = 1)) sr 11 p = if p = q then (if decide (kk = 1) = true then 1 else 0) else U 11 p := by
    unfold tbU
    rw [mu_ne (by decide), mu_at, mu_ne (by decide), mu_ne (by decide)]
  obtain ⟨a, b, e⟩ := h p hp
  rw [e9, e10, e11, r13 p hp, r14 p hp, r15 p hp]
  by_cases z : p = q
  · rw [if_pos z, if_pos z, if_pos z, if_pos z, if_pos z, if_pos z, hj]
    refine ⟨rfl, fun _ => rfl, ?_⟩
    by_cases y : kk = 1
    · rw [if_pos y, if_pos (decide_eq_true y)]
    · rw [if_neg y, if_neg (by rw [decide_eq_false y]; exact Bool.false_ne_true)]
  · rw [if_neg z, if_neg z, if_neg z, if_neg z, if_neg z, if_neg z]
    exact ⟨a, b, e⟩
theorem tbU_r {U : VW} {f q j : Nat} {hid sr : Bool} {k : Nat} (h : k ≠ 5) (h9 : k ≠ 9) (h10 : k ≠ 10) (h11 : k ≠ 11) : tbU U f q j hid sr k = U k := by
  unfold tbU
  rw [mu_ne h, mu_ne h11, mu_ne h10, mu_ne h9]
theorem tbU_5 {U : VW} {f q j : Nat} {kk : Nat} (i : Nat) : tbU U f q j (decide (kk = 1)) (decide (kk = 2)) 5 i = if i = f then (if kk = 2 ∨ (kk ≠ 1 ∧ U 5 f = -1) then (q : Int) else U 5 f) else U 5 i := by
  unfold tbU
  rw [mu_at, mu_ne (by decide), mu_ne (by decide), mu_ne (by decide)]
  have e : (decide (kk = 2) = true ∨ (decide (kk = 1) = false ∧ U 5 f = -1)) ↔ (kk = 2 ∨ (kk ≠ 1 ∧ U 5 f = -1)) := by
    simp
  by_cases z : kk = 2 ∨ (kk ≠ 1 ∧ U 5 f = -1)
  · rw [if_pos z, if_pos (e.mpr z)]
  · rw [if_neg z, if_neg (fun y => z (e.mp y))]
theorem Mk.lt {st st' : Bool} {p1 kk p2 : Nat} (h : Mk n c st p1 kk p2 st') : p1 ≤ p2 := by
  rcases h with ⟨_, _, z, _⟩ | ⟨_, _, _, z, _⟩ | ⟨_, _, _, z, _⟩ <;> omega
theorem Tb.le : ∀ {t : List (Nat × Nat)} {st : Bool} {p m p' m' : Nat}, Tb n c t st p m p' m' → p ≤ p'
  | [], _, _, _, _, _, h => by
    have : _ ∧ _ := h
    omega
  | (q, kk) :: l, st, p, m, p', m', h => by
    obtain ⟨_, _, _, _, p2, st', k, r⟩ := h
    have := k.lt
    have := Tb.le r
    omega
theorem g_loop (T : Tt n c) {f : Nat} (hf : f < 23) {Z : Nat → Bool} (hz : Z f = true) : ∀ (t : List (Nat × Nat)) (st : Bool) (p m p' m' : Nat) (V : VW) (s : Sg) (u j fuel : Nat), Tb n c t st p m p' m' → t ≠ [] → ltr n c p' = false → p' ≤ n → m < 4096 → Tabs V Z → V 8 f = 2 → Msk V m → PR (mv (s.1 463)) V → v_tc V f = j → MT n c s p → s.1 462 16 = -1 → s.1 462 20 = nI u → u < 4096 → (∀ q, q < 12 → Nat.testBit m q = true → Nat.testBit u q = false ∧ mv (s.1 463) 6 q = 1) → s.1 462 21 = oI f → t.length < fuel → ∃ s' u', fX9_readsGroup_17 462 fuel s 1 (b2i st) (nI j) = some s' ∧ Fh s s' ∧ MT n c s' p' ∧ s'.1 462 16 = -1 ∧ s'.1 462 20 = nI u' ∧ u' < 4096 ∧ m' < 4096 ∧ (∀ q, q < 12 → Nat.testBit m' q = true → Nat.testBit u' q = false ∧ Nat.testBit m q = true) ∧ PR (mv (s'.1 463)) (btab f t V) ∧ (∀ i, mv (s'.1 463) 5 i = if i = f then acf (mv (s.1 463) 5 f) t else mv (s.1 463) 5 i) ∧ (∀ k, k ≠ 5 → k ≠ 9 → k ≠ 10 → k ≠ 11 → mv (s'.1 463) k = mv (s.1 463) k) ∧ Tabs (btab f t V) Z ∧ v_tc (btab f t V) f = j + t.length ∧ Msk (btab f t V) m' ∧ (∀ k, k ≠ 12 → k ≠ 13 → k ≠ 14 → k ≠ 15 → btab f t V k = V k) ∧ (∀ i, i < 23 → i ≠ f → btab f t V 12 i = V 12 i) ∧ cnt (fun q => Nat.testBit m q) 12 = cnt (fun q => Nat.testBit m' q) 12 + t.length := by
  intro t
  induction t with
  | nil => intro st p m p' m' V s u j fuel _ ne; exact absurd rfl ne
  | cons a l ih =>
    obtain ⟨q, kk⟩ := a
    intro st p m p' m' V s u j fuel tb _ lp pn hm tv k2 ms pr hj mt w hu u4 al e21 hfu
    obtain ⟨hq, hb, hp, e, p2, st', k, r⟩ := tb
    obtain ⟨u13, u15⟩ := ms q hq hb
    obtain ⟨al1, al2⟩ := al q hq hb
    have kl := k.lt
    have rl := Tb.le r
    obtain ⟨t1, t2, t3⟩ := tb2_ok tv hz hq hf k2 hm ms hb kk
    obtain ⟨r13, r14, r15, r12, rj⟩ := tb2_rows (V := V) hq hf kk u15
    have j12 : j < 12 := by
      have := v_tc_rg (tb2 f q kk V) f
      omega
    obtain ⟨fu, rfl⟩ : ∃ fu, fuel = fu + 1 := ⟨fuel - 1, by omega⟩
    have e9 : mv (s.1 463) 9 q = -1 := by rw [(pr q hq).1]; exact u13
    obtain ⟨s2, x1, x2, x3, x4, x5, x6⟩ := m_tab1 T mt hq hp e w hu u4 al1 al2 e9 hf e21 k (by omega) fu j12
    have pr2 : PR (mv (s2.1 463)) (tb2 f q kk V) := by rw [x5]; exact pr.tab hq hf kk u15 hj _
    have k2' : tb2 f q kk V 8 f = 2 := by rw [rj 8 (by decide) (by decide) (by decide) (by decide)]; exact k2
    have cn : cnt (fun i => Nat.testBit m i) 12 = cnt (fun i => Nat.testBit (m &&& (4095 - 2 ^ q)) i) 12 + 1 := cnt_one_more (i0 := q) hq (fun i _ ne => by rw [and_bit hm hq, decide_eq_true ne, Bool.and_true]) (by rw [and_bit hm hq, decide_eq_false (fun w => w rfl), Bool.and_false]) hb
    have al' : ∀ i, i < 12 → Nat.testBit (m &&& (4095 - 2 ^ q)) i = true → (Nat.testBit (u ||| 2 ^ q) i = false ∧ mv (s2.1 463) 6 i = 1) ∧ Nat.testBit m i = true := fun i hi b => by
      rw [and_bit hm hq] at b
      have ne : i ≠ q := fun z => by rw [decide_eq_false (fun w => w z), Bool.and_false] at b; cases b
      rw [decide_eq_true ne, Bool.and_true] at b
      obtain ⟨c1, c2⟩ := al i hi b
      refine ⟨⟨?_, ?_⟩, b⟩
      · rw [or_bit, c1, decide_eq_false ne]
        rfl
      · rw [x5, tbU_r (by decide) (by decide) (by decide) (by decide)]
        exact c2
    have f21 : s2.1 462 21 = oI f := by rw [x1.2.2 21 (by omega) (by omega) (by omega)]; exact e21
    have r5 : ∀ i, mv (s2.1 463) 5 i = if i = f then (if kk = 2 ∨ (kk ≠ 1 ∧ mv (s.1 463) 5 f = -1) then (q : Int) else mv (s.1 463) 5 f) else mv (s.1 463) 5 i := fun i => by rw [x5]; exact tbU_5 i
    have rk : ∀ k, k ≠ 5 → k ≠ 9 → k ≠ 10 → k ≠ 11 → mv (s2.1 463) k = mv (s.1 463) k := fun k h5 h9 h10 h11 => by rw [x5]; exact tbU_r h5 h9 h10 h11
    rw [x6]
    by_cases le : l = []
    · subst le
      have pe : p' = p2 ∧ m' = m &&& (4095 - 2 ^ q) := r
      rw [if_neg (by rw [← pe.1, lp]; exact Bool.false_ne_true)]
      refine ⟨s2, u ||| 2 ^ q, rfl, x1, by rw [pe.1]; exact x2, x3, x4, or_lt u4 hq, by rw [pe.2]; exact m_lt hm, fun i hi b => ?_, pr2, r5, rk, t1, by rw [btab_s]; exact t2.trans (by rw [hj]; rfl), by rw [pe.2]; exact t3, rj, r12, by rw [pe.2]; exact cn⟩
      rw [pe.2] at b
      exact ⟨(al' i hi b).1.1, (al' i hi b).2⟩
    · have lt2 : ltr n c p2 = true := by
        match l, le, r with
        | (q2, kk2) :: l2, _, r => exact ltr_of r.1 r.2.2.1 r.2.2.2.1
      rw [if_pos lt2]
      obtain ⟨s', u', y1, y2, y3, y4, y5, y6, y6', y7, y8, y9, y10, y11, y12, y13, y14, y15, y16⟩ := ih st' p2 (m &&& (4095 - 2 ^ q)) p' m' (tb2 f q kk V) s2 (u ||| 2 ^ q) (j + 1) fu r le lp pn (m_lt hm) t1 k2' t3 pr2 (by rw [t2, hj]) x2 x3 x4 (or_lt u4 hq) (fun i hi b => (al' i hi b).1) f21 (by rw [List.length_cons] at hfu; omega)
      refine ⟨s', u', y1, x1.tr y2, y3, y4, y5, y6, y6', fun i hi b => ⟨(y7 i hi b).1, (al' i hi (y7 i hi b).2).2⟩, y8, fun i => ?_, fun k h5 h9 h10 h11 => (y10 k h5 h9 h10 h11).trans (rk k h5 h9 h10 h11), y11, by rw [btab_s, y12, List.length_cons]; omega, y13, fun k h12 h13 h14 h15 => (y14 k h12 h13 h14 h15).trans (rj k h12 h13 h14 h15), fun i hi ne => (y15 i hi ne).trans (r12 i hi ne), by rw [cn, y16, List.length_cons]; omega⟩
      rw [y9 i, r5 f, if_pos rfl, r5 i]
      by_cases z : i = f
      · rw [if_pos z, if_pos z]
        rfl
      · rw [if_neg z, if_neg z, if_neg z]
end RBC
