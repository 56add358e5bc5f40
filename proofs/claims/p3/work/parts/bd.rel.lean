/-! THE RELATION: read (8): the active tab of a new group -/
section RBD
variable {n : Nat} {c : Nat → Int32}
theorem acf_st : ∀ (t : List (Nat × Nat)) (p m p' m' : Nat) (a : Int), Tb n c t true p m p' m' → a ≠ -1 → acf a t = a
  | [], _, _, _, _, _, _, _ => rfl
  | (q, kk) :: l, p, m, p', m', a, h, ha => by
    obtain ⟨_, _, _, _, p2, st', k, r⟩ := h
    have k2 : kk ≠ 2 ∧ st' = true := by
      rcases k with ⟨x, _, _, y⟩ | ⟨_, x, _⟩ | ⟨x, _, _, _, y⟩
      · exact ⟨by omega, y⟩
      · cases x
      · exact ⟨by omega, y⟩
    rw [k2.2] at r
    show acf (if kk = 2 ∨ (kk ≠ 1 ∧ a = -1) then (q : Int) else a) l = a
    rw [if_neg (fun y => y.elim k2.1 (fun z => ha z.2))]
    exact acf_st l _ _ _ _ a r ha
theorem acf_star : ∀ (t : List (Nat × Nat)) (p m p' m' : Nat) (a : Int), Tb n c t false p m p' m' → star t ≠ -1 → acf a t = star t
  | [], _, _, _, _, _, _, h => absurd rfl h
  | (q, kk) :: l, p, m, p', m', a, h, hs => by
    obtain ⟨_, _, _, _, p2, st', k, r⟩ := h
    show acf (if kk = 2 ∨ (kk ≠ 1 ∧ a = -1) then (q : Int) else a) l = if kk = 2 then (q : Int) else star l
    have hs : (if kk = 2 then (q : Int) else star l) ≠ -1 := hs
    by_cases z : kk = 2
    · have st : st' = true := by
        rcases k with ⟨x, _⟩ | ⟨_, _, _, _, y⟩ | ⟨x, _⟩
        · omega
        · exact y
        · omega
      rw [st] at r
      rw [if_pos (Or.inl z), if_pos z]
      exact acf_st l _ _ _ _ _ r (by omega)
    · have st : st' = false := by
        rcases k with ⟨_, _, _, y⟩ | ⟨x, _⟩ | ⟨_, _, _, _, y⟩
        · exact y
        · exact absurd x z
        · exact y
      rw [st] at r
      rw [if_neg z] at hs ⊢
      exact acf_star l _ _ _ _ _ r hs
theorem acf_first : ∀ (t : List (Nat × Nat)), star t = -1 → (acf (-1) t = -1 ∧ ∀ (i q kk : Nat), t[i]? = some (q, kk) → kk = 1) ∨ ∃ (i q kk : Nat), t[i]? = some (q, kk) ∧ kk ≠ 1 ∧ acf (-1) t = q ∧ ∀ (i' q' kk' : Nat), i' < i → t[i']? = some (q', kk') → kk' = 1
  | [], _ => Or.inl ⟨rfl, fun i q kk h => by simp at h⟩
  | (q, kk) :: l, hs => by
    have hs : (if kk = 2 then (q : Int) else star l) = -1 := hs
    have k2 : kk ≠ 2 := fun z => by rw [if_pos z] at hs; omega
    rw [if_neg k2] at hs
    have keep : ∀ (l : List (Nat × Nat)) (a : Int), a ≠ -1 → star l = -1 → acf a l = a := by
      intro l
      induction l with
      | nil => intro a _ _; rfl
      | cons x l ih =>
        obtain ⟨q2, k3⟩ := x
        intro a ha hs
        have hs : (if k3 = 2 then (q2 : Int) else star l) = -1 := hs
        have k4 : k3 ≠ 2 := fun z => by rw [if_pos z] at hs; omega
        rw [if_neg k4] at hs
        show acf (if k3 = 2 ∨ (k3 ≠ 1 ∧ a = -1) then (q2 : Int) else a) l = a
        rw [if_neg (fun y => y.elim k4 (fun z => ha z.2))]
        exact ih a ha hs
    show (acf (if kk = 2 ∨ (kk ≠ 1 ∧ (-1 : Int) = -1) then (q : Int) else -1) l = -1 ∧ _) ∨ ∃ i q' kk', _ ∧ _ ∧ acf (if kk = 2 ∨ (kk ≠ 1 ∧ (-1 : Int) = -1) then (q : Int) else -1) l = _ ∧ _
    by_cases z : kk = 1
    · rw [if_neg (fun y => y.elim k2 (fun w => w.1 z))]
      rcases acf_first l hs with ⟨a, b⟩ | ⟨i, q', kk', a, b, e, g⟩
      · refine Or.inl ⟨a, fun i q' kk' h => ?_⟩
        cases i with
        | zero =>
          have : (q, kk) = (q', kk') := by simpa using h
          rw [← (Prod.mk.inj this).2]
          exact z
        | succ i => exact b i q' kk' (by simpa using h)
      · refine Or.inr ⟨i + 1, q', kk', by simpa using a, b, e, fun i' q2 k3 hi h => ?_⟩
        cases i' with
        | zero =>
          have : (q, kk) = (q2, k3) := by simpa using h
          rw [← (Prod.mk.inj this).2]
          exact z
        | succ i' => exact g i' q2 k3 (by omega) (by simpa using h)
    · rw [if_pos (Or.inr ⟨z, rfl⟩)]
      exact Or.inr ⟨0, q, kk, rfl, z, keep l q (by omega) hs, fun i' q2 k3 hi => absurd hi (by omega)⟩
theorem btab_keep {f : Nat} (hf : f < 23) {Z : Nat → Bool} (hz : Z f = true) : ∀ (t : List (Nat × Nat)) (st : Bool) (p m p' m' : Nat) (V : VW), Tb n c t st p m p' m' → m < 4096 → Tabs V Z → V 8 f = 2 → Msk V m → ∀ q, q < 12 → V 13 q ≠ -1 → btab f t V 13 q = V 13 q ∧ btab f t V 14 q = V 14 q ∧ btab f t V 15 q = V 15 q
  | [], _, _, _, _, _, _, _, _, _, _, _, _, _, _ => ⟨rfl, rfl, rfl⟩
  | (q0, kk) :: l, st, p, m, p', m', V, h, hm, tv, k2, ms, q, hq, hp => by
    obtain ⟨hq0, hb, _, _, p2, st', k, r⟩ := h
    obtain ⟨u13, u15⟩ := ms q0 hq0 hb
    obtain ⟨t1, t2, t3⟩ := tb2_ok tv hz hq0 hf k2 hm ms hb kk
    obtain ⟨r13, r14, r15, r12, rj⟩ := tb2_rows (V := V) hq0 hf kk u15
    have ne : q ≠ q0 := fun z => by rw [z] at hp; exact hp u13
    have e := btab_keep hf hz l st' p2 (m &&& (4095 - 2 ^ q0)) p' m' (tb2 f q0 kk V) r (m_lt hm) t1 (by rw [rj 8 (by decide) (by decide) (by decide) (by decide)]; exact k2) t3 q hq (by rw [r13 q hq, if_neg ne]; exact hp)
    rw [btab_s, e.1, e.2.1, e.2.2, r13 q hq, r14 q hq, r15 q hq, if_neg ne, if_neg ne, if_neg ne]
    exact ⟨rfl, rfl, rfl⟩
/-- where the tabs are -/
theorem btab_spot {f : Nat} (hf : f < 23) {Z : Nat → Bool} (hz : Z f = true) : ∀ (t : List (Nat × Nat)) (st : Bool) (p m p' m' : Nat) (V : VW), Tb n c t st p m p' m' → m < 4096 → Tabs V Z → V 8 f = 2 → Msk V m → ∀ (i q kk : Nat), t[i]? = some (q, kk) → q < 12 ∧ btab f t V 13 q = f ∧ btab f t V 14 q = ((v_tc V f + i : Nat) : Int) ∧ btab f t V 15 q = if kk = 1 then 1 else 0
  | [], _, _, _, _, _, _, _, _, _, _, _, i, q, kk, h => by simp at h
  | (q0, k0) :: l, st, p, m, p', m', V, h, hm, tv, k2, ms, i, q, kk, hi => by
    obtain ⟨hq0, hb, _, _, p2, st', k, r⟩ := h
    obtain ⟨u13, u15⟩ := ms q0 hq0 hb
    obtain ⟨t1, t2, t3⟩ := tb2_ok tv hz hq0 hf k2 hm ms hb k0
    obtain ⟨r13, r14, r15, r12, rj⟩ := tb2_rows (V := V) hq0 hf k0 u15
    have k2' : tb2 f q0 k0 V 8 f = 2 := by rw [rj 8 (by decide) (by decide) (by decide) (by decide)]; exact k2
    cases i with
    | zero =>
      have e : (q0, k0) = (q, kk) := by simpa using hi
      obtain ⟨e1, e2⟩ := Prod.mk.inj e
      subst e1 e2
      have e := btab_keep hf hz l st' p2 (m &&& (4095 - 2 ^ q0)) p' m' (tb2 f q0 k0 V) r (m_lt hm) t1 k2' t3 q0 hq0 (by rw [r13 q0 hq0, if_pos rfl]; omega)
      rw [btab_s, e.1, e.2.1, e.2.2, r13 q0 hq0, r14 q0 hq0, r15 q0 hq0, if_pos rfl, if_pos rfl, if_pos rfl]
      exact ⟨hq0, rfl, rfl, rfl⟩
    | succ i =>
      have e := btab_spot hf hz l st' p2 (m &&& (4095 - 2 ^ q0)) p' m' (tb2 f q0 k0 V) r (m_lt hm) t1 k2' t3 i q kk (by simpa using hi)
      rw [btab_s]
      refine ⟨e.1, e.2.1, ?_, e.2.2.2⟩
      rw [e.2.2.1, t2]
      omega
theorem act_eq {f : Nat} (hf : f < 23) {Z : Nat → Bool} (hz : Z f = true) {t : List (Nat × Nat)} {p m p' m' : Nat} {V : VW} (h : Tb n c t false p m p' m') (hm : m < 4096) (tv : Tabs V Z) (k2 : V 8 f = 2) (ms : Msk V m) (h0 : v_tc V f = 0) (tv' : Tabs (btab f t V) Z) (k2' : btab f t V 8 f = 2) (hl : v_tc (btab f t V) f = t.length) : (if star t = -1 then v_sta (btab f t V) f 0 else star t) = acf (-1) t := by
  by_cases z : star t = -1
  · rw [if_pos z]
    have nu := tv'.nu hf k2'
    have sp := fun i q kk e => btab_spot hf hz t false p m p' m' V h hm tv k2 ms i q kk e
    have ok : ∀ (i q kk : Nat), t[i]? = some (q, kk) → v_ta (btab f t V) f i = q ∧ v_ok (btab f t V) f i = !decide (kk = 1) := fun i q kk e => by
      obtain ⟨a, b, e14, e15⟩ := sp i q kk e
      rw [h0, Nat.zero_add] at e14
      have ta : v_ta (btab f t V) f i = q := by rw [← e14]; exact v_ta_at nu a b
      refine ⟨ta, ?_⟩
      unfold v_ok
      rw [ta, decide_eq_true (by omega), Bool.true_and, v_hd_in a, e15]
      by_cases y : kk = 1
      · rw [if_pos y, decide_eq_true y]; rfl
      · rw [if_neg y, decide_eq_false y]; rfl
    have hi : ∀ i, t.length ≤ i → v_ok (btab f t V) f i = false := fun i hi => by
      cases q : v_ok (btab f t V) f i
      · rfl
      · obtain ⟨x, x1, x2, x3, x4, x5⟩ := v_ok_sp q
        have mm := (nu.1 x x1 (decide_eq_true x3)).2
        have : v_tc (btab f t V) f = cnt (fun p => decide (btab f t V 13 p = (f : Int))) 12 := rfl
        omega
    have lo : ∀ i, i < t.length → ∃ q kk, t[i]? = some (q, kk) := fun i hi => ⟨t[i].1, t[i].2, by rw [List.getElem?_eq_getElem hi]⟩
    unfold v_sta
    rcases acf_first t z with ⟨a, b⟩ | ⟨i0, q, kk, a, b, e, g⟩
    · rcases fnd_spec (fun i => v_ok (btab f t V) f i && decide ((cnt (v_ok (btab f t V) f) i : Int) = 0)) 12 with ⟨s1, -⟩ | ⟨i, s0, s1, s2, -⟩
      · rw [if_pos s1, a]
      · simp only [Bool.and_eq_true] at s2
        by_cases il : i < t.length
        · obtain ⟨q, kk, e⟩ := lo i il
          have := (ok i q kk e).2
          rw [b i q kk e, decide_eq_true rfl] at this
          rw [this] at s2
          exact absurd s2.1 (by decide)
        · rw [hi i (by omega)] at s2
          exact absurd s2.1 (by decide)
    · obtain ⟨o1, o2⟩ := ok i0 q kk a
      rw [decide_eq_false b] at o2
      have il : i0 < t.length := by
        refine Classical.byContradiction (fun y => ?_)
        rw [List.getElem?_eq_none (by omega)] at a
        cases a
      have tl := v_tc_rg (btab f t V) f
      have before : ∀ i, i < i0 → v_ok (btab f t V) f i = false := fun i hi0 => by
        obtain ⟨q', kk', e'⟩ := lo i (by omega)
        rw [(ok i q' kk' e').2, g i q' kk' hi0 e', decide_eq_true rfl]
        rfl
      have c0 : cnt (v_ok (btab f t V) f) i0 = 0 := cnt_zero.mpr before
      rcases fnd_spec (fun i => v_ok (btab f t V) f i && decide ((cnt (v_ok (btab f t V) f) i : Int) = 0)) 12 with ⟨-, s1⟩ | ⟨i, s0, s1, s2, -⟩
      · have := s1 i0 (by omega)
        rw [o2, c0] at this
        exact absurd this (by decide)
      · simp only [Bool.and_eq_true, decide_eq_true_eq] at s2
        have ge : i0 ≤ i := by
          refine Classical.byContradiction (fun y => ?_)
          rw [before i (by omega)] at s2
          exact absurd s2.1 (by decide)
        have le : i ≤ i0 := by
          refine Classical.byContradiction (fun y => ?_)
          have := cnt_pos (c := v_ok (btab f t V) f) (n := i) (i := i0) (by omega) (by rw [o2]; rfl)
          omega
        have ei : i = i0 := by omega
        rw [s1, if_neg (by omega), ei, o1, e]
  · rw [if_neg z]
    exact (acf_star t p m p' m' (-1) h z).symm
end RBD
