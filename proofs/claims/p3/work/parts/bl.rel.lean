/-! THE RELATION: read (16): the reference reads a group and makes it -/
section RBL
variable {n : Nat} {c : Nat → Int32} {s : Sg} {V V1 : VW} {d : Nat → Nat} {wn : Nat → Int} {X : Nat → Bool}
theorem ln_pos : ∀ {t : List (Nat × Nat)}, t ≠ [] → 1 ≤ t.length
  | [], h => absurd rfl h
  | _ :: l, _ => Nat.succ_le_succ (Nat.zero_le l.length)
theorem star_in : ∀ (t : List (Nat × Nat)), star t ≠ -1 → ∃ (i q : Nat), t[i]? = some (q, 2) ∧ star t = q
  | [], h => absurd rfl h
  | (q, kk) :: l, h => by
    have e : star ((q, kk) :: l) = if kk = 2 then (q : Int) else star l := rfl
    by_cases z : kk = 2
    · exact ⟨0, q, by rw [z]; rfl, by rw [e, if_pos z]⟩
    · rw [e, if_neg z] at h
      obtain ⟨i, q', a, b⟩ := star_in l h
      exact ⟨i + 1, q', by simpa using a, by rw [e, if_neg z]; exact b⟩
theorem tb_cnt : ∀ {t : List (Nat × Nat)} {st : Bool} {p m p' m' : Nat}, Tb n c t st p m p' m' → m < 4096 → m' < 4096 ∧ cnt (fun q => Nat.testBit m q) 12 = cnt (fun q => Nat.testBit m' q) 12 + t.length
  | [], _, _, _, _, _, h, hm => by
    have h : _ ∧ _ := h
    rw [h.2]
    exact ⟨hm, rfl⟩
  | (q, kk) :: l, st, p, m, p', m', h, hm => by
    obtain ⟨hq, hb, _, _, p2, st', k, r⟩ := h
    obtain ⟨a, b⟩ := tb_cnt r (m_lt hm)
    have cn : cnt (fun i => Nat.testBit m i) 12 = cnt (fun i => Nat.testBit (m &&& (4095 - 2 ^ q)) i) 12 + 1 := cnt_one_more (i0 := q) hq (fun i _ ne => by rw [and_bit hm hq, decide_eq_true ne, Bool.and_true]) (by rw [and_bit hm hq, decide_eq_false (fun w => w rfl), Bool.and_false]) hb
    refine ⟨a, ?_⟩
    rw [cn, b]
    rfl
theorem tb_hd {t : List (Nat × Nat)} {st : Bool} {p m p' m' : Nat} (h : Tb n c t st p m p' m') (tn : t ≠ []) : p < p' ∧ ∃ q, q < 12 ∧ p < n ∧ c p = nI (97 + q) := by
  match t, h, tn with
  | [], _, tn => exact absurd rfl tn
  | (q, kk) :: l, h, _ =>
    obtain ⟨hq, hb, hp, e, p2, st', k, r⟩ := h
    have := k.lt
    have := Tb.le r
    exact ⟨by omega, q, hq, hp, e⟩
theorem btab_new {f : Nat} (hf : f < 23) : ∀ (t : List (Nat × Nat)) (st : Bool) (p m p' m' : Nat) (V : VW), Tb n c t st p m p' m' → m < 4096 → ∀ q, q < 12 → btab f t V 13 q = V 13 q ∨ Nat.testBit m q = true
  | [], _, _, _, _, _, _, _, _, _, _ => Or.inl rfl
  | (q0, kk) :: l, st, p, m, p', m', V, h, hm, q, hq => by
    obtain ⟨hq0, hb, _, _, p2, st', k, r⟩ := h
    have e13 : tb2 f q0 kk V 13 = v_join V q0 f 13 := by
      unfold tb2
      by_cases z : kk = 1
      · rw [if_pos z, v_hide_ne (by decide) (by decide)]
      · rw [if_neg z]
    rcases btab_new hf l st' p2 (m &&& (4095 - 2 ^ q0)) p' m' (tb2 f q0 kk V) r (m_lt hm) q hq with e | e
    · by_cases z : q = q0
      · rw [z]
        exact Or.inr hb
      · left
        rw [btab_s, e, e13, (join_rows (V := V) hq0 hf).1 q, if_neg z]
    · right
      rw [and_bit hm hq0] at e
      cases b : Nat.testBit m q
      · rw [b] at e
        cases e
      · rfl
theorem grp_key {f : Nat} (hf : f < 23) {t : List (Nat × Nat)} {p m p' m' : Nat} (h : Tb n c t false p m p' m') (hm : m < 4096) (tv : Tabs V1 (fun i => i == f)) (k2 : V1 8 f = 2) (ms : Msk V1 m) (h0 : v_tc V1 f = 0) (tv' : Tabs (btab f t V1) (fun i => i == f)) (k2' : btab f t V1 8 f = 2) (hl : v_tc (btab f t V1) f = t.length) : ((if star t = -1 then v_sta (btab f t V1) f 0 else star t) = -1 ∧ ∀ x : Nat, x < 12 → btab f t V1 13 x = f → btab f t V1 15 x = 1) ∨ ∃ x : Nat, x < 12 ∧ (if star t = -1 then v_sta (btab f t V1) f 0 else star t) = x ∧ btab f t V1 13 x = f ∧ btab f t V1 15 x = 0 := by
  have ae := act_eq hf (Z := fun i => i == f) (by simp) h hm tv k2 ms h0 tv' k2' hl
  have sp := fun i q kk e => btab_spot hf (Z := fun i => i == f) (by simp) t false p m p' m' V1 h hm tv k2 ms i q kk e
  have nu := tv'.nu hf k2'
  by_cases z : star t = -1
  · rw [ae]
    rcases acf_first t z with ⟨a1, b⟩ | ⟨i, q, kk, e1, e2, e3, _⟩
    · refine Or.inl ⟨a1, fun x hx hg => ?_⟩
      have r := nu.1 x hx (decide_eq_true hg)
      have ln : cnt (fun p => decide (btab f t V1 13 p = (f : Int))) 12 = t.length := hl
      rw [ln] at r
      obtain ⟨i, hi⟩ : ∃ i : Nat, btab f t V1 14 x = i := ⟨(btab f t V1 14 x).toNat, by omega⟩
      have il : i < t.length := by omega
      have e : t[i]? = some (t[i].1, t[i].2) := by rw [List.getElem?_eq_getElem il]
      obtain ⟨y1, y2, y3, y4⟩ := sp i _ _ e
      have ex : x = t[i].1 := nu.2.2 x _ hx y1 (decide_eq_true hg) (decide_eq_true y2) (by rw [y3, h0, Nat.zero_add, hi])
      rw [ex, y4, if_pos (b i _ _ e)]
    · obtain ⟨y1, y2, y3, y4⟩ := sp i _ _ e1
      exact Or.inr ⟨q, y1, e3, y2, by rw [y4, if_neg e2]⟩
  · obtain ⟨i, q, e1, e2⟩ := star_in t z
    obtain ⟨y1, y2, y3, y4⟩ := sp i _ _ e1
    rw [if_neg z]
    exact Or.inr ⟨q, y1, e2, y2, by rw [y4, if_neg (by omega)]⟩
theorem grp_tabs {f : Nat} (hf : f < 23) {t : List (Nat × Nat)} (tn : t ≠ []) {p m p' m' : Nat} (h : Tb n c t false p m p' m') (hm : m < 4096) (tv : Tabs V1 (fun i => i == f)) (k2 : V1 8 f = 2) (ms : Msk V1 m) (h0 : v_tc V1 f = 0) (tv' : Tabs (btab f t V1) (fun i => i == f)) (k2' : btab f t V1 8 f = 2) (hl : v_tc (btab f t V1) f = t.length) : Tabs (fing f (star t) (btab f t V1)) (fun _ => false) := by
  have key := grp_key hf h hm tv k2 ms h0 tv' k2' hl
  obtain ⟨a, ha⟩ : ∃ a : Int, a = (if star t = -1 then v_sta (btab f t V1) f 0 else star t) := ⟨_, rfl⟩
  unfold fing
  rw [← ha] at key ⊢
  obtain ⟨B, hB⟩ : ∃ B : VW, B = btab f t V1 := ⟨_, rfl⟩
  rw [← hB] at key tv' k2' hl ⊢
  have e8 : up B 12 f a 8 = B 8 := up_ne (by decide)
  have e13 : up B 12 f a 13 = B 13 := up_ne (by decide)
  have e14 : up B 12 f a 14 = B 14 := up_ne (by decide)
  have e15 : up B 12 f a 15 = B 15 := up_ne (by decide)
  refine ⟨fun p hp => ?_, fun p hp q => ?_, fun p hp => ?_, fun g hg q => ?_⟩
  · rw [e13, e8]
    exact tv'.gr hp
  · rw [e13] at q
    rw [e14, e15]
    exact tv'.no hp q
  · rw [e15]
    exact tv'.hi hp
  · rw [e8] at q
    rw [e13, e14]
    refine ⟨tv'.nu hg q, fun _ => ?_⟩
    unfold Act
    rw [e13, e15, up12 hf]
    by_cases z : g = f
    · rw [if_pos z, z]
      refine ⟨?_, key⟩
      have ln : cnt (fun p => decide (B 13 p = (f : Int))) 12 = t.length := hl
      rw [ln]
      exact ln_pos tn
    · rw [if_neg z]
      exact tv'.fu hg q (by simp [z])
theorem m_grp1 (T : Tt n c) {p u D : Nat} {cn : Nat → Nat} (ms : MS n c s p u D cn) {O : Nat → Bool} (h : BMr (mv (s.1 463)) V O) (t0 : Tree V d wn X) (tb : Tabs V (fun _ => false)) {f : Nat} (hf : f < 23) (hk : V 8 f = 3) (hl : ∀ k, k < f → V 8 k ≠ 3) (a : AT V V1 f 2) {m : Nat} (hm : m < 4096) (mk0 : Msk V m) (u4 : u < 4096) (al : ∀ q, q < 12 → Nat.testBit m q = true → Nat.testBit u q = false ∧ mv (s.1 463) 6 q = 1) {t : List (Nat × Nat)} {p' m' : Nat} (ht : Tb n c t false p m p' m') (tn : t ≠ []) (lp : ltr n c p' = false) (pn : p' ≤ n) : ∃ s' u', fX9_readsGroup s 462 1 = some s' ∧ Fy1 s s' ∧ MT n c s' p' ∧ s'.1 462 16 = -1 ∧ s'.1 462 20 = nI u' ∧ s'.1 462 21 = oI f ∧ u' < 4096 ∧ m' < 4096 ∧ (∀ q, q < 12 → Nat.testBit m' q = true → Nat.testBit u' q = false ∧ Nat.testBit m q = true) ∧ BMr (mv (s'.1 463)) (fing f (star t) (btab f t V1)) (fun i => O i || i == f) ∧ (∀ k, (6 ≤ k ∧ k ≤ 8) ∨ 12 ≤ k → mv (s'.1 463) k = mv (s.1 463) k) ∧ (∀ x, x ≠ 462 → x ≠ 463 → s'.1 x = s.1 x) ∧ s'.1 462 19 = s.1 462 19 ∧ s'.1 462 22 = s.1 462 22 ∧ (∀ i, mv (s'.1 463) 1 i = if i = f then -1 else mv (s.1 463) 1 i) ∧ Tabs (fing f (star t) (btab f t V1)) (fun _ => false) ∧ Msk (fing f (star t) (btab f t V1)) m' ∧ (∀ k, k ≠ 12 → k ≠ 13 → k ≠ 14 → k ≠ 15 → fing f (star t) (btab f t V1) k = V1 k) ∧ ∀ q, q < 12 → fing f (star t) (btab f t V1) 13 q = V 13 q ∨ Nat.testBit m q = true := by
  have fu : FU = 6000 := rfl
  obtain ⟨w1, a1, a2, a3⟩ := m_newNode (σ := s) (n0 := f) (by omega) ((h.1 f hf).1 hk) (fun i hi z => hl i hi ((h.k0 (by omega) (t0.ki (by omega))).mp z)) 2
  have a3 : mv (w1.1 463) = nn (mv (s.1 463)) f 2 := a3
  obtain ⟨n0, n1, n2, n3, n4, n5, nj⟩ := nn_rows (U := mv (s.1 463)) (n := f) (k := 2)
  rw [← a3] at n0 n1 n2 n3 n4 n5 nj
  obtain ⟨w2, hw2⟩ : ∃ w2 : Sg, w2 = su w1 462 21 (oI f) := ⟨_, rfl⟩
  have r63 : w2.1 463 = w1.1 463 := by rw [hw2, su_ne (by omega)]
  have k62 : ∀ i, i ≠ 21 → w2.1 462 i = s.1 462 i := fun i hi => by rw [hw2, su_at, if_neg (fun w => hi w.2), a2.2 462 (by omega)]
  have kx : ∀ x, x ≠ 462 → x ≠ 463 → w2.1 x = s.1 x := fun x q1 q2 => by rw [hw2, su_ne q1, a2.2 x (by omega)]
  obtain ⟨a8, a9, a5, aj⟩ := id a
  have j13 := aj 13 (by decide) (by decide) (by decide) (by decide) (by decide)
  have j14 := aj 14 (by decide) (by decide) (by decide) (by decide) (by decide)
  have j15 := aj 15 (by decide) (by decide) (by decide) (by decide) (by decide)
  have j12 := aj 12 (by decide) (by decide) (by decide) (by decide) (by decide)
  obtain ⟨tv, tc0⟩ := att_tabg (V' := V1) (Z' := fun i => i == f) tb hf hk a8 j12 j13 j14 j15 (by simp) (fun i hi => by simp [hi])
  have mk1 : Msk V1 m := fun q hq b => by rw [j13, j15]; exact mk0 q hq b
  have k2 : V1 8 f = 2 := by rw [a8 f hf, if_pos rfl]
  have pr1 : PR (mv (w2.1 463)) V1 := fun q hq => by
    rw [r63, nj 9 (by decide), nj 10 (by decide), nj 11 (by decide), j13, j14, j15]
    exact h.2.2.2.2.2.1 q hq
  have mt2 : MT n c w2 p := ⟨by rw [k62 5 (by omega)]; exact ms.1.1, fun i hi => by rw [kx 465 (by omega) (by omega)]; exact ms.1.2.1 i hi, by rw [k62 15 (by omega)]; exact ms.1.2.2⟩
  have tl : t.length ≤ 12 := by
    have : t.length < 13 := by
      refine Classical.byContradiction (fun z => ?_)
      obtain ⟨s', u', -, -, -, -, -, -, -, -, -, -, -, -, y12, -⟩ := g_loop T hf (Z := fun i => i == f) (by simp) t false p m p' m' V1 w2 u 0 (t.length + 1) ht tn lp pn hm tv k2 mk1 pr1 tc0 mt2 (by rw [k62 16 (by omega)]; exact ms.2.1) (by rw [k62 20 (by omega)]; exact ms.2.2.2.1) u4 (fun q hq b => ⟨(al q hq b).1, by rw [r63, nj 6 (by decide)]; exact (al q hq b).2⟩) (by rw [hw2, su_at, if_pos ⟨rfl, rfl⟩]) (by omega)
      have := v_tc_rg (btab f t V1) f
      omega
    omega
  obtain ⟨s', u', y1, y2, y3, y4, y5, y6, y6', y7, y8, y9, y10, y11, y12, y13, y14, y15, y16⟩ := g_loop T hf (Z := fun i => i == f) (by simp) t false p m p' m' V1 w2 u 0 FU ht tn lp pn hm tv k2 mk1 pr1 tc0 mt2 (by rw [k62 16 (by omega)]; exact ms.2.1) (by rw [k62 20 (by omega)]; exact ms.2.2.2.1) u4 (fun q hq b => ⟨(al q hq b).1, by rw [r63, nj 6 (by decide)]; exact (al q hq b).2⟩) (by rw [hw2, su_at, if_pos ⟨rfl, rfl⟩]) (by omega)
  have e5 : mv (w2.1 463) 5 f = -1 := by rw [r63, n5 f, if_pos rfl]
  have kb2 : btab f t V1 8 f = 2 := by rw [y14 8 (by decide) (by decide) (by decide) (by decide)]; exact k2
  have act := act_eq hf (Z := fun i => i == f) (by simp) ht hm tv k2 mk1 tc0 y11 (by rw [y14 8 (by decide) (by decide) (by decide) (by decide)]; exact k2) (by rw [y12, Nat.zero_add])
  have cx : ∀ x, x ≠ 462 → x ≠ 463 → s'.1 x = s.1 x := fun x q1 q2 => (y2.2.1 x q1 q2).trans (kx x q1 q2)
  have c62 : ∀ i, i ≠ 15 → i ≠ 16 → i ≠ 20 → i ≠ 21 → s'.1 462 i = s.1 462 i := fun i q1 q2 q3 q4 => (y2.2.2 i q1 q2 q3).trans (k62 i q4)
  refine ⟨s', u', ?_, ⟨?_, fun x q1 q2 _ _ _ => cx x q1 q2, fun i hi => c62 i (by omega) (by omega) (by omega) (by omega)⟩, y3, y4, y5, ?_, y6, y6', y7, ?_, fun k hk => ?_, cx, c62 19 (by omega) (by omega) (by omega) (by omega), c62 22 (by omega) (by omega) (by omega) (by omega), fun i => by rw [y10 1 (by decide) (by decide) (by decide) (by decide), r63]; exact n1 i, grp_tabs hf tn ht hm tv k2 mk1 tc0 y11 kb2 (by rw [y12, Nat.zero_add]), fun q hq b => by have := y13 q hq b; unfold fing; rw [up_ne (by decide), up_ne (by decide)]; exact this, fun k q1 q2 q3 q4 => by unfold fing; rw [up_ne q1]; exact y14 k q1 q2 q3 q4, fun q hq => by unfold fing; rw [up_ne (by decide), ← j13]; exact btab_new hf t false p m p' m' V1 ht hm q hq⟩
  · unfold fX9_readsGroup
    rw [if_neg (show ¬ ((1 : Int32) = 0) by decide), a1, j_b]
    dsimp only
    rw [← hw2, j_nm]
    exact y1
  · rw [y2.1, hw2]
    exact a2.1
  · rw [y2.2.2 21 (by omega) (by omega) (by omega), hw2, su_at, if_pos ⟨rfl, rfl⟩]
  · unfold fing
    rw [act]
    refine h.grp (U1 := mv (w2.1 463)) hf a (fun i => by rw [r63]; exact n0 i) (fun i ne => ?_) (fun j hj => by rw [r63]; exact nj j (by omega)) y8 (fun i => by rw [y9 i, e5]) y10 y14 y15
    rw [r63, n1 i, n2 i, n3 i, n4 i, n5 i, if_neg ne, if_neg ne, if_neg ne, if_neg ne, if_neg ne]
    exact ⟨rfl, rfl, rfl, rfl, rfl⟩
  · rw [y10 k (by omega) (by omega) (by omega) (by omega), r63, nj k (by omega)]
end RBL
