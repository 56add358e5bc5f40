/-! THE RELATION: the class lists a window's nodes -/
theorem nd_inj {l : List Nat} (h : l.Nodup) {i k x : Nat} (a : l[i]? = some x) (b : l[k]? = some x) : i = k := by
  obtain ⟨la, ea⟩ := List.getElem?_eq_some_iff.mp a
  obtain ⟨lb, eb⟩ := List.getElem?_eq_some_iff.mp b
  have p := List.pairwise_iff_getElem.mp h
  rcases Nat.lt_trichotomy i k with q | q | q
  · exact absurd (by rw [ea, eb]) (p i k la lb q)
  · exact q
  · exact absurd (by rw [ea, eb]) (p k i lb la q)
section LN
variable {σ : Sg} {d : Nat → Nat} {wn : Nat → Int} {X : Nat → Bool}
/-- which nodes stand in the list: the root, the children of the first i, those of the next one before place k -/
def BL (V : VW) (r : Nat) (ls : List Nat) (i k : Nat) : Prop :=
  ls.Nodup ∧ ls[0]? = some r ∧ (∀ x ∈ ls, x < 23 ∧ V 8 x ≠ 3) ∧ (∀ j c, ls[j]? = some c → j ≠ 0 → ∃ (a s : Nat), a < j ∧ ls[a]? = some s ∧ V 9 c = s) ∧
  ∀ x, x < 23 → (x ∈ ls ↔ x = r ∨ (∃ (a s : Nat), a < i ∧ ls[a]? = some s ∧ V 9 x = s) ∨ ∃ s : Nat, ls[i]? = some s ∧ V 9 x = s ∧ V 10 x < k)
theorem BL.len {V : VW} {r i k : Nat} {ls : List Nat} (h : BL V r ls i k) : ls.length ≤ 23 := by
  have e := list_cnt (N := 23) (l := ls) (fun x => decide (x ∈ ls)) h.1 (fun x => ⟨fun z => ⟨(h.2.2.1 x z).1, decide_eq_true z⟩, fun z => of_decide_eq_true z.2⟩)
  have := cnt_le (fun x => decide (x ∈ ls)) 23
  omega
theorem BL.get {V : VW} {r i k : Nat} {ls : List Nat} (h : BL V r ls i k) {a b x : Nat} (ha : ls[a]? = some x) (hb : ls[b]? = some x) : a = b := by
  exact nd_inj h.1 ha hb
theorem v_cc_le1 {V : VW} (t : Tree V d wn X) {s : Nat} (hs : s < 23) (h : 1 ≤ v_cc V s) : V 8 s ≤ 1 := by
  unfold v_cc at h
  rw [if_neg (by omega)] at h
  obtain ⟨c, hc, e⟩ := cnt_ex h
  exact (t.par hc (of_decide_eq_true e)).2.1
/-- the next child is new, and is put behind -/
theorem BL.next {V : VW} (t : Tree V d wn X) {r i k s c : Nat} {ls : List Nat} (h : BL V r ls i k) (hr : V 9 r = -1) (hs : ls[i]? = some s) (hc : c < 23) (e9 : V 9 c = s) (e10 : V 10 c = k) : ls.length < 23 ∧ BL V r (ls ++ [c]) i (k + 1) := by
  have nin : ¬ c ∈ ls := fun z => by
    rcases (h.2.2.2.2 c hc).mp z with y | ⟨a, s', ha, hs', e⟩ | ⟨s', hs', e, lt⟩
    · rw [y, hr] at e9
      omega
    · have : s' = s := by omega
      subst this
      have := h.get hs' hs
      omega
    · omega
  have nd : (ls ++ [c]).Nodup := by
    rw [List.nodup_append]
    exact ⟨h.1, by simp, fun a ha b hb => by
      have : b = c := by simpa using hb
      rw [this]
      exact fun z => nin (z ▸ ha)⟩
  have li : i < ls.length := (List.getElem?_eq_some_iff.mp hs).1
  have old : ∀ a x, ls[a]? = some x → (ls ++ [c])[a]? = some x := fun a x hx => by
    rw [List.getElem?_append_left (List.getElem?_eq_some_iff.mp hx).1]
    exact hx
  have new : ∀ a x, (ls ++ [c])[a]? = some x → ls[a]? = some x ∨ (a = ls.length ∧ x = c) := fun a x hx => by
    by_cases q : a < ls.length
    · rw [List.getElem?_append_left q] at hx
      exact Or.inl hx
    · rw [List.getElem?_append_right (by omega)] at hx
      have : a - ls.length = 0 := by
        refine Classical.byContradiction (fun z => ?_)
        rw [List.getElem?_eq_none (by simp; omega)] at hx
        cases hx
      rw [this] at hx
      have hx : some c = some x := hx
      exact Or.inr ⟨by omega, (Option.some.inj hx).symm⟩
  have B : BL V r (ls ++ [c]) i (k + 1) := by
    refine ⟨nd, old 0 r h.2.1, fun x hx => ?_, fun j x hj j0 => ?_, fun x hx => ?_⟩
    · rcases List.mem_append.mp hx with z | z
      · exact h.2.2.1 x z
      · have : x = c := by simpa using z
        rw [this]
        exact ⟨hc, t.us hc (by omega)⟩
    · rcases new j x hj with z | ⟨z, y⟩
      · obtain ⟨a, s', a1, a2, a3⟩ := h.2.2.2.1 j x z j0
        exact ⟨a, s', a1, old a s' a2, a3⟩
      · rw [y, z]
        exact ⟨i, s, li, old i s hs, e9⟩
    · rw [List.mem_append, h.2.2.2.2 x hx]
      constructor
      · rintro ((z | ⟨a, s', a1, a2, a3⟩ | ⟨s', a2, a3, a4⟩) | z)
        · exact Or.inl z
        · exact Or.inr (Or.inl ⟨a, s', a1, old a s' a2, a3⟩)
        · exact Or.inr (Or.inr ⟨s', old i s' a2, a3, by omega⟩)
        · have : x = c := by simpa using z
          rw [this]
          exact Or.inr (Or.inr ⟨s, old i s hs, e9, by omega⟩)
      · rintro (z | ⟨a, s', a1, a2, a3⟩ | ⟨s', a2, a3, a4⟩)
        · exact Or.inl (Or.inl z)
        · rcases new a s' a2 with y | ⟨y, -⟩
          · exact Or.inl (Or.inr (Or.inl ⟨a, s', a1, y, a3⟩))
          · omega
        · rcases new i s' a2 with y | ⟨y, -⟩
          · by_cases z : V 10 x < k
            · exact Or.inl (Or.inr (Or.inr ⟨s', y, a3, z⟩))
            · right
              have : s' = s := Option.some.inj (y.symm.trans hs)
              subst this
              obtain ⟨hs23, ks, -⟩ := t.par hc e9
              have := (t.sp hs23 ks).1.2.2 x c hx hc (decide_eq_true a3) (decide_eq_true e9) (by omega)
              rw [this]
              exact List.mem_singleton.mpr rfl
          · omega
  refine ⟨?_, B⟩
  have := B.len
  rw [List.length_append] at this
  have : ([c] : List Nat).length = 1 := rfl
  omega
/-- all children of the i-th are in: on to the next -/
theorem BL.step {V : VW} (t : Tree V d wn X) {r i s : Nat} {ls : List Nat} (hs : ls[i]? = some s) (hs23 : s < 23) (h : BL V r ls i (v_cc V s)) : BL V r ls (i + 1) 0 := by
  refine ⟨h.1, h.2.1, h.2.2.1, h.2.2.2.1, fun x hx => ?_⟩
  rw [h.2.2.2.2 x hx]
  constructor
  · rintro (z | ⟨a, s', a1, a2, a3⟩ | ⟨s', a2, a3, a4⟩)
    · exact Or.inl z
    · exact Or.inr (Or.inl ⟨a, s', by omega, a2, a3⟩)
    · exact Or.inr (Or.inl ⟨i, s', by omega, a2, a3⟩)
  · rintro (z | ⟨a, s', a1, a2, a3⟩ | ⟨s', a2, a3, a4⟩)
    · exact Or.inl z
    · by_cases q : a < i
      · exact Or.inr (Or.inl ⟨a, s', q, a2, a3⟩)
      · have : a = i := by omega
        subst this
        have : s' = s := Option.some.inj (a2.symm.trans hs)
        subst this
        refine Or.inr (Or.inr ⟨s', hs, a3, ?_⟩)
        obtain ⟨-, ks, -⟩ := t.par hx a3
        have := ((t.sp hs23 ks).1.1 x hx (decide_eq_true a3)).2
        have ec : v_cc V s' = cnt (fun n => decide (V 9 n = s')) 23 := by
          unfold v_cc
          rw [if_neg (by omega)]
        omega
    · have : s' < 23 := by
        have := (h.2.2.1 s' (List.mem_iff_getElem?.mpr ⟨_, a2⟩)).1
        exact this
      obtain ⟨-, ks, -⟩ := t.par hx a3
      have := ((t.sp this ks).1.1 x hx (decide_eq_true a3)).1
      omega
/-- at the end the list is the window -/
theorem BL.all {V : VW} (t : Tree V d wn X) {r : Nat} {ls : List Nat} (h : BL V r ls ls.length 0) (hr : r < 23) (h9 : V 9 r = -1) (hu : V 8 r ≠ 3) {w : Nat} (hw : w < 5) (h5 : V 5 w = r) : ∀ x, x ∈ ls ↔ x < 23 ∧ V 8 x ≠ 3 ∧ wn x = w := by
  have rw' : wn r = w := by
    obtain ⟨w', a, b, c⟩ := t.ro hr hu h9
    have := t.un hw a h5 c
    rw [b, this]
  have mem : ∀ x, x < 23 → (x ∈ ls ↔ x = r ∨ ∃ s : Nat, s ∈ ls ∧ V 9 x = s) := fun x hx => by
    rw [h.2.2.2.2 x hx]
    constructor
    · rintro (z | ⟨a, s', a1, a2, a3⟩ | ⟨s', a2, a3, a4⟩)
      · exact Or.inl z
      · exact Or.inr ⟨s', List.mem_iff_getElem?.mpr ⟨a, a2⟩, a3⟩
      · rw [List.getElem?_eq_none (Nat.le_refl _)] at a2
        cases a2
    · rintro (z | ⟨s, hs, e⟩)
      · exact Or.inl z
      · obtain ⟨a, ha⟩ := List.mem_iff_getElem?.mp hs
        exact Or.inr (Or.inl ⟨a, s, (List.getElem?_eq_some_iff.mp ha).1, ha, e⟩)
  have fw : ∀ (j x : Nat), ls[j]? = some x → wn x = w := by
    intro j
    induction j using Nat.strongRecOn with
    | _ j ih =>
      intro x hx
      by_cases j0 : j = 0
      · rw [j0, h.2.1] at hx
        rw [← Option.some.inj hx, rw']
      · obtain ⟨a, s, a1, a2, a3⟩ := h.2.2.2.1 j x hx j0
        have hx23 := (h.2.2.1 x (List.mem_iff_getElem?.mpr ⟨j, hx⟩)).1
        rw [(t.par hx23 a3).2.2.2]
        exact ih a a1 s a2
  have bw : ∀ m x, dq V x ≤ m → x < 23 → V 8 x ≠ 3 → wn x = w → x ∈ ls := by
    intro m
    induction m with
    | zero =>
      intro x hm hx hxu hxw
      by_cases q : V 9 x = -1
      · obtain ⟨w', a, b, c⟩ := t.ro hx hxu q
        have : w' = w := by omega
        subst this
        exact (mem x hx).mpr (Or.inl (by omega))
      · obtain ⟨s, -, es, -⟩ := t.pa hx q
        have := t.dqc hx es
        omega
    | succ m ih =>
      intro x hm hx hxu hxw
      by_cases q : V 9 x = -1
      · obtain ⟨w', a, b, c⟩ := t.ro hx hxu q
        have : w' = w := by omega
        subst this
        exact (mem x hx).mpr (Or.inl (by omega))
      · obtain ⟨s, hs, es, ks, -, ew⟩ := t.pa hx q
        have := t.dqc hx es
        exact (mem x hx).mpr (Or.inr ⟨s, ih s (by omega) hs (by omega) (by omega), es⟩)
  intro x
  constructor
  · intro z
    obtain ⟨a, b⟩ := h.2.2.1 x z
    obtain ⟨j, hj⟩ := List.mem_iff_getElem?.mp z
    exact ⟨a, b, fw j x hj⟩
  · rintro ⟨a, b, c⟩
    exact bw (dq V x) x (Nat.le_refl _) a b c
/-- what listing leaves alone -/
def Fl (σ σ' : Sg) : Prop := σ'.2 = σ.2 ∧ (∀ j, j ≠ 422 → j ≠ 430 → σ'.1 j = σ.1 j) ∧ ∀ i, i ≠ 8 → σ'.1 422 i = σ.1 422 i
theorem Fl.rf : Fl σ σ := ⟨rfl, fun _ _ _ => rfl, fun _ _ => rfl⟩
theorem Fl.tr {σ1 σ2 : Sg} (h : Fl σ σ1) (h2 : Fl σ1 σ2) : Fl σ σ2 := ⟨h2.1.trans h.1, fun j a b => (h2.2.1 j a b).trans (h.2.1 j a b), fun i a => (h2.2.2 i a).trans (h.2.2 i a)⟩
theorem Fl.s8 {v : Int32} : Fl σ (su σ 422 8 v) := ⟨rfl, fun j a _ => su_ne a, fun i a => by rw [su_at, if_neg (fun z => a z.2)]⟩
theorem Fl.s430 {i : Nat} {v : Int32} : Fl σ (su σ 430 i v) := ⟨rfl, fun j _ b => su_ne b, fun i _ => by rw [su_at, if_neg (by omega)]⟩
theorem Fl.pv {σ' : Sg} (h : Fl σ σ') : pv σ' 6 = pv σ 6 := pv_cg (fun j hj => h.2.1 j (by omega) (by omega))
/-- listNodes -/
theorem s_list {l : List Nat} (hr : rl (σ.1 430) l) (hl : l.length < 23) (e : σ.1 422 8 = nI l.length) {c : Nat} (hc : c < 23) : ∃ σ', fX2_list σ 422 (nI c) = some σ' ∧ Fl σ σ' ∧ rl (σ'.1 430) (l ++ [c]) ∧ σ'.1 422 8 = nI (l ++ [c]).length := by
  have ec : (nI c).toInt = c := j_nI (by omega)
  unfold fX2_list
  rw [if_neg (fun z => by rw [j_eq, ec, jm1] at z; omega), e, if_neg (by rw [j_le, j_nI (by omega), j_nI (by omega)]; omega), show (422 + 8 : Nat) = 430 from rfl, s_putn (by decide) hl, j_b, j_nm]
  have e8 : (su σ 430 l.length (nI c)).1 422 8 = nI l.length := by rw [su_at, if_neg (by omega), e]
  rw [e8, j_s]
  refine ⟨_, rfl, Fl.s430.tr Fl.s8, ?_, ?_⟩
  · refine rl_snoc hr (fun i => ?_)
    rw [su_at, if_neg (by omega), su_at]
    by_cases z : i = l.length
    · rw [if_pos ⟨rfl, z⟩, if_pos z]
    · rw [if_neg (fun y => z y.2), if_neg z]
  · rw [su_at, if_pos ⟨rfl, rfl⟩, List.length_append]
    rfl
/-- the children of the i-th -/
theorem s_ln43 (t : Tree (pv σ 6) d wn X) {r i s : Nat} {ls : List Nat} (h : BL (pv σ 6) r ls i 0) (h9 : pv σ 6 9 r = -1) (hs : ls[i]? = some s) (hr : rl (σ.1 430) ls) (e : σ.1 422 8 = nI ls.length) (K : Sg → Int32 → Option Sg) : ∃ σ' ls', fX2_listNodes_43 422 6 K FU σ (nI i) (nI (v_cc (pv σ 6) s)) 0 = K σ' (nI (i + 1)) ∧ Fl σ σ' ∧ rl (σ'.1 430) ls' ∧ σ'.1 422 8 = nI ls'.length ∧ BL (pv σ 6) r ls' (i + 1) 0 ∧ i + 1 ≤ ls'.length := by
  have ms := h.2.2.1 s (List.mem_iff_getElem?.mpr ⟨i, hs⟩)
  have cc23 : v_cc (pv σ 6) s ≤ 23 := by
    unfold v_cc
    split
    · omega
    · exact cnt_le _ _
  have es : (nI s).toInt = s := j_nI (by omega)
  have li : i < 23 := by
    have := (List.getElem?_eq_some_iff.mp hs).1
    have := h.len
    omega
  refine lp (F := fun m (s' : Sg × Int32) => fX2_listNodes_43 422 6 K m s'.1 (nI i) (nI (v_cc (pv σ 6) s)) s'.2) (Q := fun o => ∃ σ' ls', o = K σ' (nI (i + 1)) ∧ Fl σ σ' ∧ rl (σ'.1 430) ls' ∧ σ'.1 422 8 = nI ls'.length ∧ BL (pv σ 6) r ls' (i + 1) 0 ∧ i + 1 ≤ ls'.length) (fun k s' => s'.2 = nI k ∧ Fl σ s'.1 ∧ ∃ ls', rl (s'.1.1 430) ls' ∧ s'.1.1 422 8 = nI ls'.length ∧ BL (pv σ 6) r ls' i k ∧ ls'[i]? = some s) (v_cc (pv σ 6) s) ?_ ?_ (v_cc (pv σ 6) s) 0 FU (σ, 0) (by omega) (by show _ < 6000; omega) ⟨rfl, Fl.rf, ls, hr, e, h, hs⟩
  · rintro m k ⟨s', l⟩ hk ⟨rfl, hf, ls', hr', e', h', hs'⟩
    simp only at hf hr' e'
    have ks : pv σ 6 8 s ≤ 1 := by
      have := v_cc_le1 t ms.1 (by omega)
      exact this
    obtain ⟨c, hc, e1, e2, e3, -⟩ := t.kid ms.1 ks hk
    obtain ⟨lt, B⟩ := h'.next t h9 hs' hc e2 e3
    have ek : (nI k).toInt = k := j_nI (by omega)
    obtain ⟨σ2, a2, f2, r2, v2⟩ := s_list hr' lt e' hc
    show ∃ s2 : Sg × Int32, _ ∧ fX2_listNodes_43 422 6 K (m + 1) s' (nI i) (nI (v_cc (pv σ 6) s)) (nI k) = _
    rw [fX2_listNodes_43, if_neg (by rw [j_le, ek, j_nI (by omega)]; omega), show (422 + 8 : Nat) = 430 from rfl, s_atn (by decide) li, j_b, hr' i s hs', s_childAt, j_b, hf.pv, es, ek, e1, ← j_nIo c (by omega), a2, j_b, j_s]
    refine ⟨(σ2, nI (k + 1)), ⟨rfl, hf.tr f2, ls' ++ [c], r2, v2, B, ?_⟩, rfl⟩
    rw [List.getElem?_append_left (List.getElem?_eq_some_iff.mp hs').1]
    exact hs'
  · rintro m ⟨s', l⟩ ⟨rfl, hf, ls', hr', e', h', hs'⟩
    simp only at hf hr' e'
    show ∃ σ' ls', fX2_listNodes_43 422 6 K (m + 1) s' (nI i) (nI (v_cc (pv σ 6) s)) (nI (v_cc (pv σ 6) s)) = _ ∧ _
    rw [fX2_listNodes_43, if_pos (by rw [j_le]; exact Int.le_refl _), j_s]
    exact ⟨s', ls', rfl, hf, hr', e', h'.step t hs' ms.1, (List.getElem?_eq_some_iff.mp hs').1⟩
theorem s_listNodes (t : Tree (pv σ 6) d wn X) {r : Nat} (hr : r < 23) (h9 : pv σ 6 9 r = -1) (hu : pv σ 6 8 r ≠ 3) : ∃ σ' ls, fX2_listNodes σ 422 6 (nI r) = some σ' ∧ Fl σ σ' ∧ rl (σ'.1 430) ls ∧ σ'.1 422 8 = nI ls.length ∧ BL (pv σ 6) r ls ls.length 0 := by
  unfold fX2_listNodes
  rw [j_nm]
  obtain ⟨σ1, a1, f1, r1, v1⟩ := s_list (σ := su σ 422 8 0) (l := []) (fun k c h => by cases h) (by decide) (by rw [su_at, if_pos ⟨rfl, rfl⟩]; rfl) hr
  rw [a1, j_b]
  have f1 : Fl σ σ1 := Fl.s8.tr f1
  have B : BL (pv σ 6) r [r] 0 0 := by
    refine ⟨by simp, rfl, fun x hx => ?_, fun j c hj j0 => ?_, fun x hx => ?_⟩
    · have : x = r := by simpa using hx
      rw [this]
      exact ⟨hr, hu⟩
    · rw [List.getElem?_eq_none (by simp; omega)] at hj
      cases hj
    · constructor
      · intro z
        exact Or.inl (by simpa using z)
      · rintro (z | ⟨a, -, z, -⟩ | ⟨s, hs, e, z⟩)
        · rw [z]
          exact List.mem_singleton.mpr rfl
        · omega
        · have hs : some r = some s := hs
          have : r = s := Option.some.inj hs
          subst this
          obtain ⟨hs23, ks, -⟩ := t.par hx e
          have := ((t.sp hs23 ks).1.1 x hx (decide_eq_true e)).1
          omega
  refine lpx (F := fun m (s : Sg × Int32) => fX2_listNodes_12 422 6 m s.1 s.2) (Q := fun o => ∃ σ' ls, o = some σ' ∧ Fl σ σ' ∧ rl (σ'.1 430) ls ∧ σ'.1 422 8 = nI ls.length ∧ BL (pv σ 6) r ls ls.length 0) (fun i s => s.2 = nI i ∧ Fl σ s.1 ∧ ∃ ls, rl (s.1.1 430) ls ∧ s.1.1 422 8 = nI ls.length ∧ BL (pv σ 6) r ls i 0 ∧ i ≤ ls.length) 23 ?_ ?_ 23 0 FU (σ1, 0) rfl (by decide) ⟨rfl, f1, [r], r1, v1, B, by omega⟩
  · rintro m i ⟨s, l⟩ hi ⟨rfl, hf, ls, hr', e', h', hl⟩
    simp only at hf hr' e'
    have l23 := h'.len
    show (∃ σ' ls, fX2_listNodes_12 422 6 (m + 1) s (nI i) = some σ' ∧ _) ∨ ∃ s' : Sg × Int32, _ ∧ fX2_listNodes_12 422 6 (m + 1) s (nI i) = _
    rw [fX2_listNodes_12, if_neg (n_ge 23 (m := 23) rfl hi (by decide)), e']
    by_cases q : ls.length ≤ i
    · left
      have : i = ls.length := by omega
      rw [if_pos (by rw [j_le, j_nI (by omega), j_nI (by omega)]; omega)]
      exact ⟨s, ls, rfl, hf, hr', e', by rw [this] at h'; exact h'⟩
    · right
      have gi := List.getElem?_eq_getElem (show i < ls.length by omega)
      generalize ls[i] = c at gi
      have hc := h'.2.2.1 c (List.mem_iff_getElem?.mpr ⟨i, gi⟩)
      rw [if_neg (by rw [j_le, j_nI (by omega), j_nI (by omega)]; omega), show (422 + 8 : Nat) = 430 from rfl, s_atn (by decide) hi, j_b, hr' i c gi, s_childCount, j_b, j_nI (show c < 2147483648 by omega), hf.pv]
      have cc23 : v_cc (pv σ 6) c ≤ 23 := by
        unfold v_cc
        split
        · omega
        · exact cnt_le _ _
      rw [← j_nIo _ (by omega)]
      have pe := hf.pv
      obtain ⟨σ2, ls2, a2, f2, r2, v2, B2, l2⟩ := s_ln43 (σ := s) (d := d) (wn := wn) (X := X) (by rw [pe]; exact t) (r := r) (i := i) (s := c) (ls := ls) (by rw [pe]; exact h') (by rw [pe]; exact h9) gi hr' e' (fX2_listNodes_12 422 6 m)
      rw [pe] at a2 B2
      rw [a2]
      exact ⟨(σ2, nI (i + 1)), ⟨rfl, hf.tr f2, ls2, r2, v2, B2, l2⟩, rfl⟩
  · rintro m ⟨s, l⟩ ⟨rfl, hf, ls, hr', e', h', hl⟩
    simp only at hf hr' e'
    have l23 := h'.len
    have : 23 = ls.length := by omega
    show ∃ σ' ls, fX2_listNodes_12 422 6 (m + 1) s (nI 23) = some σ' ∧ _
    rw [fX2_listNodes_12, if_pos (n_le 23 (m := 23) rfl (by decide))]
    exact ⟨s, ls, rfl, hf, hr', e', by rw [← this]; exact h'⟩
end LN
