/-! THE RELATION: the class's plan, a window (2) -/
section CX
variable {σ : Sg} {d : Nat → Nat} {wn : Nat → Int} {X : Nat → Bool} {mw mh : Nat → Int}
theorem s_arrangeG {n : Nat} (hn : n < 23) (k : pv σ 6 8 n = 2) : fX2_arrange σ 422 6 (nI n) = some σ := by
  have en : (nI n).toInt = n := j_nI (by omega)
  have t8 := t_ga (σ := σ) (b := 6) (j := 8) (n := 23) (p := (n : Int))
  rw [ga_in hn] at t8
  have two : (2 : Int32).toInt = 2 := rfl
  unfold fX2_arrange
  rw [s_kindOf, j_b, en, ga_in hn, if_pos (j_eq.mpr (by rw [t8, k, two]))]
theorem s_arrange0 (t : Tree (pv σ 6) d wn X) {n : Nat} (hn : n < 23) (k : pv σ 6 8 n ≤ 1) (h0 : pls (pv σ 6) (qv σ) n = []) : ∃ σ', fX2_arrange σ 422 6 (nI n) = some σ' ∧ Ff σ σ' [] := by
  have en : (nI n).toInt = n := j_nI (by omega)
  have gk : ga (pv σ 6 8) 23 (nI n).toInt = pv σ 6 8 n := by rw [en]; exact ga_in hn
  have t8 := t_ga (σ := σ) (b := 6) (j := 8) (n := 23) (p := (n : Int))
  rw [ga_in hn] at t8
  obtain ⟨d1, d2⟩ := t.drs hn k
  have two : (2 : Int32).toInt = 2 := rfl
  have n2 : ¬ oI (pv σ 6 8 n) = 2 := fun z => by
    rw [j_eq, t8, two] at z
    omega
  have hD : (oI (pv σ 6 8 n) = 0 ∧ dr (pv σ 6) n = 0) ∨ (¬ oI (pv σ 6 8 n) = 0 ∧ dr (pv σ 6) n = 1) := by
    have z : dr (pv σ 6) n = 0 ∨ dr (pv σ 6) n = 1 := by omega
    rcases z with z | z
    · exact Or.inl ⟨j_eq.mpr (by rw [t8, jz0]; omega), z⟩
    · exact Or.inr ⟨fun y => by rw [j_eq, t8, jz0] at y; omega, z⟩
  obtain ⟨σ1, a1, o1, r1⟩ := s_listParts t hn k
  rw [h0] at a1 r1
  have f1 : Ff σ (su σ1 432 5 0) [] := (Ff.ou (o1.mo (by omega) (by omega))).tr (Ff.ou (su_out.mo (by omega) (by omega)))
  have pe := f1.pv
  obtain ⟨σ2, a2, o2, s2⟩ := s_arr30 (σ := su σ1 432 5 0) (d := d) (wn := wn) (X := X) hn (by rw [pe]; exact t) (pl := []) (fun c hc => by cases hc) (by decide) (fun k c g => by cases g) (by rw [su_at, if_pos ⟨rfl, rfl⟩]) (oI (pv σ 6 8 n)) (dr (pv σ 6) n) hD
  have f2 : Ff σ σ2 [] := f1.tr (Ff.ou (o2.mo (by omega) (by omega)))
  obtain ⟨σ3, a3, o3⟩ := s_share0 (σ := σ2) s2.1 (if 0 < (σ2.1 (422 + (6 + dr (pv σ 6) n)) n - (nI ([] : List Nat).length - 1)) then (σ2.1 (422 + (6 + dr (pv σ 6) n)) n - (nI ([] : List Nat).length - 1)) else 0)
  refine ⟨σ3, ?_, f2.tr (Ff.ou (o3.mo (by omega) (by omega)))⟩
  unfold fX2_arrange
  rw [s_kindOf, j_b, gk, if_neg n2, a1, j_b]
  unfold fX3_begin
  rw [j_nm, j_b, show (422 + 10 : Nat) = 432 from rfl, a2, s_ext hn _ _ hD, j_b, j_nm, show (422 + 10 : Nat) = 432 from rfl, a3, j_b]
  show fX2_arrange_105 422 6 (5999 + 1) σ3 (nI n) (oI (pv σ 6 8 n)) (nI 0) 0 0 = some σ3
  rw [fX2_arrange_105, if_pos (by decide)]
/-- all nodes of the list are arranged -/
theorem s_arr147 (t : Tree (pv σ 6) d wn X) (hwB : ∀ p, p < 12 → 0 ≤ mw p ∧ mw p ≤ 40) (hhB : ∀ p, p < 12 → 0 ≤ mh p ∧ mh p ≤ 40) {r : Nat} {ls : List Nat} (B : BL (pv σ 6) r ls ls.length 0) (h9 : pv σ 6 9 r = -1) (hr : rl (σ.1 430) ls) (h8 : σ.1 422 8 = nI ls.length) (hE : ∀ n ∈ ls, EM (pv σ 6) mw mh (qv σ) n) (hroot : (0 ≤ qv σ 6 r ∧ qv σ 6 r ≤ 400) ∧ 0 ≤ qv σ 7 r ∧ qv σ 7 r ≤ 400) : ∃ σ', fX2_computeWindow_147 422 1 FU σ 0 = some σ' ∧ Ff σ σ' ls ∧ (∀ j, 426 ≤ j → j ≤ 429 → σ'.1 j r = σ.1 j r) ∧ ∀ n ∈ ls, EA (pv σ 6) (qv σ') n := by
  have len := B.len
  have mem : ∀ k c, ls[k]? = some c → c < 23 ∧ pv σ 6 8 c ≠ 3 := fun k c g => B.2.2.1 c (List.mem_iff_getElem?.mpr ⟨k, g⟩)
  have kid : ∀ c s, c < 23 → s ∈ ls → pv σ 6 9 c = (s : Nat) → c ∈ ls := fun c s hc hs e => by
    obtain ⟨a, ha⟩ := List.mem_iff_getElem?.mp hs
    exact (B.2.2.2.2 c hc).mpr (Or.inr (Or.inl ⟨a, s, (List.getElem?_eq_some_iff.mp ha).1, ha, e⟩))
  -- a child stands behind its parent
  have later : ∀ a b c s : Nat, ls[a]? = some c → ls[b]? = some s → pv σ 6 9 c = s → b < a := fun a b c s ha hb e => by
    have a0 : a ≠ 0 := fun z => by
      subst z
      have := Option.some.inj (ha.symm.trans B.2.1)
      subst this
      omega
    obtain ⟨a', s', b1, b2, b3⟩ := B.2.2.2.1 a c ha a0
    have : s' = s := by omega
    subst this
    have := nd_inj B.1 b2 hb
    omega
  have bd : ∀ n ∈ ls, qv σ 1 n = 1 → ∀ i, (i = 2 ∨ i = 3) → 0 ≤ qv σ i n ∧ qv σ i n ≤ 965 := fun n hn q i hi => by
    obtain ⟨n23, nu⟩ := B.2.2.1 n hn
    have a := bdA (A := fun x => x ∈ ls) (P := qv σ) t (fun c s hc hs e => kid c s hc hs e) (fun n _ hn k => (hE n hn).1 k) (fun n _ hn k => (hE n hn).2 k) hwB hhB 22 n (by omega) n23 hn nu q i hi
    have b := (gl_pos (V := pv σ 6) n23 nu).2
    omega
  refine lp (F := fun m (s : Sg × Int32) => fX2_computeWindow_147 422 1 m s.1 s.2) (Q := fun o => ∃ σ', o = some σ' ∧ Ff σ σ' ls ∧ (∀ j, 426 ≤ j → j ≤ 429 → σ'.1 j r = σ.1 j r) ∧ ∀ n ∈ ls, EA (pv σ 6) (qv σ') n) (fun i s => s.2 = nI i ∧ Ff σ s.1 ls ∧ (∀ j, 426 ≤ j → j ≤ 429 → s.1.1 j r = σ.1 j r) ∧ (∀ k c, k < i → ls[k]? = some c → EA (pv σ 6) (qv s.1) c) ∧ ∀ x ∈ ls, qv σ 1 x = 1 → (x = r ∨ ∃ k s' : Nat, k < i ∧ ls[k]? = some s' ∧ pv σ 6 9 x = s') → (0 ≤ qv s.1 6 x ∧ qv s.1 6 x ≤ 400) ∧ 0 ≤ qv s.1 7 x ∧ qv s.1 7 x ≤ 400) ls.length ?_ ?_ ls.length 0 FU (σ, 0) (by omega) (by show _ < 6000; omega) ⟨rfl, Ff.rf, fun _ _ _ => rfl, fun k c hk => absurd hk (by omega), fun x hx q y => by
    rcases y with y | ⟨k, s', hk, -⟩
    · rw [y]
      exact hroot
    · omega⟩
  · rintro m i ⟨s, l⟩ hi ⟨rfl, hf, hrt, hv, hb⟩
    simp only at hf hrt hv hb
    have gi := List.getElem?_eq_getElem hi
    generalize ls[i] = n at gi
    obtain ⟨n23, nu⟩ := mem i n gi
    have hn : n ∈ ls := List.mem_iff_getElem?.mpr ⟨i, gi⟩
    have pe := hf.pv
    have Q3 : ∀ j x, j ≤ 3 → qv s j x = qv σ j x := fun j x hj => qv_eq (by rw [hf.2.1 _ (by omega)])
    have s30 : s.1 430 i = nI n := by rw [hf.2.1 430 (by omega)]; exact hr i n gi
    have s8 : s.1 422 8 = nI ls.length := by rw [hf.2.1 422 (by omega)]; exact h8
    have kr := t.ki n23
    show ∃ s' : Sg × Int32, _ ∧ fX2_computeWindow_147 422 1 (m + 1) s (nI i) = _
    have nle : ¬ nI ls.length ≤ nI i := by rw [j_le, j_nI (by omega), j_nI (by omega)]; omega
    rw [fX2_computeWindow_147, s8, if_neg nle, show (422 + 8 : Nat) = 430 from rfl, s_atn (by decide) (by omega), j_b, s30, show (1 + 5 : Nat) = 6 from rfl]
    have noch : ∀ x, qv σ 1 x = 1 → pv σ 6 8 n = 2 ∨ qv σ 1 n ≠ 1 → x < 23 → pv σ 6 9 x = n → False := fun x q y hx e => by
      rcases y with y | y
      · have := (t.par hx e).2.1
        omega
      · have k1 := (t.par hx e).2.1
        exact y (((hE n hn).2 k1).2.1.mpr ⟨x, hx, e, q⟩)
    by_cases k2 : pv σ 6 8 n = 2
    · rw [s_arrangeG n23 (by rw [pe]; exact k2), j_b, j_s]
      refine ⟨(s, nI (i + 1)), ⟨rfl, hf, hrt, fun k c hk g => ?_, fun x hx q y => ?_⟩, rfl⟩
      · by_cases z : k = i
        · subst z
          have := Option.some.inj (gi.symm.trans g)
          subst this
          exact fun k1 => absurd k1 (by omega)
        · exact hv k c (by omega) g
      · refine hb x hx q (y.elim Or.inl (fun ⟨k, s', hk, g, e⟩ => Or.inr ⟨k, s', ?_, g, e⟩))
        by_cases z : k = i
        · subst z
          have := Option.some.inj (gi.symm.trans g)
          subst this
          exact absurd e (fun e => noch x q (Or.inl k2) (B.2.2.1 x hx).1 e)
        · omega
    · have k1 : pv σ 6 8 n ≤ 1 := by omega
      by_cases q1 : qv σ 1 n = 1
      · -- shown
        have ep : pls (pv s 6) (qv s) n = pls (pv σ 6) (qv σ) n := by
          rw [pe]
          exact pls_cg (fun c _ => Q3 1 c (by decide))
        have pmem := fun c => t.pls_mem (P := qv σ) n23 k1 (c := c)
        obtain ⟨d1, d2⟩ := t.drs n23 k1
        have rb := hb n hn q1 (by
          by_cases z : i = 0
          · left
            rw [z] at gi
            exact Option.some.inj (gi.symm.trans B.2.1)
          · right
            obtain ⟨a, s', b1, b2, b3⟩ := B.2.2.2.1 i n gi z
            exact ⟨a, s', b1, b2, b3⟩)
        have exN : 0 ≤ qv s (6 + dr (pv σ 6) n) n ∧ qv s (6 + dr (pv σ 6) n) n ≤ 400 := by
          have z : dr (pv σ 6) n = 0 ∨ dr (pv σ 6) n = 1 := by omega
          rcases z with z | z
          · rw [z]; exact rb.1
          · rw [z]; exact rb.2
        have inl : ∀ c ∈ pls (pv σ 6) (qv σ) n, c ∈ ls := fun c hc => kid c n ((pmem c).mp hc).1 hn ((pmem c).mp hc).2.1
        have hbs : ∀ c ∈ pls (pv σ 6) (qv σ) n, 0 ≤ qv s (2 + dr (pv σ 6) n) c ∧ qv s (2 + dr (pv σ 6) n) c ≤ 965 := fun c hc => by
          rw [Q3 _ c (by omega)]
          exact bd c (inl c hc) ((pmem c).mp hc).2.2 _ (by omega)
        have hne : pls (pv σ 6) (qv σ) n ≠ [] := fun z => by
          obtain ⟨c, x1, x2, x3⟩ := ((hE n hn).2 k1).2.1.mp q1
          have := (pmem c).mpr ⟨x1, x2, x3⟩
          rw [z] at this
          cases this
        obtain ⟨σ2, a2, f2, la⟩ := s_arrange (σ := s) (d := d) (wn := wn) (X := X) (by rw [pe]; exact t) n23 (by rw [pe]; exact k1) (by rw [Q3 1 n (by decide)]; exact q1) (by rw [ep]; exact hne) (by rw [ep, pe]; exact hbs) (by rw [pe]; exact exN)
        rw [ep] at f2
        rw [pe] at la
        rw [a2, j_b, j_s]
        have F : Ff σ σ2 ls := hf.tr ⟨f2.1, f2.2.1, fun j z h1 h2 hz => f2.2.2 j z h1 h2 (fun y => hz (inl z y))⟩
        have nr : ¬ r ∈ pls (pv σ 6) (qv σ) n := fun z => by have := ((pmem r).mp z).2.1; omega
        have stay : ∀ x, ¬ x ∈ pls (pv σ 6) (qv σ) n → ∀ j, j ≤ 7 → qv σ2 j x = qv s j x := fun x hx j hj => qv_eq (by
          by_cases z : j ≤ 3
          · rw [f2.2.1 _ (by omega)]
          · exact f2.2.2 _ x (by omega) (by omega) hx)
        refine ⟨(σ2, nI (i + 1)), ⟨rfl, F, fun j h1 h2 => (f2.2.2 j r h1 h2 nr).trans (hrt j h1 h2), fun k c hk g => ?_, fun x hx q y => ?_⟩, rfl⟩
        · by_cases z : k = i
          · subst z
            have := Option.some.inj (gi.symm.trans g)
            subst this
            exact fun _ _ => la
          · refine (hv k c (by omega) g).cg t (mem k c g).1 (fun j x hj _ hx => stay x (fun w => ?_) j hj)
            have e := ((pmem x).mp w).2.1
            rcases hx with rfl | hx
            · have := later k i x n g gi e
              omega
            · have : c = n := by omega
              subst this
              exact z (nd_inj B.1 g gi)
        · by_cases w : x ∈ pls (pv σ 6) (qv σ) n
          · -- a new one: from its parent
            obtain ⟨a, ga'⟩ := List.mem_iff_getElem?.mp w
            have eq2 : pls (pv σ 6) (qv σ2) n = pls (pv σ 6) (qv σ) n := pls_cg (fun c _ => qv_eq (by rw [F.2.1 _ (by omega)]))
            obtain ⟨e1, e2, -, -⟩ := la a x (by rw [eq2]; exact ga')
            have nn : ¬ n ∈ pls (pv σ 6) (qv σ) n := fun z => by
              have := (t.par ((pmem n).mp z).1 ((pmem n).mp z).2.1).2.2.1
              omega
            have lrg : 0 ≤ lrm (pv σ 6) (qv σ2) n ∧ lrm (pv σ 6) (qv σ2) n ≤ 400 := by
              unfold lrm
              rw [stay n nn _ (by omega), eq2]
              have : 1 ≤ (pls (pv σ 6) (qv σ) n).length := List.length_pos_of_mem w
              split <;> omega
            have xp : XP (pls (pv σ 6) (qv σ2) n) (lm (pls (pv σ 6) (qv σ2) n) (qv σ2 (2 + dr (pv σ 6) n))) (lm (pls (pv σ 6) (qv σ2) n) (pv σ 6 11)) := by
              rw [eq2]
              refine ⟨t.pls_nd n23 k1, fun c hc => ?_, fun c hc => ?_⟩
              · rw [show lm (pls (pv σ 6) (qv σ) n) (qv σ2 (2 + dr (pv σ 6) n)) c = qv σ2 (2 + dr (pv σ 6) n) c from if_pos hc]
                have : qv σ2 (2 + dr (pv σ 6) n) c = qv s (2 + dr (pv σ 6) n) c := qv_eq (by rw [f2.2.1 _ (by omega)])
                rw [this]
                exact (hbs c hc).1
              · rw [show lm (pls (pv σ 6) (qv σ) n) (pv σ 6 11) c = pv σ 6 11 c from if_pos hc]
                exact (t.we ((pmem c).mp hc).1 (by have := ((pmem c).mp hc).2.1; omega)).1
            have sr' : 0 ≤ lsh (pv σ 6) (qv σ2) n x ∧ lsh (pv σ 6) (qv σ2) n x ≤ lrm (pv σ 6) (qv σ2) n := share_rg xp lrg.1 (by
              have := t.pls_len (P := qv σ2) n23 k1
              omega) (c := x) (by rw [eq2]; exact w)
            rw [← e1] at sr'
            have sr' : 0 ≤ qv σ2 (6 + dr (pv σ 6) n) x ∧ qv σ2 (6 + dr (pv σ 6) n) x ≤ 400 := ⟨sr'.1, by omega⟩
            clear e1
            have z : dr (pv σ 6) n = 0 ∨ dr (pv σ 6) n = 1 := by omega
            rcases z with z | z
            · rw [z] at e2 sr'
              simp only [Nat.add_zero, Nat.sub_zero] at e2 sr'
              rw [e2, stay n nn 7 (by decide)]
              exact ⟨by omega, rb.2⟩
            · rw [z] at e2 sr'
              simp only [Nat.reduceAdd, Nat.reduceSub] at e2 sr'
              rw [e2, stay n nn 6 (by decide)]
              exact ⟨rb.1, by omega⟩
          · rw [stay x w 6 (by decide), stay x w 7 (by decide)]
            refine hb x hx q (y.elim Or.inl (fun ⟨k, s', hk, g, e⟩ => Or.inr ⟨k, s', ?_, g, e⟩))
            by_cases z : k = i
            · subst z
              have := Option.some.inj (gi.symm.trans g)
              subst this
              exact absurd ((pmem x).mpr ⟨(B.2.2.1 x hx).1, e, q⟩) w
            · omega
      · -- not shown
        have p0 : pls (pv s 6) (qv s) n = [] := by
          rw [pe]
          cases hp : pls (pv σ 6) (qv s) n with
          | nil => rfl
          | cons y u =>
            exfalso
            have : y ∈ pls (pv σ 6) (qv s) n := by rw [hp]; exact List.mem_cons_self ..
            obtain ⟨x1, x2, x3⟩ := (t.pls_mem n23 k1).mp this
            rw [Q3 1 y (by decide)] at x3
            exact noch y x3 (Or.inr q1) x1 x2
        obtain ⟨σ2, a2, f2⟩ := s_arrange0 (σ := s) (d := d) (wn := wn) (X := X) (by rw [pe]; exact t) n23 (by rw [pe]; exact k1) p0
        rw [a2, j_b, j_s]
        have stay : ∀ j x, j ≤ 7 → qv σ2 j x = qv s j x := fun j x hj => qv_eq (by
          by_cases z : j ≤ 3
          · rw [f2.2.1 _ (by omega)]
          · exact f2.2.2 _ x (by omega) (by omega) (fun w => by cases w))
        refine ⟨(σ2, nI (i + 1)), ⟨rfl, hf.tr ⟨f2.1, f2.2.1, fun j z h1 h2 _ => f2.2.2 j z h1 h2 (fun w => by cases w)⟩, fun j h1 h2 => (f2.2.2 j r h1 h2 (fun w => by cases w)).trans (hrt j h1 h2), fun k c hk g => ?_, fun x hx q y => ?_⟩, rfl⟩
        · by_cases z : k = i
          · subst z
            have := Option.some.inj (gi.symm.trans g)
            subst this
            intro _ u
            rw [stay 1 n (by decide), Q3 1 n (by decide)] at u
            exact absurd u q1
          · exact (hv k c (by omega) g).cg t (mem k c g).1 (fun j x hj _ _ => stay j x hj)
        · rw [stay 6 x (by decide), stay 7 x (by decide)]
          refine hb x hx q (y.elim Or.inl (fun ⟨k, s', hk, g, e⟩ => Or.inr ⟨k, s', ?_, g, e⟩))
          by_cases z : k = i
          · subst z
            have := Option.some.inj (gi.symm.trans g)
            subst this
            exact absurd e (fun e => noch x q (Or.inr q1) (B.2.2.1 x hx).1 e)
          · omega
  · rintro m ⟨s, l⟩ ⟨rfl, hf, hrt, hv, hb⟩
    simp only at hf hrt hv hb
    have s8 : s.1 422 8 = nI ls.length := by rw [hf.2.1 422 (by omega)]; exact h8
    show ∃ σ', fX2_computeWindow_147 422 1 (m + 1) s (nI ls.length) = _ ∧ _
    rw [fX2_computeWindow_147, s8, if_pos (by rw [j_le]; exact Int.le_refl _)]
    refine ⟨s, rfl, hf, hrt, fun n hn => ?_⟩
    obtain ⟨k, hk⟩ := List.mem_iff_getElem?.mp hn
    exact hv k n (List.getElem?_eq_some_iff.mp hk).1 hk
end CX
