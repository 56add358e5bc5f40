section
/-! THE RELATION: a pane goes, in the reference (3) -/
theorem leave_rows {V : VW} {d : Nat → Nat} {wn : Nat → Int} (h : Tree V d wn (fun _ => false)) {g s : Nat} (hg : g < 23) (hk : V 8 g = 2) (hs : V 9 g = s) :
    (∀ i, v_free (v_detach V g) g 8 i = if i = g then 3 else V 8 i) ∧ (∀ i, v_free (v_detach V g) g 9 i = if i = g then -1 else V 9 i) ∧
    (∀ i, i < 23 → i ≠ g → V 9 i ≠ -1 → v_free (v_detach V g) g 10 i = if V 9 i = s ∧ V 10 g < V 10 i then V 10 i - 1 else V 10 i) ∧
    (∀ j, j ≠ 8 → j ≠ 9 → j ≠ 10 → v_free (v_detach V g) g j = V j) ∧ Tree (v_free (v_detach V g) g) d wn (fun k => k == s) ∧ s < 23 ∧ V 8 s ≤ 1 ∧ s ≠ g ∧
    v_remg V g = v_fin V g s ∧ v_cc (v_free (v_detach V g) g) s = cnt (fun n => decide (v_free (v_detach V g) g 9 n = (s : Int))) 23 ∧ 1 ≤ cnt (fun n => decide (v_free (v_detach V g) g 9 n = (s : Int))) 23 := by
  obtain ⟨f8, f9, f10, fj⟩ := fd_rows (V := V) hg
  obtain ⟨s1, s3, s4, s5⟩ := h.par hg hs
  have nsg : s ≠ g := fun z => by rw [z] at s3; omega
  obtain ⟨nu, c2⟩ := h.sp s1 s3
  have c2 := c2 rfl
  have b10 : ∀ i, i < 23 → i ≠ g → V 9 i ≠ -1 → v_free (v_detach V g) g 10 i = if V 9 i = s ∧ V 10 g < V 10 i then V 10 i - 1 else V 10 i := fun i hi ne q => by
    rw [f10 i, hs]
    by_cases e : V 9 i = s
    · have p1 := nu.1 i hi (by simp [e])
      have p2 : V 10 i ≠ V 10 g := fun z => ne (nu.2.2 i g hi hg (by simp [e]) (by simp [hs]) z)
      have p3 := nu.1 g hg (by simp [hs])
      have p4 := cnt_le (fun n => decide (V 9 n = (s : Int))) 23
      by_cases w : V 10 g < V 10 i
      · rw [if_pos ⟨hi, by omega, ne, e, by omega⟩, if_pos ⟨e, w⟩, wr_id (by omega) (by omega)]
      · rw [if_neg (fun z => by omega), if_neg (fun z => w z.2)]
    · rw [if_neg (fun z => e z.2.2.2.1), if_neg (fun z => e z.1)]
  have T1 := h.leave (V' := v_free (v_detach V g) g) hg hk hs (fun i _ => f8 i) (fun i _ => f9 i) b10 (fun i _ => by rw [fj 11 (by decide) (by decide) (by decide)]) (fun w _ => by rw [fj 5 (by decide) (by decide) (by decide)])
  have cs : cnt (fun n => decide (V 9 n = (s : Int))) 23 = cnt (fun n => decide (v_free (v_detach V g) g 9 n = (s : Int))) 23 + 1 := cnt_one_more hg (fun i _ ne => by rw [f9 i, if_neg ne]) (by rw [f9 g, if_pos rfl, decide_eq_false_iff_not]; omega) (by simp [hs])
  refine ⟨f8, f9, b10, fj, T1.drop (fun t ht _ x y => by simp at x y; exact absurd x y), s1, s3, nsg, ?_, ?_, by omega⟩
  · unfold v_remg
    rw [ga_in hg, if_neg (by omega), hs]
  · unfold v_cc
    rw [if_neg (by omega)]
theorem close_rows {V : VW} {d : Nat → Nat} {wn : Nat → Int} (h : Tree V d wn (fun _ => false)) {g w : Nat} (hg : g < 23) (hk : V 8 g = 2) (hs : V 9 g = -1) (hw : wn g = w) (hw5 : w < 5) :
    (∀ i, v_remg V g 8 i = if i = g then 3 else V 8 i) ∧ (∀ i, v_remg V g 9 i = V 9 i) ∧ (∀ i, v_remg V g 10 i = V 10 i) ∧ (∀ i, v_remg V g 5 i = if i = w then -1 else V 5 i) ∧ odp (v_remg V g) = o_lv (odp V) w ∧ ∀ j, j ≠ 5 → j ≠ 6 → j ≠ 7 → j ≠ 8 → j ≠ 9 → j ≠ 10 → v_remg V g j = V j := by
  have W : v_wo V g = w := by rw [h.wo hg (by omega), hw]
  obtain ⟨g8, g9, g10, gj⟩ := fd_rows (V := v_od (up V 5 w (-1)) (o_lv (odp V) w)) hg
  have b9 : v_od (up V 5 w (-1)) (o_lv (odp V) w) 9 = V 9 := by rw [v_od_ne (by decide) (by decide), up_ne (by decide)]
  have b8 : v_od (up V 5 w (-1)) (o_lv (odp V) w) 8 = V 8 := by rw [v_od_ne (by decide) (by decide), up_ne (by decide)]
  have b10 : v_od (up V 5 w (-1)) (o_lv (odp V) w) 10 = V 10 := by rw [v_od_ne (by decide) (by decide), up_ne (by decide)]
  have F : v_remg V g = v_free (v_detach (v_od (up V 5 w (-1)) (o_lv (odp V) w)) g) g := by
    unfold v_remg
    rw [ga_in hg, if_pos hs, W]
    unfold v_fin
    rw [if_neg]
    unfold v_cc
    rw [if_pos rfl]
    decide
  rw [F]
  refine ⟨fun i => by rw [g8, b8], fun i => ?_, fun i => by rw [g10, b9, b10, if_neg (fun z => z.2.1 hs)], fun i => by rw [gj 5 (by decide) (by decide) (by decide), v_od_ne (by decide) (by decide), up5 hw5], Prod.ext ?_ ?_, fun j h5 h6 h7 h8 h9 h10 => by rw [gj j h8 h9 h10, v_od_ne h6 h7, up_ne h5]⟩
  · rw [g9, b9]
    by_cases e : i = g
    · rw [if_pos e, e, hs]
    · rw [if_neg e]
  · show v_free (v_detach (v_od (up V 5 w (-1)) (o_lv (odp V) w)) g) g 6 1 = _
    rw [gj 6 (by decide) (by decide) (by decide)]
    rfl
  · show v_free (v_detach (v_od (up V 5 w (-1)) (o_lv (odp V) w)) g) g 7 = _
    rw [gj 7 (by decide) (by decide) (by decide)]
    rfl
theorem FR.mor {U U' : VW} {j : Nat} (hj : j = 18) (h : ∀ k, k ≠ j → k ≠ j + 1 → U' k = U k) : FR U U' := fun k hk => h k (by omega) (by omega)
theorem VM.oe {U V : VW} {X : Nat → Bool} (h : VM U V X) : OE (mo U 18) (odp V) := ⟨h.fc, fun k hk => h.fi (by
  have : (k : Int) < U 18 0 := hk
  rw [h.fc] at this
  exact this)⟩
section MT
variable {σ : Sg} {V : VW} {d : Nat → Nat} {wn : Nat → Int}
/-- an empty group goes -/
theorem m_remg (h : VM (mv (σ.1 463)) V (fun _ => false)) (t : Tree V d wn (fun _ => false)) (lo : LO (odp V) 5 (flw V)) {g : Nat} (hg : g < 23) (hk : V 8 g = 2) : ∃ σ', (fX9_its σ 462 (oI (g : Int)) 1).bind (fun r7 => if r7 = -1 then (fX9_windowOf σ 462 (oI (g : Int))).bind fun r8 => (fX9_lay σ 462 (oI (g : Int)) 0 0).bind fun σ9 => (fX9_puts σ9 462 r8 5 (-1)).bind fun σ10 => if r8 ≤ 0 then some σ10 else (fX9_puts σ10 462 r8 0 0).bind fun σ11 => (fX9_dropsFrom σ11 462 246 r8).bind fun σ12 => some σ12 else (fX9_leaves σ 462 (oI (g : Int))).bind fun σ13 => (fX9_collapses σ13 462 r7).bind fun σ14 => some σ14) = some σ' ∧ Out σ σ' 463 463 ∧ VM (mv (σ'.1 463)) (v_remg V g) (fun _ => false) ∧ FR (mv (σ.1 463)) (mv (σ'.1 463)) := by
  have eg : (oI (g : Int)).toInt = g := j_oI (by omega) (by omega)
  rw [m_i1 eg (by omega), j_b, h.pa hg (by omega)]
  by_cases r : V 9 g = -1
  · obtain ⟨w, w1, w2, w3⟩ := t.ro hg (by omega) r
    obtain ⟨e8, e9, e10, e5, eo, ej⟩ := close_rows t hg hk r w2 w1
    have ew : (oI (w : Int)).toInt = w := j_oI (by omega) (by omega)
    rw [if_pos (by rw [r]; rfl), m_windowOf h t eg hg (by omega), j_b, w2]
    obtain ⟨σ1, a1, o1, v1⟩ := m_l0 (σ := σ) eg (by omega : g < 24) 0
    obtain ⟨σ2, a2, o2, v2⟩ := m_s5 (σ := σ1) ew w1 (-1)
    rw [a1, j_b, a2, j_b]
    rw [v1] at v2
    -- what does not hang on floats
    have core : ∀ U' : VW, (∀ j, j < 18 → j ≠ 12 → U' j = mu (mu (mv (σ.1 463)) 0 g 0) 17 w (-1) j) → (∀ v, v < 5 → U' 12 v = if v = 0 ∨ v_remg V g 5 v ≠ -1 then 1 else 0) → OE (mo U' 18) (odp (v_remg V g)) → VM U' (v_remg V g) (fun _ => false) := by
      intro U' hU h12 ho
      have u : ∀ j, j < 18 → j ≠ 12 → j ≠ 0 → j ≠ 17 → U' j = mv (σ.1 463) j := fun j h1 h2 h3 h4 => by rw [hU j h1 h2, mu_ne h4, mu_ne h3]
      have u0 : ∀ i, U' 0 i = if i = g then 0 else mv (σ.1 463) 0 i := fun i => by rw [hU 0 (by decide) (by decide), mu_ne (by decide), mu_at]
      have u17 : ∀ i, U' 17 i = if i = w then -1 else mv (σ.1 463) 17 i := fun i => by rw [hU 17 (by decide) (by decide), mu_at, mu_ne (by decide)]
      refine ⟨fun n hn => ?_, ?_, fun n hn q => ?_, fun n hn q => ?_, fun n hn q _ => ?_, fun p hp => ?_, fun v hv => ⟨h12 v hv, ?_, fun q => ?_⟩, ho.1, fun k hk => ho.2 k (by rw [ho.1]; exact hk), fun n hn q => by
        rw [e8 n] at q
        have z : n ≠ g := fun z => by rw [if_pos z] at q; omega
        rw [if_neg z] at q
        rw [u 5 (by decide) (by decide) (by decide) (by decide)]
        exact h.a5 hn q⟩
      · rw [e8 n, u0 n]
        by_cases z : n = g
        · rw [if_pos z, if_pos z]
          exact ⟨fun _ => rfl, fun y => by omega, fun y => by omega⟩
        · rw [if_neg z, if_neg z, u 2 (by decide) (by decide) (by decide) (by decide)]
          exact h.1 n hn
      · rw [u0 23, if_neg (by omega)]
        exact h.l
      · rw [e8 n] at q
        have z : n ≠ g := fun z => by rw [if_pos z] at q; exact q rfl
        rw [if_neg z] at q
        rw [u 1 (by decide) (by decide) (by decide) (by decide), e9 n]
        exact h.pa hn q
      · rw [e9 n] at q
        rw [u 3 (by decide) (by decide) (by decide) (by decide), u 4 (by decide) (by decide) (by decide) (by decide), e10 n, ej 11 (by decide) (by decide) (by decide) (by decide) (by decide) (by decide)]
        exact ⟨h.we hn q, h.pl hn q⟩
      · rw [e8 n] at q
        have z : n ≠ g := fun z => by rw [if_pos z] at q; omega
        rw [if_neg z] at q
        rw [u 5 (by decide) (by decide) (by decide) (by decide), ej 12 (by decide) (by decide) (by decide) (by decide) (by decide) (by decide)]
        exact h.ac hn q rfl
      · rw [u 9 (by decide) (by decide) (by decide) (by decide), u 10 (by decide) (by decide) (by decide) (by decide), u 11 (by decide) (by decide) (by decide) (by decide), ej 13 (by decide) (by decide) (by decide) (by decide) (by decide) (by decide), ej 14 (by decide) (by decide) (by decide) (by decide) (by decide) (by decide), ej 15 (by decide) (by decide) (by decide) (by decide) (by decide) (by decide)]
        exact ⟨h.gr hp, h.sp hp, h.hi hp⟩
      · rw [u17 v, e5 v]
        by_cases z : v = w
        · rw [if_pos z, if_pos z]
        · rw [if_neg z, if_neg z]
          exact h.ro hv
      · rw [u 13 (by decide) (by decide) (by decide) (by decide), u 14 (by decide) (by decide) (by decide) (by decide), u 15 (by decide) (by decide) (by decide) (by decide), u 16 (by decide) (by decide) (by decide) (by decide), ej 1 (by decide) (by decide) (by decide) (by decide) (by decide) (by decide), ej 2 (by decide) (by decide) (by decide) (by decide) (by decide) (by decide), ej 3 (by decide) (by decide) (by decide) (by decide) (by decide) (by decide), ej 4 (by decide) (by decide) (by decide) (by decide) (by decide) (by decide)]
        refine h.geo hv ?_
        rcases q with q | q
        · exact Or.inl q
        · rw [e5 v] at q
          by_cases z : v = w
          · rw [if_pos z] at q
            exact absurd rfl q
          · rw [if_neg z] at q
            exact Or.inr q
    have old12 : ∀ v, v < 5 → v ≠ w → mv (σ.1 463) 12 v = if v = 0 ∨ v_remg V g 5 v ≠ -1 then 1 else 0 := fun v hv ne => by
      rw [h.ex hv, e5 v, if_neg ne]
    by_cases wz : w = 0
    · rw [if_pos (by rw [j_le, ew, jz0]; omega)]
      have f0 : flw V w = false := by unfold flw; rw [wz]; simp
      refine ⟨σ2, rfl, o1.tr o2, core _ (fun j h1 h2 => by rw [v2]; rfl) (fun v hv => ?_) ?_, ?_⟩
      · rw [v2, mu_ne (by decide), mu_ne (by decide)]
        by_cases z : v = w
        · rw [h.ex hv, z, wz, if_pos (Or.inl rfl), if_pos (Or.inl rfl)]
        · exact old12 v hv z
      · rw [v2, eo, lo.lv_no f0]
        exact h.oe
      · rw [v2]
        exact (FR.mu (by omega)).tr (FR.mu (by omega))
    · rw [if_neg (by rw [j_le, ew, jz0]; omega)]
      obtain ⟨σ3, a3, o3, v3⟩ := m_s0 (σ := σ2) ew w1 0
      rw [v2] at v3
      have mo3 : mo (mv (σ3.1 463)) 18 = mo (mv (σ.1 463)) 18 := by rw [v3]; rfl
      have fc := h.fc
      have lc := lo.1
      have lc2 := cnt_le (flw V) 5
      have lc3 : cnt (flw V) 5 ≤ 4 := by
        have := cnt_one_more (c := flw V) (d := fun i => flw V i || i == 0) (n := 5) (i0 := 0) (by decide) (fun i _ ne => by simp [ne]) (by simp [flw]) (by simp)
        have := cnt_le (fun i => flw V i || i == 0) 5
        omega
      have V61 : (odp V).1 = V 6 1 := rfl
      obtain ⟨σ4, a4, o4, v4, r4⟩ := m_dropsFrom (σ := σ3) (j := 18) (c := 246) (cap := 4) (Or.inl ⟨rfl, rfl, rfl⟩) (by rw [mo3]; show 0 ≤ mv (σ.1 463) 18 0 ∧ mv (σ.1 463) 18 0 ≤ 4; omega) (oI (w : Int))
      have a4 : fX9_dropsFrom σ3 462 246 (oI (w : Int)) = some σ4 := a4
      rw [a3, j_b, a4, j_b]
      rw [mo3, ew] at v4
      refine ⟨σ4, rfl, ((o1.tr o2).tr o3).tr o4, core _ (fun j h1 h2 => ?_) (fun v hv => ?_) ?_, ?_⟩
      · rw [r4 j (by omega) (by omega), v3, mu_ne h2]
        rfl
      · rw [r4 12 (by decide) (by decide), v3, mu_at]
        by_cases z : v = w
        · rw [if_pos z, e5 v, if_pos z, if_neg (fun y => y.elim (fun y => wz (by omega)) (fun y => y rfl))]
          rfl
        · rw [if_neg z, mu_ne (by decide), mu_ne (by decide)]
          exact old12 v hv z
      · rw [eo]
        exact v4.tr (h.oe.lv _)
      · refine FR.tr ?_ (FR.mor rfl r4)
        rw [v3]
        exact ((FR.mu (by omega)).tr (FR.mu (by omega))).tr (FR.mu (by omega))
  · obtain ⟨s, s1, s2, -⟩ := t.pa hg r
    obtain ⟨f8, f9, b10, fj, T1, -, s3, nsg, RM, cc1, cc2⟩ := leave_rows t hg hk s2
    rw [if_neg (by rw [show (-1 : Int32) = oI (-1) from rfl, j_oe (by omega) (by omega) (by omega) (by omega)]; exact r), s2]
    obtain ⟨σ1, a1, o1, v1⟩ := m_leaves (σ := σ) eg (by omega : g < 24)
    rw [a1, j_b]
    have es : (oI (s : Int)).toInt = s := j_oI (by omega) (by omega)
    -- behind the leaving
    have M1 : VM (mv (σ1.1 463)) (v_free (v_detach V g) g) (fun _ => false) := by
      have u : ∀ j, j ≠ 0 → j ≠ 4 → mv (σ1.1 463) j = mv (σ.1 463) j := fun j h1 h2 => by
        rw [v1]
        funext i
        unfold mlv
        rw [if_neg (fun z => h2 z.1), mu_ne h1]
      have u0 : ∀ i, mv (σ1.1 463) 0 i = if i = g then 0 else mv (σ.1 463) 0 i := fun i => by
        rw [v1]
        unfold mlv
        rw [if_neg (fun z => absurd z.1 (by decide)), mu_at]
      refine ⟨fun n hn => ?_, ?_, fun n hn q => ?_, fun n hn q => ?_, fun n hn q _ => ?_, fun p hp => ?_, fun v hv => ?_, ?_, ?_, fun n hn q => by
        rw [f8 n] at q
        have z : n ≠ g := fun z => by rw [if_pos z] at q; omega
        rw [if_neg z] at q
        rw [u 5 (by decide) (by decide)]
        exact h.a5 hn q⟩
      · rw [f8 n, u0 n]
        by_cases z : n = g
        · rw [if_pos z, if_pos z]
          exact ⟨fun _ => rfl, fun y => by omega, fun y => by omega⟩
        · rw [if_neg z, if_neg z, u 2 (by decide) (by decide)]
          exact h.1 n hn
      · rw [u0 23, if_neg (by omega)]
        exact h.l
      · rw [f8 n] at q
        have z : n ≠ g := fun z => by rw [if_pos z] at q; exact q rfl
        rw [if_neg z] at q
        rw [u 1 (by decide) (by decide), f9 n, if_neg z]
        exact h.pa hn q
      · rw [f9 n] at q
        have z : n ≠ g := fun z => by rw [if_pos z] at q; exact q rfl
        rw [if_neg z] at q
        refine ⟨by rw [u 3 (by decide) (by decide), fj 11 (by decide) (by decide) (by decide)]; exact h.we hn q, ?_⟩
        have nu := t.us hn q
        have k0 : mv (σ.1 463) 0 n ≠ 0 := fun y => nu ((h.k0 hn (t.ki hn)).mp y)
        have pg : mv (σ.1 463) 4 g = V 10 g := h.pl hg (by omega)
        have p1g : mv (σ.1 463) 1 g = s := by rw [h.pa hg (by omega), s2]
        rw [b10 n hn z q, v1]
        unfold mlv
        rw [if_neg z, h.pa hn nu, p1g, h.pl hn q, pg]
        by_cases y : V 9 n = s ∧ V 10 g < V 10 n
        · obtain ⟨x, -⟩ := t.sp s1 s3
          have x1 := x.1 n hn (by simp [y.1])
          have x2 := cnt_le (fun n => decide (V 9 n = (s : Int))) 23
          rw [if_pos ⟨rfl, by omega, k0, y⟩, if_pos y, wr_id (by omega) (by omega)]
        · rw [if_neg (fun x => y x.2.2.2), if_neg y, mu_ne (by decide), h.pl hn q]
      · rw [f8 n] at q
        have z : n ≠ g := fun z => by rw [if_pos z] at q; omega
        rw [if_neg z] at q
        rw [u 5 (by decide) (by decide), fj 12 (by decide) (by decide) (by decide)]
        exact h.ac hn q rfl
      · rw [u 9 (by decide) (by decide), u 10 (by decide) (by decide), u 11 (by decide) (by decide), fj 13 (by decide) (by decide) (by decide), fj 14 (by decide) (by decide) (by decide), fj 15 (by decide) (by decide) (by decide)]
        exact ⟨h.gr hp, h.sp hp, h.hi hp⟩
      · rw [u 12 (by decide) (by decide), u 13 (by decide) (by decide), u 14 (by decide) (by decide), u 15 (by decide) (by decide), u 16 (by decide) (by decide), u 17 (by decide) (by decide), fj 5 (by decide) (by decide) (by decide), fj 1 (by decide) (by decide) (by decide), fj 2 (by decide) (by decide) (by decide), fj 3 (by decide) (by decide) (by decide), fj 4 (by decide) (by decide) (by decide)]
        exact ⟨h.ex hv, h.ro hv, h.geo hv⟩
      · rw [u 18 (by decide) (by decide), fj 6 (by decide) (by decide) (by decide)]
        exact h.fc
      · rw [u 19 (by decide) (by decide), fj 6 (by decide) (by decide) (by decide), fj 7 (by decide) (by decide) (by decide)]
        exact fun k hk => h.fi hk
    have F1 : FR (mv (σ.1 463)) (mv (σ1.1 463)) := by rw [v1]; exact FR.ofl
    unfold fX9_collapses
    rw [m_childMany, j_b, es, M1.cc T1 (by omega), cc1, RM]
    have c23 := cnt_le (fun n => decide (v_free (v_detach V g) g 9 n = (s : Int))) 23
    unfold v_fin
    rw [cc1]
    by_cases one : cnt (fun n => decide (v_free (v_detach V g) g 9 n = (s : Int))) 23 = 1
    · have k1 : v_free (v_detach V g) g 8 s ≤ 1 := by rw [f8 s, if_neg nsg]; exact s3
      obtain ⟨m, m1, m2, m3, c8, c9, c10, c11, c5, cj⟩ := col_rows T1 s1 k1 one
      have T2 := T1.collapse s1 k1 m1 m2 one c8 c9 c10 c11 c5
      have em : (oI (m : Int)).toInt = m := j_oI (by omega) (by omega)
      have ms := (T1.par m1 m2).2.2.1
      have nms : m ≠ s := fun z => by rw [z] at ms; omega
      have mu3 : v_free (v_detach V g) g 8 m ≠ 3 := T1.us m1 (by omega)
      rw [if_pos (by rw [j_le, t_cnt _ (by decide), one]; decide), if_pos one, m_child, j_b, jz0, es, M1.ca T1 (by omega), m3]
      obtain ⟨V1, hV1⟩ : ∃ V1, V1 = v_free (v_detach V g) g := ⟨_, rfl⟩
      rw [← hV1] at M1 T1 T2 c8 c9 c10 c11 c5 cj k1 m2 mu3 ⊢
      -- replaces m at s
      have REP : ∃ σ3, fX9_replaces σ1 462 (oI (m : Int)) (oI (s : Int)) = some σ3 ∧ Out σ1 σ3 463 463 ∧ mv (σ3.1 463) = mu (mu (mu (if V1 9 s = -1 then mu (mv (σ1.1 463)) 17 (wn s).toNat m else mv (σ1.1 463)) 1 m (V1 9 s)) 4 m (mv (σ1.1 463) 4 s)) 3 m (mv (σ1.1 463) 3 s) := by
        have r21 : ∀ τ : Sg, (∀ j, j < 6 → mv (τ.1 463) j = mv (σ1.1 463) j) → ∃ σ3, fX9_replaces_21 462 τ (oI (m : Int)) (oI (s : Int)) = some σ3 ∧ Out τ σ3 463 463 ∧ mv (σ3.1 463) = mu (mu (mu (mv (τ.1 463)) 1 m (V1 9 s)) 4 m (mv (σ1.1 463) 4 s)) 3 m (mv (σ1.1 463) 3 s) := by
          intro τ hτ
          have x1 : mv (τ.1 463) 1 s = V1 9 s := by rw [hτ 1 (by decide), M1.pa s1 (by omega)]
          obtain ⟨τ1, b1, p1, w1⟩ := m_l1 (σ := τ) em (by omega : m < 24) (oI (mv (τ.1 463) 1 s))
          obtain ⟨τ2, b2, p2, w2⟩ := m_l4 (σ := τ1) em (by omega : m < 24) (oI (mv (τ1.1 463) 4 s))
          obtain ⟨τ3, b3, p3, w3⟩ := m_l3 (σ := τ2) em (by omega : m < 24) (oI (mv (τ2.1 463) 3 s))
          unfold fX9_replaces_21
          rw [m_i1 es (by omega), j_b, b1, j_b, m_i4 es (by omega), j_b, b2, j_b, m_i3 es (by omega), j_b, b3, j_b]
          refine ⟨τ3, rfl, (p1.tr p2).tr p3, ?_⟩
          have y4 : mv (τ1.1 463) 4 s = mv (σ1.1 463) 4 s := by rw [w1, mu_ne (by decide), hτ 4 (by decide)]
          have y3 : mv (τ2.1 463) 3 s = mv (σ1.1 463) 3 s := by rw [w2, mu_ne (by decide), w1, mu_ne (by decide), hτ 3 (by decide)]
          rw [w3, t_mv, y3, w2, t_mv, y4, w1, t_mv, x1]
        unfold fX9_replaces
        rw [m_i1 es (by omega), j_b, M1.pa s1 (by omega)]
        by_cases z : V1 9 s = -1
        · obtain ⟨w, w1, w2, w3⟩ := T1.ro s1 (by omega) z
          have ew : (oI (w : Int)).toInt = w := j_oI (by omega) (by omega)
          rw [if_pos (by rw [z]; rfl), if_pos z, m_windowOf M1 T1 es s1 (by omega), j_b, w2]
          obtain ⟨τ, b1, p1, x1⟩ := m_s5 (σ := σ1) ew w1 (oI (m : Int))
          rw [b1, j_b]
          obtain ⟨σ3, b2, p2, x2⟩ := r21 τ (fun j hj => by rw [x1, mu_ne (by omega)])
          exact ⟨σ3, b2, p1.tr p2, by rw [x2, x1, em, Int.toNat_natCast]⟩
        · rw [if_neg (by
            obtain ⟨u, u1, u2, _⟩ := T1.pa s1 z
            rw [u2, show (-1 : Int32) = oI (-1) from rfl, j_oe (by omega) (by omega) (by omega) (by omega)]
            omega), if_neg z]
          exact r21 σ1 (fun _ _ => rfl)
      obtain ⟨σ3, a3, o3, v3⟩ := REP
      obtain ⟨σ4, a4, o4, v4⟩ := m_l0 (σ := σ3) es (by omega : s < 24) 0
      rw [a3, j_b, a4, j_b]
      rw [v3] at v4
      refine ⟨σ4, rfl, (o1.tr o3).tr o4, ?_, ?_⟩
      · have u : ∀ j, j ≠ 0 → j ≠ 1 → j ≠ 3 → j ≠ 4 → j ≠ 17 → mv (σ4.1 463) j = mv (σ1.1 463) j := fun j h0 h1 h3 h4 h17 => by
          rw [v4, mu_ne h0, mu_ne h3, mu_ne h4, mu_ne h1]
          split
          · rw [mu_ne h17]
          · rfl
        have u0 : ∀ i, mv (σ4.1 463) 0 i = if i = s then 0 else mv (σ1.1 463) 0 i := fun i => by
          rw [v4, mu_at, mu_ne (by decide), mu_ne (by decide), mu_ne (by decide)]
          by_cases z : V1 9 s = -1
          · rw [if_pos z, mu_ne (by decide)]
            rfl
          · rw [if_neg z]
            rfl
        have u1 : ∀ i, mv (σ4.1 463) 1 i = if i = m then V1 9 s else mv (σ1.1 463) 1 i := fun i => by
          rw [v4, mu_ne (by decide), mu_ne (by decide), mu_ne (by decide), mu_at]
          by_cases z : V1 9 s = -1
          · rw [if_pos z, mu_ne (by decide)]
          · rw [if_neg z]
        have u4 : ∀ i, mv (σ4.1 463) 4 i = if i = m then mv (σ1.1 463) 4 s else mv (σ1.1 463) 4 i := fun i => by
          rw [v4, mu_ne (by decide), mu_ne (by decide), mu_at, mu_ne (by decide)]
          by_cases z : V1 9 s = -1
          · rw [if_pos z, mu_ne (by decide)]
          · rw [if_neg z]
        have u3 : ∀ i, mv (σ4.1 463) 3 i = if i = m then mv (σ1.1 463) 3 s else mv (σ1.1 463) 3 i := fun i => by
          rw [v4, mu_ne (by decide), mu_at, mu_ne (by decide), mu_ne (by decide)]
          by_cases z : V1 9 s = -1
          · rw [if_pos z, mu_ne (by decide)]
          · rw [if_neg z]
        have u17 : ∀ v, v < 5 → mv (σ4.1 463) 17 v = if V1 9 s = -1 ∧ V1 5 v = s then (m : Int) else V1 5 v := fun v hv => by
          rw [v4, mu_ne (by decide), mu_ne (by decide), mu_ne (by decide), mu_ne (by decide)]
          by_cases z : V1 9 s = -1
          · obtain ⟨w, w1, w2, w3⟩ := T1.ro s1 (by omega) z
            rw [if_pos z, w2, Int.toNat_natCast, mu_at]
            by_cases y : v = w
            · rw [if_pos y, if_pos ⟨z, by rw [y]; exact w3⟩]
            · rw [if_neg y, if_neg (fun x => y (T1.un hv w1 x.2 w3)), M1.ro hv]
          · rw [if_neg z, if_neg (fun x => z x.1), M1.ro hv]
        refine ⟨fun n hn => ?_, ?_, fun n hn q => ?_, fun n hn q => ?_, fun n hn q _ => ?_, fun p hp => ?_, fun v hv => ?_, ?_, ?_, fun n hn q => by
          rw [c8 n hn] at q
          have z : n ≠ s := fun z => by rw [if_pos z] at q; omega
          rw [if_neg z] at q
          rw [u 5 (by decide) (by decide) (by decide) (by decide) (by decide)]
          exact M1.a5 hn q⟩
        · rw [c8 n hn, u0 n]
          by_cases z : n = s
          · rw [if_pos z, if_pos z]
            exact ⟨fun _ => rfl, fun y => by omega, fun y => by omega⟩
          · rw [if_neg z, if_neg z, u 2 (by decide) (by decide) (by decide) (by decide) (by decide)]
            exact M1.1 n hn
        · rw [u0 23, if_neg (by omega)]
          exact M1.l
        · rw [c8 n hn] at q
          have z : n ≠ s := fun z => by rw [if_pos z] at q; exact q rfl
          rw [if_neg z] at q
          rw [u1 n, c9 n hn, if_neg z]
          by_cases y : n = m
          · rw [if_pos y, if_pos y]
          · rw [if_neg y, if_neg y]
            exact M1.pa hn q
        · have q' := q
          rw [c9 n hn] at q
          have z : n ≠ s := fun z => by rw [if_pos z] at q; exact q rfl
          rw [if_neg z] at q
          rw [u3 n, u4 n, c10 n hn q', c11 n hn q']
          by_cases y : n = m
          · rw [if_pos y] at q
            rw [if_pos y, if_pos y, if_pos y, if_pos y]
            exact ⟨M1.we s1 q, M1.pl s1 q⟩
          · rw [if_neg y] at q
            rw [if_neg y, if_neg y, if_neg y, if_neg y]
            exact ⟨M1.we hn q, M1.pl hn q⟩
        · rw [c8 n hn] at q
          have z : n ≠ s := fun z => by rw [if_pos z] at q; omega
          rw [if_neg z] at q
          rw [u 5 (by decide) (by decide) (by decide) (by decide) (by decide), cj 12 (by decide) (by decide) (by decide) (by decide) (by decide)]
          exact M1.ac hn q rfl
        · rw [u 9 (by decide) (by decide) (by decide) (by decide) (by decide), u 10 (by decide) (by decide) (by decide) (by decide) (by decide), u 11 (by decide) (by decide) (by decide) (by decide) (by decide), cj 13 (by decide) (by decide) (by decide) (by decide) (by decide), cj 14 (by decide) (by decide) (by decide) (by decide) (by decide), cj 15 (by decide) (by decide) (by decide) (by decide) (by decide)]
          exact ⟨M1.gr hp, M1.sp hp, M1.hi hp⟩
        · have ev : (v = 0 ∨ v_free (v_repl (v_detach V1 m) s m) s 5 v ≠ -1) ↔ (v = 0 ∨ V1 5 v ≠ -1) := by
            rw [c5 v hv]
            by_cases z : V1 9 s = -1 ∧ V1 5 v = s
            · rw [if_pos z, z.2]
              constructor <;> intro _ <;> exact Or.inr (by omega)
            · rw [if_neg z]
          rw [u 12 (by decide) (by decide) (by decide) (by decide) (by decide), u17 v hv, u 13 (by decide) (by decide) (by decide) (by decide) (by decide), u 14 (by decide) (by decide) (by decide) (by decide) (by decide), u 15 (by decide) (by decide) (by decide) (by decide) (by decide), u 16 (by decide) (by decide) (by decide) (by decide) (by decide), cj 1 (by decide) (by decide) (by decide) (by decide) (by decide), cj 2 (by decide) (by decide) (by decide) (by decide) (by decide), cj 3 (by decide) (by decide) (by decide) (by decide) (by decide), cj 4 (by decide) (by decide) (by decide) (by decide) (by decide)]
          refine ⟨?_, (c5 v hv).symm, fun q => M1.geo hv (ev.mp q)⟩
          rw [M1.ex hv]
          by_cases z : v = 0 ∨ V1 5 v ≠ -1
          · rw [if_pos z, if_pos (ev.mpr z)]
          · rw [if_neg z, if_neg (fun y => z (ev.mp y))]
        · rw [u 18 (by decide) (by decide) (by decide) (by decide) (by decide), cj 6 (by decide) (by decide) (by decide) (by decide) (by decide)]
          exact M1.fc
        · rw [u 19 (by decide) (by decide) (by decide) (by decide) (by decide), cj 6 (by decide) (by decide) (by decide) (by decide) (by decide), cj 7 (by decide) (by decide) (by decide) (by decide) (by decide)]
          exact fun k hk => M1.fi hk
      · refine F1.tr ?_
        rw [v4]
        by_cases z : V1 9 s = -1
        · rw [if_pos z]
          exact ((((FR.mu (by omega)).tr (FR.mu (by omega))).tr (FR.mu (by omega))).tr (FR.mu (by omega))).tr (FR.mu (by omega))
        · rw [if_neg z]
          exact (((FR.mu (by omega)).tr (FR.mu (by omega))).tr (FR.mu (by omega))).tr (FR.mu (by omega))
    · rw [if_neg (by rw [j_le, t_cnt _ (by decide), jz1]; omega), if_neg one]
      exact ⟨σ1, rfl, o1, M1, F1⟩
end MT
end
section
/-! THE RELATION: a pane is taken away in the reference as in the class -/
section ME
variable {σ : Sg} {V : VW} {d : Nat → Nat} {wn : Nat → Int}
def msh (U : VW) (p : Nat) (g : Int) : VW := fun j m => if j = 10 ∧ m < 12 ∧ U 9 m = g ∧ U 10 p < U 10 m then wr (U 10 m - 1) else U j m
theorem m_goesAway (h : VM (mv (σ.1 463)) V (fun _ => false)) (t : Tree V d wn (fun _ => false)) (tb : Tabs V (fun _ => false)) (lo : LO (odp V) 5 (flw V)) {a : Int32} {p g : Nat} (ha : a.toInt = p) (hp : p < 12) (hg : V 13 p = g) : ∃ σ', fX9_goesAway σ 462 a = some σ' ∧ Out σ σ' 463 463 ∧ VM (mv (σ'.1 463)) (v_withdraw V p) (fun _ => false) ∧ FR (mv (σ.1 463)) (mv (σ'.1 463)) := by
  obtain ⟨g1, g2⟩ := tb.g2 hp hg
  have eg : (oI (g : Int)).toInt = g := j_oI (by omega) (by omega)
  obtain ⟨r13, r14, r15, r12⟩ := out_rows tb hp hg
  have r : ∀ j, j ≠ 12 → j ≠ 13 → j ≠ 14 → j ≠ 15 → v_out V p j = V j := fun j => v_out_ne
  obtain ⟨σ2, a2, o2, v2⟩ := m_yields h tb ha hp hg
  unfold fX9_goesAway
  rw [m_o3 ha hp, j_b, h.gr hp, hg, a2, j_b]
  obtain ⟨U2, hU2⟩ : ∃ U2, U2 = mv (σ2.1 463) := ⟨_, rfl⟩
  have u2 : ∀ j, j ≠ 5 → U2 j = mv (σ.1 463) j := fun j hj => by
    rw [hU2, v2]
    split
    · rw [mu_ne hj]
    · rfl
  have u25 : ∀ n, n < 23 → V 8 n = 2 → U2 5 n = v_out V p 12 n := fun n hn q => by
    rw [r12 n hn, hU2, v2]
    by_cases z : V 12 g = p
    · rw [if_pos z, mu_at]
      by_cases y : n = g
      · rw [if_pos y, if_pos ⟨y, z⟩]
      · rw [if_neg y, if_neg (fun x => y x.1)]
        exact h.ac hn q rfl
    · rw [if_neg z, if_neg (fun x => z x.2)]
      exact h.ac hn q rfl
  have F2 : FR (mv (σ.1 463)) U2 := by
    rw [hU2, v2]
    split
    · exact FR.mu (by omega)
    · exact FR.rf
  refine lp (F := fun n (s : Sg × Int32) => fX9_goesAway_14 462 n s.1 a (oI (g : Int)) s.2) (Q := fun r => ∃ σ', r = some σ' ∧ Out σ σ' 463 463 ∧ VM (mv (σ'.1 463)) (v_withdraw V p) (fun _ => false) ∧ FR (mv (σ.1 463)) (mv (σ'.1 463))) (fun i s => s.2 = nI i ∧ Out σ s.1 463 463 ∧ mv (s.1.1 463) = fun j m => if m < i then msh U2 p g j m else U2 j m) 12 ?_ ?_ 12 0 FU (σ2, 0) rfl (by decide) ⟨rfl, o2, by
    rw [← hU2]
    funext j m
    rw [if_neg (by omega)]⟩
  · rintro n i ⟨s, l⟩ hi ⟨rfl, ho, hv⟩
    simp only at ho hv
    have e : (nI i).toInt = i := j_nI (by omega)
    have rd : ∀ j, mv (s.1 463) j i = U2 j i := fun j => by rw [hv]; exact if_neg (by omega)
    have rp : mv (s.1 463) 10 p = U2 10 p := by
      rw [hv]
      dsimp only
      split
      · unfold msh
        rw [if_neg (fun z => by omega)]
      · rfl
    have ext : ∀ W : VW, W 10 i = msh U2 p g 10 i → (∀ j m, ¬ (j = 10 ∧ m = i) → W j m = mv (s.1 463) j m) → W = fun j m => if m < i + 1 then msh U2 p g j m else U2 j m := by
      intro W h1 h2
      funext j m
      by_cases q : j = 10 ∧ m = i
      · obtain ⟨rfl, rfl⟩ := q
        rw [h1, if_pos (by omega)]
      · rw [h2 j m q, hv]
        dsimp only
        by_cases q2 : m < i
        · rw [if_pos q2, if_pos (by omega)]
        · rw [if_neg q2]
          by_cases q3 : m = i
          · subst q3
            rw [if_pos (by omega), msh, if_neg (fun z => q ⟨z.1, rfl⟩)]
          · rw [if_neg (by omega)]
    show ∃ s' : Sg × Int32, _ ∧ fX9_goesAway_14 462 (n + 1) s a (oI (g : Int)) (nI i) = _
    rw [fX9_goesAway_14, if_neg (n_ge 12 (m := 12) rfl hi (by decide)), m_o3 e hi, j_b, rd 9]
    unfold fX9_goesAway_59
    have t9 : (oI (U2 9 i)).toInt = U2 9 i := by rw [hU2]; exact t_mv
    have t10 : (oI (U2 10 i)).toInt = U2 10 i := by rw [hU2]; exact t_mv
    have t10p : (oI (U2 10 p)).toInt = U2 10 p := by rw [hU2]; exact t_mv
    by_cases q : U2 9 i = g
    · rw [if_pos (by rw [j_eq, t9, eg]; exact q), m_o4 e hi, j_b, m_o4 ha hp, j_b, rd 10, rp]
      by_cases q2 : U2 10 p < U2 10 i
      · obtain ⟨σ3, a3, o3, v3⟩ := m_p4 (σ := s) e hi (oI (U2 10 i) - 1)
        rw [if_neg (by rw [j_le, t10, t10p]; omega), j_b, a3, j_b]
        refine ⟨(σ3, nI (i + 1)), ⟨rfl, ho.tr o3, ext _ ?_ ?_⟩, by rw [j_s]⟩
        · show mv (σ3.1 463) 10 i = _
          rw [v3, mu_at, if_pos rfl, wr_sub, t10, jz1, msh, if_pos ⟨rfl, hi, q, q2⟩]
        · intro j m hjm
          show mv (σ3.1 463) j m = _
          rw [v3, mu_def, if_neg hjm]
      · rw [if_pos (by rw [j_le, t10, t10p]; omega)]
        refine ⟨(s, nI (i + 1)), ⟨rfl, ho, ext _ ?_ (fun _ _ _ => rfl)⟩, by rw [j_s]⟩
        rw [rd 10, msh, if_neg (fun z => q2 z.2.2.2)]
    · rw [if_neg (by rw [j_eq, t9, eg]; exact q)]
      refine ⟨(s, nI (i + 1)), ⟨rfl, ho, ext _ ?_ (fun _ _ _ => rfl)⟩, by rw [j_s]⟩
      rw [rd 10, msh, if_neg (fun z => q z.2.2.1)]
  · rintro n ⟨s, l⟩ ⟨rfl, ho, hv⟩
    simp only at ho hv
    have hv : mv (s.1 463) = msh U2 p g := by
      rw [hv]
      funext j m
      by_cases q : m < 12
      · rw [if_pos q]
      · rw [if_neg q, msh, if_neg (fun z => q z.2.1)]
    obtain ⟨σ3, a3, o3, v3⟩ := m_p3 (σ := s) ha hp (-1)
    obtain ⟨σ4, a4, o4, v4⟩ := m_p4 (σ := σ3) ha hp 0
    obtain ⟨σ5, a5, o5, v5⟩ := m_p5 (σ := σ4) ha hp 0
    show ∃ σ', fX9_goesAway_14 462 (n + 1) s a (oI (g : Int)) (nI 12) = some σ' ∧ _
    rw [fX9_goesAway_14, if_pos (n_le 12 (m := 12) rfl (by decide)), a3, j_b, a4, j_b, a5, j_b, m_tabMany, j_b, eg]
    rw [v4, v3, hv] at v5
    have O : Out σ σ5 463 463 := ((ho.tr o3).tr o4).tr o5
    have w : ∀ j, j ≠ 9 → j ≠ 10 → j ≠ 11 → mv (σ5.1 463) j = U2 j := fun j h9 h10 h11 => by
      rw [v5, mu_ne h11, mu_ne h10, mu_ne h9]
      funext m
      unfold msh
      rw [if_neg (fun z => h10 z.1)]
    have w9 : ∀ i, mv (σ5.1 463) 9 i = if i = p then -1 else U2 9 i := fun i => by
      rw [v5, mu_ne (by decide), mu_ne (by decide), mu_at]
      by_cases z : i = p
      · rw [if_pos z, if_pos z]
        rfl
      · rw [if_neg z, if_neg z, msh, if_neg (fun y => absurd y.1 (by decide))]
    have w10 : ∀ i, i < 12 → i ≠ p → mv (σ5.1 463) 10 i = if U2 9 i = g ∧ U2 10 p < U2 10 i then wr (U2 10 i - 1) else U2 10 i := fun i hi z => by
      rw [v5, mu_ne (by decide), mu_at, if_neg z, mu_ne (by decide), msh]
      by_cases y : U2 9 i = g ∧ U2 10 p < U2 10 i
      · rw [if_pos y, if_pos ⟨rfl, hi, y⟩]
      · rw [if_neg y, if_neg (fun x => y x.2.2)]
    have w11 : ∀ i, mv (σ5.1 463) 11 i = if i = p then 0 else U2 11 i := fun i => by
      rw [v5, mu_at]
      by_cases z : i = p
      · rw [if_pos z, if_pos z]
        rfl
      · rw [if_neg z, if_neg z, mu_ne (by decide), mu_ne (by decide), msh, if_neg (fun y => absurd y.1 (by decide))]
    have M5 : VM (mv (σ5.1 463)) (v_out V p) (fun _ => false) := by
      have k8 := r 8 (by decide) (by decide) (by decide) (by decide)
      have k9 := r 9 (by decide) (by decide) (by decide) (by decide)
      have k5 := r 5 (by decide) (by decide) (by decide) (by decide)
      refine ⟨fun n hn => ?_, ?_, fun n hn q => ?_, fun n hn q => ?_, fun n hn q _ => ?_, fun i hi => ?_, fun v hv => ?_, ?_, ?_, fun n hn q => by
        rw [k8] at q
        rw [w 5 (by decide) (by decide) (by decide), hU2, v2]
        by_cases z : V 12 g = p
        · rw [if_pos z, mu_at, if_neg (fun y => by rw [y] at q; omega)]
          exact h.a5 hn q
        · rw [if_neg z]
          exact h.a5 hn q⟩
      · rw [k8, w 0 (by decide) (by decide) (by decide), w 2 (by decide) (by decide) (by decide), u2 0 (by decide), u2 2 (by decide)]
        exact h.1 n hn
      · rw [w 0 (by decide) (by decide) (by decide), u2 0 (by decide)]
        exact h.l
      · rw [k8] at q
        rw [w 1 (by decide) (by decide) (by decide), u2 1 (by decide), k9]
        exact h.pa hn q
      · rw [k9] at q
        rw [w 3 (by decide) (by decide) (by decide), w 4 (by decide) (by decide) (by decide), u2 3 (by decide), u2 4 (by decide), r 10 (by decide) (by decide) (by decide) (by decide), r 11 (by decide) (by decide) (by decide) (by decide)]
        exact ⟨h.we hn q, h.pl hn q⟩
      · rw [k8] at q
        rw [w 5 (by decide) (by decide) (by decide)]
        exact u25 n hn q
      · refine ⟨?_, fun q => ?_, ?_⟩
        · rw [w9 i, r13 i hi, u2 9 (by decide), h.gr hi]
        · rw [r13 i hi] at q
          have z : i ≠ p := fun z => by rw [if_pos z] at q; exact q rfl
          rw [if_neg z] at q
          rw [w10 i hi z, r14 i hi, if_neg z, u2 9 (by decide), u2 10 (by decide), h.gr hi, h.sp hi q, h.sp hp (by omega)]
          by_cases y : V 13 i = g ∧ V 14 p < V 14 i
          · have := tb.sp hi
            rw [if_pos y, if_pos y, wr_id (by omega) (by omega)]
          · rw [if_neg y, if_neg y]
        · rw [w11 i, r15 i hi, u2 11 (by decide), h.hi hi]
      · rw [w 12 (by decide) (by decide) (by decide), w 13 (by decide) (by decide) (by decide), w 14 (by decide) (by decide) (by decide), w 15 (by decide) (by decide) (by decide), w 16 (by decide) (by decide) (by decide), w 17 (by decide) (by decide) (by decide), u2 12 (by decide), u2 13 (by decide), u2 14 (by decide), u2 15 (by decide), u2 16 (by decide), u2 17 (by decide), k5, r 1 (by decide) (by decide) (by decide) (by decide), r 2 (by decide) (by decide) (by decide) (by decide), r 3 (by decide) (by decide) (by decide) (by decide), r 4 (by decide) (by decide) (by decide) (by decide)]
        exact ⟨h.ex hv, h.ro hv, h.geo hv⟩
      · rw [w 18 (by decide) (by decide) (by decide), u2 18 (by decide), r 6 (by decide) (by decide) (by decide) (by decide)]
        exact h.fc
      · rw [w 19 (by decide) (by decide) (by decide), u2 19 (by decide), r 6 (by decide) (by decide) (by decide) (by decide), r 7 (by decide) (by decide) (by decide) (by decide)]
        exact fun k hk => h.fi hk
    have F5 : FR (mv (σ.1 463)) (mv (σ5.1 463)) := F2.tr (fun j hj => w j (by omega) (by omega) (by omega))
    have T : Tree (v_out V p) d wn (fun _ => false) := t.cg (fun n _ => by rw [r 8 (by decide) (by decide) (by decide) (by decide)]) (fun n _ => by rw [r 9 (by decide) (by decide) (by decide) (by decide)]) (fun n _ => by rw [r 10 (by decide) (by decide) (by decide) (by decide)]) (fun n hn q => by rw [r 11 (by decide) (by decide) (by decide) (by decide)]; exact t.we hn q) (fun n _ => by rw [r 5 (by decide) (by decide) (by decide) (by decide)])
    have L : LO (odp (v_out V p)) 5 (flw (v_out V p)) := by
      rw [odp_out]
      exact lo.cg (fun i _ => by unfold flw; rw [r 5 (by decide) (by decide) (by decide) (by decide)])
    have W : v_withdraw V p = if v_tc (v_out V p) g = 0 then v_remg (v_out V p) g else v_out V p := by
      unfold v_withdraw
      rw [ga_in hp, hg, if_neg (by omega)]
    rw [M5.tc, W]
    by_cases z : v_tc (v_out V p) g = 0
    · obtain ⟨σ6, a6, o6, M6, F6⟩ := m_remg M5 T L g1 (by rw [r 8 (by decide) (by decide) (by decide) (by decide)]; exact g2)
      rw [if_pos (by rw [j_le, t_tc, jz0]; omega), if_pos z]
      exact ⟨σ6, a6, O.tr o6, M6, F5.tr F6⟩
    · rw [if_neg (by rw [j_le, t_tc, jz0]; omega), if_neg z]
      exact ⟨σ5, rfl, O, M5, F5⟩
theorem m_takes (h : VM (mv (σ.1 463)) V (fun _ => false)) (t : Tree V d wn (fun _ => false)) (tb : Tabs V (fun _ => false)) (lo : LO (odp V) 5 (flw V)) {a : Int32} {p : Nat} (ha : a.toInt = p) (hp : p < 12) : ∃ σ', fX9_takes σ 462 a = some σ' ∧ Out σ σ' 463 463 ∧ VM (mv (σ'.1 463)) (v_withdraw V p) (fun _ => false) ∧ FR (mv (σ.1 463)) (mv (σ'.1 463)) := by
  unfold fX9_takes
  rw [m_isPlaced ha hp, j_b, h.gr hp]
  rcases tb.gr hp with q | ⟨g, g1, g2, g3⟩
  · rw [q, if_neg (by decide)]
    refine ⟨σ, rfl, Out.rf, ?_, FR.rf⟩
    unfold v_withdraw
    rw [ga_in hp, if_pos q]
    exact h
  · obtain ⟨σ', a1, o1, m1, f1⟩ := m_goesAway h t tb lo ha hp g2
    rw [if_pos (by rw [decide_eq_true_eq]; omega), a1, j_b]
    exact ⟨σ', rfl, o1, m1, f1⟩
end ME
end
section
/-! THE RELATION: new groups in the reference -/
section MB
variable {σ : Sg}
theorem m_wo8 {r w : Nat} (hr : r < 1000) (hw : w < 5) (h12 : mv (σ.1 463) 12 w ≠ 0) (h17 : mv (σ.1 463) 17 w = r) (hl : ∀ v, v < w → mv (σ.1 463) 12 v = 0 ∨ mv (σ.1 463) 17 v ≠ r) : fX9_windowOf_8 σ 462 FU (oI (r : Int)) 0 = some (oI (w : Int)) := by
  refine lp (F := fun n s => fX9_windowOf_8 σ 462 n (oI (r : Int)) s) (Q := fun z => z = some (oI (w : Int))) (fun i s => s = nI i) w ?_ ?_ w 0 FU 0 (by omega) (by show _ < 6000; omega) rfl
  · rintro n i _ hi rfl
    refine ⟨nI (i + 1), rfl, ?_⟩
    show fX9_windowOf_8 σ 462 (n + 1) (oI (r : Int)) (nI i) = fX9_windowOf_8 σ 462 n (oI (r : Int)) (nI (i + 1))
    rw [fX9_windowOf_8, m_w0 (w := i) (j_nI (by omega)) (by omega), j_b]
    unfold fX9_windowOf_29
    by_cases q : mv (σ.1 463) 12 i = 0
    · rw [if_pos (by rw [j_eq, t_mv]; exact q), j_s]
    · rw [if_neg (by rw [j_eq, t_mv]; exact q), m_w5 (w := i) (j_nI (by omega)) (by omega), j_b, if_neg, j_s]
      rw [j_eq, t_mv, j_oI (by omega) (by omega)]
      exact (hl i hi).elim (fun z => absurd z q) (fun z => z)
  · rintro n _ rfl
    show fX9_windowOf_8 σ 462 (n + 1) (oI (r : Int)) (nI w) = _
    rw [fX9_windowOf_8, m_w0 (w := w) (j_nI (by omega)) (by omega), j_b, if_neg (by rw [j_eq, t_mv]; exact h12), m_w5 (w := w) (j_nI (by omega)) (by omega), j_b, h17, if_pos rfl, j_nIo w (by omega)]
theorem m_repl {n o w : Nat} (hn : n < 24) (ho : o < 24) (hno : n ≠ o) (hw : mv (σ.1 463) 1 o = -1 → w < 5 ∧ mv (σ.1 463) 12 w ≠ 0 ∧ mv (σ.1 463) 17 w = o ∧ ∀ v, v < w → mv (σ.1 463) 12 v = 0 ∨ mv (σ.1 463) 17 v ≠ o) : ∃ σ3, fX9_replaces σ 462 (oI (n : Int)) (oI (o : Int)) = some σ3 ∧ Out σ σ3 463 463 ∧ mv (σ3.1 463) = mu (mu (mu (if mv (σ.1 463) 1 o = -1 then mu (mv (σ.1 463)) 17 w n else mv (σ.1 463)) 1 n (mv (σ.1 463) 1 o)) 4 n (mv (σ.1 463) 4 o)) 3 n (mv (σ.1 463) 3 o) := by
  have en : (oI (n : Int)).toInt = n := j_oI (by omega) (by omega)
  have eo : (oI (o : Int)).toInt = o := j_oI (by omega) (by omega)
  have r21 : ∀ τ : Sg, (∀ j, j < 6 → mv (τ.1 463) j = mv (σ.1 463) j) → ∃ σ3, fX9_replaces_21 462 τ (oI (n : Int)) (oI (o : Int)) = some σ3 ∧ Out τ σ3 463 463 ∧ mv (σ3.1 463) = mu (mu (mu (mv (τ.1 463)) 1 n (mv (σ.1 463) 1 o)) 4 n (mv (σ.1 463) 4 o)) 3 n (mv (σ.1 463) 3 o) := by
    intro τ hτ
    obtain ⟨τ1, b1, p1, w1⟩ := m_l1 (σ := τ) en hn (oI (mv (τ.1 463) 1 o))
    obtain ⟨τ2, b2, p2, w2⟩ := m_l4 (σ := τ1) en hn (oI (mv (τ1.1 463) 4 o))
    obtain ⟨τ3, b3, p3, w3⟩ := m_l3 (σ := τ2) en hn (oI (mv (τ2.1 463) 3 o))
    unfold fX9_replaces_21
    rw [m_i1 eo ho, j_b, b1, j_b, m_i4 eo ho, j_b, b2, j_b, m_i3 eo ho, j_b, b3, j_b]
    refine ⟨τ3, rfl, (p1.tr p2).tr p3, ?_⟩
    have y4 : mv (τ1.1 463) 4 o = mv (σ.1 463) 4 o := by rw [w1, mu_ne (by decide), hτ 4 (by decide)]
    have y3 : mv (τ2.1 463) 3 o = mv (σ.1 463) 3 o := by rw [w2, mu_ne (by decide), w1, mu_ne (by decide), hτ 3 (by decide)]
    rw [w3, t_mv, y3, w2, t_mv, y4, w1, t_mv, hτ 1 (by decide)]
  unfold fX9_replaces
  rw [m_i1 eo ho, j_b]
  by_cases z : mv (σ.1 463) 1 o = -1
  · obtain ⟨w1, w2, w3, w4⟩ := hw z
    have ew : (oI (w : Int)).toInt = w := j_oI (by omega) (by omega)
    have RO : fX9_rootOf σ 462 (oI (o : Int)) = some (oI (o : Int)) := by
      unfold fX9_rootOf
      rw [show FU = 5999 + 1 from rfl, fX9_rootOf_2, m_i1 eo ho, j_b, z, if_pos (show oI (-1) = (-1 : Int32) from rfl)]
    rw [if_pos (by rw [z]; rfl), if_pos z]
    unfold fX9_windowOf
    rw [RO, j_b, m_wo8 (by omega) w1 w2 w3 w4, j_b]
    obtain ⟨τ, b1, p1, x1⟩ := m_s5 (σ := σ) ew w1 (oI (n : Int))
    rw [b1, j_b]
    obtain ⟨σ3, b2, p2, x2⟩ := r21 τ (fun j hj => by rw [x1, mu_ne (by omega)])
    exact ⟨σ3, b2, p1.tr p2, by rw [x2, x1, en]⟩
  · rw [if_neg (by rw [j_eq, t_mv, jm1]; exact z), if_neg z]
    exact r21 σ (fun _ _ => rfl)
/-- a node enters at a place -/
def men (U : VW) (n : Nat) (s k : Int) : VW := mu (mu (fun j i => if j = 4 ∧ i < 24 ∧ (U 0 i ≠ 0 ∧ U 1 i = s) ∧ k ≤ U 4 i then wr (U 4 i + 1) else U j i) 1 n s) 4 n k
theorem m_enters {n : Nat} (hn : n < 24) (s k : Int32) : Mo (fX9_enters σ 462 (oI (n : Int)) s k) σ (men (mv (σ.1 463)) n s.toInt k.toInt) := by
  have en : (oI (n : Int)).toInt = n := j_oI (by omega) (by omega)
  unfold Mo fX9_enters men
  obtain ⟨W, hW⟩ : ∃ W : VW, W = fun j i => if j = 4 ∧ i < 24 ∧ (mv (σ.1 463) 0 i ≠ 0 ∧ mv (σ.1 463) 1 i = s.toInt) ∧ k.toInt ≤ mv (σ.1 463) 4 i then wr (mv (σ.1 463) 4 i + 1) else mv (σ.1 463) j i := ⟨_, rfl⟩
  rw [← hW]
  refine lp (F := fun f (t : Sg × Int32) => fX9_enters_3 462 f t.1 (oI (n : Int)) s k t.2) (Q := fun r => ∃ σ', r = some σ' ∧ Out σ σ' 463 463 ∧ mv (σ'.1 463) = mu (mu W 1 n s.toInt) 4 n k.toInt) (fun i t => t.2 = nI i ∧ Out σ t.1 463 463 ∧ mv (t.1.1 463) = fun j m => if m < i then W j m else mv (σ.1 463) j m) 24 ?_ ?_ 24 0 FU (σ, 0) rfl (by decide) ⟨rfl, Out.rf, by
    funext j m
    rw [if_neg (by omega)]⟩
  · rintro f i ⟨t, l⟩ hi ⟨rfl, ho, hv⟩
    simp only at ho hv
    have e : (nI i).toInt = i := j_nI (by omega)
    have rd : ∀ j, mv (t.1 463) j i = mv (σ.1 463) j i := fun j => by rw [hv]; exact if_neg (by omega)
    have ext : ∀ Y : VW, Y 4 i = W 4 i → (∀ j m, ¬ (j = 4 ∧ m = i) → Y j m = mv (t.1 463) j m) → Y = fun j m => if m < i + 1 then W j m else mv (σ.1 463) j m := by
      intro Y h1 h2
      funext j m
      by_cases q : j = 4 ∧ m = i
      · obtain ⟨rfl, rfl⟩ := q
        rw [h1, if_pos (by omega)]
      · rw [h2 j m q, hv]
        dsimp only
        by_cases q2 : m < i
        · rw [if_pos q2, if_pos (by omega)]
        · rw [if_neg q2]
          by_cases q3 : m = i
          · subst q3
            rw [if_pos (by omega), hW]
            dsimp only
            rw [if_neg (fun z => q ⟨z.1, rfl⟩)]
          · rw [if_neg (by omega)]
    have w4 : W 4 i = if (mv (σ.1 463) 0 i ≠ 0 ∧ mv (σ.1 463) 1 i = s.toInt) ∧ k.toInt ≤ mv (σ.1 463) 4 i then wr (mv (σ.1 463) 4 i + 1) else mv (σ.1 463) 4 i := by
      rw [hW]
      dsimp only
      by_cases q : (mv (σ.1 463) 0 i ≠ 0 ∧ mv (σ.1 463) 1 i = s.toInt) ∧ k.toInt ≤ mv (σ.1 463) 4 i
      · rw [if_pos q, if_pos ⟨rfl, hi, q⟩]
      · rw [if_neg q, if_neg (fun z => q z.2.2)]
    show ∃ s' : Sg × Int32, _ ∧ fX9_enters_3 462 (f + 1) t (oI (n : Int)) s k (nI i) = _
    rw [fX9_enters_3, if_neg (n_ge 24 (m := 24) rfl hi (by decide)), m_isChild e hi, j_b, rd 0, rd 1]
    unfold fX9_enters_47
    by_cases q : mv (σ.1 463) 0 i ≠ 0 ∧ mv (σ.1 463) 1 i = s.toInt
    · rw [if_pos (by simp only [q.1, q.2, ne_eq, not_false_eq_true, decide_true, Bool.and_self]), m_i4 e hi, j_b, rd 4]
      by_cases q2 : k.toInt ≤ mv (σ.1 463) 4 i
      · obtain ⟨σ2, a2, o2, v2⟩ := m_l4 (σ := t) e hi (oI (mv (σ.1 463) 4 i) + 1)
        rw [if_neg (by rw [j_lt, t_mv]; omega), j_b, a2, j_b]
        refine ⟨(σ2, nI (i + 1)), ⟨rfl, ho.tr o2, ext _ ?_ ?_⟩, by rw [j_s]⟩
        · show mv (σ2.1 463) 4 i = _
          rw [v2, mu_at, if_pos rfl, wr_add, t_mv, jz1, w4, if_pos ⟨q, q2⟩]
        · intro j m hjm
          show mv (σ2.1 463) j m = _
          rw [v2, mu_def, if_neg hjm]
      · rw [if_pos (by rw [j_lt, t_mv]; omega)]
        refine ⟨(t, nI (i + 1)), ⟨rfl, ho, ext _ ?_ (fun _ _ _ => rfl)⟩, by rw [j_s]⟩
        rw [rd 4, w4, if_neg (fun z => q2 z.2)]
    · rw [if_neg (by
        intro z
        simp only [Bool.and_eq_true, decide_eq_true_eq] at z
        exact q z)]
      refine ⟨(t, nI (i + 1)), ⟨rfl, ho, ext _ ?_ (fun _ _ _ => rfl)⟩, by rw [j_s]⟩
      rw [rd 4, w4, if_neg (fun z => q z.1)]
  · rintro f ⟨t, l⟩ ⟨rfl, ho, hv⟩
    simp only at ho hv
    have hv : mv (t.1 463) = W := by
      rw [hv]
      funext j m
      by_cases q : m < 24
      · rw [if_pos q]
      · rw [if_neg q, hW]
        dsimp only
        rw [if_neg (fun z => q z.2.1)]
    show ∃ σ', fX9_enters_3 462 (f + 1) t (oI (n : Int)) s k (nI 24) = some σ' ∧ _
    obtain ⟨σ1, a1, o1, v1⟩ := m_l1 (σ := t) en hn s
    obtain ⟨σ2, a2, o2, v2⟩ := m_l4 (σ := σ1) en hn k
    rw [fX9_enters_3, if_pos (n_le 24 (m := 24) rfl (by decide)), a1, j_b, a2, j_b]
    exact ⟨σ2, rfl, (ho.tr o1).tr o2, by rw [v2, v1, hv]⟩
end MB
/-- all but trees, tabs, windows, floats and focus stays -/
def FS (U U' : VW) : Prop := ∀ j, (j = 6 ∨ j = 7 ∨ j = 8 ∨ 22 ≤ j) → U' j = U j
theorem FR.fs {U U' : VW} (h : FR U U') : FS U U' := fun j hj => h j (by omega)
theorem FS.tr {U U' U'' : VW} (h : FS U U') (h' : FS U' U'') : FS U U'' := fun j hj => (h' j hj).trans (h j hj)
section MS
variable {σ : Sg} {V : VW}
/-- a pane settles in a group -/
theorem m_settles {X : Nat → Bool} (h : VM (mv (σ.1 463)) V X) {a b : Int32} {p g : Nat} (ha : a.toInt = p) (hp : p < 12) (hb : b.toInt = g) (hg : g < 23) (hg2 : V 8 g = 2) (hu : V 13 p = -1) (hh : V 15 p = 0) {o : OD} (ho : OE (mo (mv (σ.1 463)) 20) o) (ok : OkO o) (hl : (o_lv o p).1 < 12) : ∃ σ', fX9_settles σ 462 a b = some σ' ∧ Out σ σ' 463 463 ∧ VM (mv (σ'.1 463)) (v_join V p g) (fun k => X k && k != g) ∧ OE (mo (mv (σ'.1 463)) 20) (o_pf o p) ∧ FS (mv (σ.1 463)) (mv (σ'.1 463)) := by
  obtain ⟨r13, r14, r12, rj⟩ := join_rows (V := V) hp hg
  unfold fX9_settles
  rw [m_tabMany, j_b, hb, h.tc]
  obtain ⟨σ2, a2, o2, v2⟩ := m_p4 (σ := σ) ha hp (oI (v_tc V g))
  obtain ⟨σ3, a3, o3, v3⟩ := m_p3 (σ := σ2) ha hp b
  obtain ⟨σ4, a4, o4, v4⟩ := m_p5 (σ := σ3) ha hp 0
  obtain ⟨σ5, a5, o5, v5⟩ := m_l5 (σ := σ4) hb (by omega : g < 24) a
  rw [a2, j_b, a3, j_b, a4, j_b, a5, j_b]
  rw [v4, v3, v2, t_tc, hb, jz0, ha] at v5
  have m20 : mo (mv (σ5.1 463)) 20 = mo (mv (σ.1 463)) 20 := by rw [v5]; rfl
  have c1 := ho.1
  obtain ⟨k0, k1⟩ := ok
  obtain ⟨σ6, a6, o6, v6, r6⟩ := m_comesFirst (σ := σ5) (j := 20) (c := 251) (cap := 12) (Or.inr ⟨rfl, rfl, rfl⟩) (by rw [m20, c1]; omega) a (by rw [m20, ha, (ho.lv _).1]; omega)
  have a6 : fX9_comesFirst σ5 462 251 a = some σ6 := a6
  rw [a6, j_b]
  rw [m20, ha] at v6
  refine ⟨σ6, rfl, (((o2.tr o3).tr o4).tr o5).tr o6, ?_, v6.tr (ho.pf _), fun j hj => ?_⟩
  · have w : ∀ j, j ≠ 5 → j ≠ 9 → j ≠ 10 → j ≠ 11 → j < 20 → mv (σ6.1 463) j = mv (σ.1 463) j := fun j h5 h9 h10 h11 h20 => by
      rw [r6 j (by omega) (by omega), v5, mu_ne h5, mu_ne h11, mu_ne h9, mu_ne h10]
    have w5 : ∀ i, mv (σ6.1 463) 5 i = if i = g then (p : Int) else mv (σ.1 463) 5 i := fun i => by
      rw [r6 5 (by decide) (by decide), v5, mu_at, mu_ne (by decide), mu_ne (by decide), mu_ne (by decide)]
    have w9 : ∀ i, mv (σ6.1 463) 9 i = if i = p then (g : Int) else mv (σ.1 463) 9 i := fun i => by
      rw [r6 9 (by decide) (by decide), v5, mu_ne (by decide), mu_ne (by decide), mu_at, mu_ne (by decide)]
    have w10 : ∀ i, mv (σ6.1 463) 10 i = if i = p then (v_tc V g : Int) else mv (σ.1 463) 10 i := fun i => by
      rw [r6 10 (by decide) (by decide), v5, mu_ne (by decide), mu_ne (by decide), mu_ne (by decide), mu_at]
    have w11 : ∀ i, mv (σ6.1 463) 11 i = if i = p then 0 else mv (σ.1 463) 11 i := fun i => by
      rw [r6 11 (by decide) (by decide), v5, mu_ne (by decide), mu_at, mu_ne (by decide), mu_ne (by decide)]
    have k8 := rj 8 (by decide) (by decide) (by decide)
    have k9 := rj 9 (by decide) (by decide) (by decide)
    refine ⟨fun n hn => ?_, ?_, fun n hn q => ?_, fun n hn q => ?_, fun n hn q x => ?_, fun i hi => ?_, fun v hv => ?_, ?_, ?_, fun n hn q => by
      rw [k8] at q
      rw [w5 n, if_neg (fun y => by rw [y] at q; omega)]
      exact h.a5 hn q⟩
    · rw [k8, w 0 (by decide) (by decide) (by decide) (by decide) (by decide), w 2 (by decide) (by decide) (by decide) (by decide) (by decide)]
      exact h.1 n hn
    · rw [w 0 (by decide) (by decide) (by decide) (by decide) (by decide)]
      exact h.l
    · rw [k8] at q
      rw [w 1 (by decide) (by decide) (by decide) (by decide) (by decide), k9]
      exact h.pa hn q
    · rw [k9] at q
      rw [w 3 (by decide) (by decide) (by decide) (by decide) (by decide), w 4 (by decide) (by decide) (by decide) (by decide) (by decide), rj 10 (by decide) (by decide) (by decide), rj 11 (by decide) (by decide) (by decide)]
      exact ⟨h.we hn q, h.pl hn q⟩
    · rw [k8] at q
      rw [w5 n, r12 n]
      by_cases z : n = g
      · rw [if_pos z, if_pos z]
      · rw [if_neg z, if_neg z]
        exact h.ac hn q (by simpa [z] using x)
    · rw [w9 i, w10 i, w11 i, r13 i, r14 i, rj 15 (by decide) (by decide) (by decide)]
      by_cases z : i = p
      · rw [if_pos z, if_pos z, if_pos z, if_pos z, if_pos z, z, hh]
        exact ⟨rfl, fun _ => rfl, rfl⟩
      · rw [if_neg z, if_neg z, if_neg z, if_neg z, if_neg z]
        exact ⟨h.gr hi, h.sp hi, h.hi hi⟩
    · rw [w 12 (by decide) (by decide) (by decide) (by decide) (by decide), w 13 (by decide) (by decide) (by decide) (by decide) (by decide), w 14 (by decide) (by decide) (by decide) (by decide) (by decide), w 15 (by decide) (by decide) (by decide) (by decide) (by decide), w 16 (by decide) (by decide) (by decide) (by decide) (by decide), w 17 (by decide) (by decide) (by decide) (by decide) (by decide), rj 5 (by decide) (by decide) (by decide), rj 1 (by decide) (by decide) (by decide), rj 2 (by decide) (by decide) (by decide), rj 3 (by decide) (by decide) (by decide), rj 4 (by decide) (by decide) (by decide)]
      exact ⟨h.ex hv, h.ro hv, h.geo hv⟩
    · rw [w 18 (by decide) (by decide) (by decide) (by decide) (by decide), rj 6 (by decide) (by decide) (by decide)]
      exact h.fc
    · rw [w 19 (by decide) (by decide) (by decide) (by decide) (by decide), rj 6 (by decide) (by decide) (by decide), rj 7 (by decide) (by decide) (by decide)]
      exact fun k hk => h.fi hk
  · rw [r6 j (by omega) (by omega), v5, mu_ne (by omega), mu_ne (by omega), mu_ne (by omega), mu_ne (by omega)]
end MS
end
section
/-! THE RELATION: new groups in the reference (2) -/
theorem sd4 {s : Int32} (h : s = 0 ∨ s = 1 ∨ s = 2 ∨ s = 3) : (s / 2).toInt = v_dir s.toInt ∧ (s - s / 2 * 2).toInt = v_beh s.toInt ∧ (s / 2).toInt = (oI (v_dir s.toInt)).toInt := by
  rcases h with rfl | rfl | rfl | rfl <;> decide
theorem VM.fx {U V : VW} {X X' : Nat → Bool} (h : VM U V X) (hx : ∀ n, n < 23 → V 8 n = 2 → X' n = false → X n = false) : VM U V X' :=
  ⟨h.1, h.2.1, h.2.2.1, h.2.2.2.1, fun n hn q x => h.ac hn q (hx n hn q x), h.2.2.2.2.2⟩
section MBE
variable {σ : Sg} {V : VW} {d : Nat → Nat} {wn : Nat → Int}
theorem m_new (h : VM (mv (σ.1 463)) V (fun _ => false)) (t : Tree V d wn (fun _ => false)) {f : Nat} (hf : f < 23) (hk : V 8 f = 3) (hl : ∀ k, k < f → V 8 k ≠ 3) (k : Int32) : ∃ σ', fX9_newNode σ 462 k = some (oI (f : Int), σ') ∧ Out σ σ' 463 463 ∧ mv (σ'.1 463) = nn (mv (σ.1 463)) f k.toInt :=
  m_newNode (by omega) (h.k3 hf hk) (fun i hi z => hl i hi ((h.k0 (by omega) (t.ki (by omega))).mp z)) k
theorem m_bes120 (h : VM (mv (σ.1 463)) V (fun _ => false)) (t0 : Tree V d wn (fun _ => false)) {t f m : Nat} (ht : t < 23) (k2 : V 8 t = 2) (hf : f < 23) (hkf : V 8 f = 3) (hlf : ∀ k, k < f → V 8 k ≠ 3) (hm : m < 23) (hkm : V 8 m = 3) (hlm : ∀ k, k < m → k ≠ f → V 8 k ≠ 3) (nmf : m ≠ f) (side : Int32) (hmn : v_mn (up V 8 f 2) = m) {σ1 : Sg} (o1 : Out σ σ1 463 463) (v1 : mv (σ1.1 463) = nn (mv (σ.1 463)) f 2) {l3 l4 : Int32} (e3 : l3.toInt = v_dir side.toInt) (e4 : l4.toInt = v_beh side.toInt) : ∃ σ', fX9_beside_120 462 σ1 (oI (t : Int)) l3 l4 (oI (f : Int)) = some (oI (f : Int), σ') ∧ Out σ σ' 463 463 ∧ VM (mv (σ'.1 463)) (v_bes2 t side.toInt f (up V 8 f 2)) (fun k => k == f) ∧ FR (mv (σ.1 463)) (mv (σ'.1 463)) := by
  obtain ⟨d', wn', T, B, c8, c9, c10, c11, c5⟩ := bes2_ok t0 ht k2 hf hkf hm hkm nmf side.toInt hmn
  obtain ⟨-, -, -, -, -, -, bj⟩ := B
  have ntm : t ≠ m := fun z => by rw [z] at k2; omega
  have ntf : t ≠ f := fun z => by rw [z] at k2; omega
  have et : (oI (t : Int)).toInt = t := j_oI (by omega) (by omega)
  have ef : (oI (f : Int)).toInt = f := j_oI (by omega) (by omega)
  have em : (oI (m : Int)).toInt = m := j_oI (by omega) (by omega)
  obtain ⟨n0, n1, n2, n3, n4, n5, nj⟩ := nn_rows (U := mv (σ.1 463)) (n := f) (k := 2)
  -- the split is made
  obtain ⟨σ2, a2, o2, v2⟩ := m_newNode (σ := σ1) (n0 := m) (by omega) (by rw [v1, n0 m, if_neg nmf]; exact h.k3 hm hkm) (fun k hk z => by
    rw [v1, n0 k] at z
    by_cases y : k = f
    · rw [if_pos y] at z
      omega
    · rw [if_neg y] at z
      exact hlm k hk y ((h.k0 (by omega) (t0.ki (by omega))).mp z)) 1
  rw [v1, jz1] at v2
  obtain ⟨p0, p1, p2, p3, p4, p5, pj⟩ := nn_rows (U := nn (mv (σ.1 463)) f 2) (n := m) (k := 1)
  rw [← v2] at p0 p1 p2 p3 p4 p5 pj
  obtain ⟨σ3, a3, o3, v3⟩ := m_l2 (σ := σ2) em (by omega : m < 24) l3
  -- m stands where t stood
  have rt : ∀ j, j ≠ 2 → mv (σ3.1 463) j t = mv (σ.1 463) j t := fun j hj => by
    rw [v3, mu_ne hj, v2, v2.symm]
    have g : ∀ j, mv (σ2.1 463) j t = mv (σ.1 463) j t := fun j => by
      by_cases y : 6 ≤ j
      · rw [pj j y, nj j y]
      · have : j = 0 ∨ j = 1 ∨ j = 2 ∨ j = 3 ∨ j = 4 ∨ j = 5 := by omega
        rcases this with rfl | rfl | rfl | rfl | rfl | rfl
        · rw [p0 t, if_neg ntm, n0 t, if_neg ntf]
        · rw [p1 t, if_neg ntm, n1 t, if_neg ntf]
        · rw [p2 t, if_neg ntm, n2 t, if_neg ntf]
        · rw [p3 t, if_neg ntm, n3 t, if_neg ntf]
        · rw [p4 t, if_neg ntm, n4 t, if_neg ntf]
        · rw [p5 t, if_neg ntm, n5 t, if_neg ntf]
    exact g j
  have t1 : mv (σ3.1 463) 1 t = V 9 t := by rw [rt 1 (by decide), h.pa ht (by omega)]
  have w17 : ∀ v, v < 5 → mv (σ3.1 463) 17 v = V 5 v := fun v hv => by rw [v3, mu_ne (by decide), pj 17 (by decide), nj 17 (by decide), h.ro hv]
  have w12 : ∀ v, v < 5 → mv (σ3.1 463) 12 v = mv (σ.1 463) 12 v := fun v hv => by rw [v3, mu_ne (by decide), pj 12 (by decide), nj 12 (by decide)]
  obtain ⟨σ4, a4, o4, v4⟩ := m_repl (σ := σ3) (n := m) (o := t) (w := (wn t).toNat) (by omega) (by omega) (fun z => ntm z.symm) (fun z => by
    rw [t1] at z
    obtain ⟨w, x1, x2, x3⟩ := t0.ro ht (by omega) z
    rw [x2, Int.toNat_natCast]
    refine ⟨x1, ?_, by rw [w17 w x1, x3], fun v hv => ?_⟩
    · rw [w12 w x1, h.ex x1, if_pos (Or.inr (by omega))]
      decide
    · right
      rw [w17 v (by omega)]
      intro y
      have := t0.un (by omega) x1 y x3
      omega)
  obtain ⟨σ5, a5, o5, v5⟩ := m_l1 (σ := σ4) et (by omega : t < 24) (oI (m : Int))
  obtain ⟨σ6, a6, o6, v6⟩ := m_l4 (σ := σ5) et (by omega : t < 24) (1 - l4)
  obtain ⟨σ7, a7, o7, v7⟩ := m_l3 (σ := σ6) et (by omega : t < 24) 1000
  obtain ⟨σ8, a8, o8, v8⟩ := m_l1 (σ := σ7) ef (by omega : f < 24) (oI (m : Int))
  obtain ⟨σ9, a9, o9, v9⟩ := m_l4 (σ := σ8) ef (by omega : f < 24) l4
  unfold fX9_beside_120
  rw [a2, j_b]
  dsimp only
  rw [a3, j_b, a4, j_b, a5, j_b, a6, j_b, a7, j_b, a8, j_b, a9, j_b]
  have e1000 : (1000 : Int32).toInt = 1000 := rfl
  have b01 := beh_rg side.toInt
  have e1m : (1 - l4).toInt = 1 - v_beh side.toInt := by rw [j_sub (by rw [jz1, e4]; omega) (by rw [jz1, e4]; omega), jz1, e4]
  rw [v8, v7, v6, v5, v4, t1, rt 4 (by decide), rt 3 (by decide), em, e1m, e1000, e4] at v9
  obtain ⟨UA, hUA⟩ : ∃ UA, UA = (if V 9 t = -1 then mu (mv (σ3.1 463)) 17 (wn t).toNat m else mv (σ3.1 463)) := ⟨_, rfl⟩
  rw [← hUA] at v9
  have ua : ∀ j, j ≠ 17 → UA j = mv (σ3.1 463) j := fun j hj => by
    rw [hUA]
    split
    · rw [mu_ne hj]
    · rfl
  have s3 : ∀ j, j ≠ 2 → mv (σ3.1 463) j = mv (σ2.1 463) j := fun j hj => by rw [v3, mu_ne hj]
  have w : ∀ j, 6 ≤ j → j ≠ 17 → mv (σ9.1 463) j = mv (σ.1 463) j := fun j h6 h17 => by
    rw [v9, mu_ne (by omega), mu_ne (by omega), mu_ne (by omega), mu_ne (by omega), mu_ne (by omega), mu_ne (by omega), mu_ne (by omega), mu_ne (by omega), ua j h17, s3 j (by omega), pj j h6, nj j h6]
  have y0 : ∀ i, mv (σ9.1 463) 0 i = if i = m then 1 else if i = f then 2 else mv (σ.1 463) 0 i := fun i => by
    rw [v9, mu_ne (by decide), mu_ne (by decide), mu_ne (by decide), mu_ne (by decide), mu_ne (by decide), mu_ne (by decide), mu_ne (by decide), mu_ne (by decide), ua 0 (by decide), s3 0 (by decide), p0 i, n0 i]
  have y2 : ∀ i, mv (σ9.1 463) 2 i = if i = m then v_dir side.toInt else if i = f then 0 else mv (σ.1 463) 2 i := fun i => by
    rw [v9, mu_ne (by decide), mu_ne (by decide), mu_ne (by decide), mu_ne (by decide), mu_ne (by decide), mu_ne (by decide), mu_ne (by decide), mu_ne (by decide), ua 2 (by decide), v3, mu_at, e3, p2 i, n2 i]
    by_cases z : i = m
    · rw [if_pos z, if_pos z]
    · rw [if_neg z, if_neg z, if_neg z]
  have y1 : ∀ i, mv (σ9.1 463) 1 i = if i = f then (m : Int) else if i = t then (m : Int) else if i = m then V 9 t else mv (σ.1 463) 1 i := fun i => by
    rw [v9, mu_ne (by decide), mu_at, mu_ne (by decide), mu_ne (by decide), mu_at, mu_ne (by decide), mu_ne (by decide), mu_at, ua 1 (by decide), s3 1 (by decide), p1 i, n1 i]
    by_cases z : i = f
    · simp only [if_pos z]
    · simp only [if_neg z]
      by_cases z2 : i = t
      · simp only [if_pos z2]
      · simp only [if_neg z2]
        by_cases z3 : i = m
        · simp only [if_pos z3]
        · simp only [if_neg z3]
  have y4 : ∀ i, mv (σ9.1 463) 4 i = if i = f then v_beh side.toInt else if i = t then 1 - v_beh side.toInt else if i = m then mv (σ.1 463) 4 t else mv (σ.1 463) 4 i := fun i => by
    rw [v9, mu_at, mu_ne (by decide), mu_ne (by decide), mu_at, mu_ne (by decide), mu_ne (by decide), mu_at, mu_ne (by decide), ua 4 (by decide), s3 4 (by decide), p4 i, n4 i]
    by_cases z : i = f
    · simp only [if_pos z]
    · simp only [if_neg z]
      by_cases z2 : i = t
      · simp only [if_pos z2]
      · simp only [if_neg z2]
        by_cases z3 : i = m
        · simp only [if_pos z3]
        · simp only [if_neg z3]
  have y3 : ∀ i, mv (σ9.1 463) 3 i = if i = t then 1000 else if i = m then mv (σ.1 463) 3 t else if i = f then 1000 else mv (σ.1 463) 3 i := fun i => by
    rw [v9, mu_ne (by decide), mu_ne (by decide), mu_at, mu_ne (by decide), mu_ne (by decide), mu_at, mu_ne (by decide), mu_ne (by decide), ua 3 (by decide), s3 3 (by decide), p3 i, n3 i]
    by_cases z : i = t
    · simp only [if_pos z]
    · simp only [if_neg z]
      by_cases z3 : i = m
      · simp only [if_pos z3]
      · simp only [if_neg z3]
  have y5 : ∀ i, i ≠ m → i ≠ f → mv (σ9.1 463) 5 i = mv (σ.1 463) 5 i := fun i z1 z2 => by
    rw [v9, mu_ne (by decide), mu_ne (by decide), mu_ne (by decide), mu_ne (by decide), mu_ne (by decide), mu_ne (by decide), mu_ne (by decide), mu_ne (by decide), ua 5 (by decide), s3 5 (by decide), p5 i, n5 i, if_neg z1, if_neg z2]
  have y17 : ∀ v, v < 5 → mv (σ9.1 463) 17 v = if V 9 t = -1 ∧ V 5 v = t then (m : Int) else V 5 v := fun v hv => by
    rw [v9, mu_ne (by decide), mu_ne (by decide), mu_ne (by decide), mu_ne (by decide), mu_ne (by decide), mu_ne (by decide), mu_ne (by decide), mu_ne (by decide), hUA]
    by_cases z : V 9 t = -1
    · obtain ⟨u, x1, x2, x3⟩ := t0.ro ht (by omega) z
      rw [if_pos z, x2, Int.toNat_natCast, mu_at]
      by_cases y : v = u
      · rw [if_pos y, if_pos ⟨z, by rw [y]; exact x3⟩]
      · rw [if_neg y, if_neg (fun x => y (t0.un hv x1 x.2 x3)), w17 v hv]
    · rw [if_neg z, if_neg (fun x => z x.1), w17 v hv]
  refine ⟨σ9, rfl, (((((((o1.tr o2).tr o3).tr o4).tr o5).tr o6).tr o7).tr o8).tr o9, ?_, fun j hj => w j (by omega) (by omega)⟩
  have dr := dir_rg side.toInt
  refine ⟨fun n hn => ?_, ?_, fun n hn q => ?_, fun n hn q => ?_, fun n hn q x => ?_, fun p hp => ?_, fun v hv => ?_, ?_, ?_, fun n hn q => by
    rw [c8 n hn] at q
    by_cases z : n = m
    · rw [v9, mu_ne (by decide), mu_ne (by decide), mu_ne (by decide), mu_ne (by decide), mu_ne (by decide), mu_ne (by decide), mu_ne (by decide), mu_ne (by decide), ua 5 (by decide), s3 5 (by decide), p5 n, if_pos z]
    · rw [if_neg z] at q
      have z2 : n ≠ f := fun z2 => by rw [if_pos z2] at q; omega
      rw [if_neg z2] at q
      rw [y5 n z z2]
      exact h.a5 hn q⟩
  · rw [c8 n hn, y0 n, y2 n]
    by_cases z : n = m
    · rw [if_pos z, if_pos z, if_pos z]
      exact ⟨fun y => by omega, fun y => by omega, fun _ => ⟨rfl, rfl⟩⟩
    · rw [if_neg z, if_neg z, if_neg z]
      by_cases z2 : n = f
      · rw [if_pos z2, if_pos z2, if_pos z2]
        exact ⟨fun y => by omega, fun _ => rfl, fun y => by omega⟩
      · rw [if_neg z2, if_neg z2, if_neg z2]
        exact h.1 n hn
  · rw [y0 23, if_neg (by omega), if_neg (by omega)]
    exact h.l
  · rw [c8 n hn] at q
    rw [y1 n, c9 n hn]
    by_cases z : n = f
    · rw [if_pos z, if_neg (fun y => nmf (by omega)), if_pos (Or.inr z)]
    · rw [if_neg z]
      by_cases z2 : n = t
      · rw [if_pos z2, if_neg (fun y => ntm (by omega)), if_pos (Or.inl z2)]
      · rw [if_neg z2]
        by_cases z3 : n = m
        · rw [if_pos z3, if_pos z3]
        · rw [if_neg z3] at q
          rw [if_neg z3, if_neg z3, if_neg (fun y => y.elim z2 z)]
          rw [if_neg z] at q
          exact h.pa hn q
  · have q' := q
    rw [c9 n hn] at q
    rw [y3 n, y4 n, c10 n hn q', c11 n hn q']
    by_cases z3 : n = m
    · rw [if_pos z3] at q
      rw [if_neg (fun y => ntm (by omega)), if_pos z3, if_pos z3, if_neg (fun y => nmf (by omega)), if_neg (fun y => ntm (by omega)), if_pos z3, if_pos z3]
      exact ⟨h.we ht q, h.pl ht q⟩
    · rw [if_neg z3] at q
      rw [if_neg z3, if_neg z3, if_neg z3, if_neg z3]
      by_cases z2 : n = t
      · rw [if_pos z2, if_pos (Or.inl z2), if_neg (fun y => ntf (by omega)), if_pos z2, if_pos z2]
        exact ⟨rfl, rfl⟩
      · rw [if_neg z2, if_neg z2, if_neg z2]
        by_cases z : n = f
        · rw [if_pos z, if_pos (Or.inr z), if_pos z, if_pos z]
          exact ⟨rfl, rfl⟩
        · rw [if_neg z, if_neg z, if_neg z, if_neg (fun y => y.elim z2 z)]
          rw [if_neg (fun y => y.elim z2 z)] at q
          exact ⟨h.we hn q, h.pl hn q⟩
  · rw [c8 n hn] at q
    have z3 : n ≠ m := fun z => by rw [if_pos z] at q; omega
    rw [if_neg z3] at q
    have z : n ≠ f := by simpa using x
    rw [if_neg z] at q
    rw [y5 n z3 z, bj 12 (by decide) (by decide) (by decide) (by decide) (by decide)]
    exact h.ac hn q rfl
  · rw [w 9 (by decide) (by decide), w 10 (by decide) (by decide), w 11 (by decide) (by decide), bj 13 (by decide) (by decide) (by decide) (by decide) (by decide), bj 14 (by decide) (by decide) (by decide) (by decide) (by decide), bj 15 (by decide) (by decide) (by decide) (by decide) (by decide)]
    exact ⟨h.gr hp, h.sp hp, h.hi hp⟩
  · have ev : (v = 0 ∨ v_bes2 t side.toInt f (up V 8 f 2) 5 v ≠ -1) ↔ (v = 0 ∨ V 5 v ≠ -1) := by
      rw [c5 v hv]
      by_cases z : V 9 t = -1 ∧ V 5 v = t
      · rw [if_pos z, z.2]
        constructor <;> intro _ <;> exact Or.inr (by omega)
      · rw [if_neg z]
    rw [w 12 (by decide) (by decide), y17 v hv, w 13 (by decide) (by decide), w 14 (by decide) (by decide), w 15 (by decide) (by decide), w 16 (by decide) (by decide), bj 1 (by decide) (by decide) (by decide) (by decide) (by decide), bj 2 (by decide) (by decide) (by decide) (by decide) (by decide), bj 3 (by decide) (by decide) (by decide) (by decide) (by decide), bj 4 (by decide) (by decide) (by decide) (by decide) (by decide)]
    refine ⟨?_, (c5 v hv).symm, fun q => h.geo hv (ev.mp q)⟩
    rw [h.ex hv]
    by_cases z : v = 0 ∨ V 5 v ≠ -1
    · rw [if_pos z, if_pos (ev.mpr z)]
    · rw [if_neg z, if_neg (fun y => z (ev.mp y))]
  · rw [w 18 (by decide) (by decide), bj 6 (by decide) (by decide) (by decide) (by decide) (by decide)]
    exact h.fc
  · rw [w 19 (by decide) (by decide), bj 6 (by decide) (by decide) (by decide) (by decide) (by decide), bj 7 (by decide) (by decide) (by decide) (by decide) (by decide)]
    exact fun k hk => h.fi hk
end MBE
end
section
/-! THE RELATION: new groups in the reference (3) -/
section MBF
variable {σ : Sg} {V : VW} {d : Nat → Nat} {wn : Nat → Int}
theorem m_bes65 (h : VM (mv (σ.1 463)) V (fun _ => false)) (t0 : Tree V d wn (fun _ => false)) {t f s : Nat} (ht : t < 23) (k2 : V 8 t = 2) (hf : f < 23) (hkf : V 8 f = 3) (hs : V 9 t = s) (side : Int32) {σ1 : Sg} (o1 : Out σ σ1 463 463) (v1 : mv (σ1.1 463) = nn (mv (σ.1 463)) f 2) {l4 : Int32} (e4 : l4.toInt = v_beh side.toInt) : ∃ σ', (fX9_its σ1 462 (oI (t : Int)) 3).bind (fun r6 => if (r6 / 2) ≤ 1 then (fX9_beside_65 462 σ1 (oI (t : Int)) l4 (oI (s : Int)) (oI (f : Int)) r6 1) else (fX9_beside_65 462 σ1 (oI (t : Int)) l4 (oI (s : Int)) (oI (f : Int)) r6 (r6 / 2))) = some (oI (f : Int), σ') ∧ Out σ σ' 463 463 ∧ VM (mv (σ'.1 463)) (v_bes1 V t side.toInt f (up V 8 f 2)) (fun k => k == f) ∧ FR (mv (σ.1 463)) (mv (σ'.1 463)) := by
  obtain ⟨d', wn', T, B, c8, c9, c10, c11, c5⟩ := bes1_ok t0 ht k2 hf hkf hs side.toInt
  obtain ⟨-, -, -, -, -, -, bj⟩ := B
  obtain ⟨s1, s2, s3, s4⟩ := t0.par ht hs
  have ntf : t ≠ f := fun z => by rw [z] at k2; omega
  have nsf : s ≠ f := fun z => by rw [z] at s2; omega
  have f9 := t0.fr hf hkf
  have bb := beh_rg side.toInt
  obtain ⟨w1, w2⟩ := t0.we ht (by omega)
  obtain ⟨nu, -⟩ := t0.sp s1 s2
  have pt := nu.1 t ht (by simp [hs])
  have c23 := cnt_le (fun n => decide (V 9 n = (s : Int))) 23
  have et : (oI (t : Int)).toInt = t := j_oI (by omega) (by omega)
  have ef : (oI (f : Int)).toInt = f := j_oI (by omega) (by omega)
  have es : (oI (s : Int)).toInt = s := j_oI (by omega) (by omega)
  obtain ⟨n0, n1, n2, n3, n4, n5, nj⟩ := nn_rows (U := mv (σ.1 463)) (n := f) (k := 2)
  have x3 : mv (σ1.1 463) 3 t = V 11 t := by rw [v1, n3 t, if_neg ntf, h.we ht (by omega)]
  have x4 : mv (σ1.1 463) 4 t = V 10 t := by rw [v1, n4 t, if_neg ntf, h.pl ht (by omega)]
  rw [m_i3 et (by omega), j_b, x3]
  have ew : (oI (V 11 t)).toInt = V 11 t := j_oI (by omega) (by omega)
  have dv : (oI (V 11 t) / 2).toInt = V 11 t / 2 := by
    rw [wr_div2, ew, Int.tdiv_eq_ediv_of_nonneg (by omega), wr_id (by omega) (by omega)]
  have main : ∀ hf2 : Int32, hf2.toInt = max 1 (V 11 t / 2) → ∃ σ', fX9_beside_65 462 σ1 (oI (t : Int)) l4 (oI (s : Int)) (oI (f : Int)) (oI (V 11 t)) hf2 = some (oI (f : Int), σ') ∧ Out σ σ' 463 463 ∧ VM (mv (σ'.1 463)) (v_bes1 V t side.toInt f (up V 8 f 2)) (fun k => k == f) ∧ FR (mv (σ.1 463)) (mv (σ'.1 463)) := by
    intro hf2 eh
    unfold fX9_beside_65 fX9_beside_114
    rw [m_i4 et (by omega), j_b, x4]
    have e10 : (oI (V 10 t)).toInt = V 10 t := j_oI (by omega) (by omega)
    obtain ⟨σ2, a2, o2, v2⟩ := m_enters (σ := σ1) (n := f) (by omega) (oI (s : Int)) (oI (V 10 t) + l4)
    obtain ⟨σ3, a3, o3, v3⟩ := m_l3 (σ := σ2) ef (by omega : f < 24) hf2
    rw [a2, j_b, a3, j_b]
    have ek : (oI (V 10 t) + l4).toInt = V 10 t + v_beh side.toInt := by rw [j_add (by rw [e10, e4]; omega) (by rw [e10, e4]; omega), e10, e4]
    have eq2 : (oI (V 11 t) - hf2).toInt = V 11 t - max 1 (V 11 t / 2) := by rw [j_sub (by rw [ew, eh]; omega) (by rw [ew, eh]; omega), ew, eh]
    have fin : ∀ q : Int32, q.toInt = max 1 (V 11 t - V 11 t / 2) → ∃ σ', (fX9_lay σ3 462 (oI (t : Int)) 3 q).bind (fun σ18 => some (oI (f : Int), σ18)) = some (oI (f : Int), σ') ∧ Out σ σ' 463 463 ∧ VM (mv (σ'.1 463)) (v_bes1 V t side.toInt f (up V 8 f 2)) (fun k => k == f) ∧ FR (mv (σ.1 463)) (mv (σ'.1 463)) := by
      intro q eq
      obtain ⟨σ4, a4, o4, v4⟩ := m_l3 (σ := σ3) et (by omega : t < 24) q
      rw [a4, j_b]
      rw [v3, v2, es, ek, eh, eq] at v4
      have w : ∀ j, 6 ≤ j → mv (σ4.1 463) j = mv (σ.1 463) j := fun j h6 => by
        rw [v4, mu_ne (by omega), mu_ne (by omega)]
        unfold men
        rw [mu_ne (by omega), mu_ne (by omega)]
        funext i
        rw [if_neg (fun z => by omega), v1, nj j h6]
      have y0 : ∀ i, mv (σ4.1 463) 0 i = if i = f then 2 else mv (σ.1 463) 0 i := fun i => by
        rw [v4, mu_ne (by decide), mu_ne (by decide)]
        unfold men
        rw [mu_ne (by decide), mu_ne (by decide), if_neg (fun z => absurd z.1 (by decide)), v1, n0 i]
      have y2 : ∀ i, mv (σ4.1 463) 2 i = if i = f then 0 else mv (σ.1 463) 2 i := fun i => by
        rw [v4, mu_ne (by decide), mu_ne (by decide)]
        unfold men
        rw [mu_ne (by decide), mu_ne (by decide), if_neg (fun z => absurd z.1 (by decide)), v1, n2 i]
      have y5 : ∀ i, i ≠ f → mv (σ4.1 463) 5 i = mv (σ.1 463) 5 i := fun i z => by
        rw [v4, mu_ne (by decide), mu_ne (by decide)]
        unfold men
        rw [mu_ne (by decide), mu_ne (by decide), if_neg (fun z => absurd z.1 (by decide)), v1, n5 i, if_neg z]
      have y1 : ∀ i, mv (σ4.1 463) 1 i = if i = f then (s : Int) else mv (σ.1 463) 1 i := fun i => by
        rw [v4, mu_ne (by decide), mu_ne (by decide)]
        unfold men
        rw [mu_ne (by decide), mu_at, if_neg (c := 1 = 4 ∧ _) (fun z => absurd z.1 (by decide)), v1, n1 i]
        by_cases z : i = f
        · rw [if_pos z, if_pos z]
        · simp only [if_neg z]
      have y3 : ∀ i, mv (σ4.1 463) 3 i = if i = t then max 1 (V 11 t - V 11 t / 2) else if i = f then max 1 (V 11 t / 2) else mv (σ.1 463) 3 i := fun i => by
        rw [v4, mu_at, mu_at]
        unfold men
        rw [mu_ne (by decide), mu_ne (by decide), if_neg (c := 3 = 4 ∧ _) (fun z => absurd z.1 (by decide)), v1, n3 i]
        by_cases z : i = f
        · simp only [if_pos z]
        · simp only [if_neg z]
      have y4 : ∀ i, i < 23 → mv (σ4.1 463) 4 i = if i = f then V 10 t + v_beh side.toInt else if (mv (σ.1 463) 0 i ≠ 0 ∧ mv (σ.1 463) 1 i = s) ∧ V 10 t + v_beh side.toInt ≤ mv (σ.1 463) 4 i then wr (mv (σ.1 463) 4 i + 1) else mv (σ.1 463) 4 i := fun i hi => by
        rw [v4, mu_ne (by decide), mu_ne (by decide)]
        unfold men
        rw [mu_at]
        by_cases z : i = f
        · rw [if_pos z, if_pos z]
        · rw [if_neg z, if_neg z, mu_ne (by decide), v1, n0 i, n1 i, n4 i]
          simp only [if_neg z]
          by_cases y : (mv (σ.1 463) 0 i ≠ 0 ∧ mv (σ.1 463) 1 i = s) ∧ V 10 t + v_beh side.toInt ≤ mv (σ.1 463) 4 i
          · rw [if_pos ⟨trivial, by omega, y⟩, if_pos y]
          · rw [if_neg (fun x => y x.2.2), if_neg y]
      refine ⟨σ4, rfl, ((o1.tr o2).tr o3).tr o4, ?_, fun j hj => w j (by omega)⟩
      refine ⟨fun n hn => ?_, ?_, fun n hn q => ?_, fun n hn q => ?_, fun n hn q x => ?_, fun p hp => ?_, fun v hv => ?_, ?_, ?_, fun n hn q => by
        rw [c8 n hn] at q
        have z2 : n ≠ f := fun z2 => by rw [if_pos z2] at q; omega
        rw [if_neg z2] at q
        rw [y5 n z2]
        exact h.a5 hn q⟩
      · rw [c8 n hn, y0 n, y2 n]
        by_cases z2 : n = f
        · rw [if_pos z2, if_pos z2, if_pos z2]
          exact ⟨fun y => by omega, fun _ => rfl, fun y => by omega⟩
        · rw [if_neg z2, if_neg z2, if_neg z2]
          exact h.1 n hn
      · rw [y0 23, if_neg (by omega)]
        exact h.l
      · rw [c8 n hn] at q
        rw [y1 n, c9 n hn]
        by_cases z : n = f
        · rw [if_pos z, if_pos z]
        · rw [if_neg z, if_neg z]
          rw [if_neg z] at q
          exact h.pa hn q
      · have q' := q
        rw [c9 n hn] at q
        rw [y3 n, y4 n hn, c10 n hn q', c11 n hn]
        by_cases z : n = f
        · rw [if_pos z, if_pos z, if_neg (fun y => ntf (by omega)), if_pos z, if_pos z]
          exact ⟨rfl, rfl⟩
        · rw [if_neg z] at q
          have nu3 := t0.us hn q
          have k0 : mv (σ.1 463) 0 n ≠ 0 := fun y => nu3 ((h.k0 hn (t0.ki hn)).mp y)
          simp only [if_neg z]
          rw [h.pa hn nu3, h.pl hn q, h.we hn q]
          refine ⟨?_, ?_⟩
          · by_cases z2 : n = t
            · rw [if_pos z2]
            · rw [if_neg z2]
          · by_cases y : V 9 n = s ∧ V 10 t + v_beh side.toInt ≤ V 10 n
            · have := nu.1 n hn (by simp [y.1])
              rw [if_pos ⟨⟨k0, y.1⟩, y.2⟩, if_pos y, wr_id (by omega) (by omega)]
            · rw [if_neg (fun x => y ⟨x.1.2, x.2⟩), if_neg y]
      · rw [c8 n hn] at q
        have z : n ≠ f := by simpa using x
        rw [if_neg z] at q
        rw [y5 n z, bj 12 (by decide) (by decide) (by decide) (by decide) (by decide)]
        exact h.ac hn q rfl
      · rw [w 9 (by decide), w 10 (by decide), w 11 (by decide), bj 13 (by decide) (by decide) (by decide) (by decide) (by decide), bj 14 (by decide) (by decide) (by decide) (by decide) (by decide), bj 15 (by decide) (by decide) (by decide) (by decide) (by decide)]
        exact ⟨h.gr hp, h.sp hp, h.hi hp⟩
      · rw [w 12 (by decide), w 17 (by decide), w 13 (by decide), w 14 (by decide), w 15 (by decide), w 16 (by decide), c5 v hv, bj 1 (by decide) (by decide) (by decide) (by decide) (by decide), bj 2 (by decide) (by decide) (by decide) (by decide) (by decide), bj 3 (by decide) (by decide) (by decide) (by decide) (by decide), bj 4 (by decide) (by decide) (by decide) (by decide) (by decide)]
        exact ⟨h.ex hv, h.ro hv, h.geo hv⟩
      · rw [w 18 (by decide), bj 6 (by decide) (by decide) (by decide) (by decide) (by decide)]
        exact h.fc
      · rw [w 19 (by decide), bj 6 (by decide) (by decide) (by decide) (by decide) (by decide), bj 7 (by decide) (by decide) (by decide) (by decide) (by decide)]
        exact fun k hk => h.fi hk
    by_cases z : (oI (V 11 t) - hf2) ≤ 1
    · rw [if_pos z]
      rw [j_le, eq2, jz1] at z
      exact fin 1 (by rw [jz1]; omega)
    · rw [if_neg z]
      rw [j_le, eq2, jz1] at z
      exact fin _ (by rw [eq2]; omega)
  by_cases z : oI (V 11 t) / 2 ≤ 1
  · rw [if_pos z]
    rw [j_le, dv, jz1] at z
    exact main 1 (by rw [jz1]; omega)
  · rw [if_neg z]
    rw [j_le, dv, jz1] at z
    exact main _ (by rw [dv]; omega)
/-- the two lowest free nodes -/
def Two (V : VW) (f m : Nat) : Prop := f < 23 ∧ V 8 f = 3 ∧ (∀ k, k < f → V 8 k ≠ 3) ∧ v_mn V = f ∧ m < 23 ∧ V 8 m = 3 ∧ m ≠ f ∧ (∀ k, k < m → k ≠ f → V 8 k ≠ 3) ∧ v_mn (up V 8 f 2) = m
theorem two_ex {V : VW} (h : 2 ≤ cnt (fun n => decide (V 8 n = 3)) 23) : ∃ f m, Two V f m := by
  obtain ⟨f, f1, f2, f3, f4⟩ := v_mn_sp (V := V) (by omega)
  have c := cnt_one_more (c := fun n => decide (up V 8 f 2 8 n = 3)) (d := fun n => decide (V 8 n = 3)) (n := 23) f1 (fun i _ ne => by rw [up8 f1, if_neg ne]) (by rw [up8 f1, if_pos rfl]; decide) (by simp [f3])
  obtain ⟨m, m1, m2, m3, m4⟩ := v_mn_sp (V := up V 8 f 2) (by omega)
  rw [up8 f1] at m3
  have nmf : m ≠ f := fun z => by rw [if_pos z] at m3; omega
  rw [if_neg nmf] at m3
  refine ⟨f, m, f1, f3, f4, f2, m1, m3, nmf, fun k hk ne => ?_, m2⟩
  have := m4 k hk
  rw [up8 f1, if_neg ne] at this
  exact this
theorem m_beside (h : VM (mv (σ.1 463)) V (fun _ => false)) (t0 : Tree V d wn (fun _ => false)) {t f m : Nat} (ht : t < 23) (k2 : V 8 t = 2) (tw : Two V f m) {side : Int32} (hs : side = 0 ∨ side = 1 ∨ side = 2 ∨ side = 3) : ∃ σ', fX9_beside σ 462 (oI (t : Int)) side = some (oI (f : Int), σ') ∧ Out σ σ' 463 463 ∧ VM (mv (σ'.1 463)) (v_bes V t side.toInt) (fun k => k == f) ∧ FR (mv (σ.1 463)) (mv (σ'.1 463)) := by
  obtain ⟨f1, f2, f3, f4, m1, m2, m3, m4, m5⟩ := tw
  obtain ⟨e3, e4, -⟩ := sd4 hs
  have et : (oI (t : Int)).toInt = t := j_oI (by omega) (by omega)
  obtain ⟨σ1, a1, o1, v1⟩ := m_new h t0 f1 f2 f3 2
  have v1 : mv (σ1.1 463) = nn (mv (σ.1 463)) f 2 := v1
  obtain ⟨n0, n1, n2, n3, n4, n5, nj⟩ := nn_rows (U := mv (σ.1 463)) (n := f) (k := 2)
  unfold fX9_beside
  rw [j_nm, j_nm, m_i1 et (by omega), j_b, h.pa ht (by omega), a1, j_b]
  dsimp only
  unfold v_bes
  rw [ga_in ht, f4]
  have two := m_bes120 h t0 ht k2 f1 f2 f3 m1 m2 m4 m3 side m5 o1 v1 e3 e4
  by_cases r : V 9 t = -1
  · rw [if_pos (by rw [r]; rfl), if_pos r]
    exact two
  · obtain ⟨s, s1, s2, s3, _, _⟩ := t0.pa ht r
    have nsf : s ≠ f := fun z => by rw [z] at s3; omega
    have es : (oI (s : Int)).toInt = s := j_oI (by omega) (by omega)
    have w2 : mv (σ1.1 463) 2 s = V 8 s := by rw [v1, n2 s, if_neg nsf, (h.k1 s1 s3).2]
    have k8 := t0.ki s1
    rw [s2, if_neg (by rw [show (-1 : Int32) = oI (-1) from rfl, j_oe (by omega) (by omega) (by omega) (by omega)]; omega), if_neg (by omega), m_i2 es (by omega), j_b, w2, ga_in s1, up8 f1, if_neg nsf]
    by_cases y : V 8 s = v_dir side.toInt
    · rw [if_pos (by rw [j_eq, j_oI (by omega) (by omega), e3]; exact y), if_pos y]
      exact m_bes65 h t0 ht k2 f1 f2 s2 side o1 v1 e4
    · rw [if_neg (by rw [j_eq, j_oI (by omega) (by omega), e3]; exact y), if_neg y]
      exact two
end MBF
end
section
/-! THE RELATION: panes are placed -/
theorem Tabs.newg {V V' : VW} (h : Tabs V (fun _ => false)) {f : Nat} (hf : V 8 f = 3) (h8 : ∀ g, g < 23 → (V' 8 g = 2 ↔ g = f ∨ V 8 g = 2)) (h12 : V' 12 = V 12) (h13 : V' 13 = V 13) (h14 : V' 14 = V 14) (h15 : V' 15 = V 15) : Tabs V' (fun k => k == f) := by
  refine ⟨fun p hp => ?_, fun p hp q => ?_, fun p hp => by rw [h15]; exact h.hi hp, fun g hg q => ?_⟩
  · rw [h13]
    rcases h.gr hp with a | ⟨g, a, b, c⟩
    · exact Or.inl a
    · exact Or.inr ⟨g, a, b, (h8 g a).mpr (Or.inr c)⟩
  · rw [h13] at q
    rw [h14, h15]
    exact h.no hp q
  · rw [h13, h14]
    by_cases e : g = f
    · have z := Nmb.emp (N := 12) (m := fun p => decide (V 13 p = (g : Int))) (p := V 14) (fun p hp => by
        rw [decide_eq_false_iff_not]
        intro y
        have := (h.g2 hp y).2
        rw [e] at this
        omega)
      exact ⟨z.1, fun x => by simp [e] at x⟩
    · have k2 : V 8 g = 2 := ((h8 g hg).mp q).resolve_left e
      refine ⟨h.nu hg k2, fun _ => ?_⟩
      obtain ⟨a, b⟩ := h.fu hg k2 rfl
      refine ⟨a, ?_⟩
      unfold Act at b ⊢
      rw [h12, h13, h15]
      exact b
theorem inv_tab {V : VW} {d : Nat → Nat} {wn : Nat → Int} (h : Inv V d wn) {p g : Nat} (hp : p < 12) (hu : V 13 p = -1) (hg : g < 23) (hk : V 8 g = 2) : Inv (v_join V p g) d wn := by
  obtain ⟨r13, r14, r12, rj⟩ := join_rows (V := V) hp hg
  obtain ⟨h1, h2, h3, h4⟩ := h
  refine ⟨h1.cg (fun n _ => by rw [rj 8 (by decide) (by decide) (by decide)]) (fun n _ => by rw [rj 9 (by decide) (by decide) (by decide)]) (fun n _ => by rw [rj 10 (by decide) (by decide) (by decide)]) (fun n hn q => by rw [rj 11 (by decide) (by decide) (by decide)]; exact h1.we hn q) (fun n _ => by rw [rj 5 (by decide) (by decide) (by decide)]), join_tabs h2 hp hu hg hk (fun _ _ => rfl), ?_, h4.cg (rj 1 (by decide) (by decide) (by decide)) (rj 2 (by decide) (by decide) (by decide)) (rj 3 (by decide) (by decide) (by decide)) (rj 4 (by decide) (by decide) (by decide))⟩
  have e : odp (v_join V p g) = odp V := by
    unfold odp
    rw [rj 6 (by decide) (by decide) (by decide), rj 7 (by decide) (by decide) (by decide)]
  rw [e]
  exact h3.cg (fun i _ => by unfold flw; rw [rj 5 (by decide) (by decide) (by decide)])
theorem inv_bes {V : VW} {d : Nat → Nat} {wn : Nat → Int} (h : Inv V d wn) {p t f m : Nat} (hp : p < 12) (hu : V 13 p = -1) (ht : t < 23) (k2 : V 8 t = 2) (tw : Two V f m) (side : Int) : ∃ d' wn', Inv (v_join (v_bes V t side) p f) d' wn' ∧ wn' f = wn t ∧ (∀ n, n < 23 → V 8 n ≠ 3 → v_bes V t side 8 n = V 8 n ∧ wn' n = wn n) ∧ Tree (v_bes V t side) d' wn' (fun _ => false) ∧ (v_bes V t side) 8 f = 2 ∧ (v_bes V t side) 13 = V 13 ∧ (v_bes V t side) 15 = V 15 ∧ Tabs (v_bes V t side) (fun k => k == f) := by
  obtain ⟨f1, f2, f3, f4, m1, m2, m3, m4, m5⟩ := tw
  obtain ⟨h1, h2, h3, h4⟩ := h
  have key : ∃ d' wn', Tree (v_bes V t side) d' wn' (fun _ => false) ∧ Bes V (v_bes V t side) t f wn wn' := by
    unfold v_bes
    rw [ga_in ht, f4]
    by_cases r : V 9 t = -1
    · rw [if_pos r]
      obtain ⟨d', wn', T, B, _⟩ := bes2_ok h1 ht k2 f1 f2 m1 m2 m3 side m5
      exact ⟨d', wn', T, B⟩
    · rw [if_neg r]
      obtain ⟨s, s1, s2, s3, _, _⟩ := h1.pa ht r
      split
      · obtain ⟨d', wn', T, B, _⟩ := bes1_ok h1 ht k2 f1 f2 s2 side
        exact ⟨d', wn', T, B⟩
      · obtain ⟨d', wn', T, B, _⟩ := bes2_ok h1 ht k2 f1 f2 m1 m2 m3 side m5
        exact ⟨d', wn', T, B⟩
  obtain ⟨d', wn', T, b8, _, bw, bo, bg, b5, bj⟩ := key
  obtain ⟨r13, r14, r12, rj⟩ := join_rows (V := v_bes V t side) hp f1
  have r5 := rj 5 (by decide) (by decide) (by decide)
  have T2 := h2.newg f2 (V' := v_bes V t side) (fun g hg => ⟨fun q => bg g hg q, fun q => by
    rcases q with q | q
    · rw [q]; exact b8
    · rw [(bo g hg (by omega)).1]; exact q⟩) (bj 12 (by decide) (by decide) (by decide) (by decide) (by decide)) (bj 13 (by decide) (by decide) (by decide) (by decide) (by decide)) (bj 14 (by decide) (by decide) (by decide) (by decide) (by decide)) (bj 15 (by decide) (by decide) (by decide) (by decide) (by decide))
  have J := join_tabs T2 hp (by rw [bj 13 (by decide) (by decide) (by decide) (by decide) (by decide)]; exact hu) f1 b8 (X' := fun _ => false) (fun k hk => by simp [hk])
  refine ⟨d', wn', ⟨T.cg (fun n _ => by rw [rj 8 (by decide) (by decide) (by decide)]) (fun n _ => by rw [rj 9 (by decide) (by decide) (by decide)]) (fun n _ => by rw [rj 10 (by decide) (by decide) (by decide)]) (fun n hn q => by rw [rj 11 (by decide) (by decide) (by decide)]; exact T.we hn q) (fun n _ => by rw [r5]), J, ?_, ?_⟩, bw, bo, T, b8, bj 13 (by decide) (by decide) (by decide) (by decide) (by decide), bj 15 (by decide) (by decide) (by decide) (by decide) (by decide), T2⟩
  · have e : odp (v_join (v_bes V t side) p f) = odp V := by
      unfold odp
      rw [rj 6 (by decide) (by decide) (by decide), rj 7 (by decide) (by decide) (by decide), bj 6 (by decide) (by decide) (by decide) (by decide) (by decide), bj 7 (by decide) (by decide) (by decide) (by decide) (by decide)]
    rw [e]
    refine h3.cg (fun i hi => ?_)
    unfold flw
    rw [r5]
    by_cases z : V 5 i = -1
    · rw [(b5 i hi).mpr z, z]
    · have : ¬ v_bes V t side 5 i = -1 := fun y => z ((b5 i hi).mp y)
      simp [z, this]
  · refine (h4.cg (V' := v_bes V t side) (bj 1 (by decide) (by decide) (by decide) (by decide) (by decide)) (bj 2 (by decide) (by decide) (by decide) (by decide) (by decide)) (bj 3 (by decide) (by decide) (by decide) (by decide) (by decide)) (bj 4 (by decide) (by decide) (by decide) (by decide) (by decide))).cg (rj 1 (by decide) (by decide) (by decide)) (rj 2 (by decide) (by decide) (by decide)) (rj 3 (by decide) (by decide) (by decide)) (rj 4 (by decide) (by decide) (by decide))
/-- what a new root group leaves -/
def Roo (V V' : VW) (f w : Nat) : Prop := (∀ i, i < 23 → V' 8 i = if i = f then 2 else V 8 i) ∧ (∀ i, i < 5 → V' 5 i = if i = w then (f : Int) else V 5 i) ∧ (∀ j, 9 ≤ j → V' j = V j)
theorem roo_ok {V V' : VW} {d : Nat → Nat} {wn : Nat → Int} (h1 : Tree V d wn (fun _ => false)) (h2 : Tabs V (fun _ => false)) {f w : Nat} (hf : f < 23) (hk : V 8 f = 3) (hw : w < 5) (hr : V 5 w = -1) (h : Roo V V' f w) : Tree V' d (fun n => if n = f then (w : Int) else wn n) (fun _ => false) ∧ Tabs V' (fun k => k == f) := by
  obtain ⟨r8, r5, rj⟩ := h
  refine ⟨h1.root (c := 2) hf hk (by omega) hw hr r8 (fun i _ => by rw [rj 9 (by decide)]) (fun i _ _ => by rw [rj 10 (by decide)]) (fun i _ _ => by rw [rj 11 (by decide)]) r5 (fun z => absurd z (by decide)) (fun _ _ => rfl), h2.newg hk (fun g hg => ?_) (rj 12 (by decide)) (rj 13 (by decide)) (rj 14 (by decide)) (rj 15 (by decide))⟩
  rw [r8 g hg]
  by_cases z : g = f
  · rw [if_pos z]
    exact ⟨fun _ => Or.inl z, fun _ => rfl⟩
  · rw [if_neg z]
    exact ⟨Or.inr, fun y => y.resolve_left z⟩
theorem inv_root {V V' : VW} {d : Nat → Nat} {wn : Nat → Int} (h : Inv V d wn) {p f w : Nat} (hp : p < 12) (hu : V 13 p = -1) (hf : f < 23) (hk : V 8 f = 3) (hw : w < 5) (hr : V 5 w = -1) (hR : Roo V V' f w) (ho : LO (odp V') 5 (flw V')) (hg : Geo V') : Inv (v_join V' p f) d (fun n => if n = f then (w : Int) else wn n) := by
  obtain ⟨h1, h2, h3, h4⟩ := h
  obtain ⟨T, T2⟩ := roo_ok h1 h2 hf hk hw hr hR
  obtain ⟨r8, r5, r'⟩ := hR
  obtain ⟨r13, r14, r12, rj⟩ := join_rows (V := V') hp hf
  have b8 : V' 8 f = 2 := by rw [r8 f hf, if_pos rfl]
  have J := join_tabs T2 hp (by rw [r' 13 (by decide)]; exact hu) hf b8 (X' := fun _ => false) (fun k hk => by simp [hk])
  refine ⟨T.cg (fun n _ => by rw [rj 8 (by decide) (by decide) (by decide)]) (fun n _ => by rw [rj 9 (by decide) (by decide) (by decide)]) (fun n _ => by rw [rj 10 (by decide) (by decide) (by decide)]) (fun n hn q => by rw [rj 11 (by decide) (by decide) (by decide)]; exact T.we hn q) (fun n _ => by rw [rj 5 (by decide) (by decide) (by decide)]), J, ?_, hg.cg (rj 1 (by decide) (by decide) (by decide)) (rj 2 (by decide) (by decide) (by decide)) (rj 3 (by decide) (by decide) (by decide)) (rj 4 (by decide) (by decide) (by decide))⟩
  have e : odp (v_join V' p f) = odp V' := by
    unfold odp
    rw [rj 6 (by decide) (by decide) (by decide), rj 7 (by decide) (by decide) (by decide)]
  rw [e]
  exact ho.cg (fun i _ => by unfold flw; rw [rj 5 (by decide) (by decide) (by decide)])
section MRO
variable {σ : Sg} {V V' : VW} {d : Nat → Nat} {wn : Nat → Int}
/-- a root is made and the pane settles there; of the windows' row is known what it is to tell -/
theorem m_roots {U : VW} (h : VM U V (fun _ => false)) (t0 : Tree V d wn (fun _ => false)) {f w p : Nat} (hf : f < 23) (hk : V 8 f = 3) (hl : ∀ k, k < f → V 8 k ≠ 3) (hw : w < 5) (hR : Roo V V' f w) (hU : ∀ j, j < 12 ∨ j = 17 → mv (σ.1 463) j = U j) (h12 : ∀ v, v < 5 → mv (σ.1 463) 12 v = if v = 0 ∨ V' 5 v ≠ -1 then 1 else 0) (hG : ∀ v, v < 5 → v = 0 ∨ V' 5 v ≠ -1 → mv (σ.1 463) 13 v = V' 1 v ∧ mv (σ.1 463) 14 v = V' 2 v ∧ mv (σ.1 463) 15 v = V' 3 v ∧ mv (σ.1 463) 16 v = V' 4 v) (hO : OE (mo (mv (σ.1 463)) 18) (odp V')) {a b : Int32} (ha : a.toInt = p) (hp : p < 12) (hb : b.toInt = w) (hu : V 13 p = -1) (hh : V 15 p = 0) {o : OD} (ho : OE (mo (mv (σ.1 463)) 20) o) (ok : OkO o) (ol : (o_lv o p).1 < 12) : ∃ σ', fX9_roots σ 462 a b = some σ' ∧ Out σ σ' 463 463 ∧ VM (mv (σ'.1 463)) (v_join V' p f) (fun _ => false) ∧ OE (mo (mv (σ'.1 463)) 20) (o_pf o p) ∧ FS (mv (σ.1 463)) (mv (σ'.1 463)) := by
  obtain ⟨r8, r5, rj⟩ := hR
  have ef : (oI (f : Int)).toInt = f := j_oI (by omega) (by omega)
  obtain ⟨σ1, a1, o1, v1⟩ := m_newNode (σ := σ) (n0 := f) (by omega) (by rw [hU 0 (by decide)]; exact h.k3 hf hk) (fun i hi z => by
    rw [hU 0 (by decide)] at z
    exact hl i hi ((h.k0 (by omega) (t0.ki (by omega))).mp z)) 2
  have v1 : mv (σ1.1 463) = nn (mv (σ.1 463)) f 2 := v1
  obtain ⟨n0, n1, n2, n3, n4, n5, nj⟩ := nn_rows (U := mv (σ.1 463)) (n := f) (k := 2)
  obtain ⟨σ2, a2, o2, v2⟩ := m_s5 (σ := σ1) hb hw (oI (f : Int))
  rw [v1, ef] at v2
  have ww : ∀ j, 6 ≤ j → j ≠ 17 → mv (σ2.1 463) j = mv (σ.1 463) j := fun j h6 h17 => by rw [v2, mu_ne h17, nj j h6]
  have y17 : ∀ v, mv (σ2.1 463) 17 v = if v = w then (f : Int) else U 17 v := fun v => by
    rw [v2, mu_at, nj 17 (by decide), hU 17 (Or.inr rfl)]
  have lo6 : ∀ j, j < 6 → mv (σ2.1 463) j = nn (mv (σ.1 463)) f 2 j := fun j hj => by rw [v2, mu_ne (by omega)]
  have f9 := t0.fr hf hk
  have M2 : VM (mv (σ2.1 463)) V' (fun k => k == f) := by
    refine ⟨fun n hn => ?_, ?_, fun n hn q => ?_, fun n hn q => ?_, fun n hn q x => ?_, fun i hi => ?_, fun v hv => ?_, ?_, ?_, fun n hn q => by
      rw [r8 n hn] at q
      have z : n ≠ f := fun z => by rw [if_pos z] at q; omega
      rw [if_neg z] at q
      rw [lo6 5 (by decide), n5 n, if_neg z, hU 5 (by decide)]
      exact h.a5 hn q⟩
    · rw [r8 n hn, lo6 0 (by decide), lo6 2 (by decide), n0 n, n2 n, hU 0 (by decide), hU 2 (by decide)]
      by_cases z2 : n = f
      · rw [if_pos z2, if_pos z2, if_pos z2]
        exact ⟨fun y => by omega, fun _ => rfl, fun y => by omega⟩
      · rw [if_neg z2, if_neg z2, if_neg z2]
        exact h.1 n hn
    · rw [lo6 0 (by decide), n0 23, if_neg (by omega), hU 0 (by decide)]
      exact h.l
    · rw [r8 n hn] at q
      rw [lo6 1 (by decide), n1 n, hU 1 (by decide), rj 9 (by decide)]
      by_cases z : n = f
      · rw [if_pos z, z, f9]
      · rw [if_neg z]
        rw [if_neg z] at q
        exact h.pa hn q
    · rw [rj 9 (by decide)] at q
      have z : n ≠ f := fun z => by rw [z] at q; exact q f9
      rw [lo6 3 (by decide), lo6 4 (by decide), n3 n, n4 n, if_neg z, if_neg z, hU 3 (by decide), hU 4 (by decide), rj 10 (by decide), rj 11 (by decide)]
      exact ⟨h.we hn q, h.pl hn q⟩
    · have z : n ≠ f := by simpa using x
      rw [r8 n hn, if_neg z] at q
      rw [lo6 5 (by decide), n5 n, if_neg z, hU 5 (by decide), rj 12 (by decide)]
      exact h.ac hn q rfl
    · rw [ww 9 (by decide) (by decide), ww 10 (by decide) (by decide), ww 11 (by decide) (by decide), hU 9 (by decide), hU 10 (by decide), hU 11 (by decide), rj 13 (by decide), rj 14 (by decide), rj 15 (by decide)]
      exact ⟨h.gr hi, h.sp hi, h.hi hi⟩
    · rw [ww 12 (by decide) (by decide), y17 v, ww 13 (by decide) (by decide), ww 14 (by decide) (by decide), ww 15 (by decide) (by decide), ww 16 (by decide) (by decide)]
      refine ⟨h12 v hv, ?_, hG v hv⟩
      rw [r5 v hv]
      by_cases z : v = w
      · rw [if_pos z, if_pos z]
      · rw [if_neg z, if_neg z, h.ro hv]
    · rw [ww 18 (by decide) (by decide)]
      exact hO.1
    · rw [ww 19 (by decide) (by decide)]
      exact fun k hk => hO.2 k (by rw [hO.1]; exact hk)
  have m20 : mo (mv (σ2.1 463)) 20 = mo (mv (σ.1 463)) 20 := by
    unfold mo
    rw [ww 20 (by decide) (by decide), ww 21 (by decide) (by decide)]
  obtain ⟨σ3, a3, o3, M3, E3, F3⟩ := m_settles M2 ha hp ef hf (by rw [r8 f hf, if_pos rfl]) (by rw [rj 13 (by decide)]; exact hu) (by rw [rj 15 (by decide)]; exact hh) (by rw [m20]; exact ho) ok ol
  unfold fX9_roots
  rw [a1, j_b]
  dsimp only
  rw [a2, j_b, a3, j_b]
  exact ⟨σ3, rfl, (o1.tr o2).tr o3, M3.fx (fun n _ _ _ => by simp), E3, FS.tr (fun j hj => ww j (by omega) (by omega)) F3⟩
end MRO
end
section
/-! THE RELATION: the set of panes -/
theorem nb (m : Nat) : (nI m).toBitVec = BitVec.ofNat 32 m := rfl
theorem ni_and (a b : Nat) : nI a &&& nI b = nI (a &&& b) := Int32.toBitVec_inj.1 (by
  rw [Int32.toBitVec_and, nb, nb, nb, BitVec.ofNat_and])
theorem ni_or (a b : Nat) : nI a ||| nI b = nI (a ||| b) := Int32.toBitVec_inj.1 (by
  rw [Int32.toBitVec_or, nb, nb, nb, BitVec.ofNat_or])
theorem sh_amt : ∀ p, p < 32 → ((nI p &&& 31).toBitVec.smod 32) = BitVec.ofNat 32 p := by decide +kernel
theorem ni_shr {m p : Nat} (hm : m < 2147483648) (hp : p < 32) : nI m >>> (nI p &&& 31) = nI (m >>> p) := Int32.toBitVec_inj.1 (by
  rw [Int32.toBitVec_shiftRight, sh_amt p hp, nb, nb]
  have hmsb : (BitVec.ofNat 32 m).msb = false := by
    rw [BitVec.msb_eq_decide, decide_eq_false_iff_not, BitVec.toNat_ofNat]
    omega
  show (BitVec.ofNat 32 m).sshiftRight (BitVec.ofNat 32 p).toNat = _
  rw [BitVec.sshiftRight_eq_of_msb_false hmsb, BitVec.toNat_ofNat, Nat.mod_eq_of_lt (by omega)]
  refine BitVec.eq_of_toNat_eq ?_
  rw [BitVec.toNat_ushiftRight, BitVec.toNat_ofNat, BitVec.toNat_ofNat, Nat.mod_eq_of_lt (by omega), Nat.mod_eq_of_lt]
  have := Nat.shiftRight_le m p
  omega)
theorem ni_bit : ∀ p, p < 12 → (1 : Int32) <<< (nI p &&& 31) = nI (2 ^ p) := by decide +kernel
theorem ni_not : ∀ p, p < 12 → (nI (2 ^ p) ^^^ (-1)) = nI (4294967295 - 2 ^ p) := by decide +kernel
theorem and_low : ∀ p, p < 12 → ∀ j, j < 12 → Nat.testBit (4294967295 - 2 ^ p) j = decide (j ≠ p) := by decide +kernel
theorem and_low2 : ∀ p, p < 12 → ∀ j, j < 12 → Nat.testBit (4095 - 2 ^ p) j = decide (j ≠ p) := by decide +kernel
theorem tb_hi {m j : Nat} (hm : m < 4096) (hj : 12 ≤ j) : Nat.testBit m j = false := Nat.testBit_lt_two_pow (by
  have : (2 : Nat) ^ 12 ≤ 2 ^ j := Nat.pow_le_pow_right (by decide) hj
  have e : (2 : Nat) ^ 12 = 4096 := by decide
  omega)
theorem bt_one {m p : Nat} (hm : m < 4096) (hp : p < 12) : ((nI m >>> (nI p &&& 31)) &&& 1) = nI (if Nat.testBit m p then 1 else 0) := by
  rw [ni_shr (by omega) (by omega), show (1 : Int32) = nI 1 from rfl, ni_and]
  congr 1
  unfold Nat.testBit
  rw [Nat.and_comm]
  have : 1 &&& m >>> p = 0 ∨ 1 &&& m >>> p = 1 := by
    rw [Nat.one_and_eq_mod_two]
    omega
  rcases this with h | h <;> rw [h] <;> decide
theorem bt_get {m p : Nat} (hm : m < 4096) (hp : p < 12) : decide (((nI m >>> (nI p &&& 31)) &&& 1) = 1) = Nat.testBit m p := by
  rw [bt_one hm hp]
  cases Nat.testBit m p <;> decide
theorem bt_or {m p : Nat} (hp : p < 12) : (nI m ||| (1 <<< (nI p &&& 31))) = nI (m ||| 2 ^ p) := by
  rw [ni_bit p hp, ni_or]
theorem bt_and {m p : Nat} (hm : m < 4096) (hp : p < 12) : (nI m &&& ((1 <<< (nI p &&& 31)) ^^^ (-1))) = nI (m &&& (4095 - 2 ^ p)) := by
  rw [ni_bit p hp, ni_not p hp, ni_and]
  congr 1
  refine Nat.eq_of_testBit_eq (fun j => ?_)
  rw [Nat.testBit_and, Nat.testBit_and]
  by_cases hj : j < 12
  · rw [and_low p hp j hj, and_low2 p hp j hj]
  · rw [tb_hi hm (by omega)]
    rfl
theorem mk4 : ∀ a, a < 64 → ∀ b, b < 64 → fJ6_bitCount_0f7a4 (fun _ _ => 0, fun _ _ => 0) (nI (64 * a + b)) = some (nI (cnt (fun p => Nat.testBit (64 * a + b) p) 12)) := by decide +kernel
theorem bt_cnt (σ : Sg) {m : Nat} (hm : m < 4096) : fJ6_bitCount_0f7a4 σ (nI m) = some (nI (cnt (fun p => Nat.testBit m p) 12)) := by
  have := mk4 (m / 64) (by omega) (m % 64) (by omega)
  rwa [show 64 * (m / 64) + m % 64 = m by omega] at this
theorem or_lt {m p : Nat} (hm : m < 4096) (hp : p < 12) : m ||| 2 ^ p < 4096 := by
  have e : (4096 : Nat) = 2 ^ 12 := by decide
  rw [e]
  exact Nat.or_lt_two_pow (by omega) (Nat.pow_lt_pow_right (by decide) hp)
theorem and_lt {m k : Nat} (hm : m < 4096) : m &&& k < 4096 := Nat.lt_of_le_of_lt Nat.and_le_left hm
theorem or_bit {m p j : Nat} : Nat.testBit (m ||| 2 ^ p) j = (Nat.testBit m j || decide (j = p)) := by
  rw [Nat.testBit_or, Nat.testBit_two_pow]
  congr 1
  exact decide_eq_decide.mpr ⟨fun h => h.symm, fun h => h.symm⟩
theorem and_bit {m p j : Nat} (hm : m < 4096) (hp : p < 12) : Nat.testBit (m &&& (4095 - 2 ^ p)) j = (Nat.testBit m j && decide (j ≠ p)) := by
  rw [Nat.testBit_and]
  by_cases hj : j < 12
  · rw [and_low2 p hp j hj]
  · rw [tb_hi hm (by omega)]
    rfl
/-- the set of the panes that c names -/
def setn (c : Nat → Bool) : Nat → Nat
  | 0 => 0
  | n + 1 => if c n then setn c n ||| 2 ^ n else setn c n
theorem setn_bit (c : Nat → Bool) (j : Nat) : ∀ n, Nat.testBit (setn c n) j = (decide (j < n) && c j)
  | 0 => by
    show Nat.testBit 0 j = _
    rw [Nat.zero_testBit]
    rfl
  | n + 1 => by
    have h := setn_bit c j n
    unfold setn
    by_cases q : c n
    · rw [if_pos q, or_bit, h]
      by_cases e : j = n
      · subst e
        simp [q]
      · have : decide (j < n + 1) = decide (j < n) := decide_eq_decide.mpr (by omega)
        rw [this]
        simp [e]
    · rw [if_neg q, h]
      by_cases e : j = n
      · subst e
        simp [q]
      · have : decide (j < n + 1) = decide (j < n) := decide_eq_decide.mpr (by omega)
        rw [this]
theorem setn_eq {c : Nat → Bool} {m : Nat} (hm : m < 4096) (h : ∀ j, j < 12 → c j = Nat.testBit m j) : setn c 12 = m := by
  refine Nat.eq_of_testBit_eq (fun j => ?_)
  rw [setn_bit]
  by_cases hj : j < 12
  · simp [hj, h j hj]
  · rw [tb_hi hm (by omega)]
    simp [hj]
end
section
/-! THE RELATION: orders as lists -/
def ol (o : OD) : List Int := (List.range o.1.toNat).map o.2
def DI (o : OD) : Prop := OkO o ∧ ∀ j k : Nat, (j : Int) < o.1 → (k : Int) < o.1 → o.2 j = o.2 k → j = k
theorem LO.di {o : OD} {N : Nat} {m : Nat → Bool} (h : LO o N m) (hN : N ≤ 12) : DI o := ⟨h.ok hN, fun j k hj hk => h.2.2.2 j k (by have := h.1; omega) (by have := h.1; omega)⟩
theorem OE.di {o o' : OD} (h : OE o o') (d : DI o) : DI o' := ⟨by have := h.1; have := d.1; unfold OkO at *; omega, fun j k hj hk e => d.2 j k (by rw [h.1]; exact hj) (by rw [h.1]; exact hk) (by rw [h.2 j (by rw [h.1]; exact hj), h.2 k (by rw [h.1]; exact hk)]; exact e)⟩
theorem ol_OE {o o' : OD} (h : ol o = ol o') (h0 : 0 ≤ o.1) (h1 : 0 ≤ o'.1) : OE o o' := by
  have l : o.1.toNat = o'.1.toNat := by
    have := congrArg List.length h
    unfold ol at this
    simpa using this
  refine ⟨by omega, fun k hk => ?_⟩
  have := congrArg (fun l => l[k]?) h
  unfold ol at this
  simp only [List.getElem?_map] at this
  rw [List.getElem?_range (by omega), List.getElem?_range (by omega)] at this
  simpa using this
theorem OE_ol {o o' : OD} (h : OE o o') : ol o = ol o' := by
  unfold ol
  rw [h.1]
  refine List.map_congr_left (fun k hk => h.2 k ?_)
  have := List.mem_range.mp hk
  have := h.1
  omega
theorem flt_rm (f : Nat → Int) : ∀ (n k0 : Nat), k0 < n → (∀ j k, j < n → k < n → f j = f k → j = k) → ((List.range n).map f).filter (fun y => decide (y ≠ f k0)) = (List.range (n - 1)).map (fun k => if k0 ≤ k then f (k + 1) else f k)
  | 0, k0, h, _ => absurd h (by omega)
  | n + 1, k0, h, hd => by
    rw [List.range_succ, List.map_append, List.filter_append, Nat.add_sub_cancel]
    by_cases e : k0 = n
    · subst e
      have h1 : ((List.range k0).map f).filter (fun y => decide (y ≠ f k0)) = (List.range k0).map f := by
        rw [List.filter_eq_self]
        intro a ha
        obtain ⟨k, hk, rfl⟩ := List.mem_map.mp ha
        have := List.mem_range.mp hk
        rw [decide_eq_true_eq]
        intro z
        have := hd k k0 (by omega) (by omega) z
        omega
      rw [h1]
      simp only [List.map_cons, List.map_nil, List.filter_cons, List.filter_nil, ne_eq, not_true_eq_false, decide_false, Bool.false_eq_true, if_false, List.append_nil]
      refine List.map_congr_left (fun k hk => ?_)
      have := List.mem_range.mp hk
      rw [if_neg (by omega)]
    · have ih := flt_rm f n k0 (by omega) (fun j k hj hk => hd j k (by omega) (by omega))
      have ne : f n ≠ f k0 := fun z => e (hd n k0 (by omega) (by omega) z).symm
      rw [ih]
      simp only [List.map_cons, List.map_nil, List.filter_cons, List.filter_nil, ne, ne_eq, not_false_eq_true, decide_true, if_true]
      have hn : n = (n - 1) + 1 := by omega
      rw [hn, List.range_succ, List.map_append]
      simp only [List.map_cons, List.map_nil, Nat.add_sub_cancel]
      rw [if_pos (by omega)]
theorem ol_mem {o : OD} {x : Int} : x ∈ ol o ↔ ∃ k : Nat, k < o.1.toNat ∧ o.2 k = x := by
  unfold ol
  rw [List.mem_map]
  constructor
  · rintro ⟨k, hk, e⟩
    exact ⟨k, List.mem_range.mp hk, e⟩
  · rintro ⟨k, hk, e⟩
    exact ⟨k, List.mem_range.mpr hk, e⟩
theorem ol_ix {o : OD} {x : Int} : o_ix o x = -1 ↔ ¬ x ∈ ol o := by
  rw [ol_mem]
  unfold o_ix
  rcases fnd_spec (fun k => decide (o.2 k = x)) o.1.toNat with ⟨h1, h2⟩ | ⟨i, h1, h2, h3, _⟩
  · rw [h1]
    refine ⟨fun _ => ?_, fun _ => rfl⟩
    rintro ⟨k, hk, e⟩
    have := h2 k hk
    simp [e] at this
  · rw [h2]
    constructor
    · intro z
      omega
    · intro z
      rw [decide_eq_true_eq] at h3
      exact absurd ⟨i, h1, h3⟩ z
theorem ol_lv {o : OD} (h : DI o) (x : Int) : ol (o_lv o x) = (ol o).filter (fun y => decide (y ≠ x)) ∧ DI (o_lv o x) := by
  obtain ⟨ok, di⟩ := h
  have ok' := o_lv_ok ok x
  by_cases e : o_ix o x = -1
  · have e1 : o_lv o x = o := by unfold o_lv; rw [if_pos e]
    rw [e1]
    refine ⟨?_, ok, di⟩
    symm
    rw [List.filter_eq_self]
    intro a ha
    rw [decide_eq_true_eq]
    intro z
    rw [z] at ha
    exact ol_ix.mp e ha
  · have hr := o_ix_rg (o := o) x
    obtain ⟨k0, hk0⟩ : ∃ k0 : Nat, o_ix o x = k0 := ⟨(o_ix o x).toNat, by omega⟩
    have ex : o.2 k0 = x := by
      unfold o_ix at hk0
      rcases fnd_spec (fun k => decide (o.2 k = x)) o.1.toNat with ⟨h1, _⟩ | ⟨i, h1, h2, h3, _⟩
      · omega
      · have : i = k0 := by omega
        subst this
        simpa using h3
    have e1 : o_lv o x = (o.1 - 1, fun k : Nat => if (k0 : Int) ≤ k ∧ (k : Int) < o.1 - 1 then o.2 (k + 1) else o.2 k) := by
      unfold o_lv
      rw [if_neg e, hk0]
    refine ⟨?_, ok'.1, fun j k hj hk q => ?_⟩
    · rw [e1, ← ex]
      unfold ol
      rw [flt_rm o.2 o.1.toNat k0 (by omega) (fun j k hj hk => di j k (by omega) (by omega)), show (o.1 - 1).toNat = o.1.toNat - 1 by omega]
      refine List.map_congr_left (fun k hk => ?_)
      have := List.mem_range.mp hk
      dsimp only
      by_cases q : k0 ≤ k
      · rw [if_pos (by omega), if_pos q]
      · rw [if_neg (by omega), if_neg q]
    · rw [e1] at hj hk q
      have hj : (j : Int) < o.1 - 1 := hj
      have hk : (k : Int) < o.1 - 1 := hk
      have q : (if (k0 : Int) ≤ j ∧ (j : Int) < o.1 - 1 then o.2 (j + 1) else o.2 j) = (if (k0 : Int) ≤ k ∧ (k : Int) < o.1 - 1 then o.2 (k + 1) else o.2 k) := q
      by_cases a : k0 ≤ j
      · rw [if_pos (by omega)] at q
        by_cases b : k0 ≤ k
        · rw [if_pos (by omega)] at q
          have := di (j + 1) (k + 1) (by omega) (by omega) q
          omega
        · rw [if_neg (by omega)] at q
          have := di (j + 1) k (by omega) (by omega) q
          omega
      · rw [if_neg (by omega)] at q
        by_cases b : k0 ≤ k
        · rw [if_pos (by omega)] at q
          have := di j (k + 1) (by omega) (by omega) q
          omega
        · rw [if_neg (by omega)] at q
          exact di j k (by omega) (by omega) q
theorem ol_pl {o : OD} (h : DI o) (x : Int) (h12 : (o_lv o x).1 < 12) : ol (o_pl o x) = (ol o).filter (fun y => decide (y ≠ x)) ++ [x] ∧ DI (o_pl o x) := by
  obtain ⟨l1, l2⟩ := ol_lv h x
  have ok := l2.1
  unfold OkO at ok
  have e1 : o_pl o x = ((o_lv o x).1 + 1, fun k : Nat => if (k : Int) = (o_lv o x).1 then x else (o_lv o x).2 k) := by
    unfold o_pl
    rw [if_neg (by omega)]
  have nx : ∀ k : Nat, (k : Int) < (o_lv o x).1 → (o_lv o x).2 k ≠ x := fun k hk z => by
    have : x ∈ ol (o_lv o x) := ol_mem.mpr ⟨k, by omega, z⟩
    rw [l1] at this
    have := (List.mem_filter.mp this).2
    simp at this
  refine ⟨?_, o_pl_ok h.1 x, fun j k hj hk q => ?_⟩
  · rw [← l1, e1]
    unfold ol
    rw [show ((o_lv o x).1 + 1).toNat = (o_lv o x).1.toNat + 1 by omega, List.range_succ, List.map_append]
    congr 1
    · refine List.map_congr_left (fun k hk => ?_)
      have := List.mem_range.mp hk
      dsimp only
      rw [if_neg (by omega)]
    · simp only [List.map_cons, List.map_nil]
      rw [if_pos (by omega)]
  · rw [e1] at hj hk q
    have hj : (j : Int) < (o_lv o x).1 + 1 := hj
    have hk : (k : Int) < (o_lv o x).1 + 1 := hk
    have q : (if (j : Int) = (o_lv o x).1 then x else (o_lv o x).2 j) = (if (k : Int) = (o_lv o x).1 then x else (o_lv o x).2 k) := q
    by_cases a : (j : Int) = (o_lv o x).1
    · by_cases b : (k : Int) = (o_lv o x).1
      · omega
      · rw [if_pos a, if_neg b] at q
        exact absurd q.symm (nx k (by omega))
    · by_cases b : (k : Int) = (o_lv o x).1
      · rw [if_neg a, if_pos b] at q
        exact absurd q (nx j (by omega))
      · rw [if_neg a, if_neg b] at q
        exact l2.2 j k (by omega) (by omega) q
/-- panes that are not placed leave, others come behind: as the class does it, pane by pane -/
def fc (c : Nat → Bool) (o : OD) : Nat → OD
  | 0 => o
  | n + 1 => if c n then (if o_ix (fc c o n) n = -1 then o_pl (fc c o n) n else fc c o n) else o_lv (fc c o n) n
/-- all leave first -/
def fl1 (c : Nat → Bool) (o : OD) : Nat → OD
  | 0 => o
  | n + 1 => if c n then fl1 c o n else o_lv (fl1 c o n) n
/-- then the others come -/
def fl2 (c : Nat → Bool) (o : OD) : Nat → OD
  | 0 => o
  | n + 1 => if c n && decide (o_ix (fl2 c o n) n = -1) then o_pl (fl2 c o n) n else fl2 c o n
/-- the orders are of panes -/
def Pn (o : OD) : Prop := ∀ x ∈ ol o, 0 ≤ x ∧ x < 12
theorem Pn.le {o : OD} (h : DI o) (hp : Pn o) {x : Nat} (hx : x < 12) (hn : o_ix o x = -1) : (o_lv o x).1 < 12 := by
  have e : o_lv o x = o := by unfold o_lv; rw [if_pos hn]
  rw [e]
  have ok := h.1
  unfold OkO at ok
  refine Classical.byContradiction (fun no => ?_)
  -- twelve different panes, none of them x: with x they were thirteen
  obtain ⟨i, k, h1, h2, h3⟩ := pigeon 12 (fun i => if i < 12 then (o.2 i).toNat else x) (fun i hi => by
    show (if i < 12 then (o.2 i).toNat else x) < 12
    split
    · have := hp (o.2 i) (ol_mem.mpr ⟨i, by omega, rfl⟩)
      omega
    · exact hx)
  have hi : i < 12 := by omega
  have bi := hp (o.2 i) (ol_mem.mpr ⟨i, by omega, rfl⟩)
  have h3 : (if i < 12 then (o.2 i).toNat else x) = (if k < 12 then (o.2 k).toNat else x) := h3
  rw [if_pos hi] at h3
  by_cases q : k < 12
  · rw [if_pos q] at h3
    have bk := hp (o.2 k) (ol_mem.mpr ⟨k, by omega, rfl⟩)
    have := h.2 i k (by omega) (by omega) (by omega)
    omega
  · rw [if_neg q] at h3
    exact ol_ix.mp hn (ol_mem.mpr ⟨i, by omega, by omega⟩)
theorem Pn.ol {o o' : OD} (h : ∀ x ∈ ol o', x ∈ ol o ∨ (0 ≤ x ∧ x < 12)) (hp : Pn o) : Pn o' := fun x hx => (h x hx).elim (fun q => hp x q) (fun q => q)
theorem fc_list {c : Nat → Bool} {o : OD} (h : DI o) (hp : Pn o) : ∀ n, n ≤ 12 → ol (fc c o n) = (ol o).filter (fun y => decide ((n : Int) ≤ y) || c y.toNat) ++ ((List.range n).filter (fun k => c k && decide (o_ix o k = -1))).map (fun k : Nat => (k : Int)) ∧ DI (fc c o n) ∧ Pn (fc c o n)
  | 0, _ => by
    refine ⟨?_, h, hp⟩
    show ol o = _
    rw [List.filter_eq_self.mpr (fun y hy => by have := hp y hy; simp; omega)]
    simp
  | n + 1, hn => by
    obtain ⟨ih, di, pn⟩ := fc_list h hp n (by omega)
    unfold fc
    have memn : ∀ y : Int, y ∈ ((List.range n).filter (fun k => c k && decide (o_ix o k = -1))).map (fun k : Nat => (k : Int)) → y ≠ n := fun y hy z => by
      obtain ⟨k, hk, e⟩ := List.mem_map.mp hy
      have := List.mem_range.mp (List.mem_filter.mp hk).1
      omega
    have fsame : ((List.range n).filter (fun k => c k && decide (o_ix o k = -1))).map (fun k : Nat => (k : Int)) = (((List.range n).filter (fun k => c k && decide (o_ix o k = -1))).map (fun k : Nat => (k : Int))).filter (fun y => decide (y ≠ (n : Int))) := by
      symm
      rw [List.filter_eq_self]
      intro a ha
      rw [decide_eq_true_eq]
      exact memn a ha
    by_cases cn : c n = true
    · have f1 : (ol o).filter (fun y => decide ((n : Int) ≤ y) || c y.toNat) = (ol o).filter (fun y => decide (((n + 1 : Nat) : Int) ≤ y) || c y.toNat) := by
        refine List.filter_congr (fun y hy => ?_)
        have := hp y hy
        by_cases z : y = n
        · rw [z, Int.toNat_natCast, cn]
          simp
        · have : decide ((n : Int) ≤ y) = decide (((n + 1 : Nat) : Int) ≤ y) := decide_eq_decide.mpr (by omega)
          rw [this]
      have ixn : o_ix (fc c o n) n = -1 ↔ o_ix o n = -1 := by
        rw [ol_ix, ol_ix, ih]
        refine not_congr ?_
        rw [List.mem_append, List.mem_filter]
        constructor
        · rintro (q | q)
          · exact q.1
          · exact absurd rfl (memn _ q)
        · intro q
          exact Or.inl ⟨q, by simp⟩
      rw [if_pos cn]
      by_cases q : o_ix o n = -1
      · rw [if_pos (ixn.mpr q)]
        obtain ⟨p1, p2⟩ := ol_pl di (n : Int) (pn.le di (by omega) (ixn.mpr q))
        have e0 : (ol (fc c o n)).filter (fun y => decide (y ≠ (n : Int))) = ol (fc c o n) := by
          rw [List.filter_eq_self]
          intro a ha
          rw [decide_eq_true_eq]
          intro z
          rw [z] at ha
          exact ol_ix.mp (ixn.mpr q) ha
        rw [e0, ih] at p1
        refine ⟨?_, p2, fun x hx => ?_⟩
        · rw [p1, f1, List.range_succ, List.filter_append, List.map_append]
          simp [cn, q]
        · rw [p1, ← ih, List.mem_append] at hx
          rcases hx with hx | hx
          · exact pn x hx
          · rw [List.mem_singleton] at hx
            omega
      · rw [if_neg (fun z => q (ixn.mp z))]
        refine ⟨?_, di, pn⟩
        rw [ih, f1, List.range_succ, List.filter_append, List.map_append]
        simp [q]
    · have cn' : c n = false := by simpa using cn
      rw [if_neg cn]
      obtain ⟨p1, p2⟩ := ol_lv di (n : Int)
      refine ⟨?_, p2, fun x hx => ?_⟩
      · rw [p1, ih, List.filter_append, ← fsame, List.filter_filter, List.range_succ, List.filter_append, List.map_append]
        simp only [List.filter_cons, List.filter_nil, cn', Bool.false_and, Bool.false_eq_true, if_false, List.map_nil, List.append_nil]
        congr 1
        refine List.filter_congr (fun y hy => ?_)
        have := hp y hy
        by_cases z : y = n
        · rw [z, Int.toNat_natCast, cn']
          simp
          omega
        · have : decide ((n : Int) ≤ y) = decide (((n + 1 : Nat) : Int) ≤ y) := decide_eq_decide.mpr (by omega)
          rw [this]
          simp [z]
      · rw [p1] at hx
        exact pn x (List.mem_filter.mp hx).1
theorem fl1_list {c : Nat → Bool} {o : OD} (h : DI o) (hp : Pn o) : ∀ n, n ≤ 12 → ol (fl1 c o n) = (ol o).filter (fun y => decide ((n : Int) ≤ y) || c y.toNat) ∧ DI (fl1 c o n) ∧ Pn (fl1 c o n)
  | 0, _ => by
    refine ⟨?_, h, hp⟩
    show ol o = _
    rw [List.filter_eq_self.mpr (fun y hy => by have := hp y hy; simp; omega)]
  | n + 1, hn => by
    obtain ⟨ih, di, pn⟩ := fl1_list h hp n (by omega)
    unfold fl1
    by_cases cn : c n = true
    · rw [if_pos cn]
      refine ⟨?_, di, pn⟩
      rw [ih]
      refine List.filter_congr (fun y hy => ?_)
      have := hp y hy
      by_cases z : y = n
      · rw [z, Int.toNat_natCast, cn]
        simp
      · have : decide ((n : Int) ≤ y) = decide (((n + 1 : Nat) : Int) ≤ y) := decide_eq_decide.mpr (by omega)
        rw [this]
    · have cn' : c n = false := by simpa using cn
      rw [if_neg cn]
      obtain ⟨p1, p2⟩ := ol_lv di (n : Int)
      refine ⟨?_, p2, fun x hx => ?_⟩
      · rw [p1, ih, List.filter_filter]
        refine List.filter_congr (fun y hy => ?_)
        have := hp y hy
        by_cases z : y = n
        · rw [z, Int.toNat_natCast, cn']
          simp
          omega
        · have : decide ((n : Int) ≤ y) = decide (((n + 1 : Nat) : Int) ≤ y) := decide_eq_decide.mpr (by omega)
          rw [this]
          simp [z]
      · rw [p1] at hx
        exact pn x (List.mem_filter.mp hx).1
theorem fl2_list {c : Nat → Bool} {o : OD} (h : DI o) (hp : Pn o) : ∀ n, n ≤ 12 → ol (fl2 c o n) = ol o ++ ((List.range n).filter (fun k => c k && decide (o_ix o k = -1))).map (fun k : Nat => (k : Int)) ∧ DI (fl2 c o n) ∧ Pn (fl2 c o n)
  | 0, _ => ⟨by show ol o = _; simp, h, hp⟩
  | n + 1, hn => by
    obtain ⟨ih, di, pn⟩ := fl2_list h hp n (by omega)
    unfold fl2
    have ixn : o_ix (fl2 c o n) n = -1 ↔ o_ix o n = -1 := by
      rw [ol_ix, ol_ix, ih]
      refine not_congr ?_
      rw [List.mem_append]
      constructor
      · rintro (q | q)
        · exact q
        · obtain ⟨k, hk, e⟩ := List.mem_map.mp q
          have := List.mem_range.mp (List.mem_filter.mp hk).1
          omega
      · exact Or.inl
    by_cases q : c n = true ∧ o_ix o n = -1
    · rw [if_pos (by simp [q.1, ixn.mpr q.2])]
      obtain ⟨p1, p2⟩ := ol_pl di (n : Int) (pn.le di (by omega) (ixn.mpr q.2))
      have e0 : (ol (fl2 c o n)).filter (fun y => decide (y ≠ (n : Int))) = ol (fl2 c o n) := by
        rw [List.filter_eq_self]
        intro a ha
        rw [decide_eq_true_eq]
        intro z
        rw [z] at ha
        exact ol_ix.mp (ixn.mpr q.2) ha
      rw [e0] at p1
      refine ⟨?_, p2, fun x hx => ?_⟩
      · rw [p1, ih, List.range_succ, List.filter_append, List.map_append]
        simp [q.1, q.2]
      · rw [p1, List.mem_append] at hx
        rcases hx with hx | hx
        · exact pn x hx
        · rw [List.mem_singleton] at hx
          omega
    · rw [if_neg (fun z => by
        simp only [Bool.and_eq_true, decide_eq_true_eq] at z
        exact q ⟨z.1, ixn.mp z.2⟩)]
      refine ⟨?_, di, pn⟩
      rw [ih, List.range_succ, List.filter_append, List.map_append]
      have : (c n && decide (o_ix o n = -1)) = false := by
        rw [Bool.eq_false_iff]
        intro z
        simp only [Bool.and_eq_true, decide_eq_true_eq] at z
        exact q z
      simp [this]
/-- both ways come to the same order -/
theorem settle_same {c : Nat → Bool} {o : OD} (h : DI o) (hp : Pn o) : OE (fc c o 12) (fl2 c (fl1 c o 12) 12) := by
  obtain ⟨a1, a2, a3⟩ := fc_list (c := c) h hp 12 (Nat.le_refl _)
  obtain ⟨b1, b2, b3⟩ := fl1_list (c := c) h hp 12 (Nat.le_refl _)
  obtain ⟨c1, c2, c3⟩ := fl2_list (c := c) b2 b3 12 (Nat.le_refl _)
  have k1 := a2.1
  have k2 := c2.1
  unfold OkO at k1 k2
  refine ol_OE ?_ k1.1 k2.1
  rw [a1, c1, b1]
  congr 1
  congr 1
  refine List.filter_congr (fun k hk => ?_)
  have hk := List.mem_range.mp hk
  by_cases q : c k = true
  · have : (o_ix o k = -1) ↔ (o_ix (fl1 c o 12) k = -1) := by
      rw [ol_ix, ol_ix, b1]
      refine not_congr ?_
      rw [List.mem_filter]
      constructor
      · intro z
        exact ⟨z, by simp [q]⟩
      · exact fun z => z.1
    rw [decide_eq_decide.mpr this]
  · have : c k = false := by simpa using q
    simp [this]
end
section
/-! THE RELATION: states of the class, what they do -/
def exB (S : ST) (p : Nat) : Bool := Nat.testBit (S_ex S).toNat p
def svB (S : ST) (s : Nat) : Bool := Nat.testBit (S_sv S).toNat s
def plc (V : VW) (p : Nat) : Bool := decide (V 13 p ≠ -1)
theorem stv_pl {σ σ' : Sg} {b : Nat} (h : Out σ σ' (b + 5 + 1) (b + 5 + 15)) : stv σ' b = ((stv σ b).1, (stv σ b).2.1, (stv σ b).2.2.1, (stv σ b).2.2.2.1, pv σ' (b + 5), (stv σ b).2.2.2.2.2) := by
  unfold stv
  rw [h.2 b (by omega), h.2 (b + 1) (by omega), h.2 (b + 2) (by omega), odv_out h (by omega), slv_eq (fun s hs => pv_out h (by unfold slo; omega))]
theorem stv_fo {σ σ' : Sg} {b : Nat} (h : Out σ σ' (b + 3) (b + 3 + 1)) : stv σ' b = ((stv σ b).1, (stv σ b).2.1, (stv σ b).2.2.1, odv σ' (b + 3), (stv σ b).2.2.2.2) := by
  unfold stv
  rw [h.2 b (by omega), h.2 (b + 1) (by omega), h.2 (b + 2) (by omega), pv_out h (by omega), slv_eq (fun s hs => pv_out h (by unfold slo; omega))]
theorem stv_b {σ σ' : Sg} {b : Nat} (h : Out σ σ' b b) : stv σ' b = (((σ'.1 b 0).toInt, (σ'.1 b 6).toInt), (stv σ b).2) := by
  unfold stv
  rw [h.2 (b + 1) (by omega), h.2 (b + 2) (by omega), odv_out h (by omega), pv_out h (by omega), slv_eq (fun s hs => pv_out h (by unfold slo; omega))]
theorem stv_mn {σ σ' : Sg} {b : Nat} (h : Out σ σ' (b + 1) (b + 2)) : stv σ' b = ((stv σ b).1, rw12 (σ'.1 (b + 1)), rw12 (σ'.1 (b + 2)), (stv σ b).2.2.2) := by
  unfold stv
  rw [h.2 b (by omega), odv_out h (by omega), pv_out h (by omega), slv_eq (fun s hs => pv_out h (by unfold slo; omega))]
section CS
variable {σ : Sg} {b : Nat}
theorem ex_get (h : 0 ≤ S_ex (stv σ b) ∧ S_ex (stv σ b) < 4096) : σ.1 b 0 = nI (S_ex (stv σ b)).toNat := j_eq.mpr (by
  rw [j_nI (by omega)]
  show (σ.1 b 0).toInt = (((σ.1 b 0).toInt).toNat : Int)
  have h0 : 0 ≤ (σ.1 b 0).toInt := h.1
  omega)
theorem sv_get (h : 0 ≤ S_sv (stv σ b) ∧ S_sv (stv σ b) < 8) : σ.1 b 6 = nI (S_sv (stv σ b)).toNat := j_eq.mpr (by
  rw [j_nI (by omega)]
  show (σ.1 b 6).toInt = (((σ.1 b 6).toInt).toNat : Int)
  have h0 : 0 ≤ (σ.1 b 6).toInt := h.1
  omega)
theorem s_exists (h : 0 ≤ S_ex (stv σ b) ∧ S_ex (stv σ b) < 4096) (p : Int32) : fX4_exists σ b p = some (decide (0 ≤ p.toInt ∧ p.toInt < 12) && exB (stv σ b) p.toInt.toNat) := by
  have e12 : (12 : Int32).toInt = 12 := rfl
  unfold fX4_exists
  by_cases q0 : p < 0
  · rw [if_pos q0, decide_eq_false (fun z => by rw [j_lt, jz0] at q0; omega)]
    rfl
  · rw [if_neg q0]
    by_cases q1 : 12 ≤ p
    · rw [if_pos q1, decide_eq_false (fun z => by rw [j_le, e12] at q1; omega)]
      rfl
    · rw [if_neg q1]
      rw [j_lt, jz0] at q0
      rw [j_le, e12] at q1
      have ep : p = nI p.toInt.toNat := j_of (by omega)
      have g := bt_get (m := (S_ex (stv σ b)).toNat) (p := p.toInt.toNat) (by omega) (by omega)
      rw [← ep, ← ex_get h] at g
      rw [decide_eq_true (p := 0 ≤ p.toInt ∧ p.toInt < 12) (by omega), Bool.true_and]
      unfold exB
      rw [← g]
      split
      · rename_i z
        rw [decide_eq_true z]
      · rename_i z
        rw [decide_eq_false z]
theorem s_lowestFreePane (h : 0 ≤ S_ex (stv σ b) ∧ S_ex (stv σ b) < 4096) : fX4_lowestFreePane σ b = some (oI (fnd (fun p => !exB (stv σ b) p) 12)) := by
  unfold fX4_lowestFreePane
  refine lp_fnd (F := fun n l => fX4_lowestFreePane_2 σ b n l) 12 (by decide) ?_ ?_ FU (by decide)
  · intro n i hi
    show fX4_lowestFreePane_2 σ b (n + 1) (nI i) = _
    rw [fX4_lowestFreePane_2, if_neg (n_ge 12 (m := 12) rfl hi (by decide)), s_exists h, j_b, j_nI (by omega), decide_eq_true (by omega), Bool.true_and, Int.toNat_natCast]
    cases exB (stv σ b) i
    · rw [if_neg (by decide)]
      rfl
    · rw [if_pos rfl, j_s]
      rfl
  · intro n
    show fX4_lowestFreePane_2 σ b (n + 1) (nI 12) = _
    rw [fX4_lowestFreePane_2, if_pos (n_le 12 (m := 12) rfl (by decide))]
theorem s_addPane (h : 0 ≤ S_ex (stv σ b) ∧ S_ex (stv σ b) < 4096) {p : Int32} {k : Nat} (hp : p.toInt = k) (hk : k < 12) : ∃ σ', fX4_addPane σ b p = some σ' ∧ Out σ σ' b b ∧ stv σ' b = (((((S_ex (stv σ b)).toNat ||| 2 ^ k : Nat) : Int), S_sv (stv σ b)), (stv σ b).2) := by
  have ep : p = nI k := j_eq.mpr (by rw [hp, j_nI (by omega)])
  have hl := or_lt (m := (S_ex (stv σ b)).toNat) (p := k) (by omega) hk
  unfold fX4_addPane
  rw [j_nm, ep, ex_get h, bt_or hk]
  refine ⟨_, rfl, su_out, ?_⟩
  rw [stv_b su_out, su_at, if_pos ⟨rfl, rfl⟩, su_at, if_neg (by omega), j_nI (by omega)]
  rfl
theorem s_dropPane (h : 0 ≤ S_ex (stv σ b) ∧ S_ex (stv σ b) < 4096) {p : Int32} {k : Nat} (hp : p.toInt = k) (hk : k < 12) : ∃ σ', fX4_dropPane σ b p = some σ' ∧ Out σ σ' b b ∧ stv σ' b = (((((S_ex (stv σ b)).toNat &&& (4095 - 2 ^ k) : Nat) : Int), S_sv (stv σ b)), (stv σ b).2) := by
  have ep : p = nI k := j_eq.mpr (by rw [hp, j_nI (by omega)])
  have hl := and_lt (m := (S_ex (stv σ b)).toNat) (k := 4095 - 2 ^ k) (by omega)
  unfold fX4_dropPane
  rw [j_nm, ep, ex_get h, bt_and (by omega) hk]
  refine ⟨_, rfl, su_out, ?_⟩
  rw [stv_b su_out, su_at, if_pos ⟨rfl, rfl⟩, su_at, if_neg (by omega), j_nI (by omega)]
  rfl
def ur (f : Nat → Int) (p : Nat) (x : Int) : Nat → Int := fun i => if i = p then x else f i
theorem s_setMinimums {p : Int32} {k : Nat} (hp : p.toInt = k) (hk : k < 12) (w h : Int32) : ∃ σ', fX4_setMinimums σ b p w h = some σ' ∧ Out σ σ' (b + 1) (b + 2) ∧ stv σ' b = ((stv σ b).1, ur (S_mw (stv σ b)) k w.toInt, ur (S_mh (stv σ b)) k h.toInt, (stv σ b).2.2.2) := by
  have ep : p = nI k := j_eq.mpr (by rw [hp, j_nI (by omega)])
  unfold fX4_setMinimums
  rw [ep, s_putn (by decide) hk, j_b, s_putn (by decide) hk, j_b]
  refine ⟨_, rfl, (su_out.mo (by omega) (by omega)).tr (su_out.mo (by omega) (by omega)), ?_⟩
  rw [stv_mn ((su_out.mo (by omega) (by omega)).tr (su_out.mo (by omega) (by omega)))]
  have r1 : ∀ (f : Nat → Int32) (g : Nat → Int32) (v : Int32), (∀ i, g i = if i = k then v else f i) → rw12 g = ur (rw12 f) k v.toInt := by
    intro f g v hg
    funext i
    unfold rw12 ur
    rw [hg i]
    by_cases z : i = k
    · rw [if_pos z, if_pos (by omega), if_pos z]
    · rw [if_neg z, if_neg z]
  rw [r1 (σ.1 (b + 1)) ((su (su σ (b + 1) k w) (b + 2) k h).1 (b + 1)) w (fun i => by
    rw [su_ne (by omega), su_at]
    by_cases z : i = k
    · rw [if_pos ⟨rfl, z⟩, if_pos z]
    · rw [if_neg (fun y => z y.2), if_neg z]), r1 (σ.1 (b + 2)) ((su (su σ (b + 1) k w) (b + 2) k h).1 (b + 2)) h (fun i => by
    rw [su_at]
    by_cases z : i = k
    · rw [if_pos ⟨rfl, z⟩, if_pos z]
    · rw [if_neg (fun y => z y.2), if_neg z, su_ne (by omega)])]
  rfl
theorem s_isSaved (h : 0 ≤ S_sv (stv σ b) ∧ S_sv (stv σ b) < 8) {p : Int32} {k : Nat} (hp : p.toInt = k) (hk : k < 3) : fX4_isSaved σ b p = some (svB (stv σ b) k) := by
  have ep : p = nI k := j_eq.mpr (by rw [hp, j_nI (by omega)])
  unfold fX4_isSaved svB
  rw [ep, sv_get h]
  have g := bt_get (m := (S_sv (stv σ b)).toNat) (p := k) (by omega) (by omega)
  rw [← g]
  split
  · rename_i z
    rw [decide_eq_true z]
  · rename_i z
    rw [decide_eq_false z]
def us (f : Nat → VW) (s : Nat) (V : VW) : Nat → VW := fun i => if i = s then V else f i
theorem s_saveSlot (h : 0 ≤ S_sv (stv σ b) ∧ S_sv (stv σ b) < 8) {p : Int32} {k : Nat} (hp : p.toInt = k) (hk : k < 3) : ∃ σ', fX4_saveSlot σ b p = some σ' ∧ Out σ σ' b (b + 69) ∧ stv σ' b = ((S_ex (stv σ b), (((S_sv (stv σ b)).toNat ||| 2 ^ k : Nat) : Int)), (stv σ b).2.1, (stv σ b).2.2.1, (stv σ b).2.2.2.1, (stv σ b).2.2.2.2.1, us (S_sl (stv σ b)) k (S_pl (stv σ b))) := by
  have ep : p = nI k := j_eq.mpr (by rw [hp, j_nI (by omega)])
  have e3 : ([b + 22, b + 38, b + 54] : List Nat).length = 3 := rfl
  have hg := sv_get h
  obtain ⟨m, hm⟩ : ∃ m : Nat, (S_sv (stv σ b)).toNat = m := ⟨_, rfl⟩
  rw [hm] at hg ⊢
  have hl : m ||| 2 ^ k < 4096 := or_lt (by omega) (by omega)
  unfold fX4_saveSlot
  rw [ep, if_neg (by rw [j_lt, j_nI (by omega), jz0]; omega), e3, if_neg (n_ge (nI 3) (m := 3) rfl hk (by decide)), if_pos (j_ckn hk (by decide)), rgs b hk]
  obtain ⟨σ1, a1, o1, v1⟩ := s_plcopy (σ := σ) (b := b + slo k) (c := b + 5) (by unfold slo; omega)
  have c6 : σ1.1 b 6 = nI m := by rw [o1.2 b (by unfold slo; omega)]; exact hg
  rw [a1, j_b, j_nm, c6, bt_or (by omega)]
  have O : Out σ (su σ1 b 6 (nI (m ||| 2 ^ k))) b (b + 69) := (o1.mo (by unfold slo; omega) (by unfold slo; omega)).tr (su_out.mo (by omega) (by omega))
  refine ⟨_, rfl, O, ?_⟩
  unfold stv
  have f1 : ∀ c, b < c → c ≤ b + 22 → (su σ1 b 6 (nI (m ||| 2 ^ k))).1 c = σ.1 c := fun c h1 h2 => by
    rw [su_ne (by omega), o1.2 c (by unfold slo; omega)]
  refine Prod.ext (Prod.ext ?_ ?_) (Prod.ext ?_ (Prod.ext ?_ (Prod.ext ?_ (Prod.ext ?_ ?_))))
  · show ((su σ1 b 6 (nI (m ||| 2 ^ k))).1 b 0).toInt = (σ.1 b 0).toInt
    rw [su_at, if_neg (by omega), o1.2 b (by unfold slo; omega)]
  · show ((su σ1 b 6 (nI (m ||| 2 ^ k))).1 b 6).toInt = _
    rw [su_at, if_pos ⟨rfl, rfl⟩, j_nI (by omega)]
  · show rw12 _ = rw12 _
    rw [f1 (b + 1) (by omega) (by omega)]
  · show rw12 _ = rw12 _
    rw [f1 (b + 2) (by omega) (by omega)]
  · show odv _ _ = odv _ _
    unfold odv
    rw [f1 (b + 3) (by omega) (by omega), f1 (b + 3 + 1) (by omega) (by omega)]
  · show pv _ _ = pv _ _
    rw [pv_out su_out (by omega), pv_out o1 (by unfold slo; omega)]
  · show slv _ b = us (slv σ b) k (pv σ (b + 5))
    funext s
    unfold us slv
    by_cases q : s < 3
    · rw [if_pos q, if_pos q, pv_out su_out (by unfold slo; omega)]
      by_cases z : s = k
      · rw [if_pos z, z, v1]
      · rw [if_neg z, pv_out o1 (by unfold slo; omega)]
    · rw [if_neg q, if_neg q, if_neg (by omega)]
theorem s_settleFocus (h : DI (odv σ (b + 3))) (hp : Pn (odv σ (b + 3))) : ∃ σ', fX4_settleFocus σ b = some σ' ∧ Out σ σ' (b + 3) (b + 3 + 1) ∧ odv σ' (b + 3) = fc (plc (pv σ (b + 5))) (odv σ (b + 3)) 12 := by
  unfold fX4_settleFocus
  refine lp (F := fun n (s : Sg × Int32) => fX4_settleFocus_2 b n s.1 s.2) (Q := fun r => ∃ σ', r = some σ' ∧ Out σ σ' (b + 3) (b + 3 + 1) ∧ odv σ' (b + 3) = fc (plc (pv σ (b + 5))) (odv σ (b + 3)) 12) (fun i s => s.2 = nI i ∧ Out σ s.1 (b + 3) (b + 3 + 1) ∧ odv s.1 (b + 3) = fc (plc (pv σ (b + 5))) (odv σ (b + 3)) i) 12 ?_ ?_ 12 0 FU (σ, 0) rfl (by decide) ⟨rfl, Out.rf, rfl⟩
  · rintro n i ⟨s, l⟩ hi ⟨rfl, ho, hv⟩
    simp only at ho hv
    obtain ⟨x1, x2, x3⟩ := fc_list (c := plc (pv σ (b + 5))) h hp i (by omega)
    rw [← hv] at x2 x3
    have ok := x2.1
    have pe : pv s (b + 5) = pv σ (b + 5) := pv_out ho (by omega)
    have ei : (nI i).toInt = i := j_nI (by omega)
    show ∃ s' : Sg × Int32, _ ∧ fX4_settleFocus_2 b (n + 1) s (nI i) = _
    rw [fX4_settleFocus_2, if_neg (n_ge 12 (m := 12) rfl hi (by decide)), s_groupOf, j_b, ei, ga_in hi, pe]
    unfold fX4_settleFocus_51
    have t13 : (oI (pv σ (b + 5) 13 i)).toInt = pv σ (b + 5) 13 i := j_oI (pv_rg _ _ _ _).1 (pv_rg _ _ _ _).2
    by_cases q : pv σ (b + 5) 13 i = -1
    · obtain ⟨σ2, a2, o2, v2⟩ := s_leave ok (nI i)
      rw [if_pos (by rw [j_eq, t13, jm1]; exact q), a2, j_b]
      refine ⟨(σ2, nI (i + 1)), ⟨rfl, ho.tr o2, ?_⟩, by rw [j_s]⟩
      show odv σ2 (b + 3) = fc _ _ (i + 1)
      unfold fc
      rw [v2, hv, ei, if_neg (by unfold plc; simp [q])]
    · rw [if_neg (by rw [j_eq, t13, jm1]; exact q), s_indexOf ok, j_b, ei]
      have pc : plc (pv σ (b + 5)) i = true := by unfold plc; simp [q]
      have hr := o_ix_rg (o := odv s (b + 3)) (i : Int)
      unfold OkO at ok
      by_cases z : o_ix (odv s (b + 3)) i = -1
      · obtain ⟨σ2, a2, o2, v2⟩ := s_putLast (σ := s) (c := b + 3) ok (nI i)
        rw [if_pos (by rw [z]; rfl), a2, j_b]
        refine ⟨(σ2, nI (i + 1)), ⟨rfl, ho.tr o2, ?_⟩, by rw [j_s]⟩
        show odv σ2 (b + 3) = fc _ _ (i + 1)
        unfold fc
        rw [if_pos pc, ← hv, if_pos z, v2, ei]
      · rw [if_neg (by rw [show (-1 : Int32) = oI (-1) from rfl, j_oe (by omega) (by omega) (by omega) (by omega)]; exact z)]
        refine ⟨(s, nI (i + 1)), ⟨rfl, ho, ?_⟩, by rw [j_s]⟩
        show odv s (b + 3) = fc _ _ (i + 1)
        unfold fc
        rw [if_pos pc, ← hv, if_neg z]
  · rintro n ⟨s, l⟩ ⟨rfl, ho, hv⟩
    show ∃ σ', fX4_settleFocus_2 b (n + 1) s (nI 12) = some σ' ∧ _
    rw [fX4_settleFocus_2, if_pos (n_le 12 (m := 12) rfl (by decide))]
    exact ⟨s, rfl, ho, hv⟩
/-- the panes that don't exist are taken away, one by one -/
def wds (c : Nat → Bool) (V : VW) : Nat → VW
  | 0 => V
  | n + 1 => if c n then v_withdraw (wds c V n) n else wds c V n
theorem wds_inv {c : Nat → Bool} {V : VW} {d : Nat → Nat} {wn : Nat → Int} (h : Inv V d wn) : ∀ n, n ≤ 12 → Inv (wds c V n) d wn ∧ (∀ p, p < 12 → wds c V n 13 p = if p < n ∧ c p = true then -1 else V 13 p)
  | 0, _ => ⟨h, fun p _ => by rw [if_neg (by omega)]; rfl⟩
  | n + 1, hn => by
    obtain ⟨i, f⟩ := wds_inv h n (by omega)
    unfold wds
    by_cases q : c n = true
    · rw [if_pos q]
      obtain ⟨i2, w2⟩ := withdraw_ok i (p := n) (by omega)
      refine ⟨i2, fun p hp => ?_⟩
      rw [w2.1 p hp, f p hp]
      by_cases e : p = n
      · rw [if_pos e, if_pos ⟨by omega, by rw [e]; exact q⟩]
      · rw [if_neg e]
        by_cases z : p < n ∧ c p = true
        · rw [if_pos z, if_pos ⟨by omega, z.2⟩]
        · rw [if_neg z, if_neg (fun y => z ⟨by omega, y.2⟩)]
    · rw [if_neg q]
      refine ⟨i, fun p hp => ?_⟩
      rw [f p hp]
      by_cases z : p < n ∧ c p = true
      · rw [if_pos z, if_pos ⟨by omega, z.2⟩]
      · rw [if_neg z, if_neg (fun y => z ⟨by
          have : p ≠ n := fun x => q (by rw [← x]; exact y.2)
          omega, y.2⟩)]
/-- what restoring makes of the placement -/
def v_load (W V : VW) : VW := up (up W 3 0 (V 3 0)) 4 0 (V 4 0)
theorem s_loadSlot {d : Nat → Nat} {wn : Nat → Int} (hx : 0 ≤ S_ex (stv σ b) ∧ S_ex (stv σ b) < 4096) {p : Int32} {k : Nat} (hp : p.toInt = k) (hk : k < 3) (hI : Inv (v_load (S_sl (stv σ b) k) (S_pl (stv σ b))) d wn) (hd : DI (S_fo (stv σ b))) (hn : Pn (S_fo (stv σ b))) : ∃ σ', fX4_loadSlot σ b p = some σ' ∧ Out σ σ' (b + 3) (b + 20) ∧ stv σ' b = ((stv σ b).1, (stv σ b).2.1, (stv σ b).2.2.1, fc (plc (wds (fun q => !exB (stv σ b) q) (v_load (S_sl (stv σ b) k) (S_pl (stv σ b))) 12)) (S_fo (stv σ b)) 12, wds (fun q => !exB (stv σ b) q) (v_load (S_sl (stv σ b) k) (S_pl (stv σ b))) 12, (stv σ b).2.2.2.2.2) := by
  have ep : p = nI k := j_eq.mpr (by rw [hp, j_nI (by omega)])
  have e3 : ([b + 22, b + 38, b + 54] : List Nat).length = 3 := rfl
  have sl : S_sl (stv σ b) k = pv σ (b + slo k) := by
    show slv σ b k = _
    unfold slv
    rw [if_pos hk]
  unfold fX4_loadSlot
  rw [ep, if_neg (by rw [j_lt, j_nI (by omega), jz0]; omega), e3, if_pos (by rw [j_lt, j_nI (by omega), j_nI (by omega)]; omega), s_v3, j_b, s_v4, j_b, if_pos (j_ckn hk (by decide)), rgs b hk]
  obtain ⟨σ1, a1, o1, v1⟩ := s_plcopy (σ := σ) (b := b + 5) (c := b + slo k) (by unfold slo; omega)
  obtain ⟨σ2, a2, o2, v2⟩ := s_setSize (σ := σ1) (b := b + 5) 0 (oI (ga (pv σ (b + 5) 3) 5 (0 : Int32).toInt)) (oI (ga (pv σ (b + 5) 4) 5 (0 : Int32).toInt))
  rw [a1, j_b, a2, j_b]
  have g3 : ga (pv σ (b + 5) 3) 5 (0 : Int32).toInt = pv σ (b + 5) 3 0 := ga_in (i := 0) (by decide)
  have g4 : ga (pv σ (b + 5) 4) 5 (0 : Int32).toInt = pv σ (b + 5) 4 0 := ga_in (i := 0) (by decide)
  rw [v1, t_ga, t_ga, g3, g4, ← sl] at v2
  have v2 : pv σ2 (b + 5) = v_load (S_sl (stv σ b) k) (S_pl (stv σ b)) := v2
  have O2 : Out σ σ2 (b + 5 + 1) (b + 5 + 15) := o1.tr o2
  have ex : ∀ s : Sg, Out σ s (b + 5 + 1) (b + 5 + 15) → exB (stv s b) = exB (stv σ b) ∧ (0 ≤ S_ex (stv s b) ∧ S_ex (stv s b) < 4096) := fun s hs => by
    have : S_ex (stv s b) = S_ex (stv σ b) := by rw [stv_pl hs]
    exact ⟨by funext q; unfold exB; rw [this], by rw [this]; exact hx⟩
  refine lp (F := fun n (s : Sg × Int32) => fX4_loadSlot_64 b n s.1 s.2) (Q := fun r => ∃ σ', r = some σ' ∧ Out σ σ' (b + 3) (b + 20) ∧ stv σ' b = ((stv σ b).1, (stv σ b).2.1, (stv σ b).2.2.1, fc (plc (wds (fun q => !exB (stv σ b) q) (v_load (S_sl (stv σ b) k) (S_pl (stv σ b))) 12)) (S_fo (stv σ b)) 12, wds (fun q => !exB (stv σ b) q) (v_load (S_sl (stv σ b) k) (S_pl (stv σ b))) 12, (stv σ b).2.2.2.2.2)) (fun i s => s.2 = nI i ∧ Out σ s.1 (b + 5 + 1) (b + 5 + 15) ∧ pv s.1 (b + 5) = wds (fun q => !exB (stv σ b) q) (v_load (S_sl (stv σ b) k) (S_pl (stv σ b))) i) 12 ?_ ?_ 12 0 FU (σ2, 0) rfl (by decide) ⟨rfl, O2, v2⟩
  · rintro n i ⟨s, l⟩ hi ⟨rfl, ho, hv⟩
    simp only at ho hv
    obtain ⟨I, -⟩ := wds_inv (c := fun q => !exB (stv σ b) q) hI i (by omega)
    rw [← hv] at I
    obtain ⟨i1, i2, i3, i4⟩ := I
    have ei : (nI i).toInt = i := j_nI (by omega)
    obtain ⟨x1, x2⟩ := ex s ho
    show ∃ s' : Sg × Int32, _ ∧ fX4_loadSlot_64 b (n + 1) s (nI i) = _
    rw [fX4_loadSlot_64, if_neg (n_ge 12 (m := 12) rfl hi (by decide)), s_exists x2, j_b, ei, decide_eq_true (by omega), Bool.true_and, Int.toNat_natCast, x1]
    unfold fX4_loadSlot_89
    cases q : exB (stv σ b) i
    · obtain ⟨σ3, a3, o3, v3⟩ := s_withdraw (σ := s) (b := b + 5) (nI i) (by rw [ei]; exact (i2.sp2 i).1) (by rw [ei]; exact (i2.sp2 i).2) (i3.ok (by decide))
      rw [if_neg (by decide), a3, j_b]
      refine ⟨(σ3, nI (i + 1)), ⟨rfl, ho.tr o3, ?_⟩, by rw [j_s]⟩
      show pv σ3 (b + 5) = wds _ _ (i + 1)
      unfold wds
      rw [if_pos (by simp [q]), v3, ei, hv]
    · rw [if_pos rfl]
      refine ⟨(s, nI (i + 1)), ⟨rfl, ho, ?_⟩, by rw [j_s]⟩
      show pv s (b + 5) = wds _ _ (i + 1)
      unfold wds
      rw [if_neg (by simp [q]), hv]
  · rintro n ⟨s, l⟩ ⟨rfl, ho, hv⟩
    simp only at ho hv
    have of : odv s (b + 3) = S_fo (stv σ b) := odv_out ho (by omega)
    obtain ⟨σ3, a3, o3, v3⟩ := s_settleFocus (σ := s) (b := b) (by rw [of]; exact hd) (by rw [of]; exact hn)
    show ∃ σ', fX4_loadSlot_64 b (n + 1) s (nI 12) = some σ' ∧ _
    rw [fX4_loadSlot_64, if_pos (n_le 12 (m := 12) rfl (by decide)), a3, j_b]
    refine ⟨σ3, rfl, (ho.mo (by omega) (by omega)).tr (o3.mo (by omega) (by omega)), ?_⟩
    rw [stv_fo o3, stv_pl ho, v3, of, hv]
end CS
end
section
/-! THE RELATION: the reference's states -/
theorem mv_cg {f g : Nat → Int32} (h : ∀ i, i < 921 → f i = g i) : mv f = mv g := by
  funext j i
  unfold mv
  by_cases q : i < mw j
  · rw [if_pos q, if_pos q, h _ (ma_lt q)]
  · rw [if_neg q, if_neg q]
/-- a slot's cells, as the row's own -/
def sr (r : Nat → Int) : VW := fun j i => if i < mw j then (if j < 6 then r (37 + 6 * i + j) else if j < 12 then r (1 + 3 * i + (j - 9)) else if j < 18 then r (181 + 6 * i + (j - 12)) else if j = 18 then r 211 else r (212 + i)) else 0
theorem VM.cg {U U' V : VW} {X : Nat → Bool} (h : VM U V X) (h4 : V 6 1 ≤ 4) (e : ∀ j i, (j < 6 ∨ (9 ≤ j ∧ j < 20)) → i < mw j → U' j i = U j i) : VM U' V X := by
  have n : ∀ j, j < 6 → ∀ i, i < 24 → U' j i = U j i := fun j hj i hi => e j i (Or.inl hj) (by rw [mw_n hj]; exact hi)
  have p : ∀ k, 3 ≤ k → k < 6 → ∀ i, i < 12 → U' (6 + k) i = U (6 + k) i := fun k h3 hk i hi => e (6 + k) i (Or.inr (by omega)) (by rw [mw_p hk]; exact hi)
  have w : ∀ k, k < 6 → ∀ i, i < 5 → U' (12 + k) i = U (12 + k) i := fun k hk i hi => e (12 + k) i (Or.inr (by omega)) (by rw [mw_w hk]; exact hi)
  refine ⟨fun i hi => ?_, ?_, fun i hi q => ?_, fun i hi q => ?_, fun i hi q x => ?_, fun i hi => ?_, fun v hv => ?_, ?_, fun k hk => ?_, fun i hi q => by
    rw [n 5 (by decide) i (by omega)]
    exact h.a5 hi q⟩
  · rw [n 0 (by decide) i (by omega), n 2 (by decide) i (by omega)]
    exact h.1 i hi
  · rw [n 0 (by decide) 23 (by omega)]
    exact h.l
  · rw [n 1 (by decide) i (by omega)]
    exact h.pa hi q
  · rw [n 3 (by decide) i (by omega), n 4 (by decide) i (by omega)]
    exact ⟨h.we hi q, h.pl hi q⟩
  · rw [n 5 (by decide) i (by omega)]
    exact h.ac hi q x
  · have a := p 3 (by decide) (by decide) i hi
    have b := p 4 (by decide) (by decide) i hi
    have c := p 5 (by decide) (by decide) i hi
    simp only [Nat.reduceAdd] at a b c
    rw [a, b, c]
    exact ⟨h.gr hi, h.sp hi, h.hi hi⟩
  · have a := w 0 (by decide) v hv
    have b := w 1 (by decide) v hv
    have c := w 2 (by decide) v hv
    have d := w 3 (by decide) v hv
    have f := w 4 (by decide) v hv
    have g := w 5 (by decide) v hv
    simp only [Nat.reduceAdd] at a b c d f g
    rw [a, b, c, d, f, g]
    exact ⟨h.ex hv, h.ro hv, h.geo hv⟩
  · rw [e 18 0 (Or.inr (by omega)) (by decide)]
    exact h.fc
  · rw [e 19 k (Or.inr (by omega)) (by show k < 4; omega)]
    exact h.fi hk
theorem fl4 {V : VW} (h : LO (odp V) 5 (flw V)) : 0 ≤ V 6 1 ∧ V 6 1 ≤ 4 := by
  have := cnt_one_more (c := flw V) (d := fun i => flw V i || i == 0) (n := 5) (i0 := 0) (by decide) (fun i _ ne => by simp [ne]) (by simp [flw]) (by simp)
  have := cnt_le (fun i => flw V i || i == 0) 5
  have e : V 6 1 = cnt (flw V) 5 := h.1
  omega
/-- the row tells the state -/
def SM (U : VW) (S : ST) : Prop :=
  (∀ p, p < 12 → U 6 p = (if exB S p then 1 else 0) ∧ (exB S p = true → U 7 p = S_mw S p ∧ U 8 p = S_mh S p)) ∧
  VM U (S_pl S) (fun _ => false) ∧ OE (mo U 20) (S_fo S) ∧
  ∀ s, s < 3 → U (22 + s) 0 = (if svB S s then 1 else 0) ∧ (svB S s = true → VM (sr (U (22 + s))) (S_sl S s) (fun _ => false))
/-- a record's row -/
def pr (σ : Sg) (k : Nat) : Nat → Int32 := fun i => σ.1 464 (921 * k + i)
/-- the records of the reference are l, the oldest first -/
def Mh (σ : Sg) (l : List ST) : Prop := l.length ≤ 5 ∧ σ.1 462 2 = nI l.length ∧ ∀ k S, l[k]? = some S → SM (mv (pr σ k)) S
/-- all but the records stays -/
def Or (σ σ' : Sg) : Prop := σ'.2 = σ.2 ∧ (∀ c, c ≠ 462 → c ≠ 464 → σ'.1 c = σ.1 c) ∧ ∀ j, j ≠ 2 → σ'.1 462 j = σ.1 462 j
theorem Or.rf {σ : Sg} : Or σ σ := ⟨rfl, fun _ _ _ => rfl, fun _ _ => rfl⟩
theorem Or.tr {σ σ1 σ2 : Sg} (h : Or σ σ1) (h2 : Or σ1 σ2) : Or σ σ2 := ⟨h2.1.trans h.1, fun c a b => (h2.2.1 c a b).trans (h.2.1 c a b), fun j a => (h2.2.2 j a).trans (h.2.2 j a)⟩
theorem Or.s4 {σ : Sg} {j : Nat} {v : Int32} : Or σ (su σ 464 j v) := ⟨rfl, fun c _ b => su_ne b, fun i _ => by rw [su_at, if_neg (by omega)]⟩
theorem Or.s2 {σ : Sg} {v : Int32} : Or σ (su σ 462 2 v) := ⟨rfl, fun c a _ => su_ne a, fun i q => by rw [su_at, if_neg (fun z => q z.2)]⟩
section MH
variable {σ : Sg}
theorem m_saves49 {m : Nat} (hm : m < 5) (hs : σ.1 462 2 = nI m) : ∃ σ', fX9_saves_49 462 σ = some σ' ∧ Or σ σ' ∧ σ'.1 462 2 = nI (m + 1) ∧ (∀ i, i < 921 → σ'.1 464 (921 * m + i) = σ.1 463 i) ∧ ∀ i, (i < 921 * m ∨ 921 * (m + 1) ≤ i) → σ'.1 464 i = σ.1 464 i := by
  have e921 : ∀ i : Nat, (921 : Int32) * nI m + nI i = nI (921 * m + i) := fun i => by
    rw [show (921 : Int32) * nI m = nI (921 * m) from (Int32.ofNat_mul 921 m).symm, j_a]
  unfold fX9_saves_49
  refine lp (F := fun n (s : Sg × Int32) => fX9_saves_51 462 n s.1 s.2) (Q := fun r => ∃ σ', r = some σ' ∧ Or σ σ' ∧ σ'.1 462 2 = nI (m + 1) ∧ (∀ i, i < 921 → σ'.1 464 (921 * m + i) = σ.1 463 i) ∧ ∀ i, (i < 921 * m ∨ 921 * (m + 1) ≤ i) → σ'.1 464 i = σ.1 464 i) (fun i s => s.2 = nI i ∧ Or σ s.1 ∧ s.1.1 462 2 = nI m ∧ (∀ k, k < i → s.1.1 464 (921 * m + k) = σ.1 463 k) ∧ ∀ k, (k < 921 * m ∨ 921 * m + i ≤ k) → s.1.1 464 k = σ.1 464 k) 921 ?_ ?_ 921 0 FU (σ, 0) rfl (by decide) ⟨rfl, Or.rf, hs, fun k hk => absurd hk (by omega), fun k _ => rfl⟩
  · rintro n i ⟨s, l⟩ hi ⟨rfl, ho, h2, hv, hw⟩
    simp only at ho h2 hv hw
    refine ⟨(su s 464 (921 * m + i) (s.1 463 i), nI (i + 1)), ⟨rfl, ho.tr Or.s4, ?_, fun k hk => ?_, fun k hk => ?_⟩, ?_⟩
    · show (su s 464 _ _).1 462 2 = _
      rw [su_ne (by decide), h2]
    · show (su s 464 _ _).1 464 (921 * m + k) = _
      rw [su_at]
      by_cases q : k = i
      · rw [if_pos ⟨rfl, by omega⟩, ho.2.1 463 (by decide) (by decide), q]
      · rw [if_neg (fun z => q (by omega))]
        exact hv k (by omega)
    · show (su s 464 _ _).1 464 k = _
      rw [su_at, if_neg (fun z => by omega)]
      exact hw k (by omega)
    · show fX9_saves_51 462 (n + 1) s (nI i) = fX9_saves_51 462 n _ (nI (i + 1))
      rw [fX9_saves_51, if_neg (n_ge 921 (m := 921) rfl hi (by decide)), if_pos (j_ckn hi (by decide)), if_pos (by rw [h2, e921]; exact j_ckn (by omega) (by decide)), j_nm, h2, e921, j_cl _ (by omega), j_cl _ (by omega), j_s]
  · rintro n ⟨s, l⟩ ⟨rfl, ho, h2, hv, hw⟩
    simp only at ho h2 hv hw
    show ∃ σ', fX9_saves_51 462 (n + 1) s (nI 921) = some σ' ∧ _
    rw [fX9_saves_51, if_pos (n_le 921 (m := 921) rfl (by decide)), j_nm, h2, j_s]
    refine ⟨_, rfl, ho.tr Or.s2, by rw [su_at, if_pos ⟨rfl, rfl⟩], fun i hi => ?_, fun i hi => ?_⟩
    · rw [su_ne (by decide)]
      exact hv i hi
    · rw [su_ne (by decide)]
      exact hw i (by omega)
theorem m_saves {l : List ST} {S : ST} (h : Mh σ l) (hS : SM (mv (σ.1 463)) S) : ∃ σ', fX9_saves σ 462 = some σ' ∧ Or σ σ' ∧ Mh σ' (keep l S) := by
  obtain ⟨hl, h2, hr⟩ := h
  have last : ∀ (τ σ' : Sg) (l' : List ST), l'.length ≤ 4 → τ.1 463 = σ.1 463 → (∀ k S, l'[k]? = some S → SM (mv (pr τ k)) S) → σ'.1 462 2 = nI (l'.length + 1) → (∀ i, i < 921 → σ'.1 464 (921 * l'.length + i) = τ.1 463 i) → (∀ i, (i < 921 * l'.length ∨ 921 * (l'.length + 1) ≤ i) → σ'.1 464 i = τ.1 464 i) → Mh σ' (l' ++ [S]) := by
    intro τ σ' l' h4 e63 hr' e2 a b
    refine ⟨by simp; omega, by rw [e2]; simp, fun k S' hk => ?_⟩
    by_cases q : k < l'.length
    · rw [List.getElem?_append_left q] at hk
      have e : mv (pr σ' k) = mv (pr τ k) := mv_cg (fun i hi => b (921 * k + i) (Or.inl (by
        have : 921 * (k + 1) ≤ 921 * l'.length := Nat.mul_le_mul_left _ q
        omega)))
      rw [e]
      exact hr' k S' hk
    · have hk2 := (List.getElem?_eq_some_iff.mp hk).1
      simp at hk2
      have : k = l'.length := by omega
      subst this
      rw [List.getElem?_append_right (by omega)] at hk
      simp at hk
      have e : mv (pr σ' l'.length) = mv (σ.1 463) := mv_cg (fun i hi => by rw [← e63]; exact a i hi)
      rw [e, ← hk]
      exact hS
  unfold fX9_saves keep
  by_cases q : l.length = 5
  · rw [if_pos (by rw [h2, q]; rfl), if_pos q]
    refine lp (F := fun n (s : Sg × Int32) => fX9_saves_10 462 n s.1 s.2) (Q := fun r => ∃ σ', r = some σ' ∧ Or σ σ' ∧ Mh σ' (l.drop 1 ++ [S])) (fun i s => s.2 = nI i ∧ Or σ s.1 ∧ s.1.1 462 2 = nI 5 ∧ (∀ k, k < i → s.1.1 464 k = σ.1 464 (k + 921)) ∧ ∀ k, i ≤ k → s.1.1 464 k = σ.1 464 k) 3684 ?_ ?_ 3684 0 FU (σ, 0) rfl (by decide) ⟨rfl, Or.rf, by rw [h2, q], fun k hk => absurd hk (by omega), fun k _ => rfl⟩
    · rintro n i ⟨s, l2⟩ hi ⟨rfl, ho, h2', hv, hw⟩
      simp only at ho h2' hv hw
      refine ⟨(su s 464 i (s.1 464 (i + 921)), nI (i + 1)), ⟨rfl, ho.tr Or.s4, ?_, fun k hk => ?_, fun k hk => ?_⟩, ?_⟩
      · show (su s 464 _ _).1 462 2 = _
        rw [su_ne (by decide), h2']
      · show (su s 464 _ _).1 464 k = _
        rw [su_at]
        by_cases z : k = i
        · rw [if_pos ⟨rfl, z⟩, z, hw (i + 921) (by omega)]
        · rw [if_neg (fun y => z y.2)]
          exact hv k (by omega)
      · show (su s 464 _ _).1 464 k = _
        rw [su_at, if_neg (fun z => by omega)]
        exact hw k (by omega)
      · show fX9_saves_10 462 (n + 1) s (nI i) = fX9_saves_10 462 n _ (nI (i + 1))
        rw [fX9_saves_10, if_neg (n_ge 3684 (m := 3684) rfl hi (by decide)), show nI i + 921 = nI (i + 921) from j_a i 921, if_pos (j_ckn (by omega) (by decide)), if_pos (j_ckn (by omega) (by decide)), j_nm, j_cl _ (by omega), j_cl _ (by omega), j_s]
    · rintro n ⟨s, l2⟩ ⟨rfl, ho, h2', hv, hw⟩
      simp only at ho h2' hv hw
      show ∃ σ', fX9_saves_10 462 (n + 1) s (nI 3684) = some σ' ∧ _
      rw [fX9_saves_10, if_pos (n_le 3684 (m := 3684) rfl (by decide)), j_nm, h2']
      obtain ⟨σ', a, b, c, d, e⟩ := m_saves49 (σ := su s 462 2 (nI 5 - 1)) (m := 4) (by decide) (by rw [su_at, if_pos ⟨rfl, rfl⟩]; rfl)
      refine ⟨σ', a, (ho.tr Or.s2).tr b, last (su s 462 2 (nI 5 - 1)) σ' (l.drop 1) (by simp; omega) (by rw [su_ne (by decide), ho.2.1 463 (by decide) (by decide)]) (fun k S' hk => ?_) (by rw [c]; simp [q]) (fun i hi => ?_) (fun i hi => ?_)⟩
      · have hk1 : l[k + 1]? = some S' := by rw [List.getElem?_drop, Nat.add_comm] at hk; exact hk
        have hk2 := (List.getElem?_eq_some_iff.mp hk1).1
        have e' : mv (pr (su s 462 2 (nI 5 - 1)) k) = mv (pr σ (k + 1)) := mv_cg (fun i hi => by
          show (su s 462 2 (nI 5 - 1)).1 464 (921 * k + i) = σ.1 464 (921 * (k + 1) + i)
          rw [su_ne (by decide), hv (921 * k + i) (by omega), show 921 * k + i + 921 = 921 * (k + 1) + i by omega])
        rw [e']
        exact hr (k + 1) S' hk1
      · have : (l.drop 1).length = 4 := by simp [q]
        rw [this]
        exact d i hi
      · have : (l.drop 1).length = 4 := by simp [q]
        rw [this] at hi
        exact e i hi
  · rw [if_neg (by
      rw [h2]
      show ¬ nI l.length = nI 5
      rw [j_inj (by omega) (by omega)]
      exact q), if_neg q]
    obtain ⟨σ', a, b, c, d, e⟩ := m_saves49 (σ := σ) (m := l.length) (by omega) h2
    exact ⟨σ', a, b, last σ σ' l (by omega) rfl hr c d e⟩
/-- the latest record comes back -/
theorem m_undo33 {m : Nat} (hm : m < 5) (hs : σ.1 462 2 = nI m) : ∃ σ', fX9_undo_33 462 FU σ 0 = some (nI m, σ') ∧ Out σ σ' 463 463 ∧ ∀ i, i < 921 → σ'.1 463 i = σ.1 464 (921 * m + i) := by
  have e921 : ∀ i : Nat, (921 : Int32) * nI m + nI i = nI (921 * m + i) := fun i => by
    rw [show (921 : Int32) * nI m = nI (921 * m) from (Int32.ofNat_mul 921 m).symm, j_a]
  refine lp (F := fun n (s : Sg × Int32) => fX9_undo_33 462 n s.1 s.2) (Q := fun r => ∃ σ', r = some (nI m, σ') ∧ Out σ σ' 463 463 ∧ ∀ i, i < 921 → σ'.1 463 i = σ.1 464 (921 * m + i)) (fun i s => s.2 = nI i ∧ Out σ s.1 463 463 ∧ ∀ k, k < i → s.1.1 463 k = σ.1 464 (921 * m + k)) 921 ?_ ?_ 921 0 FU (σ, 0) rfl (by decide) ⟨rfl, Out.rf, fun k hk => absurd hk (by omega)⟩
  · rintro n i ⟨s, l⟩ hi ⟨rfl, ho, hv⟩
    simp only at ho hv
    have h2 : s.1 462 2 = nI m := by rw [ho.2 462 (by omega), hs]
    refine ⟨(su s 463 i (s.1 464 (921 * m + i)), nI (i + 1)), ⟨rfl, ho.tr su_out, fun k hk => ?_⟩, ?_⟩
    · show (su s 463 _ _).1 463 k = _
      rw [su_at]
      by_cases q : k = i
      · rw [if_pos ⟨rfl, q⟩, ho.2 464 (by omega), q]
      · rw [if_neg (fun z => q z.2)]
        exact hv k (by omega)
    · show fX9_undo_33 462 (n + 1) s (nI i) = fX9_undo_33 462 n _ (nI (i + 1))
      rw [fX9_undo_33, if_neg (n_ge 921 (m := 921) rfl hi (by decide)), if_pos (by rw [h2, e921]; exact j_ckn (by omega) (by decide)), if_pos (j_ckn hi (by decide)), j_nm, h2, e921, j_cl _ (by omega), j_cl _ (by omega), j_s]
  · rintro n ⟨s, l⟩ ⟨rfl, ho, hv⟩
    simp only at ho hv
    have h2 : s.1 462 2 = nI m := by rw [ho.2 462 (by omega), hs]
    show ∃ σ', fX9_undo_33 462 (n + 1) s (nI 921) = _ ∧ _
    rw [fX9_undo_33, if_pos (n_le 921 (m := 921) rfl (by decide)), h2]
    exact ⟨s, rfl, ho, hv⟩
/-! the orders of focus -/
theorem m_leavesFocus {o : OD} {c : Nat → Bool} (h9 : ∀ p, p < 12 → decide (mv (σ.1 463) 9 p ≠ -1) = c p) (ho : OE (mo (mv (σ.1 463)) 20) o) (hd : DI o) (hp : Pn o) : ∃ σ', fX9_leavesFocus σ 462 = some σ' ∧ Out σ σ' 463 463 ∧ OE (mo (mv (σ'.1 463)) 20) (fl1 c o 12) ∧ ∀ k, k ≠ 20 → k ≠ 21 → mv (σ'.1 463) k = mv (σ.1 463) k := by
  unfold fX9_leavesFocus
  refine lp (F := fun n (s : Sg × Int32) => fX9_leavesFocus_2 462 n s.1 s.2) (Q := fun r => ∃ σ', r = some σ' ∧ Out σ σ' 463 463 ∧ OE (mo (mv (σ'.1 463)) 20) (fl1 c o 12) ∧ ∀ k, k ≠ 20 → k ≠ 21 → mv (σ'.1 463) k = mv (σ.1 463) k) (fun i s => s.2 = nI i ∧ Out σ s.1 463 463 ∧ OE (mo (mv (s.1.1 463)) 20) (fl1 c o i) ∧ ∀ k, k ≠ 20 → k ≠ 21 → mv (s.1.1 463) k = mv (σ.1 463) k) 12 ?_ ?_ 12 0 FU (σ, 0) rfl (by decide) ⟨rfl, Out.rf, ho, fun _ _ _ => rfl⟩
  · rintro n i ⟨s, l⟩ hi ⟨rfl, hO, hv, hk⟩
    simp only at hO hv hk
    have ei : (nI i).toInt = i := j_nI (by omega)
    obtain ⟨x1, x2, x3⟩ := fl1_list (c := c) hd hp i (by omega)
    have ok := x2.1
    unfold OkO at ok
    show ∃ s' : Sg × Int32, _ ∧ fX9_leavesFocus_2 462 (n + 1) s (nI i) = _
    rw [fX9_leavesFocus_2, if_neg (n_ge 12 (m := 12) rfl hi (by decide)), m_isPlaced ei hi, j_b, hk 9 (by decide) (by decide), h9 i hi]
    unfold fX9_leavesFocus_24
    cases q : c i
    · obtain ⟨σ1, a1, o1, v1, r1⟩ := m_dropsFrom (σ := s) (j := 20) (c := 251) (cap := 12) (Or.inr ⟨rfl, rfl, rfl⟩) (by rw [hv.1]; omega) (nI i)
      have a1 : fX9_dropsFrom s 462 251 (nI i) = some σ1 := a1
      rw [if_neg (by decide), a1, j_b]
      refine ⟨(σ1, nI (i + 1)), ⟨rfl, hO.tr o1, ?_, fun k k1 k2 => by rw [r1 k k1 k2]; exact hk k k1 k2⟩, by rw [j_s]⟩
      unfold fl1
      rw [if_neg (by simp [q])]
      rw [ei] at v1
      exact v1.tr (hv.lv _)
    · rw [if_pos rfl]
      refine ⟨(s, nI (i + 1)), ⟨rfl, hO, ?_, hk⟩, by rw [j_s]⟩
      unfold fl1
      rw [if_pos q]
      exact hv
  · rintro n ⟨s, l⟩ ⟨rfl, hO, hv, hk⟩
    show ∃ σ', fX9_leavesFocus_2 462 (n + 1) s (nI 12) = some σ' ∧ _
    rw [fX9_leavesFocus_2, if_pos (n_le 12 (m := 12) rfl (by decide))]
    exact ⟨s, rfl, hO, hv, hk⟩
theorem m_focuses {o : OD} {c : Nat → Bool} (h9 : ∀ p, p < 12 → decide (mv (σ.1 463) 9 p ≠ -1) = c p) (ho : OE (mo (mv (σ.1 463)) 20) o) (hd : DI o) (hp : Pn o) : ∃ σ', fX9_focuses σ 462 = some σ' ∧ Out σ σ' 463 463 ∧ OE (mo (mv (σ'.1 463)) 20) (fc c o 12) ∧ ∀ k, k ≠ 20 → k ≠ 21 → mv (σ'.1 463) k = mv (σ.1 463) k := by
  obtain ⟨σ1, a1, o1, v1, r1⟩ := m_leavesFocus h9 ho hd hp
  obtain ⟨l1, l2, l3⟩ := fl1_list (c := c) hd hp 12 (Nat.le_refl _)
  unfold fX9_focuses
  rw [a1, j_b]
  refine lp (F := fun n (s : Sg × Int32) => fX9_focuses_6 462 n s.1 s.2) (Q := fun r => ∃ σ', r = some σ' ∧ Out σ σ' 463 463 ∧ OE (mo (mv (σ'.1 463)) 20) (fc c o 12) ∧ ∀ k, k ≠ 20 → k ≠ 21 → mv (σ'.1 463) k = mv (σ.1 463) k) (fun i s => s.2 = nI i ∧ Out σ s.1 463 463 ∧ OE (mo (mv (s.1.1 463)) 20) (fl2 c (fl1 c o 12) i) ∧ ∀ k, k ≠ 20 → k ≠ 21 → mv (s.1.1 463) k = mv (σ.1 463) k) 12 ?_ ?_ 12 0 FU (σ1, 0) rfl (by decide) ⟨rfl, o1, v1, r1⟩
  · rintro n i ⟨s, l⟩ hi ⟨rfl, hO, hv, hk⟩
    simp only at hO hv hk
    have ei : (nI i).toInt = i := j_nI (by omega)
    obtain ⟨x1, x2, x3⟩ := fl2_list (c := c) l2 l3 i (by omega)
    have ok := x2.1
    unfold OkO at ok
    show ∃ s' : Sg × Int32, _ ∧ fX9_focuses_6 462 (n + 1) s (nI i) = _
    rw [fX9_focuses_6, if_neg (n_ge 12 (m := 12) rfl hi (by decide)), m_isPlaced ei hi, j_b, hk 9 (by decide) (by decide), h9 i hi]
    unfold fX9_focuses_40
    cases q : c i
    · rw [if_neg (by decide)]
      refine ⟨(s, nI (i + 1)), ⟨rfl, hO, ?_, hk⟩, by rw [j_s]⟩
      unfold fl2
      rw [if_neg (by simp [q])]
      exact hv
    · have pi := m_placeIn (σ := s) (j := 20) (c := 251) (cap := 12) (Or.inr ⟨rfl, rfl, rfl⟩) (by rw [hv.1]; omega) (nI i)
      have pi : fX9_placeIn s 462 251 (nI i) = some (oI (o_ix (mo (mv (s.1 463)) 20) (nI i).toInt)) := pi
      rw [if_pos rfl, pi, j_b, ei, hv.ix]
      have hr := o_ix_rg (o := fl2 c (fl1 c o 12) i) (i : Int)
      by_cases z : o_ix (fl2 c (fl1 c o 12) i) i = -1
      · have lt := x3.le x2 hi z
        obtain ⟨σ2, a2, o2, v2, r2⟩ := m_comesLast (σ := s) (j := 20) (c := 251) (cap := 12) (Or.inr ⟨rfl, rfl, rfl⟩) (by rw [hv.1]; omega) (nI i) (by rw [ei, (hv.lv _).1]; omega)
        have a2 : fX9_comesLast s 462 251 (nI i) = some σ2 := a2
        rw [if_pos (by rw [z]; rfl), a2, j_b]
        refine ⟨(σ2, nI (i + 1)), ⟨rfl, hO.tr o2, ?_, fun k k1 k2 => by rw [r2 k k1 k2]; exact hk k k1 k2⟩, by rw [j_s]⟩
        unfold fl2
        rw [if_pos (by simp [q, z])]
        rw [ei] at v2
        exact v2.tr (hv.pl _)
      · rw [if_neg (by rw [show (-1 : Int32) = oI (-1) from rfl, j_oe (by omega) (by omega) (by omega) (by omega)]; exact z)]
        refine ⟨(s, nI (i + 1)), ⟨rfl, hO, ?_, hk⟩, by rw [j_s]⟩
        unfold fl2
        rw [if_neg (by simp [z])]
        exact hv
  · rintro n ⟨s, l⟩ ⟨rfl, hO, hv, hk⟩
    show ∃ σ', fX9_focuses_6 462 (n + 1) s (nI 12) = some σ' ∧ _
    rw [fX9_focuses_6, if_pos (n_le 12 (m := 12) rfl (by decide))]
    exact ⟨s, rfl, hO, hv.tr (settle_same hd hp).sy, hk⟩
end MH
end
section
/-! THE RELATION: store and restore in the reference -/
section SR
variable {σ : Sg}
/-- some cells from others: d to d + n from s -/
def cpy (f : Nat → Int32) (s d n : Nat) : Nat → Int32 := fun c => if d ≤ c ∧ c < d + n then f (s + (c - d)) else f c
theorem cpy_s (f : Nat → Int32) (s d i : Nat) (h : s + i < d ∨ d + i ≤ s) : (fun c => if c = d + i then cpy f s d i (s + i) else cpy f s d i c) = cpy f s d (i + 1) := by
  funext c
  unfold cpy
  by_cases q : c = d + i
  · rw [if_pos q, if_neg (by omega), if_pos (by omega), q]
    congr 1
    omega
  · rw [if_neg q]
    by_cases z : d ≤ c ∧ c < d + i
    · rw [if_pos z, if_pos (by omega)]
    · rw [if_neg z, if_neg (by omega)]
theorem su_row {k c : Nat} {v : Int32} : (su σ k c v).1 k = fun i => if i = c then v else σ.1 k i := by
  funext i
  rw [su_at]
  by_cases q : i = c
  · rw [if_pos ⟨rfl, q⟩, if_pos q]
  · rw [if_neg (fun z => q z.2), if_neg q]
theorem m_st55 {at_ p : Nat} (ha : 264 ≤ at_ ∧ at_ ≤ 702) (hp : p < 12) (k46 : Sg → Int32 → Int32 → Option (Int32 × Sg)) : ∃ σ', fX9_store_55 462 k46 FU σ (nI at_) (nI p) 0 = k46 σ' (nI at_) (nI (p + 1)) ∧ Out σ σ' 463 463 ∧ σ'.1 463 = cpy (σ.1 463) (6 * p + 3) (at_ + 1 + 3 * p) 3 := by
  refine lp (F := fun n (s : Sg × Int32) => fX9_store_55 462 k46 n s.1 (nI at_) (nI p) s.2) (Q := fun r => ∃ σ', r = k46 σ' (nI at_) (nI (p + 1)) ∧ Out σ σ' 463 463 ∧ σ'.1 463 = cpy (σ.1 463) (6 * p + 3) (at_ + 1 + 3 * p) 3) (fun i s => s.2 = nI i ∧ Out σ s.1 463 463 ∧ s.1.1 463 = cpy (σ.1 463) (6 * p + 3) (at_ + 1 + 3 * p) i) 3 ?_ ?_ 3 0 FU (σ, 0) rfl (by decide) ⟨rfl, Out.rf, by
    funext c
    unfold cpy
    rw [if_neg (by omega)]⟩
  · rintro n i ⟨s, l⟩ hi ⟨rfl, ho, hv⟩
    simp only at ho hv
    have e3 : (3 : Int32) * nI p = nI (3 * p) := (Int32.ofNat_mul 3 p).symm
    have e6 : (6 : Int32) * nI p = nI (6 * p) := (Int32.ofNat_mul 6 p).symm
    have e0 : (nI at_ + 1 + 3 * nI p) + nI i = nI (at_ + 1 + 3 * p + i) := by rw [e3, j_s, j_a, j_a]
    have e7 : 6 * nI p + (3 + nI i) = nI (6 * p + 3 + i) := by rw [e6, show (3 : Int32) = nI 3 from rfl, j_a, j_a, Nat.add_assoc]
    refine ⟨(su s 463 (at_ + 1 + 3 * p + i) (s.1 463 (6 * p + 3 + i)), nI (i + 1)), ⟨rfl, ho.tr su_out, ?_⟩, ?_⟩
    · show (su s 463 _ _).1 463 = _
      rw [su_row, hv]
      exact cpy_s _ _ _ _ (by omega)
    · show fX9_store_55 462 k46 (n + 1) s (nI at_) (nI p) (nI i) = fX9_store_55 462 k46 n _ (nI at_) (nI p) (nI (i + 1))
      have eo : fX9_of s 462 (nI p) (3 + nI i) = some (s.1 463 (6 * p + 3 + i)) := by
        unfold fX9_of
        rw [e7, if_pos (j_ckn (by omega) (by decide)), j_cl _ (by omega)]
      rw [fX9_store_55, if_neg (n_ge 3 (m := 3) rfl hi (by decide)), eo, j_b, e0, if_pos (j_ckn (by omega) (by decide)), j_nm, j_cl _ (by omega), j_s]
  · rintro n ⟨s, l⟩ ⟨rfl, ho, hv⟩
    show ∃ σ', fX9_store_55 462 k46 (n + 1) s (nI at_) (nI p) (nI 3) = _ ∧ _
    rw [fX9_store_55, if_pos (n_le 3 (m := 3) rfl (by decide)), j_s]
    exact ⟨s, rfl, ho, hv⟩
/-- the panes' cells are in the slot -/
def stp (f : Nat → Int32) (at_ n : Nat) : Nat → Int32 := fun c => if at_ + 1 ≤ c ∧ c < at_ + 1 + 3 * n then f (6 * ((c - (at_ + 1)) / 3) + 3 + (c - (at_ + 1)) % 3) else f c
theorem m_st134 {at_ : Nat} (ha : 264 ≤ at_ ∧ at_ ≤ 702) {m : Int32} (hm : ∀ s : Sg, (∀ c, c < 264 → s.1 463 c = σ.1 463 c) → fX9_placedMany s 462 = some m) : ∃ σ', fX9_store_134 462 FU σ (nI at_) 0 = some (m, σ') ∧ Out σ σ' 463 463 ∧ σ'.1 463 = cpy (σ.1 463) 216 (at_ + 181) 35 := by
  refine lp (F := fun n (s : Sg × Int32) => fX9_store_134 462 n s.1 (nI at_) s.2) (Q := fun r => ∃ σ', r = some (m, σ') ∧ Out σ σ' 463 463 ∧ σ'.1 463 = cpy (σ.1 463) 216 (at_ + 181) 35) (fun i s => s.2 = nI i ∧ Out σ s.1 463 463 ∧ s.1.1 463 = cpy (σ.1 463) 216 (at_ + 181) i) 35 ?_ ?_ 35 0 FU (σ, 0) rfl (by decide) ⟨rfl, Out.rf, by
    funext c
    unfold cpy
    rw [if_neg (by omega)]⟩
  · rintro n i ⟨s, l⟩ hi ⟨rfl, ho, hv⟩
    simp only at ho hv
    have e0 : (nI at_ + 181) + nI i = nI (at_ + 181 + i) := by rw [show (181 : Int32) = nI 181 from rfl, j_a, j_a]
    have e7 : 216 + nI i = nI (216 + i) := j_a 216 i
    refine ⟨(su s 463 (at_ + 181 + i) (s.1 463 (216 + i)), nI (i + 1)), ⟨rfl, ho.tr su_out, ?_⟩, ?_⟩
    · show (su s 463 _ _).1 463 = _
      rw [su_row, hv]
      exact cpy_s _ _ _ _ (by omega)
    · show fX9_store_134 462 (n + 1) s (nI at_) (nI i) = fX9_store_134 462 n _ (nI at_) (nI (i + 1))
      rw [fX9_store_134, if_neg (n_ge 35 (m := 35) rfl hi (by decide)), e7, e0, if_pos (j_ckn (by omega) (by decide)), if_pos (j_ckn (by omega) (by decide)), j_nm, j_cl _ (by omega), j_cl _ (by omega), j_s]
  · rintro n ⟨s, l⟩ ⟨rfl, ho, hv⟩
    simp only at ho hv
    show ∃ σ', fX9_store_134 462 (n + 1) s (nI at_) (nI 35) = _ ∧ _
    rw [fX9_store_134, if_pos (n_le 35 (m := 35) rfl (by decide)), hm s (fun c hc => by
      rw [hv]
      unfold cpy
      rw [if_neg (by omega)]), j_b]
    exact ⟨s, rfl, ho, hv⟩
theorem m_st99 {at_ : Nat} (ha : 264 ≤ at_ ∧ at_ ≤ 702) {m : Int32} (hm : ∀ s : Sg, (∀ c, c < 264 → s.1 463 c = σ.1 463 c) → fX9_placedMany s 462 = some m) : ∃ σ', fX9_store_99 462 FU σ (nI at_) 0 = some (m, σ') ∧ Out σ σ' 463 463 ∧ σ'.1 463 = cpy (cpy (σ.1 463) 72 (at_ + 37) 144) 216 (at_ + 181) 35 := by
  refine lp (F := fun n (s : Sg × Int32) => fX9_store_99 462 n s.1 (nI at_) s.2) (Q := fun r => ∃ σ', r = some (m, σ') ∧ Out σ σ' 463 463 ∧ σ'.1 463 = cpy (cpy (σ.1 463) 72 (at_ + 37) 144) 216 (at_ + 181) 35) (fun i s => s.2 = nI i ∧ Out σ s.1 463 463 ∧ s.1.1 463 = cpy (σ.1 463) 72 (at_ + 37) i) 144 ?_ ?_ 144 0 FU (σ, 0) rfl (by decide) ⟨rfl, Out.rf, by
    funext c
    unfold cpy
    rw [if_neg (by omega)]⟩
  · rintro n i ⟨s, l⟩ hi ⟨rfl, ho, hv⟩
    simp only at ho hv
    have e0 : (nI at_ + 37) + nI i = nI (at_ + 37 + i) := by rw [show (37 : Int32) = nI 37 from rfl, j_a, j_a]
    have e7 : 72 + nI i = nI (72 + i) := j_a 72 i
    refine ⟨(su s 463 (at_ + 37 + i) (s.1 463 (72 + i)), nI (i + 1)), ⟨rfl, ho.tr su_out, ?_⟩, ?_⟩
    · show (su s 463 _ _).1 463 = _
      rw [su_row, hv]
      exact cpy_s _ _ _ _ (by omega)
    · show fX9_store_99 462 (n + 1) s (nI at_) (nI i) = fX9_store_99 462 n _ (nI at_) (nI (i + 1))
      rw [fX9_store_99, if_neg (n_ge 144 (m := 144) rfl hi (by decide)), e7, e0, if_pos (j_ckn (by omega) (by decide)), if_pos (j_ckn (by omega) (by decide)), j_nm, j_cl _ (by omega), j_cl _ (by omega), j_s]
  · rintro n ⟨s, l⟩ ⟨rfl, ho, hv⟩
    simp only at ho hv
    show ∃ σ', fX9_store_99 462 (n + 1) s (nI at_) (nI 144) = _ ∧ _
    obtain ⟨σ', a, b, c⟩ := m_st134 (σ := s) ha (m := m) (fun t ht => hm t (fun c hc => by
      rw [ht c hc, hv]
      unfold cpy
      rw [if_neg (by omega)]))
    rw [fX9_store_99, if_pos (n_le 144 (m := 144) rfl (by decide))]
    exact ⟨σ', a, ho.tr b, by rw [c, hv]⟩
theorem m_st46 {at_ : Nat} (ha : 264 ≤ at_ ∧ at_ ≤ 702) {m : Int32} (hm : ∀ s : Sg, (∀ c, c < 264 → s.1 463 c = σ.1 463 c) → fX9_placedMany s 462 = some m) : ∃ σ', fX9_store_46 462 FU σ (nI at_) 0 = some (m, σ') ∧ Out σ σ' 463 463 ∧ σ'.1 463 = cpy (cpy (stp (σ.1 463) at_ 12) 72 (at_ + 37) 144) 216 (at_ + 181) 35 := by
  refine lp (F := fun n (s : Sg × Int32) => fX9_store_46 462 n s.1 (nI at_) s.2) (Q := fun r => ∃ σ', r = some (m, σ') ∧ Out σ σ' 463 463 ∧ σ'.1 463 = cpy (cpy (stp (σ.1 463) at_ 12) 72 (at_ + 37) 144) 216 (at_ + 181) 35) (fun i s => s.2 = nI i ∧ Out σ s.1 463 463 ∧ s.1.1 463 = stp (σ.1 463) at_ i) 12 ?_ ?_ 12 0 FU (σ, 0) rfl (by decide) ⟨rfl, Out.rf, by
    funext c
    unfold stp
    rw [if_neg (by omega)]⟩
  · rintro n i ⟨s, l⟩ hi ⟨rfl, ho, hv⟩
    simp only at ho hv
    obtain ⟨σ2, a2, o2, v2⟩ := m_st55 (σ := s) ha hi (fX9_store_46 462 n)
    refine ⟨(σ2, nI (i + 1)), ⟨rfl, ho.tr o2, ?_⟩, ?_⟩
    · show σ2.1 463 = _
      rw [v2, hv]
      funext c
      unfold cpy stp
      by_cases q : at_ + 1 + 3 * i ≤ c ∧ c < at_ + 1 + 3 * i + 3
      · obtain ⟨k, hk, ek⟩ : ∃ k, k < 3 ∧ c = at_ + 1 + 3 * i + k := ⟨c - (at_ + 1 + 3 * i), by omega, by omega⟩
        subst ek
        rw [if_pos q, if_neg (by omega), if_pos (by omega)]
        have e1 : (at_ + 1 + 3 * i + k - (at_ + 1)) / 3 = i := by omega
        have e2 : (at_ + 1 + 3 * i + k - (at_ + 1)) % 3 = k := by omega
        have e3 : at_ + 1 + 3 * i + k - (at_ + 1 + 3 * i) = k := by omega
        rw [e1, e2, e3]
      · rw [if_neg q]
        by_cases z : at_ + 1 ≤ c ∧ c < at_ + 1 + 3 * i
        · rw [if_pos z, if_pos (by omega)]
        · rw [if_neg z, if_neg (by omega)]
    · show fX9_store_46 462 (n + 1) s (nI at_) (nI i) = fX9_store_46 462 n σ2 (nI at_) (nI (i + 1))
      rw [fX9_store_46, if_neg (n_ge 12 (m := 12) rfl hi (by decide)), a2]
  · rintro n ⟨s, l⟩ ⟨rfl, ho, hv⟩
    simp only at ho hv
    show ∃ σ', fX9_store_46 462 (n + 1) s (nI at_) (nI 12) = _ ∧ _
    obtain ⟨σ', a, b, c⟩ := m_st99 (σ := s) ha (m := m) (fun t ht => hm t (fun c hc => by
      rw [ht c hc, hv]
      unfold stp
      rw [if_neg (by omega)]))
    rw [fX9_store_46, if_pos (n_le 12 (m := 12) rfl (by decide))]
    exact ⟨σ', a, ho.tr b, by rw [c, hv]⟩
/-- what the slot's cells are then -/
theorem st_row (f : Nat → Int32) {s : Nat} (hs : s < 3) {g : Nat → Int32} (hg : g = cpy (cpy (stp (fun i => if i = 264 + 219 * s then 1 else f i) (264 + 219 * s) 12) 72 (264 + 219 * s + 37) 144) 216 (264 + 219 * s + 181) 35) : (∀ j, j < 22 → mv g j = mv f j) ∧ (∀ t, t < 3 → t ≠ s → mv g (22 + t) = mv f (22 + t)) ∧ mv g (22 + s) 0 = 1 ∧ ∀ j i, (j < 6 ∨ (9 ≤ j ∧ j < 20)) → i < mw j → sr (mv g (22 + s)) j i = mv f j i := by
  have low : ∀ c, c < 264 + 219 * s ∨ 264 + 219 * s + 219 ≤ c → g c = f c := fun c hc => by
    rw [hg]
    unfold cpy stp
    dsimp only
    rw [if_neg (by omega), if_neg (by omega), if_neg (by omega), if_neg (by omega)]
  have m22 : ∀ t, t < 3 → ∀ i, i < 219 → mv g (22 + t) i = (g (264 + 219 * t + i)).toInt ∧ mv f (22 + t) i = (f (264 + 219 * t + i)).toInt := fun t ht i hi => by
    have hw : mw (22 + t) = 219 := by
      unfold mw
      rw [if_neg (by omega), if_neg (by omega), if_neg (by omega), if_neg (by omega), if_neg (by omega), if_neg (by omega), if_neg (by omega), if_pos (by omega)]
    have hm : ma (22 + t) i = 264 + 219 * t + i := by
      unfold ma
      rw [if_neg (by omega), if_neg (by omega), if_neg (by omega), if_neg (by omega), if_neg (by omega), if_neg (by omega), if_neg (by omega)]
      omega
    rw [mv_in (by omega), mv_in (by omega), hm]
    exact ⟨rfl, rfl⟩
  have v0 : ∀ t, t < 3 → ∀ i, 219 ≤ i → mv g (22 + t) i = 0 ∧ mv f (22 + t) i = 0 := fun t ht i hi => by
    have hw : mw (22 + t) = 219 := by
      unfold mw
      rw [if_neg (by omega), if_neg (by omega), if_neg (by omega), if_neg (by omega), if_neg (by omega), if_neg (by omega), if_neg (by omega), if_pos (by omega)]
    unfold mv
    rw [if_neg (by omega), if_neg (by omega)]
    exact ⟨rfl, rfl⟩
  refine ⟨fun j hj => ?_, fun t ht ne => ?_, ?_, fun j i hj hi => ?_⟩
  · funext i
    unfold mv
    by_cases q : i < mw j
    · rw [if_pos q, if_pos q, low]
      left
      have : ma j i < 264 := by
        unfold mw at q
        unfold ma
        revert q
        split
        · intro q; omega
        · split
          · intro q; omega
          · split
            · intro q; omega
            · split
              · intro q; omega
              · split
                · intro q; omega
                · split
                  · intro q; omega
                  · split
                    · intro q; omega
                    · intro q; omega
      omega
    · rw [if_neg q, if_neg q]
  · funext i
    by_cases q : i < 219
    · rw [(m22 t ht i q).1, (m22 t ht i q).2, low _ (by omega)]
    · rw [(v0 t ht i (by omega)).1, (v0 t ht i (by omega)).2]
  · rw [(m22 s hs 0 (by omega)).1, hg]
    unfold cpy stp
    dsimp only
    rw [if_neg (by omega), if_neg (by omega), if_neg (by omega), if_pos (by omega)]
    rfl
  · unfold sr
    rw [if_pos hi]
    rcases hj with hj | ⟨h9, h20⟩
    · rw [if_pos hj]
      rw [mw_n hj] at hi
      rw [(m22 s hs _ (by omega)).1, mv_in (by rw [mw_n hj]; exact hi), ma_n hj, hg]
      unfold cpy stp
      dsimp only
      rw [if_neg (by omega), if_pos (by omega), if_neg (by omega), if_neg (by omega)]
      exact congrArg (fun x => (f x).toInt) (by omega)
    · rw [if_neg (by omega)]
      by_cases h12 : j < 12
      · rw [if_pos h12]
        obtain ⟨k, hk⟩ : ∃ k, j = 6 + k := ⟨j - 6, by omega⟩
        subst hk
        rw [mw_p (by omega)] at hi
        rw [(m22 s hs _ (by omega)).1, mv_in (by rw [mw_p (by omega)]; exact hi), ma_p (by omega), hg]
        unfold cpy stp
        dsimp only
        rw [if_neg (by omega), if_neg (by omega), if_pos (by omega), if_neg (by omega)]
        exact congrArg (fun x => (f x).toInt) (by omega)
      · rw [if_neg h12]
        by_cases h18 : j < 18
        · rw [if_pos h18]
          obtain ⟨k, hk⟩ : ∃ k, j = 12 + k := ⟨j - 12, by omega⟩
          subst hk
          rw [mw_w (by omega)] at hi
          rw [(m22 s hs _ (by omega)).1, mv_in (by rw [mw_w (by omega)]; exact hi), ma_w (by omega), hg]
          unfold cpy stp
          dsimp only
          rw [if_pos (by omega), if_neg (by omega), if_neg (by omega), if_neg (by omega)]
          exact congrArg (fun x => (f x).toInt) (by omega)
        · rw [if_neg h18]
          by_cases e18 : j = 18
          · rw [if_pos e18]
            subst e18
            have hi : i < 1 := hi
            have : i = 0 := by omega
            subst this
            rw [(m22 s hs _ (by omega)).1, mv_in (by decide), show ma 18 0 = 246 from rfl, hg]
            unfold cpy stp
            dsimp only
            rw [if_pos (by omega), if_neg (by omega), if_neg (by omega), if_neg (by omega)]
            exact congrArg (fun x => (f x).toInt) (by omega)
          · rw [if_neg e18]
            have : j = 19 := by omega
            subst this
            have hi : i < 4 := hi
            rw [(m22 s hs _ (by omega)).1, mv_in (by exact hi), show ma 19 i = 247 + i from rfl, hg]
            unfold cpy stp
            dsimp only
            rw [if_pos (by omega), if_neg (by omega), if_neg (by omega), if_neg (by omega)]
            exact congrArg (fun x => (f x).toInt) (by omega)
end SR
end
section
/-! THE RELATION: restore in the reference -/
theorem VM.size {U V : VW} {X : Nat → Bool} (h : VM U V X) (a b : Int) : VM (mu (mu U 15 0 a) 16 0 b) (up (up V 3 0 a) 4 0 b) X := by
  have e : ∀ j, j ≠ 3 → j ≠ 4 → up (up V 3 0 a) 4 0 b j = V j := fun j h3 h4 => by rw [up_ne h4, up_ne h3]
  have m : ∀ j, j ≠ 15 → j ≠ 16 → mu (mu U 15 0 a) 16 0 b j = U j := fun j h3 h4 => by rw [mu_ne h4, mu_ne h3]
  unfold VM
  rw [e 8 (by decide) (by decide), e 9 (by decide) (by decide), e 10 (by decide) (by decide), e 11 (by decide) (by decide), e 12 (by decide) (by decide), e 13 (by decide) (by decide), e 14 (by decide) (by decide), e 15 (by decide) (by decide), e 5 (by decide) (by decide), e 1 (by decide) (by decide), e 2 (by decide) (by decide), e 6 (by decide) (by decide), e 7 (by decide) (by decide)]
  rw [m 0 (by decide) (by decide), m 1 (by decide) (by decide), m 2 (by decide) (by decide), m 3 (by decide) (by decide), m 4 (by decide) (by decide), m 5 (by decide) (by decide), m 9 (by decide) (by decide), m 10 (by decide) (by decide), m 11 (by decide) (by decide), m 12 (by decide) (by decide), m 13 (by decide) (by decide), m 14 (by decide) (by decide), m 17 (by decide) (by decide), m 18 (by decide) (by decide), m 19 (by decide) (by decide)]
  obtain ⟨h1, h2, h3, h4, h5, h6, h7, h8⟩ := h
  refine ⟨h1, h2, h3, h4, h5, h6, fun w hw => ⟨(h7 w hw).1, (h7 w hw).2.1, fun q => ?_⟩, h8⟩
  obtain ⟨g1, g2, g3, g4⟩ := (h7 w hw).2.2 q
  refine ⟨g1, g2, ?_, ?_⟩
  · rw [mu_ne (by decide), mu_at, up_ne (by decide), show up V 3 0 a 3 w = if w = 0 then a else V 3 w from up3 (w := 0) (by decide) w, g3]
  · rw [mu_at, mu_ne (by decide), show up (up V 3 0 a) 4 0 b 4 w = if w = 0 then b else up V 3 0 a 4 w from up4 (w := 0) (by decide) w, up_ne (by decide), g4]
section RR
variable {σ : Sg}
/-- the panes' cells come from the slot -/
def rtp (f : Nat → Int32) (at_ n : Nat) : Nat → Int32 := fun c => if c < 6 * n ∧ 3 ≤ c % 6 then f (at_ + 1 + 3 * (c / 6) + (c % 6 - 3)) else f c
theorem m_re80 {at_ p : Nat} (ha : 264 ≤ at_ ∧ at_ ≤ 702) (hp : p < 12) (l3 l4 : Int32) (k70 : Sg → Int32 → Int32 → Int32 → Int32 → Option (Int32 × Sg)) : ∃ σ', fX9_restore_80 462 k70 FU σ (nI at_) l3 l4 (nI p) 0 = k70 σ' (nI at_) l3 l4 (nI (p + 1)) ∧ Out σ σ' 463 463 ∧ σ'.1 463 = cpy (σ.1 463) (at_ + 1 + 3 * p) (6 * p + 3) 3 := by
  refine lp (F := fun n (s : Sg × Int32) => fX9_restore_80 462 k70 n s.1 (nI at_) l3 l4 (nI p) s.2) (Q := fun r => ∃ σ', r = k70 σ' (nI at_) l3 l4 (nI (p + 1)) ∧ Out σ σ' 463 463 ∧ σ'.1 463 = cpy (σ.1 463) (at_ + 1 + 3 * p) (6 * p + 3) 3) (fun i s => s.2 = nI i ∧ Out σ s.1 463 463 ∧ s.1.1 463 = cpy (σ.1 463) (at_ + 1 + 3 * p) (6 * p + 3) i) 3 ?_ ?_ 3 0 FU (σ, 0) rfl (by decide) ⟨rfl, Out.rf, by
    funext c
    unfold cpy
    rw [if_neg (by omega)]⟩
  · rintro n i ⟨s, l⟩ hi ⟨rfl, ho, hv⟩
    simp only at ho hv
    have e3 : (3 : Int32) * nI p = nI (3 * p) := (Int32.ofNat_mul 3 p).symm
    have e6 : (6 : Int32) * nI p = nI (6 * p) := (Int32.ofNat_mul 6 p).symm
    have e0 : (nI at_ + 1 + 3 * nI p) + nI i = nI (at_ + 1 + 3 * p + i) := by rw [e3, j_s, j_a, j_a]
    have e7 : 6 * nI p + (3 + nI i) = nI (6 * p + 3 + i) := by rw [e6, show (3 : Int32) = nI 3 from rfl, j_a, j_a, Nat.add_assoc]
    refine ⟨(su s 463 (6 * p + 3 + i) (s.1 463 (at_ + 1 + 3 * p + i)), nI (i + 1)), ⟨rfl, ho.tr su_out, ?_⟩, ?_⟩
    · show (su s 463 _ _).1 463 = _
      rw [su_row, hv]
      exact cpy_s _ _ _ _ (by omega)
    · show fX9_restore_80 462 k70 (n + 1) s (nI at_) l3 l4 (nI p) (nI i) = fX9_restore_80 462 k70 n _ (nI at_) l3 l4 (nI p) (nI (i + 1))
      have eo : ∀ v, fX9_put s 462 (nI p) (3 + nI i) v = some (su s 463 (6 * p + 3 + i) v) := fun v => by
        unfold fX9_put
        rw [e7, if_pos (j_ckn (by omega) (by decide)), j_cl _ (by omega)]
        rfl
      rw [fX9_restore_80, if_neg (n_ge 3 (m := 3) rfl hi (by decide)), e0, if_pos (j_ckn (by omega) (by decide)), j_cl _ (by omega), eo, j_b, j_s]
  · rintro n ⟨s, l⟩ ⟨rfl, ho, hv⟩
    show ∃ σ', fX9_restore_80 462 k70 (n + 1) s (nI at_) l3 l4 (nI p) (nI 3) = _ ∧ _
    rw [fX9_restore_80, if_pos (n_le 3 (m := 3) rfl (by decide)), j_s]
    exact ⟨s, rfl, ho, hv⟩
theorem m_re166 {at_ : Nat} (ha : 264 ≤ at_ ∧ at_ ≤ 702) (l3 l4 : Int32) : ∃ σ', fX9_restore_166 462 FU σ (nI at_) l3 l4 0 = (fX9_puts σ' 462 0 3 l3).bind (fun σ8 => (fX9_puts σ8 462 0 4 l4).bind fun σ9 => fX9_restore_221 462 FU σ9 0) ∧ Out σ σ' 463 463 ∧ σ'.1 463 = cpy (σ.1 463) (at_ + 181) 216 35 := by
  refine lp (F := fun n (s : Sg × Int32) => fX9_restore_166 462 n s.1 (nI at_) l3 l4 s.2) (Q := fun r => ∃ σ', r = (fX9_puts σ' 462 0 3 l3).bind (fun σ8 => (fX9_puts σ8 462 0 4 l4).bind fun σ9 => fX9_restore_221 462 FU σ9 0) ∧ Out σ σ' 463 463 ∧ σ'.1 463 = cpy (σ.1 463) (at_ + 181) 216 35) (fun i s => s.2 = nI i ∧ Out σ s.1 463 463 ∧ s.1.1 463 = cpy (σ.1 463) (at_ + 181) 216 i) 35 ?_ ?_ 35 0 FU (σ, 0) rfl (by decide) ⟨rfl, Out.rf, by
    funext c
    unfold cpy
    rw [if_neg (by omega)]⟩
  · rintro n i ⟨s, l⟩ hi ⟨rfl, ho, hv⟩
    simp only at ho hv
    have e0 : (nI at_ + 181) + nI i = nI (at_ + 181 + i) := by rw [show (181 : Int32) = nI 181 from rfl, j_a, j_a]
    have e7 : 216 + nI i = nI (216 + i) := j_a 216 i
    refine ⟨(su s 463 (216 + i) (s.1 463 (at_ + 181 + i)), nI (i + 1)), ⟨rfl, ho.tr su_out, ?_⟩, ?_⟩
    · show (su s 463 _ _).1 463 = _
      rw [su_row, hv]
      exact cpy_s _ _ _ _ (by omega)
    · show fX9_restore_166 462 (n + 1) s (nI at_) l3 l4 (nI i) = fX9_restore_166 462 n _ (nI at_) l3 l4 (nI (i + 1))
      rw [fX9_restore_166, if_neg (n_ge 35 (m := 35) rfl hi (by decide)), e7, e0, if_pos (j_ckn (by omega) (by decide)), if_pos (j_ckn (by omega) (by decide)), j_nm, j_cl _ (by omega), j_cl _ (by omega), j_s]
  · rintro n ⟨s, l⟩ ⟨rfl, ho, hv⟩
    simp only at ho hv
    show ∃ σ', fX9_restore_166 462 (n + 1) s (nI at_) l3 l4 (nI 35) = _ ∧ _
    rw [fX9_restore_166, if_pos (n_le 35 (m := 35) rfl (by decide))]
    exact ⟨s, rfl, ho, hv⟩
theorem m_re127 {at_ : Nat} (ha : 264 ≤ at_ ∧ at_ ≤ 702) (l3 l4 : Int32) : ∃ σ', fX9_restore_127 462 FU σ (nI at_) l3 l4 0 = (fX9_puts σ' 462 0 3 l3).bind (fun σ8 => (fX9_puts σ8 462 0 4 l4).bind fun σ9 => fX9_restore_221 462 FU σ9 0) ∧ Out σ σ' 463 463 ∧ σ'.1 463 = cpy (cpy (σ.1 463) (at_ + 37) 72 144) (at_ + 181) 216 35 := by
  refine lp (F := fun n (s : Sg × Int32) => fX9_restore_127 462 n s.1 (nI at_) l3 l4 s.2) (Q := fun r => ∃ σ', r = (fX9_puts σ' 462 0 3 l3).bind (fun σ8 => (fX9_puts σ8 462 0 4 l4).bind fun σ9 => fX9_restore_221 462 FU σ9 0) ∧ Out σ σ' 463 463 ∧ σ'.1 463 = cpy (cpy (σ.1 463) (at_ + 37) 72 144) (at_ + 181) 216 35) (fun i s => s.2 = nI i ∧ Out σ s.1 463 463 ∧ s.1.1 463 = cpy (σ.1 463) (at_ + 37) 72 i) 144 ?_ ?_ 144 0 FU (σ, 0) rfl (by decide) ⟨rfl, Out.rf, by
    funext c
    unfold cpy
    rw [if_neg (by omega)]⟩
  · rintro n i ⟨s, l⟩ hi ⟨rfl, ho, hv⟩
    simp only at ho hv
    have e0 : (nI at_ + 37) + nI i = nI (at_ + 37 + i) := by rw [show (37 : Int32) = nI 37 from rfl, j_a, j_a]
    have e7 : 72 + nI i = nI (72 + i) := j_a 72 i
    refine ⟨(su s 463 (72 + i) (s.1 463 (at_ + 37 + i)), nI (i + 1)), ⟨rfl, ho.tr su_out, ?_⟩, ?_⟩
    · show (su s 463 _ _).1 463 = _
      rw [su_row, hv]
      exact cpy_s _ _ _ _ (by omega)
    · show fX9_restore_127 462 (n + 1) s (nI at_) l3 l4 (nI i) = fX9_restore_127 462 n _ (nI at_) l3 l4 (nI (i + 1))
      rw [fX9_restore_127, if_neg (n_ge 144 (m := 144) rfl hi (by decide)), e7, e0, if_pos (j_ckn (by omega) (by decide)), if_pos (j_ckn (by omega) (by decide)), j_nm, j_cl _ (by omega), j_cl _ (by omega), j_s]
  · rintro n ⟨s, l⟩ ⟨rfl, ho, hv⟩
    simp only at ho hv
    show ∃ σ', fX9_restore_127 462 (n + 1) s (nI at_) l3 l4 (nI 144) = _ ∧ _
    obtain ⟨σ', a, b, c⟩ := m_re166 (σ := s) ha l3 l4
    rw [fX9_restore_127, if_pos (n_le 144 (m := 144) rfl (by decide))]
    exact ⟨σ', a, ho.tr b, by rw [c, hv]⟩
theorem m_re70 {at_ : Nat} (ha : 264 ≤ at_ ∧ at_ ≤ 702) (l3 l4 : Int32) : ∃ σ', fX9_restore_70 462 FU σ (nI at_) l3 l4 0 = (fX9_puts σ' 462 0 3 l3).bind (fun σ8 => (fX9_puts σ8 462 0 4 l4).bind fun σ9 => fX9_restore_221 462 FU σ9 0) ∧ Out σ σ' 463 463 ∧ σ'.1 463 = cpy (cpy (rtp (σ.1 463) at_ 12) (at_ + 37) 72 144) (at_ + 181) 216 35 := by
  refine lp (F := fun n (s : Sg × Int32) => fX9_restore_70 462 n s.1 (nI at_) l3 l4 s.2) (Q := fun r => ∃ σ', r = (fX9_puts σ' 462 0 3 l3).bind (fun σ8 => (fX9_puts σ8 462 0 4 l4).bind fun σ9 => fX9_restore_221 462 FU σ9 0) ∧ Out σ σ' 463 463 ∧ σ'.1 463 = cpy (cpy (rtp (σ.1 463) at_ 12) (at_ + 37) 72 144) (at_ + 181) 216 35) (fun i s => s.2 = nI i ∧ Out σ s.1 463 463 ∧ s.1.1 463 = rtp (σ.1 463) at_ i) 12 ?_ ?_ 12 0 FU (σ, 0) rfl (by decide) ⟨rfl, Out.rf, by
    funext c
    unfold rtp
    rw [if_neg (by omega)]⟩
  · rintro n i ⟨s, l⟩ hi ⟨rfl, ho, hv⟩
    simp only at ho hv
    obtain ⟨σ2, a2, o2, v2⟩ := m_re80 (σ := s) ha hi l3 l4 (fX9_restore_70 462 n)
    refine ⟨(σ2, nI (i + 1)), ⟨rfl, ho.tr o2, ?_⟩, ?_⟩
    · show σ2.1 463 = _
      rw [v2, hv]
      funext c
      unfold cpy rtp
      by_cases q : 6 * i + 3 ≤ c ∧ c < 6 * i + 3 + 3
      · obtain ⟨k, hk, ek⟩ : ∃ k, k < 3 ∧ c = 6 * i + 3 + k := ⟨c - (6 * i + 3), by omega, by omega⟩
        subst ek
        have e1 : (6 * i + 3 + k) / 6 = i := by omega
        have e2 : (6 * i + 3 + k) % 6 - 3 = k := by omega
        have e3 : 6 * i + 3 + k - (6 * i + 3) = k := by omega
        rw [if_pos q, if_neg (by omega), if_pos (by omega), e1, e2, e3]
      · rw [if_neg q]
        by_cases z : c < 6 * i ∧ 3 ≤ c % 6
        · rw [if_pos z, if_pos (by omega)]
        · rw [if_neg z, if_neg (by omega)]
    · show fX9_restore_70 462 (n + 1) s (nI at_) l3 l4 (nI i) = fX9_restore_70 462 n σ2 (nI at_) l3 l4 (nI (i + 1))
      rw [fX9_restore_70, if_neg (n_ge 12 (m := 12) rfl hi (by decide)), a2]
  · rintro n ⟨s, l⟩ ⟨rfl, ho, hv⟩
    simp only at ho hv
    show ∃ σ', fX9_restore_70 462 (n + 1) s (nI at_) l3 l4 (nI 12) = _ ∧ _
    obtain ⟨σ', a, b, c⟩ := m_re127 (σ := s) ha l3 l4
    rw [fX9_restore_70, if_pos (n_le 12 (m := 12) rfl (by decide))]
    exact ⟨σ', a, ho.tr b, by rw [c, hv]⟩
/-- what the cells are then -/
theorem re_row (f : Nat → Int32) {s : Nat} (hs : s < 3) {g : Nat → Int32} (hg : g = cpy (cpy (rtp f (264 + 219 * s) 12) (264 + 219 * s + 37) 72 144) (264 + 219 * s + 181) 216 35) : (∀ j, (j = 6 ∨ j = 7 ∨ j = 8 ∨ 20 ≤ j) → mv g j = mv f j) ∧ ∀ j i, (j < 6 ∨ (9 ≤ j ∧ j < 20)) → i < mw j → mv g j i = sr (mv f (22 + s)) j i := by
  have m22 : ∀ i, i < 219 → mv f (22 + s) i = (f (264 + 219 * s + i)).toInt := fun i hi => by
    have hw : mw (22 + s) = 219 := by
      unfold mw
      rw [if_neg (by omega), if_neg (by omega), if_neg (by omega), if_neg (by omega), if_neg (by omega), if_neg (by omega), if_neg (by omega), if_pos (by omega)]
    have hm : ma (22 + s) i = 264 + 219 * s + i := by
      unfold ma
      rw [if_neg (by omega), if_neg (by omega), if_neg (by omega), if_neg (by omega), if_neg (by omega), if_neg (by omega), if_neg (by omega)]
      omega
    rw [mv_in (by omega), hm]
  refine ⟨fun j hj => ?_, fun j i hj hi => ?_⟩
  · funext i
    unfold mv
    by_cases q : i < mw j
    · rw [if_pos q, if_pos q]
      congr 1
      rw [hg]
      have : (ma j i < 72 ∧ ma j i % 6 < 3) ∨ 251 ≤ ma j i := by
        rcases hj with h | h | h | h
        · obtain ⟨rfl⟩ := h
          have e := ma_p (k := 0) (by decide) i
          have : i < 12 := q
          simp only [Nat.reduceAdd] at e
          omega
        · obtain ⟨rfl⟩ := h
          have e := ma_p (k := 1) (by decide) i
          have : i < 12 := q
          simp only [Nat.reduceAdd] at e
          omega
        · obtain ⟨rfl⟩ := h
          have e := ma_p (k := 2) (by decide) i
          have : i < 12 := q
          simp only [Nat.reduceAdd] at e
          omega
        · right
          unfold ma
          rw [if_neg (by omega), if_neg (by omega), if_neg (by omega), if_neg (by omega), if_neg (by omega)]
          split
          · omega
          · split
            · omega
            · omega
      unfold cpy rtp
      rw [if_neg (by omega), if_neg (by omega), if_neg (by omega)]
    · rw [if_neg q, if_neg q]
  · unfold sr
    rw [if_pos hi]
    rcases hj with hj | ⟨h9, h20⟩
    · rw [if_pos hj]
      rw [mw_n hj] at hi
      rw [m22 _ (by omega), mv_in (by rw [mw_n hj]; exact hi), ma_n hj, hg]
      unfold cpy rtp
      rw [if_neg (by omega), if_pos (by omega), if_neg (by omega)]
      exact congrArg (fun x => (f x).toInt) (by omega)
    · rw [if_neg (by omega)]
      by_cases h12 : j < 12
      · rw [if_pos h12]
        obtain ⟨k, hk⟩ : ∃ k, j = 6 + k := ⟨j - 6, by omega⟩
        subst hk
        rw [mw_p (by omega)] at hi
        rw [m22 _ (by omega), mv_in (by rw [mw_p (by omega)]; exact hi), ma_p (by omega), hg]
        unfold cpy rtp
        rw [if_neg (by omega), if_neg (by omega), if_pos (by omega)]
        exact congrArg (fun x => (f x).toInt) (by omega)
      · rw [if_neg h12]
        by_cases h18 : j < 18
        · rw [if_pos h18]
          obtain ⟨k, hk⟩ : ∃ k, j = 12 + k := ⟨j - 12, by omega⟩
          subst hk
          rw [mw_w (by omega)] at hi
          rw [m22 _ (by omega), mv_in (by rw [mw_w (by omega)]; exact hi), ma_w (by omega), hg]
          unfold cpy rtp
          rw [if_pos (by omega), if_neg (by omega), if_neg (by omega)]
          exact congrArg (fun x => (f x).toInt) (by omega)
        · rw [if_neg h18]
          by_cases e18 : j = 18
          · rw [if_pos e18]
            subst e18
            have hi : i < 1 := hi
            have : i = 0 := by omega
            subst this
            rw [m22 _ (by omega), mv_in (by decide), show ma 18 0 = 246 from rfl, hg]
            unfold cpy rtp
            rw [if_pos (by omega), if_neg (by omega), if_neg (by omega)]
          · rw [if_neg e18]
            have : j = 19 := by omega
            subst this
            have hi : i < 4 := hi
            rw [m22 _ (by omega), mv_in (by exact hi), show ma 19 i = 247 + i from rfl, hg]
            unfold cpy rtp
            rw [if_pos (by omega), if_neg (by omega), if_neg (by omega)]
            exact congrArg (fun x => (f x).toInt) (by omega)
/-- taking away, the floors settled -/
theorem m_re221 {S : ST} {V : VW} {d : Nat → Nat} {wn : Nat → Int} (h6 : ∀ p, p < 12 → mv (σ.1 463) 6 p = if exB S p then 1 else 0) (hV : VM (mv (σ.1 463)) V (fun _ => false)) (hI : Inv V d wn) (ho : OE (mo (mv (σ.1 463)) 20) (S_fo S)) (hd : DI (S_fo S)) (hp : Pn (S_fo S)) : ∃ σ', fX9_restore_221 462 FU σ 0 = some (oI (m_pm (mv (σ'.1 463))), σ') ∧ Out σ σ' 463 463 ∧ VM (mv (σ'.1 463)) (wds (fun q => !exB S q) V 12) (fun _ => false) ∧ OE (mo (mv (σ'.1 463)) 20) (fc (plc (wds (fun q => !exB S q) V 12)) (S_fo S) 12) ∧ FS (mv (σ.1 463)) (mv (σ'.1 463)) := by
  refine lp (F := fun n (s : Sg × Int32) => fX9_restore_221 462 n s.1 s.2) (Q := fun r => ∃ σ', r = some (oI (m_pm (mv (σ'.1 463))), σ') ∧ Out σ σ' 463 463 ∧ VM (mv (σ'.1 463)) (wds (fun q => !exB S q) V 12) (fun _ => false) ∧ OE (mo (mv (σ'.1 463)) 20) (fc (plc (wds (fun q => !exB S q) V 12)) (S_fo S) 12) ∧ FS (mv (σ.1 463)) (mv (σ'.1 463))) (fun i s => s.2 = nI i ∧ Out σ s.1 463 463 ∧ VM (mv (s.1.1 463)) (wds (fun q => !exB S q) V i) (fun _ => false) ∧ FR (mv (σ.1 463)) (mv (s.1.1 463))) 12 ?_ ?_ 12 0 FU (σ, 0) rfl (by decide) ⟨rfl, Out.rf, hV, FR.rf⟩
  · rintro n i ⟨s, l⟩ hi ⟨rfl, hO, hv, hf⟩
    simp only at hO hv hf
    obtain ⟨⟨i1, i2, i3, i4⟩, -⟩ := wds_inv (c := fun q => !exB S q) hI i (by omega)
    have ei : (nI i).toInt = i := j_nI (by omega)
    show ∃ s' : Sg × Int32, _ ∧ fX9_restore_221 462 (n + 1) s (nI i) = _
    rw [fX9_restore_221, if_neg (n_ge 12 (m := 12) rfl hi (by decide)), m_o0 ei hi, j_b, hf 6 (by decide), h6 i hi]
    have ew : wds (fun q => !exB S q) V (i + 1) = if (!exB S i) = true then v_withdraw (wds (fun q => !exB S q) V i) i else wds (fun q => !exB S q) V i := rfl
    cases q : exB S i
    · rw [if_pos (by decide)]
      obtain ⟨σ2, a2, o2, v2, f2⟩ := m_takes hv i1 i2 i3 ei hi
      rw [a2, j_b, fX9_restore_244, j_s]
      rw [q, if_pos (by decide)] at ew
      exact ⟨(σ2, nI (i + 1)), ⟨rfl, hO.tr o2, by rw [ew]; exact v2, hf.tr f2⟩, rfl⟩
    · rw [if_neg (by decide), fX9_restore_244, j_s]
      rw [q, if_neg (by decide)] at ew
      exact ⟨(s, nI (i + 1)), ⟨rfl, hO, by rw [ew]; exact hv, hf⟩, rfl⟩
  · rintro n ⟨s, l⟩ ⟨rfl, hO, hv, hf⟩
    simp only at hO hv hf
    show ∃ σ', fX9_restore_221 462 (n + 1) s (nI 12) = _ ∧ _
    have h9 : ∀ p, p < 12 → decide (mv (s.1 463) 9 p ≠ -1) = plc (wds (fun q => !exB S q) V 12) p := fun p hp => by
      rw [hv.gr hp]
      rfl
    have o2 : OE (mo (mv (s.1 463)) 20) (S_fo S) := by
      have e : mo (mv (s.1 463)) 20 = mo (mv (σ.1 463)) 20 := by
        unfold mo
        rw [hf 20 (by omega), hf 21 (by omega)]
      rw [e]
      exact ho
    obtain ⟨σ3, a3, o3, v3, r3⟩ := m_focuses h9 o2 hd hp
    rw [fX9_restore_221, if_pos (n_le 12 (m := 12) rfl (by decide)), a3, j_b, m_placedMany, j_b]
    refine ⟨σ3, rfl, hO.tr o3, ?_, v3, fun j hj => ?_⟩
    · obtain ⟨⟨-, -, i3, -⟩, -⟩ := wds_inv (c := fun q => !exB S q) hI 12 (Nat.le_refl _)
      exact hv.cg (fl4 i3).2 (fun j i hj _ => by rw [r3 j (by omega) (by omega)])
    · rw [r3 j (by omega) (by omega), hf j (by omega)]
/-- restore, from the saved cells -/
theorem m_restore {S : ST} {s : Nat} (hs : s < 3) {d : Nat → Nat} {wn : Nat → Int} (h : SM (mv (σ.1 463)) S) (hv : svB S s = true) (hI : Inv (v_load (S_sl S s) (S_pl S)) d wn) (hd : DI (S_fo S)) (hp : Pn (S_fo S)) : ∃ σ', fX9_restore_70 462 FU σ (nI (264 + 219 * s)) (oI (mv (σ.1 463) 15 0)) (oI (mv (σ.1 463) 16 0)) 0 = some (oI (m_pm (mv (σ'.1 463))), σ') ∧ Out σ σ' 463 463 ∧ SM (mv (σ'.1 463)) (S.1, S.2.1, S.2.2.1, fc (plc (wds (fun q => !exB S q) (v_load (S_sl S s) (S_pl S)) 12)) (S_fo S) 12, wds (fun q => !exB S q) (v_load (S_sl S s) (S_pl S)) 12, S.2.2.2.2.2) := by
  obtain ⟨h1, h2, h3, h4⟩ := h
  obtain ⟨σ1, a1, o1, v1⟩ := m_re70 (σ := σ) (at_ := 264 + 219 * s) (by omega) (oI (mv (σ.1 463) 15 0)) (oI (mv (σ.1 463) 16 0))
  obtain ⟨r1, r2⟩ := re_row (σ.1 463) hs v1
  obtain ⟨σ2, a2, o2, v2⟩ := m_s3 (σ := σ1) (a := 0) (w := 0) rfl (by decide) (oI (mv (σ.1 463) 15 0))
  obtain ⟨σ3, a3, o3, v3⟩ := m_s4 (σ := σ2) (a := 0) (w := 0) rfl (by decide) (oI (mv (σ.1 463) 16 0))
  rw [t_mv] at v2 v3
  rw [v2] at v3
  have l4 : (S_sl S s) 6 1 ≤ 4 := (fl4 hI.2.2.1).2
  have vm1 : VM (mv (σ1.1 463)) (S_sl S s) (fun _ => false) := ((h4 s hs).2 hv).cg l4 (fun j i hj hi => r2 j i hj hi)
  have vm3 : VM (mv (σ3.1 463)) (v_load (S_sl S s) (S_pl S)) (fun _ => false) := by
    have := vm1.size (mv (σ.1 463) 15 0) (mv (σ.1 463) 16 0)
    rw [v3]
    have g := h2.geo (w := 0) (by decide) (Or.inl rfl)
    rw [g.2.2.1, g.2.2.2] at this ⊢
    exact this
  have f3 : FR (mv (σ.1 463)) (mv (σ3.1 463)) := fun j hj => by
    rw [v3, mu_ne (by omega), mu_ne (by omega), r1 j hj]
  have o4 : OE (mo (mv (σ3.1 463)) 20) (S_fo S) := by
    have e : mo (mv (σ3.1 463)) 20 = mo (mv (σ.1 463)) 20 := by
      unfold mo
      rw [f3 20 (by omega), f3 21 (by omega)]
    rw [e]
    exact h3
  obtain ⟨σ4, a4, o4', v4, w4, f4⟩ := m_re221 (σ := σ3) (S := S) (fun p hp => by rw [f3 6 (by omega)]; exact (h1 p hp).1) vm3 hI o4 hd hp
  refine ⟨σ4, ?_, ((o1.tr o2).tr o3).tr o4', ?_⟩
  · rw [a1, show (fX9_puts σ1 462 0 3 (oI (mv (σ.1 463) 15 0))) = some σ2 from a2, j_b, show (fX9_puts σ2 462 0 4 (oI (mv (σ.1 463) 16 0))) = some σ3 from a3, j_b]
    exact a4
  · have ff : ∀ j, (j = 6 ∨ j = 7 ∨ j = 8 ∨ 22 ≤ j) → mv (σ4.1 463) j = mv (σ.1 463) j := fun j hj => by
      rw [f4 j hj, f3 j (by omega)]
    refine ⟨fun p hp => ?_, v4, w4, fun t ht => ?_⟩
    · rw [ff 6 (by omega), ff 7 (by omega), ff 8 (by omega)]
      exact h1 p hp
    · rw [ff (22 + t) (by omega)]
      exact h4 t ht
end RR
end
section
/-! THE RELATION: sizes, told by equations -/
/-- the greatest of f over those chosen, at least 0 -/
def gx (c : Nat → Bool) (f : Nat → Int) : Nat → Int
  | 0 => 0
  | n + 1 => if c n then (if gx c f n < f n then f n else gx c f n) else gx c f n
theorem gx_congr {c d : Nat → Bool} {f g : Nat → Int} : ∀ {n : Nat}, (∀ i, i < n → c i = d i ∧ (c i = true → f i = g i)) → gx c f n = gx d g n
  | 0, _ => rfl
  | n + 1, h => by
    obtain ⟨a, b⟩ := h n (by omega)
    have r := gx_congr (n := n) (fun i hi => h i (by omega))
    unfold gx
    rw [← a, r]
    cases q : c n
    · rfl
    · rw [b q]
/-- the steps from a node up to its root -/
def dq (V : VW) (n : Nat) : Nat := (fnd (fun k => decide (ga (V 9) 23 (v_top V k n) = -1)) 23).toNat
/-- a split's children, in their order -/
def kids (V : VW) (n : Nat) : List Nat := (List.range (v_cc V n)).map (fun k : Nat => (v_ca V n k).toNat)
section KD
variable {V : VW} {d : Nat → Nat} {wn : Nat → Int} {X : Nat → Bool}
theorem Tree.dqs (h : Tree V d wn X) {n : Nat} (hn : n < 23) (hu : V 8 n ≠ 3) : dq V n ≤ 22 ∧ ga (V 9) 23 (v_top V (dq V n) n) = -1 ∧ ∀ j, j < dq V n → ga (V 9) 23 (v_top V j n) ≠ -1 := by
  obtain ⟨k, m, hk, hm, e, -, r, -⟩ := h.dep hn hu
  rcases fnd_spec (fun k => decide (ga (V 9) 23 (v_top V k n) = -1)) 23 with ⟨-, q⟩ | ⟨i, hi, e1, e2, e3⟩
  · have := q k (by omega)
    rw [e, ga_in hm, r] at this
    cases this
  · have : dq V n = i := by
      unfold dq
      rw [e1]
      rfl
    rw [this]
    refine ⟨by omega, of_decide_eq_true e2, fun j hj => of_decide_eq_false (e3 j hj)⟩
theorem v_top_ch {n s : Nat} (hn : n < 23) (e : V 9 n = s) (k : Nat) : v_top V (k + 1) n = v_top V k s := by
  show (if ga (V 9) 23 n = -1 then (n : Int) else v_top V k (ga (V 9) 23 n)) = _
  rw [ga_in hn, e, if_neg (by omega)]
theorem Tree.dqr (h : Tree V d wn X) {n : Nat} (hn : n < 23) (e : V 9 n = -1) : dq V n = 0 := by
  unfold dq
  rw [fnd_at (i := 0) (by decide) (by
    show decide (ga (V 9) 23 (n : Int) = -1) = true
    rw [ga_in hn, e]
    rfl) (fun k hk => absurd hk (by omega))]
  rfl
theorem Tree.dqc (h : Tree V d wn X) {n s : Nat} (hn : n < 23) (e : V 9 n = s) : dq V n = dq V s + 1 := by
  have hu := h.us hn (by rw [e]; omega)
  obtain ⟨hs, ks, -, -⟩ := h.par hn e
  obtain ⟨a, b, c⟩ := h.dqs hn hu
  obtain ⟨a2, b2, c2⟩ := h.dqs hs (by omega)
  have n0 : dq V n ≠ 0 := fun z => by
    rw [z] at b
    have b : ga (V 9) 23 (n : Int) = -1 := b
    rw [ga_in hn, e] at b
    omega
  obtain ⟨k, hk⟩ : ∃ k, dq V n = k + 1 := ⟨dq V n - 1, by omega⟩
  rw [hk]
  rw [hk, v_top_ch hn e] at b
  rcases Nat.lt_trichotomy k (dq V s) with q | q | q
  · exact absurd b (c2 k q)
  · rw [q]
  · have := c (dq V s + 1) (by omega)
    rw [v_top_ch hn e] at this
    exact absurd b2 this
theorem Tree.kid (h : Tree V d wn X) {s : Nat} (hs : s < 23) (ks : V 8 s ≤ 1) {k : Nat} (hk : k < v_cc V s) : ∃ c : Nat, c < 23 ∧ v_ca V s k = c ∧ V 9 c = s ∧ V 10 c = k ∧ (kids V s)[k]? = some c := by
  obtain ⟨⟨-, nu, un⟩, -⟩ := h.sp hs ks
  have ec : v_cc V s = cnt (fun n => decide (V 9 n = s)) 23 := by
    unfold v_cc
    rw [if_neg (by omega)]
  obtain ⟨c, hc, e1, e2⟩ := nu k (by omega)
  have e1' := of_decide_eq_true e1
  have ea : v_ca V s k = c := by
    unfold v_ca
    rw [if_neg (by omega)]
    refine fnd_un hc (by rw [decide_eq_true e1', decide_eq_true e2]; rfl) (fun j hj z => ?_)
    simp only [Bool.and_eq_true, decide_eq_true_eq] at z
    exact un j c hj hc (decide_eq_true z.1) e1 (by rw [z.2, e2])
  refine ⟨c, hc, ea, e1', e2, ?_⟩
  unfold kids
  rw [List.getElem?_map, List.getElem?_range hk]
  show some (v_ca V s k).toNat = _
  rw [ea]
  rfl
theorem kids_len {s : Nat} : (kids V s).length = v_cc V s := by
  unfold kids
  rw [List.length_map, List.length_range]
theorem Tree.kids_mem (h : Tree V d wn X) {s : Nat} (hs : s < 23) (ks : V 8 s ≤ 1) {c : Nat} : c ∈ kids V s ↔ c < 23 ∧ V 9 c = s := by
  refine ⟨fun q => ?_, fun ⟨hc, e⟩ => ?_⟩
  · obtain ⟨k, hk⟩ := List.mem_iff_getElem?.mp q
    have lt : k < v_cc V s := by
      rw [← kids_len]
      exact (List.getElem?_eq_some_iff.mp hk).1
    obtain ⟨x, a, -, b, -, e⟩ := h.kid hs ks lt
    rw [e] at hk
    have : x = c := Option.some.inj hk
    subst this
    exact ⟨a, b⟩
  · obtain ⟨⟨rg, nu, un⟩, -⟩ := h.sp hs ks
    obtain ⟨r1, r2⟩ := rg c hc (decide_eq_true e)
    have ec : v_cc V s = cnt (fun n => decide (V 9 n = s)) 23 := by
      unfold v_cc
      rw [if_neg (by omega)]
    obtain ⟨x, a, -, b, p, e2⟩ := h.kid hs ks (k := (V 10 c).toNat) (by omega)
    have : x = c := un x c a hc (decide_eq_true b) (decide_eq_true e) (by omega)
    subst this
    exact List.mem_iff_getElem?.mpr ⟨_, e2⟩
theorem Tree.kids_nd (h : Tree V d wn X) {s : Nat} (hs : s < 23) (ks : V 8 s ≤ 1) : (kids V s).Nodup := by
  refine List.pairwise_iff_getElem.mpr (fun i j hi hj hij e => ?_)
  have gi := List.getElem?_eq_getElem hi
  have gj := List.getElem?_eq_getElem hj
  rw [kids_len] at hi hj
  obtain ⟨x, -, -, -, px, ex⟩ := h.kid hs ks (k := i) (by omega)
  obtain ⟨y, -, -, -, py, ey⟩ := h.kid hs ks (k := j) hj
  rw [ex] at gi
  rw [ey] at gj
  have : x = y := by rw [Option.some.inj gi, Option.some.inj gj, e]
  subst this
  omega
end KD
/-- the sum over a list -/
def Sm (f : Nat → Int) : List Nat → Int
  | [] => 0
  | c :: t => f c + Sm f t
/-- sums over a list without repeats are sums over the nodes -/
theorem list_sm (g : Nat → Int) {N : Nat} : ∀ {l : List Nat}, l.Nodup → (∀ x ∈ l, x < N) → Sm g l = sm (fun i => if i ∈ l then g i else 0) N
  | [], _, _ => by
    rw [show (fun i => if i ∈ ([] : List Nat) then g i else 0) = fun _ => 0 from by funext i; simp, sm_0]
    rfl
  | x :: t, hd, hm => by
    rw [List.nodup_cons] at hd
    have r := list_sm g (N := N) hd.2 (fun y hy => hm y (List.mem_cons_of_mem _ hy))
    unfold Sm
    rw [r]
    have := sm_one (g := fun i => if i ∈ t then g i else 0) (h := fun i => if i ∈ x :: t then g i else 0) (i0 := x) (n := N) (hm x (List.mem_cons_self ..)) (fun i _ ne => by
      show (if i ∈ t then g i else 0) = if i ∈ x :: t then g i else 0
      have : (i ∈ x :: t) ↔ i ∈ t := by simp [ne]
      by_cases q : i ∈ t
      · rw [if_pos q, if_pos (this.mpr q)]
      · rw [if_neg q, if_neg (fun z => q (this.mp z))])
    rw [this, if_pos (List.mem_cons_self ..), if_neg hd.1]
    omega
/-- the greatest over a list -/
def lgx (f : Nat → Int) : List Nat → Int
  | [] => 0
  | x :: t => if lgx f t < f x then f x else lgx f t
theorem lgx_le (f : Nat → Int) : ∀ {l : List Nat}, 0 ≤ lgx f l ∧ (∀ x ∈ l, f x ≤ lgx f l) ∧ (lgx f l = 0 ∨ ∃ x ∈ l, lgx f l = f x)
  | [] => ⟨Int.le_refl _, fun x hx => (by cases hx), Or.inl rfl⟩
  | y :: t => by
    obtain ⟨a, b, c⟩ := lgx_le f (l := t)
    unfold lgx
    by_cases q : lgx f t < f y
    · rw [if_pos q]
      refine ⟨by omega, fun x hx => ?_, Or.inr ⟨y, List.mem_cons_self .., rfl⟩⟩
      rcases List.mem_cons.mp hx with rfl | z
      · exact Int.le_refl _
      · have := b x z
        omega
    · rw [if_neg q]
      refine ⟨a, fun x hx => ?_, c.elim Or.inl (fun ⟨x, hx, e⟩ => Or.inr ⟨x, List.mem_cons_of_mem _ hx, e⟩)⟩
      rcases List.mem_cons.mp hx with rfl | z
      · omega
      · exact b x z
theorem gx_le (c : Nat → Bool) (f : Nat → Int) : ∀ n, 0 ≤ gx c f n ∧ (∀ x, x < n → c x = true → f x ≤ gx c f n) ∧ (gx c f n = 0 ∨ ∃ x, x < n ∧ c x = true ∧ gx c f n = f x)
  | 0 => ⟨Int.le_refl _, fun x hx => absurd hx (by omega), Or.inl rfl⟩
  | n + 1 => by
    obtain ⟨a, b, r⟩ := gx_le c f n
    unfold gx
    cases q : c n
    · rw [if_neg (by decide)]
      refine ⟨a, fun x hx hc => ?_, r.elim Or.inl (fun ⟨x, hx, e⟩ => Or.inr ⟨x, by omega, e⟩)⟩
      have : x ≠ n := fun z => by rw [z, q] at hc; cases hc
      exact b x (by omega) hc
    · rw [if_pos rfl]
      by_cases z : gx c f n < f n
      · rw [if_pos z]
        refine ⟨by omega, fun x hx hc => ?_, Or.inr ⟨n, by omega, q, rfl⟩⟩
        by_cases y : x = n
        · rw [y]
          exact Int.le_refl _
        · have := b x (by omega) hc
          omega
      · rw [if_neg z]
        refine ⟨a, fun x hx hc => ?_, r.elim Or.inl (fun ⟨x, hx, e⟩ => Or.inr ⟨x, by omega, e⟩)⟩
        by_cases y : x = n
        · rw [y]
          omega
        · exact b x (by omega) hc
theorem lgx_gx (f : Nat → Int) {l : List Nat} {N : Nat} (c : Nat → Bool) (h : ∀ x, x ∈ l ↔ x < N ∧ c x = true) : lgx f l = gx c f N := by
  obtain ⟨a, b, r⟩ := lgx_le f (l := l)
  obtain ⟨a2, b2, r2⟩ := gx_le c f N
  have h1 : lgx f l ≤ gx c f N := by
    rcases r with z | ⟨x, hx, e⟩
    · omega
    · have := b2 x ((h x).mp hx).1 ((h x).mp hx).2
      omega
  have h2 : gx c f N ≤ lgx f l := by
    rcases r2 with z | ⟨x, hx, hc, e⟩
    · omega
    · have := b x ((h x).mpr ⟨hx, hc⟩)
      omega
  omega
theorem lgx_snoc (f : Nat → Int) (y : Nat) : ∀ (l : List Nat), lgx f (l ++ [y]) = if lgx f l < f y then f y else lgx f l := by
  intro l
  obtain ⟨a, b, r⟩ := lgx_le f (l := l)
  obtain ⟨a2, b2, r2⟩ := lgx_le f (l := l ++ [y])
  have y2 := b2 y (by simp)
  have l2 : ∀ x ∈ l, f x ≤ lgx f (l ++ [y]) := fun x hx => b2 x (by simp [hx])
  have u : lgx f (l ++ [y]) = 0 ∨ lgx f (l ++ [y]) = f y ∨ ∃ x ∈ l, lgx f (l ++ [y]) = f x := by
    rcases r2 with z | ⟨x, hx, e⟩
    · exact Or.inl z
    · rcases List.mem_append.mp hx with q | q
      · exact Or.inr (Or.inr ⟨x, q, e⟩)
      · have : x = y := by simpa using q
        exact Or.inr (Or.inl (by rw [e, this]))
  have lo : lgx f l ≤ lgx f (l ++ [y]) := by
    rcases r with z | ⟨x, hx, e⟩
    · omega
    · have := l2 x hx
      omega
  rcases u with z | z | ⟨x, hx, e⟩
  · split <;> omega
  · split <;> omega
  · have := b x hx
    split <;> omega
/-- how many members of a list there are -/
theorem list_cnt {N : Nat} {l : List Nat} (c : Nat → Bool) (hd : l.Nodup) (h : ∀ x, x ∈ l ↔ x < N ∧ c x = true) : (l.length : Int) = cnt c N := by
  have e := list_sm (fun _ => 1) (N := N) hd (fun x hx => ((h x).mp hx).1)
  have l1 : Sm (fun _ => (1 : Int)) l = l.length := by
    clear hd h e
    induction l with
    | nil => rfl
    | cons x t ih =>
      unfold Sm
      rw [ih, List.length_cons]
      omega
  rw [← l1, e, ← sm_cnt]
  refine sm_congr (fun i hi => ?_)
  by_cases q : i ∈ l
  · rw [if_pos q, if_pos ((h i).mp q).2]
  · rw [if_neg q, if_neg (fun z => q ((h i).mpr ⟨hi, z⟩))]
theorem Sm_congr {f g : Nat → Int} : ∀ {l : List Nat}, (∀ c ∈ l, f c = g c) → Sm f l = Sm g l
  | [], _ => rfl
  | c :: t, h => by
    unfold Sm
    rw [h c (List.mem_cons_self ..), Sm_congr (l := t) (fun x hx => h x (List.mem_cons_of_mem _ hx))]
theorem Sm_add (f g : Nat → Int) : ∀ (l : List Nat), Sm (fun c => f c + g c) l = Sm f l + Sm g l
  | [] => rfl
  | c :: t => by
    unfold Sm
    rw [Sm_add f g t]
    omega
theorem Sm_le {f g : Nat → Int} : ∀ {l : List Nat}, (∀ c ∈ l, f c ≤ g c) → Sm f l ≤ Sm g l
  | [], _ => Int.le_refl _
  | c :: t, h => by
    unfold Sm
    have := h c (List.mem_cons_self ..)
    have := Sm_le (l := t) (fun x hx => h x (List.mem_cons_of_mem _ hx))
    omega
theorem Sm_lt {f g : Nat → Int} : ∀ {l : List Nat} {x : Nat}, (∀ c ∈ l, f c ≤ g c) → x ∈ l → f x < g x → Sm f l < Sm g l
  | [], _, _, hx, _ => by cases hx
  | c :: t, x, h, hx, lt => by
    unfold Sm
    have a := h c (List.mem_cons_self ..)
    have b := Sm_le (l := t) (fun x hx => h x (List.mem_cons_of_mem _ hx))
    rcases List.mem_cons.mp hx with rfl | z
    · omega
    · have := Sm_lt (l := t) (fun x hx => h x (List.mem_cons_of_mem _ hx)) z lt
      omega
theorem Sm_0 : ∀ (l : List Nat), Sm (fun _ => 0) l = 0
  | [] => rfl
  | c :: t => by
    unfold Sm
    rw [Sm_0 t]
    rfl
theorem Sm_nn {f : Nat → Int} {l : List Nat} (h : ∀ c ∈ l, 0 ≤ f c) : 0 ≤ Sm f l := by
  rw [← Sm_0 l]
  exact Sm_le h
theorem Sm_mul (a : Int) (f : Nat → Int) : ∀ (l : List Nat), Sm (fun c => a * f c) l = a * Sm f l
  | [] => by
    unfold Sm
    rw [Int.mul_zero]
  | c :: t => by
    unfold Sm
    rw [Sm_mul a f t, Int.mul_add]
theorem Sm_mem {f : Nat → Int} : ∀ {l : List Nat} {x : Nat}, (∀ c ∈ l, 0 ≤ f c) → x ∈ l → f x ≤ Sm f l
  | [], _, _, hx => by cases hx
  | c :: t, x, h, hx => by
    unfold Sm
    have a := h c (List.mem_cons_self ..)
    have b := Sm_nn (l := t) (fun x hx => h x (List.mem_cons_of_mem _ hx))
    rcases List.mem_cons.mp hx with rfl | z
    · omega
    · have := Sm_mem (l := t) (fun x hx => h x (List.mem_cons_of_mem _ hx)) z
      omega
theorem Sm_app (f : Nat → Int) : ∀ (l t : List Nat), Sm f (l ++ t) = Sm f l + Sm f t
  | [], t => by
    show Sm f t = 0 + Sm f t
    omega
  | c :: l, t => by
    show f c + Sm f (l ++ t) = f c + Sm f l + Sm f t
    rw [Sm_app f l t]
    omega
/-- one member's value changes -/
theorem Sm_one {f g : Nat → Int} : ∀ {l : List Nat} {x : Nat}, l.Nodup → x ∈ l → (∀ c ∈ l, c ≠ x → f c = g c) → Sm g l = Sm f l + (g x - f x)
  | [], _, _, hx, _ => by cases hx
  | c :: t, x, hd, hx, h => by
    unfold Sm
    rw [List.nodup_cons] at hd
    by_cases q : c = x
    · subst q
      rw [Sm_congr (f := f) (g := g) (l := t) (fun y hy => h y (List.mem_cons_of_mem _ hy) (fun z => hd.1 (z ▸ hy)))]
      omega
    · have : x ∈ t := by
        rcases List.mem_cons.mp hx with rfl | z
        · exact absurd rfl q
        · exact z
      rw [Sm_one hd.2 this (fun y hy => h y (List.mem_cons_of_mem _ hy)), h c (List.mem_cons_self ..) q]
      omega
end
section
/-! THE RELATION: the sharing of room -/
/-- closed parts' room; open parts' weight -/
def xc (pl : List Nat) (m : Nat → Int) (op : Nat → Bool) : Int := Sm (fun c => if op c then 0 else m c) pl
def xw (pl : List Nat) (w : Nat → Int) (op : Nat → Bool) : Int := Sm (fun c => if op c then w c else 0) pl
/-- an open part's share, and what is left of it -/
def xq (pl : List Nat) (room : Int) (m w : Nat → Int) (op : Nat → Bool) (c : Nat) : Int := (room - xc pl m op) * w c / xw pl w op
def xr (pl : List Nat) (room : Int) (m w : Nat → Int) (op : Nat → Bool) (c : Nat) : Int := (room - xc pl m op) * w c % xw pl w op
/-- the parts open after one round -/
def xo (pl : List Nat) (room : Int) (m w : Nat → Int) (op : Nat → Bool) : Nat → Bool := fun c => op c && decide (m c ≤ xq pl room m w op c)
def xa (pl : List Nat) (op op' : Nat → Bool) : Bool := pl.any (fun c => op c && !op' c)
def xg (pl : List Nat) (room : Int) (m w : Nat → Int) : Nat → (Nat → Bool) → (Nat → Bool)
  | 0, op => op
  | n + 1, op => if xa pl op (xo pl room m w op) then xg pl room m w n (xo pl room m w op) else op
/-- the first part of the greatest rest -/
def xp (r : Nat → Int) (op : Nat → Bool) : List Nat → Int → Int → Int
  | [], b, _ => b
  | c :: t, b, v => if op c && decide (v < r c) then xp r op t c (r c) else xp r op t b v
def xs (pl : List Nat) (r : Nat → Int) : Nat → (Nat → Bool) → (Nat → Int) → (Nat → Int)
  | 0, _, sh => sh
  | n + 1, op, sh => xs pl r n (fun c => op c && !decide (c = (xp r op pl (-1) (-1)).toNat)) (fun c => if c = (xp r op pl (-1) (-1)).toNat then sh c + 1 else sh c)
/-- too little room: in order, as much as is needed -/
def xm (m : Nat → Int) : List Nat → Int → Nat → Int
  | [], _ => fun _ => 0
  | c :: t, r => fun x => if x = c then (if r < m c then r else m c) else xm m t (r - (if r < m c then r else m c)) x
/-- what is given before the rest is -/
def xe (pl : List Nat) (room : Int) (m w : Nat → Int) (op : Nat → Bool) : Nat → Int := fun c => if op c then xq pl room m w op c else m c
def share (pl : List Nat) (room : Int) (m w : Nat → Int) : Nat → Int :=
  if Sm m pl < room then xs pl (xr pl room m w (xg pl room m w 24 (fun c => decide (c ∈ pl)))) (room - Sm (xe pl room m w (xg pl room m w 24 (fun c => decide (c ∈ pl)))) pl).toNat (xg pl room m w 24 (fun c => decide (c ∈ pl))) (xe pl room m w (xg pl room m w 24 (fun c => decide (c ∈ pl)))) else xm m pl room
section SHR
variable {pl : List Nat} {room : Int} {m w : Nat → Int}
/-- how many are open -/
def xn (pl : List Nat) (op : Nat → Bool) : Int := Sm (fun c => if op c then 1 else 0) pl
theorem xn_le (op : Nat → Bool) : ∀ (pl : List Nat), 0 ≤ xn pl op ∧ xn pl op ≤ pl.length
  | [] => ⟨Int.le_refl _, Int.le_refl _⟩
  | c :: t => by
    have := xn_le op t
    have e : xn (c :: t) op = (if op c = true then (1 : Int) else 0) + xn t op := rfl
    rw [e, List.length_cons]
    split <;> omega
theorem xn_pos {op : Nat → Bool} {c : Nat} (hc : c ∈ pl) (h : op c = true) : 1 ≤ xn pl op := by
  have := Sm_mem (f := fun c => if op c then (1 : Int) else 0) (l := pl) (fun c _ => by show 0 ≤ (if op c then (1 : Int) else 0); split <;> omega) hc
  simp only [h, if_true] at this
  exact this
theorem xn_ex {op : Nat → Bool} : ∀ {pl : List Nat}, 1 ≤ xn pl op → ∃ c ∈ pl, op c = true
  | [], h => by
    unfold xn Sm at h
    omega
  | c :: t, h => by
    cases q : op c
    · have : xn (c :: t) op = xn t op := by
        show (if op c = true then (1 : Int) else 0) + xn t op = _
        rw [q]
        simp
      obtain ⟨x, hx, e⟩ := xn_ex (op := op) (pl := t) (by omega)
      exact ⟨x, List.mem_cons_of_mem _ hx, e⟩
    · exact ⟨c, List.mem_cons_self .., q⟩
/-- the hypotheses on the parts -/
def XP (pl : List Nat) (m w : Nat → Int) : Prop := pl.Nodup ∧ (∀ c ∈ pl, 0 ≤ m c) ∧ ∀ c ∈ pl, 1 ≤ w c
theorem xw_pos (h : XP pl m w) {op : Nat → Bool} {c : Nat} (hc : c ∈ pl) (ho : op c = true) : 1 ≤ xw pl w op := by
  have := Sm_mem (f := fun c => if op c then w c else 0) (l := pl) (fun c hc => by
    show 0 ≤ (if op c then w c else 0)
    have := h.2.2 c hc
    split <;> omega) hc
  simp only [ho, if_true] at this
  have := h.2.2 c hc
  unfold xw
  omega
theorem xc_open (m : Nat → Int) (op : Nat → Bool) (pl : List Nat) : Sm m pl = xc pl m op + Sm (fun c => if op c then m c else 0) pl := by
  unfold xc
  rw [← Sm_add]
  refine Sm_congr (fun c _ => ?_)
  show m c = (if op c then 0 else m c) + (if op c then m c else 0)
  cases op c <;> simp
/-- there is more left for the open ones than they need -/
theorem xc_lt (hs : Sm m pl < room) (op : Nat → Bool) : Sm (fun c => if op c then m c else 0) pl < room - xc pl m op := by
  have := xc_open m op pl
  omega
theorem xo_ne (h : XP pl m w) (hs : Sm m pl < room) {op : Nat → Bool} (ho : 1 ≤ xn pl op) : 1 ≤ xn pl (xo pl room m w op) := by
  obtain ⟨x, hx, ex⟩ := xn_ex ho
  have hw := xw_pos h hx ex
  refine Classical.byContradiction (fun no => ?_)
  have all : ∀ c ∈ pl, op c = true → xq pl room m w op c < m c := fun c hc oc => by
    refine Classical.byContradiction (fun z => no (xn_pos hc ?_))
    unfold xo
    rw [oc, decide_eq_true (by omega)]
    rfl
  have lt : ∀ c ∈ pl, op c = true → (room - xc pl m op) * w c < m c * xw pl w op := fun c hc oc => by
    have := all c hc oc
    unfold xq at this
    exact (Int.ediv_lt_iff_lt_mul (by omega)).mp this
  have s1 : Sm (fun c => (room - xc pl m op) * (if op c then w c else 0)) pl < Sm (fun c => xw pl w op * (if op c then m c else 0)) pl := by
    refine Sm_lt (x := x) (fun c hc => ?_) hx ?_
    · show (room - xc pl m op) * (if op c then w c else 0) ≤ xw pl w op * (if op c then m c else 0)
      cases oc : op c
      · simp
      · have := lt c hc oc
        simp only [if_true]
        rw [Int.mul_comm (xw pl w op)]
        omega
    · show (room - xc pl m op) * (if op x then w x else 0) < xw pl w op * (if op x then m x else 0)
      have := lt x hx ex
      simp only [ex, if_true]
      rw [Int.mul_comm (xw pl w op)]
      omega
  rw [Sm_mul, Sm_mul] at s1
  have e1 : Sm (fun c => if op c then w c else 0) pl = xw pl w op := rfl
  rw [e1, Int.mul_comm] at s1
  have := Int.lt_of_mul_lt_mul_left s1 (by omega)
  have := xc_lt hs op
  omega
theorem xo_in {op : Nat → Bool} (c : Nat) (h : xo pl room m w op c = true) : op c = true := by
  unfold xo at h
  simp only [Bool.and_eq_true] at h
  exact h.1
theorem xn_mono {op op' : Nat → Bool} (h : ∀ c, op' c = true → op c = true) : xn pl op' ≤ xn pl op := by
  refine Sm_le (fun c _ => ?_)
  show (if op' c then (1 : Int) else 0) ≤ if op c then 1 else 0
  cases q : op' c
  · cases op c <;> simp
  · rw [h c q]
    simp
theorem xa_lt {op op' : Nat → Bool} (h : ∀ c, op' c = true → op c = true) (ha : xa pl op op' = true) : xn pl op' < xn pl op := by
  unfold xa at ha
  rw [List.any_eq_true] at ha
  obtain ⟨x, hx, e⟩ := ha
  simp only [Bool.and_eq_true, Bool.not_eq_true'] at e
  refine Sm_lt (x := x) (fun c _ => ?_) hx ?_
  · show (if op' c then (1 : Int) else 0) ≤ if op c then 1 else 0
    cases q : op' c
    · cases op c <;> simp
    · rw [h c q]
      simp
  · show (if op' x then (1 : Int) else 0) < if op x then 1 else 0
    rw [e.1, e.2]
    simp
theorem xg_ok (h : XP pl m w) (hs : Sm m pl < room) : ∀ (n : Nat) (op : Nat → Bool), 1 ≤ xn pl op → xn pl op ≤ n → (∀ c, xg pl room m w n op c = true → op c = true) ∧ 1 ≤ xn pl (xg pl room m w n op) ∧ xa pl (xg pl room m w n op) (xo pl room m w (xg pl room m w n op)) = false
  | 0, op, h1, h2 => absurd h1 (by omega)
  | n + 1, op, h1, h2 => by
    unfold xg
    cases q : xa pl op (xo pl room m w op)
    · rw [if_neg (by decide)]
      exact ⟨fun c z => z, h1, q⟩
    · rw [if_pos rfl]
      have lt := xa_lt (op := op) (op' := xo pl room m w op) (fun c => xo_in c) q
      obtain ⟨a, b, c⟩ := xg_ok h hs n (xo pl room m w op) (xo_ne h hs h1) (by omega)
      exact ⟨fun c z => xo_in c (a c z), b, c⟩
/-- the rest is less than the open ones are -/
theorem xe_rest (h : XP pl m w) {op : Nat → Bool} (ho : 1 ≤ xn pl op) (hs : Sm m pl < room) : 0 ≤ room - Sm (xe pl room m w op) pl ∧ room - Sm (xe pl room m w op) pl < xn pl op := by
  obtain ⟨x, hx, ex⟩ := xn_ex ho
  have hw := xw_pos h hx ex
  have e1 : Sm (xe pl room m w op) pl = xc pl m op + Sm (fun c => if op c then xq pl room m w op c else 0) pl := by
    unfold xc
    rw [← Sm_add]
    refine Sm_congr (fun c _ => ?_)
    show (if op c then xq pl room m w op c else m c) = (if op c then 0 else m c) + (if op c then xq pl room m w op c else 0)
    cases op c <;> simp
  have e2 : (room - xc pl m op) * xw pl w op = xw pl w op * Sm (fun c => if op c then xq pl room m w op c else 0) pl + Sm (fun c => if op c then xr pl room m w op c else 0) pl := by
    rw [← Sm_mul, ← Sm_add]
    show (room - xc pl m op) * Sm (fun c => if op c then w c else 0) pl = _
    rw [← Sm_mul]
    refine Sm_congr (fun c _ => ?_)
    show (room - xc pl m op) * (if op c then w c else 0) = xw pl w op * (if op c then xq pl room m w op c else 0) + (if op c then xr pl room m w op c else 0)
    cases op c
    · simp
    · simp only [if_true]
      unfold xq xr
      have := Int.mul_ediv_add_emod ((room - xc pl m op) * w c) (xw pl w op)
      omega
  have n0 : 0 ≤ Sm (fun c => if op c then xr pl room m w op c else 0) pl := Sm_nn (fun c _ => by
    show 0 ≤ if op c then xr pl room m w op c else 0
    cases op c
    · simp
    · simp only [if_true]
      exact Int.emod_nonneg _ (by omega))
  have n1 : Sm (fun c => if op c then xr pl room m w op c else 0) pl < xw pl w op * xn pl op := by
    unfold xn
    rw [← Sm_mul]
    refine Sm_lt (x := x) (fun c _ => ?_) hx ?_
    · show (if op c then xr pl room m w op c else 0) ≤ xw pl w op * (if op c then 1 else 0)
      cases op c
      · simp
      · simp only [if_true]
        have := Int.emod_lt_of_pos ((room - xc pl m op) * w c) (b := xw pl w op) (by omega)
        unfold xr
        omega
    · show (if op x then xr pl room m w op x else 0) < xw pl w op * (if op x then 1 else 0)
      simp only [ex, if_true]
      have := Int.emod_lt_of_pos ((room - xc pl m op) * w x) (b := xw pl w op) (by omega)
      unfold xr
      omega
  generalize Sm (fun c => if op c then xq pl room m w op c else 0) pl = Q at *
  generalize Sm (fun c => if op c then xr pl room m w op c else 0) pl = Rr at *
  generalize xw pl w op = W at *
  generalize xn pl op = N at *
  have e3 : (room - xc pl m op - Q) * W = Rr := by
    rw [Int.sub_mul, e2, Int.mul_comm Q W]
    omega
  rw [e1]
  have ek : room - (xc pl m op + Q) = room - xc pl m op - Q := by omega
  rw [ek]
  generalize room - xc pl m op - Q = K at *
  refine ⟨?_, ?_⟩
  · refine Classical.byContradiction (fun z => ?_)
    have := Int.mul_le_mul_of_nonneg_right (show K ≤ -1 by omega) (show 0 ≤ W by omega)
    omega
  · refine Classical.byContradiction (fun z => ?_)
    have := Int.mul_le_mul_of_nonneg_right (show N ≤ K by omega) (show 0 ≤ W by omega)
    rw [Int.mul_comm W N] at n1
    omega
/-- the first of the greatest rest is an open part -/
theorem xp_in {r : Nat → Int} {op : Nat → Bool} : ∀ (l : List Nat) (b v : Int), (∃ c ∈ l, op c = true ∧ v < r c) → ∃ c ∈ l, op c = true ∧ xp r op l b v = c
  | [], b, v, ⟨c, hc, _⟩ => by cases hc
  | x :: t, b, v, ⟨c, hc, oc, lt⟩ => by
    unfold xp
    cases q : (op x && decide (v < r x))
    · rw [if_neg (by decide)]
      have ct : c ∈ t := by
        rcases List.mem_cons.mp hc with rfl | z
        · rw [oc, decide_eq_true lt] at q
          cases q
        · exact z
      obtain ⟨y, hy, a, e⟩ := xp_in t b v ⟨c, ct, oc, lt⟩
      exact ⟨y, List.mem_cons_of_mem _ hy, a, e⟩
    · rw [if_pos rfl]
      simp only [Bool.and_eq_true, decide_eq_true_eq] at q
      by_cases z : ∃ c ∈ t, op c = true ∧ r x < r c
      · obtain ⟨y, hy, a, e⟩ := xp_in t x (r x) z
        exact ⟨y, List.mem_cons_of_mem _ hy, a, e⟩
      · refine ⟨x, List.mem_cons_self .., q.1, ?_⟩
        exact xp_no t x (r x) (fun c hc oc => Int.not_lt.mp (fun lt => z ⟨c, hc, oc, lt⟩))
where xp_no {r : Nat → Int} {op : Nat → Bool} : ∀ (l : List Nat) (b v : Int), (∀ c ∈ l, op c = true → r c ≤ v) → xp r op l b v = b
  | [], _, _, _ => rfl
  | x :: t, b, v, h => by
    unfold xp
    rw [if_neg (by
      intro z
      simp only [Bool.and_eq_true, decide_eq_true_eq] at z
      have := h x (List.mem_cons_self ..) z.1
      omega)]
    exact xp_no t b v (fun c hc => h c (List.mem_cons_of_mem _ hc))
theorem xs_sum {r : Nat → Int} (hd : pl.Nodup) (hr : ∀ c ∈ pl, 0 ≤ r c) : ∀ (n : Nat) (op : Nat → Bool) (sh : Nat → Int), (n : Int) ≤ xn pl op → Sm (xs pl r n op sh) pl = Sm sh pl + n ∧ ∀ c, sh c ≤ xs pl r n op sh c
  | 0, op, sh, _ => ⟨by
    show Sm sh pl = Sm sh pl + 0
    omega, fun c => Int.le_refl _⟩
  | n + 1, op, sh, h => by
    obtain ⟨c, hc, oc⟩ := xn_ex (pl := pl) (op := op) (by omega)
    obtain ⟨x, hx, ox, ex⟩ := xp_in (r := r) pl (-1) (-1) ⟨c, hc, oc, by have := hr c hc; omega⟩
    have en : (xp r op pl (-1) (-1)).toNat = x := by rw [ex]; rfl
    unfold xs
    rw [en]
    have e1 : xn pl (fun c => op c && !decide (c = x)) = xn pl op - 1 := by
      have := Sm_one (f := fun c => if op c then (1 : Int) else 0) (g := fun c => if (op c && !decide (c = x)) then (1 : Int) else 0) hd hx (fun c _ ne => by
        show (if op c = true then (1 : Int) else 0) = if (op c && !decide (c = x)) = true then 1 else 0
        rw [decide_eq_false ne]
        simp)
      simp only [ox, decide_true, Bool.not_true, Bool.and_false, if_true] at this
      unfold xn
      rw [this]
      simp
      omega
    obtain ⟨a, b⟩ := xs_sum hd hr n (fun c => op c && !decide (c = x)) (fun c => if c = x then sh c + 1 else sh c) (by omega)
    have e2 := Sm_one (f := sh) (g := fun c => if c = x then sh c + 1 else sh c) hd hx (fun c _ ne => by
      show sh c = if c = x then sh c + 1 else sh c
      rw [if_neg ne])
    simp only [if_true] at e2
    refine ⟨by rw [a, e2]; omega, fun c => ?_⟩
    have := b c
    split at this <;> omega
theorem xm_rg : ∀ (pl : List Nat) (room : Int), 0 ≤ room → (∀ c ∈ pl, 0 ≤ m c) → ∀ c ∈ pl, 0 ≤ xm m pl room c ∧ xm m pl room c ≤ room
  | [], _, _, _, c, hc => by cases hc
  | x :: t, room, h0, hm, c, hc => by
    have := hm x (List.mem_cons_self ..)
    unfold xm
    by_cases q : c = x
    · simp only [q, if_true]
      split <;> omega
    · simp only [q, if_false]
      have ct : c ∈ t := (List.mem_cons.mp hc).elim (fun z => absurd z q) id
      obtain ⟨a, b⟩ := xm_rg t (room - (if room < m x then room else m x)) (by split <;> omega) (fun c hc => hm c (List.mem_cons_of_mem _ hc)) c ct
      refine ⟨a, ?_⟩
      have : 0 ≤ (if room < m x then room else m x) := by split <;> omega
      omega
/-- a share is at least 0 and no more than the room -/
theorem share_rg (h : XP pl m w) (h0 : 0 ≤ room) (h24 : pl.length ≤ 24) {c : Nat} (hc : c ∈ pl) : 0 ≤ share pl room m w c ∧ share pl room m w c ≤ room := by
  unfold share
  by_cases q : Sm m pl < room
  · rw [if_pos q]
    have o1 : 1 ≤ xn pl (fun c => decide (c ∈ pl)) := xn_pos hc (decide_eq_true hc)
    have o2 := (xn_le (fun c => decide (c ∈ pl)) pl).2
    obtain ⟨a, b, -⟩ := xg_ok h q 24 (fun c => decide (c ∈ pl)) o1 (by omega)
    obtain ⟨r1, r2⟩ := xe_rest h b q
    generalize xg pl room m w 24 (fun c => decide (c ∈ pl)) = op at *
    obtain ⟨x, hx, ex⟩ := xn_ex b
    have hw := xw_pos h hx ex
    have rr : ∀ c ∈ pl, 0 ≤ xr pl room m w op c := fun c _ => Int.emod_nonneg _ (by omega)
    obtain ⟨s1, s2⟩ := xs_sum (r := xr pl room m w op) h.1 rr (room - Sm (xe pl room m w op) pl).toNat op (xe pl room m w op) (by omega)
    have nn : ∀ c ∈ pl, 0 ≤ xe pl room m w op c := fun c hc => by
      unfold xe
      cases oc : op c
      · exact h.2.1 c hc
      · simp only [if_true]
        unfold xq
        have l0 := xc_lt q op
        have l1 : 0 ≤ Sm (fun c => if op c then m c else 0) pl := Sm_nn (fun c hc => by
          show 0 ≤ if op c then m c else 0
          have := h.2.1 c hc
          split <;> omega)
        refine Int.ediv_nonneg (Int.mul_nonneg (by omega) ?_) (by omega)
        have := h.2.2 c hc
        omega
    have n2 : ∀ c ∈ pl, 0 ≤ xs pl (xr pl room m w op) (room - Sm (xe pl room m w op) pl).toNat op (xe pl room m w op) c := fun c hc => by
      have := nn c hc
      have := s2 c
      omega
    have := Sm_mem n2 hc
    rw [s1] at this
    exact ⟨n2 c hc, by omega⟩
  · rw [if_neg q]
    exact xm_rg pl room h0 h.2.1 c hc
end SHR
end
section
/-! THE RELATION: a plan, told by equations; there is but one -/
def vis (V : VW) (n : Nat) (p : Nat) : Bool := decide (V 13 p = n) && decide (V 15 p = 0)
def pls (V P : VW) (n : Nat) : List Nat := (kids V n).filter (fun c => decide (P 1 c = 1))
def lm (pl : List Nat) (f : Nat → Int) : Nat → Int := fun c => if c ∈ pl then f c else 0
def dr (V : VW) (n : Nat) : Nat := (V 8 n).toNat
def LG (V : VW) (mw mh : Nat → Int) (P : VW) (n : Nat) : Prop :=
  (P 1 n = 0 ∨ P 1 n = 1) ∧ (P 1 n = 1 ↔ ∃ p, p < 12 ∧ vis V n p = true) ∧ (P 1 n = 1 → P 2 n = gx (vis V n) mw 12 ∧ P 3 n = gx (vis V n) mh 12 + 1)
def LT (V P : VW) (n : Nat) : Prop :=
  (P 1 n = 0 ∨ P 1 n = 1) ∧ (P 1 n = 1 ↔ ∃ c, c < 23 ∧ V 9 c = n ∧ P 1 c = 1) ∧
  (P 1 n = 1 → P (2 + dr V n) n = (oI (Sm (P (2 + dr V n)) (pls V P n) + (pls V P n).length - 1)).toInt ∧ P (3 - dr V n) n = lgx (P (3 - dr V n)) (pls V P n))
def lrm (V P : VW) (n : Nat) : Int := if 0 < P (6 + dr V n) n - ((pls V P n).length - 1) then P (6 + dr V n) n - ((pls V P n).length - 1) else 0
def lsh (V P : VW) (n : Nat) : Nat → Int := share (pls V P n) (lrm V P n) (lm (pls V P n) (P (2 + dr V n))) (lm (pls V P n) (V 11))
def LA (V P : VW) (n : Nat) : Prop := ∀ k c, (pls V P n)[k]? = some c →
  P (6 + dr V n) c = lsh V P n c ∧ P (7 - dr V n) c = P (7 - dr V n) n ∧ P (4 + dr V n) c = (oI (P (4 + dr V n) n + Sm (fun x => lsh V P n x + 1) ((pls V P n).take k))).toInt ∧ P (5 - dr V n) c = P (5 - dr V n) n
def LR (V P : VW) : Prop := ∀ w n : Nat, w < 5 → V 5 w = n → P 4 n = V 1 w ∧ P 5 n = V 2 w ∧ P 6 n = V 3 w ∧ P 7 n = V 4 w
def Lay (V : VW) (mw mh : Nat → Int) (P : VW) : Prop :=
  (∀ n, n < 23 → V 8 n = 2 → LG V mw mh P n) ∧ (∀ n, n < 23 → V 8 n ≤ 1 → LT V P n) ∧ LR V P ∧ ∀ n, n < 23 → V 8 n ≤ 1 → P 1 n = 1 → LA V P n
section LAY
variable {V : VW} {d : Nat → Nat} {wn : Nat → Int} {X : Nat → Bool} {mw mh : Nat → Int} {P Q : VW}
theorem Tree.drs (h : Tree V d wn X) {n : Nat} (hn : n < 23) (k : V 8 n ≤ 1) : dr V n ≤ 1 ∧ V 8 n = dr V n := by
  have := h.ki hn
  unfold dr
  omega
theorem Tree.pls_mem (h : Tree V d wn X) {n : Nat} (hn : n < 23) (k : V 8 n ≤ 1) {c : Nat} : c ∈ pls V P n ↔ c < 23 ∧ V 9 c = n ∧ P 1 c = 1 := by
  unfold pls
  rw [List.mem_filter, h.kids_mem hn k]
  simp only [decide_eq_true_eq]
  exact ⟨fun ⟨⟨a, b⟩, c⟩ => ⟨a, b, c⟩, fun ⟨a, b, c⟩ => ⟨⟨a, b⟩, c⟩⟩
theorem Tree.pls_nd (h : Tree V d wn X) {n : Nat} (hn : n < 23) (k : V 8 n ≤ 1) : (pls V P n).Nodup := (h.kids_nd hn k).filter _
theorem Tree.pls_len (h : Tree V d wn X) {n : Nat} (hn : n < 23) (k : V 8 n ≤ 1) : (pls V P n).length ≤ 23 := by
  have := list_cnt (N := 23) (l := pls V P n) (fun c => decide (V 9 c = n) && decide (P 1 c = 1)) (h.pls_nd hn k) (fun x => by
    rw [h.pls_mem hn k]
    simp only [Bool.and_eq_true, decide_eq_true_eq])
  have := cnt_le (fun c => decide (V 9 c = n) && decide (P 1 c = 1)) 23
  omega
theorem pls_cg {V : VW} {P Q : VW} {n : Nat} (h : ∀ c, c ∈ kids V n → P 1 c = Q 1 c) : pls V P n = pls V Q n := by
  unfold pls
  exact List.filter_congr (fun c hc => by rw [h c hc])
theorem lm_cg {pl : List Nat} {f g : Nat → Int} (h : ∀ c ∈ pl, f c = g c) : lm pl f = lm pl g := by
  funext c
  unfold lm
  by_cases q : c ∈ pl
  · rw [if_pos q, if_pos q, h c q]
  · rw [if_neg q, if_neg q]
theorem lgx_cg {f g : Nat → Int} : ∀ {l : List Nat}, (∀ c ∈ l, f c = g c) → lgx f l = lgx g l
  | [], _ => rfl
  | c :: t, h => by
    unfold lgx
    rw [h c (List.mem_cons_self ..), lgx_cg (l := t) (fun x hx => h x (List.mem_cons_of_mem _ hx))]
theorem Lay.u1 (t : Tree V d wn X) (hP : Lay V mw mh P) (hQ : Lay V mw mh Q) : ∀ (j n : Nat), 22 ≤ dq V n + j → n < 23 → V 8 n ≠ 3 → P 1 n = Q 1 n ∧ (P 1 n = 1 → P 2 n = Q 2 n ∧ P 3 n = Q 3 n) := by
  have grp : ∀ n, n < 23 → V 8 n = 2 → P 1 n = Q 1 n ∧ (P 1 n = 1 → P 2 n = Q 2 n ∧ P 3 n = Q 3 n) := fun n hn k => by
    obtain ⟨a, b, c⟩ := hP.1 n hn k
    obtain ⟨a', b', c'⟩ := hQ.1 n hn k
    have e : P 1 n = Q 1 n := by
      by_cases q : P 1 n = 1
      · rw [q, b'.mpr (b.mp q)]
      · have : Q 1 n ≠ 1 := fun z => q (b.mpr (b'.mp z))
        omega
    refine ⟨e, fun q => ?_⟩
    obtain ⟨x, y⟩ := c q
    obtain ⟨x', y'⟩ := c' (by omega)
    omega
  have spl : ∀ n, n < 23 → V 8 n ≤ 1 → (∀ c, c < 23 → V 9 c = n → P 1 c = Q 1 c ∧ (P 1 c = 1 → P 2 c = Q 2 c ∧ P 3 c = Q 3 c)) → P 1 n = Q 1 n ∧ (P 1 n = 1 → P 2 n = Q 2 n ∧ P 3 n = Q 3 n) := fun n hn k ch => by
    obtain ⟨a, b, c⟩ := hP.2.1 n hn k
    obtain ⟨a', b', c'⟩ := hQ.2.1 n hn k
    have e : P 1 n = Q 1 n := by
      by_cases q : P 1 n = 1
      · obtain ⟨x, h1, h2, h3⟩ := b.mp q
        rw [q, b'.mpr ⟨x, h1, h2, by rw [← (ch x h1 h2).1]; exact h3⟩]
      · have : Q 1 n ≠ 1 := fun z => by
          obtain ⟨x, h1, h2, h3⟩ := b'.mp z
          exact q (b.mpr ⟨x, h1, h2, by rw [(ch x h1 h2).1]; exact h3⟩)
        omega
    refine ⟨e, fun q => ?_⟩
    have ep : pls V P n = pls V Q n := pls_cg (fun c hc => by
      obtain ⟨x, y⟩ := (t.kids_mem hn k).mp hc
      exact (ch c x y).1)
    obtain ⟨x, y⟩ := c q
    obtain ⟨x', y'⟩ := c' (by omega)
    have m2 : ∀ c ∈ pls V Q n, P 2 c = Q 2 c ∧ P 3 c = Q 3 c := fun c hc => by
      rw [← ep] at hc
      obtain ⟨h1, h2, h3⟩ := (t.pls_mem hn k).mp hc
      exact (ch c h1 h2).2 h3
    obtain ⟨r1, r2⟩ := t.drs hn k
    have : dr V n = 0 ∨ dr V n = 1 := by omega
    rcases this with z | z
    · rw [z] at x y x' y'
      rw [x, y, x', y', ep, Sm_congr (fun c hc => (m2 c hc).1), lgx_cg (fun c hc => (m2 c hc).2)]
      exact ⟨rfl, rfl⟩
    · rw [z] at x y x' y'
      rw [x, y, x', y', ep, Sm_congr (fun c hc => (m2 c hc).2), lgx_cg (fun c hc => (m2 c hc).1)]
      exact ⟨rfl, rfl⟩
  intro j
  induction j with
  | zero =>
    intro n hq hn hu
    by_cases k : V 8 n = 2
    · exact grp n hn k
    · have := t.ki hn
      refine spl n hn (by omega) (fun c hc e => ?_)
      have a := t.dqc hc e
      have b := (t.dqs hc (t.us hc (by omega))).1
      omega
  | succ j ih =>
    intro n hq hn hu
    by_cases k : V 8 n = 2
    · exact grp n hn k
    · have := t.ki hn
      refine spl n hn (by omega) (fun c hc e => ?_)
      have a := t.dqc hc e
      exact ih c (by omega) hc (t.us hc (by omega))
theorem Lay.sh (t : Tree V d wn X) (hP : Lay V mw mh P) {c s : Nat} (hc : c < 23) (e : V 9 c = s) (q : P 1 c = 1) : P 1 s = 1 := by
  obtain ⟨hs, ks, -⟩ := t.par hc e
  exact (hP.2.1 s hs ks).2.1.mpr ⟨c, hc, e, q⟩
theorem Lay.u2 (t : Tree V d wn X) (hP : Lay V mw mh P) (hQ : Lay V mw mh Q) : ∀ (j n : Nat), dq V n ≤ j → n < 23 → V 8 n ≠ 3 → P 1 n = 1 → P 4 n = Q 4 n ∧ P 5 n = Q 5 n ∧ P 6 n = Q 6 n ∧ P 7 n = Q 7 n := by
  have u : ∀ n, n < 23 → V 8 n ≠ 3 → P 1 n = Q 1 n ∧ (P 1 n = 1 → P 2 n = Q 2 n ∧ P 3 n = Q 3 n) := fun n hn hu => hP.u1 t hQ 22 n (by omega) hn hu
  have root : ∀ n, n < 23 → V 8 n ≠ 3 → V 9 n = -1 → P 4 n = Q 4 n ∧ P 5 n = Q 5 n ∧ P 6 n = Q 6 n ∧ P 7 n = Q 7 n := fun n hn hu e => by
    obtain ⟨w, hw, -, e5⟩ := t.ro hn hu e
    obtain ⟨a, b, c, d⟩ := hP.2.2.1 w n hw e5
    obtain ⟨a', b', c', d'⟩ := hQ.2.2.1 w n hw e5
    omega
  intro j
  induction j with
  | zero =>
    intro n hq hn hu q
    by_cases e : V 9 n = -1
    · exact root n hn hu e
    · obtain ⟨s, -, es, -⟩ := t.pa hn e
      have := t.dqc hn es
      omega
  | succ j ih =>
    intro n hq hn hu q
    by_cases e : V 9 n = -1
    · exact root n hn hu e
    · obtain ⟨s, hs, es, ks, -⟩ := t.pa hn e
      have := t.dqc hn es
      have qs := hP.sh t hn es q
      obtain ⟨i4, i5, i6, i7⟩ := ih s (by omega) hs (by omega) qs
      have ep : pls V P s = pls V Q s := pls_cg (fun c hc => by
        obtain ⟨x, y⟩ := (t.kids_mem hs ks).mp hc
        exact (u c x (t.us x (by omega))).1)
      have m2 : ∀ c ∈ pls V Q s, P 2 c = Q 2 c ∧ P 3 c = Q 3 c := fun c hc => by
        rw [← ep] at hc
        obtain ⟨h1, h2, h3⟩ := (t.pls_mem hs ks).mp hc
        exact (u c h1 (t.us h1 (by omega))).2 h3
      obtain ⟨k, hk⟩ := List.mem_iff_getElem?.mp ((t.pls_mem hs ks).mpr ⟨hn, es, q⟩)
      have A := hP.2.2.2 s hs ks qs k n hk
      have qs' : Q 1 s = 1 := by rw [← (u s hs (by omega)).1]; exact qs
      have B := hQ.2.2.2 s hs ks qs' k n (by rw [← ep]; exact hk)
      obtain ⟨r1, r2⟩ := t.drs hs ks
      have z : dr V s = 0 ∨ dr V s = 1 := by omega
      have er : lsh V P s = lsh V Q s := by
        unfold lsh lrm
        rw [ep]
        rcases z with z | z
        · rw [z]
          simp only [Nat.add_zero]
          rw [i6, lm_cg (f := P 2) (g := Q 2) (fun c hc => (m2 c hc).1)]
        · rw [z]
          simp only [Nat.reduceAdd]
          rw [i7, lm_cg (f := P 3) (g := Q 3) (fun c hc => (m2 c hc).2)]
      rw [er, ep] at A
      rcases z with z | z
      · rw [z] at A B
        simp only [Nat.add_zero, Nat.sub_zero] at A B
        obtain ⟨a, b, c, d⟩ := A
        obtain ⟨a', b', c', d'⟩ := B
        rw [a, b, c, d, a', b', c', d', i4, i5, i7]
        exact ⟨rfl, rfl, rfl, rfl⟩
      · rw [z] at A B
        simp only [Nat.reduceAdd, Nat.reduceSub] at A B
        obtain ⟨a, b, c, d⟩ := A
        obtain ⟨a', b', c', d'⟩ := B
        rw [a, b, c, d, a', b', c', d', i4, i5, i6]
        exact ⟨rfl, rfl, rfl, rfl⟩
end LAY
end
section
/-! THE RELATION: the least sizes are small -/
def an (V : VW) (n g : Nat) : Bool := (List.range (dq V g + 1)).any (fun k => decide (v_top V k g = (n : Int)))
def gl (V : VW) (n : Nat) : Nat := cnt (fun g => decide (V 8 g ≠ 3) && an V n g) 23
section GL
variable {V : VW} {d : Nat → Nat} {wn : Nat → Int} {X : Nat → Bool} {mw mh : Nat → Int} {P : VW}
theorem an_iff {n g : Nat} : an V n g = true ↔ ∃ k, k ≤ dq V g ∧ v_top V k g = (n : Int) := by
  unfold an
  rw [List.any_eq_true]
  constructor
  · rintro ⟨k, hk, e⟩
    exact ⟨k, by have := List.mem_range.mp hk; omega, of_decide_eq_true e⟩
  · rintro ⟨k, hk, e⟩
    exact ⟨k, List.mem_range.mpr (by omega), decide_eq_true e⟩
theorem an_self {n : Nat} : an V n n = true := an_iff.mpr ⟨0, by omega, rfl⟩
theorem Tree.dq_top (t : Tree V d wn X) {g : Nat} (hg : g < 23) (hu : V 8 g ≠ 3) : ∀ k, k ≤ dq V g → ∃ m : Nat, m < 23 ∧ v_top V k g = m ∧ V 8 m ≠ 3 ∧ dq V m + k = dq V g
  | 0, _ => ⟨g, hg, rfl, hu, rfl⟩
  | k + 1, h => by
    obtain ⟨m, a, b, c, e⟩ := t.dq_top hg hu k (by omega)
    have nr := (t.dqs hg hu).2.2 k (by omega)
    rw [b, ga_in a] at nr
    obtain ⟨s, hs, es, ks, -⟩ := t.pa a nr
    have := t.dqc a es
    refine ⟨s, hs, ?_, by omega, by omega⟩
    rw [v_top_nx, b, ga_in a, if_neg nr, es]
theorem Tree.an_un (t : Tree V d wn X) {n g c c' : Nat} (hg : g < 23) (hu : V 8 g ≠ 3) (hc : c < 23) (hc' : c' < 23) (e : V 9 c = n) (e' : V 9 c' = n) (a : an V c g = true) (a' : an V c' g = true) : c = c' := by
  obtain ⟨k, hk, ek⟩ := an_iff.mp a
  obtain ⟨k', hk', ek'⟩ := an_iff.mp a'
  obtain ⟨m, -, b, -, x⟩ := t.dq_top hg hu k hk
  obtain ⟨m', -, b', -, x'⟩ := t.dq_top hg hu k' hk'
  have := t.dqc hc e
  have := t.dqc hc' e'
  have : m = c := by omega
  subst this
  have : m' = c' := by omega
  subst this
  have : k = k' := by omega
  subst this
  omega
theorem Tree.an_up (t : Tree V d wn X) {n g c : Nat} (hg : g < 23) (hu : V 8 g ≠ 3) (hc : c < 23) (e : V 9 c = n) (a : an V c g = true) : an V n g = true := by
  obtain ⟨k, hk, ek⟩ := an_iff.mp a
  have : k ≠ dq V g := fun z => by
    have := (t.dqs hg hu).2.1
    rw [← z, ek, ga_in hc, e] at this
    omega
  refine an_iff.mpr ⟨k + 1, by omega, ?_⟩
  rw [v_top_nx, ek, ga_in hc, e, if_neg (by omega)]
theorem cnt_le1 {c : Nat → Bool} {n : Nat} (h : ∀ i k, i < n → k < n → c i = true → c k = true → i = k) : cnt c n ≤ 1 := by
  refine Classical.byContradiction (fun no => ?_)
  obtain ⟨i, hi, ci⟩ := cnt_ex (c := c) (n := n) (by omega)
  obtain ⟨k, hk, ne, ck⟩ := cnt_two (by omega) hi ci
  exact ne (h k i hk hi ck ci)
theorem Tree.gl_le (t : Tree V d wn X) (n : Nat) : sm (fun c => if V 9 c = n then (gl V c : Int) else 0) 23 ≤ gl V n := by
  have e1 : sm (fun c => if V 9 c = n then (gl V c : Int) else 0) 23 = sm (fun c => sm (fun g => if (decide (V 9 c = n) && (decide (V 8 g ≠ 3) && an V c g)) then (1 : Int) else 0) 23) 23 := by
    refine sm_congr (fun c hc => ?_)
    by_cases q : V 9 c = n
    · rw [if_pos q]
      unfold gl
      rw [← sm_cnt]
      refine sm_congr (fun g _ => ?_)
      rw [decide_eq_true q, Bool.true_and]
    · rw [if_neg q, ← sm_0 23]
      refine sm_congr (fun g _ => ?_)
      rw [decide_eq_false q, Bool.false_and]
      rfl
  rw [e1, sm_swap]
  unfold gl
  rw [← sm_cnt]
  refine sm_le (fun g hg => ?_)
  show sm (fun c => if (decide (V 9 c = n) && (decide (V 8 g ≠ 3) && an V c g)) then (1 : Int) else 0) 23 ≤ if (decide (V 8 g ≠ 3) && an V n g) then 1 else 0
  rw [sm_cnt (fun c => decide (V 9 c = n) && (decide (V 8 g ≠ 3) && an V c g))]
  have one : cnt (fun c => decide (V 9 c = n) && (decide (V 8 g ≠ 3) && an V c g)) 23 ≤ 1 := cnt_le1 (fun i k hi hk a b => by
    simp only [Bool.and_eq_true, decide_eq_true_eq] at a b
    exact t.an_un hg a.2.1 hi hk a.1 b.1 a.2.2 b.2.2)
  cases q : (decide (V 8 g ≠ 3) && an V n g)
  · have : cnt (fun c => decide (V 9 c = n) && (decide (V 8 g ≠ 3) && an V c g)) 23 = 0 := cnt_zero.mpr (fun c hc => by
      cases z : (decide (V 9 c = n) && (decide (V 8 g ≠ 3) && an V c g))
      · rfl
      · simp only [Bool.and_eq_true, decide_eq_true_eq] at z
        rw [decide_eq_true z.2.1, t.an_up hg z.2.1 hc z.1 z.2.2] at q
        cases q)
    rw [this]
    decide
  · rw [if_pos rfl]
    omega
theorem gl_pos {n : Nat} (hn : n < 23) (hu : V 8 n ≠ 3) : 1 ≤ gl V n ∧ gl V n ≤ 23 := ⟨cnt_pos hn (by rw [decide_eq_true hu, an_self]; rfl), cnt_le _ _⟩
theorem gx_40 {c : Nat → Bool} {f : Nat → Int} (h : ∀ p, p < 12 → 0 ≤ f p ∧ f p ≤ 40) : 0 ≤ gx c f 12 ∧ gx c f 12 ≤ 40 := by
  obtain ⟨a, -, r⟩ := gx_le c f 12
  refine ⟨a, ?_⟩
  rcases r with z | ⟨x, hx, -, e⟩
  · omega
  · have := h x hx
    omega
theorem Sm_sub {V : VW} {n : Nat} {pl : List Nat} (hd : pl.Nodup) (hm : ∀ x ∈ pl, x < 23 ∧ V 9 x = n) (f : Nat → Int) (h0 : ∀ c, 0 ≤ f c) : Sm f pl ≤ sm (fun c => if V 9 c = n then f c else 0) 23 := by
  rw [list_sm f hd (fun x hx => (hm x hx).1)]
  refine sm_le (fun c _ => ?_)
  show (if c ∈ pl then f c else 0) ≤ if V 9 c = n then f c else 0
  have := h0 c
  by_cases q : c ∈ pl
  · rw [if_pos q, if_pos (hm c q).2]
    exact Int.le_refl _
  · rw [if_neg q]
    split <;> omega
theorem Sm_len (f : Nat → Int) : ∀ (l : List Nat), Sm (fun c => f c + 1) l = Sm f l + l.length
  | [] => rfl
  | c :: t => by
    unfold Sm
    rw [Sm_len f t, List.length_cons]
    omega
theorem bdA {A : Nat → Prop} (t : Tree V d wn X) (hA : ∀ c s : Nat, c < 23 → A s → V 9 c = s → A c) (hG : ∀ n, n < 23 → A n → V 8 n = 2 → LG V mw mh P n) (hS : ∀ n, n < 23 → A n → V 8 n ≤ 1 → LT V P n) (hw : ∀ p, p < 12 → 0 ≤ mw p ∧ mw p ≤ 40) (hh : ∀ p, p < 12 → 0 ≤ mh p ∧ mh p ≤ 40) : ∀ (j n : Nat), 22 ≤ dq V n + j → n < 23 → A n → V 8 n ≠ 3 → P 1 n = 1 → ∀ i, (i = 2 ∨ i = 3) → 0 ≤ P i n ∧ P i n + 1 ≤ 42 * (gl V n : Int) := by
  have grp : ∀ n, n < 23 → A n → V 8 n = 2 → P 1 n = 1 → ∀ i, (i = 2 ∨ i = 3) → 0 ≤ P i n ∧ P i n + 1 ≤ 42 * (gl V n : Int) := fun n hn hAn k q i hi => by
    obtain ⟨x, y⟩ := (hG n hn hAn k).2.2 q
    have a := gx_40 (c := vis V n) hw
    have b := gx_40 (c := vis V n) hh
    have := (gl_pos (V := V) hn (by omega)).1
    rcases hi with rfl | rfl <;> omega
  have spl : ∀ n, n < 23 → A n → V 8 n ≤ 1 → P 1 n = 1 → (∀ c, c < 23 → V 9 c = n → P 1 c = 1 → ∀ i, (i = 2 ∨ i = 3) → 0 ≤ P i c ∧ P i c + 1 ≤ 42 * (gl V c : Int)) → ∀ i, (i = 2 ∨ i = 3) → 0 ≤ P i n ∧ P i n + 1 ≤ 42 * (gl V n : Int) := fun n hn hAn k q ch i hi => by
    obtain ⟨-, b, c⟩ := hS n hn hAn k
    obtain ⟨x, hx, ex, qx⟩ := b.mp q
    obtain ⟨e1, e2⟩ := c q
    have mem : ∀ c ∈ pls V P n, c < 23 ∧ V 9 c = n ∧ P 1 c = 1 := fun c hc => (t.pls_mem hn k).mp hc
    have glp := gl_pos (V := V) hn (by omega)
    have tot : ∀ i, (i = 2 ∨ i = 3) → 0 ≤ Sm (P i) (pls V P n) ∧ Sm (P i) (pls V P n) + (pls V P n).length ≤ 42 * (gl V n : Int) := fun i hi => by
      refine ⟨Sm_nn (fun c hc => (ch c (mem c hc).1 (mem c hc).2.1 (mem c hc).2.2 i hi).1), ?_⟩
      rw [← Sm_len]
      refine Int.le_trans (Sm_le (g := fun c => 42 * (gl V c : Int)) (fun c hc => (ch c (mem c hc).1 (mem c hc).2.1 (mem c hc).2.2 i hi).2)) ?_
      rw [Sm_mul]
      have a := Sm_sub (V := V) (n := n) (t.pls_nd (P := P) hn k) (fun x hx => ⟨(mem x hx).1, (mem x hx).2.1⟩) (fun c => (gl V c : Int)) (fun c => by omega)
      have b := t.gl_le n
      omega
    have one : ∀ i, (i = 2 ∨ i = 3) → 0 ≤ lgx (P i) (pls V P n) ∧ lgx (P i) (pls V P n) + 1 ≤ 42 * (gl V n : Int) := fun i hi => by
      obtain ⟨a, -, r⟩ := lgx_le (P i) (l := pls V P n)
      refine ⟨a, ?_⟩
      rcases r with z | ⟨y, hy, e⟩
      · omega
      · obtain ⟨t0, t1⟩ := tot i hi
        have := Sm_mem (f := fun c => P i c + 1) (l := pls V P n) (fun c hc => by
          have := (ch c (mem c hc).1 (mem c hc).2.1 (mem c hc).2.2 i hi).1
          show 0 ≤ P i c + 1
          omega) hy
        rw [Sm_len] at this
        omega
    have len : 1 ≤ (pls V P n).length := List.length_pos_of_mem ((t.pls_mem hn k).mpr ⟨hx, ex, qx⟩)
    obtain ⟨r1, r2⟩ := t.drs hn k
    have z : dr V n = 0 ∨ dr V n = 1 := by omega
    have raw : ∀ i, (i = 2 ∨ i = 3) → (oI (Sm (P i) (pls V P n) + (pls V P n).length - 1)).toInt = Sm (P i) (pls V P n) + (pls V P n).length - 1 := fun i hi => by
      have := tot i hi
      exact j_oI (by omega) (by omega)
    have a2 := tot 2 (Or.inl rfl)
    have a3 := tot 3 (Or.inr rfl)
    have o2 := one 2 (Or.inl rfl)
    have o3 := one 3 (Or.inr rfl)
    rcases z with z | z
    · rw [z] at e1 e2
      simp only [Nat.add_zero, Nat.sub_zero] at e1 e2
      rw [raw 2 (Or.inl rfl)] at e1
      rcases hi with rfl | rfl <;> omega
    · rw [z] at e1 e2
      simp only [Nat.reduceAdd, Nat.reduceSub] at e1 e2
      rw [raw 3 (Or.inr rfl)] at e1
      rcases hi with rfl | rfl <;> omega
  intro j
  induction j with
  | zero =>
    intro n hq hn hAn hu q
    by_cases k : V 8 n = 2
    · exact grp n hn hAn k q
    · have := t.ki hn
      refine spl n hn hAn (by omega) q (fun c hc e => ?_)
      have a := t.dqc hc e
      have b := (t.dqs hc (t.us hc (by omega))).1
      omega
  | succ j ih =>
    intro n hq hn hAn hu q
    by_cases k : V 8 n = 2
    · exact grp n hn hAn k q
    · have := t.ki hn
      refine spl n hn hAn (by omega) q (fun c hc e => ?_)
      have a := t.dqc hc e
      exact ih c (by omega) hc (hA c n hc hAn e) (t.us hc (by omega))
/-- each least size is from 0 to 965 -/
theorem Lay.ls (t : Tree V d wn X) (hP : Lay V mw mh P) (hw : ∀ p, p < 12 → 0 ≤ mw p ∧ mw p ≤ 40) (hh : ∀ p, p < 12 → 0 ≤ mh p ∧ mh p ≤ 40) {n : Nat} (hn : n < 23) (hu : V 8 n ≠ 3) (q : P 1 n = 1) : (0 ≤ P 2 n ∧ P 2 n ≤ 965) ∧ 0 ≤ P 3 n ∧ P 3 n ≤ 965 := by
  have a := bdA (A := fun _ => True) t (fun _ _ _ _ _ => trivial) (fun n hn _ => hP.1 n hn) (fun n hn _ => hP.2.1 n hn) hw hh 22 n (by omega) hn trivial hu q 2 (Or.inl rfl)
  have b := bdA (A := fun _ => True) t (fun _ _ _ _ _ => trivial) (fun n hn _ => hP.1 n hn) (fun n hn _ => hP.2.1 n hn) hw hh 22 n (by omega) hn trivial hu q 3 (Or.inr rfl)
  have := (gl_pos (V := V) hn hu).2
  omega
end GL
end
section
/-! THE RELATION: the class's plan, measured -/
/-- the plan's rows: 1 shown, 2 and 3 least sizes, 4 to 7 the rectangle -/
def qv (σ : Sg) : VW := fun j i => if 1 ≤ j ∧ j ≤ 7 ∧ i < 23 then (σ.1 (422 + j) i).toInt else 0
section QV
variable {σ : Sg} {V : VW} {d : Nat → Nat} {wn : Nat → Int} {X : Nat → Bool} {mw mh : Nat → Int}
theorem qv_at {j i : Nat} (h1 : 1 ≤ j) (h7 : j ≤ 7) (hi : i < 23) : qv σ j i = (σ.1 (422 + j) i).toInt := if_pos ⟨h1, h7, hi⟩
theorem qv_eq {σ σ' : Sg} {j i : Nat} (h : σ'.1 (422 + j) i = σ.1 (422 + j) i) : qv σ' j i = qv σ j i := by
  unfold qv
  by_cases q : 1 ≤ j ∧ j ≤ 7 ∧ i < 23
  · rw [if_pos q, if_pos q, h]
  · rw [if_neg q, if_neg q]
theorem qv_out {σ σ' : Sg} {lo hi j : Nat} (h : Out σ σ' lo hi) (hj : 422 + j < lo ∨ hi < 422 + j) : qv σ' j = qv σ j := by
  funext i
  exact qv_eq (by rw [h.2 _ hj])
theorem pv_cg {σ σ' : Sg} (h : ∀ j, j ≤ 21 → σ'.1 j = σ.1 j) : pv σ' 6 = pv σ 6 := by
  funext j i
  unfold pv
  by_cases q : j ≤ 15
  · rw [h (6 + j) (by omega)]
  · simp only [inr_hi i (Or.inr (show 16 ≤ j by omega)), Bool.false_eq_true, if_false]
theorem pv_oc {σ σ' : Sg} {lo hi : Nat} (h : Out σ σ' lo hi) (hj : 100 ≤ lo) : pv σ' 6 = pv σ 6 := pv_cg (fun j hq => h.2 j (Or.inl (by omega)))
/-- a group's measure -/
theorem s_measureGroup (tb : Tabs (pv σ 6) X) (hw : ∀ p, p < 12 → (0 ≤ rw12 (σ.1 2) p ∧ rw12 (σ.1 2) p ≤ 40) ∧ (pv σ 6 13 p ≠ -1 → 1 ≤ rw12 (σ.1 2) p)) (hh : ∀ p, p < 12 → 0 ≤ rw12 (σ.1 3) p ∧ rw12 (σ.1 3) p ≤ 40) {n : Nat} (hn : n < 23) : ∃ σ', fX2_measureGroup σ 422 1 (nI n) = some σ' ∧ Out σ σ' 423 425 ∧ (∀ j i, i ≠ n → σ'.1 j i = σ.1 j i) ∧ LG (pv σ 6) (rw12 (σ.1 2)) (rw12 (σ.1 3)) (qv σ') n := by
  refine lp (F := fun k (s : Int32 × Int32 × Int32) => fX2_measureGroup_8 422 1 k σ (nI n) s.1 s.2.1 s.2.2) (Q := fun r => ∃ σ', r = some σ' ∧ Out σ σ' 423 425 ∧ (∀ j i, i ≠ n → σ'.1 j i = σ.1 j i) ∧ LG (pv σ 6) (rw12 (σ.1 2)) (rw12 (σ.1 3)) (qv σ') n) (fun i s => s.1.toInt = gx (vis (pv σ 6) n) (rw12 (σ.1 2)) i ∧ s.2.1.toInt = gx (vis (pv σ 6) n) (rw12 (σ.1 3)) i ∧ s.2.2 = nI i) 12 ?_ ?_ 12 0 FU (0, 0, 0) rfl (by decide) ⟨rfl, rfl, rfl⟩
  · rintro k i ⟨a, b, l⟩ hi ⟨ha, hb, rfl⟩
    simp only at ha hb
    have ei : (nI i).toInt = i := j_nI (by omega)
    have g13 : ga (pv σ 6 13) 12 (nI i).toInt = pv σ 6 13 i := by rw [ei]; exact ga_in hi
    have g15 : v_hd (pv σ 6) (nI i).toInt = decide (pv σ 6 15 i = 1) := by
      unfold v_hd
      rw [ei, ga_in hi]
    show ∃ s' : Int32 × Int32 × Int32, _ ∧ fX2_measureGroup_8 422 1 (k + 1) σ (nI n) a b (nI i) = _
    have t13 : (oI (pv σ 6 13 i) = nI n) ↔ pv σ 6 13 i = n := by
      have := t_ga (σ := σ) (b := 6) (j := 13) (n := 12) (p := (i : Int))
      rw [ga_in hi] at this
      rw [j_eq, this, j_nI (by omega)]
    rw [fX2_measureGroup_8, if_neg (n_ge 12 (m := 12) rfl hi (by decide)), s_groupOf, j_b, g13]
    have gxs : ∀ f, gx (vis (pv σ 6) n) f (i + 1) = if vis (pv σ 6) n i then (if gx (vis (pv σ 6) n) f i < f i then f i else gx (vis (pv σ 6) n) f i) else gx (vis (pv σ 6) n) f i := fun f => rfl
    by_cases q : pv σ 6 13 i = n
    · rw [if_pos (t13.mpr q), s_isHidden, j_b, g15]
      by_cases z : pv σ 6 15 i = 1
      · rw [if_pos (decide_eq_true z), fX2_measureGroup_70, j_s]
        have v0 : vis (pv σ 6) n i = false := by
          unfold vis
          rw [decide_eq_false (p := pv σ 6 15 i = 0) (by omega), Bool.and_false]
        refine ⟨(a, b, nI (i + 1)), ⟨?_, ?_, rfl⟩, rfl⟩
        · rw [gxs, v0]
          exact ha
        · rw [gxs, v0]
          exact hb
      · rw [if_neg (by rw [decide_eq_false z]; decide)]
        have v1 : vis (pv σ 6) n i = true := by
          unfold vis
          rw [decide_eq_true q, decide_eq_true ((tb.hi hi).elim id (fun y => absurd y z))]
          rfl
        rw [show (1 + 1 : Nat) = 2 from rfl, s_atn (by decide) hi, j_b, j_nm, show (1 + 2 : Nat) = 3 from rfl, s_atn (by decide) hi, j_b, j_nm, fX2_measureGroup_70, j_s]
        have r2 : rw12 (σ.1 2) i = (σ.1 2 i).toInt := if_pos hi
        have r3 : rw12 (σ.1 3) i = (σ.1 3 i).toInt := if_pos hi
        refine ⟨(_, _, nI (i + 1)), ⟨?_, ?_, rfl⟩, rfl⟩
        · rw [gxs, v1, ← ha, r2]
          show (if a < σ.1 2 i then σ.1 2 i else a).toInt = _
          by_cases y : a < σ.1 2 i
          · rw [if_pos y]
            simp only [if_true, if_pos (j_lt.mp y)]
          · rw [if_neg y]
            simp only [if_true, if_neg (fun x => y (j_lt.mpr x))]
        · rw [gxs, v1, ← hb, r3]
          show (if b < σ.1 3 i then σ.1 3 i else b).toInt = _
          by_cases y : b < σ.1 3 i
          · rw [if_pos y]
            simp only [if_true, if_pos (j_lt.mp y)]
          · rw [if_neg y]
            simp only [if_true, if_neg (fun x => y (j_lt.mpr x))]
    · rw [if_neg (fun y => q (t13.mp y)), fX2_measureGroup_70, j_s]
      have v0 : vis (pv σ 6) n i = false := by
        unfold vis
        rw [decide_eq_false q, Bool.false_and]
      refine ⟨(a, b, nI (i + 1)), ⟨?_, ?_, rfl⟩, rfl⟩
      · rw [gxs, v0]
        exact ha
      · rw [gxs, v0]
        exact hb
  · rintro k ⟨a, b, l⟩ ⟨ha, hb, rfl⟩
    simp only at ha hb
    have h90 : ∀ s : Int32, fX2_measureGroup_90 422 1 σ (nI n) a b (nI n) s = some (su (su (su σ 423 n s) 424 n a) 425 n (b + 1)) := fun s => by
      unfold fX2_measureGroup_90
      rw [show (422 + 1 : Nat) = 423 from rfl, s_putn (by decide) hn, j_b, show (422 + 2 : Nat) = 424 from rfl, s_putn (by decide) hn, j_b, show (422 + 3 : Nat) = 425 from rfl, s_putn (by decide) hn, j_b]
    have g2 := gx_40 (c := vis (pv σ 6) n) (f := rw12 (σ.1 2)) (fun p hp => (hw p hp).1)
    have g3 := gx_40 (c := vis (pv σ 6) n) (f := rw12 (σ.1 3)) hh
    have ap : (0 : Int) < gx (vis (pv σ 6) n) (rw12 (σ.1 2)) 12 ↔ ∃ p, p < 12 ∧ vis (pv σ 6) n p = true := by
      obtain ⟨-, y, r⟩ := gx_le (vis (pv σ 6) n) (rw12 (σ.1 2)) 12
      constructor
      · intro z
        rcases r with r | ⟨x, hx, vx, -⟩
        · omega
        · exact ⟨x, hx, vx⟩
      · rintro ⟨p, hp, vp⟩
        have := y p hp vp
        unfold vis at vp
        simp only [Bool.and_eq_true, decide_eq_true_eq] at vp
        have := (hw p hp).2 (by omega)
        omega
    have res : ∀ s : Int32, (s = 0 ∨ s = 1) → (s = 1 ↔ ∃ p, p < 12 ∧ vis (pv σ 6) n p = true) → ∃ σ', some (su (su (su σ 423 n s) 424 n a) 425 n (b + 1)) = some σ' ∧ Out σ σ' 423 425 ∧ (∀ j i, i ≠ n → σ'.1 j i = σ.1 j i) ∧ LG (pv σ 6) (rw12 (σ.1 2)) (rw12 (σ.1 3)) (qv σ') n := fun s h01 hs => by
      refine ⟨_, rfl, ((su_out.mo (by omega) (by omega)).tr (su_out.mo (by omega) (by omega))).tr (su_out.mo (by omega) (by omega)), fun j i ne => ?_, ?_⟩
      · rw [su_at, if_neg (fun z => ne z.2), su_at, if_neg (fun z => ne z.2), su_at, if_neg (fun z => ne z.2)]
      · have e1 : qv (su (su (su σ 423 n s) 424 n a) 425 n (b + 1)) 1 n = s.toInt := by
          rw [qv_at (by decide) (by decide) hn, su_at, if_neg (by omega), su_at, if_neg (by omega), su_at, if_pos ⟨rfl, rfl⟩]
        have e2 : qv (su (su (su σ 423 n s) 424 n a) 425 n (b + 1)) 2 n = a.toInt := by
          rw [qv_at (by decide) (by decide) hn, su_at, if_neg (by omega), su_at, if_pos ⟨rfl, rfl⟩]
        have e3 : qv (su (su (su σ 423 n s) 424 n a) 425 n (b + 1)) 3 n = b.toInt + 1 := by
          rw [qv_at (by decide) (by decide) hn, su_at, if_pos ⟨rfl, rfl⟩, j_add (by rw [jz1]; omega) (by rw [jz1]; omega), jz1]
        unfold LG
        rw [e1, e2, e3, ha, hb]
        have s1 : s.toInt = 1 ↔ s = 1 := by rw [j_eq, jz1]
        refine ⟨?_, by rw [s1]; exact hs, fun _ => ⟨rfl, rfl⟩⟩
        rcases h01 with rfl | rfl
        · exact Or.inl rfl
        · exact Or.inr rfl
    show ∃ σ', fX2_measureGroup_8 422 1 (k + 1) σ (nI n) a b (nI 12) = some σ' ∧ _
    rw [fX2_measureGroup_8, if_pos (n_le 12 (m := 12) rfl (by decide))]
    by_cases y : a ≤ 0
    · rw [if_pos y, h90]
      rw [j_le, jz0, ha] at y
      exact res 0 (Or.inl rfl) ⟨fun z => absurd z (by decide), fun z => absurd (ap.mpr z) (by omega)⟩
    · rw [if_neg y, h90]
      rw [j_le, jz0, ha] at y
      exact res 1 (Or.inr rfl) ⟨fun _ => ap.mp (by omega), fun _ => rfl⟩
/-- a row holds a list -/
def rl (f : Nat → Int32) (l : List Nat) : Prop := ∀ k c, l[k]? = some c → f k = nI c
theorem rl_snoc {f g : Nat → Int32} {l : List Nat} {x : Nat} (h : rl f l) (hg : ∀ i, g i = if i = l.length then nI x else f i) : rl g (l ++ [x]) := fun k c hk => by
  rw [hg]
  by_cases q : k < l.length
  · rw [List.getElem?_append_left q] at hk
    rw [if_neg (by omega)]
    exact h k c hk
  · rw [List.getElem?_append_right (by omega)] at hk
    have : k - l.length = 0 := by
      refine Classical.byContradiction (fun z => ?_)
      rw [List.getElem?_eq_none (by simp; omega)] at hk
      cases hk
    rw [this] at hk
    have hk : some x = some c := hk
    rw [if_pos (by omega), Option.some.inj hk]
theorem take_snoc {l : List Nat} {k c : Nat} (h : l[k]? = some c) : l.take (k + 1) = l.take k ++ [c] := by
  rw [List.take_add_one, h]
  rfl
/-- the parts shown are listed -/
theorem s_listParts (t : Tree (pv σ 6) d wn X) {n : Nat} (hn : n < 23) (k : pv σ 6 8 n ≤ 1) : ∃ σ', fX2_listParts σ 422 6 (nI n) = some (nI (pls (pv σ 6) (qv σ) n).length, σ') ∧ Out σ σ' 431 431 ∧ rl (σ'.1 431) (pls (pv σ 6) (qv σ) n) := by
  have ei : (nI n).toInt = n := j_nI (by omega)
  have cc23 : v_cc (pv σ 6) n ≤ 23 := by
    unfold v_cc
    split
    · omega
    · exact cnt_le _ _
  unfold fX2_listParts
  rw [s_childCount, j_b, ei, ← j_nIo _ (by omega)]
  refine lp (F := fun m (s : Sg × Int32 × Int32) => fX2_listParts_12 422 6 m s.1 (nI n) (nI (v_cc (pv σ 6) n)) s.2.1 s.2.2) (Q := fun r => ∃ σ', r = some (nI (pls (pv σ 6) (qv σ) n).length, σ') ∧ Out σ σ' 431 431 ∧ rl (σ'.1 431) (pls (pv σ 6) (qv σ) n)) (fun i s => Out σ s.1 431 431 ∧ s.2.1 = nI (((kids (pv σ 6) n).take i).filter (fun c => decide (qv σ 1 c = 1))).length ∧ s.2.2 = nI i ∧ rl (s.1.1 431) (((kids (pv σ 6) n).take i).filter (fun c => decide (qv σ 1 c = 1)))) (v_cc (pv σ 6) n) ?_ ?_ (v_cc (pv σ 6) n) 0 FU (σ, 0, 0) (by omega) (by show _ < 6000; omega) ⟨Out.rf, rfl, rfl, fun k c h => by cases h⟩
  · rintro m i ⟨s, a, l⟩ hi ⟨ho, rfl, rfl, hr⟩
    simp only at ho hr
    obtain ⟨c, hc, e1, e2, e3, e4⟩ := t.kid hn k hi
    have ii : (nI i).toInt = i := j_nI (by omega)
    have vs : pv s 6 = pv σ 6 := pv_oc ho (by decide)
    have ts := take_snoc e4
    show ∃ s' : Sg × Int32 × Int32, _ ∧ fX2_listParts_12 422 6 (m + 1) s (nI n) (nI (v_cc (pv σ 6) n)) _ (nI i) = _
    have lt : (((kids (pv σ 6) n).take i).filter (fun c => decide (qv σ 1 c = 1))).length ≤ i := Nat.le_trans (List.length_filter_le _ _) (by rw [List.length_take]; omega)
    generalize hL : ((kids (pv σ 6) n).take i).filter (fun c => decide (qv σ 1 c = 1)) = L at *
    have hs : fX2_isShown s 422 (nI c) = some (decide (qv σ 1 c = 1)) := by
      unfold fX2_isShown
      rw [show (422 + 1 : Nat) = 423 from rfl, s_atn (by decide) hc, j_b, ho.2 423 (by omega)]
      have : qv σ 1 c = (σ.1 423 c).toInt := qv_at (by decide) (by decide) hc
      by_cases q : σ.1 423 c = 1
      · rw [if_pos q, decide_eq_true (by rw [this, q]; rfl)]
      · rw [if_neg q, decide_eq_false (fun z => q (j_eq.mpr (by rw [← this, z]; rfl)))]
    rw [fX2_listParts_12, if_neg (by rw [j_le, ii, j_nI (by omega)]; omega), s_childAt, j_b, vs, ei, ii, e1, ← j_nIo c (by omega), hs, j_b]
    by_cases q : qv σ 1 c = 1
    · rw [if_pos (decide_eq_true q), show (422 + 9 : Nat) = 431 from rfl, s_putn (by decide) (by omega), j_b, fX2_listParts_50, j_s, j_s]
      have ef : ((kids (pv σ 6) n).take (i + 1)).filter (fun c => decide (qv σ 1 c = 1)) = L ++ [c] := by
        rw [ts, List.filter_append, hL]
        congr 1
        simp [q]
      refine ⟨(_, nI (L.length + 1), nI (i + 1)), ⟨ho.tr su_out, ?_, rfl, ?_⟩, rfl⟩
      · rw [ef, List.length_append]
        rfl
      · rw [ef]
        refine rl_snoc hr (fun j => ?_)
        show (su s 431 L.length (nI c)).1 431 j = _
        rw [su_at]
        by_cases z : j = L.length
        · rw [if_pos ⟨rfl, z⟩, if_pos z]
        · rw [if_neg (fun y => z y.2), if_neg z]
    · rw [if_neg (by rw [decide_eq_false q]; decide), fX2_listParts_50, j_s]
      have ef : ((kids (pv σ 6) n).take (i + 1)).filter (fun c => decide (qv σ 1 c = 1)) = L := by
        rw [ts, List.filter_append, hL]
        simp [q]
      refine ⟨(s, nI L.length, nI (i + 1)), ⟨ho, ?_, rfl, ?_⟩, rfl⟩
      · rw [ef]
      · rw [ef]
        exact hr
  · rintro m ⟨s, a, l⟩ ⟨ho, rfl, rfl, hr⟩
    simp only at ho hr
    have ef : (kids (pv σ 6) n).take (v_cc (pv σ 6) n) = kids (pv σ 6) n := List.take_of_length_le (by rw [kids_len]; exact Nat.le_refl _)
    show ∃ σ', fX2_listParts_12 422 6 (m + 1) s (nI n) (nI (v_cc (pv σ 6) n)) _ (nI (v_cc (pv σ 6) n)) = _ ∧ _
    rw [fX2_listParts_12, if_pos (by rw [j_le]; exact Int.le_refl _), ef]
    rw [ef] at hr
    exact ⟨s, rfl, ho, hr⟩
/-- what a measure leaves alone -/
def Fm (σ σ' : Sg) (n : Nat) : Prop := σ'.2 = σ.2 ∧ (∀ j, (j < 423 ∨ (425 < j ∧ j ≠ 431)) → σ'.1 j = σ.1 j) ∧ ∀ j i, j ≠ 431 → i ≠ n → σ'.1 j i = σ.1 j i
theorem j_oa (x y : Int) : oI x + oI y = oI (x + y) := (Int32.ofInt_add x y).symm
theorem j_os (x y : Int) : oI x - oI y = oI (x - y) := (Int32.ofInt_sub x y).symm
theorem pls_kid (t : Tree (pv σ 6) d wn X) {n : Nat} (hn : n < 23) (k : pv σ 6 8 n ≤ 1) {c : Nat} (hc : c ∈ kids (pv σ 6) n) : c < 23 ∧ c ≠ n := by
  obtain ⟨a, b⟩ := (t.kids_mem hn k).mp hc
  have := (t.par a b).2.2.1
  exact ⟨a, fun z => by rw [z] at this; omega⟩
theorem s_ms125 {n A B len : Nat} (hn : n < 23) (hA : A = 424 ∧ B = 425 ∨ A = 425 ∧ B = 424) (x y : Int32) (s : Int32) : ∃ σ', fX2_measureSplit_125 422 6 σ (nI n) A B (nI len) x y (nI n) s = some σ' ∧ Fm σ σ' n ∧ σ'.1 431 = σ.1 431 ∧ σ'.1 423 n = s ∧ σ'.1 A n = (x + nI len) - 1 ∧ σ'.1 B n = y := by
  unfold fX2_measureSplit_125
  rw [show (422 + 1 : Nat) = 423 from rfl, s_putn (by decide) hn, j_b, s_putn (by decide) hn, j_b, s_putn (by decide) hn, j_b]
  refine ⟨_, rfl, ⟨rfl, fun j hj => ?_, fun j i hj hi => ?_⟩, ?_, ?_, ?_, ?_⟩
  · rw [su_ne (by omega), su_ne (by omega), su_ne (by omega)]
  · rw [su_at, if_neg (fun z => hi z.2), su_at, if_neg (fun z => hi z.2), su_at, if_neg (fun z => hi z.2)]
  · rw [su_ne (by omega), su_ne (by omega), su_ne (by omega)]
  · rw [su_at, if_neg (by omega), su_at, if_neg (by omega), su_at, if_pos ⟨rfl, rfl⟩]
  · rw [su_at, if_neg (by omega), su_at, if_pos ⟨rfl, rfl⟩]
  · rw [su_at, if_pos ⟨rfl, rfl⟩]
theorem s_ms58 {n A B : Nat} (hn : n < 23) (hA : A = 424 ∧ B = 425 ∨ A = 425 ∧ B = 424) {pl : List Nat} (hp : ∀ c ∈ pl, c < 23) (hl : pl.length ≤ 23) (hr : rl (σ.1 431) pl) : ∃ σ', fX2_measureSplit_58 422 6 FU σ (nI n) A B (nI pl.length) 0 0 0 = some σ' ∧ Fm σ σ' n ∧ σ'.1 431 = σ.1 431 ∧ σ'.1 423 n = (if pl.length = 0 then 0 else 1) ∧ σ'.1 A n = oI (Sm (fun c => (σ.1 A c).toInt) pl + pl.length - 1) ∧ (σ'.1 B n).toInt = lgx (fun c => (σ.1 B c).toInt) pl := by
  refine lp (F := fun m (s : Int32 × Int32 × Int32) => fX2_measureSplit_58 422 6 m σ (nI n) A B (nI pl.length) s.1 s.2.1 s.2.2) (Q := fun r => ∃ σ', r = some σ' ∧ Fm σ σ' n ∧ σ'.1 431 = σ.1 431 ∧ σ'.1 423 n = (if pl.length = 0 then 0 else 1) ∧ σ'.1 A n = oI (Sm (fun c => (σ.1 A c).toInt) pl + pl.length - 1) ∧ (σ'.1 B n).toInt = lgx (fun c => (σ.1 B c).toInt) pl) (fun i s => s.1 = oI (Sm (fun c => (σ.1 A c).toInt) (pl.take i)) ∧ s.2.1.toInt = lgx (fun c => (σ.1 B c).toInt) (pl.take i) ∧ s.2.2 = nI i) pl.length ?_ ?_ pl.length 0 FU (0, 0, 0) (by omega) (by show _ < 6000; omega) ⟨rfl, rfl, rfl⟩
  · rintro m i ⟨a, b, l⟩ hi ⟨rfl, hb, rfl⟩
    simp only at hb
    have gi := List.getElem?_eq_getElem hi
    generalize pl[i] = c at gi
    have hc : c < 23 := hp c (List.mem_iff_getElem?.mpr ⟨i, gi⟩)
    have e31 : σ.1 431 i = nI c := hr i c gi
    show ∃ s' : Int32 × Int32 × Int32, _ ∧ fX2_measureSplit_58 422 6 (m + 1) σ (nI n) A B (nI pl.length) _ b (nI i) = _
    rw [fX2_measureSplit_58, if_neg (by rw [j_le, j_nI (by omega), j_nI (by omega)]; omega), show (422 + 9 : Nat) = 431 from rfl, s_atn (by decide) (by omega), j_b, e31, s_atn (by decide) hc, j_b, j_nm, j_b, s_atn (by decide) hc, j_b, j_nm, j_s]
    refine ⟨(_, _, nI (i + 1)), ⟨?_, ?_, rfl⟩, rfl⟩
    · show oI _ + σ.1 A c = _
      rw [take_snoc gi, Sm_app, ← j_oIt (σ.1 A c), j_oa]
      refine congrArg oI ?_
      show _ = _ + ((σ.1 A c).toInt + 0)
      omega
    · rw [take_snoc gi, lgx_snoc, ← hb]
      show (if b < σ.1 B c then σ.1 B c else b).toInt = if b.toInt < (σ.1 B c).toInt then (σ.1 B c).toInt else b.toInt
      by_cases y : b < σ.1 B c
      · rw [if_pos y, if_pos (j_lt.mp y)]
      · rw [if_neg y, if_neg (fun x => y (j_lt.mpr x))]
  · rintro m ⟨a, b, l⟩ ⟨rfl, hb, rfl⟩
    simp only at hb
    rw [List.take_length] at hb
    show ∃ σ', fX2_measureSplit_58 422 6 (m + 1) σ (nI n) A B (nI pl.length) _ b (nI pl.length) = some σ' ∧ _
    rw [fX2_measureSplit_58, if_pos (by rw [j_le]; exact Int.le_refl _), List.take_length]
    have ex : ∀ s : Int32, s = (if pl.length = 0 then 0 else 1) → ∃ σ', fX2_measureSplit_125 422 6 σ (nI n) A B (nI pl.length) (oI (Sm (fun c => (σ.1 A c).toInt) pl)) b (nI n) s = some σ' ∧ Fm σ σ' n ∧ σ'.1 431 = σ.1 431 ∧ σ'.1 423 n = (if pl.length = 0 then 0 else 1) ∧ σ'.1 A n = oI (Sm (fun c => (σ.1 A c).toInt) pl + pl.length - 1) ∧ (σ'.1 B n).toInt = lgx (fun c => (σ.1 B c).toInt) pl := fun s hs => by
      obtain ⟨σ', e, f, g, h1, h2, h3⟩ := s_ms125 (σ := σ) (len := pl.length) hn hA (oI (Sm (fun c => (σ.1 A c).toInt) pl)) b s
      refine ⟨σ', e, f, g, by rw [h1, hs], ?_, by rw [h3, hb]⟩
      rw [h2, j_nIo _ (by omega), j_oa, show (1 : Int32) = oI 1 from rfl, j_os]
    by_cases z : pl.length = 0
    · rw [if_pos (by rw [z]; decide)]
      exact ex 0 (by rw [if_pos z])
    · rw [if_neg (by rw [j_le, jz0, j_nI (by omega)]; omega)]
      exact ex 1 (by rw [if_neg z])
theorem fm_qv {σ σ' : Sg} {n : Nat} (h : Fm σ σ' n) {j i : Nat} (hj : j ≤ 7) (hi : i ≠ n) : qv σ' j i = qv σ j i := qv_eq (h.2.2 _ _ (by omega) hi)
theorem fm_pv {σ σ' : Sg} {n : Nat} (h : Fm σ σ' n) : pv σ' 6 = pv σ 6 := pv_cg (fun j hj => h.2.1 _ (by omega))
/-- a split's measure -/
theorem s_measureSplit (t : Tree (pv σ 6) d wn X) {n : Nat} (hn : n < 23) (k : pv σ 6 8 n ≤ 1) : ∃ σ', fX2_measureSplit σ 422 6 (nI n) = some σ' ∧ Fm σ σ' n ∧ LT (pv σ 6) (qv σ') n := by
  have en : (nI n).toInt = n := j_nI (by omega)
  have gk : ga (pv σ 6 8) 23 (nI n).toInt = pv σ 6 8 n := by rw [en]; exact ga_in hn
  obtain ⟨σ1, a1, o1, r1⟩ := s_listParts t hn k
  have len := t.pls_len (P := qv σ) hn k
  have mem : ∀ c ∈ pls (pv σ 6) (qv σ) n, c < 23 ∧ c ≠ n := fun c hc => pls_kid t hn k (List.mem_filter.mp hc).1
  obtain ⟨d1, d2⟩ := t.drs hn k
  -- both directions
  have go : ∀ A B, (A = 424 ∧ B = 425 ∨ A = 425 ∧ B = 424) → A = 422 + (2 + dr (pv σ 6) n) → B = 422 + (3 - dr (pv σ 6) n) → ∃ σ', fX2_measureSplit_39 422 6 σ (nI n) A B = some σ' ∧ Fm σ σ' n ∧ LT (pv σ 6) (qv σ') n := fun A B hA eA eB => by
    unfold fX2_measureSplit_39
    rw [a1, j_b]
    obtain ⟨σ2, a2, f2, -, v1, v2, v3⟩ := s_ms58 (σ := σ1) hn hA (fun c hc => (mem c hc).1) len r1
    have f : Fm σ σ2 n := ⟨f2.1.trans o1.1, fun j hj => (f2.2.1 j hj).trans (o1.2 j (by omega)), fun j i hj hi => (f2.2.2 j i hj hi).trans (by rw [o1.2 j (by omega)])⟩
    refine ⟨σ2, a2, f, ?_⟩
    have ep : pls (pv σ 6) (qv σ2) n = pls (pv σ 6) (qv σ) n := pls_cg (fun c hc => fm_qv f (by decide) (pls_kid t hn k hc).2)
    have q1 : qv σ2 1 n = if (pls (pv σ 6) (qv σ) n).length = 0 then 0 else 1 := by
      rw [qv_at (by decide) (by decide) hn, show (422 + 1 : Nat) = 423 from rfl, v1]
      split <;> rfl
    have rA : ∀ c ∈ pls (pv σ 6) (qv σ) n, (σ1.1 A c).toInt = qv σ2 (2 + dr (pv σ 6) n) c := fun c hc => by
      rw [fm_qv f (by omega) (mem c hc).2, qv_at (by omega) (by omega) (mem c hc).1, ← eA, o1.2 A (by omega)]
    have rB : ∀ c ∈ pls (pv σ 6) (qv σ) n, (σ1.1 B c).toInt = qv σ2 (3 - dr (pv σ 6) n) c := fun c hc => by
      rw [fm_qv f (by omega) (mem c hc).2, qv_at (by omega) (by omega) (mem c hc).1, ← eB, o1.2 B (by omega)]
    refine ⟨by rw [q1]; split <;> omega, ?_, fun _ => ⟨?_, ?_⟩⟩
    · rw [q1]
      constructor
      · intro z
        have l1 : (pls (pv σ 6) (qv σ) n).length ≠ 0 := fun y => by rw [if_pos y] at z; omega
        obtain ⟨c, hc⟩ := List.exists_mem_of_length_pos (Nat.pos_of_ne_zero l1)
        have hc2 := hc
        rw [← ep] at hc2
        obtain ⟨y1, y2, y3⟩ := (t.pls_mem hn k).mp hc2
        exact ⟨c, y1, y2, y3⟩
      · rintro ⟨c, hc, e, z⟩
        have : c ∈ pls (pv σ 6) (qv σ) n := by
          rw [← ep]
          exact (t.pls_mem hn k).mpr ⟨hc, e, z⟩
        have := List.length_pos_of_mem this
        rw [if_neg (by omega)]
    · rw [ep, qv_at (by omega) (by omega) hn, ← eA, v2]
      rw [Sm_congr rA]
    · rw [ep, qv_at (by omega) (by omega) hn, ← eB, v3]
      exact lgx_cg rB
  unfold fX2_measureSplit
  rw [s_kindOf, j_b, gk]
  have t8 := t_ga (σ := σ) (b := 6) (j := 8) (n := 23) (p := (n : Int))
  rw [ga_in hn] at t8
  have z : dr (pv σ 6) n = 0 ∨ dr (pv σ 6) n = 1 := by omega
  rcases z with z | z
  · have e0 : oI (pv σ 6 8 n) = 0 := j_eq.mpr (by rw [t8, jz0]; omega)
    rw [if_pos e0]
    unfold fX2_measureSplit_19
    rw [s_kindOf, j_b, gk, if_pos e0]
    exact go 424 425 (Or.inl ⟨rfl, rfl⟩) (by rw [z]) (by rw [z])
  · have e0 : ¬ oI (pv σ 6 8 n) = 0 := fun y => by rw [j_eq, t8, jz0] at y; omega
    rw [if_neg e0]
    unfold fX2_measureSplit_19
    rw [s_kindOf, j_b, gk, if_neg e0]
    exact go 425 424 (Or.inr ⟨rfl, rfl⟩) (by rw [z]) (by rw [z])
end QV
end
section
/-! THE RELATION: the class lists a window's nodes -/
theorem nd_inj {l : List Nat} (h : l.Nodup) {i k x : Nat} (a : l[i]? = some x) (b : l[k]? = some x) : i = k := by
  obtain ⟨la, ea⟩ := List.getElem?_eq_some_iff.mp a
  obtain ⟨lb, eb⟩ := List.getElem?_eq_some_iff.mp b
  have p := List.pairwise_iff_getElem.mp h
  rcases Nat.lt_trichotomy i k with q | q | q
  · exact absurd (by rw [ea, eb]) (p i k la lb q)
  · exact q
  · exact absurd (by rw [ea, eb]) (p k i lb la q)
section LN
variable {σ : Sg} {d : Nat → Nat} {wn : Nat → Int} {X : Nat → Bool}
/-- which nodes stand in the list: the root, the children of the first i, those of the next one before place k -/
def BL (V : VW) (r : Nat) (ls : List Nat) (i k : Nat) : Prop :=
  ls.Nodup ∧ ls[0]? = some r ∧ (∀ x ∈ ls, x < 23 ∧ V 8 x ≠ 3) ∧ (∀ j c, ls[j]? = some c → j ≠ 0 → ∃ (a s : Nat), a < j ∧ ls[a]? = some s ∧ V 9 c = s) ∧
  ∀ x, x < 23 → (x ∈ ls ↔ x = r ∨ (∃ (a s : Nat), a < i ∧ ls[a]? = some s ∧ V 9 x = s) ∨ ∃ s : Nat, ls[i]? = some s ∧ V 9 x = s ∧ V 10 x < k)
theorem BL.len {V : VW} {r i k : Nat} {ls : List Nat} (h : BL V r ls i k) : ls.length ≤ 23 := by
  have e := list_cnt (N := 23) (l := ls) (fun x => decide (x ∈ ls)) h.1 (fun x => ⟨fun z => ⟨(h.2.2.1 x z).1, decide_eq_true z⟩, fun z => of_decide_eq_true z.2⟩)
  have := cnt_le (fun x => decide (x ∈ ls)) 23
  omega
theorem BL.get {V : VW} {r i k : Nat} {ls : List Nat} (h : BL V r ls i k) {a b x : Nat} (ha : ls[a]? = some x) (hb : ls[b]? = some x) : a = b := by
  exact nd_inj h.1 ha hb
theorem v_cc_le1 {V : VW} (t : Tree V d wn X) {s : Nat} (hs : s < 23) (h : 1 ≤ v_cc V s) : V 8 s ≤ 1 := by
  unfold v_cc at h
  rw [if_neg (by omega)] at h
  obtain ⟨c, hc, e⟩ := cnt_ex h
  exact (t.par hc (of_decide_eq_true e)).2.1
/-- the next child is new, and is put behind -/
theorem BL.next {V : VW} (t : Tree V d wn X) {r i k s c : Nat} {ls : List Nat} (h : BL V r ls i k) (hr : V 9 r = -1) (hs : ls[i]? = some s) (hc : c < 23) (e9 : V 9 c = s) (e10 : V 10 c = k) : ls.length < 23 ∧ BL V r (ls ++ [c]) i (k + 1) := by
  have nin : ¬ c ∈ ls := fun z => by
    rcases (h.2.2.2.2 c hc).mp z with y | ⟨a, s', ha, hs', e⟩ | ⟨s', hs', e, lt⟩
    · rw [y, hr] at e9
      omega
    · have : s' = s := by omega
      subst this
      have := h.get hs' hs
      omega
    · omega
  have nd : (ls ++ [c]).Nodup := by
    rw [List.nodup_append]
    exact ⟨h.1, by simp, fun a ha b hb => by
      have : b = c := by simpa using hb
      rw [this]
      exact fun z => nin (z ▸ ha)⟩
  have li : i < ls.length := (List.getElem?_eq_some_iff.mp hs).1
  have old : ∀ a x, ls[a]? = some x → (ls ++ [c])[a]? = some x := fun a x hx => by
    rw [List.getElem?_append_left (List.getElem?_eq_some_iff.mp hx).1]
    exact hx
  have new : ∀ a x, (ls ++ [c])[a]? = some x → ls[a]? = some x ∨ (a = ls.length ∧ x = c) := fun a x hx => by
    by_cases q : a < ls.length
    · rw [List.getElem?_append_left q] at hx
      exact Or.inl hx
    · rw [List.getElem?_append_right (by omega)] at hx
      have : a - ls.length = 0 := by
        refine Classical.byContradiction (fun z => ?_)
        rw [List.getElem?_eq_none (by simp; omega)] at hx
        cases hx
      rw [this] at hx
      have hx : some c = some x := hx
      exact Or.inr ⟨by omega, (Option.some.inj hx).symm⟩
  have B : BL V r (ls ++ [c]) i (k + 1) := by
    refine ⟨nd, old 0 r h.2.1, fun x hx => ?_, fun j x hj j0 => ?_, fun x hx => ?_⟩
    · rcases List.mem_append.mp hx with z | z
      · exact h.2.2.1 x z
      · have : x = c := by simpa using z
        rw [this]
        exact ⟨hc, t.us hc (by omega)⟩
    · rcases new j x hj with z | ⟨z, y⟩
      · obtain ⟨a, s', a1, a2, a3⟩ := h.2.2.2.1 j x z j0
        exact ⟨a, s', a1, old a s' a2, a3⟩
      · rw [y, z]
        exact ⟨i, s, li, old i s hs, e9⟩
    · rw [List.mem_append, h.2.2.2.2 x hx]
      constructor
      · rintro ((z | ⟨a, s', a1, a2, a3⟩ | ⟨s', a2, a3, a4⟩) | z)
        · exact Or.inl z
        · exact Or.inr (Or.inl ⟨a, s', a1, old a s' a2, a3⟩)
        · exact Or.inr (Or.inr ⟨s', old i s' a2, a3, by omega⟩)
        · have : x = c := by simpa using z
          rw [this]
          exact Or.inr (Or.inr ⟨s, old i s hs, e9, by omega⟩)
      · rintro (z | ⟨a, s', a1, a2, a3⟩ | ⟨s', a2, a3, a4⟩)
        · exact Or.inl (Or.inl z)
        · rcases new a s' a2 with y | ⟨y, -⟩
          · exact Or.inl (Or.inr (Or.inl ⟨a, s', a1, y, a3⟩))
          · omega
        · rcases new i s' a2 with y | ⟨y, -⟩
          · by_cases z : V 10 x < k
            · exact Or.inl (Or.inr (Or.inr ⟨s', y, a3, z⟩))
            · right
              have : s' = s := Option.some.inj (y.symm.trans hs)
              subst this
              obtain ⟨hs23, ks, -⟩ := t.par hc e9
              have := (t.sp hs23 ks).1.2.2 x c hx hc (decide_eq_true a3) (decide_eq_true e9) (by omega)
              rw [this]
              exact List.mem_singleton.mpr rfl
          · omega
  refine ⟨?_, B⟩
  have := B.len
  rw [List.length_append] at this
  have : ([c] : List Nat).length = 1 := rfl
  omega
/-- all children of the i-th are in: on to the next -/
theorem BL.step {V : VW} (t : Tree V d wn X) {r i s : Nat} {ls : List Nat} (hs : ls[i]? = some s) (hs23 : s < 23) (h : BL V r ls i (v_cc V s)) : BL V r ls (i + 1) 0 := by
  refine ⟨h.1, h.2.1, h.2.2.1, h.2.2.2.1, fun x hx => ?_⟩
  rw [h.2.2.2.2 x hx]
  constructor
  · rintro (z | ⟨a, s', a1, a2, a3⟩ | ⟨s', a2, a3, a4⟩)
    · exact Or.inl z
    · exact Or.inr (Or.inl ⟨a, s', by omega, a2, a3⟩)
    · exact Or.inr (Or.inl ⟨i, s', by omega, a2, a3⟩)
  · rintro (z | ⟨a, s', a1, a2, a3⟩ | ⟨s', a2, a3, a4⟩)
    · exact Or.inl z
    · by_cases q : a < i
      · exact Or.inr (Or.inl ⟨a, s', q, a2, a3⟩)
      · have : a = i := by omega
        subst this
        have : s' = s := Option.some.inj (a2.symm.trans hs)
        subst this
        refine Or.inr (Or.inr ⟨s', hs, a3, ?_⟩)
        obtain ⟨-, ks, -⟩ := t.par hx a3
        have := ((t.sp hs23 ks).1.1 x hx (decide_eq_true a3)).2
        have ec : v_cc V s' = cnt (fun n => decide (V 9 n = s')) 23 := by
          unfold v_cc
          rw [if_neg (by omega)]
        omega
    · have : s' < 23 := by
        have := (h.2.2.1 s' (List.mem_iff_getElem?.mpr ⟨_, a2⟩)).1
        exact this
      obtain ⟨-, ks, -⟩ := t.par hx a3
      have := ((t.sp this ks).1.1 x hx (decide_eq_true a3)).1
      omega
/-- at the end the list is the window -/
theorem BL.all {V : VW} (t : Tree V d wn X) {r : Nat} {ls : List Nat} (h : BL V r ls ls.length 0) (hr : r < 23) (h9 : V 9 r = -1) (hu : V 8 r ≠ 3) {w : Nat} (hw : w < 5) (h5 : V 5 w = r) : ∀ x, x ∈ ls ↔ x < 23 ∧ V 8 x ≠ 3 ∧ wn x = w := by
  have rw' : wn r = w := by
    obtain ⟨w', a, b, c⟩ := t.ro hr hu h9
    have := t.un hw a h5 c
    rw [b, this]
  have mem : ∀ x, x < 23 → (x ∈ ls ↔ x = r ∨ ∃ s : Nat, s ∈ ls ∧ V 9 x = s) := fun x hx => by
    rw [h.2.2.2.2 x hx]
    constructor
    · rintro (z | ⟨a, s', a1, a2, a3⟩ | ⟨s', a2, a3, a4⟩)
      · exact Or.inl z
      · exact Or.inr ⟨s', List.mem_iff_getElem?.mpr ⟨a, a2⟩, a3⟩
      · rw [List.getElem?_eq_none (Nat.le_refl _)] at a2
        cases a2
    · rintro (z | ⟨s, hs, e⟩)
      · exact Or.inl z
      · obtain ⟨a, ha⟩ := List.mem_iff_getElem?.mp hs
        exact Or.inr (Or.inl ⟨a, s, (List.getElem?_eq_some_iff.mp ha).1, ha, e⟩)
  have fw : ∀ (j x : Nat), ls[j]? = some x → wn x = w := by
    intro j
    induction j using Nat.strongRecOn with
    | _ j ih =>
      intro x hx
      by_cases j0 : j = 0
      · rw [j0, h.2.1] at hx
        rw [← Option.some.inj hx, rw']
      · obtain ⟨a, s, a1, a2, a3⟩ := h.2.2.2.1 j x hx j0
        have hx23 := (h.2.2.1 x (List.mem_iff_getElem?.mpr ⟨j, hx⟩)).1
        rw [(t.par hx23 a3).2.2.2]
        exact ih a a1 s a2
  have bw : ∀ m x, dq V x ≤ m → x < 23 → V 8 x ≠ 3 → wn x = w → x ∈ ls := by
    intro m
    induction m with
    | zero =>
      intro x hm hx hxu hxw
      by_cases q : V 9 x = -1
      · obtain ⟨w', a, b, c⟩ := t.ro hx hxu q
        have : w' = w := by omega
        subst this
        exact (mem x hx).mpr (Or.inl (by omega))
      · obtain ⟨s, -, es, -⟩ := t.pa hx q
        have := t.dqc hx es
        omega
    | succ m ih =>
      intro x hm hx hxu hxw
      by_cases q : V 9 x = -1
      · obtain ⟨w', a, b, c⟩ := t.ro hx hxu q
        have : w' = w := by omega
        subst this
        exact (mem x hx).mpr (Or.inl (by omega))
      · obtain ⟨s, hs, es, ks, -, ew⟩ := t.pa hx q
        have := t.dqc hx es
        exact (mem x hx).mpr (Or.inr ⟨s, ih s (by omega) hs (by omega) (by omega), es⟩)
  intro x
  constructor
  · intro z
    obtain ⟨a, b⟩ := h.2.2.1 x z
    obtain ⟨j, hj⟩ := List.mem_iff_getElem?.mp z
    exact ⟨a, b, fw j x hj⟩
  · rintro ⟨a, b, c⟩
    exact bw (dq V x) x (Nat.le_refl _) a b c
/-- what listing leaves alone -/
def Fl (σ σ' : Sg) : Prop := σ'.2 = σ.2 ∧ (∀ j, j ≠ 422 → j ≠ 430 → σ'.1 j = σ.1 j) ∧ ∀ i, i ≠ 8 → σ'.1 422 i = σ.1 422 i
theorem Fl.rf : Fl σ σ := ⟨rfl, fun _ _ _ => rfl, fun _ _ => rfl⟩
theorem Fl.tr {σ1 σ2 : Sg} (h : Fl σ σ1) (h2 : Fl σ1 σ2) : Fl σ σ2 := ⟨h2.1.trans h.1, fun j a b => (h2.2.1 j a b).trans (h.2.1 j a b), fun i a => (h2.2.2 i a).trans (h.2.2 i a)⟩
theorem Fl.s8 {v : Int32} : Fl σ (su σ 422 8 v) := ⟨rfl, fun j a _ => su_ne a, fun i a => by rw [su_at, if_neg (fun z => a z.2)]⟩
theorem Fl.s430 {i : Nat} {v : Int32} : Fl σ (su σ 430 i v) := ⟨rfl, fun j _ b => su_ne b, fun i _ => by rw [su_at, if_neg (by omega)]⟩
theorem Fl.pv {σ' : Sg} (h : Fl σ σ') : pv σ' 6 = pv σ 6 := pv_cg (fun j hj => h.2.1 j (by omega) (by omega))
/-- listNodes -/
theorem s_list {l : List Nat} (hr : rl (σ.1 430) l) (hl : l.length < 23) (e : σ.1 422 8 = nI l.length) {c : Nat} (hc : c < 23) : ∃ σ', fX2_list σ 422 (nI c) = some σ' ∧ Fl σ σ' ∧ rl (σ'.1 430) (l ++ [c]) ∧ σ'.1 422 8 = nI (l ++ [c]).length := by
  have ec : (nI c).toInt = c := j_nI (by omega)
  unfold fX2_list
  rw [if_neg (fun z => by rw [j_eq, ec, jm1] at z; omega), e, if_neg (by rw [j_le, j_nI (by omega), j_nI (by omega)]; omega), show (422 + 8 : Nat) = 430 from rfl, s_putn (by decide) hl, j_b, j_nm]
  have e8 : (su σ 430 l.length (nI c)).1 422 8 = nI l.length := by rw [su_at, if_neg (by omega), e]
  rw [e8, j_s]
  refine ⟨_, rfl, Fl.s430.tr Fl.s8, ?_, ?_⟩
  · refine rl_snoc hr (fun i => ?_)
    rw [su_at, if_neg (by omega), su_at]
    by_cases z : i = l.length
    · rw [if_pos ⟨rfl, z⟩, if_pos z]
    · rw [if_neg (fun y => z y.2), if_neg z]
  · rw [su_at, if_pos ⟨rfl, rfl⟩, List.length_append]
    rfl
/-- the children of the i-th -/
theorem s_ln43 (t : Tree (pv σ 6) d wn X) {r i s : Nat} {ls : List Nat} (h : BL (pv σ 6) r ls i 0) (h9 : pv σ 6 9 r = -1) (hs : ls[i]? = some s) (hr : rl (σ.1 430) ls) (e : σ.1 422 8 = nI ls.length) (K : Sg → Int32 → Option Sg) : ∃ σ' ls', fX2_listNodes_43 422 6 K FU σ (nI i) (nI (v_cc (pv σ 6) s)) 0 = K σ' (nI (i + 1)) ∧ Fl σ σ' ∧ rl (σ'.1 430) ls' ∧ σ'.1 422 8 = nI ls'.length ∧ BL (pv σ 6) r ls' (i + 1) 0 ∧ i + 1 ≤ ls'.length := by
  have ms := h.2.2.1 s (List.mem_iff_getElem?.mpr ⟨i, hs⟩)
  have cc23 : v_cc (pv σ 6) s ≤ 23 := by
    unfold v_cc
    split
    · omega
    · exact cnt_le _ _
  have es : (nI s).toInt = s := j_nI (by omega)
  have li : i < 23 := by
    have := (List.getElem?_eq_some_iff.mp hs).1
    have := h.len
    omega
  refine lp (F := fun m (s' : Sg × Int32) => fX2_listNodes_43 422 6 K m s'.1 (nI i) (nI (v_cc (pv σ 6) s)) s'.2) (Q := fun o => ∃ σ' ls', o = K σ' (nI (i + 1)) ∧ Fl σ σ' ∧ rl (σ'.1 430) ls' ∧ σ'.1 422 8 = nI ls'.length ∧ BL (pv σ 6) r ls' (i + 1) 0 ∧ i + 1 ≤ ls'.length) (fun k s' => s'.2 = nI k ∧ Fl σ s'.1 ∧ ∃ ls', rl (s'.1.1 430) ls' ∧ s'.1.1 422 8 = nI ls'.length ∧ BL (pv σ 6) r ls' i k ∧ ls'[i]? = some s) (v_cc (pv σ 6) s) ?_ ?_ (v_cc (pv σ 6) s) 0 FU (σ, 0) (by omega) (by show _ < 6000; omega) ⟨rfl, Fl.rf, ls, hr, e, h, hs⟩
  · rintro m k ⟨s', l⟩ hk ⟨rfl, hf, ls', hr', e', h', hs'⟩
    simp only at hf hr' e'
    have ks : pv σ 6 8 s ≤ 1 := by
      have := v_cc_le1 t ms.1 (by omega)
      exact this
    obtain ⟨c, hc, e1, e2, e3, -⟩ := t.kid ms.1 ks hk
    obtain ⟨lt, B⟩ := h'.next t h9 hs' hc e2 e3
    have ek : (nI k).toInt = k := j_nI (by omega)
    obtain ⟨σ2, a2, f2, r2, v2⟩ := s_list hr' lt e' hc
    show ∃ s2 : Sg × Int32, _ ∧ fX2_listNodes_43 422 6 K (m + 1) s' (nI i) (nI (v_cc (pv σ 6) s)) (nI k) = _
    rw [fX2_listNodes_43, if_neg (by rw [j_le, ek, j_nI (by omega)]; omega), show (422 + 8 : Nat) = 430 from rfl, s_atn (by decide) li, j_b, hr' i s hs', s_childAt, j_b, hf.pv, es, ek, e1, ← j_nIo c (by omega), a2, j_b, j_s]
    refine ⟨(σ2, nI (k + 1)), ⟨rfl, hf.tr f2, ls' ++ [c], r2, v2, B, ?_⟩, rfl⟩
    rw [List.getElem?_append_left (List.getElem?_eq_some_iff.mp hs').1]
    exact hs'
  · rintro m ⟨s', l⟩ ⟨rfl, hf, ls', hr', e', h', hs'⟩
    simp only at hf hr' e'
    show ∃ σ' ls', fX2_listNodes_43 422 6 K (m + 1) s' (nI i) (nI (v_cc (pv σ 6) s)) (nI (v_cc (pv σ 6) s)) = _ ∧ _
    rw [fX2_listNodes_43, if_pos (by rw [j_le]; exact Int.le_refl _), j_s]
    exact ⟨s', ls', rfl, hf, hr', e', h'.step t hs' ms.1, (List.getElem?_eq_some_iff.mp hs').1⟩
theorem s_listNodes (t : Tree (pv σ 6) d wn X) {r : Nat} (hr : r < 23) (h9 : pv σ 6 9 r = -1) (hu : pv σ 6 8 r ≠ 3) : ∃ σ' ls, fX2_listNodes σ 422 6 (nI r) = some σ' ∧ Fl σ σ' ∧ rl (σ'.1 430) ls ∧ σ'.1 422 8 = nI ls.length ∧ BL (pv σ 6) r ls ls.length 0 := by
  unfold fX2_listNodes
  rw [j_nm]
  obtain ⟨σ1, a1, f1, r1, v1⟩ := s_list (σ := su σ 422 8 0) (l := []) (fun k c h => by cases h) (by decide) (by rw [su_at, if_pos ⟨rfl, rfl⟩]; rfl) hr
  rw [a1, j_b]
  have f1 : Fl σ σ1 := Fl.s8.tr f1
  have B : BL (pv σ 6) r [r] 0 0 := by
    refine ⟨by simp, rfl, fun x hx => ?_, fun j c hj j0 => ?_, fun x hx => ?_⟩
    · have : x = r := by simpa using hx
      rw [this]
      exact ⟨hr, hu⟩
    · rw [List.getElem?_eq_none (by simp; omega)] at hj
      cases hj
    · constructor
      · intro z
        exact Or.inl (by simpa using z)
      · rintro (z | ⟨a, -, z, -⟩ | ⟨s, hs, e, z⟩)
        · rw [z]
          exact List.mem_singleton.mpr rfl
        · omega
        · have hs : some r = some s := hs
          have : r = s := Option.some.inj hs
          subst this
          obtain ⟨hs23, ks, -⟩ := t.par hx e
          have := ((t.sp hs23 ks).1.1 x hx (decide_eq_true e)).1
          omega
  refine lpx (F := fun m (s : Sg × Int32) => fX2_listNodes_12 422 6 m s.1 s.2) (Q := fun o => ∃ σ' ls, o = some σ' ∧ Fl σ σ' ∧ rl (σ'.1 430) ls ∧ σ'.1 422 8 = nI ls.length ∧ BL (pv σ 6) r ls ls.length 0) (fun i s => s.2 = nI i ∧ Fl σ s.1 ∧ ∃ ls, rl (s.1.1 430) ls ∧ s.1.1 422 8 = nI ls.length ∧ BL (pv σ 6) r ls i 0 ∧ i ≤ ls.length) 23 ?_ ?_ 23 0 FU (σ1, 0) rfl (by decide) ⟨rfl, f1, [r], r1, v1, B, by omega⟩
  · rintro m i ⟨s, l⟩ hi ⟨rfl, hf, ls, hr', e', h', hl⟩
    simp only at hf hr' e'
    have l23 := h'.len
    show (∃ σ' ls, fX2_listNodes_12 422 6 (m + 1) s (nI i) = some σ' ∧ _) ∨ ∃ s' : Sg × Int32, _ ∧ fX2_listNodes_12 422 6 (m + 1) s (nI i) = _
    rw [fX2_listNodes_12, if_neg (n_ge 23 (m := 23) rfl hi (by decide)), e']
    by_cases q : ls.length ≤ i
    · left
      have : i = ls.length := by omega
      rw [if_pos (by rw [j_le, j_nI (by omega), j_nI (by omega)]; omega)]
      exact ⟨s, ls, rfl, hf, hr', e', by rw [this] at h'; exact h'⟩
    · right
      have gi := List.getElem?_eq_getElem (show i < ls.length by omega)
      generalize ls[i] = c at gi
      have hc := h'.2.2.1 c (List.mem_iff_getElem?.mpr ⟨i, gi⟩)
      rw [if_neg (by rw [j_le, j_nI (by omega), j_nI (by omega)]; omega), show (422 + 8 : Nat) = 430 from rfl, s_atn (by decide) hi, j_b, hr' i c gi, s_childCount, j_b, j_nI (show c < 2147483648 by omega), hf.pv]
      have cc23 : v_cc (pv σ 6) c ≤ 23 := by
        unfold v_cc
        split
        · omega
        · exact cnt_le _ _
      rw [← j_nIo _ (by omega)]
      have pe := hf.pv
      obtain ⟨σ2, ls2, a2, f2, r2, v2, B2, l2⟩ := s_ln43 (σ := s) (d := d) (wn := wn) (X := X) (by rw [pe]; exact t) (r := r) (i := i) (s := c) (ls := ls) (by rw [pe]; exact h') (by rw [pe]; exact h9) gi hr' e' (fX2_listNodes_12 422 6 m)
      rw [pe] at a2 B2
      rw [a2]
      exact ⟨(σ2, nI (i + 1)), ⟨rfl, hf.tr f2, ls2, r2, v2, B2, l2⟩, rfl⟩
  · rintro m ⟨s, l⟩ ⟨rfl, hf, ls, hr', e', h', hl⟩
    simp only at hf hr' e'
    have l23 := h'.len
    have : 23 = ls.length := by omega
    show ∃ σ' ls, fX2_listNodes_12 422 6 (m + 1) s (nI 23) = some σ' ∧ _
    rw [fX2_listNodes_12, if_pos (n_le 23 (m := 23) rfl (by decide))]
    exact ⟨s, ls, rfl, hf, hr', e', by rw [← this]; exact h'⟩
end LN
end
section
/-! THE RELATION: the class's Sharing is share -/
theorem k_add {a b : Int64} (h0 : -9223372036854775808 ≤ a.toInt + b.toInt) (h1 : a.toInt + b.toInt < 9223372036854775808) : (a + b).toInt = a.toInt + b.toInt := by
  rw [Int64.toInt_add, Int.bmod_def]
  split <;> omega
theorem k_sub {a b : Int64} (h0 : -9223372036854775808 ≤ a.toInt - b.toInt) (h1 : a.toInt - b.toInt < 9223372036854775808) : (a - b).toInt = a.toInt - b.toInt := by
  rw [Int64.toInt_sub, Int.bmod_def]
  split <;> omega
theorem k_mul {a b : Int64} (h0 : -9223372036854775808 ≤ a.toInt * b.toInt) (h1 : a.toInt * b.toInt < 9223372036854775808) : (a * b).toInt = a.toInt * b.toInt := by
  rw [Int64.toInt_mul, Int.bmod_def]
  split <;> omega
theorem k_div {a b : Int64} (h0 : 0 ≤ a.toInt) (h1 : 0 < b.toInt) : (a / b).toInt = a.toInt / b.toInt := by
  have q : a.toInt.tdiv b.toInt = a.toInt / b.toInt := Int.tdiv_eq_ediv_of_nonneg h0
  have l0 : 0 ≤ a.toInt / b.toInt := Int.ediv_nonneg h0 (by omega)
  have l1 : a.toInt / b.toInt ≤ a.toInt := Int.ediv_le_self _ h0
  have hi := Int64.toInt_lt a
  rw [Int64.toInt_div, q, Int.bmod_def]
  split <;> omega
theorem k_32 {a : Int64} (h0 : -2147483648 ≤ a.toInt) (h1 : a.toInt < 2147483648) : a.toInt32.toInt = a.toInt := by
  rw [Int64.toInt_toInt32, Int.bmod_def]
  split <;> omega
theorem k_64 (a : Int32) : a.toInt64.toInt = a.toInt := Int32.toInt_toInt64 a
theorem k_le {a b : Int64} : (lg_cmp a b) ≤ 0 ↔ a.toInt ≤ b.toInt := by rw [lg_cmp_le, Int64.le_iff_toInt_le]
theorem k_eq {a b : Int64} : a = b ↔ a.toInt = b.toInt := Int64.toInt_inj.symm
theorem kz0 : (0 : Int64).toInt = 0 := rfl
/-- a row tells a function over a list -/
def rv (f : Nat → Int32) (l : List Nat) (g : Nat → Int) : Prop := ∀ k c, l[k]? = some c → (f k).toInt = g c
theorem rv_su {σ : Sg} {j k c : Nat} {pl : List Nat} {g g' : Nat → Int} {v : Int32} (hd : pl.Nodup) (h : rv (σ.1 j) pl g) (hk : pl[k]? = some c) (hv : v.toInt = g' c) (hg : ∀ x, x ≠ c → g' x = g x) : rv ((su σ j k v).1 j) pl g' := fun i x hi => by
  rw [su_at]
  by_cases q : i = k
  · subst q
    rw [if_pos ⟨rfl, rfl⟩]
    have : c = x := Option.some.inj (hk.symm.trans hi)
    rw [← this, hv]
  · rw [if_neg (fun z => q z.2), h i x hi, hg]
    intro z
    subst z
    exact q (nd_inj hd hi hk)
section SHC
variable {σ : Sg} {pl : List Nat} {room : Int} {m w : Nat → Int}
/-- the parts as they stand in Sharing -/
def SI0 (σ : Sg) (pl : List Nat) (m w : Nat → Int) : Prop := σ.1 432 5 = nI pl.length ∧ rv (σ.1 433) pl m ∧ rv (σ.1 434) pl w
theorem SI0.out {σ' : Sg} (h : SI0 σ pl m w) (o : Out σ σ' 435 437) : SI0 σ' pl m w := by
  unfold SI0
  rw [o.2 432 (by omega), o.2 433 (by omega), o.2 434 (by omega)]
  exact h
/-- the bounds that the parts keep -/
def XB (pl : List Nat) (m w : Nat → Int) : Prop := XP pl m w ∧ pl.length ≤ 23 ∧ (∀ c ∈ pl, m c ≤ 965) ∧ ∀ c ∈ pl, w c ≤ 1000000
theorem Sm_up {f : Nat → Int} {B : Int} : ∀ {l : List Nat}, (∀ c ∈ l, f c ≤ B) → Sm f l ≤ B * l.length
  | [], _ => by
    show (0 : Int) ≤ B * ((0 : Nat) : Int)
    rw [Int.natCast_zero, Int.mul_zero]
    exact Int.le_refl _
  | c :: t, h => by
    unfold Sm
    have a := h c (List.mem_cons_self ..)
    have b := Sm_up (l := t) (fun x hx => h x (List.mem_cons_of_mem _ hx))
    have e : B * (((c :: t).length : Nat) : Int) = B * (t.length : Int) + B := by
      rw [List.length_cons, Int.natCast_add, Int.mul_add, Int.natCast_one, Int.mul_one]
    omega
theorem take_mem {l : List Nat} {k x : Nat} (h : x ∈ l.take k) : x ∈ l := (List.take_sublist k l).subset h
/-- too little room -/
theorem s_giveMinimums (h : SI0 σ pl m w) (x : XB pl m w) (h0 : 0 ≤ room ∧ room ≤ 400) : ∃ σ', fX3_giveMinimums σ 432 (oI room) = some σ' ∧ Out σ σ' 435 437 ∧ rv (σ'.1 435) pl (xm m pl room) := by
  obtain ⟨⟨nd, m0, w1⟩, len, mB, wB⟩ := x
  unfold fX3_giveMinimums
  refine lp (F := fun n (s : Sg × Int32 × Int32) => fX3_giveMinimums_4 432 n s.1 s.2.1 s.2.2) (Q := fun o => ∃ σ', o = some σ' ∧ Out σ σ' 435 437 ∧ rv (σ'.1 435) pl (xm m pl room)) (fun k s => s.2.2 = nI k ∧ Out σ s.1 435 437 ∧ (0 ≤ s.2.1.toInt ∧ s.2.1.toInt ≤ 400) ∧ (∀ i c, i < k → pl[i]? = some c → (s.1.1 435 i).toInt = xm m pl room c) ∧ ∀ c, c ∈ pl.drop k → xm m pl room c = xm m (pl.drop k) s.2.1.toInt c) pl.length ?_ ?_ pl.length 0 FU (σ, oI room, 0) (by omega) (by show _ < 6000; omega) ⟨rfl, Out.rf, by show 0 ≤ (oI room).toInt ∧ _; rw [j_oI (by omega) (by omega)]; exact h0, fun i c hi => absurd hi (by omega), fun c _ => by
    show _ = xm m pl (oI room).toInt c
    rw [j_oI (by omega) (by omega)]⟩
  · rintro n k ⟨s, r, l⟩ hk ⟨rfl, ho, hr, hv, hx⟩
    simp only at ho hr hv hx
    obtain ⟨c5, r3, r4⟩ := h.out ho
    have gi := List.getElem?_eq_getElem hk
    have dk := List.drop_eq_getElem_cons hk
    generalize pl[k] = c at gi dk
    have hc : c ∈ pl := List.mem_iff_getElem?.mpr ⟨k, gi⟩
    have mc := r3 k c gi
    have := m0 c hc
    have := mB c hc
    have vT : (if r < s.1 433 k then r else s.1 433 k).toInt = if r.toInt < m c then r.toInt else m c := by
      rw [← mc]
      by_cases y : r < s.1 433 k
      · rw [if_pos y, if_pos (j_lt.mp y)]
      · rw [if_neg y, if_neg (fun z => y (j_lt.mpr z))]
    have vr : 0 ≤ (if r.toInt < m c then r.toInt else m c) ∧ (if r.toInt < m c then r.toInt else m c) ≤ r.toInt := by split <;> omega
    have xc0 : xm m pl room c = if r.toInt < m c then r.toInt else m c := by
      rw [hx c (by rw [dk]; exact List.mem_cons_self ..), dk]
      show (if c = c then _ else _) = _
      rw [if_pos rfl]
    generalize hv' : (if r < s.1 433 k then r else s.1 433 k) = v at *
    have rv' : (r - v).toInt = r.toInt - v.toInt := j_sub (by omega) (by omega)
    show ∃ s' : Sg × Int32 × Int32, _ ∧ fX3_giveMinimums_4 432 (n + 1) s r (nI k) = _
    rw [fX3_giveMinimums_4, c5, if_neg (by rw [j_le, j_nI (by omega), j_nI (by omega)]; omega), show (432 + 1 : Nat) = 433 from rfl, s_atn (by decide) (by omega), j_b, hv', j_nm, show (432 + 3 : Nat) = 435 from rfl, s_putn (by decide) (by omega), j_b, j_nm, j_s]
    refine ⟨(_, _, nI (k + 1)), ⟨rfl, ho.tr (su_out.mo (by omega) (by omega)), by show 0 ≤ (r - v).toInt ∧ (r - v).toInt ≤ 400; omega, fun i y hi gy => ?_, fun y hy => ?_⟩, rfl⟩
    · show ((su s 435 k v).1 435 i).toInt = _
      rw [su_at]
      by_cases z : i = k
      · rw [if_pos ⟨rfl, z⟩]
        rw [z] at gy
        rw [← Option.some.inj (gi.symm.trans gy), xc0, vT]
      · rw [if_neg (fun q => z q.2)]
        exact hv i y (by omega) gy
    · show _ = xm m (pl.drop (k + 1)) (r - v).toInt y
      have ne : y ≠ c := fun z => by
        have nd2 : (pl.drop k).Nodup := nd.sublist (List.drop_sublist k pl)
        rw [dk, List.nodup_cons] at nd2
        exact nd2.1 (z ▸ hy)
      rw [hx y (by rw [dk]; exact List.mem_cons_of_mem _ hy), dk]
      show (if y = c then _ else xm m (pl.drop (k + 1)) (r.toInt - (if r.toInt < m c then r.toInt else m c)) y) = _
      rw [if_neg ne, rv', vT]
  · rintro n ⟨s, r, l⟩ ⟨rfl, ho, hr, hv, hx⟩
    simp only at ho hr hv hx
    obtain ⟨c5, r3, r4⟩ := h.out ho
    show ∃ σ', fX3_giveMinimums_4 432 (n + 1) s r (nI pl.length) = _ ∧ _
    rw [fX3_giveMinimums_4, c5, if_pos (by rw [j_le]; exact Int.le_refl _)]
    exact ⟨s, rfl, ho, fun k c hk => hv k c (List.getElem?_eq_some_iff.mp hk).1 hk⟩
/-- the flags tell who is open, the sizes of the closed ones are their least -/
def SO (σ : Sg) (pl : List Nat) (m : Nat → Int) (op : Nat → Bool) : Prop := rv (σ.1 436) pl (fun c => if op c then 1 else 0) ∧ ∀ k c, pl[k]? = some c → op c = false → (σ.1 435 k).toInt = m c
/-- one round: who gets less than the least is closed -/
theorem s_close92 (h : SI0 σ pl m w) (x : XB pl m w) (h0 : 0 ≤ room ∧ room ≤ 400) (hs : Sm m pl < room) {op : Nat → Bool} (ho1 : 1 ≤ xn pl op) (hso : SO σ pl m op) {l2 l4 : Int64} (e2 : l2.toInt = room - xc pl m op) (e4 : l4.toInt = xw pl w op) : ∃ σ', fX3_closeSmallShares_92 432 FU σ l2 l4 0 0 = some (xa pl op (xo pl room m w op), σ') ∧ Out σ σ' 435 437 ∧ SO σ' pl m (xo pl room m w op) ∧ ∀ k c, pl[k]? = some c → xo pl room m w op c = true → (σ'.1 435 k).toInt = xq pl room m w op c ∧ (σ'.1 437 k).toInt = xr pl room m w op c := by
  obtain ⟨⟨nd, m0, w1⟩, len, mB, wB⟩ := x
  have XPh : XP pl m w := ⟨nd, m0, w1⟩
  obtain ⟨y, hy, ey⟩ := xn_ex ho1
  have wp := xw_pos XPh hy ey
  have wu : xw pl w op ≤ 23000000 := by
    have a := Sm_up (f := fun c => if op c then w c else 0) (B := 1000000) (l := pl) (fun c hc => by
      show (if op c then w c else 0) ≤ 1000000
      have := wB c hc
      split <;> omega)
    unfold xw
    omega
  have lo := xc_lt hs op
  have l1 : 0 ≤ Sm (fun c => if op c then m c else 0) pl := Sm_nn (fun c hc => by
    show 0 ≤ if op c then m c else 0
    have := m0 c hc
    split <;> omega)
  have cn : 0 ≤ xc pl m op := Sm_nn (fun c hc => by
    show 0 ≤ if op c then 0 else m c
    have := m0 c hc
    split <;> omega)
  have z4 : ¬ (lg_cmp l4 0) ≤ 0 := by rw [k_le, e4, kz0]; omega
  have z0 : ¬ l4 = 0 := by rw [k_eq, e4, kz0]; omega
  refine lp (F := fun n (s : Sg × Int32 × Int32) => fX3_closeSmallShares_92 432 n s.1 l2 l4 s.2.1 s.2.2) (Q := fun o => ∃ σ', o = some (xa pl op (xo pl room m w op), σ') ∧ Out σ σ' 435 437 ∧ SO σ' pl m (xo pl room m w op) ∧ ∀ k c, pl[k]? = some c → xo pl room m w op c = true → (σ'.1 435 k).toInt = xq pl room m w op c ∧ (σ'.1 437 k).toInt = xr pl room m w op c) (fun k s => s.2.2 = nI k ∧ Out σ s.1 435 437 ∧ s.2.1 = (if xa (pl.take k) op (xo pl room m w op) then 1 else 0) ∧ SO s.1 pl m (fun c => if c ∈ pl.take k then xo pl room m w op c else op c) ∧ ∀ i c, i < k → pl[i]? = some c → xo pl room m w op c = true → (s.1.1 435 i).toInt = xq pl room m w op c ∧ (s.1.1 437 i).toInt = xr pl room m w op c) pl.length ?_ ?_ pl.length 0 FU (σ, 0, 0) (by omega) (by show _ < 6000; omega) ⟨rfl, Out.rf, rfl, hso, fun i c hi => absurd hi (by omega)⟩
  · rintro n k ⟨s, f, l⟩ hk ⟨rfl, ho, hf, hso', hv⟩
    simp only at ho hf hso' hv
    obtain ⟨c5, r3, r4⟩ := h.out ho
    have gi := List.getElem?_eq_getElem hk
    generalize pl[k] = c at gi
    have hc : c ∈ pl := List.mem_iff_getElem?.mpr ⟨k, gi⟩
    have mc := r3 k c gi
    have wc := r4 k c gi
    have w1c := w1 c hc
    have wBc := wB c hc
    have m0c := m0 c hc
    have mBc := mB c hc
    have nt : ¬ c ∈ pl.take k := fun z => by
      obtain ⟨i, hi⟩ := List.mem_iff_getElem?.mp z
      have ik : i < k := by
        have := (List.getElem?_eq_some_iff.mp hi).1
        rw [List.length_take] at this
        omega
      rw [List.getElem?_take_of_lt ik] at hi
      have := nd_inj nd hi gi
      omega
    have f6 := hso'.1 k c gi
    simp only [if_neg nt] at f6
    have tk := take_snoc gi
    have xat : xa (pl.take (k + 1)) op (xo pl room m w op) = (xa (pl.take k) op (xo pl room m w op) || (op c && !xo pl room m w op c)) := by
      unfold xa
      rw [tk, List.any_append]
      simp
    have tin : ∀ z, (z ∈ pl.take (k + 1)) ↔ (z ∈ pl.take k ∨ z = c) := fun z => by
      rw [tk, List.mem_append]
      simp
    show ∃ s' : Sg × Int32 × Int32, _ ∧ fX3_closeSmallShares_92 432 (n + 1) s l2 l4 f (nI k) = _
    have nle : ¬ nI pl.length ≤ nI k := by rw [j_le, j_nI (by omega), j_nI (by omega)]; omega
    rw [fX3_closeSmallShares_92, c5, if_neg nle, if_neg z4, show (432 + 4 : Nat) = 436 from rfl, s_atn (by decide) (by omega), j_b]
    cases oc : op c
    · -- closed already
      rw [oc] at f6
      have f6 : (s.1 436 k).toInt = 0 := f6
      have nf : ¬ s.1 436 k = 1 := fun z => by rw [j_eq, f6, jz1] at z; omega
      rw [if_neg nf, fX3_closeSmallShares_217, j_s]
      have xof : xo pl room m w op c = false := by
        unfold xo
        rw [oc, Bool.false_and]
      have same : (fun z => if z ∈ pl.take (k + 1) then xo pl room m w op z else op z) = fun z => if z ∈ pl.take k then xo pl room m w op z else op z := by
        funext z
        by_cases q : z = c
        · subst q
          rw [if_pos ((tin z).mpr (Or.inr rfl)), if_neg nt, oc, xof]
        · by_cases q2 : z ∈ pl.take k
          · rw [if_pos ((tin z).mpr (Or.inl q2)), if_pos q2]
          · rw [if_neg (fun y => ((tin z).mp y).elim q2 q), if_neg q2]
      refine ⟨(s, f, nI (k + 1)), ⟨rfl, ho, ?_, by rw [same]; exact hso', fun i z hi gz oz => ?_⟩, rfl⟩
      · show f = _
        rw [hf, xat, oc, Bool.false_and, Bool.or_false]
      · by_cases q : i = k
        · subst q
          rw [← Option.some.inj (gi.symm.trans gz), xof] at oz
          cases oz
        · exact hv i z (by omega) gz oz
    · rw [oc] at f6
      have f6 : (s.1 436 k).toInt = 1 := f6
      have pf : s.1 436 k = 1 := j_eq.mpr (by rw [f6, jz1])
      rw [if_pos pf, show (432 + 2 : Nat) = 434 from rfl, s_atn (by decide) (by omega), j_b, j_nm, if_neg z0]
      have n0 : 0 ≤ (room - xc pl m op) * w c := Int.mul_nonneg (by omega) (by omega)
      have n1 : (room - xc pl m op) * w c ≤ 400 * 1000000 := Int.mul_le_mul (by omega) (by omega) (by omega) (by omega)
      have v6 : (l2 * (s.1 434 k).toInt64).toInt = (room - xc pl m op) * w c := by
        rw [k_mul (by rw [k_64, e2, wc]; omega) (by rw [k_64, e2, wc]; omega), k_64, e2, wc]
      generalize l2 * (s.1 434 k).toInt64 = v at v6
      have vq : (v / l4).toInt = xq pl room m w op c := by
        rw [k_div (by rw [v6]; exact n0) (by rw [e4]; omega), v6, e4]
        rfl
      have q0 : 0 ≤ xq pl room m w op c := Int.ediv_nonneg n0 (by omega)
      have q1 : xq pl room m w op c ≤ (room - xc pl m op) * w c := Int.ediv_le_self _ n0
      have qm := Int.mul_ediv_add_emod ((room - xc pl m op) * w c) (xw pl w op)
      have r0 : 0 ≤ xr pl room m w op c := Int.emod_nonneg _ (by omega)
      have r1 : xr pl room m w op c < xw pl w op := Int.emod_lt_of_pos _ (by omega)
      have qm : xw pl w op * xq pl room m w op c + xr pl room m w op c = (room - xc pl m op) * w c := qm
      have qq : ((v / l4) * l4).toInt = xw pl w op * xq pl room m w op c := by
        rw [k_mul (by rw [vq, e4, Int.mul_comm]; omega) (by rw [vq, e4, Int.mul_comm]; omega), vq, e4, Int.mul_comm]
      have vr : (v - (v / l4) * l4).toInt = xr pl room m w op c := by
        rw [k_sub (by rw [qq, v6]; omega) (by rw [qq, v6]; omega), qq, v6]
        omega
      have q32 : (v / l4).toInt32.toInt = xq pl room m w op c := by rw [k_32 (by rw [vq]; omega) (by rw [vq]; omega), vq]
      have r32 : (v - (v / l4) * l4).toInt32.toInt = xr pl room m w op c := by rw [k_32 (by rw [vr]; omega) (by rw [vr]; omega), vr]
      rw [show (432 + 3 : Nat) = 435 from rfl, s_putn (by decide) (by omega), j_b, if_neg z0, show (432 + 5 : Nat) = 437 from rfl, s_putn (by decide) (by omega), j_b]
      generalize hq : (v / l4).toInt32 = Q at q32
      generalize hr' : (v - (v / l4) * l4).toInt32 = Rr at r32
      have g435 : (su (su s 435 k Q) 437 k Rr).1 435 k = Q := by rw [su_at, if_neg (by omega), su_at, if_pos ⟨rfl, rfl⟩]
      have g433 : (su (su s 435 k Q) 437 k Rr).1 433 k = s.1 433 k := by rw [su_at, if_neg (by omega), su_at, if_neg (by omega)]
      rw [s_atn (by decide) (by omega), j_b, show (432 + 1 : Nat) = 433 from rfl, s_atn (by decide) (by omega), j_b, g435, g433]
      have o2 : Out σ (su (su s 435 k Q) 437 k Rr) 435 437 := (ho.tr (su_out.mo (by omega) (by omega))).tr (su_out.mo (by omega) (by omega))
      have upd : ∀ b, xo pl room m w op c = b → (fun z => if z ∈ pl.take (k + 1) then xo pl room m w op z else op z) = fun z => if z = c then b else if z ∈ pl.take k then xo pl room m w op z else op z := fun b hb => by
        funext z
        by_cases q : z = c
        · subst q
          rw [if_pos ((tin z).mpr (Or.inr rfl)), if_pos rfl, hb]
        · rw [if_neg q]
          by_cases q2 : z ∈ pl.take k
          · rw [if_pos ((tin z).mpr (Or.inl q2)), if_pos q2]
          · rw [if_neg (fun y => ((tin z).mp y).elim q2 q), if_neg q2]
      have uniq : ∀ i z, pl[i]? = some z → (z = c ↔ i = k) := fun i z gz => by
        constructor
        · intro q
          subst q
          exact nd_inj nd gz gi
        · intro q
          subst q
          exact Option.some.inj (gz.symm.trans gi)
      by_cases q : m c ≤ xq pl room m w op c
      · have pq : s.1 433 k ≤ Q := j_le.mpr (by rw [mc, q32]; exact q)
        rw [if_pos pq, fX3_closeSmallShares_217, j_s]
        have xoc : xo pl room m w op c = true := by
          unfold xo
          rw [oc, decide_eq_true q]
          rfl
        refine ⟨(su (su s 435 k Q) 437 k Rr, f, nI (k + 1)), ⟨rfl, o2, ?_, ?_, fun i z hi gz oz => ?_⟩, rfl⟩
        · show f = _
          rw [hf, xat, xoc, oc]
          simp
        · rw [upd true xoc]
          refine ⟨fun i z gz => ?_, fun i z gz oz => ?_⟩
          · show ((su (su s 435 k Q) 437 k Rr).1 436 i).toInt = _
            rw [su_at, if_neg (by omega), su_at, if_neg (by omega), hso'.1 i z gz]
            by_cases y : z = c
            · subst y
              simp only [if_neg nt, if_true, oc]
            · simp only [if_neg y]
          · have nk : i ≠ k := fun y => by
              simp only [if_pos ((uniq i z gz).mpr y)] at oz
              cases oz
            have nc : z ≠ c := fun y => nk ((uniq i z gz).mp y)
            simp only [if_neg nc] at oz
            show ((su (su s 435 k Q) 437 k Rr).1 435 i).toInt = _
            rw [su_at, if_neg (by omega), su_at, if_neg (by omega)]
            exact hso'.2 i z gz oz
        · show ((su (su s 435 k Q) 437 k Rr).1 435 i).toInt = _ ∧ ((su (su s 435 k Q) 437 k Rr).1 437 i).toInt = _
          by_cases y : i = k
          · have := (uniq i z gz).mpr y
            subst y
            subst this
            rw [g435, su_at, if_pos ⟨rfl, rfl⟩]
            exact ⟨q32, r32⟩
          · have := hv i z (by omega) gz oz
            rw [su_at, if_neg (by omega), su_at, if_neg (by omega), su_at, if_neg (by omega), su_at, if_neg (by omega)]
            exact this
      · have nq : ¬ s.1 433 k ≤ Q := fun z => q (by rw [j_le, mc, q32] at z; exact z)
        rw [if_neg nq, j_b, s_putn (by decide) (by omega), j_b, s_putn (by decide) (by omega), j_b, fX3_closeSmallShares_217, j_s]
        have xoc : xo pl room m w op c = false := by
          unfold xo
          rw [decide_eq_false q, Bool.and_false]
        refine ⟨(su (su (su (su s 435 k Q) 437 k Rr) 435 k (s.1 433 k)) 436 k 0, 1, nI (k + 1)), ⟨rfl, (o2.tr (su_out.mo (by omega) (by omega))).tr (su_out.mo (by omega) (by omega)), ?_, ?_, fun i z hi gz oz => ?_⟩, rfl⟩
        · show (1 : Int32) = _
          rw [xat, xoc, oc]
          simp
        · rw [upd false xoc]
          refine ⟨fun i z gz => ?_, fun i z gz oz => ?_⟩
          · show ((su (su (su (su s 435 k Q) 437 k Rr) 435 k (s.1 433 k)) 436 k 0).1 436 i).toInt = _
            rw [su_at]
            by_cases y : i = k
            · rw [if_pos ⟨rfl, y⟩]
              simp only [if_pos ((uniq i z gz).mpr y)]
              rfl
            · rw [if_neg (fun u => y u.2), su_at, if_neg (by omega), su_at, if_neg (by omega), su_at, if_neg (by omega), hso'.1 i z gz]
              simp only [if_neg (fun u => y ((uniq i z gz).mp u))]
          · show ((su (su (su (su s 435 k Q) 437 k Rr) 435 k (s.1 433 k)) 436 k 0).1 435 i).toInt = _
            rw [su_at, if_neg (by omega), su_at]
            by_cases y : i = k
            · rw [if_pos ⟨rfl, y⟩, (uniq i z gz).mpr y, mc]
            · have nc : z ≠ c := fun u => y ((uniq i z gz).mp u)
              simp only [if_neg nc] at oz
              rw [if_neg (fun u => y u.2), su_at, if_neg (by omega), su_at, if_neg (by omega)]
              exact hso'.2 i z gz oz
        · have y : i ≠ k := fun y => by
            rw [(uniq i z gz).mpr y, xoc] at oz
            cases oz
          have := hv i z (by omega) gz oz
          show ((su (su (su (su s 435 k Q) 437 k Rr) 435 k (s.1 433 k)) 436 k 0).1 435 i).toInt = _ ∧ ((su (su (su (su s 435 k Q) 437 k Rr) 435 k (s.1 433 k)) 436 k 0).1 437 i).toInt = _
          rw [su_at, if_neg (by omega), su_at, if_neg (by omega), su_at, if_neg (by omega), su_at, if_neg (by omega), su_at, if_neg (by omega), su_at, if_neg (by omega), su_at, if_neg (by omega), su_at, if_neg (by omega)]
          exact this
  · rintro n ⟨s, f, l⟩ ⟨rfl, ho, hf, hso', hv⟩
    simp only at ho hf hso' hv
    obtain ⟨c5, r3, r4⟩ := h.out ho
    rw [List.take_length] at hso'
    show ∃ σ', fX3_closeSmallShares_92 432 (n + 1) s l2 l4 f (nI pl.length) = _ ∧ _
    rw [List.take_length] at hf
    rw [fX3_closeSmallShares_92, c5, if_pos (by rw [j_le]; exact Int.le_refl _), hf]
    refine ⟨s, ?_, ho, ⟨fun i z gz => ?_, fun i z gz oz => ?_⟩, fun i z gz oz => hv i z (List.getElem?_eq_some_iff.mp gz).1 gz oz⟩
    · cases xa pl op (xo pl room m w op)
      · rfl
      · rfl
    · have := hso'.1 i z gz
      simp only [if_pos (List.mem_iff_getElem?.mpr ⟨i, gz⟩)] at this
      exact this
    · refine hso'.2 i z gz ?_
      simp only [if_pos (List.mem_iff_getElem?.mpr ⟨i, gz⟩)]
      exact oz
end SHC
end
section
/-! THE RELATION: the class's Sharing is share (2) -/
theorem s_fill (σ : Sg) (c n : Nat) (p : Int32) (hn : n < 5000) : ∃ σ', fJ7_fill_53178 σ c n p = some σ' ∧ Out σ σ' c c ∧ ∀ i, i < n → σ'.1 c i = p := by
  unfold fJ7_fill_53178
  rw [j_nm]
  refine lp (F := fun m (s : Sg × Int32) => fJ7_fill_53178_5 c n m s.1 p s.2 (nI n)) (Q := fun o => ∃ σ', o = some σ' ∧ Out σ σ' c c ∧ ∀ i, i < n → σ'.1 c i = p) (fun k s => s.2 = nI k ∧ Out σ s.1 c c ∧ ∀ i, i < k → s.1.1 c i = p) n ?_ ?_ n 0 FU (σ, 0) (by omega) (by show n < 6000; omega) ⟨rfl, Out.rf, fun i hi => absurd hi (by omega)⟩
  · rintro m k ⟨s, l⟩ hk ⟨rfl, ho, hv⟩
    simp only at ho hv
    show ∃ s' : Sg × Int32, _ ∧ fJ7_fill_53178_5 c n (m + 1) s p (nI k) (nI n) = _
    rw [fJ7_fill_53178_5, if_neg (by rw [j_le, j_nI (by omega), j_nI (by omega)]; omega), if_pos (j_ckn hk (by omega)), j_nm, j_cl _ (by omega), j_s]
    refine ⟨(_, nI (k + 1)), ⟨rfl, ho.tr su_out, fun i hi => ?_⟩, rfl⟩
    show (su s c k p).1 c i = p
    rw [su_at]
    by_cases q : i = k
    · rw [if_pos ⟨rfl, q⟩]
    · rw [if_neg (fun z => q z.2), hv i (by omega)]
  · rintro m ⟨s, l⟩ ⟨rfl, ho, hv⟩
    simp only at ho hv
    show ∃ σ', fJ7_fill_53178_5 c n (m + 1) s p (nI n) (nI n) = _ ∧ _
    rw [fJ7_fill_53178_5, if_pos (by rw [j_le]; exact Int.le_refl _)]
    exact ⟨s, rfl, ho, hv⟩
section SH2
variable {σ : Sg} {pl : List Nat} {room : Int} {m w : Nat → Int}
theorem xc_rg (x : XB pl m w) (hs : Sm m pl < room) (op : Nat → Bool) : 0 ≤ xc pl m op ∧ 0 < room - xc pl m op := by
  have lo := xc_lt hs op
  have l1 : 0 ≤ Sm (fun c => if op c then m c else 0) pl := Sm_nn (fun c hc => by
    show 0 ≤ if op c then m c else 0
    have := x.1.2.1 c hc
    split <;> omega)
  refine ⟨Sm_nn (fun c hc => ?_), by omega⟩
  show 0 ≤ if op c then 0 else m c
  have := x.1.2.1 c hc
  split <;> omega
theorem xq_rg (x : XB pl m w) (h0 : 0 ≤ room ∧ room ≤ 400) (hs : Sm m pl < room) {op : Nat → Bool} {c : Nat} (hc : c ∈ pl) (oc : op c = true) : 0 ≤ xq pl room m w op c ∧ xq pl room m w op c ≤ 400 := by
  obtain ⟨c0, c1⟩ := xc_rg x hs op
  have wp := xw_pos x.1 hc oc
  have wc := x.1.2.2 c hc
  have wle : w c ≤ xw pl w op := by
    have := Sm_mem (f := fun c => if op c then w c else 0) (l := pl) (fun c hc => by
      show 0 ≤ if op c then w c else 0
      have := x.1.2.2 c hc
      split <;> omega) hc
    simp only [oc, if_true] at this
    exact this
  refine ⟨Int.ediv_nonneg (Int.mul_nonneg (by omega) (by omega)) (by omega), ?_⟩
  have : xq pl room m w op c ≤ room - xc pl m op := by
    refine Int.ediv_le_of_le_mul (by omega) ?_
    exact Int.mul_le_mul_of_nonneg_left wle (by omega)
  omega
theorem s_closeSmall (h : SI0 σ pl m w) (x : XB pl m w) (h0 : 0 ≤ room ∧ room ≤ 400) (hs : Sm m pl < room) {op : Nat → Bool} (ho1 : 1 ≤ xn pl op) (hso : SO σ pl m op) : ∃ σ', fX3_closeSmallShares σ 432 (oI room) = some (xa pl op (xo pl room m w op), σ') ∧ Out σ σ' 435 437 ∧ SO σ' pl m (xo pl room m w op) ∧ ∀ k c, pl[k]? = some c → xo pl room m w op c = true → (σ'.1 435 k).toInt = xq pl room m w op c ∧ (σ'.1 437 k).toInt = xr pl room m w op c := by
  have len := x.2.1
  have sub : ∀ k c, c ∈ pl.take k → c ∈ pl := fun k c hc => take_mem hc
  have cB : ∀ k, 0 ≤ Sm (fun c => if op c then 0 else m c) (pl.take k) ∧ Sm (fun c => if op c then 0 else m c) (pl.take k) ≤ 965 * 23 := fun k => by
    have a := Sm_up (f := fun c => if op c then 0 else m c) (B := 965) (l := pl.take k) (fun c hc => by
      show (if op c then 0 else m c) ≤ 965
      have := x.2.2.1 c (sub k c hc)
      split <;> omega)
    have b : (pl.take k).length ≤ 23 := by rw [List.length_take]; omega
    refine ⟨Sm_nn (fun c hc => ?_), by omega⟩
    show 0 ≤ if op c then 0 else m c
    have := x.1.2.1 c (sub k c hc)
    split <;> omega
  have wB : ∀ k, 0 ≤ Sm (fun c => if op c then w c else 0) (pl.take k) ∧ Sm (fun c => if op c then w c else 0) (pl.take k) ≤ 1000000 * 23 := fun k => by
    have a := Sm_up (f := fun c => if op c then w c else 0) (B := 1000000) (l := pl.take k) (fun c hc => by
      show (if op c then w c else 0) ≤ 1000000
      have := x.2.2.2 c (sub k c hc)
      split <;> omega)
    have b : (pl.take k).length ≤ 23 := by rw [List.length_take]; omega
    refine ⟨Sm_nn (fun c hc => ?_), by omega⟩
    show 0 ≤ if op c then w c else 0
    have := x.1.2.2 c (sub k c hc)
    split <;> omega
  unfold fX3_closeSmallShares
  rw [j_nm]
  refine lp (F := fun n (s : Int64 × Int64 × Int32) => fX3_closeSmallShares_9 432 n σ s.1 s.2.1 s.2.2) (Q := fun o => ∃ σ', o = some (xa pl op (xo pl room m w op), σ') ∧ Out σ σ' 435 437 ∧ SO σ' pl m (xo pl room m w op) ∧ ∀ k c, pl[k]? = some c → xo pl room m w op c = true → (σ'.1 435 k).toInt = xq pl room m w op c ∧ (σ'.1 437 k).toInt = xr pl room m w op c) (fun k s => s.1.toInt = room - Sm (fun c => if op c then 0 else m c) (pl.take k) ∧ s.2.1.toInt = Sm (fun c => if op c then w c else 0) (pl.take k) ∧ s.2.2 = nI k) pl.length ?_ ?_ pl.length 0 FU ((oI room).toInt64, 0, 0) (by omega) (by show _ < 6000; omega) ⟨by
    show (oI room).toInt64.toInt = room - 0
    rw [k_64, j_oI (by omega) (by omega)]
    omega, rfl, rfl⟩
  · rintro n k ⟨a, b, l⟩ hk ⟨ha, hb, rfl⟩
    simp only at ha hb
    obtain ⟨c5, r3, r4⟩ := h
    have gi := List.getElem?_eq_getElem hk
    generalize pl[k] = c at gi
    have hc : c ∈ pl := List.mem_iff_getElem?.mpr ⟨k, gi⟩
    have mc := r3 k c gi
    have wc := r4 k c gi
    have f6 : (σ.1 436 k).toInt = if op c then 1 else 0 := hso.1 k c gi
    have tk := take_snoc gi
    have cb := cB k
    have wb := wB k
    have m0 := x.1.2.1 c hc
    have mB := x.2.2.1 c hc
    have w0 := x.1.2.2 c hc
    have wB := x.2.2.2 c hc
    have e1 : Sm (fun c => if op c then 0 else m c) (pl.take (k + 1)) = Sm (fun c => if op c then 0 else m c) (pl.take k) + (if op c then 0 else m c) := by
      rw [tk, Sm_app]
      show _ + ((if op c then 0 else m c) + 0) = _
      omega
    have e2 : Sm (fun c => if op c then w c else 0) (pl.take (k + 1)) = Sm (fun c => if op c then w c else 0) (pl.take k) + (if op c then w c else 0) := by
      rw [tk, Sm_app]
      show _ + ((if op c then w c else 0) + 0) = _
      omega
    show ∃ s' : Int64 × Int64 × Int32, _ ∧ fX3_closeSmallShares_9 432 (n + 1) σ a b (nI k) = _
    rw [fX3_closeSmallShares_9, c5, if_neg (by rw [j_le, j_nI (by omega), j_nI (by omega)]; omega), show (432 + 4 : Nat) = 436 from rfl, s_atn (by decide) (by omega), j_b]
    cases oc : op c
    · rw [oc] at f6 e1 e2
      have f6 : (σ.1 436 k).toInt = 0 := f6
      have nf : ¬ σ.1 436 k = 1 := fun z => by rw [j_eq, f6, jz1] at z; omega
      simp only [Bool.false_eq_true, if_false] at e1 e2
      rw [if_neg nf, show (432 + 1 : Nat) = 433 from rfl, s_atn (by decide) (by omega), j_b]
      unfold fX3_closeSmallShares_46
      rw [j_nm, show (432 + 4 : Nat) = 436 from rfl, s_atn (by decide) (by omega), j_b, if_neg nf]
      unfold fX3_closeSmallShares_77
      rw [j_nm, j_s]
      refine ⟨(_, _, nI (k + 1)), ⟨?_, ?_, rfl⟩, rfl⟩
      · show (a - (σ.1 433 k).toInt64).toInt = _
        rw [k_sub (by rw [k_64, ha, mc]; omega) (by rw [k_64, ha, mc]; omega), k_64, ha, mc, e1]
        omega
      · show (b + 0).toInt = _
        rw [k_add (by rw [kz0, hb]; omega) (by rw [kz0, hb]; omega), kz0, hb, e2]
    · rw [oc] at f6 e1 e2
      have f6 : (σ.1 436 k).toInt = 1 := f6
      have pf : σ.1 436 k = 1 := j_eq.mpr (by rw [f6, jz1])
      simp only [if_true] at e1 e2
      rw [if_pos pf]
      unfold fX3_closeSmallShares_46
      rw [j_nm, show (432 + 4 : Nat) = 436 from rfl, s_atn (by decide) (by omega), j_b, if_pos pf, show (432 + 2 : Nat) = 434 from rfl, s_atn (by decide) (by omega), j_b]
      unfold fX3_closeSmallShares_77
      rw [j_nm, j_s]
      refine ⟨(_, _, nI (k + 1)), ⟨?_, ?_, rfl⟩, rfl⟩
      · show (a - 0).toInt = _
        rw [k_sub (by rw [kz0, ha]; omega) (by rw [kz0, ha]; omega), kz0, ha, e1]
        omega
      · show (b + (σ.1 434 k).toInt64).toInt = _
        rw [k_add (by rw [k_64, hb, wc]; omega) (by rw [k_64, hb, wc]; omega), k_64, hb, wc, e2]
  · rintro n ⟨a, b, l⟩ ⟨ha, hb, rfl⟩
    simp only at ha hb
    rw [List.take_length] at ha hb
    show ∃ σ', fX3_closeSmallShares_9 432 (n + 1) σ a b (nI pl.length) = _ ∧ _
    rw [fX3_closeSmallShares_9, h.1, if_pos (by rw [j_le]; exact Int.le_refl _)]
    exact s_close92 h x h0 hs ho1 hso ha hb
/-- the pick -/
theorem s_pick {op op' : Nat → Bool} {r : Nat → Int} (h5 : σ.1 432 5 = nI pl.length) (nd : pl.Nodup) (len : pl.length ≤ 23) (f6 : rv (σ.1 436) pl (fun c => if op c then 1 else 0)) (sub : ∀ c, op' c = true → op c = true) (rr : ∀ c ∈ pl, op c = true → -1 ≤ r c) (f7 : ∀ k c, pl[k]? = some c → op c = true → (σ.1 437 k).toInt = if op' c then r c else -1) (ex : ∃ c ∈ pl, op' c = true ∧ -1 < r c) (K : Sg → Int32 → Int32 → Option Sg) (l2 l3 : Int32) : ∃ k c, pl[k]? = some c ∧ op' c = true ∧ xp r op' pl (-1) (-1) = c ∧ fX3_giveRest_50 432 K FU σ l2 l3 (-1) 0 = K (su (su σ 435 k (σ.1 435 k + 1)) 437 k (-1)) l2 (l3 + 1) := by
  refine lp (F := fun n (s : Int32 × Int32) => fX3_giveRest_50 432 K n σ l2 l3 s.1 s.2) (Q := fun o => ∃ k c, pl[k]? = some c ∧ op' c = true ∧ xp r op' pl (-1) (-1) = c ∧ o = K (su (su σ 435 k (σ.1 435 k + 1)) 437 k (-1)) l2 (l3 + 1)) (fun i s => s.2 = nI i ∧ ∃ b v, xp r op' pl (-1) (-1) = xp r op' (pl.drop i) b v ∧ ((s.1 = -1 ∧ b = -1 ∧ v = -1) ∨ ∃ (k c : Nat), pl[k]? = some c ∧ s.1 = nI k ∧ b = c ∧ v = r c ∧ op' c = true)) pl.length ?_ ?_ pl.length 0 FU (-1, 0) (by omega) (by show _ < 6000; omega) ⟨rfl, -1, -1, rfl, Or.inl ⟨rfl, rfl, rfl⟩⟩
  · rintro n i ⟨a, l⟩ hi ⟨rfl, b, v, e, hb⟩
    simp only at hb
    have gi := List.getElem?_eq_getElem hi
    have dk := List.drop_eq_getElem_cons hi
    generalize pl[i] = c at gi dk
    have hc : c ∈ pl := List.mem_iff_getElem?.mpr ⟨i, gi⟩
    have s6 : (σ.1 436 i).toInt = if op c then 1 else 0 := f6 i c gi
    have xpu : xp r op' (pl.drop i) b v = if op' c && decide (v < r c) then xp r op' (pl.drop (i + 1)) c (r c) else xp r op' (pl.drop (i + 1)) b v := by
      rw [dk]
      rfl
    have at4 : (oI (ga (fun j => (σ.1 437 j).toInt) 23 a.toInt)).toInt = v := by
      rcases hb with ⟨rfl, -, rfl⟩ | ⟨k, c', gk, rfl, -, rfl, oc'⟩
      · rfl
      · have k23 : k < 23 := by
          have := (List.getElem?_eq_some_iff.mp gk).1
          omega
        rw [j_nI (by omega), ga_in k23, j_oIt, f7 k c' gk (sub c' oc'), if_pos oc']
    show ∃ s' : Int32 × Int32, _ ∧ fX3_giveRest_50 432 K (n + 1) σ l2 l3 a (nI i) = _
    have nle : ¬ nI pl.length ≤ nI i := by rw [j_le, j_nI (by omega), j_nI (by omega)]; omega
    rw [fX3_giveRest_50, h5, if_neg nle, show (432 + 4 : Nat) = 436 from rfl, s_atn (by decide) (by omega), j_b]
    cases oc : op c
    · have o' : op' c = false := by
        cases z : op' c
        · rfl
        · rw [sub c z] at oc
          cases oc
      rw [oc] at s6
      have s6 : (σ.1 436 i).toInt = 0 := s6
      have nf : ¬ σ.1 436 i = 1 := fun z => by rw [j_eq, s6, jz1] at z; omega
      rw [if_neg nf]
      unfold fX3_giveRest_97
      rw [j_s]
      refine ⟨(a, nI (i + 1)), ⟨rfl, b, v, ?_, hb⟩, rfl⟩
      rw [e, xpu, o', Bool.false_and, if_neg (by decide)]
    · rw [oc] at s6
      have s6 : (σ.1 436 i).toInt = 1 := s6
      have s7 := f7 i c gi oc
      have pf : σ.1 436 i = 1 := j_eq.mpr (by rw [s6, jz1])
      rw [if_pos pf, show (432 + 5 : Nat) = 437 from rfl, s_atn (by decide) (by omega), j_b, s_at (by decide), j_b]
      have vlo : -1 ≤ v := by
        rcases hb with ⟨-, -, rfl⟩ | ⟨k, c', gk, -, -, rfl, oc'⟩
        · exact Int.le_refl _
        · exact rr c' (List.mem_iff_getElem?.mpr ⟨k, gk⟩) (sub c' oc')
      by_cases q : (op' c && decide (v < r c)) = true
      · have q' := q
        simp only [Bool.and_eq_true, decide_eq_true_eq] at q'
        rw [if_pos q'.1] at s7
        have nq : ¬ σ.1 437 i ≤ oI (ga (fun j => (σ.1 437 j).toInt) 23 a.toInt) := by rw [j_le, at4, s7]; omega
        rw [if_neg nq]
        unfold fX3_giveRest_97
        rw [j_s]
        refine ⟨(nI i, nI (i + 1)), ⟨rfl, c, r c, ?_, Or.inr ⟨i, c, gi, rfl, rfl, rfl, q'.1⟩⟩, rfl⟩
        rw [e, xpu, if_pos q]
      · have pq : σ.1 437 i ≤ oI (ga (fun j => (σ.1 437 j).toInt) 23 a.toInt) := by
          rw [j_le, at4, s7]
          cases o' : op' c
          · rw [if_neg (by decide)]
            exact vlo
          · rw [if_pos rfl]
            rw [o', Bool.true_and, decide_eq_true_eq] at q
            omega
        rw [if_pos pq]
        unfold fX3_giveRest_97
        rw [j_s]
        refine ⟨(a, nI (i + 1)), ⟨rfl, b, v, ?_, hb⟩, rfl⟩
        rw [e, xpu, if_neg q]
  · rintro n ⟨a, l⟩ ⟨rfl, b, v, e, hb⟩
    simp only at hb
    rw [List.drop_length] at e
    have e : xp r op' pl (-1) (-1) = b := e
    obtain ⟨y, hy, oy, ey⟩ := xp_in (r := r) (op := op') pl (-1) (-1) ex
    rcases hb with ⟨-, rfl, -⟩ | ⟨k, c, gk, rfl, rfl, -, oc⟩
    · omega
    · have k23 : k < 23 := by
        have := (List.getElem?_eq_some_iff.mp gk).1
        omega
      refine ⟨k, c, gk, oc, e, ?_⟩
      show fX3_giveRest_50 432 K (n + 1) σ l2 l3 (nI k) (nI pl.length) = _
      rw [fX3_giveRest_50, h5, if_pos (by rw [j_le]; exact Int.le_refl _), show (432 + 3 : Nat) = 435 from rfl, s_atn (by decide) k23, j_b, s_putn (by decide) k23, j_b, show (432 + 5 : Nat) = 437 from rfl, s_putn (by decide) k23, j_b]
theorem xn_rm {op : Nat → Bool} {c : Nat} (nd : pl.Nodup) (hc : c ∈ pl) (oc : op c = true) : xn pl (fun z => op z && !decide (z = c)) = xn pl op - 1 := by
  have := Sm_one (f := fun c => if op c then (1 : Int) else 0) (g := fun z => if (op z && !decide (z = c)) then (1 : Int) else 0) nd hc (fun z _ ne => by
    show (if op z = true then (1 : Int) else 0) = if (op z && !decide (z = c)) = true then 1 else 0
    rw [decide_eq_false ne]
    simp)
  simp only [oc, decide_true, Bool.not_true, Bool.and_false, if_true] at this
  unfold xn
  rw [this]
  simp
  omega
theorem get_uniq {l : List Nat} (nd : l.Nodup) {i k c z : Nat} (gi : l[i]? = some z) (gk : l[k]? = some c) : z = c ↔ i = k := by
  constructor
  · intro q
    subst q
    exact nd_inj nd gi gk
  · intro q
    subst q
    exact Option.some.inj (gi.symm.trans gk)
theorem s_giveRest (h : SI0 σ pl m w) (x : XB pl m w) (h0 : 0 ≤ room ∧ room ≤ 400) (hs : Sm m pl < room) {op : Nat → Bool} (ho1 : 1 ≤ xn pl op) (f6 : rv (σ.1 436) pl (fun c => if op c then 1 else 0)) (f5 : rv (σ.1 435) pl (xe pl room m w op)) (f7 : ∀ k c, pl[k]? = some c → op c = true → (σ.1 437 k).toInt = xr pl room m w op c) : ∃ σ', fX3_giveRest σ 432 (oI room) = some σ' ∧ Out σ σ' 435 437 ∧ rv (σ'.1 435) pl (xs pl (xr pl room m w op) (room - Sm (xe pl room m w op) pl).toNat op (xe pl room m w op)) := by
  have nd := x.1.1
  have len := x.2.1
  obtain ⟨y, hy, ey⟩ := xn_ex ho1
  have wp := xw_pos x.1 hy ey
  obtain ⟨r1, r2⟩ := xe_rest x.1 ho1 hs
  have xl := (xn_le op pl).2
  have xeB : ∀ c ∈ pl, 0 ≤ xe pl room m w op c ∧ xe pl room m w op c ≤ 965 := fun c hc => by
    unfold xe
    cases oc : op c
    · have := x.1.2.1 c hc
      have := x.2.2.1 c hc
      simp only [Bool.false_eq_true, if_false]
      omega
    · have := xq_rg x h0 hs hc oc
      simp only [if_true]
      omega
  have smB : ∀ k, 0 ≤ Sm (xe pl room m w op) (pl.take k) ∧ Sm (xe pl room m w op) (pl.take k) ≤ 965 * 23 := fun k => by
    have a := Sm_up (f := xe pl room m w op) (B := 965) (l := pl.take k) (fun c hc => (xeB c (take_mem hc)).2)
    have b : (pl.take k).length ≤ 23 := by rw [List.length_take]; omega
    exact ⟨Sm_nn (fun c hc => (xeB c (take_mem hc)).1), by omega⟩
  have rr : ∀ c ∈ pl, 0 ≤ xr pl room m w op c := fun c _ => Int.emod_nonneg _ (by omega)
  generalize hR : (room - Sm (xe pl room m w op) pl).toNat = R
  have eR : (R : Int) = room - Sm (xe pl room m w op) pl := by omega
  -- the outer loop
  have outer : ∃ σ', fX3_giveRest_31 432 FU σ (nI R) 0 = some σ' ∧ Out σ σ' 435 437 ∧ rv (σ'.1 435) pl (xs pl (xr pl room m w op) R op (xe pl room m w op)) := by
    refine lp (F := fun n (s : Sg × Int32) => fX3_giveRest_31 432 n s.1 (nI R) s.2) (Q := fun o => ∃ σ', o = some σ' ∧ Out σ σ' 435 437 ∧ rv (σ'.1 435) pl (xs pl (xr pl room m w op) R op (xe pl room m w op))) (fun i s => s.2 = nI i ∧ Out σ s.1 435 437 ∧ s.1.1 436 = σ.1 436 ∧ ∃ op' sh, rv (s.1.1 435) pl sh ∧ (∀ c ∈ pl, 0 ≤ sh c ∧ sh c ≤ 965 + i) ∧ (∀ k c, pl[k]? = some c → op c = true → (s.1.1 437 k).toInt = if op' c then xr pl room m w op c else -1) ∧ (∀ c, op' c = true → op c = true) ∧ (R : Int) - i ≤ xn pl op' ∧ xs pl (xr pl room m w op) R op (xe pl room m w op) = xs pl (xr pl room m w op) (R - i) op' sh) R ?_ ?_ R 0 FU (σ, 0) (by omega) (by show R < 6000; omega) ⟨rfl, Out.rf, rfl, op, xe pl room m w op, f5, fun c hc => by have := xeB c hc; omega, fun k c gk oc => by rw [if_pos oc]; exact f7 k c gk oc, fun c z => z, by omega, rfl⟩
    · rintro n i ⟨s, l⟩ hi ⟨rfl, ho, h6, op', sh, h5, hB, h7, sub, hx, hxs⟩
      simp only at ho h6 h5 h7
      have S0 := h.out ho
      obtain ⟨z, hz, oz⟩ := xn_ex (pl := pl) (op := op') (by omega)
      obtain ⟨k, c, gk, oc, ec, hp⟩ := s_pick (σ := s) (op := op) (op' := op') (r := xr pl room m w op) S0.1 nd len (by rw [h6]; exact f6) sub (fun c hc _ => by have := rr c hc; omega) h7 ⟨z, hz, oz, by have := rr z hz; omega⟩ (fX3_giveRest_31 432 n) (nI R) (nI i)
      have hc : c ∈ pl := List.mem_iff_getElem?.mpr ⟨k, gk⟩
      show ∃ s' : Sg × Int32, _ ∧ fX3_giveRest_31 432 (n + 1) s (nI R) (nI i) = _
      rw [fX3_giveRest_31, if_neg (by rw [j_le, j_nI (by omega), j_nI (by omega)]; omega), S0.1, if_neg (by rw [j_le, j_nI (by omega), j_nI (by omega)]; omega), hp, j_s]
      have add : (s.1 435 k + 1).toInt = sh c + 1 := by
        have := hB c hc
        rw [j_add (by rw [h5 k c gk, jz1]; omega) (by rw [h5 k c gk, jz1]; omega), h5 k c gk, jz1]
      refine ⟨(_, nI (i + 1)), ⟨rfl, (ho.tr (su_out.mo (by omega) (by omega))).tr (su_out.mo (by omega) (by omega)), ?_, fun z => op' z && !decide (z = c), fun z => if z = c then sh z + 1 else sh z, ?_, fun z hz => ?_, fun j z gz oz => ?_, fun z hz => ?_, ?_, ?_⟩, rfl⟩
      · show (su (su s 435 k _) 437 k (-1)).1 436 = _
        rw [su_ne (by omega), su_ne (by omega), h6]
      · show rv ((su (su s 435 k (s.1 435 k + 1)) 437 k (-1)).1 435) pl _
        rw [su_ne (by omega)]
        exact rv_su nd h5 gk (by rw [if_pos rfl, add]) (fun x ne => if_neg ne)
      · have := hB z hz
        show 0 ≤ (if z = c then sh z + 1 else sh z) ∧ (if z = c then sh z + 1 else sh z) ≤ 965 + ((i + 1 : Nat) : Int)
        split <;> omega
      · show ((su (su s 435 k (s.1 435 k + 1)) 437 k (-1)).1 437 j).toInt = _
        rw [su_at]
        by_cases q : j = k
        · rw [if_pos ⟨rfl, q⟩]
          have := (get_uniq nd gz gk).mpr q
          subst this
          simp
        · rw [if_neg (fun u => q u.2), su_at, if_neg (by omega), h7 j z gz oz]
          have : z ≠ c := fun u => q ((get_uniq nd gz gk).mp u)
          simp [this]
      · simp only [Bool.and_eq_true] at hz
        exact sub z hz.1
      · rw [xn_rm nd hc oc]
        omega
      · rw [hxs]
        obtain ⟨q, hq⟩ : ∃ q, R - i = q + 1 := ⟨R - i - 1, by omega⟩
        have hq2 : R - (i + 1) = q := by omega
        rw [hq, hq2]
        show xs pl _ q (fun z => op' z && !decide (z = (xp _ op' pl (-1) (-1)).toNat)) (fun z => if z = (xp _ op' pl (-1) (-1)).toNat then sh z + 1 else sh z) = _
        rw [ec]
        rfl
    · rintro n ⟨s, l⟩ ⟨rfl, ho, h6, op', sh, h5, hB, h7, sub, hx, hxs⟩
      simp only at ho h6 h5 h7
      show ∃ σ', fX3_giveRest_31 432 (n + 1) s (nI R) (nI R) = _ ∧ _
      rw [fX3_giveRest_31, if_pos (by rw [j_le]; exact Int.le_refl _)]
      refine ⟨s, rfl, ho, ?_⟩
      rw [hxs, Nat.sub_self]
      exact h5
  unfold fX3_giveRest
  refine lp (F := fun n (s : Int32 × Int32) => fX3_giveRest_4 432 n σ s.1 s.2) (Q := fun o => ∃ σ', o = some σ' ∧ Out σ σ' 435 437 ∧ rv (σ'.1 435) pl (xs pl (xr pl room m w op) R op (xe pl room m w op))) (fun k s => s.1.toInt = room - Sm (xe pl room m w op) (pl.take k) ∧ s.2 = nI k) pl.length ?_ ?_ pl.length 0 FU (oI room, 0) (by omega) (by show _ < 6000; omega) ⟨by
    show (oI room).toInt = room - 0
    rw [j_oI (by omega) (by omega)]
    omega, rfl⟩
  · rintro n k ⟨a, l⟩ hk ⟨ha, rfl⟩
    simp only at ha
    have gi := List.getElem?_eq_getElem hk
    generalize pl[k] = c at gi
    have hc : c ∈ pl := List.mem_iff_getElem?.mpr ⟨k, gi⟩
    have v5 := f5 k c gi
    have := xeB c hc
    have := smB k
    show ∃ s' : Int32 × Int32, _ ∧ fX3_giveRest_4 432 (n + 1) σ a (nI k) = _
    rw [fX3_giveRest_4, h.1, if_neg (by rw [j_le, j_nI (by omega), j_nI (by omega)]; omega), show (432 + 3 : Nat) = 435 from rfl, s_atn (by decide) (by omega), j_b, j_nm, j_s]
    refine ⟨(_, nI (k + 1)), ⟨?_, rfl⟩, rfl⟩
    show (a - σ.1 435 k).toInt = _
    rw [j_sub (by rw [ha, v5]; omega) (by rw [ha, v5]; omega), ha, v5, take_snoc gi, Sm_app]
    show _ = room - (_ + (xe pl room m w op c + 0))
    omega
  · rintro n ⟨a, l⟩ ⟨ha, rfl⟩
    simp only at ha
    rw [List.take_length, ← eR] at ha
    have : a = nI R := j_eq.mpr (by rw [ha, j_nI (by omega)])
    subst this
    show ∃ σ', fX3_giveRest_4 432 (n + 1) σ (nI R) (nI pl.length) = _ ∧ _
    rw [fX3_giveRest_4, h.1, if_pos (by rw [j_le]; exact Int.le_refl _)]
    exact outer
theorem s_giveShares10 (x : XB pl m w) (h0 : 0 ≤ room ∧ room ≤ 400) (hs : Sm m pl < room) : ∀ (n r fuel : Nat) (σ : Sg) (op : Nat → Bool), SI0 σ pl m w → SO σ pl m op → 1 ≤ xn pl op → xn pl op ≤ n → (r : Int) + xn pl op ≤ pl.length → n < fuel → ∃ σ', fX3_giveShares_10 432 fuel σ (oI room) (nI r) = some σ' ∧ Out σ σ' 435 437 ∧ rv (σ'.1 435) pl (xs pl (xr pl room m w (xg pl room m w n op)) (room - Sm (xe pl room m w (xg pl room m w n op)) pl).toNat (xg pl room m w n op) (xe pl room m w (xg pl room m w n op)))
  | 0, r, fuel, σ, op, _, _, h1, h2, _, _ => absurd h1 (by omega)
  | n + 1, r, 0, σ, op, _, _, _, _, _, hf => absurd hf (by omega)
  | n + 1, r, fuel + 1, σ, op, h, hso, h1, h2, h3, hf => by
    have len := x.2.1
    obtain ⟨σ1, a1, o1, so1, v1⟩ := s_closeSmall h x h0 hs h1 hso
    rw [fX3_giveShares_10, h.1, if_neg (by rw [j_lt, j_nI (by omega), j_nI (by omega)]; omega), a1, j_b]
    cases q : xa pl op (xo pl room m w op)
    · -- none closed: the rest
      simp only [Bool.false_eq_true, if_false]
      have eg : xg pl room m w (n + 1) op = op := by
        unfold xg
        rw [q, if_neg (by decide)]
      rw [eg]
      have same : ∀ c ∈ pl, xo pl room m w op c = op c := fun c hc => by
        cases z : xo pl room m w op c
        · cases oc : op c
          · rfl
          · exfalso
            have : xa pl op (xo pl room m w op) = true := by
              unfold xa
              rw [List.any_eq_true]
              exact ⟨c, hc, by rw [oc, z]; rfl⟩
            rw [q] at this
            cases this
        · rw [xo_in c z]
      have mem : ∀ k c, pl[k]? = some c → c ∈ pl := fun k c g => List.mem_iff_getElem?.mpr ⟨k, g⟩
      obtain ⟨σ2, a2, o2, v2⟩ := s_giveRest (σ := σ1) (op := op) (h.out o1) x h0 hs h1 (fun k c g => by
        have := so1.1 k c g
        simp only [same c (mem k c g)] at this
        exact this) (fun k c g => by
        unfold xe
        cases oc : op c
        · rw [so1.2 k c g (by rw [same c (mem k c g)]; exact oc)]
          rfl
        · rw [(v1 k c g (by rw [same c (mem k c g)]; exact oc)).1]
          rfl) (fun k c g oc => (v1 k c g (by rw [same c (mem k c g)]; exact oc)).2)
      rw [a2, j_b]
      exact ⟨σ2, rfl, o1.tr o2, v2⟩
    · rw [if_pos rfl, j_s]
      have lt := xa_lt (op := op) (op' := xo pl room m w op) (fun c => xo_in c) q
      have eg : xg pl room m w (n + 1) op = xg pl room m w n (xo pl room m w op) := by
        show (if xa pl op (xo pl room m w op) = true then _ else _) = _
        rw [q, if_pos rfl]
      rw [eg]
      obtain ⟨σ2, a2, o2, v2⟩ := s_giveShares10 x h0 hs n (r + 1) fuel σ1 (xo pl room m w op) (h.out o1) so1 (xo_ne x.1 hs h1) (by omega) (by omega) (by omega)
      exact ⟨σ2, a2, o1.tr o2, v2⟩
/-- Sharing gives each part its share -/
theorem s_shareOut (ne : pl ≠ []) (h : SI0 σ pl m w) (x : XB pl m w) (h0 : 0 ≤ room ∧ room ≤ 400) : ∃ σ', fX3_shareOut σ 432 (oI room) = some σ' ∧ Out σ σ' 435 437 ∧ rv (σ'.1 435) pl (share pl room m w) := by
  have len := x.2.1
  have nd := x.1.1
  have er : (oI room).toInt = room := j_oI (by omega) (by omega)
  have smB : ∀ k, 0 ≤ Sm m (pl.take k) ∧ Sm m (pl.take k) ≤ 965 * 23 := fun k => by
    have a := Sm_up (f := m) (B := 965) (l := pl.take k) (fun c hc => x.2.2.1 c (take_mem hc))
    have b : (pl.take k).length ≤ 23 := by rw [List.length_take]; omega
    exact ⟨Sm_nn (fun c hc => x.1.2.1 c (take_mem hc)), by omega⟩
  unfold fX3_shareOut
  refine lp (F := fun n (s : Int32 × Int32) => fX3_shareOut_4 432 n σ (oI room) s.1 s.2) (Q := fun o => ∃ σ', o = some σ' ∧ Out σ σ' 435 437 ∧ rv (σ'.1 435) pl (share pl room m w)) (fun k s => s.1.toInt = Sm m (pl.take k) ∧ s.2 = nI k) pl.length ?_ ?_ pl.length 0 FU (0, 0) (by omega) (by show _ < 6000; omega) ⟨rfl, rfl⟩
  · rintro n k ⟨a, l⟩ hk ⟨ha, rfl⟩
    simp only at ha
    have gi := List.getElem?_eq_getElem hk
    generalize pl[k] = c at gi
    have hc : c ∈ pl := List.mem_iff_getElem?.mpr ⟨k, gi⟩
    have v3 := h.2.1 k c gi
    have := x.1.2.1 c hc
    have := x.2.2.1 c hc
    have := smB k
    show ∃ s' : Int32 × Int32, _ ∧ fX3_shareOut_4 432 (n + 1) σ (oI room) a (nI k) = _
    rw [fX3_shareOut_4, h.1, if_neg (by rw [j_le, j_nI (by omega), j_nI (by omega)]; omega), show (432 + 1 : Nat) = 433 from rfl, s_atn (by decide) (by omega), j_b, j_nm, j_s]
    refine ⟨(_, nI (k + 1)), ⟨?_, rfl⟩, rfl⟩
    show (a + σ.1 433 k).toInt = _
    rw [j_add (by rw [ha, v3]; omega) (by rw [ha, v3]; omega), ha, v3, take_snoc gi, Sm_app]
    show _ = _ + (m c + 0)
    omega
  · rintro n ⟨a, l⟩ ⟨ha, rfl⟩
    simp only at ha
    rw [List.take_length] at ha
    show ∃ σ', fX3_shareOut_4 432 (n + 1) σ (oI room) a (nI pl.length) = _ ∧ _
    rw [fX3_shareOut_4, h.1, if_pos (by rw [j_le]; exact Int.le_refl _)]
    by_cases q : Sm m pl < room
    · rw [if_pos (j_lt.mpr (by rw [ha, er]; exact q))]
      unfold fX3_giveShares
      obtain ⟨σ1, a1, o1, v1⟩ := s_fill σ 436 23 1 (by decide)
      rw [show (432 + 4 : Nat) = 436 from rfl, a1, j_b]
      have o1 : Out σ σ1 435 437 := o1.mo (by omega) (by omega)
      have n1 : 1 ≤ xn pl (fun c => decide (c ∈ pl)) := by
        cases hp : pl with
        | nil => exact absurd hp ne
        | cons y t => exact xn_pos (c := y) (List.mem_cons_self ..) (decide_eq_true (List.mem_cons_self ..))
      have n2 := (xn_le (fun c => decide (c ∈ pl)) pl).2
      obtain ⟨σ2, a2, o2, v2⟩ := s_giveShares10 x h0 q 24 0 FU σ1 (fun c => decide (c ∈ pl)) (h.out o1) ⟨fun k c g => by
        have k23 : k < 23 := by
          have := (List.getElem?_eq_some_iff.mp g).1
          omega
        rw [v1 k k23]
        simp only [decide_eq_true (List.mem_iff_getElem?.mpr ⟨k, g⟩)]
        rfl, fun k c g z => by
        simp only [decide_eq_true (List.mem_iff_getElem?.mpr ⟨k, g⟩)] at z
        cases z⟩ n1 (by omega) (by omega) (by decide)
      rw [show (0 : Int32) = nI 0 from rfl, a2, j_b]
      refine ⟨σ2, rfl, o1.tr o2, ?_⟩
      unfold share
      rw [if_pos q]
      exact v2
    · rw [if_neg (fun z => q (by rw [j_lt, ha, er] at z; exact z))]
      obtain ⟨σ2, a2, o2, v2⟩ := s_giveMinimums h x h0
      rw [a2, j_b]
      refine ⟨σ2, rfl, o2, ?_⟩
      unfold share
      rw [if_neg q]
      exact v2
/-- no part: nothing to share -/
theorem s_share0 (h : σ.1 432 5 = 0) (r : Int32) : ∃ σ', fX3_shareOut σ 432 r = some σ' ∧ Out σ σ' 435 437 := by
  have z : σ.1 432 5 ≤ 0 := by rw [h]; decide
  show ∃ σ', fX3_shareOut_4 432 (5999 + 1) σ r 0 0 = some σ' ∧ Out σ σ' 435 437
  rw [fX3_shareOut_4, if_pos z]
  by_cases q : (0 : Int32) < r
  · rw [if_pos q]
    obtain ⟨σ1, a1, o1, -⟩ := s_fill σ 436 23 1 (by decide)
    have z1 : σ1.1 432 5 ≤ 0 := by rw [o1.2 432 (by omega)]; exact z
    have h1 : σ1.1 432 5 = 0 := by rw [o1.2 432 (by omega)]; exact h
    have z2 : ¬ σ1.1 432 5 < 0 := by rw [h1]; decide
    have c1 : fX3_closeSmallShares σ1 432 r = some (false, σ1) := by
      unfold fX3_closeSmallShares
      rw [j_nm]
      show fX3_closeSmallShares_9 432 (5999 + 1) σ1 r.toInt64 0 0 = _
      rw [fX3_closeSmallShares_9, if_pos z1]
      show fX3_closeSmallShares_92 432 (5999 + 1) σ1 r.toInt64 0 0 0 = _
      rw [fX3_closeSmallShares_92, if_pos z1, if_pos rfl]
    have c2 : fX3_giveRest σ1 432 r = some σ1 := by
      unfold fX3_giveRest
      show fX3_giveRest_4 432 (5999 + 1) σ1 r 0 = _
      rw [fX3_giveRest_4, if_pos z1]
      show fX3_giveRest_31 432 (5999 + 1) σ1 r 0 = _
      rw [fX3_giveRest_31, if_pos z1, ite_self]
    unfold fX3_giveShares
    rw [show (432 + 4 : Nat) = 436 from rfl, a1, j_b]
    refine ⟨σ1, ?_, o1.mo (by omega) (by omega)⟩
    show (fX3_giveShares_10 432 (5999 + 1) σ1 r 0).bind (fun σ1 => some σ1) = _
    rw [fX3_giveShares_10, if_neg z2, c1, j_b]
    simp only [Bool.false_eq_true, if_false]
    rw [c2, j_b, j_b]
  · rw [if_neg q]
    refine ⟨σ, ?_, Out.rf⟩
    unfold fX3_giveMinimums
    show (fX3_giveMinimums_4 432 (5999 + 1) σ r 0).bind (fun σ2 => some σ2) = _
    rw [fX3_giveMinimums_4, if_pos z, j_b]
end SH2
end
section
/-! THE RELATION: the class's plan, arranged -/
section AR
variable {σ : Sg} {d : Nat → Nat} {wn : Nat → Int} {X : Nat → Bool}
/-- what arranging a split leaves alone -/
def Ff (σ σ' : Sg) (pl : List Nat) : Prop := σ'.2 = σ.2 ∧ (∀ j, (j < 426 ∨ j = 430 ∨ 437 < j) → σ'.1 j = σ.1 j) ∧ ∀ j i, 426 ≤ j → j ≤ 429 → ¬ i ∈ pl → σ'.1 j i = σ.1 j i
theorem Ff.rf {pl : List Nat} : Ff σ σ pl := ⟨rfl, fun _ _ => rfl, fun _ _ _ _ _ => rfl⟩
theorem Ff.tr {pl : List Nat} {σ1 σ2 : Sg} (h : Ff σ σ1 pl) (h2 : Ff σ1 σ2 pl) : Ff σ σ2 pl := ⟨h2.1.trans h.1, fun j a => (h2.2.1 j a).trans (h.2.1 j a), fun j i a b c => (h2.2.2 j i a b c).trans (h.2.2 j i a b c)⟩
theorem Ff.ou {pl : List Nat} {σ1 : Sg} (h : Out σ σ1 431 437) : Ff σ σ1 pl := ⟨h.1, fun j hj => h.2 j (by omega), fun j i _ _ _ => by rw [h.2 j (by omega)]⟩
theorem Ff.pv {pl : List Nat} {σ1 : Sg} (h : Ff σ σ1 pl) : pv σ1 6 = pv σ 6 := pv_cg (fun j hj => h.2.1 j (by omega))
/-- one part's rectangle -/
theorem s_arr1 {n c k : Nat} (hn : n < 23) (hc : c < 23) (hk : k < 23) (ne : c ≠ n) (K : Sg → Int32 → Int32 → Int32 → Int32 → Int32 → Option Sg) (l3 l4 l5 : Int32) (h : Bool) : ∃ σ', fX2_arrange_132 422 6 K σ (nI n) l3 l4 l5 (nI k) (nI c) (if h then 1 else 0) = K σ' (nI n) l3 l4 (l5 + (σ.1 435 k + 1)) (nI (k + 1)) ∧ σ'.2 = σ.2 ∧ (∀ j, (j < 426 ∨ 429 < j) → σ'.1 j = σ.1 j) ∧ (∀ j i, i ≠ c → σ'.1 j i = σ.1 j i) ∧ σ'.1 426 c = σ.1 426 n + (if h then l5 else 0) ∧ σ'.1 427 c = σ.1 427 n + (if h then 0 else l5) ∧ σ'.1 428 c = (if h then σ.1 435 k else σ.1 428 n) ∧ σ'.1 429 c = (if h then σ.1 429 n else σ.1 435 k) := by
  have g : ∀ a b e f : Int32, ∃ σ', σ' = su (su (su (su σ 426 c a) 427 c b) 428 c e) 429 c f ∧ σ'.2 = σ.2 ∧ (∀ j, (j < 426 ∨ 429 < j) → σ'.1 j = σ.1 j) ∧ (∀ j i, i ≠ c → σ'.1 j i = σ.1 j i) ∧ σ'.1 426 c = a ∧ σ'.1 427 c = b ∧ σ'.1 428 c = e ∧ σ'.1 429 c = f := fun a b e f => by
    refine ⟨_, rfl, rfl, fun j hj => ?_, fun j i hi => ?_, ?_, ?_, ?_, ?_⟩
    · rw [su_ne (by omega), su_ne (by omega), su_ne (by omega), su_ne (by omega)]
    · rw [su_at, if_neg (fun z => hi z.2), su_at, if_neg (fun z => hi z.2), su_at, if_neg (fun z => hi z.2), su_at, if_neg (fun z => hi z.2)]
    · rw [su_at, if_neg (by omega), su_at, if_neg (by omega), su_at, if_neg (by omega), su_at, if_pos ⟨rfl, rfl⟩]
    · rw [su_at, if_neg (by omega), su_at, if_neg (by omega), su_at, if_pos ⟨rfl, rfl⟩]
    · rw [su_at, if_neg (by omega), su_at, if_pos ⟨rfl, rfl⟩]
    · rw [su_at, if_pos ⟨rfl, rfl⟩]
  have ne' : ¬ n = c := fun z => ne z.symm
  have rn : ∀ (j j0 : Nat) (v : Int32) (s : Sg), (su s j0 c v).1 j n = s.1 j n := fun j j0 v s => by rw [su_at, if_neg (fun z => ne' z.2)]
  have rk : ∀ (j0 : Nat) (v : Int32) (s : Sg), j0 ≠ 435 → (su s j0 c v).1 435 k = s.1 435 k := fun j0 v s hj => by rw [su_at, if_neg (fun z => hj z.1.symm)]
  have so : ∀ s : Sg, fX3_sizeOf s (422 + 10) (nI k) = some (s.1 435 k) := fun s => by
    unfold fX3_sizeOf
    rw [show (422 + 10 + 3 : Nat) = 435 from rfl, s_atn (by decide) hk, j_b]
  unfold fX2_arrange_132
  rw [show (422 + 4 : Nat) = 426 from rfl, s_atn (by decide) hn, j_b]
  cases h
  · obtain ⟨σ', e, r⟩ := g (σ.1 426 n + 0) (σ.1 427 n + l5) (σ.1 428 n) (σ.1 435 k)
    refine ⟨σ', ?_, r⟩
    rw [if_pos (by decide)]
    unfold fX2_arrange_159
    rw [show (422 + 4 : Nat) = 426 from rfl, s_putn (by decide) hc, j_b, show (422 + 5 : Nat) = 427 from rfl, s_atn (by decide) hn, j_b, rn, if_pos (by decide)]
    unfold fX2_arrange_188
    rw [show (422 + 5 : Nat) = 427 from rfl, s_putn (by decide) hc, j_b, if_pos (by decide), show (422 + 6 : Nat) = 428 from rfl, s_atn (by decide) hn, j_b, rn, rn]
    unfold fX2_arrange_223
    rw [show (422 + 6 : Nat) = 428 from rfl, s_putn (by decide) hc, j_b, if_pos (by decide), so, j_b, rk _ _ _ (by decide), rk _ _ _ (by decide), rk _ _ _ (by decide)]
    unfold fX2_arrange_257
    rw [show (422 + 7 : Nat) = 429 from rfl, s_putn (by decide) hc, j_b, so, j_b, j_nm, rk _ _ _ (by decide), rk _ _ _ (by decide), rk _ _ _ (by decide), rk _ _ _ (by decide), j_s, e]
  · obtain ⟨σ', e, r⟩ := g (σ.1 426 n + l5) (σ.1 427 n + 0) (σ.1 435 k) (σ.1 429 n)
    refine ⟨σ', ?_, r⟩
    rw [if_neg (by decide)]
    unfold fX2_arrange_159
    rw [show (422 + 4 : Nat) = 426 from rfl, s_putn (by decide) hc, j_b, show (422 + 5 : Nat) = 427 from rfl, s_atn (by decide) hn, j_b, rn, if_neg (by decide)]
    unfold fX2_arrange_188
    rw [show (422 + 5 : Nat) = 427 from rfl, s_putn (by decide) hc, j_b, if_neg (by decide), so, j_b, rk _ _ _ (by decide), rk _ _ _ (by decide)]
    unfold fX2_arrange_223
    rw [show (422 + 6 : Nat) = 428 from rfl, s_putn (by decide) hc, j_b, if_neg (by decide), show (422 + 7 : Nat) = 429 from rfl, s_atn (by decide) hn, j_b, rn, rn, rn]
    unfold fX2_arrange_257
    rw [show (422 + 7 : Nat) = 429 from rfl, s_putn (by decide) hc, j_b, so, j_b, j_nm, rk _ _ _ (by decide), rk _ _ _ (by decide), rk _ _ _ (by decide), rk _ _ _ (by decide), j_s, e]
/-- all parts' rectangles -/
theorem s_arr105 {n : Nat} (hn : n < 23) {pl : List Nat} (nd : pl.Nodup) (mem : ∀ c ∈ pl, c < 23 ∧ c ≠ n) (len : pl.length ≤ 23) (h31 : rl (σ.1 431) pl) {g : Nat → Int} (h35 : rv (σ.1 435) pl g) (h : Bool) (l3 : Int32) (hl : l3 = 0 ↔ h = true) : ∃ σ', fX2_arrange_105 422 6 FU σ (nI n) l3 (nI pl.length) 0 0 = some σ' ∧ Ff σ σ' pl ∧ ∀ k c, pl[k]? = some c → σ'.1 426 c = σ.1 426 n + (if h then oI (Sm (fun x => g x + 1) (pl.take k)) else 0) ∧ σ'.1 427 c = σ.1 427 n + (if h then 0 else oI (Sm (fun x => g x + 1) (pl.take k))) ∧ σ'.1 428 c = (if h then oI (g c) else σ.1 428 n) ∧ σ'.1 429 c = (if h then σ.1 429 n else oI (g c)) := by
  refine lp (F := fun m (s : Sg × Int32 × Int32) => fX2_arrange_105 422 6 m s.1 (nI n) l3 (nI pl.length) s.2.1 s.2.2) (Q := fun o => ∃ σ', o = some σ' ∧ Ff σ σ' pl ∧ ∀ k c, pl[k]? = some c → σ'.1 426 c = σ.1 426 n + (if h then oI (Sm (fun x => g x + 1) (pl.take k)) else 0) ∧ σ'.1 427 c = σ.1 427 n + (if h then 0 else oI (Sm (fun x => g x + 1) (pl.take k))) ∧ σ'.1 428 c = (if h then oI (g c) else σ.1 428 n) ∧ σ'.1 429 c = (if h then σ.1 429 n else oI (g c))) (fun i s => s.2.2 = nI i ∧ s.2.1 = oI (Sm (fun x => g x + 1) (pl.take i)) ∧ (s.1.2 = σ.2 ∧ (∀ j, (j < 426 ∨ 429 < j) → s.1.1 j = σ.1 j) ∧ ∀ j z, ¬ z ∈ pl → s.1.1 j z = σ.1 j z) ∧ ∀ k c, k < i → pl[k]? = some c → s.1.1 426 c = σ.1 426 n + (if h then oI (Sm (fun x => g x + 1) (pl.take k)) else 0) ∧ s.1.1 427 c = σ.1 427 n + (if h then 0 else oI (Sm (fun x => g x + 1) (pl.take k))) ∧ s.1.1 428 c = (if h then oI (g c) else σ.1 428 n) ∧ s.1.1 429 c = (if h then σ.1 429 n else oI (g c))) pl.length ?_ ?_ pl.length 0 FU (σ, 0, 0) (by omega) (by show _ < 6000; omega) ⟨rfl, rfl, ⟨rfl, fun _ _ => rfl, fun _ _ _ => rfl⟩, fun k c hk => absurd hk (by omega)⟩
  · rintro m i ⟨s, a, l⟩ hi ⟨rfl, rfl, ⟨f1, f2, f3⟩, hv⟩
    simp only at f1 f2 f3 hv
    have gi := List.getElem?_eq_getElem hi
    generalize pl[i] = c at gi
    have hc : c ∈ pl := List.mem_iff_getElem?.mpr ⟨i, gi⟩
    obtain ⟨c23, cn⟩ := mem c hc
    have nn : ¬ n ∈ pl := fun z => (mem n z).2 rfl
    have s31 : s.1 431 i = nI c := by rw [f2 431 (by omega)]; exact h31 i c gi
    have s35 : s.1 435 i = oI (g c) := by rw [f2 435 (by omega), ← h35 i c gi, j_oIt]
    obtain ⟨σ2, a2, b1, b2, b3, b4, b5, b6, b7⟩ := s_arr1 (σ := s) hn c23 (k := i) (by omega) cn (fX2_arrange_105 422 6 m) l3 (nI pl.length) (oI (Sm (fun x => g x + 1) (pl.take i))) h
    show ∃ s' : Sg × Int32 × Int32, _ ∧ fX2_arrange_105 422 6 (m + 1) s (nI n) l3 (nI pl.length) (oI (Sm (fun x => g x + 1) (pl.take i))) (nI i) = _
    have nle : ¬ nI pl.length ≤ nI i := by rw [j_le, j_nI (by omega), j_nI (by omega)]; omega
    have st : fX2_arrange_105 422 6 (m + 1) s (nI n) l3 (nI pl.length) (oI (Sm (fun x => g x + 1) (pl.take i))) (nI i) = fX2_arrange_132 422 6 (fX2_arrange_105 422 6 m) s (nI n) l3 (nI pl.length) (oI (Sm (fun x => g x + 1) (pl.take i))) (nI i) (nI c) (if h then 1 else 0) := by
      rw [fX2_arrange_105, if_neg nle, show (422 + 9 : Nat) = 431 from rfl, s_atn (by decide) (by omega), j_b, s31]
      cases h
      · rw [if_neg (fun z => by cases hl.mp z)]
        rfl
      · rw [if_pos (hl.mpr rfl)]
        rfl
    rw [st, a2]
    refine ⟨(σ2, _, nI (i + 1)), ⟨rfl, ?_, ⟨b1.trans f1, fun j hj => (b2 j hj).trans (f2 j hj), fun j z hz => (b3 j z (fun y => hz (y ▸ hc))).trans (f3 j z hz)⟩, fun k z hk gz => ?_⟩, rfl⟩
    · show oI _ + (s.1 435 i + 1) = _
      rw [s35, show (1 : Int32) = oI 1 from rfl, j_oa, j_oa, take_snoc gi, Sm_app]
      refine congrArg oI ?_
      show _ = _ + (g c + 1 + 0)
      omega
    · show σ2.1 426 z = _ ∧ σ2.1 427 z = _ ∧ σ2.1 428 z = _ ∧ σ2.1 429 z = _
      by_cases q : k = i
      · subst q
        have : z = c := Option.some.inj (gz.symm.trans gi)
        subst this
        rw [b4, b5, b6, b7, f3 426 n nn, f3 427 n nn, f3 428 n nn, f3 429 n nn, s35]
        exact ⟨rfl, rfl, rfl, rfl⟩
      · have : z ≠ c := fun y => q (nd_inj nd gz (y ▸ gi))
        rw [b3 _ z this, b3 _ z this, b3 _ z this, b3 _ z this]
        exact hv k z (by omega) gz
  · rintro m ⟨s, a, l⟩ ⟨rfl, rfl, ⟨f1, f2, f3⟩, hv⟩
    simp only at f1 f2 f3 hv
    show ∃ σ', fX2_arrange_105 422 6 (m + 1) s (nI n) l3 (nI pl.length) _ (nI pl.length) = _ ∧ _
    rw [fX2_arrange_105, if_pos (by rw [j_le]; exact Int.le_refl _)]
    exact ⟨s, rfl, ⟨f1, fun j hj => f2 j (by omega), fun j i _ _ hi => f3 j i hi⟩, fun k c hk => hv k c (List.getElem?_eq_some_iff.mp hk).1 hk⟩
end AR
end
