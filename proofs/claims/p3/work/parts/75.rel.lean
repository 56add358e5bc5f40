/-! THE RELATION: a pane goes, in the reference (3) -/
theorem leave_rows {V : VW} {d : Nat → Nat} {wn : Nat → Int} (h : Tree V d wn (fun _ => false)) {g s : Nat} (hg : g < 23) (hk : V 8 g = 2) (hs : V 9 g = s) :
    (∀ i, v_free (v_detach V g) g 8 i = if i = g then 3 else V 8 i) ∧ (∀ i, v_free (v_detach V g) g 9 i = if i = g then -1 else V 9 i) ∧
    (∀ i, i < 23 → i ≠ g → V 9 i ≠ -1 → v_free (v_detach V g) g 10 i = if V 9 i = s ∧ V 10 g < V 10 i then V 10 i - 1 else V 10 i) ∧
    (∀ j, j ≠ 8 → j ≠ 9 → j ≠ 10 → v_free (v_detach V g) g j = V j) ∧ Tree (v_free (v_detach V g) g) d wn (fun k => k == s) ∧ s < 23 ∧ V 8 s ≤ 1 ∧ s ≠ g ∧
    v_remg V g = v_fin V g s ∧ v_cc (v_free (v_detach V g) g) s = cnt (fun n => decide (v_free (v_detach V g) g 9 n = (s : Int))) 23 ∧ 1 ≤ cnt (fun n => decide (v_free (v_detach V g) g 9 n = (s : Int))) 23 := by
  obtain ⟨f8, f9, f10, fj⟩ := fd_rows (V := V) hg
  obtain ⟨s1, s3, s4, s5⟩ := h.par hg hs
  have nsg : s ≠ g := fun z => by rw [z] at s3; omega
  obtain ⟨nu, c2⟩ := h.sp s1 s3
  have c2 := c2 rfl
  have b10 : ∀ i, i < 23 → i ≠ g → V 9 i ≠ -1 → v_free (v_detach V g) g 10 i = if V 9 i = s ∧ V 10 g < V 10 i then V 10 i - 1 else V 10 i := fun i hi ne q => by
    rw [f10 i, hs]
    by_cases e : V 9 i = s
    · have p1 := nu.1 i hi (by simp [e])
      have p2 : V 10 i ≠ V 10 g := fun z => ne (nu.2.2 i g hi hg (by simp [e]) (by simp [hs]) z)
      have p3 := nu.1 g hg (by simp [hs])
      have p4 := cnt_le (fun n => decide (V 9 n = (s : Int))) 23
      by_cases w : V 10 g < V 10 i
      · rw [if_pos ⟨hi, by omega, ne, e, by omega⟩, if_pos ⟨e, w⟩, wr_id (by omega) (by omega)]
      · rw [if_neg (fun z => by omega), if_neg (fun z => w z.2)]
    · rw [if_neg (fun z => e z.2.2.2.1), if_neg (fun z => e z.1)]
  have T1 := h.leave (V' := v_free (v_detach V g) g) hg hk hs (fun i _ => f8 i) (fun i _ => f9 i) b10 (fun i _ => by rw [fj 11 (by decide) (by decide) (by decide)]) (fun w _ => by rw [fj 5 (by decide) (by decide) (by decide)])
  have cs : cnt (fun n => decide (V 9 n = (s : Int))) 23 = cnt (fun n => decide (v_free (v_detach V g) g 9 n = (s : Int))) 23 + 1 := cnt_one_more hg (fun i _ ne => by rw [f9 i, if_neg ne]) (by rw [f9 g, if_pos rfl, decide_eq_false_iff_not]; omega) (by simp [hs])
  refine ⟨f8, f9, b10, fj, T1.drop (fun t ht _ x y => by simp at x y; exact absurd x y), s1, s3, nsg, ?_, ?_, by omega⟩
  · unfold v_remg
    rw [ga_in hg, if_neg (by omega), hs]
  · unfold v_cc
    rw [if_neg (by omega)]
theorem close_rows {V : VW} {d : Nat → Nat} {wn : Nat → Int} (h : Tree V d wn (fun _ => false)) {g w : Nat} (hg : g < 23) (hk : V 8 g = 2) (hs : V 9 g = -1) (hw : wn g = w) (hw5 : w < 5) :
    (∀ i, v_remg V g 8 i = if i = g then 3 else V 8 i) ∧ (∀ i, v_remg V g 9 i = V 9 i) ∧ (∀ i, v_remg V g 10 i = V 10 i) ∧ (∀ i, v_remg V g 5 i = if i = w then -1 else V 5 i) ∧ odp (v_remg V g) = o_lv (odp V) w ∧ ∀ j, j ≠ 5 → j ≠ 6 → j ≠ 7 → j ≠ 8 → j ≠ 9 → j ≠ 10 → v_remg V g j = V j := by
  have W : v_wo V g = w := by rw [h.wo hg (by omega), hw]
  obtain ⟨g8, g9, g10, gj⟩ := fd_rows (V := v_od (up V 5 w (-1)) (o_lv (odp V) w)) hg
  have b9 : v_od (up V 5 w (-1)) (o_lv (odp V) w) 9 = V 9 := by rw [v_od_ne (by decide) (by decide), up_ne (by decide)]
  have b8 : v_od (up V 5 w (-1)) (o_lv (odp V) w) 8 = V 8 := by rw [v_od_ne (by decide) (by decide), up_ne (by decide)]
  have b10 : v_od (up V 5 w (-1)) (o_lv (odp V) w) 10 = V 10 := by rw [v_od_ne (by decide) (by decide), up_ne (by decide)]
  have F : v_remg V g = v_free (v_detach (v_od (up V 5 w (-1)) (o_lv (odp V) w)) g) g := by
    unfold v_remg
    rw [ga_in hg, if_pos hs, W]
    unfold v_fin
    rw [if_neg]
    unfold v_cc
    rw [if_pos rfl]
    decide
  rw [F]
  refine ⟨fun i => by rw [g8, b8], fun i => ?_, fun i => by rw [g10, b9, b10, if_neg (fun z => z.2.1 hs)], fun i => by rw [gj 5 (by decide) (by decide) (by decide), v_od_ne (by decide) (by decide), up5 hw5], Prod.ext ?_ ?_, fun j h5 h6 h7 h8 h9 h10 => by rw [gj j h8 h9 h10, v_od_ne h6 h7, up_ne h5]⟩
  · rw [g9, b9]
    by_cases e : i = g
    · rw [if_pos e, e, hs]
    · rw [if_neg e]
  · show v_free (v_detach (v_od (up V 5 w (-1)) (o_lv (odp V) w)) g) g 6 1 = _
    rw [gj 6 (by decide) (by decide) (by decide)]
    rfl
  · show v_free (v_detach (v_od (up V 5 w (-1)) (o_lv (odp V) w)) g) g 7 = _
    rw [gj 7 (by decide) (by decide) (by decide)]
    rfl
theorem FR.mor {U U' : VW} {j : Nat} (hj : j = 18) (h : ∀ k, k ≠ j → k ≠ j + 1 → U' k = U k) : FR U U' := fun k hk => h k (by omega) (by omega)
theorem VM.oe {U V : VW} {X : Nat → Bool} (h : VM U V X) : OE (mo U 18) (odp V) := ⟨h.fc, fun k hk => h.fi (by
  have : (k : Int) < U 18 0 := hk
  rw [h.fc] at this
  exact this)⟩
section MT
variable {σ : Sg} {V : VW} {d : Nat → Nat} {wn : Nat → Int}
/-- an empty group goes -/
theorem m_remg (h : VM (mv (σ.1 463)) V (fun _ => false)) (t : Tree V d wn (fun _ => false)) (lo : LO (odp V) 5 (flw V)) {g : Nat} (hg : g < 23) (hk : V 8 g = 2) : ∃ σ', (fX9_its σ 462 (oI (g : Int)) 1).bind (fun r7 => if r7 = -1 then (fX9_windowOf σ 462 (oI (g : Int))).bind fun r8 => (fX9_lay σ 462 (oI (g : Int)) 0 0).bind fun σ9 => (fX9_puts σ9 462 r8 5 (-1)).bind fun σ10 => if r8 ≤ 0 then some σ10 else (fX9_puts σ10 462 r8 0 0).bind fun σ11 => (fX9_dropsFrom σ11 462 246 r8).bind fun σ12 => some σ12 else (fX9_leaves σ 462 (oI (g : Int))).bind fun σ13 => (fX9_collapses σ13 462 r7).bind fun σ14 => some σ14) = some σ' ∧ Out σ σ' 463 463 ∧ VM (mv (σ'.1 463)) (v_remg V g) (fun _ => false) ∧ FR (mv (σ.1 463)) (mv (σ'.1 463)) := by
  have eg : (oI (g : Int)).toInt = g := j_oI (by omega) (by omega)
  rw [m_i1 eg (by omega), j_b, h.pa hg (by omega)]
  by_cases r : V 9 g = -1
  · obtain ⟨w, w1, w2, w3⟩ := t.ro hg (by omega) r
    obtain ⟨e8, e9, e10, e5, eo, ej⟩ := close_rows t hg hk r w2 w1
    have ew : (oI (w : Int)).toInt = w := j_oI (by omega) (by omega)
    rw [if_pos (by rw [r]; rfl), m_windowOf h t eg hg (by omega), j_b, w2]
    obtain ⟨σ1, a1, o1, v1⟩ := m_l0 (σ := σ) eg (by omega : g < 24) 0
    obtain ⟨σ2, a2, o2, v2⟩ := m_s5 (σ := σ1) ew w1 (-1)
    rw [a1, j_b, a2, j_b]
    rw [v1] at v2
    -- what does not hang on floats
    have core : ∀ U' : VW, (∀ j, j < 18 → j ≠ 12 → U' j = mu (mu (mv (σ.1 463)) 0 g 0) 17 w (-1) j) → (∀ v, v < 5 → U' 12 v = if v = 0 ∨ v_remg V g 5 v ≠ -1 then 1 else 0) → OE (mo U' 18) (odp (v_remg V g)) → VM U' (v_remg V g) (fun _ => false) := by
      intro U' hU h12 ho
      have u : ∀ j, j < 18 → j ≠ 12 → j ≠ 0 → j ≠ 17 → U' j = mv (σ.1 463) j := fun j h1 h2 h3 h4 => by rw [hU j h1 h2, mu_ne h4, mu_ne h3]
      have u0 : ∀ i, U' 0 i = if i = g then 0 else mv (σ.1 463) 0 i := fun i => by rw [hU 0 (by decide) (by decide), mu_ne (by decide), mu_at]
      have u17 : ∀ i, U' 17 i = if i = w then -1 else mv (σ.1 463) 17 i := fun i => by rw [hU 17 (by decide) (by decide), mu_at, mu_ne (by decide)]
      refine ⟨fun n hn => ?_, ?_, fun n hn q => ?_, fun n hn q => ?_, fun n hn q _ => ?_, fun p hp => ?_, fun v hv => ⟨h12 v hv, ?_, fun q => ?_⟩, ho.1, fun k hk => ho.2 k (by rw [ho.1]; exact hk), fun n hn q => by
        rw [e8 n] at q
        have z : n ≠ g := fun z => by rw [if_pos z] at q; omega
        rw [if_neg z] at q
        rw [u 5 (by decide) (by decide) (by decide) (by decide)]
        exact h.a5 hn q⟩
      · rw [e8 n, u0 n]
        by_cases z : n = g
        · rw [if_pos z, if_pos z]
          exact ⟨fun _ => rfl, fun y => by omega, fun y => by omega⟩
        · rw [if_neg z, if_neg z, u 2 (by decide) (by decide) (by decide) (by decide)]
          exact h.1 n hn
      · rw [u0 23, if_neg (by omega)]
        exact h.l
      · rw [e8 n] at q
        have z : n ≠ g := fun z => by rw [if_pos z] at q; exact q rfl
        rw [if_neg z] at q
        rw [u 1 (by decide) (by decide) (by decide) (by decide), e9 n]
        exact h.pa hn q
      · rw [e9 n] at q
        rw [u 3 (by decide) (by decide) (by decide) (by decide), u 4 (by decide) (by decide) (by decide) (by decide), e10 n, ej 11 (by decide) (by decide) (by decide) (by decide) (by decide) (by decide)]
        exact ⟨h.we hn q, h.pl hn q⟩
      · rw [e8 n] at q
        have z : n ≠ g := fun z => by rw [if_pos z] at q; omega
        rw [if_neg z] at q
        rw [u 5 (by decide) (by decide) (by decide) (by decide), ej 12 (by decide) (by decide) (by decide) (by decide) (by decide) (by decide)]
        exact h.ac hn q rfl
      · rw [u 9 (by decide) (by decide) (by decide) (by decide), u 10 (by decide) (by decide) (by decide) (by decide), u 11 (by decide) (by decide) (by decide) (by decide), ej 13 (by decide) (by decide) (by decide) (by decide) (by decide) (by decide), ej 14 (by decide) (by decide) (by decide) (by decide) (by decide) (by decide), ej 15 (by decide) (by decide) (by decide) (by decide) (by decide) (by decide)]
        exact ⟨h.gr hp, h.sp hp, h.hi hp⟩
      · rw [u17 v, e5 v]
        by_cases z : v = w
        · rw [if_pos z, if_pos z]
        · rw [if_neg z, if_neg z]
          exact h.ro hv
      · rw [u 13 (by decide) (by decide) (by decide) (by decide), u 14 (by decide) (by decide) (by decide) (by decide), u 15 (by decide) (by decide) (by decide) (by decide), u 16 (by decide) (by decide) (by decide) (by decide), ej 1 (by decide) (by decide) (by decide) (by decide) (by decide) (by decide), ej 2 (by decide) (by decide) (by decide) (by decide) (by decide) (by decide), ej 3 (by decide) (by decide) (by decide) (by decide) (by decide) (by decide), ej 4 (by decide) (by decide) (by decide) (by decide) (by decide) (by decide)]
        refine h.geo hv ?_
        rcases q with q | q
        · exact Or.inl q
        · rw [e5 v] at q
          by_cases z : v = w
          · rw [if_pos z] at q
            exact absurd rfl q
          · rw [if_neg z] at q
            exact Or.inr q
    have old12 : ∀ v, v < 5 → v ≠ w → mv (σ.1 463) 12 v = if v = 0 ∨ v_remg V g 5 v ≠ -1 then 1 else 0 := fun v hv ne => by
      rw [h.ex hv, e5 v, if_neg ne]
    by_cases wz : w = 0
    · rw [if_pos (by rw [j_le, ew, jz0]; omega)]
      have f0 : flw V w = false := by unfold flw; rw [wz]; simp
      refine ⟨σ2, rfl, o1.tr o2, core _ (fun j h1 h2 => by rw [v2]; rfl) (fun v hv => ?_) ?_, ?_⟩
      · rw [v2, mu_ne (by decide), mu_ne (by decide)]
        by_cases z : v = w
        · rw [h.ex hv, z, wz, if_pos (Or.inl rfl), if_pos (Or.inl rfl)]
        · exact old12 v hv z
      · rw [v2, eo, lo.lv_no f0]
        exact h.oe
      · rw [v2]
        exact (FR.mu (by omega)).tr (FR.mu (by omega))
    · rw [if_neg (by rw [j_le, ew, jz0]; omega)]
      obtain ⟨σ3, a3, o3, v3⟩ := m_s0 (σ := σ2) ew w1 0
      rw [v2] at v3
      have mo3 : mo (mv (σ3.1 463)) 18 = mo (mv (σ.1 463)) 18 := by rw [v3]; rfl
      have fc := h.fc
      have lc := lo.1
      have lc2 := cnt_le (flw V) 5
      have lc3 : cnt (flw V) 5 ≤ 4 := by
        have := cnt_one_more (c := flw V) (d := fun i => flw V i || i == 0) (n := 5) (i0 := 0) (by decide) (fun i _ ne => by simp [ne]) (by simp [flw]) (by simp)
        have := cnt_le (fun i => flw V i || i == 0) 5
        omega
      have V61 : (odp V).1 = V 6 1 := rfl
      obtain ⟨σ4, a4, o4, v4, r4⟩ := m_dropsFrom (σ := σ3) (j := 18) (c := 246) (cap := 4) (Or.inl ⟨rfl, rfl, rfl⟩) (by rw [mo3]; show 0 ≤ mv (σ.1 463) 18 0 ∧ mv (σ.1 463) 18 0 ≤ 4; omega) (oI (w : Int))
      have a4 : fX9_dropsFrom σ3 462 246 (oI (w : Int)) = some σ4 := a4
      rw [a3, j_b, a4, j_b]
      rw [mo3, ew] at v4
      refine ⟨σ4, rfl, ((o1.tr o2).tr o3).tr o4, core _ (fun j h1 h2 => ?_) (fun v hv => ?_) ?_, ?_⟩
      · rw [r4 j (by omega) (by omega), v3, mu_ne h2]
        rfl
      · rw [r4 12 (by decide) (by decide), v3, mu_at]
        by_cases z : v = w
        · rw [if_pos z, e5 v, if_pos z, if_neg (fun y => y.elim (fun y => wz (by omega)) (fun y => y rfl))]
          rfl
        · rw [if_neg z, mu_ne (by decide), mu_ne (by decide)]
          exact old12 v hv z
      · rw [eo]
        exact v4.tr (h.oe.lv _)
      · refine FR.tr ?_ (FR.mor rfl r4)
        rw [v3]
        exact ((FR.mu (by omega)).tr (FR.mu (by omega))).tr (FR.mu (by omega))
  · obtain ⟨s, s1, s2, -⟩ := t.pa hg r
    obtain ⟨f8, f9, b10, fj, T1, -, s3, nsg, RM, cc1, cc2⟩ := leave_rows t hg hk s2
    rw [if_neg (by rw [show (-1 : Int32) = oI (-1) from rfl, j_oe (by omega) (by omega) (by omega) (by omega)]; exact r), s2]
    obtain ⟨σ1, a1, o1, v1⟩ := m_leaves (σ := σ) eg (by omega : g < 24)
    rw [a1, j_b]
    have es : (oI (s : Int)).toInt = s := j_oI (by omega) (by omega)
    -- behind the leaving
    have M1 : VM (mv (σ1.1 463)) (v_free (v_detach V g) g) (fun _ => false) := by
      have u : ∀ j, j ≠ 0 → j ≠ 4 → mv (σ1.1 463) j = mv (σ.1 463) j := fun j h1 h2 => by
        rw [v1]
        funext i
        unfold mlv
        rw [if_neg (fun z => h2 z.1), mu_ne h1]
      have u0 : ∀ i, mv (σ1.1 463) 0 i = if i = g then 0 else mv (σ.1 463) 0 i := fun i => by
        rw [v1]
        unfold mlv
        rw [if_neg (fun z => absurd z.1 (by decide)), mu_at]
      refine ⟨fun n hn => ?_, ?_, fun n hn q => ?_, fun n hn q => ?_, fun n hn q _ => ?_, fun p hp => ?_, fun v hv => ?_, ?_, ?_, fun n hn q => by
        rw [f8 n] at q
        have z : n ≠ g := fun z => by rw [if_pos z] at q; omega
        rw [if_neg z] at q
        rw [u 5 (by decide) (by decide)]
        exact h.a5 hn q⟩
      · rw [f8 n, u0 n]
        by_cases z : n = g
        · rw [if_pos z, if_pos z]
          exact ⟨fun _ => rfl, fun y => by omega, fun y => by omega⟩
        · rw [if_neg z, if_neg z, u 2 (by decide) (by decide)]
          exact h.1 n hn
      · rw [u0 23, if_neg (by omega)]
        exact h.l
      · rw [f8 n] at q
        have z : n ≠ g := fun z => by rw [if_pos z] at q; exact q rfl
        rw [if_neg z] at q
        rw [u 1 (by decide) (by decide), f9 n, if_neg z]
        exact h.pa hn q
      · rw [f9 n] at q
        have z : n ≠ g := fun z => by rw [if_pos z] at q; exact q rfl
        rw [if_neg z] at q
        refine ⟨by rw [u 3 (by decide) (by decide), fj 11 (by decide) (by decide) (by decide)]; exact h.we hn q, ?_⟩
        have nu := t.us hn q
        have k0 : mv (σ.1 463) 0 n ≠ 0 := fun y => nu ((h.k0 hn (t.ki hn)).mp y)
        have pg : mv (σ.1 463) 4 g = V 10 g := h.pl hg (by omega)
        have p1g : mv (σ.1 463) 1 g = s := by rw [h.pa hg (by omega), s2]
        rw [b10 n hn z q, v1]
        unfold mlv
        rw [if_neg z, h.pa hn nu, p1g, h.pl hn q, pg]
        by_cases y : V 9 n = s ∧ V 10 g < V 10 n
        · obtain ⟨x, -⟩ := t.sp s1 s3
          have x1 := x.1 n hn (by simp [y.1])
          have x2 := cnt_le (fun n => decide (V 9 n = (s : Int))) 23
          rw [if_pos ⟨rfl, by omega, k0, y⟩, if_pos y, wr_id (by omega) (by omega)]
        · rw [if_neg (fun x => y x.2.2.2), if_neg y, mu_ne (by decide), h.pl hn q]
      · rw [f8 n] at q
        have z : n ≠ g := fun z => by rw [if_pos z] at q; omega
        rw [if_neg z] at q
        rw [u 5 (by decide) (by decide), fj 12 (by decide) (by decide) (by decide)]
        exact h.ac hn q rfl
      · rw [u 9 (by decide) (by decide), u 10 (by decide) (by decide), u 11 (by decide) (by decide), fj 13 (by decide) (by decide) (by decide), fj 14 (by decide) (by decide) (by decide), fj 15 (by decide) (by decide) (by decide)]
        exact ⟨h.gr hp, h.sp hp, h.hi hp⟩
      · rw [u 12 (by decide) (by decide), u 13 (by decide) (by decide), u 14 (by decide) (by decide), u 15 (by decide) (by decide), u 16 (by decide) (by decide), u 17 (by decide) (by decide), fj 5 (by decide) (by decide) (by decide), fj 1 (by decide) (by decide) (by decide), fj 2 (by decide) (by decide) (by decide), fj 3 (by decide) (by decide) (by decide), fj 4 (by decide) (by decide) (by decide)]
        exact ⟨h.ex hv, h.ro hv, h.geo hv⟩
      · rw [u 18 (by decide) (by decide), fj 6 (by decide) (by decide) (by decide)]
        exact h.fc
      · rw [u 19 (by decide) (by decide), fj 6 (by decide) (by decide) (by decide), fj 7 (by decide) (by decide) (by decide)]
        exact fun k hk => h.fi hk
    have F1 : FR (mv (σ.1 463)) (mv (σ1.1 463)) := by rw [v1]; exact FR.ofl
    unfold fX9_collapses
    rw [m_childMany, j_b, es, M1.cc T1 (by omega), cc1, RM]
    have c23 := cnt_le (fun n => decide (v_free (v_detach V g) g 9 n = (s : Int))) 23
    unfold v_fin
    rw [cc1]
    by_cases one : cnt (fun n => decide (v_free (v_detach V g) g 9 n = (s : Int))) 23 = 1
    · have k1 : v_free (v_detach V g) g 8 s ≤ 1 := by rw [f8 s, if_neg nsg]; exact s3
      obtain ⟨m, m1, m2, m3, c8, c9, c10, c11, c5, cj⟩ := col_rows T1 s1 k1 one
      have T2 := T1.collapse s1 k1 m1 m2 one c8 c9 c10 c11 c5
      have em : (oI (m : Int)).toInt = m := j_oI (by omega) (by omega)
      have ms := (T1.par m1 m2).2.2.1
      have nms : m ≠ s := fun z => by rw [z] at ms; omega
      have mu3 : v_free (v_detach V g) g 8 m ≠ 3 := T1.us m1 (by omega)
      rw [if_pos (by rw [j_le, t_cnt _ (by decide), one]; decide), if_pos one, m_child, j_b, jz0, es, M1.ca T1 (by omega), m3]
      obtain ⟨V1, hV1⟩ : ∃ V1, V1 = v_free (v_detach V g) g := ⟨_, rfl⟩
      rw [← hV1] at M1 T1 T2 c8 c9 c10 c11 c5 cj k1 m2 mu3 ⊢
      -- replaces m at s
      have REP : ∃ σ3, fX9_replaces σ1 462 (oI (m : Int)) (oI (s : Int)) = some σ3 ∧ Out σ1 σ3 463 463 ∧ mv (σ3.1 463) = mu (mu (mu (if V1 9 s = -1 then mu (mv (σ1.1 463)) 17 (wn s).toNat m else mv (σ1.1 463)) 1 m (V1 9 s)) 4 m (mv (σ1.1 463) 4 s)) 3 m (mv (σ1.1 463) 3 s) := by
        have r21 : ∀ τ : Sg, (∀ j, j < 6 → mv (τ.1 463) j = mv (σ1.1 463) j) → ∃ σ3, fX9_replaces_21 462 τ (oI (m : Int)) (oI (s : Int)) = some σ3 ∧ Out τ σ3 463 463 ∧ mv (σ3.1 463) = mu (mu (mu (mv (τ.1 463)) 1 m (V1 9 s)) 4 m (mv (σ1.1 463) 4 s)) 3 m (mv (σ1.1 463) 3 s) := by
          intro τ hτ
          have x1 : mv (τ.1 463) 1 s = V1 9 s := by rw [hτ 1 (by decide), M1.pa s1 (by omega)]
          obtain ⟨τ1, b1, p1, w1⟩ := m_l1 (σ := τ) em (by omega : m < 24) (oI (mv (τ.1 463) 1 s))
          obtain ⟨τ2, b2, p2, w2⟩ := m_l4 (σ := τ1) em (by omega : m < 24) (oI (mv (τ1.1 463) 4 s))
          obtain ⟨τ3, b3, p3, w3⟩ := m_l3 (σ := τ2) em (by omega : m < 24) (oI (mv (τ2.1 463) 3 s))
          unfold fX9_replaces_21
          rw [m_i1 es (by omega), j_b, b1, j_b, m_i4 es (by omega), j_b, b2, j_b, m_i3 es (by omega), j_b, b3, j_b]
          refine ⟨τ3, rfl, (p1.tr p2).tr p3, ?_⟩
          have y4 : mv (τ1.1 463) 4 s = mv (σ1.1 463) 4 s := by rw [w1, mu_ne (by decide), hτ 4 (by decide)]
          have y3 : mv (τ2.1 463) 3 s = mv (σ1.1 463) 3 s := by rw [w2, mu_ne (by decide), w1, mu_ne (by decide), hτ 3 (by decide)]
          rw [w3, t_mv, y3, w2, t_mv, y4, w1, t_mv, x1]
        unfold fX9_replaces
        rw [m_i1 es (by omega), j_b, M1.pa s1 (by omega)]
        by_cases z : V1 9 s = -1
        · obtain ⟨w, w1, w2, w3⟩ := T1.ro s1 (by omega) z
          have ew : (oI (w : Int)).toInt = w := j_oI (by omega) (by omega)
          rw [if_pos (by rw [z]; rfl), if_pos z, m_windowOf M1 T1 es s1 (by omega), j_b, w2]
          obtain ⟨τ, b1, p1, x1⟩ := m_s5 (σ := σ1) ew w1 (oI (m : Int))
          rw [b1, j_b]
          obtain ⟨σ3, b2, p2, x2⟩ := r21 τ (fun j hj => by rw [x1, mu_ne (by omega)])
          exact ⟨σ3, b2, p1.tr p2, by rw [x2, x1, em, Int.toNat_natCast]⟩
        · rw [if_neg (by
            obtain ⟨u, u1, u2, _⟩ := T1.pa s1 z
            rw [u2, show (-1 : Int32) = oI (-1) from rfl, j_oe (by omega) (by omega) (by omega) (by omega)]
            omega), if_neg z]
          exact r21 σ1 (fun _ _ => rfl)
      obtain ⟨σ3, a3, o3, v3⟩ := REP
      obtain ⟨σ4, a4, o4, v4⟩ := m_l0 (σ := σ3) es (by omega : s < 24) 0
      rw [a3, j_b, a4, j_b]
      rw [v3] at v4
      refine ⟨σ4, rfl, (o1.tr o3).tr o4, ?_, ?_⟩
      · have u : ∀ j, j ≠ 0 → j ≠ 1 → j ≠ 3 → j ≠ 4 → j ≠ 17 → mv (σ4.1 463) j = mv (σ1.1 463) j := fun j h0 h1 h3 h4 h17 => by
          rw [v4, mu_ne h0, mu_ne h3, mu_ne h4, mu_ne h1]
          split
          · rw [mu_ne h17]
          · rfl
        have u0 : ∀ i, mv (σ4.1 463) 0 i = if i = s then 0 else mv (σ1.1 463) 0 i := fun i => by
          rw [v4, mu_at, mu_ne (by decide), mu_ne (by decide), mu_ne (by decide)]
          by_cases z : V1 9 s = -1
          · rw [if_pos z, mu_ne (by decide)]
            rfl
          · rw [if_neg z]
            rfl
        have u1 : ∀ i, mv (σ4.1 463) 1 i = if i = m then V1 9 s else mv (σ1.1 463) 1 i := fun i => by
          rw [v4, mu_ne (by decide), mu_ne (by decide), mu_ne (by decide), mu_at]
          by_cases z : V1 9 s = -1
          · rw [if_pos z, mu_ne (by decide)]
          · rw [if_neg z]
        have u4 : ∀ i, mv (σ4.1 463) 4 i = if i = m then mv (σ1.1 463) 4 s else mv (σ1.1 463) 4 i := fun i => by
          rw [v4, mu_ne (by decide), mu_ne (by decide), mu_at, mu_ne (by decide)]
          by_cases z : V1 9 s = -1
          · rw [if_pos z, mu_ne (by decide)]
          · rw [if_neg z]
        have u3 : ∀ i, mv (σ4.1 463) 3 i = if i = m then mv (σ1.1 463) 3 s else mv (σ1.1 463) 3 i := fun i => by
          rw [v4, mu_ne (by decide), mu_at, mu_ne (by decide), mu_ne (by decide)]
          by_cases z : V1 9 s = -1
          · rw [if_pos z, mu_ne (by decide)]
          · rw [if_neg z]
        have u17 : ∀ v, v < 5 → mv (σ4.1 463) 17 v = if V1 9 s = -1 ∧ V1 5 v = s then (m : Int) else V1 5 v := fun v hv => by
          rw [v4, mu_ne (by decide), mu_ne (by decide), mu_ne (by decide), mu_ne (by decide)]
          by_cases z : V1 9 s = -1
          · obtain ⟨w, w1, w2, w3⟩ := T1.ro s1 (by omega) z
            rw [if_pos z, w2, Int.toNat_natCast, mu_at]
            by_cases y : v = w
            · rw [if_pos y, if_pos ⟨z, by rw [y]; exact w3⟩]
            · rw [if_neg y, if_neg (fun x => y (T1.un hv w1 x.2 w3)), M1.ro hv]
          · rw [if_neg z, if_neg (fun x => z x.1), M1.ro hv]
        refine ⟨fun n hn => ?_, ?_, fun n hn q => ?_, fun n hn q => ?_, fun n hn q _ => ?_, fun p hp => ?_, fun v hv => ?_, ?_, ?_, fun n hn q => by
          rw [c8 n hn] at q
          have z : n ≠ s := fun z => by rw [if_pos z] at q; omega
          rw [if_neg z] at q
          rw [u 5 (by decide) (by decide) (by decide) (by decide) (by decide)]
          exact M1.a5 hn q⟩
        · rw [c8 n hn, u0 n]
          by_cases z : n = s
          · rw [if_pos z, if_pos z]
            exact ⟨fun _ => rfl, fun y => by omega, fun y => by omega⟩
          · rw [if_neg z, if_neg z, u 2 (by decide) (by decide) (by decide) (by decide) (by decide)]
            exact M1.1 n hn
        · rw [u0 23, if_neg (by omega)]
          exact M1.l
        · rw [c8 n hn] at q
          have z : n ≠ s := fun z => by rw [if_pos z] at q; exact q rfl
          rw [if_neg z] at q
          rw [u1 n, c9 n hn, if_neg z]
          by_cases y : n = m
          · rw [if_pos y, if_pos y]
          · rw [if_neg y, if_neg y]
            exact M1.pa hn q
        · have q' := q
          rw [c9 n hn] at q
          have z : n ≠ s := fun z => by rw [if_pos z] at q; exact q rfl
          rw [if_neg z] at q
          rw [u3 n, u4 n, c10 n hn q', c11 n hn q']
          by_cases y : n = m
          · rw [if_pos y] at q
            rw [if_pos y, if_pos y, if_pos y, if_pos y]
            exact ⟨M1.we s1 q, M1.pl s1 q⟩
          · rw [if_neg y] at q
            rw [if_neg y, if_neg y, if_neg y, if_neg y]
            exact ⟨M1.we hn q, M1.pl hn q⟩
        · rw [c8 n hn] at q
          have z : n ≠ s := fun z => by rw [if_pos z] at q; omega
          rw [if_neg z] at q
          rw [u 5 (by decide) (by decide) (by decide) (by decide) (by decide), cj 12 (by decide) (by decide) (by decide) (by decide) (by decide)]
          exact M1.ac hn q rfl
        · rw [u 9 (by decide) (by decide) (by decide) (by decide) (by decide), u 10 (by decide) (by decide) (by decide) (by decide) (by decide), u 11 (by decide) (by decide) (by decide) (by decide) (by decide), cj 13 (by decide) (by decide) (by decide) (by decide) (by decide), cj 14 (by decide) (by decide) (by decide) (by decide) (by decide), cj 15 (by decide) (by decide) (by decide) (by decide) (by decide)]
          exact ⟨M1.gr hp, M1.sp hp, M1.hi hp⟩
        · have ev : (v = 0 ∨ v_free (v_repl (v_detach V1 m) s m) s 5 v ≠ -1) ↔ (v = 0 ∨ V1 5 v ≠ -1) := by
            rw [c5 v hv]
            by_cases z : V1 9 s = -1 ∧ V1 5 v = s
            · rw [if_pos z, z.2]
              constructor <;> intro _ <;> exact Or.inr (by omega)
            · rw [if_neg z]
          rw [u 12 (by decide) (by decide) (by decide) (by decide) (by decide), u17 v hv, u 13 (by decide) (by decide) (by decide) (by decide) (by decide), u 14 (by decide) (by decide) (by decide) (by decide) (by decide), u 15 (by decide) (by decide) (by decide) (by decide) (by decide), u 16 (by decide) (by decide) (by decide) (by decide) (by decide), cj 1 (by decide) (by decide) (by decide) (by decide) (by decide), cj 2 (by decide) (by decide) (by decide) (by decide) (by decide), cj 3 (by decide) (by decide) (by decide) (by decide) (by decide), cj 4 (by decide) (by decide) (by decide) (by decide) (by decide)]
          refine ⟨?_, (c5 v hv).symm, fun q => M1.geo hv (ev.mp q)⟩
          rw [M1.ex hv]
          by_cases z : v = 0 ∨ V1 5 v ≠ -1
          · rw [if_pos z, if_pos (ev.mpr z)]
          · rw [if_neg z, if_neg (fun y => z (ev.mp y))]
        · rw [u 18 (by decide) (by decide) (by decide) (by decide) (by decide), cj 6 (by decide) (by decide) (by decide) (by decide) (by decide)]
          exact M1.fc
        · rw [u 19 (by decide) (by decide) (by decide) (by decide) (by decide), cj 6 (by decide) (by decide) (by decide) (by decide) (by decide), cj 7 (by decide) (by decide) (by decide) (by decide) (by decide)]
          exact fun k hk => M1.fi hk
      · refine F1.tr ?_
        rw [v4]
        by_cases z : V1 9 s = -1
        · rw [if_pos z]
          exact ((((FR.mu (by omega)).tr (FR.mu (by omega))).tr (FR.mu (by omega))).tr (FR.mu (by omega))).tr (FR.mu (by omega))
        · rw [if_neg z]
          exact (((FR.mu (by omega)).tr (FR.mu (by omega))).tr (FR.mu (by omega))).tr (FR.mu (by omega))
    · rw [if_neg (by rw [j_le, t_cnt _ (by decide), jz1]; omega), if_neg one]
      exact ⟨σ1, rfl, o1, M1, F1⟩
end MT
