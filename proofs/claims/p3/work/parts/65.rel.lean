/-! THE RELATION: a pane goes; what holds behind it -/
theorem dt_rows {V : VW} {g : Nat} (hg : g < 23) :
    (∀ i, v_detach V g 9 i = if i = g then -1 else V 9 i) ∧
    (∀ i, v_detach V g 10 i = if i < 23 ∧ V 9 g ≠ -1 ∧ i ≠ g ∧ V 9 i = V 9 g ∧ V 10 g ≤ V 10 i then wr (V 10 i - 1) else V 10 i) ∧
    ∀ j, j ≠ 9 → j ≠ 10 → v_detach V g j = V j := by
  have dt : ∀ j, j ≠ 10 → v_detach V g j = up V 9 g (-1) j := fun j hj => by
    funext i
    unfold v_detach v_shift
    rw [if_neg (fun z => hj z.1)]
  refine ⟨fun i => ?_, fun i => ?_, fun j h9 h10 => ?_⟩
  · rw [dt 9 (by decide), up9 hg]
  · have := (fd_rows (V := V) hg).2.2.1 i
    unfold v_free at this
    rw [up_ne (by decide)] at this
    exact this
  · rw [dt j h10, up_ne h9]
/-- the only child takes its split's place -/
theorem col_rows {V : VW} {d : Nat → Nat} {wn : Nat → Int} {X : Nat → Bool} (h : Tree V d wn X) {s : Nat} (hs : s < 23) (hk : V 8 s ≤ 1) (h1 : cnt (fun n => decide (V 9 n = s)) 23 = 1) : ∃ m : Nat, m < 23 ∧ V 9 m = s ∧ v_ca V s 0 = m ∧
    (∀ i, i < 23 → v_free (v_repl (v_detach V m) s m) s 8 i = if i = s then 3 else V 8 i) ∧
    (∀ i, i < 23 → v_free (v_repl (v_detach V m) s m) s 9 i = if i = s then -1 else if i = m then V 9 s else V 9 i) ∧
    (∀ i, i < 23 → v_free (v_repl (v_detach V m) s m) s 9 i ≠ -1 → v_free (v_repl (v_detach V m) s m) s 10 i = if i = m then V 10 s else V 10 i) ∧
    (∀ i, i < 23 → v_free (v_repl (v_detach V m) s m) s 9 i ≠ -1 → v_free (v_repl (v_detach V m) s m) s 11 i = if i = m then V 11 s else V 11 i) ∧
    (∀ w, w < 5 → v_free (v_repl (v_detach V m) s m) s 5 w = if V 9 s = -1 ∧ V 5 w = s then (m : Int) else V 5 w) ∧
    ∀ j, j ≠ 5 → j ≠ 8 → j ≠ 9 → j ≠ 10 → j ≠ 11 → v_free (v_repl (v_detach V m) s m) s j = V j := by
  obtain ⟨nu, -⟩ := h.sp hs hk
  obtain ⟨m, hm, mm, m0⟩ := nu.2.1 0 (by omega)
  rw [decide_eq_true_eq] at mm
  have only : ∀ i, i < 23 → V 9 i = s → i = m := fun i hi q => cnt_uniq (c := fun n => decide (V 9 n = (s : Int))) (n := 23) (by omega) hi hm (by simp [q]) (by simp [mm])
  have ca : v_ca V s 0 = m := by
    unfold v_ca
    rw [if_neg (by omega)]
    refine fnd_un hm (by simp [mm, m0]) (fun k hk w => ?_)
    simp at w
    exact only k hk w.1
  have nms : m ≠ s := fun z => by
    have := (h.par hm mm).2.2.1
    rw [z] at this
    omega
  obtain ⟨d9, d10, dj⟩ := dt_rows (V := V) hm
  have d10' : ∀ i, v_detach V m 10 i = V 10 i := fun i => by
    rw [d10 i, if_neg (fun z => z.2.2.1 (only i z.1 (by rw [z.2.2.2.1, mm])))]
  have d9s : v_detach V m 9 s = V 9 s := by rw [d9 s, if_neg (fun z => nms z.symm)]
  refine ⟨m, hm, mm, ca, ?_⟩
  by_cases r : V 9 s = -1
  · have R : v_repl (v_detach V m) s m = up (v_detach V m) 5 (v_wo (v_detach V m) s) m := by
      unfold v_repl
      rw [ga_in hs, d9s, if_pos r]
    obtain ⟨w, w1, w2, w3⟩ := h.ro hs (by omega) r
    have W : v_wo (v_detach V m) s = w := by
      have t : v_top (v_detach V m) 23 s = s := by
        show (if ga (v_detach V m 9) 23 s = -1 then (s : Int) else _) = _
        rw [ga_in hs, d9s, if_pos r]
      unfold v_wo
      rw [t, if_neg (by omega), dj 5 (by decide) (by decide)]
      refine fnd_un w1 (by simp [w3]) (fun k hk e => ?_)
      rw [decide_eq_true_eq] at e
      exact h.un hk w1 e w3
    rw [R, W]
    unfold v_free
    refine ⟨fun i hi => ?_, fun i hi => ?_, fun i hi q => ?_, fun i hi q => ?_, fun v hv => ?_, fun j h5 h8 h9 h10 h11 => ?_⟩
    · rw [up8 hs, up_ne (by decide), dj 8 (by decide) (by decide)]
    · rw [up_ne (by decide), up_ne (by decide), d9 i]
      by_cases e : i = s
      · rw [if_pos e, if_neg (fun z => nms (by omega)), e, r]
      · rw [if_neg e]
        by_cases e2 : i = m
        · rw [if_pos e2, if_pos e2, r]
        · rw [if_neg e2, if_neg e2]
    · rw [up_ne (by decide), up_ne (by decide), d9 i] at q
      have ne : i ≠ m := fun z => by rw [if_pos z] at q; exact q rfl
      rw [up_ne (by decide), up_ne (by decide), d10' i, if_neg ne]
    · rw [up_ne (by decide), up_ne (by decide), d9 i] at q
      have ne : i ≠ m := fun z => by rw [if_pos z] at q; exact q rfl
      rw [up_ne (by decide), up_ne (by decide), dj 11 (by decide) (by decide), if_neg ne]
    · rw [up_ne (by decide), up5 w1, dj 5 (by decide) (by decide)]
      by_cases e : v = w
      · rw [if_pos e, if_pos ⟨r, by rw [e]; exact w3⟩]
      · rw [if_neg e, if_neg (fun z => e (h.un hv w1 z.2 w3))]
    · rw [up_ne h8, up_ne h5, dj j h9 h10]
  · have R : v_repl (v_detach V m) s m = up (up (up (up (v_detach V m) 9 s (-1)) 9 m (V 9 s)) 10 m (V 10 s)) 11 m (V 11 s) := by
      unfold v_repl
      rw [ga_in hs, d9s, if_neg r, ga_in hs, ga_in hs, d10' s, dj 11 (by decide) (by decide)]
    rw [R]
    unfold v_free
    refine ⟨fun i hi => ?_, fun i hi => ?_, fun i hi q => ?_, fun i hi q => ?_, fun v hv => ?_, fun j h5 h8 h9 h10 h11 => ?_⟩
    · rw [up8 hs, up_ne (by decide), up_ne (by decide), up_ne (by decide), up_ne (by decide), dj 8 (by decide) (by decide)]
    · rw [up_ne (by decide), up_ne (by decide), up_ne (by decide), up9 hm, up9 hs, d9 i]
      by_cases e : i = s
      · rw [if_pos e, if_neg (fun z => nms (by omega)), if_pos e]
      · rw [if_neg e, if_neg e]
        by_cases e2 : i = m
        · rw [if_pos e2, if_pos e2]
        · rw [if_neg e2, if_neg e2, if_neg e2]
    · rw [up_ne (by decide), up_ne (by decide), up10 hm, up_ne (by decide), up_ne (by decide), d10' i]
    · rw [up_ne (by decide), up11 hm, up_ne (by decide), up_ne (by decide), up_ne (by decide), dj 11 (by decide) (by decide)]
    · rw [up_ne (by decide), up_ne (by decide), up_ne (by decide), up_ne (by decide), up_ne (by decide), dj 5 (by decide) (by decide), if_neg (fun z => r z.1)]
    · rw [up_ne h8, up_ne h11, up_ne h10, up_ne h9, up_ne h9, dj j h9 h10]
def Geo (V : VW) : Prop := ∀ w, w < 5 → (-400 ≤ V 1 w ∧ V 1 w ≤ 400) ∧ (-400 ≤ V 2 w ∧ V 2 w ≤ 400) ∧ (10 ≤ V 3 w ∧ V 3 w ≤ 400) ∧ 10 ≤ V 4 w ∧ V 4 w ≤ 400
def flw (V : VW) (w : Nat) : Bool := decide (1 ≤ w) && decide (V 5 w ≠ -1)
def Inv (V : VW) (d : Nat → Nat) (wn : Nat → Int) : Prop := Tree V d wn (fun _ => false) ∧ Tabs V (fun _ => false) ∧ LO (odp V) 5 (flw V) ∧ Geo V
theorem Geo.cg {V V' : VW} (h : Geo V) (h1 : V' 1 = V 1) (h2 : V' 2 = V 2) (h3 : V' 3 = V 3) (h4 : V' 4 = V 4) : Geo V' := by
  unfold Geo at *
  rw [h1, h2, h3, h4]
  exact h
/-- what a group's going does: the rows behind it -/
def Gone (V V' : VW) (g : Nat) (wn : Nat → Int) : Prop :=
  (∀ n, n < 23 → V' 8 n = 3 ∨ V' 8 n = V 8 n) ∧
  (∀ n, n < 23 → V 8 n = 3 → V' 8 n = 3) ∧
  (∀ n, n < 23 → V 8 n ≠ 3 → wn n ≠ wn g → V' 8 n = V 8 n ∧ V' 9 n = V 9 n ∧ (V 9 n ≠ -1 → V' 10 n = V 10 n ∧ V' 11 n = V 11 n)) ∧
  (∀ w : Nat, w < 5 → (w : Int) ≠ wn g → V' 5 w = V 5 w) ∧
  (∀ n, n < 23 → V 8 n = 2 → n ≠ g → V' 8 n = 2) ∧ V' 8 g = 3 ∧
  V' 1 = V 1 ∧ V' 2 = V 2 ∧ V' 3 = V 3 ∧ V' 4 = V 4 ∧ V' 12 = V 12 ∧ V' 13 = V 13 ∧ V' 14 = V 14 ∧ V' 15 = V 15
theorem remg_ok {V : VW} {d : Nat → Nat} {wn : Nat → Int} (h : Tree V d wn (fun _ => false)) (ho : LO (odp V) 5 (flw V)) {g : Nat} (hg : g < 23) (hk : V 8 g = 2) : Tree (v_remg V g) d wn (fun _ => false) ∧ LO (odp (v_remg V g)) 5 (flw (v_remg V g)) ∧ Gone V (v_remg V g) g wn := by
  obtain ⟨f8, f9, f10, fj⟩ := fd_rows (V := V) hg
  unfold v_remg
  rw [ga_in hg]
  by_cases r : V 9 g = -1
  · rw [if_pos r]
    obtain ⟨w, w1, w2, w3⟩ := h.ro hg (by omega) r
    have W : v_wo V g = w := by rw [h.wo hg (by omega), w2]
    rw [W]
    obtain ⟨g8, g9, g10, gj⟩ := fd_rows (V := v_od (up V 5 w (-1)) (o_lv (odp V) w)) hg
    have b9 : v_od (up V 5 w (-1)) (o_lv (odp V) w) 9 = V 9 := by rw [v_od_ne (by decide) (by decide), up_ne (by decide)]
    have b8 : v_od (up V 5 w (-1)) (o_lv (odp V) w) 8 = V 8 := by rw [v_od_ne (by decide) (by decide), up_ne (by decide)]
    have b10 : v_od (up V 5 w (-1)) (o_lv (odp V) w) 10 = V 10 := by rw [v_od_ne (by decide) (by decide), up_ne (by decide)]
    have F : v_fin (v_od (up V 5 w (-1)) (o_lv (odp V) w)) g (-1) = v_free (v_detach (v_od (up V 5 w (-1)) (o_lv (odp V) w)) g) g := by
      unfold v_fin
      rw [if_neg]
      unfold v_cc
      rw [if_pos rfl]
      decide
    rw [F]
    have e8 : ∀ i, v_free (v_detach (v_od (up V 5 w (-1)) (o_lv (odp V) w)) g) g 8 i = if i = g then 3 else V 8 i := fun i => by rw [g8, b8]
    have e9 : ∀ i, v_free (v_detach (v_od (up V 5 w (-1)) (o_lv (odp V) w)) g) g 9 i = V 9 i := fun i => by
      rw [g9, b9]
      by_cases e : i = g
      · rw [if_pos e, e, r]
      · rw [if_neg e]
    have e10 : ∀ i, v_free (v_detach (v_od (up V 5 w (-1)) (o_lv (odp V) w)) g) g 10 i = V 10 i := fun i => by rw [g10, b9, b10, if_neg (fun z => z.2.1 r)]
    have ej : ∀ j, j ≠ 5 → j ≠ 6 → j ≠ 7 → j ≠ 8 → j ≠ 9 → j ≠ 10 → v_free (v_detach (v_od (up V 5 w (-1)) (o_lv (odp V) w)) g) g j = V j := fun j h5 h6 h7 h8 h9 h10 => by
      rw [gj j h8 h9 h10, v_od_ne h6 h7, up_ne h5]
    have e5 : ∀ i, v_free (v_detach (v_od (up V 5 w (-1)) (o_lv (odp V) w)) g) g 5 i = if i = w then -1 else V 5 i := fun i => by
      rw [gj 5 (by decide) (by decide) (by decide), v_od_ne (by decide) (by decide), up5 w1]
    have eo : odp (v_free (v_detach (v_od (up V 5 w (-1)) (o_lv (odp V) w)) g) g) = o_lv (odp V) w := by
      refine Prod.ext ?_ ?_
      · show v_free (v_detach (v_od (up V 5 w (-1)) (o_lv (odp V) w)) g) g 6 1 = _
        rw [gj 6 (by decide) (by decide) (by decide)]
        rfl
      · show v_free (v_detach (v_od (up V 5 w (-1)) (o_lv (odp V) w)) g) g 7 = _
        rw [gj 7 (by decide) (by decide) (by decide)]
        rfl
    refine ⟨h.close hg hk r w1 w3 (fun i _ => e8 i) (fun i _ => e9 i) (fun i _ => e10 i) (fun i _ => by rw [ej 11 (by decide) (by decide) (by decide) (by decide) (by decide) (by decide)]) (fun i _ => e5 i), ?_, fun n hn => ?_, fun n hn q => ?_, fun n hn q q2 => ?_, fun v hv q => ?_, fun n hn q ne => ?_, ?_, ej 1 (by decide) (by decide) (by decide) (by decide) (by decide) (by decide), ej 2 (by decide) (by decide) (by decide) (by decide) (by decide) (by decide), ej 3 (by decide) (by decide) (by decide) (by decide) (by decide) (by decide), ej 4 (by decide) (by decide) (by decide) (by decide) (by decide) (by decide), ej 12 (by decide) (by decide) (by decide) (by decide) (by decide) (by decide), ej 13 (by decide) (by decide) (by decide) (by decide) (by decide) (by decide), ej 14 (by decide) (by decide) (by decide) (by decide) (by decide) (by decide), ej 15 (by decide) (by decide) (by decide) (by decide) (by decide) (by decide)⟩
    · rw [eo]
      have q' : flw (v_free (v_detach (v_od (up V 5 w (-1)) (o_lv (odp V) w)) g) g) w = false := by
        unfold flw
        rw [e5 w, if_pos rfl]
        simp
      have hm : ∀ i, i < 5 → i ≠ w → flw (v_free (v_detach (v_od (up V 5 w (-1)) (o_lv (odp V) w)) g) g) i = flw V i := fun i _ ne => by
        unfold flw
        rw [e5 i, if_neg ne]
      generalize flw (v_free (v_detach (v_od (up V 5 w (-1)) (o_lv (odp V) w)) g) g) = F at q' hm ⊢
      cases q : flw V w
      · rw [ho.lv_no q]
        exact ho.cg (fun i hi => by
          by_cases e : i = w
          · rw [e, q', q]
          · exact hm i hi e)
      · exact ho.lv w1 q q' hm
    · rw [e8 n]
      by_cases e : n = g
      · exact Or.inl (if_pos e)
      · exact Or.inr (if_neg e)
    · rw [e8 n]
      split
      · rfl
      · exact q
    · have ne : n ≠ g := fun z => q2 (by rw [z])
      exact ⟨by rw [e8 n, if_neg ne], e9 n, fun _ => ⟨e10 n, by rw [ej 11 (by decide) (by decide) (by decide) (by decide) (by decide) (by decide)]⟩⟩
    · rw [e5 v, if_neg (fun z => q (by rw [w2, z]))]
    · rw [e8 n, if_neg ne, q]
    · rw [e8 g, if_pos rfl]
  · rw [if_neg r]
    obtain ⟨s, s1, s2, s3, s4, s5⟩ := h.pa hg r
    rw [s2]
    have nsg : s ≠ g := fun z => by rw [z] at s3; omega
    obtain ⟨nu, c2⟩ := h.sp s1 s3
    have c2 := c2 rfl
    have b10 : ∀ i, i < 23 → i ≠ g → V 9 i ≠ -1 → v_free (v_detach V g) g 10 i = if V 9 i = s ∧ V 10 g < V 10 i then V 10 i - 1 else V 10 i := fun i hi ne q => by
      rw [f10 i, s2]
      by_cases e : V 9 i = s
      · have p1 := nu.1 i hi (by simp [e])
        have p2 : V 10 i ≠ V 10 g := fun z => ne (nu.2.2 i g hi hg (by simp [e]) (by simp [s2]) z)
        have p3 := nu.1 g hg (by simp [s2])
        have p4 := cnt_le (fun n => decide (V 9 n = (s : Int))) 23
        by_cases w : V 10 g < V 10 i
        · rw [if_pos ⟨hi, by omega, ne, e, by omega⟩, if_pos ⟨e, w⟩, wr_id (by omega) (by omega)]
        · rw [if_neg (fun z => by omega), if_neg (fun z => w z.2)]
      · rw [if_neg (fun z => e z.2.2.2.1), if_neg (fun z => e z.1)]
    have T1 := h.leave (V' := v_free (v_detach V g) g) hg hk s2 (fun i _ => f8 i) (fun i _ => f9 i) b10 (fun i _ => by rw [fj 11 (by decide) (by decide) (by decide)]) (fun w _ => by rw [fj 5 (by decide) (by decide) (by decide)])
    have cs : cnt (fun n => decide (V 9 n = (s : Int))) 23 = cnt (fun n => decide (v_free (v_detach V g) g 9 n = (s : Int))) 23 + 1 := cnt_one_more hg (fun i _ ne => by rw [f9 i, if_neg ne]) (by rw [f9 g, if_pos rfl, decide_eq_false_iff_not]; omega) (by simp [s2])
    have vcc : v_cc (v_free (v_detach V g) g) s = cnt (fun n => decide (v_free (v_detach V g) g 9 n = (s : Int))) 23 := by
      unfold v_cc
      rw [if_neg (by omega)]
    have od1 : odp (v_free (v_detach V g) g) = odp V := by
      unfold odp
      rw [fj 6 (by decide) (by decide) (by decide), fj 7 (by decide) (by decide) (by decide)]
    unfold v_fin
    rw [vcc]
    by_cases one : cnt (fun n => decide (v_free (v_detach V g) g 9 n = (s : Int))) 23 = 1
    · rw [if_pos one]
      have k1 : v_free (v_detach V g) g 8 s ≤ 1 := by rw [f8 s, if_neg nsg]; exact s3
      obtain ⟨m, m1, m2, m3, c8, c9, c10, c11, c5, cj⟩ := col_rows T1 s1 k1 one
      rw [m3]
      have T2 := T1.collapse s1 k1 m1 m2 one c8 c9 c10 c11 c5
      have ms : V 9 m = s := by
        rw [f9 m] at m2
        by_cases e : m = g
        · rw [if_pos e] at m2; omega
        · rw [if_neg e] at m2; exact m2
      have wm := (h.par m1 ms).2.2.2
      have V9s : v_free (v_detach V g) g 9 s = V 9 s := by rw [f9 s, if_neg nsg]
      refine ⟨T2.drop (fun t ht _ x _ => by simp at x), ?_, fun n hn => ?_, fun n hn q => ?_, fun n hn q q2 => ?_, fun v hv q => ?_, fun n hn q ne => ?_, ?_, ?_⟩
      · have od2 : odp (v_free (v_repl (v_detach (v_free (v_detach V g) g) m) s m) s) = odp V := by
          rw [← od1]
          unfold odp
          rw [cj 6 (by decide) (by decide) (by decide) (by decide) (by decide), cj 7 (by decide) (by decide) (by decide) (by decide) (by decide)]
        rw [od2]
        refine ho.cg (fun i hi => ?_)
        unfold flw
        rw [c5 i hi, fj 5 (by decide) (by decide) (by decide)]
        by_cases e : v_free (v_detach V g) g 9 s = -1 ∧ V 5 i = s
        · rw [if_pos e, e.2]
          have h1 : ¬ (m : Int) = -1 := by omega
          have h2 : ¬ (s : Int) = -1 := by omega
          simp [h1, h2]
        · rw [if_neg e]
      · rw [c8 n hn]
        by_cases e : n = s
        · exact Or.inl (if_pos e)
        · rw [if_neg e, f8 n]
          by_cases e2 : n = g
          · exact Or.inl (if_pos e2)
          · exact Or.inr (if_neg e2)
      · rw [c8 n hn, f8 n]
        split
        · rfl
        · split
          · rfl
          · exact q
      · have n1 : n ≠ g := fun z => q2 (by rw [z])
        have n2 : n ≠ s := fun z => q2 (by rw [z, s5])
        have n3 : n ≠ m := fun z => q2 (by rw [z, wm, s5])
        have e9 : v_free (v_repl (v_detach (v_free (v_detach V g) g) m) s m) s 9 n = V 9 n := by rw [c9 n hn, if_neg n2, if_neg n3, f9 n, if_neg n1]
        refine ⟨by rw [c8 n hn, if_neg n2, f8 n, if_neg n1], e9, fun y => ?_⟩
        have ns : V 9 n ≠ s := fun z => q2 (by rw [(h.par hn z).2.2.2, s5])
        exact ⟨by rw [c10 n hn (by rw [e9]; exact y), if_neg n3, b10 n hn n1 y, if_neg (fun z => ns z.1)], by rw [c11 n hn (by rw [e9]; exact y), if_neg n3, fj 11 (by decide) (by decide) (by decide)]⟩
      · rw [c5 v hv, fj 5 (by decide) (by decide) (by decide), if_neg]
        intro z
        rcases h.wi hv with a | ⟨k, k1, k2, k3, k4, k5⟩
        · have := z.2
          omega
        · have : k = s := by have := z.2; omega
          subst this
          exact q (by rw [s5, k5])
      · have n2 : n ≠ s := fun z => by rw [z] at q; omega
        rw [c8 n hn, if_neg n2, f8 n, if_neg ne, q]
      · rw [c8 g hg, if_neg (fun z => nsg z.symm), f8 g, if_pos rfl]
      · refine ⟨?_, ?_, ?_, ?_, ?_, ?_, ?_, ?_⟩ <;> rw [cj _ (by decide) (by decide) (by decide) (by decide) (by decide), fj _ (by decide) (by decide) (by decide)]
    · rw [if_neg one]
      refine ⟨T1.drop (fun t ht q x _ => ?_), ?_, fun n hn => ?_, fun n hn q => ?_, fun n hn q q2 => ?_, fun v hv q => by rw [fj 5 (by decide) (by decide) (by decide)], fun n hn q ne => ?_, ?_, ?_⟩
      · simp at x
        rw [x]
        omega
      · rw [od1]
        refine ho.cg (fun i hi => ?_)
        unfold flw
        rw [fj 5 (by decide) (by decide) (by decide)]
      · rw [f8 n]
        by_cases e2 : n = g
        · exact Or.inl (if_pos e2)
        · exact Or.inr (if_neg e2)
      · rw [f8 n]
        split
        · rfl
        · exact q
      · have n1 : n ≠ g := fun z => q2 (by rw [z])
        refine ⟨by rw [f8 n, if_neg n1], by rw [f9 n, if_neg n1], fun y => ?_⟩
        have ns : V 9 n ≠ s := fun z => q2 (by rw [(h.par hn z).2.2.2, s5])
        exact ⟨by rw [b10 n hn n1 y, if_neg (fun z => ns z.1)], by rw [fj 11 (by decide) (by decide) (by decide)]⟩
      · rw [f8 n, if_neg ne, q]
      · rw [f8 g, if_pos rfl]
      · refine ⟨?_, ?_, ?_, ?_, ?_, ?_, ?_, ?_⟩ <;> rw [fj _ (by decide) (by decide) (by decide)]
