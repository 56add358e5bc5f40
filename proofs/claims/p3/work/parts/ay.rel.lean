/-! THE RELATION: texts (6): the tree, both sides -/
section RAY
def Dd (X : Option (Int32 × Sg)) (s : Sg) (p1 : Nat) : Prop := ∃ s1, X = some (nI p1, s1) ∧ Fk s s1
def Lv (n : Nat) (c : Nat → Int32) (al : Nat → Bool) (X : Option (Int32 × Sg)) (s : Sg) (p1 m1 D : Nat) (cn : Nat → Nat) : Prop := ∃ s1 u1 k f1, X = Kont k f1 s1 ∧ Fk s s1 ∧ MS n c s1 p1 u1 D cn ∧ AL al m1 u1 ∧ 200 ≤ k + p1 ∧ 200 ≤ f1 + p1
def TS1 (n : Nat) (c : Nat → Int32) (al : Nat → Bool) (r : Nat → Int32) (rc : Sg → Nat → Int32 → Int32 → Int32 → Option (Bool × Sg)) (dep : Nat) : Prop := ∀ (sp w : Int32) σ p m, 4 * dep ≤ p → CS n c σ p m → m < 4096 → p ≤ n → ∃ ok σ1 p1 m1, rc σ 440 sp w (nI dep) = some (ok, σ1) ∧ CS n c σ1 p1 m1 ∧ m1 < 4096 ∧ Fc σ σ1 ∧ p ≤ p1 ∧ p1 ≤ n ∧ (ok = true → p < p1 ∧ (ltr n c p1 = false → ParT n c (decide (dep = 0)) sp.toInt w.toInt p m (pv σ 443) p1 m1 (pv σ1 443))) ∧ ∀ s u cn f, s.1 463 = r → MS n c s p u dep cn → AL al m u → 200 ≤ f + p → ((ok = false ∨ ltr n c p1 = true) → Dd (fX9_goes_27 462 f s 0 1) s p1) ∧ (ok = true → ltr n c p1 = false → Lv n c al (fX9_goes_27 462 f s 0 1) s p1 m1 dep (bump cn dep))
variable {n : Nat} {c : Nat → Int32} {σ s : Sg} {p m u D : Nat} {cn : Nat → Nat}
theorem MS.cg {cn' : Nat → Nat} (h : MS n c s p u D cn) (e : ∀ i, i < D → cn i = cn' i) : MS n c s p u D cn' := ⟨h.1, h.2.1, h.2.2.1, h.2.2.2.1, fun i hi => by rw [← e i hi]; exact h.2.2.2.2 i hi⟩
theorem Dd.tr {X : Option (Int32 × Sg)} {s0 : Sg} {q : Nat} (h : Dd X s q) (f : Fk s0 s) : Dd X s0 q := by
  obtain ⟨s1, a, b⟩ := h
  exact ⟨s1, a, f.tr b⟩
theorem Lv.tr {al : Nat → Bool} {X : Option (Int32 × Sg)} {s0 : Sg} {q : Nat} (h : Lv n c al X s q m D cn) (f : Fk s0 s) : Lv n c al X s0 q m D cn := by
  obtain ⟨s1, u1, k, f1, a, b, d⟩ := h
  exact ⟨s1, u1, k, f1, a, f.tr b, d⟩
theorem Lv.dead {al : Nat → Bool} {X : Option (Int32 × Sg)} (T : Tt n c) (h : Lv n c al X s p m D cn) (hp : p ≤ n) (l : ltr n c p = true) (h99 : D < 100) : Dd X s p := by
  have n120 := T.1
  obtain ⟨s1, u1, k, f1, a, b, d, e, k2, f2⟩ := h
  obtain ⟨k', rfl⟩ : ∃ k', k = k' + 1 := ⟨k - 1, by omega⟩
  obtain ⟨f', rfl⟩ : ∃ f', f1 = f' + 1 := ⟨f1 - 1, by omega⟩
  obtain ⟨q, hq, pn, eq⟩ := ltr_sp T l
  have ne : ∀ x : Int32, x.toInt < 97 → cdm n c p ≠ x := fun x hx z => by
    rw [(cd_in pn).2, eq] at z
    rw [← z, j_nI (by omega)] at hx
    omega
  by_cases z : D = 0
  · subst z
    obtain ⟨s2, g1, g2⟩ := (k_root d hp T.1 k' f').2 pn
    exact ⟨s2, a.trans g1, b.tr g2⟩
  · obtain ⟨s2, g1, g2⟩ := k_dead T d hp (by omega) h99 (ne 44 (by decide)) (Or.inl (ne 41 (by decide))) k' f'
    exact ⟨s2, a.trans g1, b.tr g2⟩
theorem w_ex (T : Tt n c) (h : CS n c σ p m) (p1 : 1 ≤ p) (hp : p ≤ n) (mt : MT n c s p) (w : s.1 462 16 = -1) : ∃ s7, fX9_readsWeight s 462 = some s7 ∧ (s7.1 462 16 = -1 ∨ ∃ q, q < 1000 ∧ s7.1 462 16 = nI q) := by
  have n120 := T.1
  obtain ⟨v, σ1, q, a1, a2, a3, a4, a5⟩ := sim_w T h p1 hp
  rcases a5 with ⟨_, _, a6⟩ | ⟨_, _, a7, a6⟩
  · obtain ⟨s1, b1, b2, b3⟩ := a6 s mt w
    exact ⟨s1, b1, Or.inr ⟨p, by omega, b3⟩⟩
  · obtain ⟨s1, b1, b2, b3, b4⟩ := a6 s mt w
    by_cases z : cdm n c q = 58
    · exact ⟨s1, b1, Or.inl (b3 z).2.1⟩
    · exact ⟨s1, b1, Or.inr ⟨q, by omega, b4 z⟩⟩
theorem g27_d {q f : Nat} {s0 : Sg} (hq : q < 1000) (w : s.1 462 16 = nI q) (hf : 0 < f) (k : Fk s0 s) : Dd (fX9_goes_27 462 f s 0 1) s0 q := by
  obtain ⟨f', rfl⟩ : ∃ f', f = f' + 1 := ⟨f - 1, by omega⟩
  exact ⟨s, g27_dead hq w f' 0 1, k⟩
theorem sim_kids (T : Tt n c) {al : Nat → Bool} {r : Nat → Int32} {rc : Sg → Nat → Int32 → Int32 → Int32 → Option (Bool × Sg)} {dep : Nat} (IH : TS1 n c al r rc (dep + 1)) (hdep : dep ≤ 30) (sp : Int32) : ∀ (fuel : Nat) (σ : Sg) (p m j : Nat), CS n c σ p m → m < 4096 → p ≤ n → n < p + fuel → 4 * dep + 2 ≤ p → j + 2 ≤ p → ∃ ok σ1 p1 m1, fX6_passChildren_13 440 rc fuel σ sp (nI dep) (nI (j + 1)) = some (ok, σ1) ∧ CS n c σ1 p1 m1 ∧ m1 < 4096 ∧ Fc σ σ1 ∧ p ≤ p1 ∧ p1 ≤ n ∧ (ok = true → ∃ p2, p1 = p2 + 1 ∧ p < p2 ∧ cdm n c p2 = 41 ∧ ParK n c sp.toInt j p m (pv σ 443) p2 m1 (pv σ1 443)) ∧ ∀ s u cn f s6, s.1 463 = r → MS n c s p u (dep + 1) cn → cn dep = j → AL al m u → 200 ≤ f + p → fX9_readsWeight s 462 = some s6 → (ok = false → Dd (fX9_goes_27 462 f s6 0 1) s p1) ∧ (ok = true → Lv n c al (fX9_goes_27 462 f s6 0 1) s p1 m1 dep (bump cn dep)) := by
  have n120 := T.1
  intro fuel
  induction fuel with
  | zero =>
    intro σ p m j h hm hp hf
    omega
  | succ fuel ih =>
    intro σ p m j h hm hp hf hp4 hj
    obtain ⟨v, σ1, q, a1, a2, a3, a4, a5⟩ := sim_w T h (by omega) hp
    have g120 : ¬ (120 : Int32) < nI (j + 1) := by
      rw [j_lt_nI (by omega)]
      have : (120 : Int32).toInt = 120 := rfl
      omega
    have start : fX6_passChildren_13 440 rc (fuel + 1) σ sp (nI dep) (nI (j + 1)) = if v = 0 then some (false, σ1) else (fX6_passSign σ1 440 58).bind fun r3 => if r3.1 = true then (rc r3.2 440 sp v (nI dep + 1)).bind fun r4 => if r4.1 = true then (if nI (j + 1) ≤ 1 then fX6_passChildren_70 440 rc (fX6_passChildren_13 440 rc fuel) r4.2 sp (nI dep) (nI (j + 1)) else (fX6_passSign r4.2 440 41).bind fun r5 => if r5.1 = true then some (true, r5.2) else fX6_passChildren_70 440 rc (fX6_passChildren_13 440 rc fuel) r5.2 sp (nI dep) (nI (j + 1))) else some (false, r4.2) else some (false, r3.2) := by
      rw [fX6_passChildren_13, if_neg g120, a1, j_b]
    rcases a5 with ⟨v0, qp, a6⟩ | ⟨vr, pq, qn, a6⟩
    · refine ⟨false, σ1, p, m, ?_, ?_, hm, a3, Nat.le_refl _, hp, fun z => by (cases z), fun s u cn f s6 hr ms hc hal hf6 h6 => ⟨fun _ => ?_, fun z => by cases z⟩⟩
      · rw [start, if_pos v0]
      · rw [qp] at a2; exact a2
      · obtain ⟨s1, b1, b2, b3⟩ := a6 s ms.1 ms.2.1
        have : s1 = s6 := Option.some.inj (b1.symm.trans h6)
        subst this
        exact g27_d (by omega) b3 (by omega) (Fk.fz b2)
    · have v0 : v ≠ 0 := fun z => by rw [z, jz0] at vr; omega
      rw [if_neg v0] at start
      have sg := t_sign a2 n120 qn 58
      by_cases z58 : cdm n c q = 58
      · have q1 : q < n := cd_lt (by decide) z58
        rw [sg.1 ((cd_c (by decide)).mpr z58), j_b, if_pos rfl] at start
        dsimp only at start
        rw [j_s] at start
        obtain ⟨w2, hw2⟩ : ∃ w2 : Sg, w2 = su σ1 440 2 (nI (q + 1)) := ⟨_, rfl⟩
        have c2 : CS n c w2 (q + 1) m := by rw [hw2]; exact a2.at _
        have f2 : Fc σ w2 := by rw [hw2]; exact a3.tr Fc.st
        have v2 : pv w2 443 = pv σ 443 := by rw [hw2, p43]; exact a4
        rw [← hw2] at start
        obtain ⟨ok3, σ3, p3, m3, b1, b2, b3, b4, b5, b6, b7, b8⟩ := IH sp v w2 (q + 1) m (by omega) c2 hm (by omega)
        rw [b1, j_b] at start
        dsimp only at start
        -- the weight is there
        have wt : Wt n c p v.toInt (q + 1) := ⟨vr, by omega, by omega, fun s mt w => by
          obtain ⟨s1, d1, d2, d3, _⟩ := a6 s mt w
          have d3 := d3 z58
          exact ⟨s1, d1, d2, d3.1, d3.2.1, by rw [d3.2.2, j_oIt]⟩⟩
        have ref : ∀ s u cn f s6, s.1 463 = r → MS n c s p u (dep + 1) cn → AL al m u → 200 ≤ f + p → fX9_readsWeight s 462 = some s6 → Fk s s6 ∧ ((ok3 = false ∨ ltr n c p3 = true) → Dd (fX9_goes_27 462 f s6 0 1) s p3) ∧ (ok3 = true → ltr n c p3 = false → Lv n c al (fX9_goes_27 462 f s6 0 1) s p3 m3 (dep + 1) (bump cn (dep + 1))) := fun s u cn f s6 hr ms hal hf6 h6 => by
          obtain ⟨s1, d1, d2, d3, _⟩ := a6 s ms.1 ms.2.1
          have d3 := d3 z58
          have : s1 = s6 := Option.some.inj (d1.symm.trans h6)
          subst this
          have fk := Fk.fz d2
          have := b8 s1 u cn f (by rw [d2.2.1 463 (by omega)]; exact hr) (ms.we d2 d3.1 d3.2.1) hal (by omega)
          exact ⟨fk, fun y => (this.1 y).tr fk, fun y1 y2 => (this.2 y1 y2).tr fk⟩
        cases hok : ok3
        · subst hok
          rw [if_neg Bool.false_ne_true] at start
          exact ⟨false, σ3, p3, m3, start, b2, b3, f2.tr b4, by omega, b6, fun z => by (cases z), fun s u cn f s6 hr ms hc hal hf6 h6 => ⟨fun _ => (ref s u cn f s6 hr ms hal hf6 h6).2.1 (Or.inl rfl), fun z => by cases z⟩⟩
        · subst hok
          have b7 := b7 rfl
          rw [if_pos rfl] at start
          have l1 : nI (j + 1) ≤ 1 ↔ j = 0 := by
            rw [j_le, j_nI (by omega), jz1]
            omega
          have s41 := t_sign b2 n120 b6 41
          have s44 := t_sign b2 n120 b6 44
          -- it stops there
          have stop : cdm n c p3 ≠ 44 → (cdm n c p3 ≠ 41 ∨ j = 0) → fX6_passChildren_13 440 rc (fuel + 1) σ sp (nI dep) (nI (j + 1)) = some (false, σ3) := fun n44 n41 => by
            have e70 : fX6_passChildren_70 440 rc (fX6_passChildren_13 440 rc fuel) σ3 sp (nI dep) (nI (j + 1)) = some (false, σ3) := by
              unfold fX6_passChildren_70
              rw [s44.2 (fun y => n44 ((cd_c (by decide)).mp y)), j_b, if_neg (show ¬ ((false, σ3) : Bool × Sg).1 = true from Bool.false_ne_true)]
            rw [start]
            by_cases j0 : j = 0
            · rw [if_pos (l1.mpr j0)]
              exact e70
            · have n41' : cdm n c p3 ≠ 41 := by
                rcases n41 with y | y
                · exact y
                · exact absurd y j0
              rw [if_neg (fun y => j0 (l1.mp y)), s41.2 (fun y => n41' ((cd_c (by decide)).mp y)), j_b, if_neg (show ¬ ((false, σ3) : Bool × Sg).1 = true from Bool.false_ne_true)]
              exact e70
          cases hl : ltr n c p3
          · have par := b7.2 hl
            rw [v2, decide_eq_false (by omega)] at par
            by_cases z44 : cdm n c p3 = 44
            · have p3n : p3 < n := cd_lt (by decide) z44
              obtain ⟨w4, hw4⟩ : ∃ w4 : Sg, w4 = su σ3 440 2 (nI (p3 + 1)) := ⟨_, rfl⟩
              have c4 : CS n c w4 (p3 + 1) m3 := by rw [hw4]; exact b2.at _
              have v4 : pv w4 443 = pv σ3 443 := by rw [hw4, p43]
              have go : fX6_passChildren_13 440 rc (fuel + 1) σ sp (nI dep) (nI (j + 1)) = fX6_passChildren_13 440 rc fuel w4 sp (nI dep) (nI (j + 1 + 1)) := by
                have e70 : fX6_passChildren_70 440 rc (fX6_passChildren_13 440 rc fuel) σ3 sp (nI dep) (nI (j + 1)) = fX6_passChildren_13 440 rc fuel w4 sp (nI dep) (nI (j + 1 + 1)) := by
                  unfold fX6_passChildren_70
                  rw [s44.1 ((cd_c (by decide)).mpr z44), j_b, if_pos rfl, j_s, hw4]
                rw [start]
                by_cases j0 : j = 0
                · rw [if_pos (l1.mpr j0)]
                  exact e70
                · have n41' : cdm n c p3 ≠ 41 := by rw [z44]; decide
                  rw [if_neg (fun y => j0 (l1.mp y)), s41.2 (fun y => n41' ((cd_c (by decide)).mp y)), j_b, if_neg (show ¬ ((false, σ3) : Bool × Sg).1 = true from Bool.false_ne_true)]
                  exact e70
              obtain ⟨ok5, σ5, p5, m5, d1, d2, d3, d4, d5, d6, d7, d8⟩ := ih w4 (p3 + 1) m3 (j + 1) c4 b3 (by omega) (by omega) (by omega) (by omega)
              refine ⟨ok5, σ5, p5, m5, go.trans d1, d2, d3, ((f2.tr b4).tr (by rw [hw4]; exact Fc.st)).tr d4, by omega, d6, fun y => ?_, fun s u cn f s6 hr ms hc hal hf6 h6 => ?_⟩
              · obtain ⟨p2, e1, e2, e3, e4⟩ := d7 y
                rw [v4] at e4
                exact ⟨p2, e1, by omega, e3, par_clo.2.2.1 _ _ _ _ _ _ _ _ _ _ _ _ _ wt par z44 e4⟩
              · obtain ⟨fk, _, lv⟩ := ref s u cn f s6 hr ms hal hf6 h6
                obtain ⟨s3, u3, k, f1, g1, g2, g3, g4, g5, g6⟩ := lv rfl hl
                obtain ⟨k', rfl⟩ : ∃ k', k = k' + 1 := ⟨k - 1, by omega⟩
                obtain ⟨f', rfl⟩ : ∃ f', f1 = f' + 1 := ⟨f1 - 1, by omega⟩
                have ms4 := g3.at (p3 + 1)
                obtain ⟨s7, i1, i2⟩ := w_ex T c4 (by omega) (by omega) ms4.1 ms4.2.1
                have kc := k_comma T g3 (by omega) (by omega) (by omega) z44 k' f' i1 i2
                have f34 : Fk s3 (su s3 462 15 (nI (p3 + 1))) := Fk.st (by omega)
                have := d8 (su s3 462 15 (nI (p3 + 1))) u3 (bump cn (dep + 1)) (f' + 1) s7 (by rw [(g2.tr f34).2.1 463 (by omega) (by omega) (by omega) (by omega)]; exact hr) ms4 (by unfold bump; rw [if_pos rfl, hc]) g4 (by omega) i1
                rw [g1, kc]
                refine ⟨fun y => (this.1 y).tr (g2.tr f34), fun y => ?_⟩
                obtain ⟨s8, u8, k8, f8, j1, j2, j3, j4⟩ := (this.2 y).tr (g2.tr f34)
                exact ⟨s8, u8, k8, f8, j1, j2, j3.cg (fun i hi => by unfold bump; rw [if_neg (show ¬ i + 1 = dep + 1 by omega)]), j4⟩
            · by_cases z41 : cdm n c p3 = 41 ∧ j ≠ 0
              · have p3n : p3 < n := cd_lt (by decide) z41.1
                refine ⟨true, su σ3 440 2 (nI (p3 + 1)), p3 + 1, m3, ?_, b2.at _, b3, (f2.tr b4).tr Fc.st, by omega, by omega, fun _ => ⟨p3, rfl, by omega, z41.1, ?_⟩, fun s u cn f s6 hr ms hc hal hf6 h6 => ⟨fun z => by (cases z), fun _ => ?_⟩⟩
                · rw [start, if_neg (fun y => z41.2 (l1.mp y)), s41.1 ((cd_c (by decide)).mpr z41.1), j_b, if_pos rfl]
                · rw [p43]
                  exact par_clo.2.2.2 _ _ _ _ _ _ _ _ _ _ (by omega) wt par z41.1
                · obtain ⟨fk, _, lv⟩ := ref s u cn f s6 hr ms hal hf6 h6
                  obtain ⟨s3, u3, k, f1, g1, g2, g3, g4, g5, g6⟩ := lv rfl hl
                  obtain ⟨k', rfl⟩ : ∃ k', k = k' + 1 := ⟨k - 1, by omega⟩
                  have cb : bump cn (dep + 1) dep = j + 1 := by unfold bump; rw [if_pos rfl, hc]
                  obtain ⟨s4, i1, i2, i3⟩ := k_close T g3 (by omega) (by omega) (by omega) z41.1 (by show 2 ≤ bump cn (dep + 1) dep; omega) (by show bump cn (dep + 1) dep < 1000; omega) k' f1
                  exact ⟨s4, u3, k', f1, g1.trans i1, g2.tr i2, i3.cg (fun i hi => by
                    show bump (bump cn (dep + 1)) dep i = bump cn dep i
                    unfold bump
                    have hi : i < dep := hi
                    rw [if_neg (show ¬ i + 1 = dep + 1 by omega)]), g4, by omega, by omega⟩
              · have n41 : cdm n c p3 ≠ 41 ∨ j = 0 := by
                  by_cases y : cdm n c p3 = 41
                  · exact Or.inr (Classical.byContradiction (fun w => z41 ⟨y, w⟩))
                  · exact Or.inl y
                refine ⟨false, σ3, p3, m3, stop z44 n41, b2, b3, f2.tr b4, by omega, b6, fun z => by (cases z), fun s u cn f s6 hr ms hc hal hf6 h6 => ⟨fun _ => ?_, fun z => by cases z⟩⟩
                obtain ⟨fk, _, lv⟩ := ref s u cn f s6 hr ms hal hf6 h6
                obtain ⟨s3, u3, k, f1, g1, g2, g3, g4, g5, g6⟩ := lv rfl hl
                obtain ⟨k', rfl⟩ : ∃ k', k = k' + 1 := ⟨k - 1, by omega⟩
                obtain ⟨f', rfl⟩ : ∃ f', f1 = f' + 1 := ⟨f1 - 1, by omega⟩
                obtain ⟨s4, i1, i2⟩ := k_dead T g3 b6 (by omega) (by omega) z44 (by
                  rcases n41 with y | y
                  · exact Or.inl y
                  · right
                    show bump cn (dep + 1) dep ≤ 1
                    unfold bump
                    rw [if_pos rfl, hc]
                    omega) k' f'
                exact ⟨s4, g1.trans i1, g2.tr i2⟩
          · obtain ⟨qq, hqq, pn, eqq⟩ := ltr_sp T hl
            have ne : ∀ x : Int32, x.toInt < 97 → cdm n c p3 ≠ x := fun x hx z => by
              rw [(cd_in pn).2, eqq] at z
              rw [← z, j_nI (by omega)] at hx
              omega
            exact ⟨false, σ3, p3, m3, stop (ne 44 (by decide)) (Or.inl (ne 41 (by decide))), b2, b3, f2.tr b4, by omega, b6, fun z => by (cases z), fun s u cn f s6 hr ms hc hal hf6 h6 => ⟨fun _ => (ref s u cn f s6 hr ms hal hf6 h6).2.1 (Or.inr hl), fun z => by cases z⟩⟩
      · rw [sg.2 (fun y => z58 ((cd_c (by decide)).mp y)), j_b, if_neg (show ¬ ((false, σ1) : Bool × Sg).1 = true from Bool.false_ne_true)] at start
        refine ⟨false, σ1, q, m, start, a2, hm, a3, by omega, qn, fun z => by (cases z), fun s u cn f s6 hr ms hc hal hf6 h6 => ⟨fun _ => ?_, fun z => by cases z⟩⟩
        obtain ⟨s1, d1, d2, d3, d4⟩ := a6 s ms.1 ms.2.1
        have : s1 = s6 := Option.some.inj (d1.symm.trans h6)
        subst this
        exact g27_d (by omega) (d4 z58) (by omega) (Fk.fz d2)
end RAY
