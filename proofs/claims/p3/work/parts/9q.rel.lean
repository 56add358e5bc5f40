/-! THE RELATION: the reference's plan (17): the plan -/
section MQ9
variable {σ : Sg} {V : VW} {d : Nat → Nat} {wn : Nat → Int} {X Y : Nat → Bool} {mw mh : Nat → Int}
/-- rows of nodes that lie within -/
def Bx (P : VW) (n : Nat) : Prop := (0 ≤ P 6 n ∧ P 6 n ≤ 400) ∧ 0 ≤ P 7 n ∧ P 7 n ≤ 400
theorem EM.ls {P : VW} (t : Tree V d wn Y) (hE : ∀ n, n < 23 → V 8 n ≠ 3 → EM V mw mh P n) (hw : ∀ p, p < 12 → 0 ≤ mw p ∧ mw p ≤ 40) (hh : ∀ p, p < 12 → 0 ≤ mh p ∧ mh p ≤ 40) {n : Nat} (hn : n < 23) (hu : V 8 n ≠ 3) (q : P 1 n = 1) (i : Nat) (hi : i = 2 ∨ i = 3) : 0 ≤ P i n ∧ P i n ≤ 965 := by
  have a := bdA (A := fun n => V 8 n ≠ 3) (P := P) t (fun c s hc _ e => t.us hc (by omega)) (fun n hn hu k => (hE n hn hu).1 k) (fun n hn hu k => (hE n hn hu).2 k) hw hh 22 n (by omega) hn hu hu q i hi
  have b := gl_pos hn hu
  omega
theorem m_lays135 (h : VM (mv (σ.1 463)) V X) (t : Tree V d wn Y) (hw : ∀ p, p < 12 → 0 ≤ mw p ∧ mw p ≤ 40) (hh : ∀ p, p < 12 → 0 ≤ mh p ∧ mh p ≤ 40) (h66 : ∀ n, n < 23 → V 8 n ≠ 3 → σ.1 466 n = nI (dq V n)) (hE : ∀ n, n < 23 → V 8 n ≠ 3 → EM V mw mh (mq σ) n) {D : Nat} (hD : D ≤ 23) (hB : ∀ n, n < 23 → V 8 n ≠ 3 → dq V n ≤ D → mq σ 1 n = 1 → Bx (mq σ) n) (hA : ∀ n, n < 23 → V 8 n ≠ 3 → dq V n < D → EA V (mq σ) n) (K : Sg → Int32 → Option Sg) : ∃ σ', fX9_lays_135 462 K FU σ (nI D) 0 = K σ' (nI (D + 1)) ∧ Fy σ σ' ∧ σ'.1 466 = σ.1 466 ∧ (∀ j c, c < 23 → (j ≤ 3 ∨ V 9 c = -1 ∨ dq V c ≤ D) → mq σ' j c = mq σ j c) ∧ ∀ n, n < 23 → V 8 n ≠ 3 → dq V n ≤ D → EA V (mq σ') n := by
  refine lp (F := fun f (s : Sg × Int32) => fX9_lays_135 462 K f s.1 (nI D) s.2) (Q := fun o => ∃ σ', o = K σ' (nI (D + 1)) ∧ Fy σ σ' ∧ σ'.1 466 = σ.1 466 ∧ (∀ j c, c < 23 → (j ≤ 3 ∨ V 9 c = -1 ∨ dq V c ≤ D) → mq σ' j c = mq σ j c) ∧ ∀ n, n < 23 → V 8 n ≠ 3 → dq V n ≤ D → EA V (mq σ') n) (fun i s => s.2 = nI i ∧ Fy σ s.1 ∧ s.1.1 466 = σ.1 466 ∧ (∀ j c, c < 23 → (j ≤ 3 ∨ V 9 c = -1 ∨ dq V c ≤ D) → mq s.1 j c = mq σ j c) ∧ ∀ n, n < 23 → V 8 n ≠ 3 → (dq V n < D ∨ (dq V n = D ∧ n < i)) → EA V (mq s.1) n) 24 ?_ ?_ 24 0 FU (σ, 0) rfl (by decide) ⟨rfl, Fy.rf, rfl, fun _ _ _ _ => rfl, fun n hn hu z => hA n hn hu (by omega)⟩
  · rintro f i ⟨s, l⟩ hi ⟨rfl, hF, h6, hR, hS⟩
    simp only at hF h6 hR hS
    have ei : (nI i).toInt = i := j_nI (by omega)
    have nle : ¬ (24 : Int32) ≤ nI i := n_ge 24 (m := 24) rfl hi (by decide)
    have cki : ck (nI i) 24 := j_ckn hi (by decide)
    have ecl : (nI i).toNatClampNeg = i := j_cl _ (by omega)
    have e63 : s.1 463 = σ.1 463 := hF.2.1 463 (by omega) (by omega)
    have h' : VM (mv (s.1 463)) V X := by rw [e63]; exact h
    -- nothing to do
    have skip : (i < 23 → V 8 i ≠ 3 → dq V i = D → EA V (mq s) i) → ∃ s' : Sg × Int32, (s'.2 = nI (i + 1) ∧ Fy σ s'.1 ∧ s'.1.1 466 = σ.1 466 ∧ (∀ j c, c < 23 → (j ≤ 3 ∨ V 9 c = -1 ∨ dq V c ≤ D) → mq s'.1 j c = mq σ j c) ∧ ∀ n, n < 23 → V 8 n ≠ 3 → (dq V n < D ∨ (dq V n = D ∧ n < i + 1)) → EA V (mq s'.1) n) ∧ fX9_lays_175 462 K (fX9_lays_135 462 K f) s (nI D) (nI i) = fX9_lays_135 462 K f s'.1 (nI D) s'.2 := fun z => by
      unfold fX9_lays_175
      rw [j_s]
      refine ⟨(s, nI (i + 1)), ⟨rfl, hF, h6, hR, fun n hn hu y => ?_⟩, rfl⟩
      by_cases q : n = i
      · subst q
        rcases y with y | y
        · exact hS n hn hu (Or.inl y)
        · exact z hn hu y.1
      · exact hS n hn hu (by omega)
    show ∃ s' : Sg × Int32, _ ∧ fX9_lays_135 462 K (f + 1) s (nI D) (nI i) = _
    rw [fX9_lays_135, if_neg nle, m_i0 ei hi, j_b]
    by_cases q1 : i < 23 ∧ V 8 i ≤ 1
    · obtain ⟨i23, k1⟩ := q1
      have hu : V 8 i ≠ 3 := by omega
      have u1 : oI (mv (s.1 463) 0 i) = 1 := by rw [(h'.k1 i23 k1).1]; rfl
      rw [if_pos u1, if_pos cki]
      have s4 : s.1 (462 + 4) (nI i).toNatClampNeg = nI (dq V i) := by
        rw [ecl]
        show s.1 466 i = _
        rw [h6]
        exact h66 i i23 hu
      have dq22 := (t.dqs i23 hu).1
      rw [s4]
      by_cases q2 : dq V i = D
      · rw [if_pos (by rw [q2]), if_pos cki]
        have s5 : s.1 (462 + 5) (nI i).toNatClampNeg = s.1 467 i := by rw [ecl]
        have ES : ∀ n, n < 23 → V 8 n ≠ 3 → EM V mw mh (mq s) n := fun n hn hu => (hE n hn hu).cg t hn (fun j c hj hc _ => hR j c hc (Or.inl hj))
        have b01 := (ES i i23 hu).b01 (Or.inr k1)
        rw [mq1 (by omega)] at b01
        by_cases q3 : mq s 1 i = 1
        · have n5 : ¬ s.1 (462 + 5) (nI i).toNatClampNeg = 0 := fun z => by
            rw [s5] at z
            rw [mq1 (by omega), z, jz0] at q3
            omega
          rw [if_neg n5]
          have mem := fun c => t.pls_mem (P := mq s) i23 k1 (c := c)
          have LTi := (ES i i23 hu).2 k1
          have ne : pls V (mq s) i ≠ [] := fun z => by
            obtain ⟨c, hc, e, p⟩ := LTi.2.1.mp q3
            have := (mem c).mpr ⟨hc, e, p⟩
            rw [z] at this
            cases this
          have BX : Bx (mq s) i := by
            have y := hR 1 i i23 (Or.inl (by omega))
            have := hB i i23 hu (by omega) (by rw [← y]; exact q3)
            unfold Bx
            rw [hR 6 i i23 (Or.inr (Or.inr (by omega))), hR 7 i i23 (Or.inr (Or.inr (by omega)))]
            exact this
          have dd := (t.drs i23 k1).1
          obtain ⟨σ1, a1, F1, r1, e6, la⟩ := m_laysChildren (σ := s) h' t i23 k1 (fun c hc e => (ES c hc (t.us hc (by omega))).b01 (by
            have uc := t.us hc (show V 9 c ≠ -1 by omega)
            have kc := t.ki hc
            omega)) (fun c hc => EM.ls t ES hw hh ((mem c).mp hc).1 (t.us ((mem c).mp hc).1 (by have := ((mem c).mp hc).2.1; omega)) ((mem c).mp hc).2.2 _ (by omega)) ne (by
            have z : dr V i = 0 ∨ dr V i = 1 := by omega
            rcases z with z | z
            · rw [z]; exact BX.1
            · rw [z]; exact BX.2)
          rw [a1, j_b]
          unfold fX9_lays_175
          rw [j_s]
          have np : ∀ c, c < 23 → dq V c ≤ D → ¬ c ∈ pls V (mq s) i := fun c hc hd z => by
            have := t.dqc hc ((mem c).mp z).2.1
            omega
          refine ⟨(σ1, nI (i + 1)), ⟨rfl, hF.tr F1, e6.trans h6, fun j c hc y => ?_, fun n hn hu' y => ?_⟩, rfl⟩
          · rw [r1 j c (by omega) (by
              rcases y with y | y | y
              · exact Or.inl y
              · exact Or.inr (fun z => by have := ((mem c).mp z).2.1; omega)
              · exact Or.inr (np c hc y))]
            exact hR j c hc y
          · by_cases q : n = i
            · subst q
              exact fun _ _ => la
            · refine (hS n hn hu' (by omega)).cg t hn (fun j c hj hc z => r1 j c (by omega) (Or.inr (fun w => ?_)))
              rcases z with z | z
              · exact np c hc (by rw [z]; omega) w
              · have := ((mem c).mp w).2.1
                omega
        · have z5 : s.1 (462 + 5) (nI i).toNatClampNeg = 0 := by
            rw [s5]
            refine j_eq.mpr ?_
            rw [mq1 (by omega)] at q3
            rw [jz0]
            omega
          rw [if_pos z5]
          exact skip (fun _ _ _ _ p => absurd p q3)
      · rw [if_neg (fun z => q2 ((j_inj (by omega) (by omega)).mp z))]
        exact skip (fun _ _ z => absurd z q2)
    · have u1 : ¬ oI (mv (s.1 463) 0 i) = 1 := fun z => by
        rw [j_eq, t_mv, jz1] at z
        by_cases y : i < 23
        · have kr := t.ki y
          have : V 8 i = 2 ∨ V 8 i = 3 := by omega
          rcases this with w | w
          · rw [h'.k2 y w] at z; omega
          · rw [h'.k3 y w] at z; omega
        · have : i = 23 := by omega
          rw [this, h'.l] at z
          omega
      rw [if_neg u1]
      exact skip (fun hi2 _ _ k => absurd ⟨hi2, k⟩ q1)
  · rintro f ⟨s, l⟩ ⟨rfl, hF, h6, hR, hS⟩
    simp only at hF h6 hR hS
    show ∃ σ', fX9_lays_135 462 K (f + 1) s (nI D) (nI 24) = _ ∧ _
    rw [fX9_lays_135, if_pos (n_le 24 (m := 24) rfl (by decide)), j_s]
    exact ⟨s, rfl, hF, h6, hR, fun n hn hu z => hS n hn hu (by omega)⟩
theorem m_lays127 (h : VM (mv (σ.1 463)) V X) (t : Tree V d wn Y) (ge : Geo V) (hw : ∀ p, p < 12 → 0 ≤ mw p ∧ mw p ≤ 40) (hh : ∀ p, p < 12 → 0 ≤ mh p ∧ mh p ≤ 40) (h66 : ∀ n, n < 23 → V 8 n ≠ 3 → σ.1 466 n = nI (dq V n)) (hE : ∀ n, n < 23 → V 8 n ≠ 3 → EM V mw mh (mq σ) n) (hL : LR V (mq σ)) : ∃ σ', fX9_lays_127 462 FU σ 0 = some σ' ∧ Fy σ σ' ∧ Lay V mw mh (mq σ') := by
  refine lp (F := fun f (s : Sg × Int32) => fX9_lays_127 462 f s.1 s.2) (Q := fun o => ∃ σ', o = some σ' ∧ Fy σ σ' ∧ Lay V mw mh (mq σ')) (fun i s => s.2 = nI i ∧ Fy σ s.1 ∧ s.1.1 466 = σ.1 466 ∧ (∀ j c, c < 23 → (j ≤ 3 ∨ V 9 c = -1) → mq s.1 j c = mq σ j c) ∧ (∀ n, n < 23 → V 8 n ≠ 3 → dq V n ≤ i → mq s.1 1 n = 1 → Bx (mq s.1) n) ∧ ∀ n, n < 23 → V 8 n ≠ 3 → dq V n < i → EA V (mq s.1) n) 24 ?_ ?_ 24 0 FU (σ, 0) rfl (by decide) ⟨rfl, Fy.rf, rfl, fun _ _ _ _ => rfl, fun n hn hu hd p => ?_, fun n hn hu hd => absurd hd (by omega)⟩
  · rintro f i ⟨s, l⟩ hi ⟨rfl, hF, h6, hR, hB, hA⟩
    simp only at hF h6 hR hB hA
    have nle : ¬ (24 : Int32) ≤ nI i := n_ge 24 (m := 24) rfl hi (by decide)
    have e63 : s.1 463 = σ.1 463 := hF.2.1 463 (by omega) (by omega)
    have ES : ∀ n, n < 23 → V 8 n ≠ 3 → EM V mw mh (mq s) n := fun n hn hu => (hE n hn hu).cg t hn (fun j c hj hc _ => hR j c hc (Or.inl hj))
    obtain ⟨σ1, a1, F1, e6, r1, A1⟩ := m_lays135 (σ := s) (X := X) (by rw [e63]; exact h) t hw hh (by rw [h6]; exact h66) ES (show i ≤ 23 by omega) hB hA (fX9_lays_127 462 f)
    show ∃ s' : Sg × Int32, _ ∧ fX9_lays_127 462 (f + 1) s (nI i) = _
    rw [fX9_lays_127, if_neg nle, a1]
    refine ⟨(σ1, nI (i + 1)), ⟨rfl, hF.tr F1, e6.trans h6, fun j c hc y => ?_, fun n hn hu hd p => ?_, fun n hn hu hd => A1 n hn hu (by omega)⟩, rfl⟩
    · rw [r1 j c hc (by omega)]
      exact hR j c hc y
    · have p : mq σ1 1 n = 1 := p
      have p' : mq s 1 n = 1 := by rw [← r1 1 n hn (Or.inl (by omega))]; exact p
      by_cases q : dq V n ≤ i
      · unfold Bx
        rw [r1 6 n hn (Or.inr (Or.inr q)), r1 7 n hn (Or.inr (Or.inr q))]
        exact hB n hn hu q p'
      · by_cases q9 : V 9 n = -1
        · have := t.dqr hn q9
          omega
        · obtain ⟨u, hu23, e, ku, -, -⟩ := t.pa hn q9
          have du := t.dqc hn e
          have uu : V 8 u ≠ 3 := by omega
          have pu : mq s 1 u = 1 := ((ES u hu23 uu).2 ku).2.1.mpr ⟨n, hn, e, p'⟩
          have pu1 : mq σ1 1 u = 1 := by rw [r1 1 u hu23 (Or.inl (by omega))]; exact pu
          have la := A1 u hu23 uu (by omega) ku pu1
          have np : n ∈ pls V (mq σ1) u := (t.pls_mem hu23 ku).mpr ⟨hn, e, p⟩
          obtain ⟨a, ga⟩ := List.mem_iff_getElem?.mp np
          obtain ⟨w1, w2, -, -⟩ := la a n ga
          have bu : Bx (mq σ1) u := by
            unfold Bx
            rw [r1 6 u hu23 (Or.inr (Or.inr (by omega))), r1 7 u hu23 (Or.inr (Or.inr (by omega)))]
            exact hB u hu23 uu (by omega) pu
          obtain ⟨d1, d2⟩ := t.drs hu23 ku
          have nd := t.pls_nd (P := mq σ1) hu23 ku
          have len := t.pls_len (P := mq σ1) hu23 ku
          have memu := fun c => t.pls_mem (P := mq σ1) hu23 ku (c := c)
          have E1 : ∀ n, n < 23 → V 8 n ≠ 3 → EM V mw mh (mq σ1) n := fun n hn hu => (ES n hn hu).cg t hn (fun j c hj hc _ => r1 j c hc (Or.inl hj))
          have lmv : ∀ f c, c ∈ pls V (mq σ1) u → lm (pls V (mq σ1) u) f c = f c := fun f c hc => if_pos hc
          have z : dr V u = 0 ∨ dr V u = 1 := by omega
          have rmB : 0 ≤ lrm V (mq σ1) u ∧ lrm V (mq σ1) u ≤ 400 := by
            have : 0 ≤ mq σ1 (6 + dr V u) u ∧ mq σ1 (6 + dr V u) u ≤ 400 := by
              rcases z with z | z
              · rw [z]; exact bu.1
              · rw [z]; exact bu.2
            have lp1 : 1 ≤ (pls V (mq σ1) u).length := by
              cases hp : pls V (mq σ1) u with
              | nil => rw [hp] at np; cases np
              | cons y u => simp
            unfold lrm
            split <;> omega
          have sh := share_rg (pl := pls V (mq σ1) u) (room := lrm V (mq σ1) u) (m := lm (pls V (mq σ1) u) (mq σ1 (2 + dr V u))) (w := lm (pls V (mq σ1) u) (V 11)) ⟨nd, fun c hc => by
            rw [lmv _ c hc]
            exact (EM.ls t E1 hw hh ((memu c).mp hc).1 (t.us ((memu c).mp hc).1 (by have := ((memu c).mp hc).2.1; omega)) ((memu c).mp hc).2.2 _ (by omega)).1, fun c hc => by
            rw [lmv _ c hc]
            exact (t.we ((memu c).mp hc).1 (by have := ((memu c).mp hc).2.1; omega)).1⟩ rmB.1 (by omega) np
          have w1 : mq σ1 (6 + dr V u) n = share _ _ _ _ n := w1
          unfold Bx
          rcases z with z | z
          · rw [z] at w1 w2 sh
            exact ⟨⟨by rw [w1]; exact sh.1, by rw [w1]; omega⟩, by rw [w2]; exact bu.2.1, by rw [w2]; exact bu.2.2⟩
          · rw [z] at w1 w2 sh
            exact ⟨⟨by rw [w2]; exact bu.1.1, by rw [w2]; exact bu.1.2⟩, by rw [w1]; exact sh.1, by rw [w1]; omega⟩
  · rintro f ⟨s, l⟩ ⟨rfl, hF, h6, hR, hB, hA⟩
    simp only at hF h6 hR hB hA
    show ∃ σ', fX9_lays_127 462 (f + 1) s (nI 24) = _ ∧ _
    rw [fX9_lays_127, if_pos (n_le 24 (m := 24) rfl (by decide))]
    have ES : ∀ n, n < 23 → V 8 n ≠ 3 → EM V mw mh (mq s) n := fun n hn hu => (hE n hn hu).cg t hn (fun j c hj hc _ => hR j c hc (Or.inl hj))
    refine ⟨s, rfl, hF, fun n hn k => (ES n hn (by omega)).1 k, fun n hn k => (ES n hn (by omega)).2 k, fun w n hw e => ?_, fun n hn k p => hA n hn (by omega) (by have := (t.dqs hn (show V 8 n ≠ 3 by omega)).1; omega) k p⟩
    have n9 : n < 23 ∧ V 9 n = -1 := by
      rcases t.wi hw with z | ⟨r, hr, e5, -, e9, -⟩
      · omega
      · have : n = r := by omega
        subst this
        exact ⟨hr, e9⟩
    rw [hR 4 n n9.1 (Or.inr n9.2), hR 5 n n9.1 (Or.inr n9.2), hR 6 n n9.1 (Or.inr n9.2), hR 7 n n9.1 (Or.inr n9.2)]
    exact hL w n hw e
  · have q9 : V 9 n = -1 := by
      refine Classical.byContradiction (fun q9 => ?_)
      obtain ⟨u, hu23, e, -⟩ := t.pa hn q9
      have := t.dqc hn e
      omega
    obtain ⟨w, hw5, -, e5⟩ := t.ro hn hu q9
    obtain ⟨-, -, l6, l7⟩ := hL w n hw5 e5
    obtain ⟨-, -, g3, g4⟩ := ge w hw5
    show Bx (mq σ) n
    unfold Bx
    rw [l6, l7]
    omega
/-- the reference lays the plan -/
theorem m_lays (h : VM (mv (σ.1 463)) V X) (t : Tree V d wn Y) (ge : Geo V) (hm : ∀ p, p < 12 → V 13 p ≠ -1 → mv (σ.1 463) 7 p = mw p ∧ mv (σ.1 463) 8 p = mh p) (hw : ∀ p, p < 12 → 0 ≤ mw p ∧ mw p ≤ 40) (hh : ∀ p, p < 12 → 0 ≤ mh p ∧ mh p ≤ 40) : ∃ σ', fX9_lays σ 462 = some σ' ∧ Fy σ σ' ∧ Lay V mw mh (mq σ') := by
  obtain ⟨σ1, a1, o1, v1⟩ := m_laysDepths h t
  obtain ⟨σ2, a2, o2, v2⟩ := m_lays7 (σ := σ1) (mw := mw) (mh := mh) (X := X) (by rw [o1.2 463 (by omega)]; exact h) t (by rw [o1.2 463 (by omega)]; exact hm) hh v1
  have e2 : σ2.1 463 = σ.1 463 := by rw [o2.2 463 (by omega), o1.2 463 (by omega)]
  obtain ⟨σ3, a3, o3, v3⟩ := m_lays57 (σ := σ2) (X := X) (by rw [e2]; exact h) t
  have q3 : ∀ j n, j ≤ 3 → mq σ3 j n = mq σ2 j n := fun j n hj => by
    unfold mq
    rw [o3.2 467 (by omega), o3.2 468 (by omega), if_neg (show ¬ (4 ≤ j ∧ j ≤ 7) by omega), if_neg (show ¬ (4 ≤ j ∧ j ≤ 7) by omega)]
  obtain ⟨σ4, a4, F4, L4⟩ := m_lays127 (σ := σ3) (mw := mw) (mh := mh) (X := X) (by rw [o3.2 463 (by omega), e2]; exact h) t ge hw hh (fun n hn hu => by rw [o3.2 466 (by omega), o2.2 466 (by omega)]; exact v1 n hn hu) (fun n hn hu => (v2 n hn hu).cg t hn (fun j c hj _ _ => q3 j c hj)) v3
  refine ⟨σ4, ?_, (((Fy.ou o1 (by omega) (by omega)).tr (Fy.ou o2 (by omega) (by omega))).tr (Fy.ou o3 (by omega) (by omega))).tr F4, L4⟩
  unfold fX9_lays
  rw [a1, j_b, a2, a3, a4]
end MQ9
