/-! THE RELATION: texts (7): the tree, both sides (2) -/
section RAZ
def TO (n : Nat) (c : Nat → Int32) (al : Nat → Bool) (r : Nat → Int32) (X : Option (Bool × Sg)) (σ : Sg) (sp w : Int32) (p m dep : Nat) : Prop := ∃ ok σ1 p1 m1, X = some (ok, σ1) ∧ CS n c σ1 p1 m1 ∧ m1 < 4096 ∧ Fc σ σ1 ∧ p ≤ p1 ∧ p1 ≤ n ∧ (ok = true → p < p1 ∧ (ltr n c p1 = false → ParT n c (decide (dep = 0)) sp.toInt w.toInt p m (pv σ 443) p1 m1 (pv σ1 443))) ∧ ∀ s u cn f, s.1 463 = r → MS n c s p u dep cn → AL al m u → 200 ≤ f + p → ((ok = false ∨ ltr n c p1 = true) → Dd (fX9_goes_27 462 f s 0 1) s p1) ∧ (ok = true → ltr n c p1 = false → Lv n c al (fX9_goes_27 462 f s 0 1) s p1 m1 dep (bump cn dep))
variable {n : Nat} {c : Nat → Int32} {σ s : Sg} {p m u D : Nat} {cn : Nat → Nat}
theorem sim_split (T : Tt n c) {al : Nat → Bool} {r : Nat → Int32} {rc : Sg → Nat → Int32 → Int32 → Int32 → Option (Bool × Sg)} {dep : Nat} (IH : TS1 n c al r rc (dep + 1)) (hdep : dep ≤ 30) (sp w : Int32) (h : CS n c σ p m) (hm : m < 4096) (hp : 4 * dep ≤ p) (k : Int32) (hk : (k.toInt = 0 ∧ cdm n c p = 72) ∨ (k.toInt = 1 ∧ cdm n c p = 86)) : TO n c al r (fX6_passTree_35 440 rc (su σ 440 2 (nI (p + 1))) sp w (nI dep) k) σ sp w p m dep := by
  have n120 := T.1
  have pn : p < n := by
    rcases hk with ⟨_, z⟩ | ⟨_, z⟩
    · exact cd_lt (by decide) z
    · exact cd_lt (by decide) z
  have k2 : ¬ k = 2 := fun z => by
    rw [z] at hk
    rcases hk with ⟨y, _⟩ | ⟨y, _⟩ <;> exact absurd y (by decide)
  obtain ⟨w1, hw1⟩ : ∃ w1 : Sg, w1 = su σ 440 2 (nI (p + 1)) := ⟨_, rfl⟩
  have c1 : CS n c w1 (p + 1) m := by rw [hw1]; exact h.at _
  have f1 : Fc σ w1 := by rw [hw1]; exact Fc.st
  have v1 : pv w1 443 = pv σ 443 := by rw [hw1, p43]
  rw [← hw1]
  obtain ⟨w2, a1, a2, a3, a4⟩ := t_node rc c1 sp w k (dep := dep) (by omega)
  rw [v1] at a1 a4
  have start : fX6_passTree_35 440 rc w1 sp w (nI dep) k = (fX6_passChildren rc w2 440 (oI (v_mn (pv σ 443))) (nI dep)).bind fun r8 => some (r8.1, r8.2) := by
    rw [a1]
    unfold fX6_passTree_84
    rw [if_neg k2]
  -- the reference opens
  have gs : ∀ s u cn f s6, MS n c s p u dep cn → 0 < f → fX9_opens s 462 0 = some s6 → ∃ f', f = f' + 1 ∧ fX9_goes_27 462 f s 0 1 = fX9_goes_27 462 f' s6 0 1 := fun s u cn f s6 ms hf h6 => by
    obtain ⟨f', rfl⟩ : ∃ f', f = f' + 1 := ⟨f - 1, by omega⟩
    refine ⟨f', rfl, ?_⟩
    have e57 : fX9_goes_57 462 (fX9_goes_27 462 f') s 0 1 = fX9_goes_27 462 f' s6 0 1 := by
      unfold fX9_goes_57
      rw [h6, j_b]
    rw [fX9_goes_27, if_neg (show ¬ ((1 : Int32) = 0) by decide), if_pos ms.2.1, m_next ms.1 n120 (by omega), j_b]
    rcases hk with ⟨_, z⟩ | ⟨_, z⟩
    · rw [if_pos z, e57]
    · rw [if_neg (by rw [z]; decide), j_b, if_pos z, e57]
  have sg := t_sign a2 n120 (by omega) 40
  by_cases z40 : cdm n c (p + 1) = 40
  · have p1n : p + 1 < n := cd_lt (by decide) z40
    obtain ⟨w3, hw3⟩ : ∃ w3 : Sg, w3 = su w2 440 2 (nI (p + 1 + 1)) := ⟨_, rfl⟩
    have c3 : CS n c w3 (p + 2) m := by rw [hw3]; exact a2.at _
    have v3 : pv w3 443 = pv w2 443 := by rw [hw3, p43]
    have fu : FU = 6000 := rfl
    obtain ⟨ok, σ1, p1, m1, b1, b2, b3, b4, b5, b6, b7, b8⟩ := sim_kids T IH hdep (oI (v_mn (pv σ 443))) FU w3 (p + 2) m 0 c3 hm (by omega) (by omega) (by omega) (by omega)
    refine ⟨ok, σ1, p1, m1, ?_, b2, b3, ((f1.tr a3).tr (by rw [hw3]; exact Fc.st)).tr b4, by omega, b6, fun y => ?_, fun s u cn f hr ms hal hf => ?_⟩
    · rw [start]
      unfold fX6_passChildren
      rw [sg.1 ((cd_c (by decide)).mpr z40), j_b, if_pos rfl]
      dsimp only
      rw [← hw3, show (1 : Int32) = nI (0 + 1) from rfl, b1, j_b]
    · obtain ⟨p2, e1, e2, e3, e4⟩ := b7 y
      refine ⟨by omega, fun _ => ?_⟩
      rw [v3, a4, t_mn] at e4
      rw [e1]
      exact par_clo.2.1 _ _ _ _ _ _ _ _ _ k.toInt hk z40 e4 e3
    · obtain ⟨s5, g1, g2, g3⟩ := (m_open T ms pn (by omega)).1 z40
      obtain ⟨s6, i1, _⟩ := w_ex T c3 (by omega) (by omega) g3.1 g3.2.1
      obtain ⟨f', rfl, ge⟩ := gs s u cn f s6 ms (by omega) (g1 s6 i1)
      have := b8 s5 u (fun i => if i = dep then 0 else cn i) f' s6 (by rw [g2.2.1 463 (by omega) (by omega) (by omega) (by omega)]; exact hr) g3 (if_pos rfl) hal (by omega) i1
      have lv : ok = true → Lv n c al (fX9_goes_27 462 f' s6 0 1) s p1 m1 dep (bump cn dep) := fun y => by
        obtain ⟨s8, u8, k8, f8, j1, j2, j3, j4⟩ := (this.2 y).tr g2
        exact ⟨s8, u8, k8, f8, j1, j2, j3.cg (fun i hi => by
          unfold bump
          dsimp only
          rw [if_neg (show ¬ i = dep by omega)]), j4⟩
      rw [ge]
      refine ⟨fun y => ?_, fun y _ => lv y⟩
      cases hok : ok
      · exact (this.1 hok).tr g2
      · rcases y with y | y
        · rw [hok] at y; cases y
        · exact (lv hok).dead T b6 y (by omega)
  · refine ⟨false, w2, p + 1, m, ?_, a2, hm, f1.tr a3, by omega, by omega, fun y => by (cases y), fun s u cn f hr ms hal hf => ⟨fun _ => ?_, fun y => by cases y⟩⟩
    · rw [start]
      unfold fX6_passChildren
      rw [sg.2 (fun y => z40 ((cd_c (by decide)).mp y)), j_b, if_neg (show ¬ ((false, w2) : Bool × Sg).1 = true from Bool.false_ne_true), j_b]
    · obtain ⟨s5, g1, g2, g3⟩ := (m_open T ms pn (by omega)).2 z40
      obtain ⟨f', rfl, ge⟩ := gs s u cn f s5 ms (by omega) g1
      rw [ge]
      exact g27_d (by omega) g3 (by omega) g2
theorem sim_grp (T : Tt n c) {al : Nat → Bool} {r : Nat → Int32} (ha : HA n c al r) (rc : Sg → Nat → Int32 → Int32 → Int32 → Option (Bool × Sg)) {dep : Nat} (hdep : dep ≤ 30) (sp w : Int32) (h : CS n c σ p m) (hm : m < 4096) (hp : p ≤ n) (h72 : cdm n c p ≠ 72) (h86 : cdm n c p ≠ 86) : TO n c al r (fX6_passTree_35 440 rc σ sp w (nI dep) 2) σ sp w p m dep := by
  have n120 := T.1
  obtain ⟨w2, a1, a2, a3, a4⟩ := t_node rc h sp w 2 (dep := dep) (by omega)
  obtain ⟨ok, σ1, p1, m1, b1, b2, b3, b4, b5, b6, b7, b8⟩ := sim_tabs T ha (oI (v_mn (pv σ 443))) a2 hm hp
  refine ⟨ok, σ1, p1, m1, ?_, b2, b3, a3.tr b4, b5, b6, fun y => ?_, fun s u cn f hr ms hal hf => ?_⟩
  · rw [a1]
    unfold fX6_passTree_84
    rw [if_pos rfl, b1, j_b]
  · obtain ⟨d1, t, d2, d3, d4⟩ := b7 y
    refine ⟨d1, fun l => ?_⟩
    rw [d4, t_mn, a4]
    exact par_clo.1 _ _ _ _ _ _ _ _ t d2 d3 b6 l
  · obtain ⟨f', rfl⟩ : ∃ f', f = f' + 1 := ⟨f - 1, by omega⟩
    obtain ⟨s8, e1, e2, e3, e4⟩ := b8 s u hr ms.1 ms.2.1 ms.2.2.2.1 hal
    have ge : fX9_goes_27 462 (f' + 1) s 0 1 = if s8.1 462 16 = -1 then (fX9_joins s8 462 (s8.1 462 22) 0).bind fun σ9 => (fX9_ends σ9 462 0).bind fun r10 => fX9_goes_27 462 f' r10.2 0 (b2i r10.1) else fX9_goes_27 462 f' s8 0 1 := by
      rw [fX9_goes_27, if_neg (show ¬ ((1 : Int32) = 0) by decide), if_pos ms.2.1, m_next ms.1 n120 hp, j_b, if_neg h72, j_b, if_neg h86, e1, j_b]
    rw [ge]
    refine ⟨fun y => ?_, fun y l => ?_⟩
    · have w8 := e3 y
      rw [if_neg (by rw [w8]; exact nI_m1 (by omega))]
      exact g27_d (by omega) w8 (by omega) (Fk.fg e2)
    · obtain ⟨i1, i2, u1, i3, i4⟩ := e4 y l
      have lt := (b7 y).1
      have ms8 := ms.gr e2 i1 i2 i3
      obtain ⟨s9, j1, j2, j3⟩ := m_join0 ms8 (by omega) (s8.1 462 22)
      rw [if_pos i2, j1, j_b]
      have fu : FU = 6000 := rfl
      exact ⟨s9, u1, FU, f', rfl, (Fk.fg e2).tr j2, j3, i4, by omega, by omega⟩
theorem sim_tree (T : Tt n c) {al : Nat → Bool} {r : Nat → Int32} (ha : HA n c al r) : ∀ d dep, d + dep = 64 → TS1 n c al r (fX6_passTree d) dep := by
  have n120 := T.1
  intro d
  induction d with
  | zero =>
    intro dep e sp w σ p m hp h hm hpn
    omega
  | succ d ih =>
    intro dep e sp w σ p m hp h hm hpn
    have IH := ih (dep + 1) (by omega)
    show TO n c al r (fX6_passTree (d + 1) σ 440 sp w (nI dep)) σ sp w p m dep
    have i40 : (40 : Int32).toInt = 40 := rfl
    have s72 := t_sign h n120 hpn 72
    have s86 := t_sign h n120 hpn 86
    rw [fX6_passTree, gX6_passTree, if_pos (by rw [j_le, j_nI (by omega), i40]; omega)]
    by_cases z72 : cdm n c p = 72
    · rw [s72.1 ((cd_c (by decide)).mpr z72), j_b, if_pos rfl]
      exact sim_split T IH (by omega) sp w h hm hp 0 (Or.inl ⟨rfl, z72⟩)
    · rw [s72.2 (fun y => z72 ((cd_c (by decide)).mp y)), j_b, if_neg (show ¬ ((false, σ) : Bool × Sg).1 = true from Bool.false_ne_true)]
      dsimp only
      by_cases z86 : cdm n c p = 86
      · rw [s86.1 ((cd_c (by decide)).mpr z86), j_b, if_pos rfl]
        exact sim_split T IH (by omega) sp w h hm hp 1 (Or.inr ⟨rfl, z86⟩)
      · rw [s86.2 (fun y => z86 ((cd_c (by decide)).mp y)), j_b, if_neg (show ¬ ((false, σ) : Bool × Sg).1 = true from Bool.false_ne_true)]
        exact sim_grp T ha _ (by omega) sp w h hm hpn z72 z86
/-- the whole text: the same fault; what the class has made -/
theorem sim_root (T : Tt n c) {al : Nat → Bool} {r : Nat → Int32} (ha : HA n c al r) (h : CS n c σ 0 m) (hm : m < 4096) : ∃ ok σ1 p1 m1, fX6_passTree 64 σ 440 (-1) 0 0 = some (ok, σ1) ∧ CS n c σ1 p1 m1 ∧ Fc σ σ1 ∧ p1 ≤ n ∧ (ok = true → p1 = n → ParT n c true (-1) 0 0 m (pv σ 443) p1 m1 (pv σ1 443)) ∧ ∀ s cn, s.1 463 = r → MS n c s 0 0 0 cn → AL al m 0 → ∃ s1, fX9_goes_27 462 FU s 0 1 = some (if ok = true ∧ p1 = n then -1 else nI p1, s1) ∧ Fk s s1 := by
  have n120 := T.1
  have fu : FU = 6000 := rfl
  obtain ⟨ok, σ1, p1, m1, b1, b2, b3, b4, b5, b6, b7, b8⟩ := sim_tree T ha 64 0 rfl (-1) 0 σ 0 m (by omega) h hm (by omega)
  refine ⟨ok, σ1, p1, m1, b1, b2, b4, b6, fun y z => ?_, fun s cn hr ms hal => ?_⟩
  · exact (b7 y).2 (by
      unfold ltr
      rw [z, (cd_no (by omega)).2]
      decide)
  · obtain ⟨g1, g2⟩ := b8 s 0 cn FU hr ms hal (by omega)
    by_cases y : ok = true ∧ p1 = n
    · rw [if_pos y]
      have l : ltr n c p1 = false := by
        unfold ltr
        rw [y.2, (cd_no (by omega)).2]
        decide
      obtain ⟨s1, u1, k, f1, i1, i2, i3, i4, i5, i6⟩ := g2 y.1 l
      obtain ⟨k', rfl⟩ : ∃ k', k = k' + 1 := ⟨k - 1, by omega⟩
      obtain ⟨f', rfl⟩ : ∃ f', f1 = f' + 1 := ⟨f1 - 1, by omega⟩
      exact ⟨s1, i1.trans ((k_root i3 b6 n120 k' f').1 y.2), i2⟩
    · rw [if_neg y]
      by_cases z : ok = false ∨ ltr n c p1 = true
      · obtain ⟨s1, i1, i2⟩ := g1 z
        exact ⟨s1, i1, i2⟩
      · have hok : ok = true := by
          cases hok : ok
          · exact absurd (Or.inl hok) z
          · rfl
        have l : ltr n c p1 = false := by
          cases hl : ltr n c p1
          · rfl
          · exact absurd (Or.inr hl) z
        obtain ⟨s1, u1, k, f1, i1, i2, i3, i4, i5, i6⟩ := g2 hok l
        obtain ⟨k', rfl⟩ : ∃ k', k = k' + 1 := ⟨k - 1, by omega⟩
        obtain ⟨f', rfl⟩ : ∃ f', f1 = f' + 1 := ⟨f1 - 1, by omega⟩
        obtain ⟨s2, j1, j2⟩ := (k_root i3 b6 n120 k' f').2 (by
          have : p1 ≠ n := fun w => y ⟨hok, w⟩
          omega)
        exact ⟨s2, i1.trans j1, i2.tr j2⟩
end RAZ
