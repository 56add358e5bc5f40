/-! THE RELATION: fault -/
section RB0
variable {n : Nat} {c : Nat → Int32} {σ s : Sg} {V : VW} {d : Nat → Nat} {wn : Nat → Int}
theorem Inv.wo (h : Inv V d wn) {p g : Nat} (hp : p < 12) (e : V 13 p = g) : v_wo V (V 13 p) = wn g := by
  obtain ⟨a, b⟩ := h.2.1.g2 hp e
  rw [e]
  exact h.1.wo a (by omega)
theorem s_empty (h : Inv V d wn) : ∀ (k i fuel : Nat) (σ : Sg), i + k = 12 → k < fuel → pv σ 443 = wds (own V) V i → ∃ σ', fX1_emptyWindow_2 (440 + 3) fuel σ 0 (nI i) = some σ' ∧ Out σ σ' 444 458 ∧ pv σ' 443 = wds (own V) V 12 := by
  intro k
  induction k with
  | zero =>
    intro i fuel σ e hf hv
    match fuel, hf with
    | f + 1, _ =>
      have : i = 12 := by omega
      subst this
      exact ⟨σ, by rw [fX1_emptyWindow_2, if_pos (n_le 12 (m := 12) rfl (by decide))], Out.rf, hv⟩
  | succ k ih =>
    intro i fuel σ e hf hv
    match fuel, hf with
    | f + 1, hf =>
      obtain ⟨I, r13⟩ := wds_inv (c := own V) h i (by omega)
      have ti : (nI i).toInt = i := j_nI (by omega)
      have gi : ga (pv σ (440 + 3) 13) 12 (nI i).toInt = V 13 i := by
        show ga (pv σ 443 13) 12 (nI i).toInt = _
        rw [hv, ti]
        unfold ga
        rw [if_pos (by omega), Int.toNat_natCast, r13 i (by omega), if_neg (by omega)]
      have wi : wds (own V) V i 13 i = V 13 i := by rw [r13 i (by omega), if_neg (by omega)]
      have t13 : (oI (ga (pv σ (440 + 3) 13) 12 (nI i).toInt)).toInt = V 13 i := by rw [t_ga, gi]
      have ew : wds (own V) V (i + 1) = if own V i = true then v_withdraw (wds (own V) V i) i else wds (own V) V i := rfl
      rw [fX1_emptyWindow_2, if_neg (n_ge 12 (m := 12) rfl (by omega) (by decide)), s_groupOf, j_b]
      unfold fX1_emptyWindow_35
      by_cases z : V 13 i = -1
      · have no : own V i = false := by
          unfold own
          rw [z, v_wo_m1]
          rfl
        rw [if_pos (by rw [j_eq, t13, jm1]; exact z), j_s]
        exact ih (i + 1) f σ (by omega) (by omega) (by rw [hv, ew, no, if_neg Bool.false_ne_true])
      · obtain ⟨g, hg, eg, kg⟩ : ∃ g : Nat, g < 23 ∧ V 13 i = g ∧ V 8 g = 2 := by
          rcases h.2.1.gr (p := i) (by omega) with y | y
          · exact absurd y z
          · exact y
        have e1 := h.wo (p := i) (by omega) eg
        have e2 := I.wo (p := i) (g := g) (by omega) (by rw [wi]; exact eg)
        have hwo : v_wo (pv σ (440 + 3)) (V 13 i) = v_wo V (V 13 i) := by
          show v_wo (pv σ 443) _ = _
          rw [hv, e1, ← e2, wi]
        rw [if_neg (by rw [j_eq, t13, jm1]; exact z), j_b, s_windowOf, j_b, t13, hwo]
        by_cases y : v_wo V (V 13 i) = 0
        · have ok : OkO (odp (pv σ (440 + 3))) := by
            show OkO (odp (pv σ 443))
            rw [hv]
            exact I.2.2.1.ok (by omega)
          have sp := I.2.1.sp2 (nI i).toInt
          rw [← hv] at sp
          obtain ⟨σ2, b1, b2, b3⟩ := s_withdraw (σ := σ) (b := 440 + 3) (nI i) sp.1 sp.2 ok
          rw [if_pos (by rw [y]; rfl), b1, j_b, j_s]
          obtain ⟨σ3, d1, d2, d3⟩ := ih (i + 1) f σ2 (by omega) (by omega) (by
            have : pv σ2 443 = v_withdraw (pv σ 443) (nI i).toInt := b3
            rw [this, hv, ti, ew, if_pos (show own V i = true from decide_eq_true y)])
          exact ⟨σ3, d1, b2.tr d2, d3⟩
        · rw [if_neg (by
            have rg := v_wo_rg V (V 13 i)
            rw [j_eq, j_oI (by omega) (by omega), jz0]
            exact y), j_s]
          exact ih (i + 1) f σ (by omega) (by omega) (by rw [hv, ew, show own V i = false from decide_eq_false y, if_neg Bool.false_ne_true])
def alS (S : ST) (q : Nat) : Bool := exB S q && decide (wds (own (S_pl S)) (S_pl S) 12 13 q = -1)
theorem setn_lt (c : Nat → Bool) : ∀ k, k ≤ 12 → setn c k < 4096
  | 0, _ => by
    show 0 < 4096
    omega
  | k + 1, h => by
    have := setn_lt c k (by omega)
    unfold setn
    by_cases z : c k = true
    · rw [if_pos z]
      exact or_lt this (by omega)
    · rw [if_neg z]
      exact this
theorem s_allowed {S : ST} (hS : SI S) : ∀ (k i fuel : Nat) (σ : Sg), i + k = 12 → k < fuel → stv σ 1 = S → pv σ 443 = wds (own (S_pl S)) (S_pl S) 12 → σ.1 440 3 = nI (setn (alS S) i) → ∃ σ', fX6_findFault_34 440 1 438 fuel σ (nI i) = fX6_findFault_34 440 1 438 (fuel - k) σ' 12 ∧ Out σ σ' 440 440 ∧ σ'.1 440 3 = nI (setn (alS S) 12) := by
  intro k
  induction k with
  | zero =>
    intro i fuel σ e hf hs hv hm
    have : i = 12 := by omega
    subst this
    exact ⟨σ, rfl, Out.rf, hm⟩
  | succ k ih =>
    intro i fuel σ e hf hs hv hm
    match fuel, hf with
    | f + 1, hf =>
      have ti : (nI i).toInt = i := j_nI (by omega)
      have hx : 0 ≤ S_ex (stv σ 1) ∧ S_ex (stv σ 1) < 4096 := by rw [hs]; exact hS.1
      have gi : ga (pv σ (440 + 3) 13) 12 (nI i).toInt = wds (own (S_pl S)) (S_pl S) 12 13 i := by
        show ga (pv σ 443 13) 12 (nI i).toInt = _
        rw [hv, ti]
        unfold ga
        rw [if_pos (by omega), Int.toNat_natCast]
      have t13 : (oI (ga (pv σ (440 + 3) 13) 12 (nI i).toInt)).toInt = wds (own (S_pl S)) (S_pl S) 12 13 i := by rw [t_ga, gi]
      have ew : setn (alS S) (i + 1) = if alS S i = true then setn (alS S) i ||| 2 ^ i else setn (alS S) i := rfl
      have ef : f + 1 - (k + 1) = f - k := by omega
      have nx : alS S i = false → ∃ σ', fX6_findFault_72 440 1 438 (fX6_findFault_34 440 1 438 f) σ (nI i) = fX6_findFault_34 440 1 438 (f - k) σ' 12 ∧ Out σ σ' 440 440 ∧ σ'.1 440 3 = nI (setn (alS S) 12) := fun z => by
        unfold fX6_findFault_72
        rw [j_s]
        exact ih (i + 1) f σ (by omega) (by omega) hs hv (by rw [hm, ew, z, if_neg Bool.false_ne_true])
      rw [ef, fX6_findFault_34, if_neg (n_ge 12 (m := 12) rfl (by omega) (by decide)), s_exists hx, j_b, ti, decide_eq_true (by omega), Bool.true_and, Int.toNat_natCast, hs]
      by_cases z : exB S i = true
      · rw [if_pos z, s_groupOf, j_b]
        by_cases y : wds (own (S_pl S)) (S_pl S) 12 13 i = -1
        · have al : alS S i = true := by
            unfold alS
            rw [z, decide_eq_true y]
            rfl
          rw [if_pos (by rw [j_eq, t13, jm1]; exact y), hm, bt_or (by omega), j_nm]
          unfold fX6_findFault_72
          rw [j_s]
          obtain ⟨σ3, d1, d2, d3⟩ := ih (i + 1) f (su σ 440 3 (nI (setn (alS S) i ||| 2 ^ i))) (by omega) (by omega) (by rw [← hs]; exact stv_c (fun x h1 h2 => su_ne (by omega))) (by rw [p43]; exact hv) (by rw [su_at, if_pos ⟨rfl, rfl⟩, ew, if_pos al])
          exact ⟨σ3, d1, Out.tr (σ1 := su σ 440 3 (nI (setn (alS S) i ||| 2 ^ i))) ⟨rfl, fun x hx => su_ne (by omega)⟩ d2, d3⟩
        · rw [if_neg (by rw [j_eq, t13, jm1]; exact y)]
          exact nx (by
            unfold alS
            rw [decide_eq_false y, Bool.and_false])
      · rw [if_neg z]
        exact nx (by
          unfold alS
          rw [Bool.eq_false_iff.mpr z, Bool.false_and])
theorem al_wn {S : ST} (h : Inv (S_pl S) d wn) {q : Nat} (hq : q < 12) : alS S q = (exB S q && (decide (S_pl S 13 q = -1) || own (S_pl S) q)) := by
  unfold alS
  rw [(wds_inv (c := own (S_pl S)) h 12 (Nat.le_refl _)).2 q hq]
  congr 1
  by_cases z : own (S_pl S) q = true
  · rw [if_pos ⟨hq, z⟩, z, Bool.or_true]
    rfl
  · rw [if_neg (fun y => z y.2), Bool.eq_false_iff.mpr z, Bool.or_false]
theorem m_HA (T : Tt n c) {S : ST} {r : Nat → Int32} (h : SM (mv r) S) (hI : Inv (S_pl S) d wn) : HA n c (alS S) r := by
  intro s p u hr mt hp hu u4
  have n120 := T.1
  have rg := (cd_rg T p).2
  have e2 : (cdm n c p - 97).toInt = (cdm n c p).toInt - 97 := by rw [j_sub (by rw [i97]; omega) (by rw [i97]; omega), i97]
  unfold fX9_isPaneNext pnx
  rw [m_next mt n120 hp, j_b, j_nm, m_isPane, j_b, hr]
  by_cases l : 97 ≤ (cdm n c p).toInt ∧ (cdm n c p).toInt ≤ 108
  · obtain ⟨q, hq, pn, eq⟩ := ltr_sp T (decide_eq_true l)
    have eq97 : (nI (97 + q)).toInt = ((97 + q : Nat) : Int) := j_nI (by omega)
    have tq : (nI q).toInt = q := j_nI (by omega)
    rw [(cd_in pn).2, eq, l_sub hq, tq, decide_eq_true (by omega), Bool.true_and, Int.toNat_natCast, (h.1 q hq).1, eq97, decide_eq_true (show (97 : Int) ≤ ((97 + q : Nat) : Int) ∧ ((97 + q : Nat) : Int) ≤ 108 by omega), Bool.true_and, show (((97 + q : Nat) : Int) - 97).toNat = q by omega, al_wn hI hq]
    by_cases x : exB S q = true
    · rw [x, if_pos rfl, decide_eq_true rfl, if_pos rfl, hu, bt_one u4 hq, Bool.true_and]
      cases b : Nat.testBit u q
      · rw [if_neg Bool.false_ne_true, if_pos (show nI 0 = (0 : Int32) from rfl), m_isPlaced tq hq, j_b, hr, h.2.1.gr hq]
        by_cases z : S_pl S 13 q = -1
        · rw [decide_eq_true z, decide_eq_false (fun y => y z), if_neg Bool.false_ne_true]
          rfl
        · obtain ⟨g, hg, eg, kg⟩ : ∃ g : Nat, g < 23 ∧ S_pl S 13 q = g ∧ S_pl S 8 g = 2 := by
            rcases hI.2.1.gr (p := q) hq with y | y
            · exact absurd y z
            · exact y
          have e1 := hI.wo hq eg
          have vm : VM (mv (s.1 463)) (S_pl S) (fun _ => false) := by rw [hr]; exact h.2.1
          have wr := hI.1.wr5 hg (by omega)
          obtain ⟨w, w5, hw, _⟩ := wr
          rw [decide_eq_true z, decide_eq_false z, if_pos rfl, m_o3 tq hq, j_b, hr, h.2.1.gr hq, m_windowOf vm hI.1 (n := g) (by rw [eg, j_oI (by omega) (by omega)]) hg (by omega), j_b]
          unfold own
          rw [e1]
          by_cases y : wn g = 0
          · rw [if_pos (by rw [y]; rfl), decide_eq_true y]
            rfl
          · rw [if_neg (by rw [j_eq, j_oI (by omega) (by omega), jz0]; exact y), decide_eq_false y]
            rfl
      · rw [if_pos rfl, if_neg (show ¬ nI 1 = (0 : Int32) by decide)]
        simp
    · rw [Bool.eq_false_iff.mpr x, if_neg Bool.false_ne_true, decide_eq_false (by decide), if_neg Bool.false_ne_true]
      rfl
  · rw [decide_eq_false (by rw [e2]; omega), Bool.false_and, if_neg Bool.false_ne_true, decide_eq_false l, Bool.false_and]
/-- the class reads the text: the fault, and what it has made -/
theorem s_fault {S : ST} {l : List ST} (h : CR σ S l) (T : Tt n c) (e1 : σ.1 438 1 = nI n) (e2 : ∀ i, i < n → σ.1 439 i = c i) {r : Nat → Int32} (ha : HA n c (alS S) r) : ∃ ok σ1 p1 m1, fX6_findFault σ 440 1 438 = some (if ok = true ∧ p1 = n then -1 else nI p1, σ1) ∧ Out σ σ1 440 458 ∧ p1 ≤ n ∧ (ok = true → p1 = n → ParT n c true (-1) 0 0 (setn (alS S) 12) (wds (own (S_pl S)) (S_pl S) 12) p1 m1 (pv σ1 443)) ∧ ∀ s cn, s.1 463 = r → MS n c s 0 0 0 cn → ∃ s1, fX9_goes_27 462 FU s 0 1 = some (if ok = true ∧ p1 = n then -1 else nI p1, s1) ∧ Fk s s1 := by
  have n120 := T.1
  obtain ⟨hs, -, hS, -, -⟩ := h
  obtain ⟨d, wn, hI⟩ := hS.2.2.2.2.1
  -- the text is copied
  obtain ⟨w0, a1, a2, a3⟩ := s_copyRow (σ := σ) (c0 := 439) (c1 := 442) (n := 120) (by decide)
  obtain ⟨w1, hw1⟩ : ∃ w1 : Sg, w1 = su w0 441 1 (nI n) := ⟨_, rfl⟩
  have o1 : Out σ w1 440 458 := (a2.mo (by omega) (by omega)).tr (by rw [hw1]; exact ⟨rfl, fun x hx => su_ne (by omega)⟩)
  have e438 : w0.1 438 1 = nI n := by rw [a2.2 438 (by omega)]; exact e1
  have copy : fX5_copyFrom σ (440 + 1) 438 = some w1 := by
    unfold fX5_copyFrom
    rw [show (438 + 1 : Nat) = 439 from rfl, show (440 + 1 + 1 : Nat) = 442 from rfl, a1, j_b, j_nm, e438, hw1]
  -- the trees are copied
  obtain ⟨w2, b1, b2, b3⟩ := s_plcopy (σ := w1) (b := 440 + 3) (c := 1 + 5) (by omega)
  have o2 : Out σ w2 440 458 := o1.tr (b2.mo (by omega) (by omega))
  have v2 : pv w2 443 = S_pl S := by
    have : pv w2 443 = pv w1 (1 + 5) := b3
    rw [this, pv_c (σ := σ) (fun j h1 h2 => o1.2 _ (by omega)), S_pv hs]
  -- the main window is emptied
  obtain ⟨w3, d1, d2, d3⟩ := s_empty hI 12 0 FU w2 rfl (by decide) v2
  have o3 : Out σ w3 440 458 := o2.tr (d2.mo (by omega) (by omega))
  obtain ⟨w4, hw4⟩ : ∃ w4 : Sg, w4 = su w3 440 3 0 := ⟨_, rfl⟩
  have o4 : Out σ w4 440 458 := o3.tr (by rw [hw4]; exact ⟨rfl, fun x hx => su_ne (by omega)⟩)
  have v4 : pv w4 443 = wds (own (S_pl S)) (S_pl S) 12 := by rw [hw4, p43]; exact d3
  have s4 : stv w4 1 = S := by rw [← hs]; exact stv_c (fun x h1 h2 => o4.2 x (by omega))
  obtain ⟨w5, g1, g2, g3⟩ := s_allowed hS 12 0 FU w4 rfl (by decide) s4 v4 (by rw [hw4, su_at, if_pos ⟨rfl, rfl⟩]; rfl)
  have o5 : Out σ w5 440 458 := o4.tr (g2.mo (by omega) (by omega))
  obtain ⟨w6, hw6⟩ : ∃ w6 : Sg, w6 = su w5 440 2 0 := ⟨_, rfl⟩
  have o6 : Out σ w6 440 458 := o5.tr (by rw [hw6]; exact ⟨rfl, fun x hx => su_ne (by omega)⟩)
  have cell : ∀ x, (x = 441 ∨ x = 442) → w6.1 x = w1.1 x := fun x hx => by
    rw [hw6, su_ne (by omega), g2.2 x (by omega), hw4, su_ne (by omega), d2.2 x (by omega), b2.2 x (by omega)]
  have c6 : CS n c w6 0 (setn (alS S) 12) := by
    refine ⟨?_, fun i hi => ?_, by rw [hw6, su_at, if_pos ⟨rfl, rfl⟩]; rfl, by rw [hw6, su_at, if_neg (by omega)]; exact g3⟩
    · rw [cell 441 (by omega), hw1, su_at, if_pos ⟨rfl, rfl⟩]
    · rw [cell 442 (by omega), hw1, su_ne (by omega), a3 i (by omega), e2 i hi]
  have v6 : pv w6 443 = wds (own (S_pl S)) (S_pl S) 12 := by
    rw [hw6, p43, pv_c (σ := w4) (fun j h1 h2 => g2.2 _ (by omega))]
    exact v4
  obtain ⟨ok, σ1, p1, m1, i1, i2, i3, i4, i5, i6⟩ := sim_root T ha c6 (setn_lt _ 12 (Nat.le_refl _))
  have o7 : Out σ σ1 440 458 := ⟨i3.1.trans o6.1, fun x hx => (i3.2 x (by omega) (by omega)).trans (o6.2 x hx)⟩
  refine ⟨ok, σ1, p1, m1, ?_, o7, i4, fun y z => ?_, fun s cn hr ms => i6 s cn hr ms ⟨by omega, fun q hq => ?_⟩⟩
  · unfold fX6_findFault
    rw [copy, j_b, b1, j_b]
    have d1' : fX1_emptyWindow w2 (440 + 3) 0 = some w3 := d1
    have g1' : fX6_findFault_34 440 1 438 FU w4 0 = fX6_findFault_34 440 1 438 (5987 + 1) w5 12 := g1
    rw [d1', j_b, ← hw4, j_nm, g1', fX6_findFault_34, if_pos (show (12 : Int32) ≤ 12 by decide), ← hw6, j_nm, i1, j_b]
    unfold fX6_findFault_113 fX5_length
    dsimp only
    have e441 : σ1.1 (440 + 1) 1 = nI n := i2.1
    rw [i2.2.2.1, e441, j_b]
    cases hok : ok
    · rw [if_neg Bool.false_ne_true, if_neg (fun y => by cases y.1)]
    · rw [if_pos rfl]
      by_cases z : p1 = n
      · rw [if_pos (by rw [z]), if_pos ⟨rfl, z⟩]
      · rw [if_neg (fun y => z ((j_inj (by omega) (by omega)).mp y)), if_neg (fun y => z y.2)]
  · rw [← v6]
    exact i5 y z
  · rw [setn_bit, decide_eq_true hq, Bool.true_and, Nat.zero_testBit, Bool.not_false, Bool.and_true]
theorem TX.tt (h : TX σ) : ∃ n c, Tt n c ∧ σ.1 438 1 = nI n ∧ (∀ i, i < n → σ.1 439 i = c i) ∧ σ.1 462 5 = nI n ∧ ∀ i, i < n → σ.1 465 i = c i := by
  obtain ⟨n, h1, h2, h3, h4⟩ := h
  exact ⟨n, σ.1 439, ⟨h1, fun i hi => (h4 i hi).2⟩, h2, fun i hi => rfl, h3, fun i hi => (h4 i hi).1.symm⟩
theorem c_fault (h : RR σ) : PS (fX8_fault σ) (fun s => fX9_fault s 462) := by
  obtain ⟨S, l, cr, mr, tx⟩ := h
  obtain ⟨n, c, T, e1, e2, e3, e4⟩ := tx.tt
  obtain ⟨d, wn, hI⟩ := cr.2.2.1.2.2.2.2.1
  obtain ⟨ok, σ1, p1, m1, a1, a2, a3, -, a5⟩ := s_fault cr T e1 e2 (m_HA T mr.2 hI)
  have c4 : ∀ x, 459 ≤ x → σ1.1 x = σ.1 x := fun x hx => a2.2 x (by omega)
  obtain ⟨s5, hs5⟩ : ∃ s5 : Sg, s5 = su (su (su (su (su (su σ1 462 3 0) 462 15 0) 462 16 (-1)) 462 19 0) 462 20 0) 462 22 0 := ⟨_, rfl⟩
  have x5 : ∀ x, x ≠ 462 → s5.1 x = σ1.1 x := fun x hx => by rw [hs5, su_ne hx, su_ne hx, su_ne hx, su_ne hx, su_ne hx, su_ne hx]
  have j5 : ∀ j, j ≠ 3 → j < 15 → s5.1 462 j = σ1.1 462 j := fun j h3 h15 => by
    rw [hs5, su_at, if_neg (by omega), su_at, if_neg (by omega), su_at, if_neg (by omega), su_at, if_neg (by omega), su_at, if_neg (by omega), su_at, if_neg (by omega)]
  have ms : MS n c s5 0 0 0 (fun _ => 0) := by
    refine ⟨⟨?_, fun i hi => ?_, ?_⟩, ?_, ?_, ?_, fun i hi => absurd hi (by omega)⟩
    · rw [j5 5 (by omega) (by omega), c4 462 (by omega)]; exact e3
    · rw [x5 465 (by omega), c4 465 (by omega)]; exact e4 i hi
    · rw [hs5, su_at, if_neg (by omega), su_at, if_neg (by omega), su_at, if_neg (by omega), su_at, if_neg (by omega), su_at, if_pos ⟨rfl, rfl⟩]; rfl
    · rw [hs5, su_at, if_neg (by omega), su_at, if_neg (by omega), su_at, if_neg (by omega), su_at, if_pos ⟨rfl, rfl⟩]
    · rw [hs5, su_at, if_neg (by omega), su_at, if_neg (by omega), su_at, if_pos ⟨rfl, rfl⟩]; rfl
    · rw [hs5, su_at, if_neg (by omega), su_at, if_pos ⟨rfl, rfl⟩]; rfl
  obtain ⟨s6, b1, b2⟩ := a5 s5 _ (by rw [x5 463 (by omega), c4 463 (by omega)]) ms
  have c6 : ∀ x, x < 440 → s6.1 x = σ.1 x := fun x hx => by
    rw [b2.2.1 x (by omega) (by omega) (by omega) (by omega), x5 x (by omega), a2.2 x (by omega)]
  have d6 : ∀ x, 463 ≤ x → x ≤ 465 → s6.1 x = σ.1 x := fun x h1 h2 => by
    rw [b2.2.1 x (by omega) (by omega) (by omega) (by omega), x5 x (by omega), c4 x (by omega)]
  have k6 : ∀ j, j ≠ 3 → j < 15 → s6.1 462 j = σ.1 462 j := fun j h3 h15 => by
    rw [b2.2.2 j (by omega), j5 j h3 h15, c4 462 (by omega)]
  refine ⟨(if ok = true ∧ p1 = n then -1 else nI p1), σ1, s6, ?_, ?_, ⟨S, l, cr.c (fun x hx => c6 x (by omega)), mr.c (k6 2 (by omega) (by omega)) (d6 463 (by omega) (by omega)) (d6 464 (by omega) (by omega)), tx.c (by rw [c6 438 (by omega)]) (c6 439 (by omega)) (k6 5 (by omega) (by omega)) (d6 465 (by omega) (by omega))⟩⟩
  · unfold fX8_fault
    rw [a1, j_b]
  · show fX9_fault σ1 462 = _
    unfold fX9_fault fX9_goes
    rw [j_nm, j_nm, j_nm, j_nm, j_nm, j_nm, ← hs5, b1, j_b]
end RB0
