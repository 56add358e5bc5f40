/-! THE RELATION: write (4): the text of a tree, the reference's side -/
section RB4
variable {σ s : Sg} {W : List Int32} {V : VW} {d : Nat → Nat} {wn : Nat → Int}
/-- sign, weight and colon before a tree -/
theorem m_pre (h : VM (mv (s.1 463)) V (fun _ => false)) (t : Tree V d wn (fun _ => false)) {c : Nat} (hc : c < 23) (hp : V 9 c ≠ -1) (hb : MB s W) : ∃ s', (fX9_its s 462 (oI c) 3).bind (fun r => (fX9_writesNumber s 462 r).bind fun σ1 => fX9_writes σ1 462 58) = some s' ∧ Fr s s' ∧ MB s' (W ++ (numl (oI (ga (V 11) 23 (c : Int))) ++ [58])) := by
  have tc : (oI (c : Int)).toInt = c := j_oI (by omega) (by omega)
  have we := t.we hc hp
  have tw : (oI (V 11 c)).toInt = V 11 c := j_oI (by omega) (by omega)
  obtain ⟨s1, a1, a2, a3⟩ := m_number hb (w := oI (V 11 c)) (by omega) (by omega)
  obtain ⟨s2, b1, b2, b3⟩ := a3.wr 58
  refine ⟨s2, ?_, a2.tr b2, ?_⟩
  · rw [m_i3 tc (by omega), j_b, h.we hc hp, a1, j_b, b1]
  · rw [ga_in hc, ← List.append_assoc]
    exact b3
theorem bind3 {s : Sg} {a : Option Int32} {g : Int32 → Option Sg} {h : Sg → Option Sg} {K : Sg → Option Sg} {s' : Sg} (e : a.bind (fun r => (g r).bind fun σ1 => h σ1) = some s') : a.bind (fun r => (g r).bind fun σ1 => (h σ1).bind fun σ2 => K σ2) = K s' := by
  cases a with
  | none => cases e
  | some r =>
    rw [j_b] at e ⊢
    cases hg : g r with
    | none => rw [hg] at e; cases e
    | some x =>
      rw [hg, j_b] at e
      rw [j_b, e, j_b]
theorem m_pk (t : Tree V d wn (fun _ => false)) {e r0 : Nat} (IH : ∀ (c f : Nat) (s1 : Sg) (W : List Int32), c < 23 → V 8 c ≠ 3 → e + dq V c = 64 → VM (mv (s1.1 463)) V (fun _ => false) → MB s1 W → Zn V c < f → ∃ s' f' g', fX9_writesTree_4 462 f s1 (oI r0) (oI c) 1 = fX9_writesTree_75 462 (fX9_writesTree_4 462 f') g' s' (oI r0) (oI c) ∧ Fr s1 s' ∧ MB s' (W ++ txt V e c) ∧ (f : Int) ≤ f' + Zn V c ∧ 6000 + dq V c ≤ g' + 22) (hr : r0 < 23) (r9 : V 9 r0 = -1) {n : Nat} (hn : n < 23) (ks : V 8 n ≤ 1) (he : e + 1 + dq V n = 64) {B : List Int32} : ∀ (j k f : Nat) (c : Nat) (s1 : Sg), k + j + 1 = v_cc V n → v_ca V n k = c → VM (mv (s1.1 463)) V (fun _ => false) → MB s1 (B ++ kds V (txt V e) n k ++ [if k = 0 then (40 : Int32) else 44] ++ (numl (oI (ga (V 11) 23 (c : Int))) ++ [58])) → Zn V n < f + Qn V n k + 1 → ∃ s' f' g', fX9_writesTree_4 462 f s1 (oI r0) (oI c) 1 = fX9_writesTree_75 462 (fX9_writesTree_4 462 f') g' s' (oI r0) (oI n) ∧ Fr s1 s' ∧ MB s' (B ++ (kds V (txt V e) n (v_cc V n) ++ [41])) ∧ (f : Int) + Qn V n k ≤ f' + Qn V n (v_cc V n) ∧ 6000 + dq V n ≤ g' + 22 := by
  have c23 := v_cc_rg V n
  have tn : (oI (n : Int)).toInt = n := j_oI (by omega) (by omega)
  intro j
  induction j with
  | zero =>
    intro k f c s1 ek ec vm hb hf
    obtain ⟨c', h1, h2, h3, h4, -⟩ := t.kid hn ks (k := k) (by omega)
    have : c' = c := by omega
    subst this
    have q := Qn_s t hn ks (k := k) (by omega) h2
    have ql := Qn_le t hn ks (k + 1)
    have dc := t.dqc h1 h3
    have np : V 9 c' ≠ -1 := by omega
    have uc := t.us h1 np
    have tc : (oI (c' : Int)).toInt = c' := j_oI (by omega) (by omega)
    obtain ⟨s2, f2, g2, a1, a2, a3, a4, a5⟩ := IH c' f s1 _ h1 uc (by omega) vm hb (by omega)
    obtain ⟨g, rfl⟩ : ∃ g, g2 = g + 1 := ⟨g2 - 1, by omega⟩
    have vm2 : VM (mv (s2.1 463)) V (fun _ => false) := by rw [a2.2.1 463 (by omega) (by omega)]; exact vm
    obtain ⟨s3, b1, b2, b3⟩ := a3.wr 41
    have vm3 : VM (mv (s3.1 463)) V (fun _ => false) := by rw [b2.2.1 463 (by omega) (by omega)]; exact vm2
    refine ⟨s3, f2, g, ?_, a2.tr b2, ?_, ?_, by omega⟩
    · have nr : ¬ oI (c' : Int) = oI (r0 : Int) := fun z => by
        rw [j_oe (by omega) (by omega) (by omega) (by omega)] at z
        have : c' = r0 := by omega
        rw [this, r9] at np
        exact np rfl
      have ecc : oI (V 10 c') = oI (v_cc V n) - 1 := by
        refine j_eq.mpr ?_
        rw [h4, j_oI (by omega) (by omega), j_sub (by rw [t_cc, jz1]; omega) (by rw [t_cc, jz1]; omega), t_cc, jz1]
        omega
      rw [a1, fX9_writesTree_75, if_neg nr, m_i4 tc (by omega), j_b, vm2.pl h1 np, m_i1 tc (by omega), j_b, vm2.pa h1 uc, h3, m_childMany, j_b, tn, vm2.cc t (by omega), if_pos ecc, b1, j_b, m_i1 tc (by omega), j_b, vm3.pa h1 uc, h3]
    · have ev : v_cc V n = k + 1 := by omega
      rw [ev]
      have : B ++ (kds V (txt V e) n (k + 1) ++ [41]) = B ++ kds V (txt V e) n k ++ [if k = 0 then (40 : Int32) else 44] ++ (numl (oI (ga (V 11) 23 (c' : Int))) ++ [58]) ++ txt V e c' ++ [41] := by
        show B ++ ((kds V (txt V e) n k ++ ([if k = 0 then (40 : Int32) else 44] ++ (numl (oI (ga (V 11) 23 (v_ca V n k))) ++ ([58] ++ txt V e (v_ca V n k))))) ++ [41]) = _
        rw [h2]
        simp only [List.append_assoc]
      rw [this]
      exact b3
    · rw [show v_cc V n = k + 1 by omega, q]
      omega
  | succ j ih =>
    intro k f c s1 ek ec vm hb hf
    obtain ⟨c', h1, h2, h3, h4, -⟩ := t.kid hn ks (k := k) (by omega)
    have : c' = c := by omega
    subst this
    obtain ⟨c2, g1, g2', g3, g4, -⟩ := t.kid hn ks (k := k + 1) (by omega)
    have q := Qn_s t hn ks (k := k) (by omega) h2
    have ql := Qn_le t hn ks (k + 1)
    have dc := t.dqc h1 h3
    have np : V 9 c' ≠ -1 := by omega
    have np2 : V 9 c2 ≠ -1 := by omega
    have uc := t.us h1 np
    have tc : (oI (c' : Int)).toInt = c' := j_oI (by omega) (by omega)
    obtain ⟨s2, f2, g2, a1, a2, a3, a4, a5⟩ := IH c' f s1 _ h1 uc (by omega) vm hb (by omega)
    obtain ⟨g, rfl⟩ : ∃ g, g2 = g + 1 := ⟨g2 - 1, by omega⟩
    have vm2 : VM (mv (s2.1 463)) V (fun _ => false) := by rw [a2.2.1 463 (by omega) (by omega)]; exact vm
    obtain ⟨s3, b1, b2, b3⟩ := a3.wr 44
    have vm3 : VM (mv (s3.1 463)) V (fun _ => false) := by rw [b2.2.1 463 (by omega) (by omega)]; exact vm2
    obtain ⟨s4, d1, d2, d3⟩ := m_pre vm3 t g1 np2 b3
    have vm4 : VM (mv (s4.1 463)) V (fun _ => false) := by rw [d2.2.1 463 (by omega) (by omega)]; exact vm3
    have eB : B ++ kds V (txt V e) n k ++ [if k = 0 then (40 : Int32) else 44] ++ (numl (oI (ga (V 11) 23 (c' : Int))) ++ [58]) ++ txt V e c' ++ [44] ++ (numl (oI (ga (V 11) 23 (c2 : Int))) ++ [58]) = B ++ kds V (txt V e) n (k + 1) ++ [if k + 1 = 0 then (40 : Int32) else 44] ++ (numl (oI (ga (V 11) 23 (c2 : Int))) ++ [58]) := by
      rw [if_neg (show ¬ k + 1 = 0 by omega)]
      show _ = B ++ (kds V (txt V e) n k ++ ([if k = 0 then (40 : Int32) else 44] ++ (numl (oI (ga (V 11) 23 (v_ca V n k))) ++ ([58] ++ txt V e (v_ca V n k))))) ++ [44] ++ _
      rw [h2]
      simp only [List.append_assoc]
    obtain ⟨s', f', g', i1, i2, i3, i4, i5⟩ := ih (k + 1) f2 c2 s4 (by omega) g2' vm4 (by rw [← eB]; exact d3) (by omega)
    refine ⟨s', f', g', ?_, ((a2.tr b2).tr d2).tr i2, i3, by omega, i5⟩
    have nr : ¬ oI (c' : Int) = oI (r0 : Int) := fun z => by
      rw [j_oe (by omega) (by omega) (by omega) (by omega)] at z
      have : c' = r0 := by omega
      rw [this, r9] at np
      exact np rfl
    have ecc : ¬ oI (V 10 c') = oI (v_cc V n) - 1 := fun z => by
      rw [j_eq, h4, j_oI (by omega) (by omega), j_sub (by rw [t_cc, jz1]; omega) (by rw [t_cc, jz1]; omega), t_cc, jz1] at z
      omega
    have ek1 : (oI (V 10 c') + 1).toInt = ((k + 1 : Nat) : Int) := by
      rw [h4, j_add (by rw [j_oI (by omega) (by omega), jz1]; omega) (by rw [j_oI (by omega) (by omega), jz1]; omega), j_oI (by omega) (by omega), jz1]
      omega
    rw [a1, fX9_writesTree_75, if_neg nr, m_i4 tc (by omega), j_b, vm2.pl h1 np, m_i1 tc (by omega), j_b, vm2.pa h1 uc, h3, m_childMany, j_b, tn, vm2.cc t (by omega), if_neg ecc]
    unfold fX9_writesTree_117 fX9_writesTree_127
    rw [if_neg nr, if_neg (show ¬ ((1 : Int32) = 0) by decide), m_i1 tc (by omega), j_b, vm2.pa h1 uc, h3, m_i4 tc (by omega), j_b, vm2.pl h1 np, m_child, j_b, tn, ek1, vm2.ca t (by omega), g2', b1, j_b, bind3 (s := s3) (K := fun σ15 => fX9_writesTree_4 462 f2 σ15 (oI r0) (oI c2) 1) d1]
    exact i1
theorem m_wtree (t : Tree V d wn (fun _ => false)) (tb : Tabs V (fun _ => false)) {r0 : Nat} (hr : r0 < 23) (r9 : V 9 r0 = -1) : ∀ (e n f : Nat) (s1 : Sg) (W : List Int32), n < 23 → V 8 n ≠ 3 → e + dq V n = 64 → VM (mv (s1.1 463)) V (fun _ => false) → MB s1 W → Zn V n < f → ∃ s' f' g', fX9_writesTree_4 462 f s1 (oI r0) (oI n) 1 = fX9_writesTree_75 462 (fX9_writesTree_4 462 f') g' s' (oI r0) (oI n) ∧ Fr s1 s' ∧ MB s' (W ++ txt V e n) ∧ (f : Int) ≤ f' + Zn V n ∧ 6000 + dq V n ≤ g' + 22 := by
  intro e
  induction e with
  | zero =>
    intro n f s1 W hn hu he
    have := (t.dqs hn hu).1
    omega
  | succ e ih =>
    intro n f s1 W hn hu he vm hb hf
    have d22 := (t.dqs hn hu).1
    have zp := Zn_pos (V := V) hn hu
    have tn : (oI (n : Int)).toInt = n := j_oI (by omega) (by omega)
    have ki := t.ki hn
    have fu : FU = 6000 := rfl
    obtain ⟨f0, rfl⟩ : ∃ f0, f = f0 + 1 := ⟨f - 1, by omega⟩
    unfold txt
    rw [ga_in hn]
    by_cases z : V 8 n = 2
    · obtain ⟨s2, a1, a2, a3⟩ := m_wgroup vm tb hn z hb
      refine ⟨s2, f0, FU, ?_, a2, by rw [if_pos z]; exact a3, by omega, by omega⟩
      rw [fX9_writesTree_4, if_neg (show ¬ ((1 : Int32) = 0) by decide), m_i0 tn (by omega), j_b, vm.k2 hn z, if_neg (show ¬ oI (2 : Int) = (1 : Int32) by decide), a1, j_b]
    · have ks : V 8 n ≤ 1 := by omega
      obtain ⟨k1, k2⟩ := vm.k1 hn ks
      have cc2 : 2 ≤ v_cc V n := by
        have := (t.sp hn ks).2 rfl
        unfold v_cc
        rw [if_neg (by omega)]
        exact this
      obtain ⟨c, h1, h2, h3, h4, -⟩ := t.kid hn ks (k := 0) (by omega)
      have np : V 9 c ≠ -1 := by omega
      obtain ⟨w1, a1, a2, a3⟩ := hb.wr (if V 8 n = 0 then 72 else 86)
      obtain ⟨w2, b1, b2, b3⟩ := a3.wr 40
      have vm2 : VM (mv (w2.1 463)) V (fun _ => false) := by rw [(a2.tr b2).2.1 463 (by omega) (by omega)]; exact vm
      obtain ⟨w3, d1, d2, d3⟩ := m_pre vm2 t h1 np b3
      have vm3 : VM (mv (w3.1 463)) V (fun _ => false) := by rw [d2.2.1 463 (by omega) (by omega)]; exact vm2
      obtain ⟨s', f', g', i1, i2, i3, i4, i5⟩ := m_pk t ih hr r9 hn ks he (B := W ++ [if V 8 n = 0 then 72 else 86]) (v_cc V n - 1) 0 f0 c w3 (by omega) h2 vm3 (by
        show MB w3 (W ++ [if V 8 n = 0 then 72 else 86] ++ [] ++ [40] ++ (numl (oI (ga (V 11) 23 (c : Int))) ++ [58]))
        rw [List.append_nil]
        exact d3) (by rw [Qn_0]; omega)
      rw [Qn_0] at i4
      have ql := Qn_le t hn ks (v_cc V n)
      have tz : (oI (0 : Int)) = (0 : Int32) := rfl
      have e35 : ∀ x : Int32, x = (if V 8 n = 0 then 72 else 86) → fX9_writesTree_35 462 (fX9_writesTree_4 462 f0) s1 (oI r0) (oI (n : Int)) 1 x = fX9_writesTree_4 462 f0 w3 (oI r0) (oI (c : Int)) 1 := fun x hx => by
        unfold fX9_writesTree_35
        rw [hx, a1, j_b, b1, j_b, m_child, j_b, tn, jz0, vm2.ca t (by omega), show v_ca V n 0 = c from h2, bind3 (s := w2) (K := fun σ15 => fX9_writesTree_4 462 f0 σ15 (oI r0) (oI c) 1) d1]
      refine ⟨s', f', g', ?_, ((a2.tr b2).tr d2).tr i2, by rw [if_neg z, ← List.append_assoc]; exact i3, by omega, i5⟩
      rw [fX9_writesTree_4, if_neg (show ¬ ((1 : Int32) = 0) by decide), m_i0 tn (by omega), j_b, k1, if_pos (show oI (1 : Int) = (1 : Int32) from rfl), m_i2 tn (by omega), j_b, k2]
      by_cases y : V 8 n = 0
      · rw [if_pos (by rw [y]; rfl), e35 72 (by rw [if_pos y])]
        exact i1
      · rw [if_neg (by rw [j_eq, j_oI (by omega) (by omega), jz0]; exact y), e35 86 (by rw [if_neg y])]
        exact i1
/-- the codes -/
def Lc (L : List Int32) : Prop := ∀ x ∈ L, 32 ≤ x.toInt ∧ x.toInt ≤ 126
theorem Lc.ap {L M : List Int32} (h : Lc L) (h2 : Lc M) : Lc (L ++ M) := fun x hx => by
  rcases List.mem_append.mp hx with y | y
  · exact h x y
  · exact h2 x y
theorem Lc.one {x : Int32} (h : 32 ≤ x.toInt ∧ x.toInt ≤ 126) : Lc [x] := fun y hy => by
  rw [List.mem_singleton.mp hy]
  exact h
theorem Lc.nil : Lc [] := fun x hx => by cases hx
theorem dgt_rg {w u : Int32} (hw : 0 ≤ w.toInt) (hu : 1 ≤ u.toInt) : 32 ≤ (dgt w u).toInt ∧ (dgt w u).toInt ≤ 126 := by
  have q1 := q_div hw hu
  have q2 : 0 ≤ w.toInt / u.toInt := Int.ediv_nonneg hw (by omega)
  have h1 := j_hi (w / u)
  have q3 : ((w / u) / 10).toInt = (w.toInt / u.toInt) / 10 := by rw [q_div (by omega) (by decide), q1]; rfl
  have q4 : ((w / u) / 10 * 10).toInt = (w.toInt / u.toInt) / 10 * 10 := by
    have : (10 : Int32).toInt = 10 := rfl
    rw [j_mul (by rw [q3, this]; omega) (by rw [q3, this]; omega), q3, this]
  have q5 : ((w / u) - (w / u) / 10 * 10).toInt = w.toInt / u.toInt - (w.toInt / u.toInt) / 10 * 10 := by rw [j_sub (by rw [q4, q1]; omega) (by rw [q4, q1]; omega), q4, q1]
  have i48 : (48 : Int32).toInt = 48 := rfl
  unfold dgt
  rw [j_add (by rw [q5, i48]; omega) (by rw [q5, i48]; omega), q5, i48]
  omega
theorem numl_rg {w : Int32} (hw : 0 ≤ w.toInt) : Lc (numl w) := by
  have one : ∀ u : Int32, 1 ≤ u.toInt → Lc (if w < u then [] else [dgt w u]) := fun u hu => by
    by_cases z : w < u
    · rw [if_pos z]; exact Lc.nil
    · rw [if_neg z]; exact Lc.one (dgt_rg hw hu)
  exact (one _ (by decide)).ap ((one _ (by decide)).ap ((one _ (by decide)).ap ((one _ (by decide)).ap ((one _ (by decide)).ap ((one _ (by decide)).ap (one _ (by decide)))))))
theorem tbl_rg (V : VW) (g : Int) : ∀ k, Lc (tbl V g k)
  | 0 => Lc.nil
  | k + 1 => by
    have ta := v_ta_rg V g k
    have e97 : (97 : Int32).toInt = 97 := rfl
    have tt := t_ta V g k
    refine (tbl_rg V g k).ap (Lc.ap (Lc.one ?_) ?_)
    · rw [j_add (by rw [tt, e97]; omega) (by rw [tt, e97]; omega), tt, e97]
      omega
    · by_cases z : v_hd V (v_ta V g k) = true
      · rw [if_pos z]; exact Lc.one (by decide)
      · rw [if_neg z]
        by_cases y : ga (V 12) 23 g = v_ta V g k
        · rw [if_pos y]; exact Lc.one (by decide)
        · rw [if_neg y]; exact Lc.nil
theorem txt_rg (t : Tree V d wn (fun _ => false)) : ∀ (e n : Nat), n < 23 → V 8 n ≠ 3 → Lc (txt V e n) := by
  intro e
  induction e with
  | zero => intro n _ _; exact Lc.nil
  | succ e ih =>
    intro n hn hu
    have ki := t.ki hn
    unfold txt
    rw [ga_in hn]
    by_cases z : V 8 n = 2
    · rw [if_pos z]; exact tbl_rg _ _ _
    · have ks : V 8 n ≤ 1 := by omega
      rw [if_neg z]
      have kr : ∀ k, k ≤ v_cc V n → Lc (kds V (txt V e) n k) := by
        intro k
        induction k with
        | zero => intro _; exact Lc.nil
        | succ k ihk =>
          intro hk
          obtain ⟨c, h1, h2, h3, -, -⟩ := t.kid hn ks (k := k) (by omega)
          have we := t.we h1 (by omega : V 9 c ≠ -1)
          unfold kds
          rw [h2, ga_in h1]
          refine (ihk (by omega)).ap (Lc.ap (Lc.one ?_) ((numl_rg (by rw [j_oI (by omega) (by omega)]; omega)).ap ((Lc.one (by decide)).ap (ih c h1 (t.us h1 (by omega))))))
          by_cases y : k = 0
          · rw [if_pos y]; decide
          · rw [if_neg y]; decide
      refine (Lc.one ?_).ap ((kr _ (Nat.le_refl _)).ap (Lc.one (by decide)))
      by_cases y : V 8 n = 0
      · rw [if_pos y]; decide
      · rw [if_neg y]; decide
end RB4
