/-! THE RELATION: texts (2): the tabs of a group -/
section RAU
def Mk (n : Nat) (c : Nat → Int32) (st : Bool) (p1 kk p2 : Nat) (st' : Bool) : Prop := (kk = 1 ∧ cdm n c p1 = 45 ∧ p2 = p1 + 1 ∧ st' = st) ∨ (kk = 2 ∧ st = false ∧ cdm n c p1 = 42 ∧ p2 = p1 + 1 ∧ st' = true) ∨ (kk = 0 ∧ cdm n c p1 ≠ 45 ∧ (st = false → cdm n c p1 ≠ 42) ∧ p2 = p1 ∧ st' = st)
def Tb (n : Nat) (c : Nat → Int32) : List (Nat × Nat) → Bool → Nat → Nat → Nat → Nat → Prop
  | [], _, p, m, p', m' => p' = p ∧ m' = m
  | (q, kk) :: l, st, p, m, p', m' => q < 12 ∧ Nat.testBit m q = true ∧ p < n ∧ c p = nI (97 + q) ∧ ∃ p2 st', Mk n c st (p + 1) kk p2 st' ∧ Tb n c l st' p2 (m &&& (4095 - 2 ^ q)) p' m'
def btab (g : Int) : List (Nat × Nat) → VW → VW
  | [], V => V
  | (q, kk) :: l, V => btab g l (if kk = 1 then v_hide (v_join V q g) q else v_join V q g)
def star : List (Nat × Nat) → Int
  | [] => -1
  | (q, kk) :: l => if kk = 2 then q else star l
def fing (g sp : Int) (V : VW) : VW := up V 12 g (if sp = -1 then v_sta V g 0 else sp)
def ltr (n : Nat) (c : Nat → Int32) (p : Nat) : Bool := decide (97 ≤ (cdm n c p).toInt ∧ (cdm n c p).toInt ≤ 108)
def AL (al : Nat → Bool) (m u : Nat) : Prop := u < 4096 ∧ ∀ q, q < 12 → Nat.testBit m q = (al q && !Nat.testBit u q)
def pnx (al : Nat → Bool) (u : Nat) (x : Int32) : Bool := decide (97 ≤ x.toInt ∧ x.toInt ≤ 108) && (al (x.toInt - 97).toNat && !Nat.testBit u (x.toInt - 97).toNat)
def HA (n : Nat) (c : Nat → Int32) (al : Nat → Bool) (r : Nat → Int32) : Prop := ∀ s p u, s.1 463 = r → MT n c s p → p ≤ n → s.1 462 20 = nI u → u < 4096 → fX9_isPaneNext s 462 = some (pnx al u (cdm n c p))
def Fg (s s1 : Sg) : Prop := s1.2 = s.2 ∧ (∀ x, x ≠ 462 → s1.1 x = s.1 x) ∧ ∀ j, j ≠ 15 → j ≠ 16 → j ≠ 20 → s1.1 462 j = s.1 462 j
variable {n : Nat} {c : Nat → Int32} {σ s : Sg} {p m : Nat}
theorem Fg.rf : Fg s s := ⟨rfl, fun _ _ => rfl, fun _ _ _ _ => rfl⟩
theorem Fg.tr {s1 s2 : Sg} (h : Fg s s1) (h2 : Fg s1 s2) : Fg s s2 := ⟨h2.1.trans h.1, fun x a => (h2.2.1 x a).trans (h.2.1 x a), fun j a b d => (h2.2.2 j a b d).trans (h.2.2 j a b d)⟩
theorem Fg.st {j : Nat} {v : Int32} (h : j = 15 ∨ j = 16 ∨ j = 20) : Fg s (su s 462 j v) := ⟨rfl, fun x a => su_ne a, fun k a b d => by rw [su_at, if_neg (by omega)]⟩
theorem MT.fg {s1 : Sg} {q : Nat} (h : MT n c s p) (f : Fg s s1) (e : s1.1 462 15 = nI q) : MT n c s1 q :=
  ⟨by rw [f.2.2 5 (by omega) (by omega) (by omega)]; exact h.1, fun i hi => by rw [f.2.1 465 (by omega)]; exact h.2.1 i hi, e⟩
theorem i97 : (97 : Int32).toInt = 97 := rfl
theorem i108 : (108 : Int32).toInt = 108 := rfl
theorem i12 : (12 : Int32).toInt = 12 := rfl
theorem cd_rg (T : Tt n c) (p : Nat) : (-1 ≤ (cdc n c p).toInt ∧ (cdc n c p).toInt ≤ 126) ∧ (0 ≤ (cdm n c p).toInt ∧ (cdm n c p).toInt ≤ 126) := by
  by_cases z : p < n
  · rw [(cd_in z).1, (cd_in z).2]
    have := T.2 p z
    omega
  · rw [(cd_no z).1, (cd_no z).2, jm1, jz0]
    omega
theorem ltr_sp (T : Tt n c) (h : ltr n c p = true) : ∃ q, q < 12 ∧ p < n ∧ c p = nI (97 + q) := by
  have h := of_decide_eq_true h
  have z : p < n := by
    refine Classical.byContradiction (fun z => ?_)
    rw [(cd_no z).2] at h
    exact absurd h (by decide)
  rw [(cd_in z).2] at h
  exact ⟨((c p).toInt - 97).toNat, by omega, z, j_eq.mpr (by rw [j_nI (by omega)]; omega)⟩
theorem ltr_of {q : Nat} (hq : q < 12) (hp : p < n) (e : c p = nI (97 + q)) : ltr n c p = true := by
  refine decide_eq_true ?_
  rw [(cd_in hp).2, e, j_nI (by omega)]
  omega
theorem l_sub {q : Nat} (hq : q < 12) : nI (97 + q) - 97 = nI q := by
  have e : (nI (97 + q)).toInt = ((97 + q : Nat) : Int) := j_nI (by omega)
  refine j_eq.mpr ?_
  rw [j_sub (by rw [e, i97]; omega) (by rw [e, i97]; omega), e, i97, j_nI (by omega)]
  omega
theorem s_tb139 (g l3 : Int32) (sp : Int) (hsp : -1 ≤ sp ∧ sp < 12) (h : CS n c σ p m) : ∃ σ1, fX6_passTabs_139 440 σ g (oI sp) l3 = some (decide (0 < l3.toInt), σ1) ∧ CS n c σ1 p m ∧ Fc σ σ1 ∧ pv σ1 443 = fing g.toInt sp (pv σ 443) := by
  have esp : (oI sp).toInt = sp := j_oI (by omega) (by omega)
  have fin : ∀ a : Int32, ∃ σ1, fX6_passTabs_162 440 σ l3 g a = some (decide (0 < l3.toInt), σ1) ∧ CS n c σ1 p m ∧ Fc σ σ1 ∧ pv σ1 443 = up (pv σ 443) 12 g.toInt a.toInt := fun a => by
    obtain ⟨σ1, a1, a2, a3⟩ := s_setActive (σ := σ) (b := 440 + 3) g a
    refine ⟨σ1, ?_, h.ou a2, Fc.ou a2, a3⟩
    unfold fX6_passTabs_162
    rw [a1, j_b]
    by_cases z : l3 ≤ 0
    · rw [if_pos z, decide_eq_false (by rw [j_le, jz0] at z; omega)]
    · rw [if_neg z, decide_eq_true (by rw [j_le, jz0] at z; omega)]
  unfold fX6_passTabs_139 fing
  by_cases z : sp = -1
  · rw [z, if_pos (show oI (-1) = (-1 : Int32) from rfl), s_shownTabAt, j_b, if_pos rfl]
    obtain ⟨σ1, a1, a2, a3, a4⟩ := fin (oI (v_sta (pv σ (440 + 3)) g.toInt (0 : Int32).toInt))
    rw [t_sta] at a4
    exact ⟨σ1, a1, a2, a3, a4⟩
  · rw [if_neg (by rw [j_eq, esp, jm1]; exact z), if_neg z]
    obtain ⟨σ1, a1, a2, a3, a4⟩ := fin (oI sp)
    rw [esp] at a4
    exact ⟨σ1, a1, a2, a3, a4⟩
theorem m_lt {q : Nat} (hm : m < 4096) : m &&& (4095 - 2 ^ q) < 4096 := and_lt hm
/-- one tab on the class's side -/
theorem t_tab1 (T : Tt n c) (h : CS n c σ p m) (hm : m < 4096) {q : Nat} (hq : q < 12) (hb : Nat.testBit m q = true) (hp : p < n) (e : c p = nI (97 + q)) (g : Int32) {sp : Int} (hsp : -1 ≤ sp ∧ sp < 12) {j : Nat} (hj : j < 12) (f : Nat) : ∃ σ2 kk p2 st', Mk n c (decide (sp ≠ -1)) (p + 1) kk p2 st' ∧ p2 ≤ n ∧ st' = decide ((if kk = 2 then (q : Int) else sp) ≠ -1) ∧ fX6_passTabs_7 440 (f + 1) σ g (oI sp) (nI j) (nI j) = fX6_passTabs_7 440 f σ2 g (oI (if kk = 2 then (q : Int) else sp)) (nI (j + 1)) (nI (j + 1)) ∧ CS n c σ2 p2 (m &&& (4095 - 2 ^ q)) ∧ Fc σ σ2 ∧ pv σ2 443 = if kk = 1 then v_hide (v_join (pv σ 443) q g.toInt) q else v_join (pv σ 443) q g.toInt := by
  have tq : (nI q).toInt = q := j_nI (by omega)
  have n120 := T.1
  obtain ⟨w3, hw3⟩ : ∃ w3 : Sg, w3 = su σ 440 3 (nI (m &&& (4095 - 2 ^ q))) := ⟨_, rfl⟩
  have c3 : CS n c w3 p (m &&& (4095 - 2 ^ q)) := by rw [hw3]; exact h.ms _
  obtain ⟨w4, hw4⟩ : ∃ w4 : Sg, w4 = su w3 440 2 (nI (p + 1)) := ⟨_, rfl⟩
  have c4 : CS n c w4 (p + 1) (m &&& (4095 - 2 ^ q)) := by rw [hw4]; exact c3.at _
  have f4 : Fc σ w4 := by rw [hw4, hw3]; exact Fc.st.tr Fc.st
  have v4 : pv w4 443 = pv σ 443 := by rw [hw4, p43, hw3, p43]
  obtain ⟨w5, a1, a2, a3⟩ := s_join (σ := w4) (b := 440 + 3) (nI q) g
  have c5 : CS n c w5 (p + 1) (m &&& (4095 - 2 ^ q)) := c4.ou a2
  have f5 : Fc σ w5 := f4.tr (Fc.ou a2)
  have v5 : pv w5 443 = v_join (pv σ 443) q g.toInt := by
    have : pv w5 443 = v_join (pv w4 443) (nI q).toInt g.toInt := a3
    rw [this, v4, tq]
  have start : fX6_passTabs_7 440 (f + 1) σ g (oI sp) (nI j) (nI j) = ((fX6_passSign w5 440 45).bind fun r6 => if r6.1 = true then (fX1_hide r6.2 (440 + 3) (nI q)).bind fun σ7 => fX6_passTabs_133 440 (fX6_passTabs_7 440 f) σ7 g (oI sp) (nI j + 1) (nI j) else if oI sp = (-1) then (fX6_passSign r6.2 440 42).bind fun r8 => if r8.1 = true then fX6_passTabs_133 440 (fX6_passTabs_7 440 f) r8.2 g (nI q) (nI j + 1) (nI j) else fX6_passTabs_133 440 (fX6_passTabs_7 440 f) r8.2 g (oI sp) (nI j + 1) (nI j) else fX6_passTabs_133 440 (fX6_passTabs_7 440 f) r6.2 g (oI sp) (nI j + 1) (nI j)) := by
    rw [fX6_passTabs_7, if_neg (by rw [j_le_nI (by omega), i12]; omega), t_code h n120 (by omega), j_b, (cd_in hp).1, e, l_sub hq, j_nm, if_neg (by rw [j_lt, tq, jz0]; omega), if_neg (by rw [j_le, tq, i12]; omega), h.2.2.2, bt_one hm hq, hb, if_pos rfl, if_neg (by decide), bt_and hm hq, j_nm, ← hw3, c3.2.2.1, j_s, j_nm, ← hw4, a1, j_b]
  have e133 : ∀ (σ' : Sg) (l2 : Int32), fX6_passTabs_133 440 (fX6_passTabs_7 440 f) σ' g l2 (nI j + 1) (nI j) = fX6_passTabs_7 440 f σ' g l2 (nI (j + 1)) (nI (j + 1)) := fun σ' l2 => by
    unfold fX6_passTabs_133
    rw [j_s]
  have esp : (oI sp).toInt = sp := j_oI (by omega) (by omega)
  have s45 := t_sign c5 n120 (by omega) 45
  by_cases z : cdm n c (p + 1) = 45
  · have z2 : cdc n c (p + 1) = 45 := (cd_c (by decide)).mpr z
    have lt := cd_lt (by decide) z
    have cs6 := c5.at (p + 1 + 1)
    have v6 : pv (su w5 440 2 (nI (p + 1 + 1))) 443 = v_join (pv σ 443) q g.toInt := p43.trans v5
    have row : ga (pv (su w5 440 2 (nI (p + 1 + 1))) 443 14) 12 (nI q).toInt = v_tc (pv σ 443) g.toInt := by
      rw [v6, tq]
      unfold v_join
      rw [up_ne (by omega), up_ne (by omega)]
      unfold ga
      rw [if_pos (by omega), Int.toNat_natCast, up14 hq, if_pos rfl]
    have tcr := v_tc_rg (pv σ 443) g.toInt
    obtain ⟨w7, b1, b2, b3⟩ := s_hide (σ := su w5 440 2 (nI (p + 1 + 1))) (b := 440 + 3) (nI q) (by
      have : ga (pv (su w5 440 2 (nI (p + 1 + 1))) (440 + 3) 14) 12 (nI q).toInt = v_tc (pv σ 443) g.toInt := row
      omega) (by
      have : ga (pv (su w5 440 2 (nI (p + 1 + 1))) (440 + 3) 14) 12 (nI q).toInt = v_tc (pv σ 443) g.toInt := row
      omega)
    refine ⟨w7, 1, p + 1 + 1, decide (sp ≠ -1), Or.inl ⟨rfl, z, rfl, rfl⟩, by omega, by rw [if_neg (by decide)], ?_, cs6.ou b2, (f5.tr Fc.st).tr (Fc.ou b2), ?_⟩
    · rw [start, s45.1 z2, j_b, if_pos rfl, if_neg (by decide)]
      dsimp only
      rw [b1, j_b, e133]
    · rw [if_pos rfl]
      have : pv w7 443 = v_hide (pv (su w5 440 2 (nI (p + 1 + 1))) 443) (nI q).toInt := b3
      rw [this, v6, tq]
  · have z2 : cdc n c (p + 1) ≠ 45 := fun y => z ((cd_c (by decide)).mp y)
    by_cases zs : sp = -1
    · have s42 := t_sign c5 n120 (by omega) 42
      by_cases y : cdm n c (p + 1) = 42
      · have y2 : cdc n c (p + 1) = 42 := (cd_c (by decide)).mpr y
        have lt := cd_lt (by decide) y
        refine ⟨su w5 440 2 (nI (p + 1 + 1)), 2, p + 1 + 1, true, Or.inr (Or.inl ⟨rfl, decide_eq_false (fun w => w zs), y, rfl, rfl⟩), by omega, by rw [if_pos rfl, decide_eq_true (by omega)], ?_, c5.at _, f5.tr Fc.st, ?_⟩
        · rw [start, s45.2 z2, j_b, if_neg (show ¬ ((false, w5) : Bool × Sg).1 = true from Bool.false_ne_true), if_pos (by rw [zs]; rfl)]
          dsimp only
          rw [s42.1 y2, j_b, if_pos rfl, if_pos rfl]
          dsimp only
          rw [e133, j_nIo q (by omega)]
        · rw [if_neg (by decide)]
          exact p43.trans v5
      · have y2 : cdc n c (p + 1) ≠ 42 := fun w => y ((cd_c (by decide)).mp w)
        refine ⟨w5, 0, p + 1, decide (sp ≠ -1), Or.inr (Or.inr ⟨rfl, z, fun _ => y, rfl, rfl⟩), by omega, by rw [if_neg (by decide)], ?_, c5, f5, ?_⟩
        · rw [start, s45.2 z2, j_b, if_neg (show ¬ ((false, w5) : Bool × Sg).1 = true from Bool.false_ne_true), if_pos (by rw [zs]; rfl)]
          dsimp only
          rw [s42.2 y2, j_b, if_neg (show ¬ ((false, w5) : Bool × Sg).1 = true from Bool.false_ne_true), if_neg (by decide)]
          dsimp only
          rw [e133]
        · rw [if_neg (by decide)]
          exact v5
    · refine ⟨w5, 0, p + 1, decide (sp ≠ -1), Or.inr (Or.inr ⟨rfl, z, fun w => absurd (of_decide_eq_false w) (fun u => u zs), rfl, rfl⟩), by omega, by rw [if_neg (by decide)], ?_, c5, f5, ?_⟩
      · rw [start, s45.2 z2, j_b, if_neg (show ¬ ((false, w5) : Bool × Sg).1 = true from Bool.false_ne_true), if_neg (by rw [j_eq, esp, jm1]; exact zs), if_neg (by decide)]
        dsimp only
        rw [e133]
      · rw [if_neg (by decide)]
        exact v5
end RAU
