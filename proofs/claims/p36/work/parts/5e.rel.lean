section
/-! THE RELATION: texts (2): the tabs of a group -/
section RAU
def Mk (n : Nat) (c : Nat → Int32) (st : Bool) (p1 kk p2 : Nat) (st' : Bool) : Prop := (kk = 1 ∧ cdm n c p1 = 45 ∧ p2 = p1 + 1 ∧ st' = st) ∨ (kk = 2 ∧ st = false ∧ cdm n c p1 = 42 ∧ p2 = p1 + 1 ∧ st' = true) ∨ (kk = 0 ∧ cdm n c p1 ≠ 45 ∧ (st = false → cdm n c p1 ≠ 42) ∧ p2 = p1 ∧ st' = st)
def Tb (n : Nat) (c : Nat → Int32) : List (Nat × Nat) → Bool → Nat → Nat → Nat → Nat → Prop
  | [], _, p, m, p', m' => p' = p ∧ m' = m
  | (q, kk) :: l, st, p, m, p', m' => q < 12 ∧ Nat.testBit m q = true ∧ p < n ∧ c p = nI (97 + q) ∧ ∃ p2 st', Mk n c st (p + 1) kk p2 st' ∧ Tb n c l st' p2 (m &&& (4095 - 2 ^ q)) p' m'
def btab (g : Int) : List (Nat × Nat) → VW → VW
  | [], V => V
  | (q, kk) :: l, V => btab g l (if kk = 1 then v_hide (v_join V q g) q else v_join V q g)
def star : List (Nat × Nat) → Int
  | [] => -1
  | (q, kk) :: l => if kk = 2 then q else star l
def fing (g sp : Int) (V : VW) : VW := up V 12 g (if sp = -1 then v_sta V g 0 else sp)
def ltr (n : Nat) (c : Nat → Int32) (p : Nat) : Bool := decide (97 ≤ (cdm n c p).toInt ∧ (cdm n c p).toInt ≤ 108)
def AL (al : Nat → Bool) (m u : Nat) : Prop := u < 4096 ∧ ∀ q, q < 12 → Nat.testBit m q = (al q && !Nat.testBit u q)
def pnx (al : Nat → Bool) (u : Nat) (x : Int32) : Bool := decide (97 ≤ x.toInt ∧ x.toInt ≤ 108) && (al (x.toInt - 97).toNat && !Nat.testBit u (x.toInt - 97).toNat)
def HA (n : Nat) (c : Nat → Int32) (al : Nat → Bool) (r : Nat → Int32) : Prop := ∀ s p u, s.1 463 = r → MT n c s p → p ≤ n → s.1 462 20 = nI u → u < 4096 → fX9_isPaneNext s 462 = some (pnx al u (cdm n c p))
def Fg (s s1 : Sg) : Prop := s1.2 = s.2 ∧ (∀ x, x ≠ 462 → s1.1 x = s.1 x) ∧ ∀ j, j ≠ 15 → j ≠ 16 → j ≠ 20 → s1.1 462 j = s.1 462 j
variable {n : Nat} {c : Nat → Int32} {σ s : Sg} {p m : Nat}
theorem Fg.rf : Fg s s := ⟨rfl, fun _ _ => rfl, fun _ _ _ _ => rfl⟩
theorem Fg.tr {s1 s2 : Sg} (h : Fg s s1) (h2 : Fg s1 s2) : Fg s s2 := ⟨h2.1.trans h.1, fun x a => (h2.2.1 x a).trans (h.2.1 x a), fun j a b d => (h2.2.2 j a b d).trans (h.2.2 j a b d)⟩
theorem Fg.st {j : Nat} {v : Int32} (h : j = 15 ∨ j = 16 ∨ j = 20) : Fg s (su s 462 j v) := ⟨rfl, fun x a => su_ne a, fun k a b d => by rw [su_at, if_neg (by omega)]⟩
theorem MT.fg {s1 : Sg} {q : Nat} (h : MT n c s p) (f : Fg s s1) (e : s1.1 462 15 = nI q) : MT n c s1 q :=
  ⟨by rw [f.2.2 5 (by omega) (by omega) (by omega)]; exact h.1, fun i hi => by rw [f.2.1 465 (by omega)]; exact h.2.1 i hi, e⟩
theorem i97 : (97 : Int32).toInt = 97 := rfl
theorem i108 : (108 : Int32).toInt = 108 := rfl
theorem i12 : (12 : Int32).toInt = 12 := rfl
theorem cd_rg (T : Tt n c) (p : Nat) : (-1 ≤ (cdc n c p).toInt ∧ (cdc n c p).toInt ≤ 126) ∧ (0 ≤ (cdm n c p).toInt ∧ (cdm n c p).toInt ≤ 126) := by
  by_cases z : p < n
  · rw [(cd_in z).1, (cd_in z).2]
    have := T.2 p z
    omega
  · rw [(cd_no z).1, (cd_no z).2, jm1, jz0]
    omega
theorem ltr_sp (T : Tt n c) (h : ltr n c p = true) : ∃ q, q < 12 ∧ p < n ∧ c p = nI (97 + q) := by
  have h := of_decide_eq_true h
  have z : p < n := by
    refine Classical.byContradiction (fun z => ?_)
    rw [(cd_no z).2] at h
    exact absurd h (by decide)
  rw [(cd_in z).2] at h
  exact ⟨((c p).toInt - 97).toNat, by omega, z, j_eq.mpr (by rw [j_nI (by omega)]; omega)⟩
theorem ltr_of {q : Nat} (hq : q < 12) (hp : p < n) (e : c p = nI (97 + q)) : ltr n c p = true := by
  refine decide_eq_true ?_
  rw [(cd_in hp).2, e, j_nI (by omega)]
  omega
theorem l_sub {q : Nat} (hq : q < 12) : nI (97 + q) - 97 = nI q := by
  have e : (nI (97 + q)).toInt = ((97 + q : Nat) : Int) := j_nI (by omega)
  refine j_eq.mpr ?_
  rw [j_sub (by rw [e, i97]; omega) (by rw [e, i97]; omega), e, i97, j_nI (by omega)]
  omega
theorem s_tb139 (g l3 : Int32) (sp : Int) (hsp : -1 ≤ sp ∧ sp < 12) (h : CS n c σ p m) : ∃ σ1, fX6_passTabs_139 440 σ g (oI sp) l3 = some (decide (0 < l3.toInt), σ1) ∧ CS n c σ1 p m ∧ Fc σ σ1 ∧ pv σ1 443 = fing g.toInt sp (pv σ 443) := by
  have esp : (oI sp).toInt = sp := j_oI (by omega) (by omega)
  have fin : ∀ a : Int32, ∃ σ1, fX6_passTabs_162 440 σ l3 g a = some (decide (0 < l3.toInt), σ1) ∧ CS n c σ1 p m ∧ Fc σ σ1 ∧ pv σ1 443 = up (pv σ 443) 12 g.toInt a.toInt := fun a => by
    obtain ⟨σ1, a1, a2, a3⟩ := s_setActive (σ := σ) (b := 440 + 3) g a
    refine ⟨σ1, ?_, h.ou a2, Fc.ou a2, a3⟩
    unfold fX6_passTabs_162
    rw [a1, j_b]
    by_cases z : l3 ≤ 0
    · rw [if_pos z, decide_eq_false (by rw [j_le, jz0] at z; omega)]
    · rw [if_neg z, decide_eq_true (by rw [j_le, jz0] at z; omega)]
  unfold fX6_passTabs_139 fing
  by_cases z : sp = -1
  · rw [z, if_pos (show oI (-1) = (-1 : Int32) from rfl), s_shownTabAt, j_b, if_pos rfl]
    obtain ⟨σ1, a1, a2, a3, a4⟩ := fin (oI (v_sta (pv σ (440 + 3)) g.toInt (0 : Int32).toInt))
    rw [t_sta] at a4
    exact ⟨σ1, a1, a2, a3, a4⟩
  · rw [if_neg (by rw [j_eq, esp, jm1]; exact z), if_neg z]
    obtain ⟨σ1, a1, a2, a3, a4⟩ := fin (oI sp)
    rw [esp] at a4
    exact ⟨σ1, a1, a2, a3, a4⟩
theorem m_lt {q : Nat} (hm : m < 4096) : m &&& (4095 - 2 ^ q) < 4096 := and_lt hm
/-- one tab on the class's side -/
theorem t_tab1 (T : Tt n c) (h : CS n c σ p m) (hm : m < 4096) {q : Nat} (hq : q < 12) (hb : Nat.testBit m q = true) (hp : p < n) (e : c p = nI (97 + q)) (g : Int32) {sp : Int} (hsp : -1 ≤ sp ∧ sp < 12) {j : Nat} (hj : j < 12) (f : Nat) : ∃ σ2 kk p2 st', Mk n c (decide (sp ≠ -1)) (p + 1) kk p2 st' ∧ p2 ≤ n ∧ st' = decide ((if kk = 2 then (q : Int) else sp) ≠ -1) ∧ fX6_passTabs_7 440 (f + 1) σ g (oI sp) (nI j) (nI j) = fX6_passTabs_7 440 f σ2 g (oI (if kk = 2 then (q : Int) else sp)) (nI (j + 1)) (nI (j + 1)) ∧ CS n c σ2 p2 (m &&& (4095 - 2 ^ q)) ∧ Fc σ σ2 ∧ pv σ2 443 = if kk = 1 then v_hide (v_join (pv σ 443) q g.toInt) q else v_join (pv σ 443) q g.toInt := by
  have tq : (nI q).toInt = q := j_nI (by omega)
  have n120 := T.1
  obtain ⟨w3, hw3⟩ : ∃ w3 : Sg, w3 = su σ 440 3 (nI (m &&& (4095 - 2 ^ q))) := ⟨_, rfl⟩
  have c3 : CS n c w3 p (m &&& (4095 - 2 ^ q)) := by rw [hw3]; exact h.ms _
  obtain ⟨w4, hw4⟩ : ∃ w4 : Sg, w4 = su w3 440 2 (nI (p + 1)) := ⟨_, rfl⟩
  have c4 : CS n c w4 (p + 1) (m &&& (4095 - 2 ^ q)) := by rw [hw4]; exact c3.at _
  have f4 : Fc σ w4 := by rw [hw4, hw3]; exact Fc.st.tr Fc.st
  have v4 : pv w4 443 = pv σ 443 := by rw [hw4, p43, hw3, p43]
  obtain ⟨w5, a1, a2, a3⟩ := s_join (σ := w4) (b := 440 + 3) (nI q) g
  have c5 : CS n c w5 (p + 1) (m &&& (4095 - 2 ^ q)) := c4.ou a2
  have f5 : Fc σ w5 := f4.tr (Fc.ou a2)
  have v5 : pv w5 443 = v_join (pv σ 443) q g.toInt := by
    have : pv w5 443 = v_join (pv w4 443) (nI q).toInt g.toInt := a3
    rw [this, v4, tq]
  have start : fX6_passTabs_7 440 (f + 1) σ g (oI sp) (nI j) (nI j) = ((fX6_passSign w5 440 45).bind fun r6 => if r6.1 = true then (fX1_hide r6.2 (440 + 3) (nI q)).bind fun σ7 => fX6_passTabs_133 440 (fX6_passTabs_7 440 f) σ7 g (oI sp) (nI j + 1) (nI j) else if oI sp = (-1) then (fX6_passSign r6.2 440 42).bind fun r8 => if r8.1 = true then fX6_passTabs_133 440 (fX6_passTabs_7 440 f) r8.2 g (nI q) (nI j + 1) (nI j) else fX6_passTabs_133 440 (fX6_passTabs_7 440 f) r8.2 g (oI sp) (nI j + 1) (nI j) else fX6_passTabs_133 440 (fX6_passTabs_7 440 f) r6.2 g (oI sp) (nI j + 1) (nI j)) := by
    rw [fX6_passTabs_7, if_neg (by rw [j_le_nI (by omega), i12]; omega), t_code h n120 (by omega), j_b, (cd_in hp).1, e, l_sub hq, j_nm, if_neg (by rw [j_lt, tq, jz0]; omega), if_neg (by rw [j_le, tq, i12]; omega), h.2.2.2, bt_one hm hq, hb, if_pos rfl, if_neg (by decide), bt_and hm hq, j_nm, ← hw3, c3.2.2.1, j_s, j_nm, ← hw4, a1, j_b]
  have e133 : ∀ (σ' : Sg) (l2 : Int32), fX6_passTabs_133 440 (fX6_passTabs_7 440 f) σ' g l2 (nI j + 1) (nI j) = fX6_passTabs_7 440 f σ' g l2 (nI (j + 1)) (nI (j + 1)) := fun σ' l2 => by
    unfold fX6_passTabs_133
    rw [j_s]
  have esp : (oI sp).toInt = sp := j_oI (by omega) (by omega)
  have s45 := t_sign c5 n120 (by omega) 45
  by_cases z : cdm n c (p + 1) = 45
  · have z2 : cdc n c (p + 1) = 45 := (cd_c (by decide)).mpr z
    have lt := cd_lt (by decide) z
    have cs6 := c5.at (p + 1 + 1)
    have v6 : pv (su w5 440 2 (nI (p + 1 + 1))) 443 = v_join (pv σ 443) q g.toInt := p43.trans v5
    have row : ga (pv (su w5 440 2 (nI (p + 1 + 1))) 443 14) 12 (nI q).toInt = v_tc (pv σ 443) g.toInt := by
      rw [v6, tq]
      unfold v_join
      rw [up_ne (by omega), up_ne (by omega)]
      unfold ga
      rw [if_pos (by omega), Int.toNat_natCast, up14 hq, if_pos rfl]
    have tcr := v_tc_rg (pv σ 443) g.toInt
    obtain ⟨w7, b1, b2, b3⟩ := s_hide (σ := su w5 440 2 (nI (p + 1 + 1))) (b := 440 + 3) (nI q) (by
      have : ga (pv (su w5 440 2 (nI (p + 1 + 1))) (440 + 3) 14) 12 (nI q).toInt = v_tc (pv σ 443) g.toInt := row
      omega) (by
      have : ga (pv (su w5 440 2 (nI (p + 1 + 1))) (440 + 3) 14) 12 (nI q).toInt = v_tc (pv σ 443) g.toInt := row
      omega)
    refine ⟨w7, 1, p + 1 + 1, decide (sp ≠ -1), Or.inl ⟨rfl, z, rfl, rfl⟩, by omega, by rw [if_neg (by decide)], ?_, cs6.ou b2, (f5.tr Fc.st).tr (Fc.ou b2), ?_⟩
    · rw [start, s45.1 z2, j_b, if_pos rfl, if_neg (by decide)]
      dsimp only
      rw [b1, j_b, e133]
    · rw [if_pos rfl]
      have : pv w7 443 = v_hide (pv (su w5 440 2 (nI (p + 1 + 1))) 443) (nI q).toInt := b3
      rw [this, v6, tq]
  · have z2 : cdc n c (p + 1) ≠ 45 := fun y => z ((cd_c (by decide)).mp y)
    by_cases zs : sp = -1
    · have s42 := t_sign c5 n120 (by omega) 42
      by_cases y : cdm n c (p + 1) = 42
      · have y2 : cdc n c (p + 1) = 42 := (cd_c (by decide)).mpr y
        have lt := cd_lt (by decide) y
        refine ⟨su w5 440 2 (nI (p + 1 + 1)), 2, p + 1 + 1, true, Or.inr (Or.inl ⟨rfl, decide_eq_false (fun w => w zs), y, rfl, rfl⟩), by omega, by rw [if_pos rfl, decide_eq_true (by omega)], ?_, c5.at _, f5.tr Fc.st, ?_⟩
        · rw [start, s45.2 z2, j_b, if_neg (show ¬ ((false, w5) : Bool × Sg).1 = true from Bool.false_ne_true), if_pos (by rw [zs]; rfl)]
          dsimp only
          rw [s42.1 y2, j_b, if_pos rfl, if_pos rfl]
          dsimp only
          rw [e133, j_nIo q (by omega)]
        · rw [if_neg (by decide)]
          exact p43.trans v5
      · have y2 : cdc n c (p + 1) ≠ 42 := fun w => y ((cd_c (by decide)).mp w)
        refine ⟨w5, 0, p + 1, decide (sp ≠ -1), Or.inr (Or.inr ⟨rfl, z, fun _ => y, rfl, rfl⟩), by omega, by rw [if_neg (by decide)], ?_, c5, f5, ?_⟩
        · rw [start, s45.2 z2, j_b, if_neg (show ¬ ((false, w5) : Bool × Sg).1 = true from Bool.false_ne_true), if_pos (by rw [zs]; rfl)]
          dsimp only
          rw [s42.2 y2, j_b, if_neg (show ¬ ((false, w5) : Bool × Sg).1 = true from Bool.false_ne_true), if_neg (by decide)]
          dsimp only
          rw [e133]
        · rw [if_neg (by decide)]
          exact v5
    · refine ⟨w5, 0, p + 1, decide (sp ≠ -1), Or.inr (Or.inr ⟨rfl, z, fun w => absurd (of_decide_eq_false w) (fun u => u zs), rfl, rfl⟩), by omega, by rw [if_neg (by decide)], ?_, c5, f5, ?_⟩
      · rw [start, s45.2 z2, j_b, if_neg (show ¬ ((false, w5) : Bool × Sg).1 = true from Bool.false_ne_true), if_neg (by rw [j_eq, esp, jm1]; exact zs), if_neg (by decide)]
        dsimp only
        rw [e133]
      · rw [if_neg (by decide)]
        exact v5
end RAU
end
section
/-! THE RELATION: texts (3): the tabs of a group, both sides -/
section RAV
variable {n : Nat} {c : Nat → Int32} {σ s : Sg} {p m : Nat}
theorem m_g121 (K : Sg → Int32 → Int32 → Int32 → Option Sg) (st : Bool) (l3 l4 l5 l6 s1 s2 : Int32) : fX9_readsGroup_121 462 K s 0 (b2i st) l3 l4 l5 l6 s1 s2 = fX9_readsGroup_238 462 K (su s 462 15 (s1 + s2)) 0 (b2i (st || !decide (l6 = 0))) l3 := by
  unfold fX9_readsGroup_121 fX9_readsGroup_134 fX9_readsGroup_139
  rw [j_nm]
  cases st
  · rw [show b2i false = 0 from rfl, if_pos rfl, if_pos rfl]
    by_cases z : l6 = 0
    · rw [if_pos z, decide_eq_true z]
      rfl
    · rw [if_neg z, if_pos rfl, decide_eq_false z]
      rfl
  · rw [show b2i true = 1 from rfl, if_neg (show ¬ ((1 : Int32) = 0) by decide), if_pos rfl]
    rfl
theorem m_g99 (K : Sg → Int32 → Int32 → Int32 → Option Sg) (st : Bool) (l3 l4 l5 l6 : Int32) : fX9_readsGroup_99 462 K s 0 (b2i st) l3 l4 l5 l6 = fX9_readsGroup_121 462 K s 0 (b2i st) l3 l4 l5 l6 (s.1 462 15) (if l5 = 0 ∧ l6 = 0 then 0 else 1) := by
  unfold fX9_readsGroup_99 fX9_readsGroup_116
  by_cases z : l5 = 0
  · by_cases y : l6 = 0
    · rw [if_pos z, if_pos y, if_pos ⟨z, y⟩]
    · rw [if_pos z, if_neg y, if_neg (fun w => y w.2)]
  · rw [if_neg z, if_neg (fun w => z w.1)]
/-- one tab on the reference's side, when nothing is made -/
theorem m_tab0 (T : Tt n c) {al : Nat → Bool} {r : Nat → Int32} (ha : HA n c al r) (hr : s.1 463 = r) (mt : MT n c s p) {q : Nat} (hq : q < 12) (hp : p < n) (e : c p = nI (97 + q)) (w : s.1 462 16 = -1) {u : Nat} (hu : s.1 462 20 = nI u) (u4 : u < 4096) (a1 : al q = true) (a2 : Nat.testBit u q = false) {st st' : Bool} {kk p2 : Nat} (k : Mk n c st (p + 1) kk p2 st') (h2 : p2 ≤ n) (f : Nat) (j : Int32) : ∃ s2, Fg s s2 ∧ MT n c s2 p2 ∧ s2.1 462 16 = -1 ∧ s2.1 462 20 = nI (u ||| 2 ^ q) ∧ fX9_readsGroup_17 462 (f + 1) s 0 (b2i st) j = (if ltr n c p2 = true then fX9_readsGroup_17 462 f s2 0 (b2i st') (j + 1) else some s2) := by
  have n120 := T.1
  have eq97 : (nI (97 + q)).toInt = ((97 + q : Nat) : Int) := j_nI (by omega)
  have px : pnx al u (cdm n c p) = true := by
    unfold pnx
    rw [(cd_in hp).2, e, eq97, decide_eq_true (by omega), show (((97 + q : Nat) : Int) - 97).toNat = q by omega, a1, a2]
    rfl
  obtain ⟨w3, hw3⟩ : ∃ w3 : Sg, w3 = su s 462 20 (nI (u ||| 2 ^ q)) := ⟨_, rfl⟩
  have w315 : w3.1 462 15 = nI p := by rw [hw3, su_at, if_neg (by omega)]; exact mt.2.2
  obtain ⟨w4, hw4⟩ : ∃ w4 : Sg, w4 = su w3 462 15 (nI (p + 1)) := ⟨_, rfl⟩
  have f4 : Fg s w4 := by rw [hw4, hw3]; exact (Fg.st (by omega)).tr (Fg.st (by omega))
  have mt4 : MT n c w4 (p + 1) := mt.fg f4 (by rw [hw4, su_at, if_pos ⟨rfl, rfl⟩])
  have g16 : w4.1 462 16 = -1 := by rw [hw4, su_at, if_neg (by omega), hw3, su_at, if_neg (by omega)]; exact w
  have g20 : w4.1 462 20 = nI (u ||| 2 ^ q) := by rw [hw4, su_at, if_neg (by omega), hw3, su_at, if_pos ⟨rfl, rfl⟩]
  have start : fX9_readsGroup_17 462 (f + 1) s 0 (b2i st) j = if cdm n c (p + 1) = 45 then fX9_readsGroup_79 462 (fX9_readsGroup_17 462 f) w4 0 (b2i st) j (nI q) 1 else fX9_readsGroup_79 462 (fX9_readsGroup_17 462 f) w4 0 (b2i st) j (nI q) 0 := by
    rw [fX9_readsGroup_17, ha s p u hr mt (by omega) hu u4, j_b, px, if_pos rfl, m_next mt n120 (by omega), j_b, (cd_in hp).2, e, l_sub hq, j_nm, hu, bt_or hq, ← hw3, j_nm, w315, j_s, ← hw4, j_nm, m_next mt4 n120 (by omega), j_b]
  have n79 : ∀ s0 : Int32, fX9_readsGroup_79 462 (fX9_readsGroup_17 462 f) w4 0 (b2i st) j (nI q) s0 = if cdm n c (p + 1) = 42 then (if b2i st = 0 then fX9_readsGroup_99 462 (fX9_readsGroup_17 462 f) w4 0 (b2i st) j (nI q) s0 1 else fX9_readsGroup_98 462 (fX9_readsGroup_17 462 f) w4 0 (b2i st) j (nI q) s0) else fX9_readsGroup_98 462 (fX9_readsGroup_17 462 f) w4 0 (b2i st) j (nI q) s0 := fun s0 => by
    unfold fX9_readsGroup_79
    rw [m_next mt4 n120 (by omega), j_b]
  have fin : ∀ (q2 : Nat) (b : Bool) (a : Int32), nI (p + 1) + a = nI q2 → q2 = p2 → fX9_readsGroup_238 462 (fX9_readsGroup_17 462 f) (su w4 462 15 (w4.1 462 15 + a)) 0 (b2i b) j = (if ltr n c p2 = true then fX9_readsGroup_17 462 f (su w4 462 15 (nI p2)) 0 (b2i b) (j + 1) else some (su w4 462 15 (nI p2))) := fun q2 b a ea eq => by
    rw [mt4.2.2, ea, eq]
    unfold fX9_readsGroup_238
    have mt5 : MT n c (su w4 462 15 (nI p2)) p2 := mt4.fg (Fg.st (by omega)) (by rw [su_at, if_pos ⟨rfl, rfl⟩])
    rw [m_next mt5 n120 h2, j_b, m_within, j_b, i97, i108]
    rfl
  refine ⟨su w4 462 15 (nI p2), f4.tr (Fg.st (by omega)), mt4.fg (Fg.st (by omega)) (by rw [su_at, if_pos ⟨rfl, rfl⟩]), by rw [su_at, if_neg (by omega)]; exact g16, by rw [su_at, if_neg (by omega)]; exact g20, ?_⟩
  have a0 : nI (p + 1) + 0 = nI (p + 1) := j_a (p + 1) 0
  rcases k with ⟨k1, k2, k3, k4⟩ | ⟨k1, k0, k2, k3, k4⟩ | ⟨k1, k2, k0, k3, k4⟩
  · rw [start, if_pos k2, n79, if_neg (by rw [k2]; decide), fX9_readsGroup_98, m_g99, if_neg (by decide), m_g121, decide_eq_true rfl, fin (p + 1 + 1) (st || !true) 1 (j_s (p + 1)) (by omega), k4]
    cases st <;> rfl
  · rw [start, if_neg (by rw [k2]; decide), n79, if_pos k2, if_pos (by rw [k0]; rfl), m_g99, if_neg (by decide), m_g121, decide_eq_false (by decide), fin (p + 1 + 1) (st || !false) 1 (j_s (p + 1)) (by omega), k4]
    cases st <;> rfl
  · have e98 : (if cdm n c (p + 1) = 42 then (if b2i st = 0 then fX9_readsGroup_99 462 (fX9_readsGroup_17 462 f) w4 0 (b2i st) j (nI q) 0 1 else fX9_readsGroup_98 462 (fX9_readsGroup_17 462 f) w4 0 (b2i st) j (nI q) 0) else fX9_readsGroup_98 462 (fX9_readsGroup_17 462 f) w4 0 (b2i st) j (nI q) 0) = fX9_readsGroup_98 462 (fX9_readsGroup_17 462 f) w4 0 (b2i st) j (nI q) 0 := by
      by_cases z : cdm n c (p + 1) = 42
      · cases hs : st
        · exact absurd z (k0 hs)
        · rw [if_pos z, if_neg (by decide)]
      · rw [if_neg z]
    rw [start, if_neg k2, n79, e98, fX9_readsGroup_98, m_g99, if_pos ⟨rfl, rfl⟩, m_g121, decide_eq_true rfl, fin (p + 1) (st || !true) 0 a0 (by omega), k4]
    cases st <;> rfl
theorem AL.tab {al : Nat → Bool} {m u q : Nat} (h : AL al m u) (hm : m < 4096) (hq : q < 12) : AL al (m &&& (4095 - 2 ^ q)) (u ||| 2 ^ q) := ⟨or_lt h.1 hq, fun i hi => by
  rw [and_bit hm hq, or_bit, h.2 i hi]
  by_cases z : i = q
  · rw [decide_eq_false (fun w => w z), decide_eq_true z, Bool.and_false, Bool.or_true]
    cases al i <;> rfl
  · rw [decide_eq_true z, decide_eq_false z, Bool.and_true, Bool.or_false]⟩
theorem sim_t7 (T : Tt n c) {al : Nat → Bool} {r : Nat → Int32} (ha : HA n c al r) (g : Int32) : ∀ (k fuel : Nat) (σ : Sg) (sp : Int) (p m j : Nat), CS n c σ p m → m < 4096 → p ≤ n → cnt (fun q => Nat.testBit m q) 12 + j ≤ 12 → j + k = 12 → k < fuel → (-1 ≤ sp ∧ sp < 12) → ∃ t σ1 p1 m1, fX6_passTabs_7 440 fuel σ g (oI sp) (nI j) (nI j) = some (decide (0 < j + t.length), σ1) ∧ CS n c σ1 p1 m1 ∧ m1 < 4096 ∧ Fc σ σ1 ∧ p ≤ p1 ∧ p1 ≤ n ∧ (t ≠ [] → p < p1 ∧ ltr n c p = true) ∧ Tb n c t (decide (sp ≠ -1)) p m p1 m1 ∧ pv σ1 443 = fing g.toInt (if sp = -1 then star t else sp) (btab g.toInt t (pv σ 443)) ∧ ∀ s u f, s.1 463 = r → MT n c s p → s.1 462 16 = -1 → s.1 462 20 = nI u → AL al m u → k < f → ∃ s1, fX9_readsGroup_17 462 f s 0 (b2i (decide (sp ≠ -1))) (nI j) = some s1 ∧ Fg s s1 ∧ ((t = [] ∨ ltr n c p1 = true) → s1.1 462 16 = nI p1) ∧ (t ≠ [] → ltr n c p1 = false → MT n c s1 p1 ∧ s1.1 462 16 = -1 ∧ ∃ u1, s1.1 462 20 = nI u1 ∧ AL al m1 u1) := by
  intro k
  induction k with
  | zero =>
    intro fuel σ sp p m j h hm hp hc hj hf hsp
    have n120 := T.1
    match fuel, hf with
    | f + 1, _ =>
      obtain ⟨σ1, a1, a2, a3, a4⟩ := s_tb139 g (nI j) sp hsp h
      have z0 : cnt (fun q => Nat.testBit m q) 12 = 0 := by omega
      refine ⟨[], σ1, p, m, ?_, a2, hm, a3, Nat.le_refl _, hp, fun w => absurd rfl w, ⟨rfl, rfl⟩, ?_, fun s u f hr mt w hu hal hf => ?_⟩
      · rw [fX6_passTabs_7, if_pos (by rw [j_le_nI (by omega), i12]; omega), a1, j_nI (by omega)]
        simp
      · rw [a4]
        by_cases z : sp = -1
        · rw [if_pos z, z]; rfl
        · rw [if_neg z]; rfl
      · match f, hf with
        | f + 1, _ =>
          refine ⟨su s 462 16 (nI p), ?_, Fg.st (by omega), fun _ => by rw [su_at, if_pos ⟨rfl, rfl⟩], fun z => absurd rfl z⟩
          have px : pnx al u (cdm n c p) = false := by
            unfold pnx
            by_cases z : 97 ≤ (cdm n c p).toInt ∧ (cdm n c p).toInt ≤ 108
            · rw [← hal.2 _ (by omega), (cnt_zero.mp z0) _ (by omega), Bool.and_false]
            · rw [decide_eq_false z, Bool.false_and]
          rw [fX9_readsGroup_17, ha s p u hr mt hp hu hal.1, j_b, px, if_neg Bool.false_ne_true, mt.2.2, j_nm]
  | succ k ih =>
    intro fuel σ sp p m j h hm hp hc hj hf hsp
    have n120 := T.1
    match fuel, hf with
    | f + 1, hf =>
      by_cases hl : ltr n c p = true ∧ Nat.testBit m ((cdm n c p).toInt - 97).toNat = true
      · obtain ⟨q, hq, pn, eq⟩ := ltr_sp T hl.1
        have eq97 : (nI (97 + q)).toInt = ((97 + q : Nat) : Int) := j_nI (by omega)
        have hb : Nat.testBit m q = true := by
          have := hl.2
          rwa [(cd_in pn).2, eq, eq97, show (((97 + q : Nat) : Int) - 97).toNat = q by omega] at this
        obtain ⟨σ2, kk, p2, st', k1, k2, k3, k4, k5, k6, k7⟩ := t_tab1 T h hm hq hb pn eq g hsp (j := j) (by omega) f
        have cn : cnt (fun i => Nat.testBit m i) 12 = cnt (fun i => Nat.testBit (m &&& (4095 - 2 ^ q)) i) 12 + 1 := cnt_one_more (i0 := q) hq (fun i _ ne => by rw [and_bit hm hq, decide_eq_true ne, Bool.and_true]) (by rw [and_bit hm hq, decide_eq_false (fun w => w rfl), Bool.and_false]) hb
        have sp2 : -1 ≤ (if kk = 2 then (q : Int) else sp) ∧ (if kk = 2 then (q : Int) else sp) < 12 := by
          by_cases z : kk = 2
          · rw [if_pos z]; omega
          · rw [if_neg z]; omega
        have p2gt : p < p2 := by
          rcases k1 with ⟨_, _, z, _⟩ | ⟨_, _, _, z, _⟩ | ⟨_, _, _, z, _⟩ <;> omega
        obtain ⟨t, σ1, p1, m1, b1, b2, b3, b4, b5, b6, b7, b8, b9, b10⟩ := ih f σ2 (if kk = 2 then (q : Int) else sp) p2 (m &&& (4095 - 2 ^ q)) (j + 1) k5 (m_lt hm) k2 (by omega) (by omega) (by omega) sp2
        rw [← k3] at b8 b10
        refine ⟨(q, kk) :: t, σ1, p1, m1, ?_, b2, b3, k6.tr b4, by omega, b6, fun _ => ⟨by omega, hl.1⟩, ⟨hq, hb, pn, eq, p2, st', k1, b8⟩, ?_, fun s u f2 hr mt w hu hal hf2 => ?_⟩
        · rw [k4, b1, List.length_cons, decide_eq_true (by omega), decide_eq_true (by omega)]
        · rw [b9, k7]
          show _ = fing g.toInt (if sp = -1 then (if kk = 2 then (q : Int) else star t) else sp) (btab g.toInt t (if kk = 1 then v_hide (v_join (pv σ 443) q g.toInt) q else v_join (pv σ 443) q g.toInt))
          congr 1
          by_cases z : sp = -1
          · rw [if_pos z]
            by_cases y : kk = 2
            · rw [if_pos y, if_pos y, if_neg (by omega)]
            · rw [if_neg y, if_neg y, if_pos z]
          · have y : kk ≠ 2 := fun y => by
              rcases k1 with ⟨a, _⟩ | ⟨_, a, _⟩ | ⟨a, _⟩
              · omega
              · exact z (Classical.byContradiction (fun w => absurd a (by rw [decide_eq_true w]; exact fun v => by cases v)))
              · omega
            rw [if_neg y, if_neg z, if_neg z]
        · match f2, hf2 with
          | f2 + 1, hf2 =>
            have am := hal.2 q hq
            rw [hb] at am
            have a1 : al q = true := by
              cases ea : al q
              · rw [ea, Bool.false_and] at am; cases am
              · rfl
            have a2 : Nat.testBit u q = false := by
              cases eb : Nat.testBit u q
              · rfl
              · rw [a1, eb] at am; cases am
            obtain ⟨s2, d1, d2, d3, d4, d5⟩ := m_tab0 T ha hr mt hq pn eq w hu hal.1 a1 a2 k1 k2 f2 (nI j)
            have al2 := hal.tab hm hq
            rw [d5, j_s]
            by_cases z : ltr n c p2 = true
            · obtain ⟨s1, e1, e2, e3, e4⟩ := b10 s2 (u ||| 2 ^ q) f2 (by rw [d1.2.1 463 (by omega)]; exact hr) d2 d3 d4 al2 (by omega)
              rw [if_pos z]
              refine ⟨s1, e1, d1.tr e2, fun y => e3 ?_, fun _ y => ?_⟩
              · rcases y with y | y
                · exact absurd y (by simp)
                · exact Or.inr y
              · by_cases te : t = []
                · have : p1 = p2 := by
                    rw [te] at b8
                    exact b8.1
                  rw [this, z] at y
                  cases y
                · exact e4 te y
            · rw [if_neg z]
              have te : t = [] := Classical.byContradiction (fun te => z (b7 te).2)
              have pe : p1 = p2 ∧ m1 = m &&& (4095 - 2 ^ q) := by
                rw [te] at b8
                exact b8
              refine ⟨s2, rfl, d1, fun y => ?_, fun _ _ => ?_⟩
              · rcases y with y | y
                · exact absurd y (by simp)
                · rw [pe.1] at y
                  exact absurd y z
              · rw [pe.1, pe.2]
                exact ⟨d2, d3, u ||| 2 ^ q, d4, al2⟩
      · obtain ⟨σ1, a1, a2, a3, a4⟩ := s_tb139 g (nI j) sp hsp h
        refine ⟨[], σ1, p, m, ?_, a2, hm, a3, Nat.le_refl _, hp, fun w => absurd rfl w, ⟨rfl, rfl⟩, ?_, fun s u f hr mt w hu hal hf => ?_⟩
        · have tj : decide (0 < (nI j).toInt) = decide (0 < j + ([] : List (Nat × Nat)).length) := by
            rw [j_nI (by omega)]
            simp
          rw [tj] at a1
          rw [fX6_passTabs_7, if_neg (by rw [j_le_nI (by omega), i12]; omega), t_code h n120 hp, j_b, j_nm]
          have rg := (cd_rg T p).1
          have e2 : (cdc n c p - 97).toInt = (cdc n c p).toInt - 97 := by rw [j_sub (by rw [i97]; omega) (by rw [i97]; omega), i97]
          by_cases z1 : cdc n c p - 97 < 0
          · rw [if_pos z1]
            exact a1
          · by_cases z2 : 12 ≤ cdc n c p - 97
            · rw [if_neg z1, if_pos z2]
              exact a1
            · rw [j_lt, e2, jz0] at z1
              rw [j_le, e2, i12] at z2
              have pn : p < n := by
                refine Classical.byContradiction (fun y => ?_)
                rw [(cd_no y).1, jm1] at z1
                omega
              have l1 : ltr n c p = true := decide_eq_true (by rw [(cd_in (c := c) pn).2, ← (cd_in (c := c) pn).1]; omega)
              obtain ⟨q, hq, _, eq⟩ := ltr_sp T l1
              have eq97 : (nI (97 + q)).toInt = ((97 + q : Nat) : Int) := j_nI (by omega)
              have hb : Nat.testBit m q = false := by
                cases eb : Nat.testBit m q
                · rfl
                · exact absurd ⟨l1, by rw [(cd_in pn).2, eq, eq97, show (((97 + q : Nat) : Int) - 97).toNat = q by omega]; exact eb⟩ hl
              have tq : (nI q).toInt = q := j_nI (by omega)
              rw [(cd_in pn).1, eq, l_sub hq, if_neg (by rw [j_lt, tq, jz0]; omega), if_neg (by rw [j_le, tq, i12]; omega), h.2.2.2, bt_one hm hq, hb, if_neg (show ¬ (false = true) from Bool.false_ne_true), if_pos (show nI 0 = (0 : Int32) from rfl)]
              exact a1
        · rw [a4]
          by_cases z : sp = -1
          · rw [if_pos z, z]; rfl
          · rw [if_neg z]; rfl
        · match f, hf with
          | f + 1, _ =>
            refine ⟨su s 462 16 (nI p), ?_, Fg.st (by omega), fun _ => by rw [su_at, if_pos ⟨rfl, rfl⟩], fun z => absurd rfl z⟩
            have px : pnx al u (cdm n c p) = false := by
              unfold pnx
              by_cases z : 97 ≤ (cdm n c p).toInt ∧ (cdm n c p).toInt ≤ 108
              · rw [← hal.2 _ (by omega), decide_eq_true z, Bool.true_and]
                cases eb : Nat.testBit m ((cdm n c p).toInt - 97).toNat
                · rfl
                · exact absurd ⟨decide_eq_true z, eb⟩ hl
              · rw [decide_eq_false z, Bool.false_and]
            rw [fX9_readsGroup_17, ha s p u hr mt hp hu hal.1, j_b, px, if_neg Bool.false_ne_true, mt.2.2, j_nm]
theorem sim_tabs (T : Tt n c) {al : Nat → Bool} {r : Nat → Int32} (ha : HA n c al r) (g : Int32) (h : CS n c σ p m) (hm : m < 4096) (hp : p ≤ n) : ∃ ok σ1 p1 m1, fX6_passTabs σ 440 g = some (ok, σ1) ∧ CS n c σ1 p1 m1 ∧ m1 < 4096 ∧ Fc σ σ1 ∧ p ≤ p1 ∧ p1 ≤ n ∧ (ok = true → p < p1 ∧ ∃ t, t ≠ [] ∧ Tb n c t false p m p1 m1 ∧ pv σ1 443 = fing g.toInt (star t) (btab g.toInt t (pv σ 443))) ∧ ∀ s u, s.1 463 = r → MT n c s p → s.1 462 16 = -1 → s.1 462 20 = nI u → AL al m u → ∃ s1, fX9_readsGroup s 462 0 = some s1 ∧ Fg s s1 ∧ ((ok = false ∨ ltr n c p1 = true) → s1.1 462 16 = nI p1) ∧ (ok = true → ltr n c p1 = false → MT n c s1 p1 ∧ s1.1 462 16 = -1 ∧ ∃ u1, s1.1 462 20 = nI u1 ∧ AL al m1 u1) := by
  obtain ⟨t, σ1, p1, m1, b1, b2, b3, b4, b5, b6, b7, b8, b9, b10⟩ := sim_t7 T ha g 12 FU σ (-1) p m 0 h hm hp (by have := cnt_le (fun q => Nat.testBit m q) 12; omega) (by omega) (by decide) (by omega)
  have et : decide (0 < 0 + t.length) = true ↔ t ≠ [] := by
    cases t <;> simp
  refine ⟨decide (0 < 0 + t.length), σ1, p1, m1, b1, b2, b3, b4, b5, b6, fun w => ⟨(b7 (et.mp w)).1, t, et.mp w, b8, ?_⟩, fun s u hr mt w hu hal => ?_⟩
  · rw [b9, if_pos rfl]
  · obtain ⟨s1, e1, e2, e3, e4⟩ := b10 s u FU hr mt w hu hal (by decide)
    refine ⟨s1, ?_, e2, fun y => e3 ?_, fun y1 y2 => e4 (et.mp y1) y2⟩
    · unfold fX9_readsGroup
      rw [if_pos rfl]
      exact e1
    · rcases y with y | y
      · exact Or.inl (Classical.byContradiction (fun z => by rw [et.mpr z] at y; cases y))
      · exact Or.inr y
end RAV
end
section
/-! THE RELATION: texts (4): the reference's stack -/
section RAW
def MS (n : Nat) (c : Nat → Int32) (s : Sg) (p u D : Nat) (cn : Nat → Nat) : Prop := MT n c s p ∧ s.1 462 16 = -1 ∧ s.1 462 19 = nI D ∧ s.1 462 20 = nI u ∧ ∀ i, i < D → s.1 473 i = nI (cn i)
def Fk (s s1 : Sg) : Prop := s1.2 = s.2 ∧ (∀ x, x ≠ 462 → x ≠ 472 → x ≠ 473 → x ≠ 474 → s1.1 x = s.1 x) ∧ ∀ j, j < 15 ∨ 22 < j ∨ j = 17 ∨ j = 18 → s1.1 462 j = s.1 462 j
def bump (cn : Nat → Nat) (D : Nat) : Nat → Nat := fun i => if i + 1 = D then cn i + 1 else cn i
def Kont (k f : Nat) (s : Sg) : Option (Int32 × Sg) := (fX9_ends_0 462 k s 0).bind fun r10 => fX9_goes_27 462 f r10.2 0 (b2i r10.1)
variable {n : Nat} {c : Nat → Int32} {σ s : Sg} {p m u D : Nat} {cn : Nat → Nat}
theorem Fk.rf : Fk s s := ⟨rfl, fun _ _ _ _ _ => rfl, fun _ _ => rfl⟩
theorem Fk.tr {s1 s2 : Sg} (h : Fk s s1) (h2 : Fk s1 s2) : Fk s s2 := ⟨h2.1.trans h.1, fun x a b d e => (h2.2.1 x a b d e).trans (h.2.1 x a b d e), fun j a => (h2.2.2 j a).trans (h.2.2 j a)⟩
theorem Fk.st {j : Nat} {v : Int32} (h : j = 15 ∨ j = 16 ∨ (19 ≤ j ∧ j ≤ 22)) : Fk s (su s 462 j v) := ⟨rfl, fun x a _ _ _ => su_ne a, fun k a => by rw [su_at, if_neg (by omega)]⟩
theorem Fk.ar {x j : Nat} {v : Int32} (h : x = 472 ∨ x = 473 ∨ x = 474) : Fk s (su s x j v) := ⟨rfl, fun y a b d e => su_ne (by omega), fun k a => by rw [su_ne (by omega)]⟩
theorem Fk.fz {s1 : Sg} (h : Fz s s1) : Fk s s1 := ⟨h.1, fun x a _ _ _ => h.2.1 x a, fun j a => h.2.2 j (by omega) (by omega) (by omega)⟩
theorem Fk.fg {s1 : Sg} (h : Fg s s1) : Fk s s1 := ⟨h.1, fun x a _ _ _ => h.2.1 x a, fun j a => h.2.2 j (by omega) (by omega) (by omega)⟩
theorem MT.fm {s1 : Sg} {q : Nat} (h : MT n c s p) (f : Fk s s1) (e : s1.1 462 15 = nI q) : MT n c s1 q :=
  ⟨by rw [f.2.2 5 (by omega)]; exact h.1, fun i hi => by rw [f.2.1 465 (by omega) (by omega) (by omega) (by omega)]; exact h.2.1 i hi, e⟩
theorem MS.at (h : MS n c s p u D cn) (q : Nat) : MS n c (su s 462 15 (nI q)) q u D cn :=
  ⟨h.1.fm (Fk.st (by omega)) (by rw [su_at, if_pos ⟨rfl, rfl⟩]), by rw [su_at, if_neg (by omega)]; exact h.2.1, by rw [su_at, if_neg (by omega)]; exact h.2.2.1, by rw [su_at, if_neg (by omega)]; exact h.2.2.2.1, fun i hi => by rw [su_ne (by omega)]; exact h.2.2.2.2 i hi⟩
/-- after a weight -/
theorem MS.we {s1 : Sg} {q : Nat} (h : MS n c s p u D cn) (f : Fz s s1) (mt : MT n c s1 q) (w : s1.1 462 16 = -1) : MS n c s1 q u D cn :=
  ⟨mt, w, by rw [f.2.2 19 (by omega) (by omega) (by omega)]; exact h.2.2.1, by rw [f.2.2 20 (by omega) (by omega) (by omega)]; exact h.2.2.2.1, fun i hi => by rw [f.2.1 473 (by omega)]; exact h.2.2.2.2 i hi⟩
/-- after a group -/
theorem MS.gr {s1 : Sg} {q u1 : Nat} (h : MS n c s p u D cn) (f : Fg s s1) (mt : MT n c s1 q) (w : s1.1 462 16 = -1) (e : s1.1 462 20 = nI u1) : MS n c s1 q u1 D cn :=
  ⟨mt, w, by rw [f.2.2 19 (by omega) (by omega) (by omega)]; exact h.2.2.1, e, fun i hi => by rw [f.2.1 473 (by omega)]; exact h.2.2.2.2 i hi⟩
theorem g27_dead {q : Nat} (hq : q < 1000) (w : s.1 462 16 = nI q) (f : Nat) (l1 x : Int32) : fX9_goes_27 462 (f + 1) s l1 x = some (nI q, s) := by
  have ne : ¬ s.1 462 16 = -1 := by rw [w]; exact nI_m1 (by omega)
  have e96 : fX9_goes_96 462 s = some (nI q, s) := by
    unfold fX9_goes_96 fX9_goes_123
    rw [if_neg ne, w]
  rw [fX9_goes_27]
  by_cases z : x = 0
  · rw [if_pos z, e96]
  · rw [if_neg z, if_neg ne, e96]
theorem m_join0 (h : MS n c s p u D cn) (hD : D < 100) (x : Int32) : ∃ s1, fX9_joins s 462 x 0 = some s1 ∧ Fk s s1 ∧ MS n c s1 p u D (bump cn D) := by
  unfold fX9_joins fX9_joins_61
  by_cases z : D = 0
  · refine ⟨s, ?_, Fk.rf, h.1, h.2.1, h.2.2.1, h.2.2.2.1, fun i hi => absurd hi (by omega)⟩
    rw [h.2.2.1, z, if_pos (show nI 0 ≤ (0 : Int32) by decide)]
  · have ed : nI D - 1 = nI (D - 1) := by
      refine j_eq.mpr ?_
      rw [j_sub (by rw [j_nI (by omega), jz1]; omega) (by rw [j_nI (by omega), jz1]; omega), j_nI (by omega), j_nI (by omega), jz1]
      omega
    have c1 := h.2.2.2.2 (D - 1) (by omega)
    refine ⟨su s 473 (D - 1) (nI (cn (D - 1) + 1)), ?_, Fk.ar (by omega), h.1.fm (Fk.ar (by omega)) (by rw [su_ne (by omega)]; exact h.1.2.2), by rw [su_ne (by omega)]; exact h.2.1, by rw [su_ne (by omega)]; exact h.2.2.1, by rw [su_ne (by omega)]; exact h.2.2.2.1, fun i hi => ?_⟩
    · rw [h.2.2.1, if_neg (by rw [j_le, j_nI (by omega), jz0]; omega), if_pos rfl, ed, j_nm, if_pos (j_ckn (by omega) (by decide)), if_pos (j_ckn (by omega) (by decide)), j_cl _ (by omega), show (462 + 11 : Nat) = 473 from rfl, c1, j_s, j_nm]
    · unfold bump
      by_cases y : i = D - 1
      · rw [su_at, if_pos ⟨rfl, y⟩, if_pos (by omega), y]
      · rw [su_at, if_neg (fun w => y w.2), if_neg (by omega)]
        exact h.2.2.2.2 i hi
/-- reading a weight when something is wrong already -/
theorem m_wdead (T : Tt n c) (mt : MT n c s p) (hp : p ≤ n) {k : Nat} (hk : k < 1000) (w : s.1 462 16 = nI k) : ∃ s1, fX9_readsWeight s 462 = some s1 ∧ Fz s s1 ∧ s1.1 462 16 = nI k := by
  have n120 := T.1
  have ne : ¬ s.1 462 16 = -1 := by rw [w]; exact nI_m1 (by omega)
  have mt1 : MT n c (su s 462 22 0) p := mt.fw (Fz.st (by omega)) (by rw [su_at, if_neg (by omega)]; exact mt.2.2)
  have e16 : (su s 462 22 0).1 462 16 = nI k := by rw [su_at, if_neg (by omega)]; exact w
  have ne1 : ¬ (su s 462 22 0).1 462 16 = -1 := by rw [e16]; exact nI_m1 (by omega)
  unfold fX9_readsWeight fX9_readsWeight_41
  rw [j_nm, m_next mt1 n120 hp, j_b, m_within, j_b]
  by_cases z : (49 : Int32).toInt ≤ (cdm n c p).toInt ∧ (cdm n c p).toInt ≤ (57 : Int32).toInt
  · obtain ⟨s3, e1, e2, e3⟩ := m_w120b mt1 n120 hp hk e16
    refine ⟨s3, ?_, (Fz.st (by omega)).tr e2, e3⟩
    rw [decide_eq_true z, if_pos rfl, show b2i true = 1 from rfl, show FU = 5999 + 1 from rfl, fX9_readsWeight_44, if_neg (show ¬ ((1 : Int32) = 0) by decide), if_neg ne1]
    exact e1
  · obtain ⟨s2, hs2⟩ : ∃ s2 : Sg, s2 = su (su s 462 22 0) 462 16 (nI k) := ⟨_, rfl⟩
    have fw2 : Fz s s2 := by rw [hs2]; exact (Fz.st (by omega)).tr (Fz.st (by omega))
    have w2 : s2.1 462 16 = nI k := by rw [hs2, su_at, if_pos ⟨rfl, rfl⟩]
    have mt2 : MT n c s2 p := mt.fw fw2 (by rw [hs2, su_at, if_neg (by omega), su_at, if_neg (by omega)]; exact mt.2.2)
    obtain ⟨s3, e1, e2, e3⟩ := m_w120b mt2 n120 hp hk w2
    refine ⟨s3, ?_, fw2.tr e2, e3⟩
    rw [decide_eq_false z, if_neg Bool.false_ne_true, if_neg ne1, e16, j_nm, ← hs2, show b2i false = 0 from rfl, show FU = 5999 + 1 from rfl, fX9_readsWeight_44, if_pos rfl]
    exact e1
theorem m_open (T : Tt n c) (h : MS n c s p u D cn) (hp : p < n) (hD : D < 100) : (cdm n c (p + 1) = 40 → ∃ s5, (∀ s6, fX9_readsWeight s5 462 = some s6 → fX9_opens s 462 0 = some s6) ∧ Fk s s5 ∧ MS n c s5 (p + 2) u (D + 1) (fun i => if i = D then 0 else cn i)) ∧ (cdm n c (p + 1) ≠ 40 → ∃ s5, fX9_opens s 462 0 = some s5 ∧ Fk s s5 ∧ s5.1 462 16 = nI (p + 1)) := by
  have n120 := T.1
  obtain ⟨w2, hw2⟩ : ∃ w2 : Sg, w2 = su s 462 15 (nI (p + 1)) := ⟨_, rfl⟩
  have m2 : MS n c w2 (p + 1) u D cn := by rw [hw2]; exact h.at _
  have start : fX9_opens s 462 0 = fX9_opens_14 462 s 0 1 ∨ fX9_opens s 462 0 = fX9_opens_14 462 s 0 0 := by
    unfold fX9_opens
    rw [m_next h.1 n120 (by omega), j_b]
    by_cases z : cdm n c p = 86
    · rw [if_pos z]; exact Or.inl rfl
    · rw [if_neg z]; exact Or.inr rfl
  have core : ∀ (w3 : Sg) (b : Bool) (s0 : Int32), fX9_takes_ w2 462 40 1 = some (b, w3) → w3.1 462 19 = nI D → ∃ s5, s5 = su (su (su w3 474 D (w3.1 462 22)) 473 D 0) 462 19 (nI (D + 1)) ∧ ∀ s6, fX9_readsWeight s5 462 = some s6 → fX9_opens_14 462 s 0 s0 = some s6 := fun w3 b s0 tk e19 => by
    refine ⟨_, rfl, fun s6 e6 => ?_⟩
    obtain ⟨w4, hw4⟩ : ∃ w4 : Sg, w4 = su w3 474 D (w3.1 462 22) := ⟨_, rfl⟩
    obtain ⟨w5, hw5⟩ : ∃ w5 : Sg, w5 = su w4 473 D 0 := ⟨_, rfl⟩
    have e4 : w4.1 462 19 = nI D := by rw [hw4, su_ne (by omega)]; exact e19
    have e5 : w5.1 462 19 = nI D := by rw [hw5, su_ne (by omega)]; exact e4
    rw [← hw4, ← hw5] at e6
    unfold fX9_opens_14 fX9_opens_89
    rw [h.1.2.2, j_s, j_nm, ← hw2, tk, j_b]
    show (if ck (w3.1 462 19) 130 then nm (su w3 (462 + 12) (w3.1 462 19).toNatClampNeg (w3.1 462 22)) _ else none) = _
    rw [e19, if_pos (j_ckn (by omega) (by decide)), j_cl _ (by omega), show (462 + 12 : Nat) = 474 from rfl, ← hw4, j_nm, e4, if_pos (j_ckn (by omega) (by decide)), j_cl _ (by omega), show (462 + 11 : Nat) = 473 from rfl, ← hw5, j_nm, if_pos rfl, e5, j_s, j_nm, e6, j_b]
  refine ⟨fun e => ?_, fun e => ?_⟩
  · have tk := (m_take m2.1 n120 (by omega) 40).1 m2.2.1 e
    obtain ⟨w3, hw3⟩ : ∃ w3 : Sg, w3 = su w2 462 15 (nI (p + 1 + 1)) := ⟨_, rfl⟩
    rw [← hw3] at tk
    have m3 : MS n c w3 (p + 2) u D cn := by rw [hw3]; exact m2.at _
    obtain ⟨s5, h5, r5⟩ := core w3 true 1 tk m3.2.2.1
    obtain ⟨s5', h5', r5'⟩ := core w3 true 0 tk m3.2.2.1
    have f35 : Fk w3 s5 := by rw [h5]; exact ((Fk.ar (by omega)).tr (Fk.ar (by omega))).tr (Fk.st (by omega))
    have f23 : Fk s w3 := by rw [hw3, hw2]; exact (Fk.st (by omega)).tr (Fk.st (by omega))
    refine ⟨s5, fun s6 e6 => ?_, f23.tr f35, m3.1.fm f35 ?_, ?_, ?_, ?_, fun i hi => ?_⟩
    · rcases start with z | z
      · rw [z]; exact r5 s6 e6
      · rw [z]; exact r5' s6 (by rw [h5', ← h5]; exact e6)
    · rw [h5, su_at, if_neg (by omega), su_ne (by omega), su_ne (by omega)]; exact m3.1.2.2
    · rw [h5, su_at, if_neg (by omega), su_ne (by omega), su_ne (by omega)]; exact m3.2.1
    · rw [h5, su_at, if_pos ⟨rfl, rfl⟩]
    · rw [h5, su_at, if_neg (by omega), su_ne (by omega), su_ne (by omega)]; exact m3.2.2.2.1
    · rw [h5, su_ne (by omega)]
      show _ = nI (if i = D then 0 else cn i)
      by_cases y : i = D
      · rw [su_at, if_pos ⟨rfl, y⟩, if_pos y]; rfl
      · rw [su_at, if_neg (fun w => y w.2), if_neg y, su_ne (by omega)]
        exact m3.2.2.2.2 i (by omega)
  · have tk := (m_take m2.1 n120 (by omega) 40).2.1 m2.2.1 e
    obtain ⟨w3, hw3⟩ : ∃ w3 : Sg, w3 = su w2 462 16 (nI (p + 1)) := ⟨_, rfl⟩
    rw [← hw3] at tk
    have e19 : w3.1 462 19 = nI D := by rw [hw3, su_at, if_neg (by omega)]; exact m2.2.2.1
    obtain ⟨s5, h5, r5⟩ := core w3 false 1 tk e19
    obtain ⟨s5', h5', r5'⟩ := core w3 false 0 tk e19
    have f35 : Fk w3 s5 := by rw [h5]; exact ((Fk.ar (by omega)).tr (Fk.ar (by omega))).tr (Fk.st (by omega))
    have f23 : Fk s w3 := by rw [hw3, hw2]; exact (Fk.st (by omega)).tr (Fk.st (by omega))
    have w5 : s5.1 462 16 = nI (p + 1) := by rw [h5, su_at, if_neg (by omega), su_ne (by omega), su_ne (by omega), hw3, su_at, if_pos ⟨rfl, rfl⟩]
    have m5 : MT n c s5 (p + 1) := m2.1.fm (Fk.tr (by rw [hw3]; exact Fk.st (by omega)) f35) (by rw [h5, su_at, if_neg (by omega), su_ne (by omega), su_ne (by omega), hw3, su_at, if_neg (by omega)]; exact m2.1.2.2)
    obtain ⟨s6, a1, a2, a3⟩ := m_wdead T m5 (by omega) (k := p + 1) (by omega) w5
    refine ⟨s6, ?_, (f23.tr f35).tr (Fk.fz a2), a3⟩
    rcases start with z | z
    · rw [z]; exact r5 s6 a1
    · rw [z]; exact r5' s6 (by rw [h5', ← h5]; exact a1)
end RAW
end
section
/-! THE RELATION: texts (5): behind a tree; what a text says -/
section RAX
variable {n : Nat} {c : Nat → Int32} {σ s : Sg} {p m u D : Nat} {cn : Nat → Nat}
theorem dm1 (hD : 0 < D) (h : D < 100) : nI D - 1 = nI (D - 1) := by
  refine j_eq.mpr ?_
  rw [j_sub (by rw [j_nI (by omega), jz1]; omega) (by rw [j_nI (by omega), jz1]; omega), j_nI (by omega), j_nI (by omega), jz1]
  omega
/-- a split ends -/
theorem k_close (T : Tt n c) (h : MS n c s p u D cn) (hp : p ≤ n) (hD : 0 < D) (h99 : D < 100) (e : cdm n c p = 41) (c2 : 2 ≤ cn (D - 1)) (c9 : cn (D - 1) < 1000) (k f : Nat) : ∃ s1, Kont (k + 1) f s = Kont k f s1 ∧ Fk s s1 ∧ MS n c s1 (p + 1) u (D - 1) (bump cn (D - 1)) := by
  obtain ⟨w2, hw2⟩ : ∃ w2 : Sg, w2 = su s 462 15 (nI (p + 1)) := ⟨_, rfl⟩
  have m2 : MS n c w2 (p + 1) u D cn := by rw [hw2]; exact h.at _
  obtain ⟨w3, hw3⟩ : ∃ w3 : Sg, w3 = su w2 462 19 (nI (D - 1)) := ⟨_, rfl⟩
  have e3 : w3.1 462 19 = nI (D - 1) := by rw [hw3, su_at, if_pos ⟨rfl, rfl⟩]
  obtain ⟨w4, hw4⟩ : ∃ w4 : Sg, w4 = su w3 462 21 (w3.1 472 (D - 1)) := ⟨_, rfl⟩
  have e4 : w4.1 462 19 = nI (D - 1) := by rw [hw4, su_at, if_neg (by omega)]; exact e3
  have f4 : Fk w2 w4 := by rw [hw4, hw3]; exact (Fk.st (by omega)).tr (Fk.st (by omega))
  have m4 : MS n c w4 (p + 1) u (D - 1) cn := ⟨m2.1.fm f4 (by rw [hw4, su_at, if_neg (by omega), hw3, su_at, if_neg (by omega)]; exact m2.1.2.2), by rw [hw4, su_at, if_neg (by omega), hw3, su_at, if_neg (by omega)]; exact m2.2.1, e4, by rw [hw4, su_at, if_neg (by omega), hw3, su_at, if_neg (by omega)]; exact m2.2.2.2.1, fun i hi => by rw [hw4, su_ne (by omega), hw3, su_ne (by omega)]; exact m2.2.2.2.2 i (by omega)⟩
  obtain ⟨s1, a1, a2, a3⟩ := m_join0 m4 (by omega) (w4.1 474 (D - 1))
  refine ⟨s1, ?_, Fk.tr (by rw [hw2]; exact Fk.st (by omega)) (f4.tr a2), a3⟩
  unfold Kont
  rw [fX9_ends_0, h.2.2.1, if_neg (by rw [j_le, j_nI (by omega), jz0]; omega), if_pos h.2.1, m_next h.1 T.1 hp, j_b, if_pos e, dm1 hD h99, if_pos (j_ckn (by omega) (by decide)), j_cl _ (by omega), show (462 + 11 : Nat) = 473 from rfl, h.2.2.2.2 (D - 1) (by omega), if_neg (by rw [j_le, j_nI (by omega), jz1]; omega), h.1.2.2, j_s, ← hw2, j_nm, m2.2.2.1, dm1 hD h99, ← hw3, j_nm, e3, if_pos (j_ckn (by omega) (by decide)), j_cl _ (by omega), show (462 + 10 : Nat) = 472 from rfl, ← hw4, j_nm, e4, if_pos (j_ckn (by omega) (by decide)), j_cl _ (by omega), show (462 + 12 : Nat) = 474 from rfl, a1, j_b]
theorem k_89 (T : Tt n c) (h : MS n c s p u D cn) (hp : p ≤ n) (hD : 0 < D) (h99 : D < 100) (e : cdm n c p ≠ 41 ∨ cn (D - 1) ≤ 1) (k f : Nat) : Kont (k + 1) f s = (fX9_ends_89 462 s).bind fun r10 => fX9_goes_27 462 f r10.2 0 (b2i r10.1) := by
  unfold Kont
  rw [fX9_ends_0, h.2.2.1, if_neg (by rw [j_le, j_nI (by omega), jz0]; omega), if_pos h.2.1, m_next h.1 T.1 hp, j_b]
  by_cases z : cdm n c p = 41
  · have c1 : cn (D - 1) ≤ 1 := by
      rcases e with y | y
      · exact absurd z y
      · exact y
    rw [if_pos z, dm1 hD h99, if_pos (j_ckn (by omega) (by decide)), j_cl _ (by omega), show (462 + 11 : Nat) = 473 from rfl, h.2.2.2.2 (D - 1) (by omega), if_pos (by rw [j_le, j_nI (by omega), jz1]; omega)]
  · rw [if_neg z]
/-- another tree follows -/
theorem k_comma (T : Tt n c) (h : MS n c s p u D cn) (hp : p ≤ n) (hD : 0 < D) (h99 : D < 100) (e : cdm n c p = 44) (k f : Nat) {s7 : Sg} (h7 : fX9_readsWeight (su s 462 15 (nI (p + 1))) 462 = some s7) (w : s7.1 462 16 = -1 ∨ ∃ q, q < 1000 ∧ s7.1 462 16 = nI q) : Kont (k + 1) (f + 1) s = fX9_goes_27 462 (f + 1) s7 0 1 := by
  have m2 : MS n c (su s 462 15 (nI (p + 1))) (p + 1) u D cn := h.at _
  rw [k_89 T h hp hD h99 (Or.inl (by rw [e]; decide)) k]
  unfold fX9_ends_89 fX9_ends_126
  rw [h.2.2.1, if_neg (by rw [j_eq, j_nI (by omega), jz0]; omega), if_pos h.2.1, (m_take h.1 T.1 hp 44).1 h.2.1 e, j_b]
  dsimp only
  rw [m2.2.1, if_pos rfl, h7, j_b]
  rcases w with w | ⟨q, hq, w⟩
  · rw [if_pos w, j_b]
    rfl
  · rw [if_neg (by rw [w]; exact nI_m1 (by omega)), j_b]
    dsimp only
    rw [g27_dead hq w, g27_dead hq w]
/-- nothing that may stand there -/
theorem k_dead (T : Tt n c) (h : MS n c s p u D cn) (hp : p ≤ n) (hD : 0 < D) (h99 : D < 100) (e : cdm n c p ≠ 44) (e2 : cdm n c p ≠ 41 ∨ cn (D - 1) ≤ 1) (k f : Nat) : ∃ s1, Kont (k + 1) (f + 1) s = some (nI p, s1) ∧ Fk s s1 := by
  have n120 := T.1
  refine ⟨su s 462 16 (nI p), ?_, Fk.st (by omega)⟩
  rw [k_89 T h hp hD h99 e2 k]
  unfold fX9_ends_89 fX9_ends_126
  have w : (su s 462 16 (nI p)).1 462 16 = nI p := by rw [su_at, if_pos ⟨rfl, rfl⟩]
  have ne : ¬ (su s 462 16 (nI p)).1 462 16 = -1 := by rw [w]; exact nI_m1 (by omega)
  rw [h.2.2.1, if_neg (by rw [j_eq, j_nI (by omega), jz0]; omega), if_pos h.2.1, (m_take h.1 T.1 hp 44).2.1 h.2.1 e, j_b]
  dsimp only
  rw [if_neg ne, if_neg ne, j_b]
  dsimp only
  rw [g27_dead (by omega) w]
/-- the text ends, or goes on behind its tree -/
theorem k_root (h : MS n c s p u 0 cn) (hp : p ≤ n) (hn : n ≤ 120) (k f : Nat) : (p = n → Kont (k + 1) (f + 1) s = some (-1, s)) ∧ (p < n → ∃ s1, Kont (k + 1) (f + 1) s = some (nI p, s1) ∧ Fk s s1) := by
  have e : Kont (k + 1) (f + 1) s = fX9_goes_96 462 s := by
    unfold Kont
    rw [fX9_ends_0, h.2.2.1, if_pos (show nI 0 ≤ (0 : Int32) by decide), fX9_ends_89, h.2.2.1, if_pos (show nI 0 = (0 : Int32) from rfl), j_b]
    dsimp only
    rw [show b2i false = 0 from rfl, fX9_goes_27, if_pos rfl]
  rw [e]
  unfold fX9_goes_96 fX9_goes_123
  rw [if_pos h.2.1, h.1.1, h.1.2.2]
  refine ⟨fun z => ?_, fun z => ?_⟩
  · rw [if_pos (by rw [j_le, j_nI (by omega), j_nI (by omega)]; omega), h.2.1]
  · refine ⟨su s 462 16 (nI p), ?_, Fk.st (by omega)⟩
    rw [if_neg (by rw [j_le, j_nI (by omega), j_nI (by omega)]; omega), j_nm, su_at, if_pos ⟨rfl, rfl⟩]
/-! what a text says: the relations that the rules of the grammar generate -/
def att (rt : Bool) (V : VW) (k sp w : Int) : VW := if rt then up (up V 8 (v_mn V) k) 5 0 (v_mn V) else v_attach (up V 8 (v_mn V) k) (v_mn V) sp (v_cc (up V 8 (v_mn V) k) sp) w
def bgrp (rt : Bool) (V : VW) (sp w : Int) (t : List (Nat × Nat)) : VW := fing (v_mn V) (star t) (btab (v_mn V) t (att rt V 2 sp w))
def Wt (n : Nat) (c : Nat → Int32) (p : Nat) (w : Int) (p1 : Nat) : Prop := (1 ≤ w ∧ w ≤ 1000000) ∧ p < p1 ∧ p1 ≤ n ∧ ∀ s, MT n c s p → s.1 462 16 = -1 → ∃ s1, fX9_readsWeight s 462 = some s1 ∧ Fz s s1 ∧ MT n c s1 p1 ∧ s1.1 462 16 = -1 ∧ s1.1 462 22 = oI w
def Clo (n : Nat) (c : Nat → Int32) (RT : Bool → Int → Int → Nat → Nat → VW → Nat → Nat → VW → Prop) (RK : Int → Nat → Nat → Nat → VW → Nat → Nat → VW → Prop) : Prop :=
  (∀ rt sp w p m V p' m' t, t ≠ [] → Tb n c t false p m p' m' → p' ≤ n → ltr n c p' = false → RT rt sp w p m V p' m' (bgrp rt V sp w t)) ∧
  (∀ rt sp w p m V p2 m2 V2 (k : Int), (k = 0 ∧ cdm n c p = 72) ∨ (k = 1 ∧ cdm n c p = 86) → cdm n c (p + 1) = 40 → RK (v_mn V) 0 (p + 2) m (att rt V k sp w) p2 m2 V2 → cdm n c p2 = 41 → RT rt sp w p m V (p2 + 1) m2 V2) ∧
  (∀ sp j p m V w p1 p2 m2 V2 p' m' V', Wt n c p w p1 → RT false sp w p1 m V p2 m2 V2 → cdm n c p2 = 44 → RK sp (j + 1) (p2 + 1) m2 V2 p' m' V' → RK sp j p m V p' m' V') ∧
  (∀ sp j p m V w p1 p2 m2 V2, 1 ≤ j → Wt n c p w p1 → RT false sp w p1 m V p2 m2 V2 → cdm n c p2 = 41 → RK sp j p m V p2 m2 V2)
def ParT (n : Nat) (c : Nat → Int32) (rt : Bool) (sp w : Int) (p m : Nat) (V : VW) (p' m' : Nat) (V' : VW) : Prop := ∀ RT RK, Clo n c RT RK → RT rt sp w p m V p' m' V'
def ParK (n : Nat) (c : Nat → Int32) (sp : Int) (j p m : Nat) (V : VW) (p' m' : Nat) (V' : VW) : Prop := ∀ RT RK, Clo n c RT RK → RK sp j p m V p' m' V'
theorem par_clo : Clo n c (ParT n c) (ParK n c) :=
  ⟨fun rt sp w p m V p' m' t a1 a2 a3 a4 RT RK h => h.1 rt sp w p m V p' m' t a1 a2 a3 a4, fun rt sp w p m V p2 m2 V2 k a1 a2 a3 a4 RT RK h => h.2.1 rt sp w p m V p2 m2 V2 k a1 a2 (a3 RT RK h) a4, fun sp j p m V w p1 p2 m2 V2 p' m' V' a1 a2 a3 a4 RT RK h => h.2.2.1 sp j p m V w p1 p2 m2 V2 p' m' V' a1 (a2 RT RK h) a3 (a4 RT RK h), fun sp j p m V w p1 p2 m2 V2 a1 a2 a3 a4 RT RK h => h.2.2.2 sp j p m V w p1 p2 m2 V2 a1 a2 (a3 RT RK h) a4⟩
/-- a node is made and put into its place -/
theorem t_node (rc : Sg → Nat → Int32 → Int32 → Int32 → Option (Bool × Sg)) (h : CS n c σ p m) (sp w k : Int32) {dep : Nat} (hd : dep < 1000) : ∃ σ1, fX6_passTree_35 440 rc σ sp w (nI dep) k = fX6_passTree_84 440 rc σ1 (nI dep) k (oI (v_mn (pv σ 443))) ∧ CS n c σ1 p m ∧ Fc σ σ1 ∧ pv σ1 443 = att (decide (dep = 0)) (pv σ 443) k.toInt sp.toInt w.toInt := by
  obtain ⟨w1, a1, a2, a3⟩ := s_makeNode (σ := σ) (b := 440 + 3) k
  have a3' : pv w1 443 = up (pv σ 443) 8 (v_mn (pv σ 443)) k.toInt := a3
  unfold fX6_passTree_35 att
  rw [a1, j_b]
  dsimp only
  by_cases z : dep = 0
  · obtain ⟨w2, b1, b2, b3⟩ := s_setRoot (σ := w1) (b := 440 + 3) 0 (oI (v_mn (pv σ (440 + 3))))
    refine ⟨w2, ?_, (h.ou a2).ou b2, (Fc.ou a2).tr (Fc.ou b2), ?_⟩
    · rw [z, if_pos (show nI 0 = (0 : Int32) from rfl), b1, j_b]
    · rw [decide_eq_true z, if_pos rfl]
      have : pv w2 443 = up (pv w1 443) 5 (0 : Int32).toInt (oI (v_mn (pv σ 443))).toInt := b3
      rw [this, a3', t_mn, jz0]
  · obtain ⟨w2, b1, b2, b3⟩ := s_attach (σ := w1) (b := 440 + 3) (oI (v_mn (pv σ (440 + 3)))) sp (oI (v_cc (pv w1 (440 + 3)) sp.toInt)) w
    refine ⟨w2, ?_, (h.ou a2).ou b2, (Fc.ou a2).tr (Fc.ou b2), ?_⟩
    · rw [if_neg (by rw [j_eq, j_nI (by omega), jz0]; omega), s_childCount, j_b, b1, j_b]
    · rw [decide_eq_false z, if_neg Bool.false_ne_true]
      have : pv w2 443 = v_attach (pv w1 443) (oI (v_mn (pv σ 443))).toInt sp.toInt (oI (v_cc (pv w1 443) sp.toInt)).toInt w.toInt := b3
      rw [this, t_mn, t_cc, a3']
end RAX
end
section
/-! THE RELATION: texts (6): the tree, both sides -/
section RAY
def Dd (X : Option (Int32 × Sg)) (s : Sg) (p1 : Nat) : Prop := ∃ s1, X = some (nI p1, s1) ∧ Fk s s1
def Lv (n : Nat) (c : Nat → Int32) (al : Nat → Bool) (X : Option (Int32 × Sg)) (s : Sg) (p1 m1 D : Nat) (cn : Nat → Nat) : Prop := ∃ s1 u1 k f1, X = Kont k f1 s1 ∧ Fk s s1 ∧ MS n c s1 p1 u1 D cn ∧ AL al m1 u1 ∧ 200 ≤ k + p1 ∧ 200 ≤ f1 + p1
def TS1 (n : Nat) (c : Nat → Int32) (al : Nat → Bool) (r : Nat → Int32) (rc : Sg → Nat → Int32 → Int32 → Int32 → Option (Bool × Sg)) (dep : Nat) : Prop := ∀ (sp w : Int32) σ p m, 4 * dep ≤ p → CS n c σ p m → m < 4096 → p ≤ n → ∃ ok σ1 p1 m1, rc σ 440 sp w (nI dep) = some (ok, σ1) ∧ CS n c σ1 p1 m1 ∧ m1 < 4096 ∧ Fc σ σ1 ∧ p ≤ p1 ∧ p1 ≤ n ∧ (ok = true → p < p1 ∧ (ltr n c p1 = false → ParT n c (decide (dep = 0)) sp.toInt w.toInt p m (pv σ 443) p1 m1 (pv σ1 443))) ∧ ∀ s u cn f, s.1 463 = r → MS n c s p u dep cn → AL al m u → 200 ≤ f + p → ((ok = false ∨ ltr n c p1 = true) → Dd (fX9_goes_27 462 f s 0 1) s p1) ∧ (ok = true → ltr n c p1 = false → Lv n c al (fX9_goes_27 462 f s 0 1) s p1 m1 dep (bump cn dep))
variable {n : Nat} {c : Nat → Int32} {σ s : Sg} {p m u D : Nat} {cn : Nat → Nat}
theorem MS.cg {cn' : Nat → Nat} (h : MS n c s p u D cn) (e : ∀ i, i < D → cn i = cn' i) : MS n c s p u D cn' := ⟨h.1, h.2.1, h.2.2.1, h.2.2.2.1, fun i hi => by rw [← e i hi]; exact h.2.2.2.2 i hi⟩
theorem Dd.tr {X : Option (Int32 × Sg)} {s0 : Sg} {q : Nat} (h : Dd X s q) (f : Fk s0 s) : Dd X s0 q := by
  obtain ⟨s1, a, b⟩ := h
  exact ⟨s1, a, f.tr b⟩
theorem Lv.tr {al : Nat → Bool} {X : Option (Int32 × Sg)} {s0 : Sg} {q : Nat} (h : Lv n c al X s q m D cn) (f : Fk s0 s) : Lv n c al X s0 q m D cn := by
  obtain ⟨s1, u1, k, f1, a, b, d⟩ := h
  exact ⟨s1, u1, k, f1, a, f.tr b, d⟩
theorem Lv.dead {al : Nat → Bool} {X : Option (Int32 × Sg)} (T : Tt n c) (h : Lv n c al X s p m D cn) (hp : p ≤ n) (l : ltr n c p = true) (h99 : D < 100) : Dd X s p := by
  have n120 := T.1
  obtain ⟨s1, u1, k, f1, a, b, d, e, k2, f2⟩ := h
  obtain ⟨k', rfl⟩ : ∃ k', k = k' + 1 := ⟨k - 1, by omega⟩
  obtain ⟨f', rfl⟩ : ∃ f', f1 = f' + 1 := ⟨f1 - 1, by omega⟩
  obtain ⟨q, hq, pn, eq⟩ := ltr_sp T l
  have ne : ∀ x : Int32, x.toInt < 97 → cdm n c p ≠ x := fun x hx z => by
    rw [(cd_in pn).2, eq] at z
    rw [← z, j_nI (by omega)] at hx
    omega
  by_cases z : D = 0
  · subst z
    obtain ⟨s2, g1, g2⟩ := (k_root d hp T.1 k' f').2 pn
    exact ⟨s2, a.trans g1, b.tr g2⟩
  · obtain ⟨s2, g1, g2⟩ := k_dead T d hp (by omega) h99 (ne 44 (by decide)) (Or.inl (ne 41 (by decide))) k' f'
    exact ⟨s2, a.trans g1, b.tr g2⟩
theorem w_ex (T : Tt n c) (h : CS n c σ p m) (p1 : 1 ≤ p) (hp : p ≤ n) (mt : MT n c s p) (w : s.1 462 16 = -1) : ∃ s7, fX9_readsWeight s 462 = some s7 ∧ (s7.1 462 16 = -1 ∨ ∃ q, q < 1000 ∧ s7.1 462 16 = nI q) := by
  have n120 := T.1
  obtain ⟨v, σ1, q, a1, a2, a3, a4, a5⟩ := sim_w T h p1 hp
  rcases a5 with ⟨_, _, a6⟩ | ⟨_, _, a7, a6⟩
  · obtain ⟨s1, b1, b2, b3⟩ := a6 s mt w
    exact ⟨s1, b1, Or.inr ⟨p, by omega, b3⟩⟩
  · obtain ⟨s1, b1, b2, b3, b4⟩ := a6 s mt w
    by_cases z : cdm n c q = 58
    · exact ⟨s1, b1, Or.inl (b3 z).2.1⟩
    · exact ⟨s1, b1, Or.inr ⟨q, by omega, b4 z⟩⟩
theorem g27_d {q f : Nat} {s0 : Sg} (hq : q < 1000) (w : s.1 462 16 = nI q) (hf : 0 < f) (k : Fk s0 s) : Dd (fX9_goes_27 462 f s 0 1) s0 q := by
  obtain ⟨f', rfl⟩ : ∃ f', f = f' + 1 := ⟨f - 1, by omega⟩
  exact ⟨s, g27_dead hq w f' 0 1, k⟩
theorem sim_kids (T : Tt n c) {al : Nat → Bool} {r : Nat → Int32} {rc : Sg → Nat → Int32 → Int32 → Int32 → Option (Bool × Sg)} {dep : Nat} (IH : TS1 n c al r rc (dep + 1)) (hdep : dep ≤ 30) (sp : Int32) : ∀ (fuel : Nat) (σ : Sg) (p m j : Nat), CS n c σ p m → m < 4096 → p ≤ n → n < p + fuel → 4 * dep + 2 ≤ p → j + 2 ≤ p → ∃ ok σ1 p1 m1, fX6_passChildren_13 440 rc fuel σ sp (nI dep) (nI (j + 1)) = some (ok, σ1) ∧ CS n c σ1 p1 m1 ∧ m1 < 4096 ∧ Fc σ σ1 ∧ p ≤ p1 ∧ p1 ≤ n ∧ (ok = true → ∃ p2, p1 = p2 + 1 ∧ p < p2 ∧ cdm n c p2 = 41 ∧ ParK n c sp.toInt j p m (pv σ 443) p2 m1 (pv σ1 443)) ∧ ∀ s u cn f s6, s.1 463 = r → MS n c s p u (dep + 1) cn → cn dep = j → AL al m u → 200 ≤ f + p → fX9_readsWeight s 462 = some s6 → (ok = false → Dd (fX9_goes_27 462 f s6 0 1) s p1) ∧ (ok = true → Lv n c al (fX9_goes_27 462 f s6 0 1) s p1 m1 dep (bump cn dep)) := by
  have n120 := T.1
  intro fuel
  induction fuel with
  | zero =>
    intro σ p m j h hm hp hf
    omega
  | succ fuel ih =>
    intro σ p m j h hm hp hf hp4 hj
    obtain ⟨v, σ1, q, a1, a2, a3, a4, a5⟩ := sim_w T h (by omega) hp
    have g120 : ¬ (120 : Int32) < nI (j + 1) := by
      rw [j_lt_nI (by omega)]
      have : (120 : Int32).toInt = 120 := rfl
      omega
    have start : fX6_passChildren_13 440 rc (fuel + 1) σ sp (nI dep) (nI (j + 1)) = if v = 0 then some (false, σ1) else (fX6_passSign σ1 440 58).bind fun r3 => if r3.1 = true then (rc r3.2 440 sp v (nI dep + 1)).bind fun r4 => if r4.1 = true then (if nI (j + 1) ≤ 1 then fX6_passChildren_70 440 rc (fX6_passChildren_13 440 rc fuel) r4.2 sp (nI dep) (nI (j + 1)) else (fX6_passSign r4.2 440 41).bind fun r5 => if r5.1 = true then some (true, r5.2) else fX6_passChildren_70 440 rc (fX6_passChildren_13 440 rc fuel) r5.2 sp (nI dep) (nI (j + 1))) else some (false, r4.2) else some (false, r3.2) := by
      rw [fX6_passChildren_13, if_neg g120, a1, j_b]
    rcases a5 with ⟨v0, qp, a6⟩ | ⟨vr, pq, qn, a6⟩
    · refine ⟨false, σ1, p, m, ?_, ?_, hm, a3, Nat.le_refl _, hp, fun z => by (cases z), fun s u cn f s6 hr ms hc hal hf6 h6 => ⟨fun _ => ?_, fun z => by cases z⟩⟩
      · rw [start, if_pos v0]
      · rw [qp] at a2; exact a2
      · obtain ⟨s1, b1, b2, b3⟩ := a6 s ms.1 ms.2.1
        have : s1 = s6 := Option.some.inj (b1.symm.trans h6)
        subst this
        exact g27_d (by omega) b3 (by omega) (Fk.fz b2)
    · have v0 : v ≠ 0 := fun z => by rw [z, jz0] at vr; omega
      rw [if_neg v0] at start
      have sg := t_sign a2 n120 qn 58
      by_cases z58 : cdm n c q = 58
      · have q1 : q < n := cd_lt (by decide) z58
        rw [sg.1 ((cd_c (by decide)).mpr z58), j_b, if_pos rfl] at start
        dsimp only at start
        rw [j_s] at start
        obtain ⟨w2, hw2⟩ : ∃ w2 : Sg, w2 = su σ1 440 2 (nI (q + 1)) := ⟨_, rfl⟩
        have c2 : CS n c w2 (q + 1) m := by rw [hw2]; exact a2.at _
        have f2 : Fc σ w2 := by rw [hw2]; exact a3.tr Fc.st
        have v2 : pv w2 443 = pv σ 443 := by rw [hw2, p43]; exact a4
        rw [← hw2] at start
        obtain ⟨ok3, σ3, p3, m3, b1, b2, b3, b4, b5, b6, b7, b8⟩ := IH sp v w2 (q + 1) m (by omega) c2 hm (by omega)
        rw [b1, j_b] at start
        dsimp only at start
        -- the weight is there
        have wt : Wt n c p v.toInt (q + 1) := ⟨vr, by omega, by omega, fun s mt w => by
          obtain ⟨s1, d1, d2, d3, _⟩ := a6 s mt w
          have d3 := d3 z58
          exact ⟨s1, d1, d2, d3.1, d3.2.1, by rw [d3.2.2, j_oIt]⟩⟩
        have ref : ∀ s u cn f s6, s.1 463 = r → MS n c s p u (dep + 1) cn → AL al m u → 200 ≤ f + p → fX9_readsWeight s 462 = some s6 → Fk s s6 ∧ ((ok3 = false ∨ ltr n c p3 = true) → Dd (fX9_goes_27 462 f s6 0 1) s p3) ∧ (ok3 = true → ltr n c p3 = false → Lv n c al (fX9_goes_27 462 f s6 0 1) s p3 m3 (dep + 1) (bump cn (dep + 1))) := fun s u cn f s6 hr ms hal hf6 h6 => by
          obtain ⟨s1, d1, d2, d3, _⟩ := a6 s ms.1 ms.2.1
          have d3 := d3 z58
          have : s1 = s6 := Option.some.inj (d1.symm.trans h6)
          subst this
          have fk := Fk.fz d2
          have := b8 s1 u cn f (by rw [d2.2.1 463 (by omega)]; exact hr) (ms.we d2 d3.1 d3.2.1) hal (by omega)
          exact ⟨fk, fun y => (this.1 y).tr fk, fun y1 y2 => (this.2 y1 y2).tr fk⟩
        cases hok : ok3
        · subst hok
          rw [if_neg Bool.false_ne_true] at start
          exact ⟨false, σ3, p3, m3, start, b2, b3, f2.tr b4, by omega, b6, fun z => by (cases z), fun s u cn f s6 hr ms hc hal hf6 h6 => ⟨fun _ => (ref s u cn f s6 hr ms hal hf6 h6).2.1 (Or.inl rfl), fun z => by cases z⟩⟩
        · subst hok
          have b7 := b7 rfl
          rw [if_pos rfl] at start
          have l1 : nI (j + 1) ≤ 1 ↔ j = 0 := by
            rw [j_le, j_nI (by omega), jz1]
            omega
          have s41 := t_sign b2 n120 b6 41
          have s44 := t_sign b2 n120 b6 44
          -- it stops there
          have stop : cdm n c p3 ≠ 44 → (cdm n c p3 ≠ 41 ∨ j = 0) → fX6_passChildren_13 440 rc (fuel + 1) σ sp (nI dep) (nI (j + 1)) = some (false, σ3) := fun n44 n41 => by
            have e70 : fX6_passChildren_70 440 rc (fX6_passChildren_13 440 rc fuel) σ3 sp (nI dep) (nI (j + 1)) = some (false, σ3) := by
              unfold fX6_passChildren_70
              rw [s44.2 (fun y => n44 ((cd_c (by decide)).mp y)), j_b, if_neg (show ¬ ((false, σ3) : Bool × Sg).1 = true from Bool.false_ne_true)]
            rw [start]
            by_cases j0 : j = 0
            · rw [if_pos (l1.mpr j0)]
              exact e70
            · have n41' : cdm n c p3 ≠ 41 := by
                rcases n41 with y | y
                · exact y
                · exact absurd y j0
              rw [if_neg (fun y => j0 (l1.mp y)), s41.2 (fun y => n41' ((cd_c (by decide)).mp y)), j_b, if_neg (show ¬ ((false, σ3) : Bool × Sg).1 = true from Bool.false_ne_true)]
              exact e70
          cases hl : ltr n c p3
          · have par := b7.2 hl
            rw [v2, decide_eq_false (by omega)] at par
            by_cases z44 : cdm n c p3 = 44
            · have p3n : p3 < n := cd_lt (by decide) z44
              obtain ⟨w4, hw4⟩ : ∃ w4 : Sg, w4 = su σ3 440 2 (nI (p3 + 1)) := ⟨_, rfl⟩
              have c4 : CS n c w4 (p3 + 1) m3 := by rw [hw4]; exact b2.at _
              have v4 : pv w4 443 = pv σ3 443 := by rw [hw4, p43]
              have go : fX6_passChildren_13 440 rc (fuel + 1) σ sp (nI dep) (nI (j + 1)) = fX6_passChildren_13 440 rc fuel w4 sp (nI dep) (nI (j + 1 + 1)) := by
                have e70 : fX6_passChildren_70 440 rc (fX6_passChildren_13 440 rc fuel) σ3 sp (nI dep) (nI (j + 1)) = fX6_passChildren_13 440 rc fuel w4 sp (nI dep) (nI (j + 1 + 1)) := by
                  unfold fX6_passChildren_70
                  rw [s44.1 ((cd_c (by decide)).mpr z44), j_b, if_pos rfl, j_s, hw4]
                rw [start]
                by_cases j0 : j = 0
                · rw [if_pos (l1.mpr j0)]
                  exact e70
                · have n41' : cdm n c p3 ≠ 41 := by rw [z44]; decide
                  rw [if_neg (fun y => j0 (l1.mp y)), s41.2 (fun y => n41' ((cd_c (by decide)).mp y)), j_b, if_neg (show ¬ ((false, σ3) : Bool × Sg).1 = true from Bool.false_ne_true)]
                  exact e70
              obtain ⟨ok5, σ5, p5, m5, d1, d2, d3, d4, d5, d6, d7, d8⟩ := ih w4 (p3 + 1) m3 (j + 1) c4 b3 (by omega) (by omega) (by omega) (by omega)
              refine ⟨ok5, σ5, p5, m5, go.trans d1, d2, d3, ((f2.tr b4).tr (by rw [hw4]; exact Fc.st)).tr d4, by omega, d6, fun y => ?_, fun s u cn f s6 hr ms hc hal hf6 h6 => ?_⟩
              · obtain ⟨p2, e1, e2, e3, e4⟩ := d7 y
                rw [v4] at e4
                exact ⟨p2, e1, by omega, e3, par_clo.2.2.1 _ _ _ _ _ _ _ _ _ _ _ _ _ wt par z44 e4⟩
              · obtain ⟨fk, _, lv⟩ := ref s u cn f s6 hr ms hal hf6 h6
                obtain ⟨s3, u3, k, f1, g1, g2, g3, g4, g5, g6⟩ := lv rfl hl
                obtain ⟨k', rfl⟩ : ∃ k', k = k' + 1 := ⟨k - 1, by omega⟩
                obtain ⟨f', rfl⟩ : ∃ f', f1 = f' + 1 := ⟨f1 - 1, by omega⟩
                have ms4 := g3.at (p3 + 1)
                obtain ⟨s7, i1, i2⟩ := w_ex T c4 (by omega) (by omega) ms4.1 ms4.2.1
                have kc := k_comma T g3 (by omega) (by omega) (by omega) z44 k' f' i1 i2
                have f34 : Fk s3 (su s3 462 15 (nI (p3 + 1))) := Fk.st (by omega)
                have := d8 (su s3 462 15 (nI (p3 + 1))) u3 (bump cn (dep + 1)) (f' + 1) s7 (by rw [(g2.tr f34).2.1 463 (by omega) (by omega) (by omega) (by omega)]; exact hr) ms4 (by unfold bump; rw [if_pos rfl, hc]) g4 (by omega) i1
                rw [g1, kc]
                refine ⟨fun y => (this.1 y).tr (g2.tr f34), fun y => ?_⟩
                obtain ⟨s8, u8, k8, f8, j1, j2, j3, j4⟩ := (this.2 y).tr (g2.tr f34)
                exact ⟨s8, u8, k8, f8, j1, j2, j3.cg (fun i hi => by unfold bump; rw [if_neg (show ¬ i + 1 = dep + 1 by omega)]), j4⟩
            · by_cases z41 : cdm n c p3 = 41 ∧ j ≠ 0
              · have p3n : p3 < n := cd_lt (by decide) z41.1
                refine ⟨true, su σ3 440 2 (nI (p3 + 1)), p3 + 1, m3, ?_, b2.at _, b3, (f2.tr b4).tr Fc.st, by omega, by omega, fun _ => ⟨p3, rfl, by omega, z41.1, ?_⟩, fun s u cn f s6 hr ms hc hal hf6 h6 => ⟨fun z => by (cases z), fun _ => ?_⟩⟩
                · rw [start, if_neg (fun y => z41.2 (l1.mp y)), s41.1 ((cd_c (by decide)).mpr z41.1), j_b, if_pos rfl]
                · rw [p43]
                  exact par_clo.2.2.2 _ _ _ _ _ _ _ _ _ _ (by omega) wt par z41.1
                · obtain ⟨fk, _, lv⟩ := ref s u cn f s6 hr ms hal hf6 h6
                  obtain ⟨s3, u3, k, f1, g1, g2, g3, g4, g5, g6⟩ := lv rfl hl
                  obtain ⟨k', rfl⟩ : ∃ k', k = k' + 1 := ⟨k - 1, by omega⟩
                  have cb : bump cn (dep + 1) dep = j + 1 := by unfold bump; rw [if_pos rfl, hc]
                  obtain ⟨s4, i1, i2, i3⟩ := k_close T g3 (by omega) (by omega) (by omega) z41.1 (by show 2 ≤ bump cn (dep + 1) dep; omega) (by show bump cn (dep + 1) dep < 1000; omega) k' f1
                  exact ⟨s4, u3, k', f1, g1.trans i1, g2.tr i2, i3.cg (fun i hi => by
                    show bump (bump cn (dep + 1)) dep i = bump cn dep i
                    unfold bump
                    have hi : i < dep := hi
                    rw [if_neg (show ¬ i + 1 = dep + 1 by omega)]), g4, by omega, by omega⟩
              · have n41 : cdm n c p3 ≠ 41 ∨ j = 0 := by
                  by_cases y : cdm n c p3 = 41
                  · exact Or.inr (Classical.byContradiction (fun w => z41 ⟨y, w⟩))
                  · exact Or.inl y
                refine ⟨false, σ3, p3, m3, stop z44 n41, b2, b3, f2.tr b4, by omega, b6, fun z => by (cases z), fun s u cn f s6 hr ms hc hal hf6 h6 => ⟨fun _ => ?_, fun z => by cases z⟩⟩
                obtain ⟨fk, _, lv⟩ := ref s u cn f s6 hr ms hal hf6 h6
                obtain ⟨s3, u3, k, f1, g1, g2, g3, g4, g5, g6⟩ := lv rfl hl
                obtain ⟨k', rfl⟩ : ∃ k', k = k' + 1 := ⟨k - 1, by omega⟩
                obtain ⟨f', rfl⟩ : ∃ f', f1 = f' + 1 := ⟨f1 - 1, by omega⟩
                obtain ⟨s4, i1, i2⟩ := k_dead T g3 b6 (by omega) (by omega) z44 (by
                  rcases n41 with y | y
                  · exact Or.inl y
                  · right
                    show bump cn (dep + 1) dep ≤ 1
                    unfold bump
                    rw [if_pos rfl, hc]
                    omega) k' f'
                exact ⟨s4, g1.trans i1, g2.tr i2⟩
          · obtain ⟨qq, hqq, pn, eqq⟩ := ltr_sp T hl
            have ne : ∀ x : Int32, x.toInt < 97 → cdm n c p3 ≠ x := fun x hx z => by
              rw [(cd_in pn).2, eqq] at z
              rw [← z, j_nI (by omega)] at hx
              omega
            exact ⟨false, σ3, p3, m3, stop (ne 44 (by decide)) (Or.inl (ne 41 (by decide))), b2, b3, f2.tr b4, by omega, b6, fun z => by (cases z), fun s u cn f s6 hr ms hc hal hf6 h6 => ⟨fun _ => (ref s u cn f s6 hr ms hal hf6 h6).2.1 (Or.inr hl), fun z => by cases z⟩⟩
      · rw [sg.2 (fun y => z58 ((cd_c (by decide)).mp y)), j_b, if_neg (show ¬ ((false, σ1) : Bool × Sg).1 = true from Bool.false_ne_true)] at start
        refine ⟨false, σ1, q, m, start, a2, hm, a3, by omega, qn, fun z => by (cases z), fun s u cn f s6 hr ms hc hal hf6 h6 => ⟨fun _ => ?_, fun z => by cases z⟩⟩
        obtain ⟨s1, d1, d2, d3, d4⟩ := a6 s ms.1 ms.2.1
        have : s1 = s6 := Option.some.inj (d1.symm.trans h6)
        subst this
        exact g27_d (by omega) (d4 z58) (by omega) (Fk.fz d2)
end RAY
end
section
/-! THE RELATION: texts (7): the tree, both sides (2) -/
section RAZ
def TO (n : Nat) (c : Nat → Int32) (al : Nat → Bool) (r : Nat → Int32) (X : Option (Bool × Sg)) (σ : Sg) (sp w : Int32) (p m dep : Nat) : Prop := ∃ ok σ1 p1 m1, X = some (ok, σ1) ∧ CS n c σ1 p1 m1 ∧ m1 < 4096 ∧ Fc σ σ1 ∧ p ≤ p1 ∧ p1 ≤ n ∧ (ok = true → p < p1 ∧ (ltr n c p1 = false → ParT n c (decide (dep = 0)) sp.toInt w.toInt p m (pv σ 443) p1 m1 (pv σ1 443))) ∧ ∀ s u cn f, s.1 463 = r → MS n c s p u dep cn → AL al m u → 200 ≤ f + p → ((ok = false ∨ ltr n c p1 = true) → Dd (fX9_goes_27 462 f s 0 1) s p1) ∧ (ok = true → ltr n c p1 = false → Lv n c al (fX9_goes_27 462 f s 0 1) s p1 m1 dep (bump cn dep))
variable {n : Nat} {c : Nat → Int32} {σ s : Sg} {p m u D : Nat} {cn : Nat → Nat}
theorem sim_split (T : Tt n c) {al : Nat → Bool} {r : Nat → Int32} {rc : Sg → Nat → Int32 → Int32 → Int32 → Option (Bool × Sg)} {dep : Nat} (IH : TS1 n c al r rc (dep + 1)) (hdep : dep ≤ 30) (sp w : Int32) (h : CS n c σ p m) (hm : m < 4096) (hp : 4 * dep ≤ p) (k : Int32) (hk : (k.toInt = 0 ∧ cdm n c p = 72) ∨ (k.toInt = 1 ∧ cdm n c p = 86)) : TO n c al r (fX6_passTree_35 440 rc (su σ 440 2 (nI (p + 1))) sp w (nI dep) k) σ sp w p m dep := by
  have n120 := T.1
  have pn : p < n := by
    rcases hk with ⟨_, z⟩ | ⟨_, z⟩
    · exact cd_lt (by decide) z
    · exact cd_lt (by decide) z
  have k2 : ¬ k = 2 := fun z => by
    rw [z] at hk
    rcases hk with ⟨y, _⟩ | ⟨y, _⟩ <;> exact absurd y (by decide)
  obtain ⟨w1, hw1⟩ : ∃ w1 : Sg, w1 = su σ 440 2 (nI (p + 1)) := ⟨_, rfl⟩
  have c1 : CS n c w1 (p + 1) m := by rw [hw1]; exact h.at _
  have f1 : Fc σ w1 := by rw [hw1]; exact Fc.st
  have v1 : pv w1 443 = pv σ 443 := by rw [hw1, p43]
  rw [← hw1]
  obtain ⟨w2, a1, a2, a3, a4⟩ := t_node rc c1 sp w k (dep := dep) (by omega)
  rw [v1] at a1 a4
  have start : fX6_passTree_35 440 rc w1 sp w (nI dep) k = (fX6_passChildren rc w2 440 (oI (v_mn (pv σ 443))) (nI dep)).bind fun r8 => some (r8.1, r8.2) := by
    rw [a1]
    unfold fX6_passTree_84
    rw [if_neg k2]
  -- the reference opens
  have gs : ∀ s u cn f s6, MS n c s p u dep cn → 0 < f → fX9_opens s 462 0 = some s6 → ∃ f', f = f' + 1 ∧ fX9_goes_27 462 f s 0 1 = fX9_goes_27 462 f' s6 0 1 := fun s u cn f s6 ms hf h6 => by
    obtain ⟨f', rfl⟩ : ∃ f', f = f' + 1 := ⟨f - 1, by omega⟩
    refine ⟨f', rfl, ?_⟩
    have e57 : fX9_goes_57 462 (fX9_goes_27 462 f') s 0 1 = fX9_goes_27 462 f' s6 0 1 := by
      unfold fX9_goes_57
      rw [h6, j_b]
    rw [fX9_goes_27, if_neg (show ¬ ((1 : Int32) = 0) by decide), if_pos ms.2.1, m_next ms.1 n120 (by omega), j_b]
    rcases hk with ⟨_, z⟩ | ⟨_, z⟩
    · rw [if_pos z, e57]
    · rw [if_neg (by rw [z]; decide), j_b, if_pos z, e57]
  have sg := t_sign a2 n120 (by omega) 40
  by_cases z40 : cdm n c (p + 1) = 40
  · have p1n : p + 1 < n := cd_lt (by decide) z40
    obtain ⟨w3, hw3⟩ : ∃ w3 : Sg, w3 = su w2 440 2 (nI (p + 1 + 1)) := ⟨_, rfl⟩
    have c3 : CS n c w3 (p + 2) m := by rw [hw3]; exact a2.at _
    have v3 : pv w3 443 = pv w2 443 := by rw [hw3, p43]
    have fu : FU = 6000 := rfl
    obtain ⟨ok, σ1, p1, m1, b1, b2, b3, b4, b5, b6, b7, b8⟩ := sim_kids T IH hdep (oI (v_mn (pv σ 443))) FU w3 (p + 2) m 0 c3 hm (by omega) (by omega) (by omega) (by omega)
    refine ⟨ok, σ1, p1, m1, ?_, b2, b3, ((f1.tr a3).tr (by rw [hw3]; exact Fc.st)).tr b4, by omega, b6, fun y => ?_, fun s u cn f hr ms hal hf => ?_⟩
    · rw [start]
      unfold fX6_passChildren
      rw [sg.1 ((cd_c (by decide)).mpr z40), j_b, if_pos rfl]
      dsimp only
      rw [← hw3, show (1 : Int32) = nI (0 + 1) from rfl, b1, j_b]
    · obtain ⟨p2, e1, e2, e3, e4⟩ := b7 y
      refine ⟨by omega, fun _ => ?_⟩
      rw [v3, a4, t_mn] at e4
      rw [e1]
      exact par_clo.2.1 _ _ _ _ _ _ _ _ _ k.toInt hk z40 e4 e3
    · obtain ⟨s5, g1, g2, g3⟩ := (m_open T ms pn (by omega)).1 z40
      obtain ⟨s6, i1, _⟩ := w_ex T c3 (by omega) (by omega) g3.1 g3.2.1
      obtain ⟨f', rfl, ge⟩ := gs s u cn f s6 ms (by omega) (g1 s6 i1)
      have := b8 s5 u (fun i => if i = dep then 0 else cn i) f' s6 (by rw [g2.2.1 463 (by omega) (by omega) (by omega) (by omega)]; exact hr) g3 (if_pos rfl) hal (by omega) i1
      have lv : ok = true → Lv n c al (fX9_goes_27 462 f' s6 0 1) s p1 m1 dep (bump cn dep) := fun y => by
        obtain ⟨s8, u8, k8, f8, j1, j2, j3, j4⟩ := (this.2 y).tr g2
        exact ⟨s8, u8, k8, f8, j1, j2, j3.cg (fun i hi => by
          unfold bump
          dsimp only
          rw [if_neg (show ¬ i = dep by omega)]), j4⟩
      rw [ge]
      refine ⟨fun y => ?_, fun y _ => lv y⟩
      cases hok : ok
      · exact (this.1 hok).tr g2
      · rcases y with y | y
        · rw [hok] at y; cases y
        · exact (lv hok).dead T b6 y (by omega)
  · refine ⟨false, w2, p + 1, m, ?_, a2, hm, f1.tr a3, by omega, by omega, fun y => by (cases y), fun s u cn f hr ms hal hf => ⟨fun _ => ?_, fun y => by cases y⟩⟩
    · rw [start]
      unfold fX6_passChildren
      rw [sg.2 (fun y => z40 ((cd_c (by decide)).mp y)), j_b, if_neg (show ¬ ((false, w2) : Bool × Sg).1 = true from Bool.false_ne_true), j_b]
    · obtain ⟨s5, g1, g2, g3⟩ := (m_open T ms pn (by omega)).2 z40
      obtain ⟨f', rfl, ge⟩ := gs s u cn f s5 ms (by omega) g1
      rw [ge]
      exact g27_d (by omega) g3 (by omega) g2
theorem sim_grp (T : Tt n c) {al : Nat → Bool} {r : Nat → Int32} (ha : HA n c al r) (rc : Sg → Nat → Int32 → Int32 → Int32 → Option (Bool × Sg)) {dep : Nat} (hdep : dep ≤ 30) (sp w : Int32) (h : CS n c σ p m) (hm : m < 4096) (hp : p ≤ n) (h72 : cdm n c p ≠ 72) (h86 : cdm n c p ≠ 86) : TO n c al r (fX6_passTree_35 440 rc σ sp w (nI dep) 2) σ sp w p m dep := by
  have n120 := T.1
  obtain ⟨w2, a1, a2, a3, a4⟩ := t_node rc h sp w 2 (dep := dep) (by omega)
  obtain ⟨ok, σ1, p1, m1, b1, b2, b3, b4, b5, b6, b7, b8⟩ := sim_tabs T ha (oI (v_mn (pv σ 443))) a2 hm hp
  refine ⟨ok, σ1, p1, m1, ?_, b2, b3, a3.tr b4, b5, b6, fun y => ?_, fun s u cn f hr ms hal hf => ?_⟩
  · rw [a1]
    unfold fX6_passTree_84
    rw [if_pos rfl, b1, j_b]
  · obtain ⟨d1, t, d2, d3, d4⟩ := b7 y
    refine ⟨d1, fun l => ?_⟩
    rw [d4, t_mn, a4]
    exact par_clo.1 _ _ _ _ _ _ _ _ t d2 d3 b6 l
  · obtain ⟨f', rfl⟩ : ∃ f', f = f' + 1 := ⟨f - 1, by omega⟩
    obtain ⟨s8, e1, e2, e3, e4⟩ := b8 s u hr ms.1 ms.2.1 ms.2.2.2.1 hal
    have ge : fX9_goes_27 462 (f' + 1) s 0 1 = if s8.1 462 16 = -1 then (fX9_joins s8 462 (s8.1 462 22) 0).bind fun σ9 => (fX9_ends σ9 462 0).bind fun r10 => fX9_goes_27 462 f' r10.2 0 (b2i r10.1) else fX9_goes_27 462 f' s8 0 1 := by
      rw [fX9_goes_27, if_neg (show ¬ ((1 : Int32) = 0) by decide), if_pos ms.2.1, m_next ms.1 n120 hp, j_b, if_neg h72, j_b, if_neg h86, e1, j_b]
    rw [ge]
    refine ⟨fun y => ?_, fun y l => ?_⟩
    · have w8 := e3 y
      rw [if_neg (by rw [w8]; exact nI_m1 (by omega))]
      exact g27_d (by omega) w8 (by omega) (Fk.fg e2)
    · obtain ⟨i1, i2, u1, i3, i4⟩ := e4 y l
      have lt := (b7 y).1
      have ms8 := ms.gr e2 i1 i2 i3
      obtain ⟨s9, j1, j2, j3⟩ := m_join0 ms8 (by omega) (s8.1 462 22)
      rw [if_pos i2, j1, j_b]
      have fu : FU = 6000 := rfl
      exact ⟨s9, u1, FU, f', rfl, (Fk.fg e2).tr j2, j3, i4, by omega, by omega⟩
theorem sim_tree (T : Tt n c) {al : Nat → Bool} {r : Nat → Int32} (ha : HA n c al r) : ∀ d dep, d + dep = 64 → TS1 n c al r (fX6_passTree d) dep := by
  have n120 := T.1
  intro d
  induction d with
  | zero =>
    intro dep e sp w σ p m hp h hm hpn
    omega
  | succ d ih =>
    intro dep e sp w σ p m hp h hm hpn
    have IH := ih (dep + 1) (by omega)
    show TO n c al r (fX6_passTree (d + 1) σ 440 sp w (nI dep)) σ sp w p m dep
    have i40 : (40 : Int32).toInt = 40 := rfl
    have s72 := t_sign h n120 hpn 72
    have s86 := t_sign h n120 hpn 86
    rw [fX6_passTree, gX6_passTree, if_pos (by rw [j_le, j_nI (by omega), i40]; omega)]
    by_cases z72 : cdm n c p = 72
    · rw [s72.1 ((cd_c (by decide)).mpr z72), j_b, if_pos rfl]
      exact sim_split T IH (by omega) sp w h hm hp 0 (Or.inl ⟨rfl, z72⟩)
    · rw [s72.2 (fun y => z72 ((cd_c (by decide)).mp y)), j_b, if_neg (show ¬ ((false, σ) : Bool × Sg).1 = true from Bool.false_ne_true)]
      dsimp only
      by_cases z86 : cdm n c p = 86
      · rw [s86.1 ((cd_c (by decide)).mpr z86), j_b, if_pos rfl]
        exact sim_split T IH (by omega) sp w h hm hp 1 (Or.inr ⟨rfl, z86⟩)
      · rw [s86.2 (fun y => z86 ((cd_c (by decide)).mp y)), j_b, if_neg (show ¬ ((false, σ) : Bool × Sg).1 = true from Bool.false_ne_true)]
        exact sim_grp T ha _ (by omega) sp w h hm hpn z72 z86
/-- the whole text: the same fault; what the class has made -/
theorem sim_root (T : Tt n c) {al : Nat → Bool} {r : Nat → Int32} (ha : HA n c al r) (h : CS n c σ 0 m) (hm : m < 4096) : ∃ ok σ1 p1 m1, fX6_passTree 64 σ 440 (-1) 0 0 = some (ok, σ1) ∧ CS n c σ1 p1 m1 ∧ Fc σ σ1 ∧ p1 ≤ n ∧ (ok = true → p1 = n → ParT n c true (-1) 0 0 m (pv σ 443) p1 m1 (pv σ1 443)) ∧ ∀ s cn, s.1 463 = r → MS n c s 0 0 0 cn → AL al m 0 → ∃ s1, fX9_goes_27 462 FU s 0 1 = some (if ok = true ∧ p1 = n then -1 else nI p1, s1) ∧ Fk s s1 := by
  have n120 := T.1
  have fu : FU = 6000 := rfl
  obtain ⟨ok, σ1, p1, m1, b1, b2, b3, b4, b5, b6, b7, b8⟩ := sim_tree T ha 64 0 rfl (-1) 0 σ 0 m (by omega) h hm (by omega)
  refine ⟨ok, σ1, p1, m1, b1, b2, b4, b6, fun y z => ?_, fun s cn hr ms hal => ?_⟩
  · exact (b7 y).2 (by
      unfold ltr
      rw [z, (cd_no (by omega)).2]
      decide)
  · obtain ⟨g1, g2⟩ := b8 s 0 cn FU hr ms hal (by omega)
    by_cases y : ok = true ∧ p1 = n
    · rw [if_pos y]
      have l : ltr n c p1 = false := by
        unfold ltr
        rw [y.2, (cd_no (by omega)).2]
        decide
      obtain ⟨s1, u1, k, f1, i1, i2, i3, i4, i5, i6⟩ := g2 y.1 l
      obtain ⟨k', rfl⟩ : ∃ k', k = k' + 1 := ⟨k - 1, by omega⟩
      obtain ⟨f', rfl⟩ : ∃ f', f1 = f' + 1 := ⟨f1 - 1, by omega⟩
      exact ⟨s1, i1.trans ((k_root i3 b6 n120 k' f').1 y.2), i2⟩
    · rw [if_neg y]
      by_cases z : ok = false ∨ ltr n c p1 = true
      · obtain ⟨s1, i1, i2⟩ := g1 z
        exact ⟨s1, i1, i2⟩
      · have hok : ok = true := by
          cases hok : ok
          · exact absurd (Or.inl hok) z
          · rfl
        have l : ltr n c p1 = false := by
          cases hl : ltr n c p1
          · rfl
          · exact absurd (Or.inr hl) z
        obtain ⟨s1, u1, k, f1, i1, i2, i3, i4, i5, i6⟩ := g2 hok l
        obtain ⟨k', rfl⟩ : ∃ k', k = k' + 1 := ⟨k - 1, by omega⟩
        obtain ⟨f', rfl⟩ : ∃ f', f1 = f' + 1 := ⟨f1 - 1, by omega⟩
        obtain ⟨s2, j1, j2⟩ := (k_root i3 b6 n120 k' f').2 (by
          have : p1 ≠ n := fun w => y ⟨hok, w⟩
          omega)
        exact ⟨s2, i1.trans j1, i2.tr j2⟩
end RAZ
end
section
/-! THE RELATION: fault -/
section RB0
variable {n : Nat} {c : Nat → Int32} {σ s : Sg} {V : VW} {d : Nat → Nat} {wn : Nat → Int}
theorem Inv.wo (h : Inv V d wn) {p g : Nat} (hp : p < 12) (e : V 13 p = g) : v_wo V (V 13 p) = wn g := by
  obtain ⟨a, b⟩ := h.2.1.g2 hp e
  rw [e]
  exact h.1.wo a (by omega)
theorem s_empty (h : Inv V d wn) : ∀ (k i fuel : Nat) (σ : Sg), i + k = 12 → k < fuel → pv σ 443 = wds (own V) V i → ∃ σ', fX1_emptyWindow_2 (440 + 3) fuel σ 0 (nI i) = some σ' ∧ Out σ σ' 444 458 ∧ pv σ' 443 = wds (own V) V 12 := by
  intro k
  induction k with
  | zero =>
    intro i fuel σ e hf hv
    match fuel, hf with
    | f + 1, _ =>
      have : i = 12 := by omega
      subst this
      exact ⟨σ, by rw [fX1_emptyWindow_2, if_pos (n_le 12 (m := 12) rfl (by decide))], Out.rf, hv⟩
  | succ k ih =>
    intro i fuel σ e hf hv
    match fuel, hf with
    | f + 1, hf =>
      obtain ⟨I, r13⟩ := wds_inv (c := own V) h i (by omega)
      have ti : (nI i).toInt = i := j_nI (by omega)
      have gi : ga (pv σ (440 + 3) 13) 12 (nI i).toInt = V 13 i := by
        show ga (pv σ 443 13) 12 (nI i).toInt = _
        rw [hv, ti]
        unfold ga
        rw [if_pos (by omega), Int.toNat_natCast, r13 i (by omega), if_neg (by omega)]
      have wi : wds (own V) V i 13 i = V 13 i := by rw [r13 i (by omega), if_neg (by omega)]
      have t13 : (oI (ga (pv σ (440 + 3) 13) 12 (nI i).toInt)).toInt = V 13 i := by rw [t_ga, gi]
      have ew : wds (own V) V (i + 1) = if own V i = true then v_withdraw (wds (own V) V i) i else wds (own V) V i := rfl
      rw [fX1_emptyWindow_2, if_neg (n_ge 12 (m := 12) rfl (by omega) (by decide)), s_groupOf, j_b]
      unfold fX1_emptyWindow_35
      by_cases z : V 13 i = -1
      · have no : own V i = false := by
          unfold own
          rw [z, v_wo_m1]
          rfl
        rw [if_pos (by rw [j_eq, t13, jm1]; exact z), j_s]
        exact ih (i + 1) f σ (by omega) (by omega) (by rw [hv, ew, no, if_neg Bool.false_ne_true])
      · obtain ⟨g, hg, eg, kg⟩ : ∃ g : Nat, g < 23 ∧ V 13 i = g ∧ V 8 g = 2 := by
          rcases h.2.1.gr (p := i) (by omega) with y | y
          · exact absurd y z
          · exact y
        have e1 := h.wo (p := i) (by omega) eg
        have e2 := I.wo (p := i) (g := g) (by omega) (by rw [wi]; exact eg)
        have hwo : v_wo (pv σ (440 + 3)) (V 13 i) = v_wo V (V 13 i) := by
          show v_wo (pv σ 443) _ = _
          rw [hv, e1, ← e2, wi]
        rw [if_neg (by rw [j_eq, t13, jm1]; exact z), j_b, s_windowOf, j_b, t13, hwo]
        by_cases y : v_wo V (V 13 i) = 0
        · have ok : OkO (odp (pv σ (440 + 3))) := by
            show OkO (odp (pv σ 443))
            rw [hv]
            exact I.2.2.1.ok (by omega)
          have sp := I.2.1.sp2 (nI i).toInt
          rw [← hv] at sp
          obtain ⟨σ2, b1, b2, b3⟩ := s_withdraw (σ := σ) (b := 440 + 3) (nI i) sp.1 sp.2 ok
          rw [if_pos (by rw [y]; rfl), b1, j_b, j_s]
          obtain ⟨σ3, d1, d2, d3⟩ := ih (i + 1) f σ2 (by omega) (by omega) (by
            have : pv σ2 443 = v_withdraw (pv σ 443) (nI i).toInt := b3
            rw [this, hv, ti, ew, if_pos (show own V i = true from decide_eq_true y)])
          exact ⟨σ3, d1, b2.tr d2, d3⟩
        · rw [if_neg (by
            have rg := v_wo_rg V (V 13 i)
            rw [j_eq, j_oI (by omega) (by omega), jz0]
            exact y), j_s]
          exact ih (i + 1) f σ (by omega) (by omega) (by rw [hv, ew, show own V i = false from decide_eq_false y, if_neg Bool.false_ne_true])
def alS (S : ST) (q : Nat) : Bool := exB S q && decide (wds (own (S_pl S)) (S_pl S) 12 13 q = -1)
theorem setn_lt (c : Nat → Bool) : ∀ k, k ≤ 12 → setn c k < 4096
  | 0, _ => by
    show 0 < 4096
    omega
  | k + 1, h => by
    have := setn_lt c k (by omega)
    unfold setn
    by_cases z : c k = true
    · rw [if_pos z]
      exact or_lt this (by omega)
    · rw [if_neg z]
      exact this
theorem s_allowed {S : ST} (hS : SI S) : ∀ (k i fuel : Nat) (σ : Sg), i + k = 12 → k < fuel → stv σ 1 = S → pv σ 443 = wds (own (S_pl S)) (S_pl S) 12 → σ.1 440 3 = nI (setn (alS S) i) → ∃ σ', fX6_findFault_34 440 1 438 fuel σ (nI i) = fX6_findFault_34 440 1 438 (fuel - k) σ' 12 ∧ Out σ σ' 440 440 ∧ σ'.1 440 3 = nI (setn (alS S) 12) := by
  intro k
  induction k with
  | zero =>
    intro i fuel σ e hf hs hv hm
    have : i = 12 := by omega
    subst this
    exact ⟨σ, rfl, Out.rf, hm⟩
  | succ k ih =>
    intro i fuel σ e hf hs hv hm
    match fuel, hf with
    | f + 1, hf =>
      have ti : (nI i).toInt = i := j_nI (by omega)
      have hx : 0 ≤ S_ex (stv σ 1) ∧ S_ex (stv σ 1) < 4096 := by rw [hs]; exact hS.1
      have gi : ga (pv σ (440 + 3) 13) 12 (nI i).toInt = wds (own (S_pl S)) (S_pl S) 12 13 i := by
        show ga (pv σ 443 13) 12 (nI i).toInt = _
        rw [hv, ti]
        unfold ga
        rw [if_pos (by omega), Int.toNat_natCast]
      have t13 : (oI (ga (pv σ (440 + 3) 13) 12 (nI i).toInt)).toInt = wds (own (S_pl S)) (S_pl S) 12 13 i := by rw [t_ga, gi]
      have ew : setn (alS S) (i + 1) = if alS S i = true then setn (alS S) i ||| 2 ^ i else setn (alS S) i := rfl
      have ef : f + 1 - (k + 1) = f - k := by omega
      have nx : alS S i = false → ∃ σ', fX6_findFault_72 440 1 438 (fX6_findFault_34 440 1 438 f) σ (nI i) = fX6_findFault_34 440 1 438 (f - k) σ' 12 ∧ Out σ σ' 440 440 ∧ σ'.1 440 3 = nI (setn (alS S) 12) := fun z => by
        unfold fX6_findFault_72
        rw [j_s]
        exact ih (i + 1) f σ (by omega) (by omega) hs hv (by rw [hm, ew, z, if_neg Bool.false_ne_true])
      rw [ef, fX6_findFault_34, if_neg (n_ge 12 (m := 12) rfl (by omega) (by decide)), s_exists hx, j_b, ti, decide_eq_true (by omega), Bool.true_and, Int.toNat_natCast, hs]
      by_cases z : exB S i = true
      · rw [if_pos z, s_groupOf, j_b]
        by_cases y : wds (own (S_pl S)) (S_pl S) 12 13 i = -1
        · have al : alS S i = true := by
            unfold alS
            rw [z, decide_eq_true y]
            rfl
          rw [if_pos (by rw [j_eq, t13, jm1]; exact y), hm, bt_or (by omega), j_nm]
          unfold fX6_findFault_72
          rw [j_s]
          obtain ⟨σ3, d1, d2, d3⟩ := ih (i + 1) f (su σ 440 3 (nI (setn (alS S) i ||| 2 ^ i))) (by omega) (by omega) (by rw [← hs]; exact stv_c (fun x h1 h2 => su_ne (by omega))) (by rw [p43]; exact hv) (by rw [su_at, if_pos ⟨rfl, rfl⟩, ew, if_pos al])
          exact ⟨σ3, d1, Out.tr (σ1 := su σ 440 3 (nI (setn (alS S) i ||| 2 ^ i))) ⟨rfl, fun x hx => su_ne (by omega)⟩ d2, d3⟩
        · rw [if_neg (by rw [j_eq, t13, jm1]; exact y)]
          exact nx (by
            unfold alS
            rw [decide_eq_false y, Bool.and_false])
      · rw [if_neg z]
        exact nx (by
          unfold alS
          rw [Bool.eq_false_iff.mpr z, Bool.false_and])
theorem al_wn {S : ST} (h : Inv (S_pl S) d wn) {q : Nat} (hq : q < 12) : alS S q = (exB S q && (decide (S_pl S 13 q = -1) || own (S_pl S) q)) := by
  unfold alS
  rw [(wds_inv (c := own (S_pl S)) h 12 (Nat.le_refl _)).2 q hq]
  congr 1
  by_cases z : own (S_pl S) q = true
  · rw [if_pos ⟨hq, z⟩, z, Bool.or_true]
    rfl
  · rw [if_neg (fun y => z y.2), Bool.eq_false_iff.mpr z, Bool.or_false]
theorem m_HA (T : Tt n c) {S : ST} {r : Nat → Int32} (h : SM (mv r) S) (hI : Inv (S_pl S) d wn) : HA n c (alS S) r := by
  intro s p u hr mt hp hu u4
  have n120 := T.1
  have rg := (cd_rg T p).2
  have e2 : (cdm n c p - 97).toInt = (cdm n c p).toInt - 97 := by rw [j_sub (by rw [i97]; omega) (by rw [i97]; omega), i97]
  unfold fX9_isPaneNext pnx
  rw [m_next mt n120 hp, j_b, j_nm, m_isPane, j_b, hr]
  by_cases l : 97 ≤ (cdm n c p).toInt ∧ (cdm n c p).toInt ≤ 108
  · obtain ⟨q, hq, pn, eq⟩ := ltr_sp T (decide_eq_true l)
    have eq97 : (nI (97 + q)).toInt = ((97 + q : Nat) : Int) := j_nI (by omega)
    have tq : (nI q).toInt = q := j_nI (by omega)
    rw [(cd_in pn).2, eq, l_sub hq, tq, decide_eq_true (by omega), Bool.true_and, Int.toNat_natCast, (h.1 q hq).1, eq97, decide_eq_true (show (97 : Int) ≤ ((97 + q : Nat) : Int) ∧ ((97 + q : Nat) : Int) ≤ 108 by omega), Bool.true_and, show (((97 + q : Nat) : Int) - 97).toNat = q by omega, al_wn hI hq]
    by_cases x : exB S q = true
    · rw [x, if_pos rfl, decide_eq_true rfl, if_pos rfl, hu, bt_one u4 hq, Bool.true_and]
      cases b : Nat.testBit u q
      · rw [if_neg Bool.false_ne_true, if_pos (show nI 0 = (0 : Int32) from rfl), m_isPlaced tq hq, j_b, hr, h.2.1.gr hq]
        by_cases z : S_pl S 13 q = -1
        · rw [decide_eq_true z, decide_eq_false (fun y => y z), if_neg Bool.false_ne_true]
          rfl
        · obtain ⟨g, hg, eg, kg⟩ : ∃ g : Nat, g < 23 ∧ S_pl S 13 q = g ∧ S_pl S 8 g = 2 := by
            rcases hI.2.1.gr (p := q) hq with y | y
            · exact absurd y z
            · exact y
          have e1 := hI.wo hq eg
          have vm : VM (mv (s.1 463)) (S_pl S) (fun _ => false) := by rw [hr]; exact h.2.1
          have wr := hI.1.wr5 hg (by omega)
          obtain ⟨w, w5, hw, _⟩ := wr
          rw [decide_eq_true z, decide_eq_false z, if_pos rfl, m_o3 tq hq, j_b, hr, h.2.1.gr hq, m_windowOf vm hI.1 (n := g) (by rw [eg, j_oI (by omega) (by omega)]) hg (by omega), j_b]
          unfold own
          rw [e1]
          by_cases y : wn g = 0
          · rw [if_pos (by rw [y]; rfl), decide_eq_true y]
            rfl
          · rw [if_neg (by rw [j_eq, j_oI (by omega) (by omega), jz0]; exact y), decide_eq_false y]
            rfl
      · rw [if_pos rfl, if_neg (show ¬ nI 1 = (0 : Int32) by decide)]
        simp
    · rw [Bool.eq_false_iff.mpr x, if_neg Bool.false_ne_true, decide_eq_false (by decide), if_neg Bool.false_ne_true]
      rfl
  · rw [decide_eq_false (by rw [e2]; omega), Bool.false_and, if_neg Bool.false_ne_true, decide_eq_false l, Bool.false_and]
/-- the class reads the text: the fault, and what it has made -/
theorem s_fault {S : ST} {l : List ST} (h : CR σ S l) (T : Tt n c) (e1 : σ.1 438 1 = nI n) (e2 : ∀ i, i < n → σ.1 439 i = c i) {r : Nat → Int32} (ha : HA n c (alS S) r) : ∃ ok σ1 p1 m1, fX6_findFault σ 440 1 438 = some (if ok = true ∧ p1 = n then -1 else nI p1, σ1) ∧ Out σ σ1 440 458 ∧ p1 ≤ n ∧ (ok = true → p1 = n → ParT n c true (-1) 0 0 (setn (alS S) 12) (wds (own (S_pl S)) (S_pl S) 12) p1 m1 (pv σ1 443)) ∧ ∀ s cn, s.1 463 = r → MS n c s 0 0 0 cn → ∃ s1, fX9_goes_27 462 FU s 0 1 = some (if ok = true ∧ p1 = n then -1 else nI p1, s1) ∧ Fk s s1 := by
  have n120 := T.1
  obtain ⟨hs, -, hS, -, -⟩ := h
  obtain ⟨d, wn, hI⟩ := hS.2.2.2.2.1
  -- the text is copied
  obtain ⟨w0, a1, a2, a3⟩ := s_copyRow (σ := σ) (c0 := 439) (c1 := 442) (n := 120) (by decide)
  obtain ⟨w1, hw1⟩ : ∃ w1 : Sg, w1 = su w0 441 1 (nI n) := ⟨_, rfl⟩
  have o1 : Out σ w1 440 458 := (a2.mo (by omega) (by omega)).tr (by rw [hw1]; exact ⟨rfl, fun x hx => su_ne (by omega)⟩)
  have e438 : w0.1 438 1 = nI n := by rw [a2.2 438 (by omega)]; exact e1
  have copy : fX5_copyFrom σ (440 + 1) 438 = some w1 := by
    unfold fX5_copyFrom
    rw [show (438 + 1 : Nat) = 439 from rfl, show (440 + 1 + 1 : Nat) = 442 from rfl, a1, j_b, j_nm, e438, hw1]
  -- the trees are copied
  obtain ⟨w2, b1, b2, b3⟩ := s_plcopy (σ := w1) (b := 440 + 3) (c := 1 + 5) (by omega)
  have o2 : Out σ w2 440 458 := o1.tr (b2.mo (by omega) (by omega))
  have v2 : pv w2 443 = S_pl S := by
    have : pv w2 443 = pv w1 (1 + 5) := b3
    rw [this, pv_c (σ := σ) (fun j h1 h2 => o1.2 _ (by omega)), S_pv hs]
  -- the main window is emptied
  obtain ⟨w3, d1, d2, d3⟩ := s_empty hI 12 0 FU w2 rfl (by decide) v2
  have o3 : Out σ w3 440 458 := o2.tr (d2.mo (by omega) (by omega))
  obtain ⟨w4, hw4⟩ : ∃ w4 : Sg, w4 = su w3 440 3 0 := ⟨_, rfl⟩
  have o4 : Out σ w4 440 458 := o3.tr (by rw [hw4]; exact ⟨rfl, fun x hx => su_ne (by omega)⟩)
  have v4 : pv w4 443 = wds (own (S_pl S)) (S_pl S) 12 := by rw [hw4, p43]; exact d3
  have s4 : stv w4 1 = S := by rw [← hs]; exact stv_c (fun x h1 h2 => o4.2 x (by omega))
  obtain ⟨w5, g1, g2, g3⟩ := s_allowed hS 12 0 FU w4 rfl (by decide) s4 v4 (by rw [hw4, su_at, if_pos ⟨rfl, rfl⟩]; rfl)
  have o5 : Out σ w5 440 458 := o4.tr (g2.mo (by omega) (by omega))
  obtain ⟨w6, hw6⟩ : ∃ w6 : Sg, w6 = su w5 440 2 0 := ⟨_, rfl⟩
  have o6 : Out σ w6 440 458 := o5.tr (by rw [hw6]; exact ⟨rfl, fun x hx => su_ne (by omega)⟩)
  have cell : ∀ x, (x = 441 ∨ x = 442) → w6.1 x = w1.1 x := fun x hx => by
    rw [hw6, su_ne (by omega), g2.2 x (by omega), hw4, su_ne (by omega), d2.2 x (by omega), b2.2 x (by omega)]
  have c6 : CS n c w6 0 (setn (alS S) 12) := by
    refine ⟨?_, fun i hi => ?_, by rw [hw6, su_at, if_pos ⟨rfl, rfl⟩]; rfl, by rw [hw6, su_at, if_neg (by omega)]; exact g3⟩
    · rw [cell 441 (by omega), hw1, su_at, if_pos ⟨rfl, rfl⟩]
    · rw [cell 442 (by omega), hw1, su_ne (by omega), a3 i (by omega), e2 i hi]
  have v6 : pv w6 443 = wds (own (S_pl S)) (S_pl S) 12 := by
    rw [hw6, p43, pv_c (σ := w4) (fun j h1 h2 => g2.2 _ (by omega))]
    exact v4
  obtain ⟨ok, σ1, p1, m1, i1, i2, i3, i4, i5, i6⟩ := sim_root T ha c6 (setn_lt _ 12 (Nat.le_refl _))
  have o7 : Out σ σ1 440 458 := ⟨i3.1.trans o6.1, fun x hx => (i3.2 x (by omega) (by omega)).trans (o6.2 x hx)⟩
  refine ⟨ok, σ1, p1, m1, ?_, o7, i4, fun y z => ?_, fun s cn hr ms => i6 s cn hr ms ⟨by omega, fun q hq => ?_⟩⟩
  · unfold fX6_findFault
    rw [copy, j_b, b1, j_b]
    have d1' : fX1_emptyWindow w2 (440 + 3) 0 = some w3 := d1
    have g1' : fX6_findFault_34 440 1 438 FU w4 0 = fX6_findFault_34 440 1 438 (5987 + 1) w5 12 := g1
    rw [d1', j_b, ← hw4, j_nm, g1', fX6_findFault_34, if_pos (show (12 : Int32) ≤ 12 by decide), ← hw6, j_nm, i1, j_b]
    unfold fX6_findFault_113 fX5_length
    dsimp only
    have e441 : σ1.1 (440 + 1) 1 = nI n := i2.1
    rw [i2.2.2.1, e441, j_b]
    cases hok : ok
    · rw [if_neg Bool.false_ne_true, if_neg (fun y => by cases y.1)]
    · rw [if_pos rfl]
      by_cases z : p1 = n
      · rw [if_pos (by rw [z]), if_pos ⟨rfl, z⟩]
      · rw [if_neg (fun y => z ((j_inj (by omega) (by omega)).mp y)), if_neg (fun y => z y.2)]
  · rw [← v6]
    exact i5 y z
  · rw [setn_bit, decide_eq_true hq, Bool.true_and, Nat.zero_testBit, Bool.not_false, Bool.and_true]
theorem TX.tt (h : TX σ) : ∃ n c, Tt n c ∧ σ.1 438 1 = nI n ∧ (∀ i, i < n → σ.1 439 i = c i) ∧ σ.1 462 5 = nI n ∧ ∀ i, i < n → σ.1 465 i = c i := by
  obtain ⟨n, h1, h2, h3, h4⟩ := h
  exact ⟨n, σ.1 439, ⟨h1, fun i hi => (h4 i hi).2⟩, h2, fun i hi => rfl, h3, fun i hi => (h4 i hi).1.symm⟩
theorem c_fault (h : RR σ) : PS (fX8_fault σ) (fun s => fX9_fault s 462) := by
  obtain ⟨S, l, cr, mr, tx⟩ := h
  obtain ⟨n, c, T, e1, e2, e3, e4⟩ := tx.tt
  obtain ⟨d, wn, hI⟩ := cr.2.2.1.2.2.2.2.1
  obtain ⟨ok, σ1, p1, m1, a1, a2, a3, -, a5⟩ := s_fault cr T e1 e2 (m_HA T mr.2 hI)
  have c4 : ∀ x, 459 ≤ x → σ1.1 x = σ.1 x := fun x hx => a2.2 x (by omega)
  obtain ⟨s5, hs5⟩ : ∃ s5 : Sg, s5 = su (su (su (su (su (su σ1 462 3 0) 462 15 0) 462 16 (-1)) 462 19 0) 462 20 0) 462 22 0 := ⟨_, rfl⟩
  have x5 : ∀ x, x ≠ 462 → s5.1 x = σ1.1 x := fun x hx => by rw [hs5, su_ne hx, su_ne hx, su_ne hx, su_ne hx, su_ne hx, su_ne hx]
  have j5 : ∀ j, j ≠ 3 → j < 15 → s5.1 462 j = σ1.1 462 j := fun j h3 h15 => by
    rw [hs5, su_at, if_neg (by omega), su_at, if_neg (by omega), su_at, if_neg (by omega), su_at, if_neg (by omega), su_at, if_neg (by omega), su_at, if_neg (by omega)]
  have ms : MS n c s5 0 0 0 (fun _ => 0) := by
    refine ⟨⟨?_, fun i hi => ?_, ?_⟩, ?_, ?_, ?_, fun i hi => absurd hi (by omega)⟩
    · rw [j5 5 (by omega) (by omega), c4 462 (by omega)]; exact e3
    · rw [x5 465 (by omega), c4 465 (by omega)]; exact e4 i hi
    · rw [hs5, su_at, if_neg (by omega), su_at, if_neg (by omega), su_at, if_neg (by omega), su_at, if_neg (by omega), su_at, if_pos ⟨rfl, rfl⟩]; rfl
    · rw [hs5, su_at, if_neg (by omega), su_at, if_neg (by omega), su_at, if_neg (by omega), su_at, if_pos ⟨rfl, rfl⟩]
    · rw [hs5, su_at, if_neg (by omega), su_at, if_neg (by omega), su_at, if_pos ⟨rfl, rfl⟩]; rfl
    · rw [hs5, su_at, if_neg (by omega), su_at, if_pos ⟨rfl, rfl⟩]; rfl
  obtain ⟨s6, b1, b2⟩ := a5 s5 _ (by rw [x5 463 (by omega), c4 463 (by omega)]) ms
  have c6 : ∀ x, x < 440 → s6.1 x = σ.1 x := fun x hx => by
    rw [b2.2.1 x (by omega) (by omega) (by omega) (by omega), x5 x (by omega), a2.2 x (by omega)]
  have d6 : ∀ x, 463 ≤ x → x ≤ 465 → s6.1 x = σ.1 x := fun x h1 h2 => by
    rw [b2.2.1 x (by omega) (by omega) (by omega) (by omega), x5 x (by omega), c4 x (by omega)]
  have k6 : ∀ j, j ≠ 3 → j < 15 → s6.1 462 j = σ.1 462 j := fun j h3 h15 => by
    rw [b2.2.2 j (by omega), j5 j h3 h15, c4 462 (by omega)]
  refine ⟨(if ok = true ∧ p1 = n then -1 else nI p1), σ1, s6, ?_, ?_, ⟨S, l, cr.c (fun x hx => c6 x (by omega)), mr.c (k6 2 (by omega) (by omega)) (d6 463 (by omega) (by omega)) (d6 464 (by omega) (by omega)), tx.c (by rw [c6 438 (by omega)]) (c6 439 (by omega)) (k6 5 (by omega) (by omega)) (d6 465 (by omega) (by omega))⟩⟩
  · unfold fX8_fault
    rw [a1, j_b]
  · show fX9_fault σ1 462 = _
    unfold fX9_fault fX9_goes
    rw [j_nm, j_nm, j_nm, j_nm, j_nm, j_nm, ← hs5, b1, j_b]
end RB0
end
section
/-! THE RELATION: write (1): what is written, numbers -/
section RB1
def CB (σ : Sg) (W : List Int32) : Prop := σ.1 460 1 = nI W.length ∧ ∀ i, i < W.length → i < 120 → σ.1 461 i = W.getD i 0
def MB (s : Sg) (W : List Int32) : Prop := s.1 462 25 = nI (min W.length 400) ∧ ∀ i, i < W.length → i < 400 → s.1 475 i = W.getD i 0
def Fr (s s1 : Sg) : Prop := s1.2 = s.2 ∧ (∀ x, x ≠ 462 → x ≠ 475 → s1.1 x = s.1 x) ∧ ∀ j, j ≠ 25 → s1.1 462 j = s.1 462 j
variable {σ s : Sg} {W : List Int32}
theorem Fr.rf : Fr s s := ⟨rfl, fun _ _ _ => rfl, fun _ _ => rfl⟩
theorem Fr.tr {s1 s2 : Sg} (h : Fr s s1) (h2 : Fr s1 s2) : Fr s s2 := ⟨h2.1.trans h.1, fun x a b => (h2.2.1 x a b).trans (h.2.1 x a b), fun j a => (h2.2.2 j a).trans (h.2.2 j a)⟩
theorem gd_lt {x : Int32} {i : Nat} (h : i < W.length) : (W ++ [x]).getD i 0 = W.getD i 0 := by
  simp [List.getD_eq_getElem?_getD, List.getElem?_append, h]
theorem gd_eq {x : Int32} : (W ++ [x]).getD W.length 0 = x := by
  simp [List.getD_eq_getElem?_getD]
theorem CB.app (h : CB σ W) (hl : W.length < 1000000) (x : Int32) : ∃ σ', fX5_append σ (459 + 1) x = some σ' ∧ Out σ σ' 460 461 ∧ CB σ' (W ++ [x]) := by
  have e : (nI W.length).toInt = W.length := j_nI (by omega)
  obtain ⟨w1, hw1⟩ : ∃ w1 : Sg, w1 = pt σ 461 120 (nI W.length) x := ⟨_, rfl⟩
  have c460 : w1.1 460 = σ.1 460 := by
    rw [hw1]
    exact (pt_out (σ := σ) (c := 461) (n := 120) (p := nI W.length) (v := x)).2 460 (by omega)
  have c461 : ∀ i, w1.1 461 i = if W.length < 120 ∧ i = W.length then x else σ.1 461 i := fun i => by
    rw [hw1]
    unfold pt
    by_cases z : W.length < 120
    · rw [if_pos (by omega), su_at, e, Int.toNat_natCast]
      by_cases y : i = W.length
      · rw [if_pos ⟨rfl, y⟩, if_pos ⟨z, y⟩]
      · rw [if_neg (fun w => y w.2), if_neg (fun w => y w.2)]
    · rw [if_neg (by omega), if_neg (fun w => z w.1)]
  refine ⟨su w1 460 1 (nI (W.length + 1)), ?_, ?_, ?_, fun i hi h120 => ?_⟩
  · unfold fX5_append
    have c1 : w1.1 (459 + 1) 1 = nI W.length := by show w1.1 460 1 = _; rw [c460]; exact h.1
    rw [show (459 + 1 + 1 : Nat) = 461 from rfl, s_pt (by decide), j_b, show σ.1 (459 + 1) 1 = nI W.length from h.1, ← hw1, c1, j_s, j_nm]
  · refine Out.tr (σ1 := w1) (by rw [hw1]; exact pt_out.mo (by omega) (by omega)) ⟨rfl, fun y hy => su_ne (by omega)⟩
  · rw [su_at, if_pos ⟨rfl, rfl⟩, List.length_append]
    rfl
  · rw [su_ne (by omega), c461]
    rw [List.length_append] at hi
    have hi : i < W.length + 1 := hi
    by_cases y : i = W.length
    · rw [if_pos ⟨by omega, y⟩, y, gd_eq]
    · rw [if_neg (fun w => y w.2), gd_lt (by omega)]
      exact h.2 i (by omega) h120
theorem MB.wr (h : MB s W) (x : Int32) : ∃ s', fX9_writes s 462 x = some s' ∧ Fr s s' ∧ MB s' (W ++ [x]) := by
  have e400 : (400 : Int32).toInt = 400 := rfl
  unfold fX9_writes
  by_cases z : W.length < 400
  · have em : min W.length 400 = W.length := by omega
    have h1 := h.1
    rw [em] at h1
    refine ⟨su (su s 475 W.length x) 462 25 (nI (W.length + 1)), ?_, ⟨rfl, fun y a b => by rw [su_ne a, su_ne b], fun j a => by rw [su_at, if_neg (fun w => a w.2), su_ne (by omega)]⟩, ?_, fun i hi h4 => ?_⟩
    · have c1 : (su s 475 W.length x).1 462 25 = nI W.length := by rw [su_ne (by omega)]; exact h1
      rw [h1, if_neg (by rw [j_le_nI (by omega), e400]; omega), if_pos (j_ckn z (by decide)), j_cl _ (by omega), show (462 + 13 : Nat) = 475 from rfl, j_nm, c1, j_s, j_nm]
    · rw [su_at, if_pos ⟨rfl, rfl⟩, List.length_append, show min (W.length + [x].length) 400 = W.length + 1 by
        show min (W.length + 1) 400 = _
        omega]
    · rw [su_ne (by omega), su_at]
      rw [List.length_append] at hi
      have hi : i < W.length + 1 := hi
      by_cases y : i = W.length
      · rw [if_pos ⟨rfl, y⟩, y, gd_eq]
      · rw [if_neg (fun w => y w.2), gd_lt (by omega)]
        exact h.2 i (by omega) h4
  · have em : min W.length 400 = 400 := by omega
    have h1 := h.1
    rw [em] at h1
    refine ⟨s, ?_, Fr.rf, ?_, fun i hi h4 => ?_⟩
    · rw [h1, if_pos (by decide)]
    · rw [h1, List.length_append, show min (W.length + [x].length) 400 = 400 by
        show min (W.length + 1) 400 = _
        omega]
    · rw [gd_lt (by omega)]
      exact h.2 i (by omega) h4
def dgt (w u : Int32) : Int32 := 48 + ((w / u) - (w / u) / 10 * 10)
theorem q_div {w u : Int32} (hw : 0 ≤ w.toInt) (hu : 1 ≤ u.toInt) : (w / u).toInt = w.toInt / u.toInt := by
  have h1 := j_hi w
  have q1 : Int.tdiv w.toInt u.toInt = w.toInt / u.toInt := Int.tdiv_eq_ediv_of_nonneg hw
  have q2 : 0 ≤ w.toInt / u.toInt := Int.ediv_nonneg hw (by omega)
  have q3 : w.toInt / u.toInt ≤ w.toInt := Int.ediv_le_self _ hw
  rw [Int32.toInt_div, q1, Int.bmod_eq_of_le (by omega) (by omega)]
/-- the class's unit -/
theorem s_unit (h : CB σ W) (hl : W.length < 900000) (w u : Int32) (hu : 1 ≤ u.toInt) (f : Nat) : ∃ σ', fX7_putNumber_3 459 (f + 1) σ w u = fX7_putNumber_3 459 f σ' w (u / 10) ∧ Out σ σ' 460 461 ∧ CB σ' (W ++ (if w < u then [] else [dgt w u])) := by
  have u0 : ¬ u ≤ 0 := by rw [j_le, jz0]; omega
  have u1 : ¬ u = 0 := by rw [j_eq, jz0]; omega
  rw [fX7_putNumber_3, if_neg u0]
  unfold fX7_putNumber_28
  by_cases z : w < u
  · refine ⟨σ, ?_, Out.rf, ?_⟩
    · rw [if_pos z, j_nm]
    · rw [if_pos z, List.append_nil]
      exact h
  · obtain ⟨σ1, a1, a2, a3⟩ := h.app (by omega) (dgt w u)
    refine ⟨σ1, ?_, a2, ?_⟩
    · unfold dgt at a1
      rw [if_neg z, if_neg u1, a1, j_b, j_nm]
    · rw [if_neg z]
      exact a3
def numl (w : Int32) : List Int32 := (if w < 1000000 then [] else [dgt w 1000000]) ++ ((if w < 100000 then [] else [dgt w 100000]) ++ ((if w < 10000 then [] else [dgt w 10000]) ++ ((if w < 1000 then [] else [dgt w 1000]) ++ ((if w < 100 then [] else [dgt w 100]) ++ ((if w < 10 then [] else [dgt w 10]) ++ (if w < 1 then [] else [dgt w 1]))))))
theorem il_le (w u : Int32) : (if w < u then ([] : List Int32) else [dgt w u]).length ≤ 1 := by
  by_cases z : w < u
  · rw [if_pos z]; exact Nat.zero_le _
  · rw [if_neg z]; exact Nat.le_refl _
theorem numl_len (w : Int32) : (numl w).length ≤ 7 := by
  have h1 := il_le w 1000000
  have h2 := il_le w 100000
  have h3 := il_le w 10000
  have h4 := il_le w 1000
  have h5 := il_le w 100
  have h6 := il_le w 10
  have h7 := il_le w 1
  unfold numl
  simp only [List.length_append]
  omega
theorem s_number (h : CB σ W) (hl : W.length < 800000) (w : Int32) : ∃ σ', fX7_putNumber σ 459 w = some σ' ∧ Out σ σ' 460 461 ∧ CB σ' (W ++ numl w) := by
  have l1 := il_le w 1000000
  have l2 := il_le w 100000
  have l3 := il_le w 10000
  have l4 := il_le w 1000
  have l5 := il_le w 100
  have l6 := il_le w 10
  obtain ⟨σ1, a1, b1, c1⟩ := s_unit h (by omega) w 1000000 (by decide) 5999
  obtain ⟨σ2, a2, b2, c2⟩ := s_unit c1 (by rw [List.length_append]; omega) w 100000 (by decide) 5998
  obtain ⟨σ3, a3, b3, c3⟩ := s_unit c2 (by rw [List.length_append, List.length_append]; omega) w 10000 (by decide) 5997
  obtain ⟨σ4, a4, b4, c4⟩ := s_unit c3 (by rw [List.length_append, List.length_append, List.length_append]; omega) w 1000 (by decide) 5996
  obtain ⟨σ5, a5, b5, c5⟩ := s_unit c4 (by rw [List.length_append, List.length_append, List.length_append, List.length_append]; omega) w 100 (by decide) 5995
  obtain ⟨σ6, a6, b6, c6⟩ := s_unit c5 (by rw [List.length_append, List.length_append, List.length_append, List.length_append, List.length_append]; omega) w 10 (by decide) 5994
  obtain ⟨σ7, a7, b7, c7⟩ := s_unit c6 (by rw [List.length_append, List.length_append, List.length_append, List.length_append, List.length_append, List.length_append]; omega) w 1 (by decide) 5993
  refine ⟨σ7, ?_, (((((b1.tr b2).tr b3).tr b4).tr b5).tr b6).tr b7, ?_⟩
  · unfold fX7_putNumber
    rw [show FU = 5999 + 1 from rfl, a1, show (1000000 : Int32) / 10 = 100000 by decide, a2, show (100000 : Int32) / 10 = 10000 by decide, a3, show (10000 : Int32) / 10 = 1000 by decide, a4, show (1000 : Int32) / 10 = 100 by decide, a5, show (100 : Int32) / 10 = 10 by decide, a6, show (10 : Int32) / 10 = 1 by decide, a7, show (1 : Int32) / 10 = 0 by decide, show (5993 : Nat) = 5992 + 1 from rfl, fX7_putNumber_3, if_pos (show (0 : Int32) ≤ 0 by decide)]
  · unfold numl
    simp only [List.append_assoc] at c7
    exact c7
/-- the reference's unit -/
theorem m_unit (h : MB s W) (w u : Int32) (hu : 1 ≤ u.toInt) (f : Nat) : ∃ s', fX9_writesNumber_20 462 (f + 1) s w u = fX9_writesNumber_20 462 f s' w (u / 10) ∧ Fr s s' ∧ MB s' (W ++ [dgt w u]) := by
  obtain ⟨s1, a1, a2, a3⟩ := h.wr (dgt w u)
  refine ⟨s1, ?_, a2, a3⟩
  unfold dgt at a1
  rw [fX9_writesNumber_20, if_neg (by rw [j_le, jz0]; omega), if_neg (by rw [j_eq, jz0]; omega), a1, j_b, j_nm]
theorem m_up {w u : Int32} (hw : 0 ≤ w.toInt) (hu : 1 ≤ u.toInt) (f : Nat) : fX9_writesNumber_2 462 (f + 1) s w u = if w.toInt / u.toInt ≤ 9 then fX9_writesNumber_20 462 FU s w u else fX9_writesNumber_2 462 f s w (u * 10) := by
  have e9 : (9 : Int32).toInt = 9 := rfl
  rw [fX9_writesNumber_2, if_neg (by rw [j_eq, jz0]; omega)]
  by_cases z : w.toInt / u.toInt ≤ 9
  · rw [if_pos (by rw [j_le, q_div hw hu, e9]; exact z), if_pos z]
  · rw [if_neg (by rw [j_le, q_div hw hu, e9]; exact z), if_neg z, j_nm]
end RB1
end
section
/-! THE RELATION: write (2): numbers, tabs -/
section RB2
variable {σ s : Sg} {W : List Int32} {V : VW} {d : Nat → Nat} {wn : Nat → Int}
theorem m_end20 (s : Sg) (w : Int32) (f : Nat) : fX9_writesNumber_20 462 (f + 1) s w 0 = some s := by
  rw [fX9_writesNumber_20, if_pos (show (0 : Int32) ≤ 0 by decide)]
theorem m_num0 (h : MB s W) {w : Int32} (h0 : 1 ≤ w.toInt) (h1 : w.toInt < 10) : ∃ s', fX9_writesNumber s 462 w = some s' ∧ Fr s s' ∧ MB s' (W ++ numl w) := by
  have u0 : (1 : Int32).toInt = 1 := rfl
  have u1 : (10 : Int32).toInt = 10 := rfl
  have u2 : (100 : Int32).toInt = 100 := rfl
  have u3 : (1000 : Int32).toInt = 1000 := rfl
  have u4 : (10000 : Int32).toInt = 10000 := rfl
  have u5 : (100000 : Int32).toInt = 100000 := rfl
  have u6 : (1000000 : Int32).toInt = 1000000 := rfl
  obtain ⟨s1, a1, b1, c1⟩ := m_unit (s := s) h w 1 (by decide) 5999
  refine ⟨s1, ?_, b1, ?_⟩
  · unfold fX9_writesNumber
    rw [show FU = 5999 + 1 from rfl, m_up (u := 1) (by omega) (by decide), if_pos (by rw [u0]; omega), show FU = 5999 + 1 from rfl, a1, show (1 : Int32) / 10 = 0 by decide, show (5999 : Nat) = 5998 + 1 from rfl, m_end20]
  · have en : numl w = [dgt w 1] := by
      unfold numl
      rw [if_pos (show w < 1000000 by rw [j_lt, u6]; omega), if_pos (show w < 100000 by rw [j_lt, u5]; omega), if_pos (show w < 10000 by rw [j_lt, u4]; omega), if_pos (show w < 1000 by rw [j_lt, u3]; omega), if_pos (show w < 100 by rw [j_lt, u2]; omega), if_pos (show w < 10 by rw [j_lt, u1]; omega), if_neg (show ¬ w < 1 by rw [j_lt, u0]; omega)]
      rfl
    rw [en]
    simpa [List.append_assoc] using c1
theorem m_num1 (h : MB s W) {w : Int32} (h0 : 10 ≤ w.toInt) (h1 : w.toInt < 100) : ∃ s', fX9_writesNumber s 462 w = some s' ∧ Fr s s' ∧ MB s' (W ++ numl w) := by
  have u0 : (1 : Int32).toInt = 1 := rfl
  have u1 : (10 : Int32).toInt = 10 := rfl
  have u2 : (100 : Int32).toInt = 100 := rfl
  have u3 : (1000 : Int32).toInt = 1000 := rfl
  have u4 : (10000 : Int32).toInt = 10000 := rfl
  have u5 : (100000 : Int32).toInt = 100000 := rfl
  have u6 : (1000000 : Int32).toInt = 1000000 := rfl
  obtain ⟨s1, a1, b1, c1⟩ := m_unit (s := s) h w 10 (by decide) 5999
  obtain ⟨s2, a2, b2, c2⟩ := m_unit (s := s1) c1 w 1 (by decide) 5998
  refine ⟨s2, ?_, (b1).tr b2, ?_⟩
  · unfold fX9_writesNumber
    rw [show FU = 5999 + 1 from rfl, m_up (u := 1) (by omega) (by decide), if_neg (by rw [u0]; omega), show (1 : Int32) * 10 = 10 by decide, show (5999 : Nat) = 5998 + 1 from rfl, m_up (u := 10) (by omega) (by decide), if_pos (by rw [u1]; omega), show FU = 5999 + 1 from rfl, a1, show (10 : Int32) / 10 = 1 by decide, show (5999 : Nat) = 5998 + 1 from rfl, a2, show (1 : Int32) / 10 = 0 by decide, show (5998 : Nat) = 5997 + 1 from rfl, m_end20]
  · have en : numl w = [dgt w 10, dgt w 1] := by
      unfold numl
      rw [if_pos (show w < 1000000 by rw [j_lt, u6]; omega), if_pos (show w < 100000 by rw [j_lt, u5]; omega), if_pos (show w < 10000 by rw [j_lt, u4]; omega), if_pos (show w < 1000 by rw [j_lt, u3]; omega), if_pos (show w < 100 by rw [j_lt, u2]; omega), if_neg (show ¬ w < 10 by rw [j_lt, u1]; omega), if_neg (show ¬ w < 1 by rw [j_lt, u0]; omega)]
      rfl
    rw [en]
    simpa [List.append_assoc] using c2
theorem m_num2 (h : MB s W) {w : Int32} (h0 : 100 ≤ w.toInt) (h1 : w.toInt < 1000) : ∃ s', fX9_writesNumber s 462 w = some s' ∧ Fr s s' ∧ MB s' (W ++ numl w) := by
  have u0 : (1 : Int32).toInt = 1 := rfl
  have u1 : (10 : Int32).toInt = 10 := rfl
  have u2 : (100 : Int32).toInt = 100 := rfl
  have u3 : (1000 : Int32).toInt = 1000 := rfl
  have u4 : (10000 : Int32).toInt = 10000 := rfl
  have u5 : (100000 : Int32).toInt = 100000 := rfl
  have u6 : (1000000 : Int32).toInt = 1000000 := rfl
  obtain ⟨s1, a1, b1, c1⟩ := m_unit (s := s) h w 100 (by decide) 5999
  obtain ⟨s2, a2, b2, c2⟩ := m_unit (s := s1) c1 w 10 (by decide) 5998
  obtain ⟨s3, a3, b3, c3⟩ := m_unit (s := s2) c2 w 1 (by decide) 5997
  refine ⟨s3, ?_, ((b1).tr b2).tr b3, ?_⟩
  · unfold fX9_writesNumber
    rw [show FU = 5999 + 1 from rfl, m_up (u := 1) (by omega) (by decide), if_neg (by rw [u0]; omega), show (1 : Int32) * 10 = 10 by decide, show (5999 : Nat) = 5998 + 1 from rfl, m_up (u := 10) (by omega) (by decide), if_neg (by rw [u1]; omega), show (10 : Int32) * 10 = 100 by decide, show (5998 : Nat) = 5997 + 1 from rfl, m_up (u := 100) (by omega) (by decide), if_pos (by rw [u2]; omega), show FU = 5999 + 1 from rfl, a1, show (100 : Int32) / 10 = 10 by decide, show (5999 : Nat) = 5998 + 1 from rfl, a2, show (10 : Int32) / 10 = 1 by decide, show (5998 : Nat) = 5997 + 1 from rfl, a3, show (1 : Int32) / 10 = 0 by decide, show (5997 : Nat) = 5996 + 1 from rfl, m_end20]
  · have en : numl w = [dgt w 100, dgt w 10, dgt w 1] := by
      unfold numl
      rw [if_pos (show w < 1000000 by rw [j_lt, u6]; omega), if_pos (show w < 100000 by rw [j_lt, u5]; omega), if_pos (show w < 10000 by rw [j_lt, u4]; omega), if_pos (show w < 1000 by rw [j_lt, u3]; omega), if_neg (show ¬ w < 100 by rw [j_lt, u2]; omega), if_neg (show ¬ w < 10 by rw [j_lt, u1]; omega), if_neg (show ¬ w < 1 by rw [j_lt, u0]; omega)]
      rfl
    rw [en]
    simpa [List.append_assoc] using c3
theorem m_num3 (h : MB s W) {w : Int32} (h0 : 1000 ≤ w.toInt) (h1 : w.toInt < 10000) : ∃ s', fX9_writesNumber s 462 w = some s' ∧ Fr s s' ∧ MB s' (W ++ numl w) := by
  have u0 : (1 : Int32).toInt = 1 := rfl
  have u1 : (10 : Int32).toInt = 10 := rfl
  have u2 : (100 : Int32).toInt = 100 := rfl
  have u3 : (1000 : Int32).toInt = 1000 := rfl
  have u4 : (10000 : Int32).toInt = 10000 := rfl
  have u5 : (100000 : Int32).toInt = 100000 := rfl
  have u6 : (1000000 : Int32).toInt = 1000000 := rfl
  obtain ⟨s1, a1, b1, c1⟩ := m_unit (s := s) h w 1000 (by decide) 5999
  obtain ⟨s2, a2, b2, c2⟩ := m_unit (s := s1) c1 w 100 (by decide) 5998
  obtain ⟨s3, a3, b3, c3⟩ := m_unit (s := s2) c2 w 10 (by decide) 5997
  obtain ⟨s4, a4, b4, c4⟩ := m_unit (s := s3) c3 w 1 (by decide) 5996
  refine ⟨s4, ?_, (((b1).tr b2).tr b3).tr b4, ?_⟩
  · unfold fX9_writesNumber
    rw [show FU = 5999 + 1 from rfl, m_up (u := 1) (by omega) (by decide), if_neg (by rw [u0]; omega), show (1 : Int32) * 10 = 10 by decide, show (5999 : Nat) = 5998 + 1 from rfl, m_up (u := 10) (by omega) (by decide), if_neg (by rw [u1]; omega), show (10 : Int32) * 10 = 100 by decide, show (5998 : Nat) = 5997 + 1 from rfl, m_up (u := 100) (by omega) (by decide), if_neg (by rw [u2]; omega), show (100 : Int32) * 10 = 1000 by decide, show (5997 : Nat) = 5996 + 1 from rfl, m_up (u := 1000) (by omega) (by decide), if_pos (by rw [u3]; omega), show FU = 5999 + 1 from rfl, a1, show (1000 : Int32) / 10 = 100 by decide, show (5999 : Nat) = 5998 + 1 from rfl, a2, show (100 : Int32) / 10 = 10 by decide, show (5998 : Nat) = 5997 + 1 from rfl, a3, show (10 : Int32) / 10 = 1 by decide, show (5997 : Nat) = 5996 + 1 from rfl, a4, show (1 : Int32) / 10 = 0 by decide, show (5996 : Nat) = 5995 + 1 from rfl, m_end20]
  · have en : numl w = [dgt w 1000, dgt w 100, dgt w 10, dgt w 1] := by
      unfold numl
      rw [if_pos (show w < 1000000 by rw [j_lt, u6]; omega), if_pos (show w < 100000 by rw [j_lt, u5]; omega), if_pos (show w < 10000 by rw [j_lt, u4]; omega), if_neg (show ¬ w < 1000 by rw [j_lt, u3]; omega), if_neg (show ¬ w < 100 by rw [j_lt, u2]; omega), if_neg (show ¬ w < 10 by rw [j_lt, u1]; omega), if_neg (show ¬ w < 1 by rw [j_lt, u0]; omega)]
      rfl
    rw [en]
    simpa [List.append_assoc] using c4
theorem m_num4 (h : MB s W) {w : Int32} (h0 : 10000 ≤ w.toInt) (h1 : w.toInt < 100000) : ∃ s', fX9_writesNumber s 462 w = some s' ∧ Fr s s' ∧ MB s' (W ++ numl w) := by
  have u0 : (1 : Int32).toInt = 1 := rfl
  have u1 : (10 : Int32).toInt = 10 := rfl
  have u2 : (100 : Int32).toInt = 100 := rfl
  have u3 : (1000 : Int32).toInt = 1000 := rfl
  have u4 : (10000 : Int32).toInt = 10000 := rfl
  have u5 : (100000 : Int32).toInt = 100000 := rfl
  have u6 : (1000000 : Int32).toInt = 1000000 := rfl
  obtain ⟨s1, a1, b1, c1⟩ := m_unit (s := s) h w 10000 (by decide) 5999
  obtain ⟨s2, a2, b2, c2⟩ := m_unit (s := s1) c1 w 1000 (by decide) 5998
  obtain ⟨s3, a3, b3, c3⟩ := m_unit (s := s2) c2 w 100 (by decide) 5997
  obtain ⟨s4, a4, b4, c4⟩ := m_unit (s := s3) c3 w 10 (by decide) 5996
  obtain ⟨s5, a5, b5, c5⟩ := m_unit (s := s4) c4 w 1 (by decide) 5995
  refine ⟨s5, ?_, ((((b1).tr b2).tr b3).tr b4).tr b5, ?_⟩
  · unfold fX9_writesNumber
    rw [show FU = 5999 + 1 from rfl, m_up (u := 1) (by omega) (by decide), if_neg (by rw [u0]; omega), show (1 : Int32) * 10 = 10 by decide, show (5999 : Nat) = 5998 + 1 from rfl, m_up (u := 10) (by omega) (by decide), if_neg (by rw [u1]; omega), show (10 : Int32) * 10 = 100 by decide, show (5998 : Nat) = 5997 + 1 from rfl, m_up (u := 100) (by omega) (by decide), if_neg (by rw [u2]; omega), show (100 : Int32) * 10 = 1000 by decide, show (5997 : Nat) = 5996 + 1 from rfl, m_up (u := 1000) (by omega) (by decide), if_neg (by rw [u3]; omega), show (1000 : Int32) * 10 = 10000 by decide, show (5996 : Nat) = 5995 + 1 from rfl, m_up (u := 10000) (by omega) (by decide), if_pos (by rw [u4]; omega), show FU = 5999 + 1 from rfl, a1, show (10000 : Int32) / 10 = 1000 by decide, show (5999 : Nat) = 5998 + 1 from rfl, a2, show (1000 : Int32) / 10 = 100 by decide, show (5998 : Nat) = 5997 + 1 from rfl, a3, show (100 : Int32) / 10 = 10 by decide, show (5997 : Nat) = 5996 + 1 from rfl, a4, show (10 : Int32) / 10 = 1 by decide, show (5996 : Nat) = 5995 + 1 from rfl, a5, show (1 : Int32) / 10 = 0 by decide, show (5995 : Nat) = 5994 + 1 from rfl, m_end20]
  · have en : numl w = [dgt w 10000, dgt w 1000, dgt w 100, dgt w 10, dgt w 1] := by
      unfold numl
      rw [if_pos (show w < 1000000 by rw [j_lt, u6]; omega), if_pos (show w < 100000 by rw [j_lt, u5]; omega), if_neg (show ¬ w < 10000 by rw [j_lt, u4]; omega), if_neg (show ¬ w < 1000 by rw [j_lt, u3]; omega), if_neg (show ¬ w < 100 by rw [j_lt, u2]; omega), if_neg (show ¬ w < 10 by rw [j_lt, u1]; omega), if_neg (show ¬ w < 1 by rw [j_lt, u0]; omega)]
      rfl
    rw [en]
    simpa [List.append_assoc] using c5
theorem m_num5 (h : MB s W) {w : Int32} (h0 : 100000 ≤ w.toInt) (h1 : w.toInt < 1000000) : ∃ s', fX9_writesNumber s 462 w = some s' ∧ Fr s s' ∧ MB s' (W ++ numl w) := by
  have u0 : (1 : Int32).toInt = 1 := rfl
  have u1 : (10 : Int32).toInt = 10 := rfl
  have u2 : (100 : Int32).toInt = 100 := rfl
  have u3 : (1000 : Int32).toInt = 1000 := rfl
  have u4 : (10000 : Int32).toInt = 10000 := rfl
  have u5 : (100000 : Int32).toInt = 100000 := rfl
  have u6 : (1000000 : Int32).toInt = 1000000 := rfl
  obtain ⟨s1, a1, b1, c1⟩ := m_unit (s := s) h w 100000 (by decide) 5999
  obtain ⟨s2, a2, b2, c2⟩ := m_unit (s := s1) c1 w 10000 (by decide) 5998
  obtain ⟨s3, a3, b3, c3⟩ := m_unit (s := s2) c2 w 1000 (by decide) 5997
  obtain ⟨s4, a4, b4, c4⟩ := m_unit (s := s3) c3 w 100 (by decide) 5996
  obtain ⟨s5, a5, b5, c5⟩ := m_unit (s := s4) c4 w 10 (by decide) 5995
  obtain ⟨s6, a6, b6, c6⟩ := m_unit (s := s5) c5 w 1 (by decide) 5994
  refine ⟨s6, ?_, (((((b1).tr b2).tr b3).tr b4).tr b5).tr b6, ?_⟩
  · unfold fX9_writesNumber
    rw [show FU = 5999 + 1 from rfl, m_up (u := 1) (by omega) (by decide), if_neg (by rw [u0]; omega), show (1 : Int32) * 10 = 10 by decide, show (5999 : Nat) = 5998 + 1 from rfl, m_up (u := 10) (by omega) (by decide), if_neg (by rw [u1]; omega), show (10 : Int32) * 10 = 100 by decide, show (5998 : Nat) = 5997 + 1 from rfl, m_up (u := 100) (by omega) (by decide), if_neg (by rw [u2]; omega), show (100 : Int32) * 10 = 1000 by decide, show (5997 : Nat) = 5996 + 1 from rfl, m_up (u := 1000) (by omega) (by decide), if_neg (by rw [u3]; omega), show (1000 : Int32) * 10 = 10000 by decide, show (5996 : Nat) = 5995 + 1 from rfl, m_up (u := 10000) (by omega) (by decide), if_neg (by rw [u4]; omega), show (10000 : Int32) * 10 = 100000 by decide, show (5995 : Nat) = 5994 + 1 from rfl, m_up (u := 100000) (by omega) (by decide), if_pos (by rw [u5]; omega), show FU = 5999 + 1 from rfl, a1, show (100000 : Int32) / 10 = 10000 by decide, show (5999 : Nat) = 5998 + 1 from rfl, a2, show (10000 : Int32) / 10 = 1000 by decide, show (5998 : Nat) = 5997 + 1 from rfl, a3, show (1000 : Int32) / 10 = 100 by decide, show (5997 : Nat) = 5996 + 1 from rfl, a4, show (100 : Int32) / 10 = 10 by decide, show (5996 : Nat) = 5995 + 1 from rfl, a5, show (10 : Int32) / 10 = 1 by decide, show (5995 : Nat) = 5994 + 1 from rfl, a6, show (1 : Int32) / 10 = 0 by decide, show (5994 : Nat) = 5993 + 1 from rfl, m_end20]
  · have en : numl w = [dgt w 100000, dgt w 10000, dgt w 1000, dgt w 100, dgt w 10, dgt w 1] := by
      unfold numl
      rw [if_pos (show w < 1000000 by rw [j_lt, u6]; omega), if_neg (show ¬ w < 100000 by rw [j_lt, u5]; omega), if_neg (show ¬ w < 10000 by rw [j_lt, u4]; omega), if_neg (show ¬ w < 1000 by rw [j_lt, u3]; omega), if_neg (show ¬ w < 100 by rw [j_lt, u2]; omega), if_neg (show ¬ w < 10 by rw [j_lt, u1]; omega), if_neg (show ¬ w < 1 by rw [j_lt, u0]; omega)]
      rfl
    rw [en]
    simpa [List.append_assoc] using c6
theorem m_num6 (h : MB s W) {w : Int32} (h0 : 1000000 ≤ w.toInt) (h1 : w.toInt ≤ 1000000) : ∃ s', fX9_writesNumber s 462 w = some s' ∧ Fr s s' ∧ MB s' (W ++ numl w) := by
  have u0 : (1 : Int32).toInt = 1 := rfl
  have u1 : (10 : Int32).toInt = 10 := rfl
  have u2 : (100 : Int32).toInt = 100 := rfl
  have u3 : (1000 : Int32).toInt = 1000 := rfl
  have u4 : (10000 : Int32).toInt = 10000 := rfl
  have u5 : (100000 : Int32).toInt = 100000 := rfl
  have u6 : (1000000 : Int32).toInt = 1000000 := rfl
  obtain ⟨s1, a1, b1, c1⟩ := m_unit (s := s) h w 1000000 (by decide) 5999
  obtain ⟨s2, a2, b2, c2⟩ := m_unit (s := s1) c1 w 100000 (by decide) 5998
  obtain ⟨s3, a3, b3, c3⟩ := m_unit (s := s2) c2 w 10000 (by decide) 5997
  obtain ⟨s4, a4, b4, c4⟩ := m_unit (s := s3) c3 w 1000 (by decide) 5996
  obtain ⟨s5, a5, b5, c5⟩ := m_unit (s := s4) c4 w 100 (by decide) 5995
  obtain ⟨s6, a6, b6, c6⟩ := m_unit (s := s5) c5 w 10 (by decide) 5994
  obtain ⟨s7, a7, b7, c7⟩ := m_unit (s := s6) c6 w 1 (by decide) 5993
  refine ⟨s7, ?_, ((((((b1).tr b2).tr b3).tr b4).tr b5).tr b6).tr b7, ?_⟩
  · unfold fX9_writesNumber
    rw [show FU = 5999 + 1 from rfl, m_up (u := 1) (by omega) (by decide), if_neg (by rw [u0]; omega), show (1 : Int32) * 10 = 10 by decide, show (5999 : Nat) = 5998 + 1 from rfl, m_up (u := 10) (by omega) (by decide), if_neg (by rw [u1]; omega), show (10 : Int32) * 10 = 100 by decide, show (5998 : Nat) = 5997 + 1 from rfl, m_up (u := 100) (by omega) (by decide), if_neg (by rw [u2]; omega), show (100 : Int32) * 10 = 1000 by decide, show (5997 : Nat) = 5996 + 1 from rfl, m_up (u := 1000) (by omega) (by decide), if_neg (by rw [u3]; omega), show (1000 : Int32) * 10 = 10000 by decide, show (5996 : Nat) = 5995 + 1 from rfl, m_up (u := 10000) (by omega) (by decide), if_neg (by rw [u4]; omega), show (10000 : Int32) * 10 = 100000 by decide, show (5995 : Nat) = 5994 + 1 from rfl, m_up (u := 100000) (by omega) (by decide), if_neg (by rw [u5]; omega), show (100000 : Int32) * 10 = 1000000 by decide, show (5994 : Nat) = 5993 + 1 from rfl, m_up (u := 1000000) (by omega) (by decide), if_pos (by rw [u6]; omega), show FU = 5999 + 1 from rfl, a1, show (1000000 : Int32) / 10 = 100000 by decide, show (5999 : Nat) = 5998 + 1 from rfl, a2, show (100000 : Int32) / 10 = 10000 by decide, show (5998 : Nat) = 5997 + 1 from rfl, a3, show (10000 : Int32) / 10 = 1000 by decide, show (5997 : Nat) = 5996 + 1 from rfl, a4, show (1000 : Int32) / 10 = 100 by decide, show (5996 : Nat) = 5995 + 1 from rfl, a5, show (100 : Int32) / 10 = 10 by decide, show (5995 : Nat) = 5994 + 1 from rfl, a6, show (10 : Int32) / 10 = 1 by decide, show (5994 : Nat) = 5993 + 1 from rfl, a7, show (1 : Int32) / 10 = 0 by decide, show (5993 : Nat) = 5992 + 1 from rfl, m_end20]
  · have en : numl w = [dgt w 1000000, dgt w 100000, dgt w 10000, dgt w 1000, dgt w 100, dgt w 10, dgt w 1] := by
      unfold numl
      rw [if_neg (show ¬ w < 1000000 by rw [j_lt, u6]; omega), if_neg (show ¬ w < 100000 by rw [j_lt, u5]; omega), if_neg (show ¬ w < 10000 by rw [j_lt, u4]; omega), if_neg (show ¬ w < 1000 by rw [j_lt, u3]; omega), if_neg (show ¬ w < 100 by rw [j_lt, u2]; omega), if_neg (show ¬ w < 10 by rw [j_lt, u1]; omega), if_neg (show ¬ w < 1 by rw [j_lt, u0]; omega)]
      rfl
    rw [en]
    simpa [List.append_assoc] using c7
theorem m_number (h : MB s W) {w : Int32} (h0 : 1 ≤ w.toInt) (h1 : w.toInt ≤ 1000000) : ∃ s', fX9_writesNumber s 462 w = some s' ∧ Fr s s' ∧ MB s' (W ++ numl w) := by
  by_cases z1 : w.toInt < 10
  · exact m_num0 h h0 z1
  · by_cases z2 : w.toInt < 100
    · exact m_num1 h (by omega) z2
    · by_cases z3 : w.toInt < 1000
      · exact m_num2 h (by omega) z3
      · by_cases z4 : w.toInt < 10000
        · exact m_num3 h (by omega) z4
        · by_cases z5 : w.toInt < 100000
          · exact m_num4 h (by omega) z5
          · by_cases z6 : w.toInt < 1000000
            · exact m_num5 h (by omega) z6
            · exact m_num6 h (by omega) h1
def tb1 (V : VW) (g : Int) (k : Nat) : List Int32 := [97 + oI (v_ta V g k)] ++ (if v_hd V (v_ta V g k) = true then [45] else if ga (V 12) 23 g = v_ta V g k then [42] else [])
def tbl (V : VW) (g : Int) : Nat → List Int32
  | 0 => []
  | k + 1 => tbl V g k ++ tb1 V g k
theorem tb1_len (V : VW) (g : Int) (k : Nat) : (tb1 V g k).length ≤ 2 := by
  unfold tb1
  by_cases z : v_hd V (v_ta V g k) = true
  · rw [if_pos z]; exact Nat.le_refl _
  · rw [if_neg z]
    by_cases y : ga (V 12) 23 g = v_ta V g k
    · rw [if_pos y]; exact Nat.le_refl _
    · rw [if_neg y]; exact Nat.le_succ _
theorem tbl_len (V : VW) (g : Int) : ∀ k, (tbl V g k).length ≤ 2 * k
  | 0 => Nat.le_refl _
  | k + 1 => by
    have h1 := tbl_len V g k
    have h2 := tb1_len V g k
    unfold tbl
    rw [List.length_append]
    omega
theorem pv6 {σ' : Sg} (o : Out σ σ' 460 461) : pv σ' (1 + 5) = pv σ (1 + 5) := pv_c (fun j h1 h2 => o.2 _ (by omega))
theorem s_ptabs9 (g : Int32) (hv : pv σ (1 + 5) = V) : ∀ (k i fuel : Nat) (σ1 : Sg) (W : List Int32), i + k = v_tc V g.toInt → k < fuel → Out σ σ1 460 461 → CB σ1 W → W.length + 2 * k < 100000 → ∃ σ', fX7_putTabs_9 459 (1 + 5) fuel σ1 g (oI (v_tc V g.toInt)) (nI i) = some σ' ∧ Out σ σ' 460 461 ∧ ∃ L, CB σ' (W ++ L) ∧ tbl V g.toInt i ++ L = tbl V g.toInt (v_tc V g.toInt) := by
  intro k
  induction k with
  | zero =>
    intro i fuel σ1 W e hf o h hl
    have tr := v_tc_rg V g.toInt
    match fuel, hf with
    | f + 1, _ =>
      refine ⟨σ1, ?_, o, [], by rw [List.append_nil]; exact h, by rw [List.append_nil, show i = v_tc V g.toInt by omega]⟩
      rw [fX7_putTabs_9, if_pos (by rw [j_le, t_tc, j_nI (by omega)]; omega)]
  | succ k ih =>
    intro i fuel σ1 W e hf o h hl
    have tr := v_tc_rg V g.toInt
    match fuel, hf with
    | f + 1, hf =>
      have v1 : pv σ1 (1 + 5) = V := (pv6 o).trans hv
      have ti : (nI i).toInt = i := j_nI (by omega)
      have ta := v_ta_rg V g.toInt i
      obtain ⟨w1, a1, a2, a3⟩ := h.app (by omega) (97 + oI (v_ta V g.toInt i))
      have v2 : pv w1 (1 + 5) = V := (pv6 a2).trans v1
      have start : fX7_putTabs_9 459 (1 + 5) (f + 1) σ1 g (oI (v_tc V g.toInt)) (nI i) = if v_hd V (v_ta V g.toInt i) = true then (fX5_append w1 (459 + 1) 45).bind (fun σ5 => fX7_putTabs_9 459 (1 + 5) f σ5 g (oI (v_tc V g.toInt)) (nI (i + 1))) else if ga (V 12) 23 g.toInt = v_ta V g.toInt i then (fX5_append w1 (459 + 1) 42).bind (fun σ7 => fX7_putTabs_9 459 (1 + 5) f σ7 g (oI (v_tc V g.toInt)) (nI (i + 1))) else fX7_putTabs_9 459 (1 + 5) f w1 g (oI (v_tc V g.toInt)) (nI (i + 1)) := by
        have gr : -2147483648 ≤ ga (V 12) 23 g.toInt ∧ ga (V 12) 23 g.toInt < 2147483648 := by rw [← v2]; exact ga_rg _
        have ea : (oI (ga (V 12) 23 g.toInt) = oI (v_ta V g.toInt i)) ↔ ga (V 12) 23 g.toInt = v_ta V g.toInt i := j_oe gr.1 gr.2 (by omega) (by omega)
        rw [fX7_putTabs_9, if_neg (by rw [j_le, t_tc, ti]; omega), s_tabAt, j_b, v1, ti, a1, j_b, s_isHidden, j_b, v2, t_ta]
        unfold fX7_putTabs_76
        rw [j_s]
        by_cases z : v_hd V (v_ta V g.toInt i) = true
        · rw [if_pos z, if_pos z]
        · rw [if_neg z, if_neg z, s_activeOf, j_b, v2]
          by_cases y : ga (V 12) 23 g.toInt = v_ta V g.toInt i
          · rw [if_pos y, if_pos (ea.mpr y)]
          · rw [if_neg y, if_neg (fun w => y (ea.mp w))]
      have ll : (W ++ [97 + oI (v_ta V g.toInt i)]).length = W.length + 1 := by rw [List.length_append]; rfl
      have fin : ∀ (w2 : Sg) (x : List Int32), Out w1 w2 460 461 → CB w2 (W ++ tb1 V g.toInt i) → ∃ σ', fX7_putTabs_9 459 (1 + 5) f w2 g (oI (v_tc V g.toInt)) (nI (i + 1)) = some σ' ∧ Out σ σ' 460 461 ∧ ∃ L, CB σ' (W ++ L) ∧ tbl V g.toInt i ++ L = tbl V g.toInt (v_tc V g.toInt) := fun w2 x o2 c2 => by
        have t2 := tb1_len V g.toInt i
        obtain ⟨σ', b1, b2, L, b3, b4⟩ := ih (i + 1) f w2 (W ++ tb1 V g.toInt i) (by omega) (by omega) ((o.tr a2).tr o2) c2 (by rw [List.length_append]; omega)
        refine ⟨σ', b1, b2, tb1 V g.toInt i ++ L, by rw [← List.append_assoc]; exact b3, ?_⟩
        rw [← b4, ← List.append_assoc]
        rfl
      rw [start]
      by_cases z : v_hd V (v_ta V g.toInt i) = true
      · obtain ⟨w2, d1, d2, d3⟩ := a3.app (by omega) 45
        rw [if_pos z, d1, j_b]
        refine fin w2 [] d2 ?_
        unfold tb1
        rw [if_pos z, ← List.append_assoc]
        exact d3
      · rw [if_neg z]
        by_cases y : ga (V 12) 23 g.toInt = v_ta V g.toInt i
        · obtain ⟨w2, d1, d2, d3⟩ := a3.app (by omega) 42
          rw [if_pos y, d1, j_b]
          refine fin w2 [] d2 ?_
          unfold tb1
          rw [if_neg z, if_pos y, ← List.append_assoc]
          exact d3
        · rw [if_neg y]
          refine fin w1 [] Out.rf ?_
          unfold tb1
          rw [if_neg z, if_neg y, List.append_nil]
          exact a3
theorem s_ptabs (g : Int32) (hv : pv σ (1 + 5) = V) (h : CB σ W) (hl : W.length < 90000) : ∃ σ', fX7_putTabs σ 459 (1 + 5) g = some σ' ∧ Out σ σ' 460 461 ∧ CB σ' (W ++ tbl V g.toInt (v_tc V g.toInt)) := by
  have tr := v_tc_rg V g.toInt
  have fu : FU = 6000 := rfl
  obtain ⟨σ', a1, a2, L, a3, a4⟩ := s_ptabs9 g hv (v_tc V g.toInt) 0 FU σ W (by omega) (by omega) Out.rf h (by omega)
  refine ⟨σ', ?_, a2, ?_⟩
  · unfold fX7_putTabs
    rw [s_tabCount, j_b, hv]
    exact a1
  · have : L = tbl V g.toInt (v_tc V g.toInt) := a4
    rw [← this]
    exact a3
theorem m_wg2 (h : VM (mv (s.1 463)) V (fun _ => false)) (tb : Tabs V (fun _ => false)) {g : Nat} (hg : g < 23) (kg : V 8 g = 2) : ∀ (k i fuel : Nat) (s1 : Sg) (W : List Int32), i + k = v_tc V g → k < fuel → Fr s s1 → MB s1 W → ∃ s', fX9_writesGroup_2 462 fuel s1 (oI g) (nI i) = some s' ∧ Fr s s' ∧ ∃ L, MB s' (W ++ L) ∧ tbl V g i ++ L = tbl V g (v_tc V g) := by
  have tg : (oI (g : Int)).toInt = g := j_oI (by omega) (by omega)
  intro k
  induction k with
  | zero =>
    intro i fuel s1 W e hf o hb
    have tr := v_tc_rg V g
    match fuel, hf with
    | f + 1, _ =>
      have vm : VM (mv (s1.1 463)) V (fun _ => false) := by rw [o.2.1 463 (by omega) (by omega)]; exact h
      refine ⟨s1, ?_, o, [], by rw [List.append_nil]; exact hb, by rw [List.append_nil, show i = v_tc V g by omega]⟩
      rw [fX9_writesGroup_2, m_tabMany, j_b, tg, vm.tc, if_pos (by rw [j_le, t_tc, j_nI (by omega)]; omega)]
  | succ k ih =>
    intro i fuel s1 W e hf o hb
    have tr := v_tc_rg V g
    match fuel, hf with
    | f + 1, hf =>
      have vm : VM (mv (s1.1 463)) V (fun _ => false) := by rw [o.2.1 463 (by omega) (by omega)]; exact h
      have ti : (nI i).toInt = i := j_nI (by omega)
      have nu := tb.nu hg kg
      obtain ⟨q, hq, mq, eq⟩ := nu.2.1 i (by
        have : v_tc V g = cnt (fun p => decide (V 13 p = g)) 12 := rfl
        omega)
      have g13 : V 13 q = g := of_decide_eq_true mq
      have ta : v_ta V g i = q := by rw [← eq]; exact v_ta_at nu hq g13
      have tq : (oI (q : Int)).toInt = q := j_oI (by omega) (by omega)
      have hd : v_hd V (q : Int) = decide (V 15 q = 1) := v_hd_in hq
      obtain ⟨w1, a1, a2, a3⟩ := hb.wr (97 + oI (v_ta V g i))
      have vm2 : VM (mv (w1.1 463)) V (fun _ => false) := by rw [a2.2.1 463 (by omega) (by omega)]; exact vm
      have start : fX9_writesGroup_2 462 (f + 1) s1 (oI g) (nI i) = if v_hd V (v_ta V g i) = true then (fX9_writes w1 462 45).bind (fun σ5 => fX9_writesGroup_2 462 f σ5 (oI g) (nI (i + 1))) else if ga (V 12) 23 (g : Int) = v_ta V g i then (fX9_writes w1 462 42).bind (fun σ7 => fX9_writesGroup_2 462 f σ7 (oI g) (nI (i + 1))) else fX9_writesGroup_2 462 f w1 (oI g) (nI (i + 1)) := by
        rw [fX9_writesGroup_2, m_tabMany, j_b, tg, vm.tc, if_neg (by rw [j_le, t_tc, ti]; omega), m_tabAt, j_b, tg, ti, vm.ta (by omega), a1, j_b, ta, m_o5 tq hq, j_b, vm2.hi hq, hd]
        unfold fX9_writesGroup_61
        rw [j_s]
        by_cases z : V 15 q = 1
        · rw [if_pos (by rw [z]; rfl), if_pos (decide_eq_true z)]
        · have z0 : V 15 q = 0 := by
            rcases tb.hi hq with y | y
            · exact y
            · exact absurd y z
          rw [if_neg (by rw [z0]; decide), if_neg (by rw [decide_eq_false z]; exact Bool.false_ne_true), m_i5 tg (by omega), j_b, vm2.ac hg kg rfl, ga_in hg]
          have r5 := mv_rg (w1.1 463) 5 g
          rw [vm2.ac hg kg rfl] at r5
          have ea : (oI (V 12 g) = oI (q : Int)) ↔ V 12 g = (q : Int) := j_oe r5.1 r5.2 (by omega) (by omega)
          by_cases y : V 12 g = (q : Int)
          · rw [if_pos y, if_pos (ea.mpr y)]
          · rw [if_neg y, if_neg (fun w => y (ea.mp w))]
      have fin : ∀ w2 : Sg, Fr w1 w2 → MB w2 (W ++ tb1 V g i) → ∃ s', fX9_writesGroup_2 462 f w2 (oI g) (nI (i + 1)) = some s' ∧ Fr s s' ∧ ∃ L, MB s' (W ++ L) ∧ tbl V g i ++ L = tbl V g (v_tc V g) := fun w2 o2 c2 => by
        obtain ⟨s', b1, b2, L, b3, b4⟩ := ih (i + 1) f w2 (W ++ tb1 V g i) (by omega) (by omega) ((o.tr a2).tr o2) c2
        refine ⟨s', b1, b2, tb1 V g i ++ L, by rw [← List.append_assoc]; exact b3, ?_⟩
        rw [← b4, ← List.append_assoc]
        rfl
      rw [start]
      by_cases z : v_hd V (v_ta V g i) = true
      · obtain ⟨w2, d1, d2, d3⟩ := a3.wr 45
        rw [if_pos z, d1, j_b]
        refine fin w2 d2 ?_
        unfold tb1
        rw [if_pos z, ← List.append_assoc]
        exact d3
      · rw [if_neg z]
        by_cases y : ga (V 12) 23 (g : Int) = v_ta V g i
        · obtain ⟨w2, d1, d2, d3⟩ := a3.wr 42
          rw [if_pos y, d1, j_b]
          refine fin w2 d2 ?_
          unfold tb1
          rw [if_neg z, if_pos y, ← List.append_assoc]
          exact d3
        · rw [if_neg y]
          refine fin w1 Fr.rf ?_
          unfold tb1
          rw [if_neg z, if_neg y, List.append_nil]
          exact a3
theorem m_wgroup (h : VM (mv (s.1 463)) V (fun _ => false)) (tb : Tabs V (fun _ => false)) {g : Nat} (hg : g < 23) (kg : V 8 g = 2) (hb : MB s W) : ∃ s', fX9_writesGroup s 462 (oI g) = some s' ∧ Fr s s' ∧ MB s' (W ++ tbl V g (v_tc V g)) := by
  have tr := v_tc_rg V g
  have fu : FU = 6000 := rfl
  obtain ⟨s', a1, a2, L, a3, a4⟩ := m_wg2 h tb hg kg (v_tc V g) 0 FU s W (by omega) (by omega) Fr.rf hb
  refine ⟨s', a1, a2, ?_⟩
  have : L = tbl V g (v_tc V g) := a4
  rw [← this]
  exact a3
end RB2
end
section
/-! THE RELATION: write (3): the text of a tree, the class's side -/
section RB3
variable {σ s : Sg} {W : List Int32} {V : VW} {d : Nat → Nat} {wn : Nat → Int}
def kds (V : VW) (T : Int → List Int32) (n : Int) : Nat → List Int32
  | 0 => []
  | k + 1 => kds V T n k ++ ([if k = 0 then 40 else 44] ++ (numl (oI (ga (V 11) 23 (v_ca V n k))) ++ ([58] ++ T (v_ca V n k))))
def txt (V : VW) : Nat → Int → List Int32
  | 0, _ => []
  | e + 1, n => if ga (V 8) 23 n = 2 then tbl V n (v_tc V n) else [if ga (V 8) 23 n = 0 then 72 else 86] ++ (kds V (txt V e) n (v_cc V n) ++ [41])
def Zn (V : VW) (n : Nat) : Int := 2 * gl V n - 1
def Qn (V : VW) (n k : Nat) : Int := Sm (Zn V) ((kids V n).take k)
theorem Zn_pos {n : Nat} (hn : n < 23) (hu : V 8 n ≠ 3) : 1 ≤ Zn V n ∧ Zn V n ≤ 45 := by
  have := gl_pos (V := V) hn hu
  unfold Zn
  omega
theorem Qn_0 (V : VW) (n : Nat) : Qn V n 0 = 0 := rfl
theorem Qn_s (t : Tree V d wn (fun _ => false)) {n : Nat} (hn : n < 23) (ks : V 8 n ≤ 1) {k : Nat} (hk : k < v_cc V n) {c : Nat} (hc : v_ca V n k = c) : Qn V n (k + 1) = Qn V n k + Zn V c := by
  obtain ⟨c', h1, h2, h3, h4, h5⟩ := t.kid hn ks hk
  have e : c' = c := by omega
  subst e
  unfold Qn
  rw [List.take_succ, h5, Sm_app]
  show _ + (Zn V c' + 0) = _
  omega
theorem Qn_le (t : Tree V d wn (fun _ => false)) {n : Nat} (hn : n < 23) (ks : V 8 n ≤ 1) (k : Nat) : Qn V n k + 1 ≤ Zn V n := by
  have mem : ∀ c ∈ kids V n, c < 23 ∧ V 9 c = n := fun c hc => (t.kids_mem hn ks).mp hc
  have pos : ∀ c ∈ kids V n, 0 ≤ Zn V c := fun c hc => by
    have m := mem c hc
    have := Zn_pos m.1 (t.us m.1 (by omega))
    omega
  have a1 : Qn V n k ≤ Sm (Zn V) (kids V n) := by
    have e : Sm (Zn V) (kids V n) = Sm (Zn V) ((kids V n).take k) + Sm (Zn V) ((kids V n).drop k) := by
      rw [← Sm_app, List.take_append_drop]
    have : 0 ≤ Sm (Zn V) ((kids V n).drop k) := Sm_nn (fun c hc => pos c (List.mem_of_mem_drop hc))
    unfold Qn
    omega
  have a2 : Sm (fun c => (gl V c : Int)) (kids V n) ≤ gl V n := Int.le_trans (Sm_sub (t.kids_nd hn ks) mem _ (fun c => by omega)) (t.gl_le n)
  have a3 : Sm (fun c => Zn V c + 1) (kids V n) = Sm (Zn V) (kids V n) + (kids V n).length := Sm_len _ _
  have a4 : Sm (fun c => Zn V c + 1) (kids V n) = 2 * Sm (fun c => (gl V c : Int)) (kids V n) := by
    rw [← Sm_mul]
    exact Sm_congr (fun c _ => by unfold Zn; omega)
  have a5 : 2 ≤ (kids V n).length := by
    rw [kids_len]
    have := (t.sp hn ks).2 rfl
    unfold v_cc
    rw [if_neg (by omega)]
    exact this
  unfold Zn
  omega
theorem txt_len (t : Tree V d wn (fun _ => false)) : ∀ (e n : Nat), n < 23 → V 8 n ≠ 3 → ((txt V e n).length : Int) + 9 ≤ 40 * Zn V n := by
  intro e
  induction e with
  | zero =>
    intro n hn hu
    have := Zn_pos hn hu
    show ((0 : Nat) : Int) + 9 ≤ _
    omega
  | succ e ih =>
    intro n hn hu
    have dp := Zn_pos hn hu
    unfold txt
    by_cases z : ga (V 8) 23 (n : Int) = 2
    · rw [if_pos z]
      have h1 := tbl_len V n (v_tc V n)
      have h2 := v_tc_rg V n
      omega
    · rw [if_neg z]
      rw [ga_in hn] at z
      have ki := t.ki hn
      have ks : V 8 n ≤ 1 := by omega
      have kl : ∀ k, k ≤ v_cc V n → ((kds V (txt V e) n k).length : Int) ≤ 40 * Qn V n k := by
        intro k
        induction k with
        | zero =>
          intro _
          rw [Qn_0]
          exact Int.le_refl _
        | succ k ihk =>
          intro hk
          obtain ⟨c, h1, h2, h3, -, -⟩ := t.kid hn ks (k := k) (by omega)
          have q := Qn_s t hn ks (k := k) (by omega) h2
          have l1 := ihk (by omega)
          have l2 := ih c h1 (t.us h1 (by omega))
          have l3 := numl_len (oI (ga (V 11) 23 (v_ca V n k)))
          unfold kds
          rw [h2] at l3 ⊢
          simp only [List.length_append, List.length_cons, List.length_nil]
          omega
      have k1 := kl (v_cc V n) (Nat.le_refl _)
      have k2 := Qn_le t hn ks (v_cc V n)
      simp only [List.length_append, List.length_cons, List.length_nil]
      omega
theorem s_pkids (t : Tree V d wn (fun _ => false)) {e : Nat} {rc : Sg → Nat → Nat → Int32 → Int32 → Option Sg} (IH : ∀ (c : Nat) (σ1 : Sg) (W : List Int32), c < 23 → V 8 c ≠ 3 → e + dq V c = 64 → pv σ1 (1 + 5) = V → CB σ1 W → (W.length : Int) + 40 * Zn V c ≤ 50000 → ∃ σ', rc σ1 459 (1 + 5) (oI c) (nI (dq V c)) = some σ' ∧ Out σ1 σ' 460 461 ∧ CB σ' (W ++ txt V e c)) {n : Nat} (hn : n < 23) (ks : V 8 n ≤ 1) (he : e + 1 + dq V n = 64) {B : List Int32} (hB : (B.length : Int) + 40 * Zn V n ≤ 50001) : ∀ (j k fuel : Nat) (σ1 : Sg), k + j = v_cc V n → j < fuel → pv σ1 (1 + 5) = V → CB σ1 (B ++ kds V (txt V e) n k) → ∃ σ', fX7_putTree_55 459 (1 + 5) rc fuel σ1 (oI n) (nI (dq V n)) (oI (v_cc V n)) (nI k) = some σ' ∧ Out σ1 σ' 460 461 ∧ CB σ' (B ++ (kds V (txt V e) n (v_cc V n) ++ [41])) := by
  have c23 := v_cc_rg V n
  have tn : (oI (n : Int)).toInt = n := j_oI (by omega) (by omega)
  have kl : ∀ k, k ≤ v_cc V n → ((kds V (txt V e) n k).length : Int) ≤ 40 * Qn V n k := by
    intro k
    induction k with
    | zero =>
      intro _
      rw [Qn_0]
      exact Int.le_refl _
    | succ k ihk =>
      intro hk
      obtain ⟨c, h1, h2, h3, -, -⟩ := t.kid hn ks (k := k) (by omega)
      have q := Qn_s t hn ks (k := k) (by omega) h2
      have l1 := ihk (by omega)
      have l2 := txt_len t e c h1 (t.us h1 (by omega))
      have l3 := numl_len (oI (ga (V 11) 23 (v_ca V n k)))
      unfold kds
      rw [h2] at l3 ⊢
      simp only [List.length_append, List.length_cons, List.length_nil]
      omega
  intro j
  induction j with
  | zero =>
    intro k fuel σ1 e1 hf hv h
    match fuel, hf with
    | f + 1, _ =>
      have ek : k = v_cc V n := by omega
      have l1 := kl k (by omega)
      have l2 := Qn_le t hn ks k
      obtain ⟨σ', a1, a2, a3⟩ := h.app (by rw [List.length_append]; omega) 41
      refine ⟨σ', ?_, a2, ?_⟩
      · rw [fX7_putTree_55, if_pos (by rw [j_le, t_cc, j_nI (by omega)]; omega), a1, j_b]
      · rw [← ek, ← List.append_assoc]
        exact a3
  | succ j ih =>
    intro k fuel σ1 e1 hf hv h
    match fuel, hf with
    | f + 1, hf =>
      obtain ⟨c, h1, h2, h3, h4, -⟩ := t.kid hn ks (k := k) (by omega)
      have q := Qn_s t hn ks (k := k) (by omega) h2
      have ql := Qn_le t hn ks (k + 1)
      have l1 := kl k (by omega)
      have tk : (nI k).toInt = k := j_nI (by omega)
      have tc : (oI (c : Int)).toInt = c := j_oI (by omega) (by omega)
      have dc := t.dqc h1 h3
      have uc := t.us h1 (by omega : V 9 c ≠ -1)
      have zc := Zn_pos (V := V) h1 uc
      obtain ⟨w1, a1, a2, a3⟩ := h.app (by rw [List.length_append]; omega) (if k = 0 then 40 else 44)
      have v1 : pv w1 (1 + 5) = V := (pv6 a2).trans hv
      have L1 : ((B ++ kds V (txt V e) n k ++ [if k = 0 then (40 : Int32) else 44]).length : Int) = B.length + (kds V (txt V e) n k).length + 1 := by
        simp only [List.length_append, List.length_cons, List.length_nil]
        omega
      obtain ⟨w2, b1, b2, b3⟩ := s_number a3 (by omega) (oI (ga (V 11) 23 (c : Int)))
      have v2 : pv w2 (1 + 5) = V := (pv6 b2).trans v1
      have nl := numl_len (oI (ga (V 11) 23 (c : Int)))
      obtain ⟨w3, d1, d2, d3⟩ := b3.app (by rw [List.length_append]; omega) 58
      have v3 : pv w3 (1 + 5) = V := (pv6 d2).trans v2
      obtain ⟨w4, g1, g2, g3⟩ := IH c w3 _ h1 uc (by omega) v3 d3 (by
        have : ((B ++ kds V (txt V e) n k ++ [if k = 0 then (40 : Int32) else 44] ++ numl (oI (ga (V 11) 23 (c : Int))) ++ [58]).length : Int) = B.length + (kds V (txt V e) n k).length + 1 + (numl (oI (ga (V 11) 23 (c : Int)))).length + 1 := by
          simp only [List.length_append, List.length_cons, List.length_nil]
          omega
        rw [this]
        omega)
      have v4 : pv w4 (1 + 5) = V := (pv6 g2).trans v3
      have ek : B ++ kds V (txt V e) n (k + 1) = B ++ kds V (txt V e) n k ++ [if k = 0 then (40 : Int32) else 44] ++ numl (oI (ga (V 11) 23 (c : Int))) ++ [58] ++ txt V e c := by
        show B ++ (kds V (txt V e) n k ++ ([if k = 0 then (40 : Int32) else 44] ++ (numl (oI (ga (V 11) 23 (v_ca V n k))) ++ ([58] ++ txt V e (v_ca V n k))))) = _
        rw [h2]
        simp only [List.append_assoc]
      obtain ⟨σ', i1, i2, i3⟩ := ih (k + 1) f w4 (by omega) (by omega) v4 (by rw [ek]; exact g3)
      refine ⟨σ', ?_, (((a2.tr b2).tr d2).tr g2).tr i2, i3⟩
      have e87 : ∀ x : Int32, x = (if k = 0 then 40 else 44) → fX7_putTree_87 459 (1 + 5) rc (fX7_putTree_55 459 (1 + 5) rc f) σ1 (oI n) (nI (dq V n)) (oI (v_cc V n)) (nI k) (oI (c : Int)) x = some σ' := fun x hx => by
        unfold fX7_putTree_87
        rw [hx, a1, j_b, s_weightOf, j_b, v1, tc, b1, j_b, d1, j_b, j_s, ← dc, g1, j_b, j_s]
        exact i1
      rw [fX7_putTree_55, if_neg (by rw [j_le, t_cc, tk]; omega), s_childAt, j_b, hv, tn, tk, h2]
      by_cases z : k = 0
      · rw [if_pos (by rw [z]; rfl), e87 40 (by rw [if_pos z])]
      · rw [if_neg (by rw [j_eq, tk, jz0]; omega), e87 44 (by rw [if_neg z])]
theorem s_ptree (t : Tree V d wn (fun _ => false)) : ∀ (e n : Nat) (σ1 : Sg) (W : List Int32), n < 23 → V 8 n ≠ 3 → e + dq V n = 64 → pv σ1 (1 + 5) = V → CB σ1 W → (W.length : Int) + 40 * Zn V n ≤ 50000 → ∃ σ', fX7_putTree e σ1 459 (1 + 5) (oI n) (nI (dq V n)) = some σ' ∧ Out σ1 σ' 460 461 ∧ CB σ' (W ++ txt V e n) := by
  intro e
  induction e with
  | zero =>
    intro n σ1 W hn hu he
    have := (t.dqs hn hu).1
    omega
  | succ e ih =>
    intro n σ1 W hn hu he hv h hl
    have d22 := (t.dqs hn hu).1
    have dp := Zn_pos hn hu
    have tn : (oI (n : Int)).toInt = n := j_oI (by omega) (by omega)
    have i40 : (40 : Int32).toInt = 40 := rfl
    have ki := t.ki hn
    have kk : fX1_kindOf σ1 (1 + 5) (oI (n : Int)) = some (oI (V 8 n)) := by rw [s_kindOf, hv, tn, ga_in hn]
    have tk : (oI (V 8 n)).toInt = V 8 n := j_oI (by omega) (by omega)
    rw [fX7_putTree, gX7_putTree, if_pos (by rw [j_le, j_nI (by omega), i40]; omega), kk, j_b]
    unfold txt
    rw [ga_in hn]
    by_cases z : V 8 n = 2
    · obtain ⟨σ', a1, a2, a3⟩ := s_ptabs (oI (n : Int)) hv h (by omega)
      rw [tn] at a3
      rw [if_pos (by rw [z]; rfl), if_pos z, a1, j_b]
      exact ⟨σ', rfl, a2, a3⟩
    · have ks : V 8 n ≤ 1 := by omega
      have two : (2 : Int32).toInt = 2 := rfl
      obtain ⟨w1, a1, a2, a3⟩ := h.app (by omega) (if V 8 n = 0 then 72 else 86)
      have v1 : pv w1 (1 + 5) = V := (pv6 a2).trans hv
      have fu : FU = 6000 := rfl
      have c23 := v_cc_rg V n
      obtain ⟨σ', b1, b2, b3⟩ := s_pkids t ih hn ks he (B := W ++ [if V 8 n = 0 then 72 else 86]) (by
        rw [List.length_append]
        show ((W.length + 1 : Nat) : Int) + _ ≤ _
        omega) (v_cc V n) 0 FU w1 (by omega) (by omega) v1 (by
        show CB w1 (W ++ [if V 8 n = 0 then 72 else 86] ++ [])
        rw [List.append_nil]
        exact a3)
      have e42 : ∀ x : Int32, x = (if V 8 n = 0 then 72 else 86) → fX7_putTree_42 459 (1 + 5) (fX7_putTree e) σ1 (oI (n : Int)) (nI (dq V n)) x = some σ' := fun x hx => by
        unfold fX7_putTree_42
        rw [hx, a1, j_b, s_childCount, j_b, v1, tn]
        exact b1
      refine ⟨σ', ?_, a2.tr b2, by rw [if_neg z, ← List.append_assoc]; exact b3⟩
      rw [if_neg (by rw [j_eq, tk, two]; exact z), j_b]
      by_cases y : V 8 n = 0
      · rw [if_pos (by rw [y]; rfl), e42 72 (by rw [if_pos y])]
      · rw [if_neg (by rw [j_eq, tk, jz0]; exact y), e42 86 (by rw [if_neg y])]
end RB3
end
section
/-! THE RELATION: write (4): the text of a tree, the reference's side -/
section RB4
variable {σ s : Sg} {W : List Int32} {V : VW} {d : Nat → Nat} {wn : Nat → Int}
/-- sign, weight and colon before a tree -/
theorem m_pre (h : VM (mv (s.1 463)) V (fun _ => false)) (t : Tree V d wn (fun _ => false)) {c : Nat} (hc : c < 23) (hp : V 9 c ≠ -1) (hb : MB s W) : ∃ s', (fX9_its s 462 (oI c) 3).bind (fun r => (fX9_writesNumber s 462 r).bind fun σ1 => fX9_writes σ1 462 58) = some s' ∧ Fr s s' ∧ MB s' (W ++ (numl (oI (ga (V 11) 23 (c : Int))) ++ [58])) := by
  have tc : (oI (c : Int)).toInt = c := j_oI (by omega) (by omega)
  have we := t.we hc hp
  have tw : (oI (V 11 c)).toInt = V 11 c := j_oI (by omega) (by omega)
  obtain ⟨s1, a1, a2, a3⟩ := m_number hb (w := oI (V 11 c)) (by omega) (by omega)
  obtain ⟨s2, b1, b2, b3⟩ := a3.wr 58
  refine ⟨s2, ?_, a2.tr b2, ?_⟩
  · rw [m_i3 tc (by omega), j_b, h.we hc hp, a1, j_b, b1]
  · rw [ga_in hc, ← List.append_assoc]
    exact b3
theorem bind3 {s : Sg} {a : Option Int32} {g : Int32 → Option Sg} {h : Sg → Option Sg} {K : Sg → Option Sg} {s' : Sg} (e : a.bind (fun r => (g r).bind fun σ1 => h σ1) = some s') : a.bind (fun r => (g r).bind fun σ1 => (h σ1).bind fun σ2 => K σ2) = K s' := by
  cases a with
  | none => cases e
  | some r =>
    rw [j_b] at e ⊢
    cases hg : g r with
    | none => rw [hg] at e; cases e
    | some x =>
      rw [hg, j_b] at e
      rw [j_b, e, j_b]
theorem m_pk (t : Tree V d wn (fun _ => false)) {e r0 : Nat} (IH : ∀ (c f : Nat) (s1 : Sg) (W : List Int32), c < 23 → V 8 c ≠ 3 → e + dq V c = 64 → VM (mv (s1.1 463)) V (fun _ => false) → MB s1 W → Zn V c < f → ∃ s' f' g', fX9_writesTree_4 462 f s1 (oI r0) (oI c) 1 = fX9_writesTree_75 462 (fX9_writesTree_4 462 f') g' s' (oI r0) (oI c) ∧ Fr s1 s' ∧ MB s' (W ++ txt V e c) ∧ (f : Int) ≤ f' + Zn V c ∧ 6000 + dq V c ≤ g' + 22) (hr : r0 < 23) (r9 : V 9 r0 = -1) {n : Nat} (hn : n < 23) (ks : V 8 n ≤ 1) (he : e + 1 + dq V n = 64) {B : List Int32} : ∀ (j k f : Nat) (c : Nat) (s1 : Sg), k + j + 1 = v_cc V n → v_ca V n k = c → VM (mv (s1.1 463)) V (fun _ => false) → MB s1 (B ++ kds V (txt V e) n k ++ [if k = 0 then (40 : Int32) else 44] ++ (numl (oI (ga (V 11) 23 (c : Int))) ++ [58])) → Zn V n < f + Qn V n k + 1 → ∃ s' f' g', fX9_writesTree_4 462 f s1 (oI r0) (oI c) 1 = fX9_writesTree_75 462 (fX9_writesTree_4 462 f') g' s' (oI r0) (oI n) ∧ Fr s1 s' ∧ MB s' (B ++ (kds V (txt V e) n (v_cc V n) ++ [41])) ∧ (f : Int) + Qn V n k ≤ f' + Qn V n (v_cc V n) ∧ 6000 + dq V n ≤ g' + 22 := by
  have c23 := v_cc_rg V n
  have tn : (oI (n : Int)).toInt = n := j_oI (by omega) (by omega)
  intro j
  induction j with
  | zero =>
    intro k f c s1 ek ec vm hb hf
    obtain ⟨c', h1, h2, h3, h4, -⟩ := t.kid hn ks (k := k) (by omega)
    have : c' = c := by omega
    subst this
    have q := Qn_s t hn ks (k := k) (by omega) h2
    have ql := Qn_le t hn ks (k + 1)
    have dc := t.dqc h1 h3
    have np : V 9 c' ≠ -1 := by omega
    have uc := t.us h1 np
    have tc : (oI (c' : Int)).toInt = c' := j_oI (by omega) (by omega)
    obtain ⟨s2, f2, g2, a1, a2, a3, a4, a5⟩ := IH c' f s1 _ h1 uc (by omega) vm hb (by omega)
    obtain ⟨g, rfl⟩ : ∃ g, g2 = g + 1 := ⟨g2 - 1, by omega⟩
    have vm2 : VM (mv (s2.1 463)) V (fun _ => false) := by rw [a2.2.1 463 (by omega) (by omega)]; exact vm
    obtain ⟨s3, b1, b2, b3⟩ := a3.wr 41
    have vm3 : VM (mv (s3.1 463)) V (fun _ => false) := by rw [b2.2.1 463 (by omega) (by omega)]; exact vm2
    refine ⟨s3, f2, g, ?_, a2.tr b2, ?_, ?_, by omega⟩
    · have nr : ¬ oI (c' : Int) = oI (r0 : Int) := fun z => by
        rw [j_oe (by omega) (by omega) (by omega) (by omega)] at z
        have : c' = r0 := by omega
        rw [this, r9] at np
        exact np rfl
      have ecc : oI (V 10 c') = oI (v_cc V n) - 1 := by
        refine j_eq.mpr ?_
        rw [h4, j_oI (by omega) (by omega), j_sub (by rw [t_cc, jz1]; omega) (by rw [t_cc, jz1]; omega), t_cc, jz1]
        omega
      rw [a1, fX9_writesTree_75, if_neg nr, m_i4 tc (by omega), j_b, vm2.pl h1 np, m_i1 tc (by omega), j_b, vm2.pa h1 uc, h3, m_childMany, j_b, tn, vm2.cc t (by omega), if_pos ecc, b1, j_b, m_i1 tc (by omega), j_b, vm3.pa h1 uc, h3]
    · have ev : v_cc V n = k + 1 := by omega
      rw [ev]
      have : B ++ (kds V (txt V e) n (k + 1) ++ [41]) = B ++ kds V (txt V e) n k ++ [if k = 0 then (40 : Int32) else 44] ++ (numl (oI (ga (V 11) 23 (c' : Int))) ++ [58]) ++ txt V e c' ++ [41] := by
        show B ++ ((kds V (txt V e) n k ++ ([if k = 0 then (40 : Int32) else 44] ++ (numl (oI (ga (V 11) 23 (v_ca V n k))) ++ ([58] ++ txt V e (v_ca V n k))))) ++ [41]) = _
        rw [h2]
        simp only [List.append_assoc]
      rw [this]
      exact b3
    · rw [show v_cc V n = k + 1 by omega, q]
      omega
  | succ j ih =>
    intro k f c s1 ek ec vm hb hf
    obtain ⟨c', h1, h2, h3, h4, -⟩ := t.kid hn ks (k := k) (by omega)
    have : c' = c := by omega
    subst this
    obtain ⟨c2, g1, g2', g3, g4, -⟩ := t.kid hn ks (k := k + 1) (by omega)
    have q := Qn_s t hn ks (k := k) (by omega) h2
    have ql := Qn_le t hn ks (k + 1)
    have dc := t.dqc h1 h3
    have np : V 9 c' ≠ -1 := by omega
    have np2 : V 9 c2 ≠ -1 := by omega
    have uc := t.us h1 np
    have tc : (oI (c' : Int)).toInt = c' := j_oI (by omega) (by omega)
    obtain ⟨s2, f2, g2, a1, a2, a3, a4, a5⟩ := IH c' f s1 _ h1 uc (by omega) vm hb (by omega)
    obtain ⟨g, rfl⟩ : ∃ g, g2 = g + 1 := ⟨g2 - 1, by omega⟩
    have vm2 : VM (mv (s2.1 463)) V (fun _ => false) := by rw [a2.2.1 463 (by omega) (by omega)]; exact vm
    obtain ⟨s3, b1, b2, b3⟩ := a3.wr 44
    have vm3 : VM (mv (s3.1 463)) V (fun _ => false) := by rw [b2.2.1 463 (by omega) (by omega)]; exact vm2
    obtain ⟨s4, d1, d2, d3⟩ := m_pre vm3 t g1 np2 b3
    have vm4 : VM (mv (s4.1 463)) V (fun _ => false) := by rw [d2.2.1 463 (by omega) (by omega)]; exact vm3
    have eB : B ++ kds V (txt V e) n k ++ [if k = 0 then (40 : Int32) else 44] ++ (numl (oI (ga (V 11) 23 (c' : Int))) ++ [58]) ++ txt V e c' ++ [44] ++ (numl (oI (ga (V 11) 23 (c2 : Int))) ++ [58]) = B ++ kds V (txt V e) n (k + 1) ++ [if k + 1 = 0 then (40 : Int32) else 44] ++ (numl (oI (ga (V 11) 23 (c2 : Int))) ++ [58]) := by
      rw [if_neg (show ¬ k + 1 = 0 by omega)]
      show _ = B ++ (kds V (txt V e) n k ++ ([if k = 0 then (40 : Int32) else 44] ++ (numl (oI (ga (V 11) 23 (v_ca V n k))) ++ ([58] ++ txt V e (v_ca V n k))))) ++ [44] ++ _
      rw [h2]
      simp only [List.append_assoc]
    obtain ⟨s', f', g', i1, i2, i3, i4, i5⟩ := ih (k + 1) f2 c2 s4 (by omega) g2' vm4 (by rw [← eB]; exact d3) (by omega)
    refine ⟨s', f', g', ?_, ((a2.tr b2).tr d2).tr i2, i3, by omega, i5⟩
    have nr : ¬ oI (c' : Int) = oI (r0 : Int) := fun z => by
      rw [j_oe (by omega) (by omega) (by omega) (by omega)] at z
      have : c' = r0 := by omega
      rw [this, r9] at np
      exact np rfl
    have ecc : ¬ oI (V 10 c') = oI (v_cc V n) - 1 := fun z => by
      rw [j_eq, h4, j_oI (by omega) (by omega), j_sub (by rw [t_cc, jz1]; omega) (by rw [t_cc, jz1]; omega), t_cc, jz1] at z
      omega
    have ek1 : (oI (V 10 c') + 1).toInt = ((k + 1 : Nat) : Int) := by
      rw [h4, j_add (by rw [j_oI (by omega) (by omega), jz1]; omega) (by rw [j_oI (by omega) (by omega), jz1]; omega), j_oI (by omega) (by omega), jz1]
      omega
    rw [a1, fX9_writesTree_75, if_neg nr, m_i4 tc (by omega), j_b, vm2.pl h1 np, m_i1 tc (by omega), j_b, vm2.pa h1 uc, h3, m_childMany, j_b, tn, vm2.cc t (by omega), if_neg ecc]
    unfold fX9_writesTree_117 fX9_writesTree_127
    rw [if_neg nr, if_neg (show ¬ ((1 : Int32) = 0) by decide), m_i1 tc (by omega), j_b, vm2.pa h1 uc, h3, m_i4 tc (by omega), j_b, vm2.pl h1 np, m_child, j_b, tn, ek1, vm2.ca t (by omega), g2', b1, j_b, bind3 (s := s3) (K := fun σ15 => fX9_writesTree_4 462 f2 σ15 (oI r0) (oI c2) 1) d1]
    exact i1
theorem m_wtree (t : Tree V d wn (fun _ => false)) (tb : Tabs V (fun _ => false)) {r0 : Nat} (hr : r0 < 23) (r9 : V 9 r0 = -1) : ∀ (e n f : Nat) (s1 : Sg) (W : List Int32), n < 23 → V 8 n ≠ 3 → e + dq V n = 64 → VM (mv (s1.1 463)) V (fun _ => false) → MB s1 W → Zn V n < f → ∃ s' f' g', fX9_writesTree_4 462 f s1 (oI r0) (oI n) 1 = fX9_writesTree_75 462 (fX9_writesTree_4 462 f') g' s' (oI r0) (oI n) ∧ Fr s1 s' ∧ MB s' (W ++ txt V e n) ∧ (f : Int) ≤ f' + Zn V n ∧ 6000 + dq V n ≤ g' + 22 := by
  intro e
  induction e with
  | zero =>
    intro n f s1 W hn hu he
    have := (t.dqs hn hu).1
    omega
  | succ e ih =>
    intro n f s1 W hn hu he vm hb hf
    have d22 := (t.dqs hn hu).1
    have zp := Zn_pos (V := V) hn hu
    have tn : (oI (n : Int)).toInt = n := j_oI (by omega) (by omega)
    have ki := t.ki hn
    have fu : FU = 6000 := rfl
    obtain ⟨f0, rfl⟩ : ∃ f0, f = f0 + 1 := ⟨f - 1, by omega⟩
    unfold txt
    rw [ga_in hn]
    by_cases z : V 8 n = 2
    · obtain ⟨s2, a1, a2, a3⟩ := m_wgroup vm tb hn z hb
      refine ⟨s2, f0, FU, ?_, a2, by rw [if_pos z]; exact a3, by omega, by omega⟩
      rw [fX9_writesTree_4, if_neg (show ¬ ((1 : Int32) = 0) by decide), m_i0 tn (by omega), j_b, vm.k2 hn z, if_neg (show ¬ oI (2 : Int) = (1 : Int32) by decide), a1, j_b]
    · have ks : V 8 n ≤ 1 := by omega
      obtain ⟨k1, k2⟩ := vm.k1 hn ks
      have cc2 : 2 ≤ v_cc V n := by
        have := (t.sp hn ks).2 rfl
        unfold v_cc
        rw [if_neg (by omega)]
        exact this
      obtain ⟨c, h1, h2, h3, h4, -⟩ := t.kid hn ks (k := 0) (by omega)
      have np : V 9 c ≠ -1 := by omega
      obtain ⟨w1, a1, a2, a3⟩ := hb.wr (if V 8 n = 0 then 72 else 86)
      obtain ⟨w2, b1, b2, b3⟩ := a3.wr 40
      have vm2 : VM (mv (w2.1 463)) V (fun _ => false) := by rw [(a2.tr b2).2.1 463 (by omega) (by omega)]; exact vm
      obtain ⟨w3, d1, d2, d3⟩ := m_pre vm2 t h1 np b3
      have vm3 : VM (mv (w3.1 463)) V (fun _ => false) := by rw [d2.2.1 463 (by omega) (by omega)]; exact vm2
      obtain ⟨s', f', g', i1, i2, i3, i4, i5⟩ := m_pk t ih hr r9 hn ks he (B := W ++ [if V 8 n = 0 then 72 else 86]) (v_cc V n - 1) 0 f0 c w3 (by omega) h2 vm3 (by
        show MB w3 (W ++ [if V 8 n = 0 then 72 else 86] ++ [] ++ [40] ++ (numl (oI (ga (V 11) 23 (c : Int))) ++ [58]))
        rw [List.append_nil]
        exact d3) (by rw [Qn_0]; omega)
      rw [Qn_0] at i4
      have ql := Qn_le t hn ks (v_cc V n)
      have tz : (oI (0 : Int)) = (0 : Int32) := rfl
      have e35 : ∀ x : Int32, x = (if V 8 n = 0 then 72 else 86) → fX9_writesTree_35 462 (fX9_writesTree_4 462 f0) s1 (oI r0) (oI (n : Int)) 1 x = fX9_writesTree_4 462 f0 w3 (oI r0) (oI (c : Int)) 1 := fun x hx => by
        unfold fX9_writesTree_35
        rw [hx, a1, j_b, b1, j_b, m_child, j_b, tn, jz0, vm2.ca t (by omega), show v_ca V n 0 = c from h2, bind3 (s := w2) (K := fun σ15 => fX9_writesTree_4 462 f0 σ15 (oI r0) (oI c) 1) d1]
      refine ⟨s', f', g', ?_, ((a2.tr b2).tr d2).tr i2, by rw [if_neg z, ← List.append_assoc]; exact i3, by omega, i5⟩
      rw [fX9_writesTree_4, if_neg (show ¬ ((1 : Int32) = 0) by decide), m_i0 tn (by omega), j_b, k1, if_pos (show oI (1 : Int) = (1 : Int32) from rfl), m_i2 tn (by omega), j_b, k2]
      by_cases y : V 8 n = 0
      · rw [if_pos (by rw [y]; rfl), e35 72 (by rw [if_pos y])]
        exact i1
      · rw [if_neg (by rw [j_eq, j_oI (by omega) (by omega), jz0]; exact y), e35 86 (by rw [if_neg y])]
        exact i1
/-- the codes -/
def Lc (L : List Int32) : Prop := ∀ x ∈ L, 32 ≤ x.toInt ∧ x.toInt ≤ 126
theorem Lc.ap {L M : List Int32} (h : Lc L) (h2 : Lc M) : Lc (L ++ M) := fun x hx => by
  rcases List.mem_append.mp hx with y | y
  · exact h x y
  · exact h2 x y
theorem Lc.one {x : Int32} (h : 32 ≤ x.toInt ∧ x.toInt ≤ 126) : Lc [x] := fun y hy => by
  rw [List.mem_singleton.mp hy]
  exact h
theorem Lc.nil : Lc [] := fun x hx => by cases hx
theorem dgt_rg {w u : Int32} (hw : 0 ≤ w.toInt) (hu : 1 ≤ u.toInt) : 32 ≤ (dgt w u).toInt ∧ (dgt w u).toInt ≤ 126 := by
  have q1 := q_div hw hu
  have q2 : 0 ≤ w.toInt / u.toInt := Int.ediv_nonneg hw (by omega)
  have h1 := j_hi (w / u)
  have q3 : ((w / u) / 10).toInt = (w.toInt / u.toInt) / 10 := by rw [q_div (by omega) (by decide), q1]; rfl
  have q4 : ((w / u) / 10 * 10).toInt = (w.toInt / u.toInt) / 10 * 10 := by
    have : (10 : Int32).toInt = 10 := rfl
    rw [j_mul (by rw [q3, this]; omega) (by rw [q3, this]; omega), q3, this]
  have q5 : ((w / u) - (w / u) / 10 * 10).toInt = w.toInt / u.toInt - (w.toInt / u.toInt) / 10 * 10 := by rw [j_sub (by rw [q4, q1]; omega) (by rw [q4, q1]; omega), q4, q1]
  have i48 : (48 : Int32).toInt = 48 := rfl
  unfold dgt
  rw [j_add (by rw [q5, i48]; omega) (by rw [q5, i48]; omega), q5, i48]
  omega
theorem numl_rg {w : Int32} (hw : 0 ≤ w.toInt) : Lc (numl w) := by
  have one : ∀ u : Int32, 1 ≤ u.toInt → Lc (if w < u then [] else [dgt w u]) := fun u hu => by
    by_cases z : w < u
    · rw [if_pos z]; exact Lc.nil
    · rw [if_neg z]; exact Lc.one (dgt_rg hw hu)
  exact (one _ (by decide)).ap ((one _ (by decide)).ap ((one _ (by decide)).ap ((one _ (by decide)).ap ((one _ (by decide)).ap ((one _ (by decide)).ap (one _ (by decide)))))))
theorem tbl_rg (V : VW) (g : Int) : ∀ k, Lc (tbl V g k)
  | 0 => Lc.nil
  | k + 1 => by
    have ta := v_ta_rg V g k
    have e97 : (97 : Int32).toInt = 97 := rfl
    have tt := t_ta V g k
    refine (tbl_rg V g k).ap (Lc.ap (Lc.one ?_) ?_)
    · rw [j_add (by rw [tt, e97]; omega) (by rw [tt, e97]; omega), tt, e97]
      omega
    · by_cases z : v_hd V (v_ta V g k) = true
      · rw [if_pos z]; exact Lc.one (by decide)
      · rw [if_neg z]
        by_cases y : ga (V 12) 23 g = v_ta V g k
        · rw [if_pos y]; exact Lc.one (by decide)
        · rw [if_neg y]; exact Lc.nil
theorem txt_rg (t : Tree V d wn (fun _ => false)) : ∀ (e n : Nat), n < 23 → V 8 n ≠ 3 → Lc (txt V e n) := by
  intro e
  induction e with
  | zero => intro n _ _; exact Lc.nil
  | succ e ih =>
    intro n hn hu
    have ki := t.ki hn
    unfold txt
    rw [ga_in hn]
    by_cases z : V 8 n = 2
    · rw [if_pos z]; exact tbl_rg _ _ _
    · have ks : V 8 n ≤ 1 := by omega
      rw [if_neg z]
      have kr : ∀ k, k ≤ v_cc V n → Lc (kds V (txt V e) n k) := by
        intro k
        induction k with
        | zero => intro _; exact Lc.nil
        | succ k ihk =>
          intro hk
          obtain ⟨c, h1, h2, h3, -, -⟩ := t.kid hn ks (k := k) (by omega)
          have we := t.we h1 (by omega : V 9 c ≠ -1)
          unfold kds
          rw [h2, ga_in h1]
          refine (ihk (by omega)).ap (Lc.ap (Lc.one ?_) ((numl_rg (by rw [j_oI (by omega) (by omega)]; omega)).ap ((Lc.one (by decide)).ap (ih c h1 (t.us h1 (by omega))))))
          by_cases y : k = 0
          · rw [if_pos y]; decide
          · rw [if_neg y]; decide
      refine (Lc.one ?_).ap ((kr _ (Nat.le_refl _)).ap (Lc.one (by decide)))
      by_cases y : V 8 n = 0
      · rw [if_pos y]; decide
      · rw [if_neg y]; decide
end RB4
end
section
/-! THE RELATION: write -/
section RB5
variable {σ s : Sg} {W : List Int32} {V : VW} {d : Nat → Nat} {wn : Nat → Int}
theorem m_wroot (t : Tree V d wn (fun _ => false)) (tb : Tabs V (fun _ => false)) {r0 : Nat} (hr : r0 < 23) (hu : V 8 r0 ≠ 3) (r9 : V 9 r0 = -1) (vm : VM (mv (s.1 463)) V (fun _ => false)) (hb : MB s []) : ∃ s', fX9_writesTree s 462 (oI r0) = some s' ∧ Fr s s' ∧ MB s' (txt V 64 r0) := by
  have zp := Zn_pos (V := V) hr hu
  have fu : FU = 6000 := rfl
  have d0 := t.dqr hr r9
  obtain ⟨s', f', g', a1, a2, a3, a4, a5⟩ := m_wtree t tb hr r9 64 r0 FU s [] hr hu (by omega) vm hb (by omega)
  obtain ⟨f, rfl⟩ : ∃ f, f' = f + 1 := ⟨f' - 1, by omega⟩
  obtain ⟨g, rfl⟩ : ∃ g, g' = g + 1 := ⟨g' - 1, by omega⟩
  refine ⟨s', ?_, a2, a3⟩
  show fX9_writesTree_4 462 FU s (oI r0) (oI r0) 1 = _
  rw [a1, fX9_writesTree_75, if_pos rfl]
  unfold fX9_writesTree_117 fX9_writesTree_127
  rw [if_pos rfl, if_pos rfl, fX9_writesTree_4, if_pos rfl]
theorem s_compose {S : ST} (hs : stv σ 1 = S) (hI : Inv (S_pl S) d wn) {p : Int32} {k : Nat} (hk : p.toInt = k) (hk5 : k < 5) : ∃ σ4 W, fX7_compose σ 459 (1 + 5) p = some σ4 ∧ Out σ σ4 460 461 ∧ CB σ4 W ∧ W.length ≤ 2000 ∧ Lc W ∧ ∀ s, VM (mv (s.1 463)) (S_pl S) (fun _ => false) → MB s [] → ∃ s', (∀ K : Sg → Option (Int32 × Sg), ((fX9_window s 462 p 5 1).bind fun r3 => if r3 = (-1) then K s else (fX9_window s 462 p 5 1).bind fun r4 => (fX9_writesTree s 462 r4).bind fun σ5 => K σ5) = K s') ∧ Fr s s' ∧ MB s' W := by
  obtain ⟨w1, hw1⟩ : ∃ w1 : Sg, w1 = su σ 460 1 0 := ⟨_, rfl⟩
  have o1 : Out σ w1 460 461 := by rw [hw1]; exact ⟨rfl, fun x hx => su_ne (by omega)⟩
  have cb : CB w1 [] := ⟨by rw [hw1, su_at, if_pos ⟨rfl, rfl⟩]; rfl, fun i hi => absurd hi (Nat.not_lt_zero _)⟩
  have v1 : pv w1 (1 + 5) = S_pl S := (pv6 o1).trans (S_pv hs)
  have ro : fX1_rootOf w1 (1 + 5) p = some (oI (S_pl S 5 k)) := by rw [s_rootOf, v1, hk, ga_in hk5]
  have em : fX5_empty σ (459 + 1) = some w1 := by
    unfold fX5_empty
    rw [hw1]
    rfl
  rcases hI.1.wi hk5 with z | ⟨n, hn, e5, hu, r9, -⟩
  · refine ⟨w1, [], ?_, o1, cb, by decide, Lc.nil, fun s vm hb => ⟨s, fun K => ?_, Fr.rf, hb⟩⟩
    · unfold fX7_compose
      rw [em, j_b, ro, j_b, z, if_pos (show oI (-1) = (-1 : Int32) from rfl)]
    · rw [m_w5 hk hk5, j_b, vm.ro hk5, z, if_pos (show oI (-1) = (-1 : Int32) from rfl)]
  · have d0 := hI.1.dqr hn r9
    have zp := Zn_pos (V := S_pl S) hn hu
    have en : ¬ oI (n : Int) = (-1 : Int32) := by rw [j_eq, j_oI (by omega) (by omega), jm1]; omega
    obtain ⟨σ4, a1, a2, a3⟩ := s_ptree hI.1 64 n w1 [] hn hu (by omega) v1 cb (by
      show ((0 : Nat) : Int) + _ ≤ _
      omega)
    have tl := txt_len hI.1 64 n hn hu
    refine ⟨σ4, txt (S_pl S) 64 n, ?_, o1.tr a2, a3, by omega, txt_rg hI.1 64 n hn hu, fun s vm hb => ?_⟩
    · rw [d0] at a1
      unfold fX7_compose
      rw [em, j_b, ro, j_b, e5, if_neg en, j_b, show (0 : Int32) = nI 0 from rfl, a1, j_b]
    · obtain ⟨s', b1, b2, b3⟩ := m_wroot hI.1 hI.2.1 hn hu r9 vm hb
      refine ⟨s', fun K => ?_, b2, b3⟩
      rw [m_w5 hk hk5, j_b, vm.ro hk5, e5, if_neg en, j_b, b1, j_b]
theorem m_w70 (hl : W.length ≤ 120) : ∀ (j i fuel : Nat) (s : Sg), i + j = W.length → j < fuel → MB s W → (∀ x, x < i → s.1 465 x = W.getD x 0) → ∃ s', fX9_write_70 462 fuel s (nI i) = some (nI W.length, s') ∧ s'.2 = s.2 ∧ (∀ x, x ≠ 462 → x ≠ 465 → s'.1 x = s.1 x) ∧ (∀ x, x ≠ 5 → s'.1 462 x = s.1 462 x) ∧ s'.1 462 5 = nI W.length ∧ ∀ x, x < W.length → s'.1 465 x = W.getD x 0 := by
  intro j
  induction j with
  | zero =>
    intro i fuel s e hf hb h
    match fuel, hf with
    | f + 1, _ =>
      have ei : i = W.length := by omega
      have m25 : s.1 462 25 = nI W.length := by rw [hb.1, show min W.length 400 = W.length by omega]
      refine ⟨su s 462 5 (nI W.length), ?_, rfl, fun x a b => su_ne a, fun x a => by rw [su_at, if_neg (fun w => a w.2)], by rw [su_at, if_pos ⟨rfl, rfl⟩], fun x hx => by rw [su_ne (by omega)]; exact h x (by omega)⟩
      rw [fX9_write_70, m25, ei, if_pos (by rw [j_le]; exact Int.le_refl _), j_nm, su_at, if_pos ⟨rfl, rfl⟩]
  | succ j ih =>
    intro i fuel s e hf hb h
    match fuel, hf with
    | f + 1, hf =>
      have m25 : s.1 462 25 = nI W.length := by rw [hb.1, show min W.length 400 = W.length by omega]
      have e475 : s.1 475 i = W.getD i 0 := hb.2 i (by omega) (by omega)
      obtain ⟨w1, hw1⟩ : ∃ w1 : Sg, w1 = su s 465 i (W.getD i 0) := ⟨_, rfl⟩
      obtain ⟨s', a1, a2, a3, a4, a5, a6⟩ := ih (i + 1) f w1 (by omega) (by omega) ⟨by rw [hw1, su_ne (by omega)]; exact hb.1, fun x hx h4 => by rw [hw1, su_ne (by omega)]; exact hb.2 x hx h4⟩ (fun x hx => by
        rw [hw1, su_at]
        by_cases y : x = i
        · rw [if_pos ⟨rfl, y⟩, y]
        · rw [if_neg (fun w => y w.2)]
          exact h x (by omega))
      refine ⟨s', ?_, by rw [a2, hw1]; rfl, fun x b b2 => by rw [a3 x b b2, hw1, su_ne b2], fun x b => by rw [a4 x b, hw1, su_ne (by omega)], a5, a6⟩
      rw [fX9_write_70, m25, if_neg (by rw [j_le, j_nI (by omega), j_nI (by omega)]; omega), if_pos (j_ckn (by omega) (by decide)), if_pos (j_ckn (by omega) (by decide)), j_cl _ (by omega), show (462 + 3 : Nat) = 465 from rfl, show (462 + 13 : Nat) = 475 from rfl, e475, ← hw1, j_nm, j_s]
      exact a1
theorem c_write (h : RR σ) (p : Int32) : PI (fL_write σ p 476 1) (fun s => fX9_write s 462 p) := by
  obtain ⟨S, l, c, m, tx⟩ := h
  have h1 := c.1
  have hS := c.2.2.1
  cases q : v_we (S_pl S) p.toInt
  · obtain ⟨s2, hs2⟩ : ∃ s2 : Sg, s2 = su (su σ 462 25 0) 462 3 1 := ⟨_, rfl⟩
    have x2 : ∀ x, x ≠ 462 → s2.1 x = σ.1 x := fun x hx => by rw [hs2, su_ne hx, su_ne hx]
    have j2 : ∀ j, j ≠ 3 → j ≠ 25 → s2.1 462 j = σ.1 462 j := fun j a b => by rw [hs2, su_at, if_neg (by omega), su_at, if_neg (by omega)]
    refine ⟨1, σ, 0, s2, ?_, ?_, by rw [hs2, su_at, if_pos ⟨rfl, rfl⟩], ⟨S, l, c.c (fun x hx => x2 x (by omega)), m.c (j2 2 (by omega) (by omega)) (x2 463 (by omega)) (x2 464 (by omega)), tx.c (by rw [x2 438 (by omega)]) (x2 439 (by omega)) (j2 5 (by omega) (by omega)) (x2 465 (by omega))⟩, fun z => absurd z (by decide)⟩
    · unfold fL_write fX8_write
      rw [s_reqW, h1, q]
      rfl
    · show fX9_write σ 462 p = _
      unfold fX9_write fX9_write_37 fX9_write_60
      rw [m_isW m.2.2.1, j_b, q, j_nm, if_neg Bool.false_ne_true, if_pos (show b2i false = 0 from rfl), rf1, j_b, hs2]
      rfl
  · obtain ⟨k, hk, hk5, -⟩ := v_we_n q
    obtain ⟨d, wn, hI⟩ := hS.2.2.2.2.1
    obtain ⟨σ4, W, a1, a2, a3, a4, a5, a6⟩ := s_compose h1 hI hk hk5
    have e120 : (120 : Int32).toInt = 120 := rfl
    have len4 : σ4.1 (459 + 1) 1 = nI W.length := a3.1
    have le : (nI W.length ≤ (120 : Int32)) ↔ W.length ≤ 120 := by
      rw [j_le, j_nI (by omega), e120]
      omega
    have c4 : ∀ x, (x < 460 ∨ 461 < x) → σ4.1 x = σ.1 x := fun x hx => a2.2 x hx
    -- the reference's part, from any state that the class leaves
    have ref : ∀ s0 : Sg, s0.1 463 = σ.1 463 → ∃ s', (∀ K : Sg → Option (Int32 × Sg), ((fX9_window (su s0 462 25 0) 462 p 5 1).bind fun r3 => if r3 = (-1) then K (su s0 462 25 0) else (fX9_window (su s0 462 25 0) 462 p 5 1).bind fun r4 => (fX9_writesTree (su s0 462 25 0) 462 r4).bind fun σ5 => K σ5) = K s') ∧ Fr s0 s' ∧ MB s' W := fun s0 e63 => by
      obtain ⟨s', b1, b2, b3⟩ := a6 (su s0 462 25 0) (by rw [su_ne (by omega), e63]; exact m.2.2.1) ⟨by rw [su_at, if_pos ⟨rfl, rfl⟩]; rfl, fun i hi => absurd hi (Nat.not_lt_zero _)⟩
      exact ⟨s', b1, Fr.tr (s1 := su s0 462 25 0) ⟨rfl, fun x a b => su_ne a, fun j a => by rw [su_at, if_neg (fun w => a w.2)]⟩ b2, b3⟩
    have isw : ∀ s0 : Sg, s0.1 463 = σ.1 463 → fX9_isWindow s0 462 p = some true := fun s0 e63 => by
      rw [m_isW (V := S_pl S) (X := fun _ => false) (by rw [e63]; exact m.2.2.1), q]
    have pre : ∀ s0 s', s0.1 463 = σ.1 463 → (∀ K : Sg → Option (Int32 × Sg), ((fX9_window (su s0 462 25 0) 462 p 5 1).bind fun r3 => if r3 = (-1) then K (su s0 462 25 0) else (fX9_window (su s0 462 25 0) 462 p 5 1).bind fun r4 => (fX9_writesTree (su s0 462 25 0) 462 r4).bind fun σ5 => K σ5) = K s') → MB s' W → fX9_write s0 462 p = fX9_write_60 462 s' (if W.length ≤ 120 then 0 else 2) := fun s0 s' e63 b1 b3 => by
      have n1 : ¬ b2i true = 0 := by decide
      unfold fX9_write
      rw [isw s0 e63, j_b, j_nm, if_pos rfl, b1 (fun σ5 => fX9_write_37 462 σ5 (b2i true))]
      unfold fX9_write_37
      rw [if_neg n1, b3.1]
      by_cases z : W.length ≤ 120
      · rw [if_pos z, if_pos (by rw [j_le, j_nI (by omega), e120]; omega)]
      · rw [if_neg z, if_neg (by rw [j_le, j_nI (by omega), e120]; omega)]
    by_cases z : W.length ≤ 120
    · -- it is written
      obtain ⟨w5, b1, b2, b3⟩ := s_copyRow (σ := σ4) (c0 := 461) (c1 := 439) (n := 120) (by decide)
      obtain ⟨w6, hw6⟩ : ∃ w6 : Sg, w6 = su w5 438 1 (nI W.length) := ⟨_, rfl⟩
      have l5 : w5.1 (459 + 1) 1 = nI W.length := by rw [b2.2 (459 + 1) (by omega)]; exact len4
      have l6 : w6.1 438 1 = nI W.length := by rw [hw6, su_at, if_pos ⟨rfl, rfl⟩]
      have cp : fX5_copyFrom σ4 438 (459 + 1) = some w6 := by
        unfold fX5_copyFrom
        rw [show (459 + 1 + 1 : Nat) = 461 from rfl, show (438 + 1 : Nat) = 439 from rfl, b1, j_b, l5, j_nm, hw6]
      have c6 : ∀ x, x ≠ 438 → x ≠ 439 → x ≠ 460 → x ≠ 461 → w6.1 x = σ.1 x := fun x h1 h2 h3 h4 => by rw [hw6, su_ne h1, b2.2 x (by omega), c4 x (by omega)]
      have t6 : ∀ i, i < W.length → w6.1 439 i = W.getD i 0 := fun i hi => by rw [hw6, su_ne (by omega), b3 i (by omega), a3.2 i hi (by omega)]
      obtain ⟨s0, hs0⟩ : ∃ s0 : Sg, s0 = sul w6 476 0 (nI W.length).toInt64 := ⟨_, rfl⟩
      have s01 : s0.1 = w6.1 := by rw [hs0]; rfl
      have e63 : s0.1 463 = σ.1 463 := by rw [s01]; exact c6 463 (by omega) (by omega) (by omega) (by omega)
      obtain ⟨s', d1, d2, d3⟩ := ref s0 e63
      obtain ⟨s3, hs3⟩ : ∃ s3 : Sg, s3 = su s' 462 3 0 := ⟨_, rfl⟩
      obtain ⟨s4, g1, g2, g3, g4, g5, g6⟩ := m_w70 z W.length 0 FU s3 (by omega) (by
        have fu : FU = 6000 := rfl
        omega) ⟨by rw [hs3, su_at, if_neg (by omega)]; exact d3.1, fun i hi h4 => by rw [hs3, su_ne (by omega)]; exact d3.2 i hi h4⟩ (fun x hx => absurd hx (by omega))
      have x4 : ∀ x, x ≠ 438 → x ≠ 439 → x ≠ 460 → x ≠ 461 → x ≠ 462 → x ≠ 465 → x ≠ 475 → s4.1 x = σ.1 x := fun x q1 q2 q3 q4 q5 q6 q7 => by
        rw [g3 x q5 q6, hs3, su_ne q5, d2.2.1 x q5 q7, s01, c6 x q1 q2 q3 q4]
      have y4 : ∀ x, (x = 438 ∨ x = 439) → s4.1 x = w6.1 x := fun x hx => by
        rw [g3 x (by omega) (by omega), hs3, su_ne (by omega), d2.2.1 x (by omega) (by omega), s01]
      have k4 : ∀ j, j ≠ 5 → j ≠ 3 → j ≠ 25 → s4.1 462 j = σ.1 462 j := fun j q1 q2 q3 => by
        rw [g4 j q1, hs3, su_at, if_neg (by omega), d2.2.2 j q3, s01, c6 462 (by omega) (by omega) (by omega) (by omega)]
      refine ⟨0, s0, nI W.length, s4, ?_, ?_, ?_, ⟨S, l, c.c (fun x hx => x4 x (by omega) (by omega) (by omega) (by omega) (by omega) (by omega) (by omega)), m.c (k4 2 (by omega) (by omega) (by omega)) (x4 463 (by omega) (by omega) (by omega) (by omega) (by omega) (by omega) (by omega)) (x4 464 (by omega) (by omega) (by omega) (by omega) (by omega) (by omega) (by omega)), ⟨W.length, z, by rw [y4 438 (by omega)]; exact l6, g5, fun i hi => ?_⟩⟩, fun _ => ?_⟩
      · unfold fL_write fX8_write fX5_length
        rw [s_reqW, h1, q, j_b, if_pos rfl, j_xl, a1, j_b, j_b, len4, if_pos (le.mpr z), cp, j_b, j_b, l6, j_b, j_xl, if_pos (by decide), j_nm, hs0]
        rfl
      · show fX9_write s0 462 p = _
        rw [pre s0 s' e63 d1 d3, if_pos z]
        unfold fX9_write_60
        rw [rf0, j_b, ← hs3, if_neg (show ¬ ((false, s3) : Bool × Sg).1 = true from Bool.false_ne_true)]
        dsimp only
        rw [show (0 : Int32) = nI 0 from rfl]
        exact g1
      · rw [g4 3 (by omega), hs3, su_at, if_pos ⟨rfl, rfl⟩]
      · have e1 : s4.1 439 i = W.getD i 0 := by rw [y4 439 (by omega)]; exact t6 i hi
        rw [e1, g6 i hi]
        refine ⟨rfl, a5 _ ?_⟩
        rw [List.getD_eq_getElem?_getD, List.getElem?_eq_getElem hi]
        exact List.getElem_mem hi
      · rw [g2, hs3]
        show s'.2 476 0 = _
        rw [d2.1, hs0]
        rfl
    · -- too long
      have e63 : σ4.1 463 = σ.1 463 := c4 463 (by omega)
      obtain ⟨s', d1, d2, d3⟩ := ref σ4 e63
      obtain ⟨s3, hs3⟩ : ∃ s3 : Sg, s3 = su s' 462 3 2 := ⟨_, rfl⟩
      have x3 : ∀ x, x ≠ 460 → x ≠ 461 → x ≠ 462 → x ≠ 475 → s3.1 x = σ.1 x := fun x q1 q2 q3 q4 => by
        rw [hs3, su_ne q3, d2.2.1 x q3 q4, c4 x (by omega)]
      have k3 : ∀ j, j ≠ 3 → j ≠ 25 → s3.1 462 j = σ.1 462 j := fun j q1 q2 => by
        rw [hs3, su_at, if_neg (by omega), d2.2.2 j q2, c4 462 (by omega)]
      refine ⟨2, σ4, 0, s3, ?_, ?_, by rw [hs3, su_at, if_pos ⟨rfl, rfl⟩], ⟨S, l, c.c (fun x hx => x3 x (by omega) (by omega) (by omega) (by omega)), m.c (k3 2 (by omega) (by omega)) (x3 463 (by omega) (by omega) (by omega) (by omega)) (x3 464 (by omega) (by omega) (by omega) (by omega)), tx.c (by rw [x3 438 (by omega) (by omega) (by omega) (by omega)]) (x3 439 (by omega) (by omega) (by omega) (by omega)) (k3 5 (by omega) (by omega)) (x3 465 (by omega) (by omega) (by omega) (by omega))⟩, fun y => absurd y (by decide)⟩
      · unfold fL_write fX8_write fX5_length
        rw [s_reqW, h1, q, j_b, if_pos rfl, j_xl, a1, j_b, j_b, len4, if_neg (fun y => z (le.mp y)), j_b]
        rfl
      · show fX9_write σ4 462 p = _
        rw [pre σ4 s' e63 d1 d3, if_neg z]
        unfold fX9_write_60
        rw [rf2, j_b, if_pos rfl, hs3]
end RB5
end
section
/-! THE RELATION: read (1): the main window is emptied -/
section RB6
variable {V : VW} {d : Nat → Nat} {wn : Nat → Int}
theorem odp_shift {s k x : Int} : odp (v_shift V s k x) = odp V := by
  have e : ∀ j, j ≠ 10 → v_shift V s k x j = V j := fun j hj => by
    funext i
    unfold v_shift
    rw [if_neg (fun z => hj z.1)]
  unfold odp
  rw [e 6 (by decide), e 7 (by decide)]
theorem odp_detach {n : Int} : odp (v_detach V n) = odp V := by
  unfold v_detach
  rw [odp_shift, odp_up (by decide) (by decide)]
theorem odp_free {n : Int} : odp (v_free V n) = odp V := by
  unfold v_free
  rw [odp_up (by decide) (by decide)]
theorem odp_repl {o f : Int} : odp (v_repl V o f) = odp V := by
  unfold v_repl
  by_cases z : ga (V 9) 23 o = -1
  · rw [if_pos z, odp_up (by decide) (by decide)]
  · rw [if_neg z, odp_up (by decide) (by decide), odp_up (by decide) (by decide), odp_up (by decide) (by decide), odp_up (by decide) (by decide)]
theorem odp_fin {g s : Int} : odp (v_fin V g s) = odp V := by
  unfold v_fin
  by_cases z : v_cc (v_free (v_detach V g) g) s = 1
  · rw [if_pos z, odp_free, odp_repl, odp_detach, odp_free, odp_detach]
  · rw [if_neg z, odp_free, odp_detach]
/-- a withdrawal from the main window leaves the floating ones -/
theorem odp_wd (h : Inv V d wn) {k g : Nat} (hk : k < 12) (e : V 13 k = g) (w0 : wn g = 0) : odp (v_withdraw V k) = odp V := by
  obtain ⟨hg, kg⟩ := h.2.1.g2 hk e
  have r : ∀ j, j ≠ 12 → j ≠ 13 → j ≠ 14 → j ≠ 15 → v_out V k j = V j := fun j => v_out_ne
  have T : Tree (v_out V k) d wn (fun _ => false) := h.1.cg (fun n _ => by rw [r 8 (by decide) (by decide) (by decide) (by decide)]) (fun n _ => by rw [r 9 (by decide) (by decide) (by decide) (by decide)]) (fun n _ => by rw [r 10 (by decide) (by decide) (by decide) (by decide)]) (fun n hn q => by rw [r 11 (by decide) (by decide) (by decide) (by decide)]; exact h.1.we hn q) (fun w _ => by rw [r 5 (by decide) (by decide) (by decide) (by decide)])
  have W : v_withdraw V k = if v_tc (v_out V k) g = 0 then v_remg (v_out V k) g else v_out V k := by
    unfold v_withdraw
    rw [ga_in hk, e, if_neg (by omega)]
  rw [W]
  by_cases z : v_tc (v_out V k) g = 0
  · rw [if_pos z]
    unfold v_remg
    have wo := T.wo hg (by rw [r 8 (by decide) (by decide) (by decide) (by decide)]; omega)
    by_cases y : ga (v_out V k 9) 23 (g : Int) = -1
    · have lo := h.2.2.1.lv_no (x := 0) (by unfold flw; rfl)
      rw [if_pos y, odp_fin, v_od_odp, wo, w0, odp_out]
      exact lo
    · rw [if_neg y, odp_fin, odp_out]
  · rw [if_neg z, odp_out]
def OW (V W : VW) (wn : Nat → Int) (k : Nat) : Prop :=
  (∀ n, n < 23 → V 8 n = 3 → W 8 n = 3) ∧
  (∀ n, n < 23 → V 8 n ≠ 3 → wn n ≠ 0 → W 8 n = V 8 n ∧ W 9 n = V 9 n ∧ (V 9 n ≠ -1 → W 10 n = V 10 n ∧ W 11 n = V 11 n) ∧ W 12 n = V 12 n) ∧
  (∀ i, i < 12 → W 15 i = if i < k ∧ own V i = true then 0 else V 15 i) ∧
  (∀ i, i < 12 → own V i = false → W 14 i = V 14 i) ∧
  (∀ w, w < 5 → w ≠ 0 → W 5 w = V 5 w) ∧
  W 1 = V 1 ∧ W 2 = V 2 ∧ W 3 = V 3 ∧ W 4 = V 4 ∧ odp W = odp V
theorem own_k (h : Inv V d wn) {i g : Nat} (hi : i < 12) (e : V 13 i = g) : own V i = decide (wn g = 0) := by
  unfold own
  rw [h.wo hi e]
theorem own_g (h : Inv V d wn) {i : Nat} (hi : i < 12) (o : own V i = true) : ∃ g : Nat, g < 23 ∧ V 13 i = g ∧ V 8 g = 2 ∧ wn g = 0 := by
  rcases h.2.1.gr hi with z | ⟨g, a, b, c⟩
  · unfold own at o
    rw [z, v_wo_m1] at o
    exact absurd o (by decide)
  · rw [own_k h hi b] at o
    exact ⟨g, a, b, c, of_decide_eq_true o⟩
theorem wds_own (h : Inv V d wn) : ∀ k, k ≤ 12 → OW V (wds (own V) V k) wn k
  | 0, _ => ⟨fun _ _ z => z, fun _ _ _ _ => ⟨rfl, rfl, fun _ => ⟨rfl, rfl⟩, rfl⟩, fun i _ => by rw [if_neg (by omega)]; rfl, fun _ _ _ => rfl, fun _ _ _ => rfl, rfl, rfl, rfl, rfl, rfl⟩
  | k + 1, hk => by
    obtain ⟨b1, b2, b3, b4, b5, b6, b7, b8, b9, b10⟩ := wds_own h k (by omega)
    obtain ⟨I, r13⟩ := wds_inv (c := own V) h k (by omega)
    unfold wds
    by_cases q : own V k = true
    · obtain ⟨g, g1, g2, g3, g4⟩ := own_g h (i := k) (by omega) q
      have e13 : wds (own V) V k 13 k = g := by rw [r13 k (by omega), if_neg (by omega)]; exact g2
      obtain ⟨I2, c1, c2, c3, c4, c5, c6, c7, c8, c9, c10, c11⟩ := withdraw_ok I (p := k) (by omega)
      have one : ∀ g' : Nat, wds (own V) V k 13 k = g' → g' = g := fun g' z => by omega
      rw [if_pos q]
      refine ⟨fun n hn z => c4 n hn (b1 n hn z), fun n hn z w => ?_, fun i hi => ?_, fun i hi o => ?_, fun w hw w0 => ?_, c8.trans b6, c9.trans b7, c10.trans b8, c11.trans b9, (odp_wd I (by omega) e13 g4).trans b10⟩
      · obtain ⟨a1, a2, a3, a4⟩ := b2 n hn z w
        obtain ⟨f1, f2, f3, f4⟩ := c5 n hn (by rw [a1]; exact z) (fun g' y => by rw [one g' y, g4]; exact w)
        exact ⟨f1.trans a1, f2.trans a2, fun y => ⟨(f3 (by rw [a2]; exact y)).1.trans (a3 y).1, (f3 (by rw [a2]; exact y)).2.trans (a3 y).2⟩, f4.trans a4⟩
      · rw [c2 i hi, b3 i hi]
        by_cases y : i = k
        · rw [if_pos y, if_pos ⟨by omega, by rw [y]; exact q⟩]
        · rw [if_neg y]
          by_cases x : i < k ∧ own V i = true
          · rw [if_pos x, if_pos ⟨by omega, x.2⟩]
          · rw [if_neg x, if_neg (fun u => x ⟨by omega, u.2⟩)]
      · have ne : i ≠ k := fun z => by rw [z, q] at o; cases o
        rw [c6 i hi ne (fun g' y z => by
          rw [one g' y, r13 i hi, if_neg (fun u => by rw [o] at u; exact absurd u.2 Bool.false_ne_true)] at z
          rw [own_k h hi z, g4] at o
          exact absurd o (by decide))]
        exact b4 i hi o
      · rw [c7 w hw (fun g' y => by rw [one g' y, g4]; omega)]
        exact b5 w hw w0
    · rw [if_neg q]
      refine ⟨b1, b2, fun i hi => ?_, b4, b5, b6, b7, b8, b9, b10⟩
      rw [b3 i hi]
      by_cases x : i < k ∧ own V i = true
      · rw [if_pos x, if_pos ⟨by omega, x.2⟩]
      · rw [if_neg x, if_neg (fun u => x ⟨by
          have : i ≠ k := fun y => q (by rw [← y]; exact u.2)
          omega, u.2⟩)]
/-- what is left when the main window is empty -/
theorem emp_root (h : Inv V d wn) : wds (own V) V 12 5 0 = -1 := by
  obtain ⟨I, r13⟩ := wds_inv (c := own V) h 12 (Nat.le_refl _)
  refine Classical.byContradiction (fun z => ?_)
  obtain ⟨i, g, i1, i2, i3, i4, i5⟩ := I.pane (w := 0) (by omega) z
  rw [r13 i i1] at i3
  by_cases o : own V i = true
  · rw [if_pos ⟨i1, o⟩] at i3
    omega
  · rw [if_neg (fun y => o y.2)] at i3
    exact o (by rw [own_k h i1 i3, i5]; rfl)
theorem emp_wn (h : Inv V d wn) {n : Nat} (hn : n < 23) (u : wds (own V) V 12 8 n ≠ 3) : wn n ≠ 0 := by
  obtain ⟨I, -⟩ := wds_inv (c := own V) h 12 (Nat.le_refl _)
  obtain ⟨w, w1, w2, w3⟩ := I.1.wr5 hn u
  intro z
  have : w = 0 := by omega
  rw [this] at w3
  exact w3 (emp_root h)
theorem emp_8 (h : Inv V d wn) {n : Nat} (hn : n < 23) : wds (own V) V 12 8 n = if wn n = 0 then 3 else V 8 n := by
  obtain ⟨b1, b2, -⟩ := wds_own h 12 (Nat.le_refl _)
  by_cases z : wn n = 0
  · rw [if_pos z]
    exact Classical.byContradiction (fun u => emp_wn h hn u z)
  · rw [if_neg z]
    by_cases y : V 8 n = 3
    · rw [y]; exact b1 n hn y
    · exact (b2 n hn y z).1
/-- the reference's rows after its clearing -/
theorem emp_VM {U U' : VW} (h : Inv V d wn) (vm : VM U V (fun _ => false)) (u0 : ∀ n, n < 23 → U' 0 n = if V 8 n ≠ 3 ∧ wn n = 0 then 0 else U 0 n) (u23 : U' 0 23 = 0) (uj : ∀ j, (1 ≤ j ∧ j < 5) ∨ (12 ≤ j ∧ j < 17) ∨ (18 ≤ j ∧ j < 20) → U' j = U j) (u5 : ∀ n, n < 23 → V 8 n ≠ 3 → wn n ≠ 0 → U' 5 n = U 5 n) (u9 : ∀ p, p < 12 → U' 9 p = if own V p = true then -1 else U 9 p) (u10 : ∀ p, p < 12 → own V p = false → U' 10 p = U 10 p) (u11 : ∀ p, p < 12 → U' 11 p = if own V p = true then 0 else U 11 p) (u17 : ∀ w, w < 5 → U' 17 w = if w = 0 then -1 else U 17 w) : VM U' (wds (own V) V 12) (fun _ => false) := by
  obtain ⟨I, r13⟩ := wds_inv (c := own V) h 12 (Nat.le_refl _)
  obtain ⟨b1, b2, b3, b4, b5, b6, b7, b8, b9, b10⟩ := wds_own h 12 (Nat.le_refl _)
  have e8 := fun n hn => emp_8 h (n := n) hn
  have back : ∀ n, n < 23 → wds (own V) V 12 8 n ≠ 3 → V 8 n ≠ 3 ∧ wn n ≠ 0 := fun n hn u => ⟨fun z => u (b1 n hn z), emp_wn h hn u⟩
  have f6 : wds (own V) V 12 6 1 = V 6 1 := congrArg Prod.fst b10
  have f7 : wds (own V) V 12 7 = V 7 := congrArg Prod.snd b10
  refine ⟨fun n hn => ?_, u23, fun n hn q => ?_, fun n hn q => ?_, fun n hn q _ => ?_, fun p hp => ⟨?_, fun q => ?_, ?_⟩, fun w hw => ⟨?_, ?_, fun q => ?_⟩, ?_, fun k hk => ?_, fun n hn q => ?_⟩
  · rw [e8 n hn, u0 n hn, uj 2 (by omega)]
    by_cases z : wn n = 0
    · rw [if_pos z]
      refine ⟨fun _ => ?_, fun y => absurd y (by decide), fun y => absurd y (by decide)⟩
      by_cases y : V 8 n = 3
      · rw [if_neg (fun x => x.1 y)]
        exact vm.k3 hn y
      · rw [if_pos ⟨y, z⟩]
    · rw [if_neg z, if_neg (fun x => z x.2)]
      exact vm.1 n hn
  · obtain ⟨a1, a2⟩ := back n hn q
    rw [uj 1 (by omega), (b2 n hn a1 a2).2.1]
    exact vm.pa hn a1
  · obtain ⟨a1, a2⟩ := back n hn (I.1.us hn q)
    have r := b2 n hn a1 a2
    rw [r.2.1] at q
    rw [uj 3 (by omega), uj 4 (by omega), (r.2.2.1 q).1, (r.2.2.1 q).2]
    exact ⟨vm.we hn q, vm.pl hn q⟩
  · obtain ⟨a1, a2⟩ := back n hn (by omega)
    have r := b2 n hn a1 a2
    rw [u5 n hn a1 a2, r.2.2.2]
    exact vm.ac hn (by rw [← r.1]; exact q) rfl
  · rw [u9 p hp, r13 p hp]
    by_cases o : own V p = true
    · rw [if_pos o, if_pos ⟨hp, o⟩]
    · rw [if_neg o, if_neg (fun y => o y.2)]
      exact vm.gr hp
  · rw [r13 p hp] at q
    by_cases o : own V p = true
    · rw [if_pos ⟨hp, o⟩] at q
      exact absurd rfl q
    · rw [if_neg (fun y => o y.2)] at q
      rw [u10 p hp (Bool.eq_false_iff.mpr o), b4 p hp (Bool.eq_false_iff.mpr o)]
      exact vm.sp hp q
  · rw [u11 p hp, b3 p hp]
    by_cases o : own V p = true
    · rw [if_pos o, if_pos ⟨hp, o⟩]
    · rw [if_neg o, if_neg (fun y => o y.2)]
      exact vm.hi hp
  · rw [uj 12 (by omega), vm.ex hw]
    by_cases z : w = 0
    · rw [if_pos (Or.inl z), if_pos (Or.inl z)]
    · rw [b5 w hw z]
  · rw [u17 w hw]
    by_cases z : w = 0
    · rw [if_pos z, z]
      exact (emp_root h).symm
    · rw [if_neg z, b5 w hw z]
      exact vm.ro hw
  · rw [uj 13 (by omega), uj 14 (by omega), uj 15 (by omega), uj 16 (by omega), b6, b7, b8, b9]
    refine vm.geo hw ?_
    by_cases z : w = 0
    · exact Or.inl z
    · rw [b5 w hw z] at q
      exact q
  · rw [uj 18 (by omega), f6]
    exact vm.fc
  · rw [f6] at hk
    rw [uj 19 (by omega), f7]
    exact vm.fi hk
  · obtain ⟨a1, a2⟩ := back n hn (by omega)
    have r := b2 n hn a1 a2
    rw [u5 n hn a1 a2]
    exact vm.a5 hn (by rw [← r.1]; exact q)
end RB6
end
section
/-! THE RELATION: read (2): the reference empties the main window -/
section RB7
variable {σ s : Sg} {V : VW} {d : Nat → Nat} {wn : Nat → Int} {Y : Nat → Bool}
def WR (U V : VW) : Prop := (∀ n, n < 23 → V 8 n ≠ 3 → U 1 n = V 9 n) ∧ ∀ w, w < 5 → U 12 w = (if w = 0 ∨ V 5 w ≠ -1 then 1 else 0) ∧ U 17 w = V 5 w
theorem VM.wr {U : VW} {X : Nat → Bool} (h : VM U V X) : WR U V := ⟨fun n hn q => h.pa hn q, fun w hw => ⟨h.ex hw, h.ro hw⟩⟩
theorem WR.cg {U U' : VW} (h : WR U V) (e1 : U' 1 = U 1) (e12 : U' 12 = U 12) (e17 : U' 17 = U 17) : WR U' V := by
  unfold WR
  rw [e1, e12, e17]
  exact h
theorem r_root2 (h : WR (mv (σ.1 463)) V) (t : Tree V d wn Y) : ∀ (k fuel n : Nat) (a : Int32), a.toInt = n → n < 23 → V 8 n ≠ 3 → ga (V 9) 23 (v_top V k n) = -1 → k < fuel → fX9_rootOf_2 σ 462 fuel a = some (oI (v_top V k n))
  | _, 0, _, _, _, _, _, _, hf => absurd hf (by omega)
  | k, f + 1, n, a, ha, hn, hu, hk, hf => by
    rw [fX9_rootOf_2, m_i1 ha (by omega), j_b, h.1 n hn hu]
    by_cases q : V 9 n = -1
    · have st : v_top V k n = n := by
        have := v_top_st V (n := (n : Int)) (k := 0) (by show ga (V 9) 23 n = -1; rw [ga_in hn]; exact q) k
        rw [Nat.zero_add] at this
        exact this
      rw [q, if_pos (show oI (-1) = (-1 : Int32) from rfl), st, ← ha, j_oIt]
    · obtain ⟨s, s1, s2, s3, _, _⟩ := t.pa hn q
      rw [s2, if_neg (by rw [show (-1 : Int32) = oI (-1) from rfl, j_oe (by omega) (by omega) (by omega) (by omega)]; omega), j_b]
      have nx : v_top V (k - 1 + 1) n = v_top V (k - 1) (V 9 n) := by
        show (if ga (V 9) 23 n = -1 then (n : Int) else v_top V (k - 1) (ga (V 9) 23 n)) = _
        rw [ga_in hn, if_neg q]
      have k1 : 1 ≤ k := by
        refine Nat.one_le_iff_ne_zero.mpr (fun z => ?_)
        rw [z] at hk
        have : ga (V 9) 23 n = -1 := hk
        rw [ga_in hn] at this
        exact q this
      rw [show k - 1 + 1 = k by omega, s2] at nx
      rw [nx] at hk ⊢
      exact r_root2 h t (k - 1) f s _ (j_oI (by omega) (by omega)) s1 (by omega) hk (by omega)
theorem r_windowOf (h : WR (mv (σ.1 463)) V) (t : Tree V d wn Y) {a : Int32} {n : Nat} (ha : a.toInt = n) (hn : n < 23) (hu : V 8 n ≠ 3) : fX9_windowOf σ 462 a = some (oI (wn n)) := by
  obtain ⟨m, m1, m2, m3, m4, m5⟩ := t.top hn hu
  obtain ⟨w, w1, w2, w3⟩ := t.ro m1 m3 m4
  have ro : fX9_rootOf σ 462 a = some (oI (v_top V 23 n)) := by
    unfold fX9_rootOf
    exact r_root2 h t 23 FU n a ha hn hu (by rw [m2, ga_in m1]; exact m4) (by decide)
  unfold fX9_windowOf
  rw [ro, j_b, m2, ← m5, w2]
  refine lp (F := fun n s => fX9_windowOf_8 σ 462 n (oI (m : Int)) s) (Q := fun r => r = some (oI (w : Int))) (fun i s => s = nI i) w ?_ ?_ w 0 FU 0 (by omega) (by show _ < 6000; omega) rfl
  · rintro n i _ hi rfl
    refine ⟨nI (i + 1), rfl, ?_⟩
    show fX9_windowOf_8 σ 462 (n + 1) (oI (m : Int)) (nI i) = fX9_windowOf_8 σ 462 n (oI (m : Int)) (nI (i + 1))
    rw [fX9_windowOf_8, m_w0 (w := i) (j_nI (by omega)) (by omega), j_b]
    unfold fX9_windowOf_29
    by_cases q : mv (σ.1 463) 12 i = 0
    · rw [if_pos (by rw [j_eq, t_mv]; exact q), j_s]
    · rw [if_neg (by rw [j_eq, t_mv]; exact q), m_w5 (w := i) (j_nI (by omega)) (by omega), j_b, if_neg, j_s]
      rw [j_eq, t_mv, j_oI (by omega) (by omega)]
      intro z
      have : V 5 i = m := by rw [← (h.2 i (by omega)).2]; exact z
      have := t.un (by omega) w1 this w3
      omega
  · rintro n _ rfl
    show fX9_windowOf_8 σ 462 (n + 1) (oI (m : Int)) (nI w) = _
    have e0 : mv (σ.1 463) 12 w = 1 := by
      rw [(h.2 w w1).1, if_pos (Or.inr (by omega))]
    have e5 : mv (σ.1 463) 17 w = m := by
      rw [(h.2 w w1).2, w3]
    rw [fX9_windowOf_8, m_w0 (w := w) (j_nI (by omega)) (by omega), j_b, e0, if_neg (by decide), m_w5 (w := w) (j_nI (by omega)) (by omega), j_b, e5, if_pos rfl, j_nIo w (by omega)]
/-- panes of the main window are marked -/
theorem m_rd29 (vm : VM (mv (σ.1 463)) V (fun _ => false)) (h : Inv V d wn) : ∀ (k i fuel : Nat) (s : Sg), i + k = 12 → k < fuel → Out σ s 463 463 → (∀ j, j ≠ 11 → mv (s.1 463) j = mv (σ.1 463) j) → (∀ p, p < 12 → mv (s.1 463) 11 p = if p < i ∧ own V p = true then 2 else mv (σ.1 463) 11 p) → ∃ s', fX9_read_29 462 fuel s (nI i) = fX9_read_71 462 FU s' 0 ∧ Out σ s' 463 463 ∧ (∀ j, j ≠ 11 → mv (s'.1 463) j = mv (σ.1 463) j) ∧ ∀ p, p < 12 → mv (s'.1 463) 11 p = if own V p = true then 2 else mv (σ.1 463) 11 p := by
  intro k
  induction k with
  | zero =>
    intro i fuel s e hf o hj h11
    match fuel, hf with
    | f + 1, _ =>
      have : i = 12 := by omega
      subst this
      refine ⟨s, by rw [fX9_read_29, if_pos (n_le 12 (m := 12) rfl (by decide))], o, hj, fun p hp => ?_⟩
      rw [h11 p hp]
      by_cases z : own V p = true
      · rw [if_pos ⟨hp, z⟩, if_pos z]
      · rw [if_neg (fun y => z y.2), if_neg z]
  | succ k ih =>
    intro i fuel s e hf o hj h11
    match fuel, hf with
    | f + 1, hf =>
      have ti : (nI i).toInt = i := j_nI (by omega)
      have hi : i < 12 := by omega
      have wr : WR (mv (s.1 463)) V := vm.wr.cg (hj 1 (by omega)) (hj 12 (by omega)) (hj 17 (by omega))
      have e9 : mv (s.1 463) 9 i = V 13 i := by rw [hj 9 (by omega)]; exact vm.gr hi
      have no : own V i = false → ∃ s', fX9_read_29 462 f s (nI (i + 1)) = fX9_read_71 462 FU s' 0 ∧ Out σ s' 463 463 ∧ (∀ j, j ≠ 11 → mv (s'.1 463) j = mv (σ.1 463) j) ∧ ∀ p, p < 12 → mv (s'.1 463) 11 p = if own V p = true then 2 else mv (σ.1 463) 11 p := fun z => ih (i + 1) f s (by omega) (by omega) o hj (fun p hp => by
        rw [h11 p hp]
        by_cases y : p < i ∧ own V p = true
        · rw [if_pos y, if_pos ⟨by omega, y.2⟩]
        · rw [if_neg y, if_neg (fun u => y ⟨by
            have : p ≠ i := fun w => by rw [w, z] at u; exact absurd u.2 Bool.false_ne_true
            omega, u.2⟩)])
      rw [fX9_read_29, if_neg (n_ge 12 (m := 12) rfl hi (by decide)), m_isPlaced ti hi, j_b, e9]
      unfold fX9_read_63
      rw [j_s]
      by_cases z : V 13 i = -1
      · rw [decide_eq_false (fun y => y z), if_neg Bool.false_ne_true]
        exact no (by
          unfold own
          rw [z, v_wo_m1]
          rfl)
      · obtain ⟨g, hg, eg, kg⟩ : ∃ g : Nat, g < 23 ∧ V 13 i = g ∧ V 8 g = 2 := by
          rcases h.2.1.gr hi with y | y
          · exact absurd y z
          · exact y
        obtain ⟨w, w5, ew, -⟩ := h.1.wr5 hg (by omega : V 8 g ≠ 3)
        have ow := own_k h hi eg
        rw [decide_eq_true z, if_pos rfl, m_o3 ti hi, j_b, e9, r_windowOf wr h.1 (n := g) (by rw [eg, j_oI (by omega) (by omega)]) hg (by omega), j_b]
        by_cases y : wn g = 0
        · obtain ⟨s2, a1, a2, a3⟩ := m_p5 (σ := s) ti hi 2
          rw [if_pos (by rw [y]; rfl), a1, j_b]
          have oi : own V i = true := by rw [ow]; exact decide_eq_true y
          refine ih (i + 1) f s2 (by omega) (by omega) (o.tr a2) (fun j hj2 => by rw [a3, mu_ne hj2]; exact hj j hj2) (fun p hp => ?_)
          rw [a3, mu_at, h11 p hp]
          by_cases x : p = i
          · rw [if_pos x, if_pos ⟨by omega, by rw [x]; exact oi⟩]
            rfl
          · rw [if_neg x]
            by_cases v : p < i ∧ own V p = true
            · rw [if_pos v, if_pos ⟨by omega, v.2⟩]
            · rw [if_neg v, if_neg (fun u => v ⟨by omega, u.2⟩)]
        · rw [if_neg (by rw [j_eq, j_oI (by omega) (by omega), jz0]; exact y)]
          exact no (by rw [ow]; exact decide_eq_false y)
/-- nodes of the main window are marked -/
theorem m_rd71 (wr0 : WR (mv (σ.1 463)) V) (h : Inv V d wn) (k0 : ∀ n, n < 23 → (mv (σ.1 463) 0 n = 0 ↔ V 8 n = 3)) (k23 : mv (σ.1 463) 0 23 = 0) : ∀ (k i fuel : Nat) (s : Sg), i + k = 24 → k < fuel → Out σ s 463 463 → (∀ j, j ≠ 5 → mv (s.1 463) j = mv (σ.1 463) j) → (∀ n, n < 23 → mv (s.1 463) 5 n = if n < i ∧ V 8 n ≠ 3 ∧ wn n = 0 then -5 else mv (σ.1 463) 5 n) → ∃ s', fX9_read_71 462 fuel s (nI i) = fX9_read_110 462 FU s' 0 ∧ Out σ s' 463 463 ∧ (∀ j, j ≠ 5 → mv (s'.1 463) j = mv (σ.1 463) j) ∧ ∀ n, n < 23 → mv (s'.1 463) 5 n = if V 8 n ≠ 3 ∧ wn n = 0 then -5 else mv (σ.1 463) 5 n := by
  intro k
  induction k with
  | zero =>
    intro i fuel s e hf o hj h5
    match fuel, hf with
    | f + 1, _ =>
      have : i = 24 := by omega
      subst this
      refine ⟨s, by rw [fX9_read_71, if_pos (n_le 24 (m := 24) rfl (by decide))], o, hj, fun n hn => ?_⟩
      rw [h5 n hn]
      by_cases z : V 8 n ≠ 3 ∧ wn n = 0
      · rw [if_pos ⟨by omega, z⟩, if_pos z]
      · rw [if_neg (fun y => z y.2), if_neg z]
  | succ k ih =>
    intro i fuel s e hf o hj h5
    match fuel, hf with
    | f + 1, hf =>
      have ti : (nI i).toInt = i := j_nI (by omega)
      have wr : WR (mv (s.1 463)) V := wr0.cg (hj 1 (by omega)) (hj 12 (by omega)) (hj 17 (by omega))
      have e0 : mv (s.1 463) 0 i = mv (σ.1 463) 0 i := by rw [hj 0 (by omega)]
      have no : (i < 23 → ¬ (V 8 i ≠ 3 ∧ wn i = 0)) → ∃ s', fX9_read_71 462 f s (nI (i + 1)) = fX9_read_110 462 FU s' 0 ∧ Out σ s' 463 463 ∧ (∀ j, j ≠ 5 → mv (s'.1 463) j = mv (σ.1 463) j) ∧ ∀ n, n < 23 → mv (s'.1 463) 5 n = if V 8 n ≠ 3 ∧ wn n = 0 then -5 else mv (σ.1 463) 5 n := fun z => ih (i + 1) f s (by omega) (by omega) o hj (fun n hn => by
        rw [h5 n hn]
        by_cases y : n < i ∧ V 8 n ≠ 3 ∧ wn n = 0
        · rw [if_pos y, if_pos ⟨by omega, y.2⟩]
        · rw [if_neg y, if_neg (fun u => y ⟨by
            have : n ≠ i := fun w => z (by omega) (by rw [← w]; exact u.2)
            omega, u.2⟩)])
      rw [fX9_read_71, if_neg (n_ge 24 (m := 24) rfl (by omega) (by decide)), m_i0 ti (by omega), j_b, e0]
      unfold fX9_read_102
      rw [j_s]
      by_cases z : mv (σ.1 463) 0 i = 0
      · rw [if_pos (by rw [z]; rfl)]
        exact no (fun hi u => u.1 ((k0 i hi).mp z))
      · have hi : i < 23 := by
          refine Classical.byContradiction (fun y => z ?_)
          rw [show i = 23 by omega]
          exact k23
        have hu : V 8 i ≠ 3 := fun y => z ((k0 i hi).mpr y)
        obtain ⟨w, w5, ew, -⟩ := h.1.wr5 hi hu
        rw [if_neg (by rw [j_eq, t_mv, jz0]; exact z), r_windowOf wr h.1 ti hi hu, j_b]
        by_cases y : wn i = 0
        · obtain ⟨s2, a1, a2, a3⟩ := m_l5 (σ := s) ti (by omega) (-5)
          rw [if_pos (by rw [y]; rfl), a1, j_b]
          refine ih (i + 1) f s2 (by omega) (by omega) (o.tr a2) (fun j hj2 => by rw [a3, mu_ne hj2]; exact hj j hj2) (fun n hn => ?_)
          rw [a3, mu_at, h5 n hn]
          by_cases x : n = i
          · rw [if_pos x, if_pos ⟨by omega, by rw [x]; exact ⟨hu, y⟩⟩]
            rfl
          · rw [if_neg x]
            by_cases v : n < i ∧ V 8 n ≠ 3 ∧ wn n = 0
            · rw [if_pos v, if_pos ⟨by omega, v.2⟩]
            · rw [if_neg v, if_neg (fun u => v ⟨by omega, u.2⟩)]
        · rw [if_neg (by rw [j_eq, j_oI (by omega) (by omega), jz0]; exact y)]
          exact no (fun _ u => y u.2)
/-- they are freed -/
theorem m_rd110 (c : Nat → Bool) (h5 : ∀ n, n < 23 → mv (σ.1 463) 0 n ≠ 0 → (mv (σ.1 463) 5 n = -5 ↔ c n = true)) (k23 : mv (σ.1 463) 0 23 = 0) : ∀ (k i fuel : Nat) (s : Sg), i + k = 24 → k < fuel → Out σ s 463 463 → (∀ j, j ≠ 0 → mv (s.1 463) j = mv (σ.1 463) j) → (∀ n, n < 24 → mv (s.1 463) 0 n = if n < i ∧ n < 23 ∧ c n = true then 0 else mv (σ.1 463) 0 n) → ∃ s', fX9_read_110 462 fuel s (nI i) = fX9_read_151 462 FU s' 0 ∧ Out σ s' 463 463 ∧ (∀ j, j ≠ 0 → mv (s'.1 463) j = mv (σ.1 463) j) ∧ ∀ n, n < 24 → mv (s'.1 463) 0 n = if n < 23 ∧ c n = true then 0 else mv (σ.1 463) 0 n := by
  intro k
  induction k with
  | zero =>
    intro i fuel s e hf o hj h0
    match fuel, hf with
    | f + 1, _ =>
      have : i = 24 := by omega
      subst this
      refine ⟨s, by rw [fX9_read_110, if_pos (n_le 24 (m := 24) rfl (by decide))], o, hj, fun n hn => ?_⟩
      rw [h0 n hn]
      by_cases z : n < 23 ∧ c n = true
      · rw [if_pos ⟨by omega, z⟩, if_pos z]
      · rw [if_neg (fun y => z y.2), if_neg z]
  | succ k ih =>
    intro i fuel s e hf o hj h0
    match fuel, hf with
    | f + 1, hf =>
      have ti : (nI i).toInt = i := j_nI (by omega)
      have e0 : mv (s.1 463) 0 i = mv (σ.1 463) 0 i := by rw [h0 i (by omega), if_neg (by omega)]
      have e5 : mv (s.1 463) 5 i = mv (σ.1 463) 5 i := by rw [hj 5 (by omega)]
      have no : ¬ (i < 23 ∧ c i = true) ∨ mv (σ.1 463) 0 i = 0 → ∃ s', fX9_read_110 462 f s (nI (i + 1)) = fX9_read_151 462 FU s' 0 ∧ Out σ s' 463 463 ∧ (∀ j, j ≠ 0 → mv (s'.1 463) j = mv (σ.1 463) j) ∧ ∀ n, n < 24 → mv (s'.1 463) 0 n = if n < 23 ∧ c n = true then 0 else mv (σ.1 463) 0 n := fun z => ih (i + 1) f s (by omega) (by omega) o hj (fun n hn => by
        rw [h0 n hn]
        by_cases y : n < i ∧ n < 23 ∧ c n = true
        · rw [if_pos y, if_pos ⟨by omega, y.2⟩]
        · rw [if_neg y]
          by_cases x : n < i + 1 ∧ n < 23 ∧ c n = true
          · have : n = i := by
              refine Classical.byContradiction (fun w => y ⟨by omega, x.2⟩)
            subst this
            rcases z with z | z
            · exact absurd x.2 z
            · rw [if_pos x, z]
          · rw [if_neg x])
      rw [fX9_read_110, if_neg (n_ge 24 (m := 24) rfl (by omega) (by decide)), m_i0 ti (by omega), j_b, e0]
      unfold fX9_read_143
      rw [j_s]
      by_cases z : mv (σ.1 463) 0 i = 0
      · rw [if_pos (by rw [z]; rfl)]
        exact no (Or.inr z)
      · have hi : i < 23 := by
          refine Classical.byContradiction (fun y => z ?_)
          rw [show i = 23 by omega]
          exact k23
        rw [if_neg (by rw [j_eq, t_mv, jz0]; exact z), m_i5 ti (by omega), j_b, e5]
        have m5 : (-5 : Int32).toInt = -5 := rfl
        by_cases y : c i = true
        · obtain ⟨s2, a1, a2, a3⟩ := m_l0 (σ := s) ti (by omega) 0
          rw [if_pos (by rw [j_eq, t_mv, m5]; exact (h5 i hi z).mpr y), a1, j_b]
          refine ih (i + 1) f s2 (by omega) (by omega) (o.tr a2) (fun j hj2 => by rw [a3, mu_ne hj2]; exact hj j hj2) (fun n hn => ?_)
          rw [a3, mu_at, h0 n hn]
          by_cases x : n = i
          · rw [if_pos x, if_pos ⟨by omega, by omega, by rw [x]; exact y⟩]
            rfl
          · rw [if_neg x]
            by_cases v : n < i ∧ n < 23 ∧ c n = true
            · rw [if_pos v, if_pos ⟨by omega, v.2⟩]
            · rw [if_neg v, if_neg (fun u => v ⟨by omega, u.2⟩)]
        · rw [if_neg (by rw [j_eq, t_mv, m5]; exact fun w => y ((h5 i hi z).mp w))]
          exact no (Or.inl (fun u => y u.2))
end RB7
end
section
/-! THE RELATION: read (3): the reference empties the main window (2) -/
section RB8
variable {σ s : Sg} {V : VW} {d : Nat → Nat} {wn : Nat → Int} {Y : Nat → Bool}
/-- what the reference's read does from there -/
def rdG (s : Sg) : Option (Int32 × Sg) := (fX9_goes s 462 1).bind fun r15 => (fX9_puts r15.2 462 0 5 (r15.2.1 462 21)).bind fun σ16 => (fX9_focuses σ16 462).bind fun σ17 => (fX9_placedIn σ17 462 0).bind fun r18 => some (r18, σ17)
theorem m_rd151 (c : Nat → Bool) (h11 : ∀ p, p < 12 → (mv (σ.1 463) 11 p = 2 ↔ c p = true)) : ∀ (k i fuel : Nat) (s : Sg), i + k = 12 → k < fuel → Out σ s 463 463 → (∀ j, j ≠ 9 → j ≠ 10 → j ≠ 11 → mv (s.1 463) j = mv (σ.1 463) j) → (∀ p, p < 12 → mv (s.1 463) 9 p = (if p < i ∧ c p = true then -1 else mv (σ.1 463) 9 p) ∧ (c p = false → mv (s.1 463) 10 p = mv (σ.1 463) 10 p) ∧ mv (s.1 463) 11 p = if p < i ∧ c p = true then 0 else mv (σ.1 463) 11 p) → ∃ s', fX9_read_151 462 fuel s (nI i) = (fX9_puts s' 462 0 5 (-1)).bind rdG ∧ Out σ s' 463 463 ∧ (∀ j, j ≠ 9 → j ≠ 10 → j ≠ 11 → mv (s'.1 463) j = mv (σ.1 463) j) ∧ ∀ p, p < 12 → mv (s'.1 463) 9 p = (if c p = true then -1 else mv (σ.1 463) 9 p) ∧ (c p = false → mv (s'.1 463) 10 p = mv (σ.1 463) 10 p) ∧ mv (s'.1 463) 11 p = if c p = true then 0 else mv (σ.1 463) 11 p := by
  intro k
  induction k with
  | zero =>
    intro i fuel s e hf o hj h
    match fuel, hf with
    | f + 1, _ =>
      have : i = 12 := by omega
      subst this
      refine ⟨s, by rw [fX9_read_151, if_pos (n_le 12 (m := 12) rfl (by decide))]; rfl, o, hj, fun p hp => ?_⟩
      obtain ⟨a, b, e⟩ := h p hp
      by_cases z : c p = true
      · rw [if_pos ⟨hp, z⟩] at a e
        rw [if_pos z, if_pos z]
        exact ⟨a, b, e⟩
      · rw [if_neg (fun y => z y.2)] at a e
        rw [if_neg z, if_neg z]
        exact ⟨a, b, e⟩
  | succ k ih =>
    intro i fuel s e hf o hj h
    match fuel, hf with
    | f + 1, hf =>
      have ti : (nI i).toInt = i := j_nI (by omega)
      have hi : i < 12 := by omega
      have e11 : mv (s.1 463) 11 i = mv (σ.1 463) 11 i := by rw [(h i hi).2.2, if_neg (by omega)]
      have i2 : (2 : Int32).toInt = 2 := rfl
      rw [fX9_read_151, if_neg (n_ge 12 (m := 12) rfl hi (by decide)), m_o5 ti hi, j_b, e11]
      unfold fX9_read_188
      rw [j_s]
      by_cases z : c i = true
      · obtain ⟨s1, a1, a2, a3⟩ := m_p3 (σ := s) ti hi (-1)
        obtain ⟨s2, b1, b2, b3⟩ := m_p4 (σ := s1) ti hi 0
        obtain ⟨s3, d1, d2, d3⟩ := m_p5 (σ := s2) ti hi 0
        rw [b3, a3] at d3
        rw [if_pos (by rw [j_eq, t_mv, i2]; exact (h11 i hi).mpr z), a1, j_b, b1, j_b, d1, j_b]
        refine ih (i + 1) f s3 (by omega) (by omega) (((o.tr a2).tr b2).tr d2) (fun j h9 h10 h11' => by rw [d3, mu_ne h11', mu_ne h10, mu_ne h9]; exact hj j h9 h10 h11') (fun p hp => ?_)
        obtain ⟨x1, x2, x3⟩ := h p hp
        have r9 : mv (s3.1 463) 9 p = if p = i then -1 else mv (s.1 463) 9 p := by
          rw [d3, mu_ne (by decide), mu_ne (by decide), mu_at]
          rfl
        have r10 : mv (s3.1 463) 10 p = if p = i then 0 else mv (s.1 463) 10 p := by
          rw [d3, mu_ne (by decide), mu_at, mu_ne (by decide)]
          rfl
        have r11 : mv (s3.1 463) 11 p = if p = i then 0 else mv (s.1 463) 11 p := by
          rw [d3, mu_at, mu_ne (by decide), mu_ne (by decide)]
          rfl
        by_cases y : p = i
        · rw [r9, r10, r11, if_pos y, if_pos y, if_pos y, if_pos ⟨by omega, by rw [y]; exact z⟩, if_pos ⟨by omega, by rw [y]; exact z⟩]
          exact ⟨rfl, fun w => by (rw [y, z] at w; cases w), rfl⟩
        · rw [r9, r10, r11, if_neg y, if_neg y, if_neg y, x1, x3]
          by_cases w : p < i ∧ c p = true
          · rw [if_pos w, if_pos w, if_pos ⟨by omega, w.2⟩, if_pos ⟨by omega, w.2⟩]
            exact ⟨rfl, x2, rfl⟩
          · rw [if_neg w, if_neg w, if_neg (fun u => w ⟨by omega, u.2⟩), if_neg (fun u => w ⟨by omega, u.2⟩)]
            exact ⟨rfl, x2, rfl⟩
      · rw [if_neg (by rw [j_eq, t_mv, i2]; exact fun w => z ((h11 i hi).mp w))]
        refine ih (i + 1) f s (by omega) (by omega) o hj (fun p hp => ?_)
        obtain ⟨x1, x2, x3⟩ := h p hp
        rw [x1, x3]
        by_cases w : p < i ∧ c p = true
        · rw [if_pos w, if_pos w, if_pos ⟨by omega, w.2⟩, if_pos ⟨by omega, w.2⟩]
          exact ⟨rfl, x2, rfl⟩
        · have w' : ¬ (p < i + 1 ∧ c p = true) := fun u => w ⟨by
            have : p ≠ i := fun v => z (by rw [← v]; exact u.2)
            omega, u.2⟩
          rw [if_neg w, if_neg w, if_neg w', if_neg w']
          exact ⟨rfl, x2, rfl⟩
theorem m_clear (vm : VM (mv (σ.1 463)) V (fun _ => false)) (h : Inv V d wn) : ∃ s', fX9_read_29 462 FU σ 0 = rdG s' ∧ Out σ s' 463 463 ∧ VM (mv (s'.1 463)) (wds (own V) V 12) (fun _ => false) ∧ ∀ j, (6 ≤ j ∧ j ≤ 8) ∨ 20 ≤ j → mv (s'.1 463) j = mv (σ.1 463) j := by
  have fu : FU = 6000 := rfl
  obtain ⟨s1, a1, a2, a3, a4⟩ := m_rd29 vm h 12 0 FU σ rfl (by omega) Out.rf (fun _ _ => rfl) (fun p _ => by rw [if_neg (by omega)])
  have k0 : ∀ n, n < 23 → (mv (s1.1 463) 0 n = 0 ↔ V 8 n = 3) := fun n hn => by rw [a3 0 (by omega)]; exact vm.k0 hn (h.1.ki hn)
  have k23 : mv (s1.1 463) 0 23 = 0 := by rw [a3 0 (by omega)]; exact vm.l
  obtain ⟨s2, b1, b2, b3, b4⟩ := m_rd71 (vm.wr.cg (a3 1 (by omega)) (a3 12 (by omega)) (a3 17 (by omega))) h k0 k23 24 0 FU s1 rfl (by omega) Out.rf (fun _ _ => rfl) (fun n _ => by rw [if_neg (by omega)])
  have s20 : mv (s2.1 463) 0 = mv (s1.1 463) 0 := b3 0 (by omega)
  obtain ⟨s3, d1, d2, d3, d4⟩ := m_rd110 (σ := s2) (fun n => decide (V 8 n ≠ 3 ∧ wn n = 0)) (fun n hn z => by
    rw [s20] at z
    have hu : V 8 n ≠ 3 := fun y => z ((k0 n hn).mpr y)
    rw [b4 n hn]
    by_cases y : V 8 n ≠ 3 ∧ wn n = 0
    · rw [if_pos y, decide_eq_true y]
      exact ⟨fun _ => rfl, fun _ => rfl⟩
    · rw [if_neg y, decide_eq_false y, a3 5 (by omega)]
      refine ⟨fun w => ?_, fun w => by cases w⟩
      have ki := h.1.ki hn
      by_cases k2 : V 8 n = 2
      · rw [vm.ac hn k2 rfl] at w
        rcases (h.2.1.fu hn k2 rfl).2 with ⟨u, -⟩ | ⟨a, -, u, -⟩ <;> omega
      · rw [vm.a5 hn (by omega)] at w
        omega) (by rw [s20]; exact k23) 24 0 FU s2 rfl (by omega) Out.rf (fun _ _ => rfl) (fun n _ => by rw [if_neg (by omega)])
  obtain ⟨s4, e1, e2, e3, e4⟩ := m_rd151 (σ := s3) (own V) (fun p hp => by
    rw [d3 11 (by omega), b3 11 (by omega), a4 p hp]
    by_cases z : own V p = true
    · rw [if_pos z]
      exact ⟨fun _ => z, fun _ => rfl⟩
    · rw [if_neg z, vm.hi hp]
      refine ⟨fun w => ?_, fun w => absurd w z⟩
      rcases h.2.1.hi hp with u | u <;> omega) 12 0 FU s3 rfl (by omega) Out.rf (fun _ _ _ _ => rfl) (fun p _ => ⟨by rw [if_neg (by omega)], fun _ => rfl, by rw [if_neg (by omega)]⟩)
  obtain ⟨s5, g1, g2, g3⟩ := m_s5 (σ := s4) (a := 0) (w := 0) rfl (by omega) (-1)
  have all : ∀ j, j ≠ 0 → j ≠ 5 → j ≠ 9 → j ≠ 10 → j ≠ 11 → j ≠ 17 → mv (s5.1 463) j = mv (σ.1 463) j := fun j q0 q5 q9 q10 q11 q17 => by
    rw [g3, mu_ne q17, e3 j q9 q10 q11, d3 j q0, b3 j q5, a3 j q11]
  refine ⟨s5, ?_, ((((a2.tr b2).tr d2).tr e2).tr g2), ?_, fun j hj => all j (by omega) (by omega) (by omega) (by omega) (by omega) (by omega)⟩
  · rw [show (0 : Int32) = nI 0 from rfl, a1, show (0 : Int32) = nI 0 from rfl, b1, show (0 : Int32) = nI 0 from rfl, d1, show (0 : Int32) = nI 0 from rfl, e1, g1, j_b]
  · refine emp_VM h vm (fun n hn => ?_) ?_ (fun j hj => all j (by omega) (by omega) (by omega) (by omega) (by omega) (by omega)) (fun n hn hu w => ?_) (fun p hp => ?_) (fun p hp z => ?_) (fun p hp => ?_) (fun w hw => ?_)
    · rw [g3, mu_ne (by decide), e3 0 (by decide) (by decide) (by decide), d4 n (by omega), s20, a3 0 (by omega)]
      by_cases z : V 8 n ≠ 3 ∧ wn n = 0
      · rw [if_pos ⟨hn, decide_eq_true z⟩, if_pos z]
      · rw [if_neg (fun y => z (of_decide_eq_true y.2)), if_neg z]
    · rw [g3, mu_ne (by decide), e3 0 (by decide) (by decide) (by decide), d4 23 (by omega), if_neg (by omega), s20]
      exact k23
    · rw [g3, mu_ne (by decide), e3 5 (by decide) (by decide) (by decide), d3 5 (by decide), b4 n hn, if_neg (fun y => w y.2), a3 5 (by omega)]
    · rw [g3, mu_ne (by decide), (e4 p hp).1, d3 9 (by decide), b3 9 (by decide), a3 9 (by decide)]
    · rw [g3, mu_ne (by decide), (e4 p hp).2.1 z, d3 10 (by decide), b3 10 (by decide), a3 10 (by decide)]
    · rw [g3, mu_ne (by decide), (e4 p hp).2.2, d3 11 (by decide), b3 11 (by decide), a4 p hp]
      by_cases z : own V p = true
      · rw [if_pos z, if_pos z]
      · rw [if_neg z, if_neg z, if_neg z]
    · rw [g3, mu_at, e3 17 (by decide) (by decide) (by decide), d3 17 (by decide), b3 17 (by decide), a3 17 (by decide)]
      rfl
end RB8
end
section
/-! THE RELATION: read (4): a new node, in the class -/
section RB9
variable {V : VW} {d : Nat → Nat} {wn : Nat → Int} {X : Nat → Bool}
theorem att_in (t : Tree V d wn X) {f s : Nat} (fm : v_mn V = f) (hf : f < 23) (hk : V 8 f = 3) (hs : s < 23) (hs1 : V 8 s ≤ 1) (k w : Int) :
    (∀ i, i < 23 → att false V k s w 8 i = if i = f then k else V 8 i) ∧
    (∀ i, i < 23 → att false V k s w 9 i = if i = f then (s : Int) else V 9 i) ∧
    (∀ i, i < 23 → att false V k s w 10 i = if i = f then (v_cc V s : Int) else V 10 i) ∧
    (∀ i, i < 23 → att false V k s w 11 i = if i = f then w else V 11 i) ∧
    ∀ j, j ≠ 8 → j ≠ 9 → j ≠ 10 → j ≠ 11 → att false V k s w j = V j := by
  have e9 : up V 8 (f : Int) k 9 = V 9 := up_ne (by decide)
  have cc : v_cc (up V 8 (f : Int) k) s = v_cc V s := by
    unfold v_cc
    rw [e9]
  have ea : att false V k s w = v_attach (up V 8 (f : Int) k) f s (v_cc V s) w := by
    unfold att
    rw [if_neg Bool.false_ne_true, fm, cc]
  obtain ⟨a9, a10, a11, aj⟩ := at_rows (V := up V 8 (f : Int) k) (n := f) (s := s) (k := v_cc V s) (w := w) hf
  rw [ea]
  refine ⟨fun i hi => ?_, fun i hi => ?_, fun i hi => ?_, fun i hi => ?_, fun j h8 h9 h10 h11 => ?_⟩
  · rw [aj 8 (by decide) (by decide) (by decide), up8 hf]
  · rw [a9 i, e9]
  · rw [a10 i, e9, up_ne (by decide)]
    by_cases z : i = f
    · rw [if_pos z, if_pos z]
    · rw [if_neg z, if_neg z, if_neg (fun y => by
        have m := (t.sp hs hs1).1.1 i hi (by simp [y.2.1])
        have : v_cc V s = cnt (fun n => decide (V 9 n = (s : Int))) 23 := by
          unfold v_cc
          rw [if_neg (by omega)]
        omega)]
  · rw [a11 i, up_ne (by decide)]
  · rw [aj j h9 h10 h11, up_ne h8]
theorem att_rt {f : Nat} (fm : v_mn V = f) (hf : f < 23) (k sp w : Int) :
    (∀ i, i < 23 → att true V k sp w 8 i = if i = f then k else V 8 i) ∧
    (∀ i, i < 5 → att true V k sp w 5 i = if i = 0 then (f : Int) else V 5 i) ∧
    ∀ j, j ≠ 8 → j ≠ 5 → att true V k sp w j = V j := by
  have ea : att true V k sp w = up (up V 8 (f : Int) k) 5 0 f := by
    unfold att
    rw [if_pos rfl, fm]
  rw [ea]
  refine ⟨fun i hi => ?_, fun i hi => ?_, fun j h8 h5 => ?_⟩
  · rw [up_ne (by decide), up8 hf]
  · rw [show up (up V 8 (f : Int) k) 5 0 f 5 i = if i = 0 then (f : Int) else up V 8 (f : Int) k 5 i from up5 (w := 0) (by decide) i, up_ne (by decide)]
  · rw [up_ne h5, up_ne h8]
theorem att_tree (t : Tree V d wn X) {f s : Nat} (fm : v_mn V = f) (hf : f < 23) (hk : V 8 f = 3) (hs : s < 23) (hs1 : V 8 s ≤ 1) {k w : Int} (k2 : 0 ≤ k ∧ k ≤ 2) (w1 : 1 ≤ w ∧ w ≤ 1000000) {X' : Nat → Bool} (hx : k ≤ 1 → X' f = true) (hX : ∀ i, i ≠ f → X' i = X i) : Tree (att false V k s w) (fun n => if n = f then d s + 1 else d n) (fun n => if n = f then wn s else wn n) X' := by
  obtain ⟨r8, r9, r10, r11, rj⟩ := att_in t fm hf hk hs hs1 k w
  have ec : v_cc V s = cnt (fun n => decide (V 9 n = (s : Int))) 23 := by
    unfold v_cc
    rw [if_neg (by omega)]
  refine t.enter (k := v_cc V s) hf hk k2 hs hs1 ⟨by omega, by rw [ec]; exact Int.le_refl _⟩ r8 r9 (fun i hi q => ?_) (fun i hi q => ?_) (fun i _ => by rw [rj 5 (by decide) (by decide) (by decide) (by decide)]) hx hX
  · rw [r10 i hi]
    by_cases z : i = f
    · rw [if_pos z, if_pos z]
    · rw [if_neg z, if_neg z, if_neg (fun y => by
        have m := (t.sp hs hs1).1.1 i hi (by simp [y.1])
        omega)]
  · rw [r9 i hi] at q
    rw [r11 i hi]
    by_cases z : i = f
    · rw [if_pos z]
      exact w1
    · rw [if_neg z] at q ⊢
      exact t.we hi q
theorem att_rtree (t : Tree V d wn X) {f : Nat} (fm : v_mn V = f) (hf : f < 23) (hk : V 8 f = 3) (h0 : V 5 0 = -1) {k sp w : Int} (k2 : 0 ≤ k ∧ k ≤ 2) {X' : Nat → Bool} (hx : k ≤ 1 → X' f = true) (hX : ∀ i, i ≠ f → X' i = X i) : Tree (att true V k sp w) d (fun n => if n = f then ((0 : Nat) : Int) else wn n) X' := by
  obtain ⟨r8, r5, rj⟩ := att_rt fm hf k sp w
  exact t.root hf hk k2 (w := 0) (by omega) h0 r8 (fun i _ => by rw [rj 9 (by decide) (by decide)]) (fun i _ _ => by rw [rj 10 (by decide) (by decide)]) (fun i _ _ => by rw [rj 11 (by decide) (by decide)]) r5 hx hX
def frees (V : VW) : Nat := cnt (fun n => decide (V 8 n = 3)) 23
theorem frees_one {V' : VW} {f : Nat} (hf : f < 23) (hk : V 8 f = 3) {k : Int} (k2 : k ≤ 2) (r8 : ∀ i, i < 23 → V' 8 i = if i = f then k else V 8 i) : frees V = frees V' + 1 := by
  unfold frees
  refine cnt_one_more hf (fun i hi ne => ?_) ?_ (decide_eq_true hk)
  · rw [r8 i hi, if_neg ne]
  · rw [r8 f hf, if_pos rfl]
    exact decide_eq_false (by omega)
/-- the tabs don't see a new split -/
theorem att_tabs {V' : VW} {Z : Nat → Bool} (tb : Tabs V Z) {f : Nat} (hf : f < 23) (hk : V 8 f = 3) {k : Int} (k1 : k ≤ 1) (r8 : ∀ i, i < 23 → V' 8 i = if i = f then k else V 8 i) (e12 : V' 12 = V 12) (e13 : V' 13 = V 13) (e14 : V' 14 = V 14) (e15 : V' 15 = V 15) : Tabs V' Z :=
  tb.cg (fun g hg => by
    rw [r8 g hg]
    by_cases z : g = f
    · rw [if_pos z, z, hk]
      omega
    · rw [if_neg z]) (fun g _ _ => by rw [e12]) (fun p _ => by rw [e13]) (fun p _ => by rw [e14]) (fun p _ => by rw [e15])
/-- a new group has no tab yet -/
theorem att_tabg {V' : VW} {Z Z' : Nat → Bool} (tb : Tabs V Z) {f : Nat} (hf : f < 23) (hk : V 8 f = 3) (r8 : ∀ i, i < 23 → V' 8 i = if i = f then 2 else V 8 i) (e12 : V' 12 = V 12) (e13 : V' 13 = V 13) (e14 : V' 14 = V 14) (e15 : V' 15 = V 15) (hz : Z' f = true) (hZ : ∀ i, i ≠ f → Z' i = Z i) : Tabs V' Z' ∧ v_tc V' f = 0 := by
  have no : ∀ p, p < 12 → V 13 p ≠ f := fun p hp z => by
    have := (tb.g2 hp z).2
    omega
  have zero : cnt (fun p => decide (V' 13 p = (f : Int))) 12 = 0 := cnt_zero.mpr (fun p hp => by
    rw [e13]
    exact decide_eq_false (no p hp))
  refine ⟨⟨fun p hp => ?_, fun p hp q => ?_, fun p hp => ?_, fun g hg q => ?_⟩, zero⟩
  · rw [e13]
    rcases tb.gr hp with z | ⟨g, a, b, c⟩
    · exact Or.inl z
    · exact Or.inr ⟨g, a, b, by rw [r8 g a, if_neg (fun y => by rw [y] at c; omega)]; exact c⟩
  · rw [e13] at q
    rw [e14, e15]
    exact tb.no hp q
  · rw [e15]
    exact tb.hi hp
  · by_cases z : g = f
    · subst z
      exact ⟨(Nmb.emp (fun p hp => by rw [e13]; exact decide_eq_false (no p hp))).1, fun y => by rw [hz] at y; cases y⟩
    · rw [r8 g hg, if_neg z] at q
      unfold Act
      rw [e13, e14, e12, e15, hZ g z]
      exact ⟨tb.nu hg q, fun y => tb.fu hg q y⟩
end RB9
end
section
/-! THE RELATION: read (5): the tabs of a new group, in the class -/
section RBA
variable {V V' : VW} {Z : Nat → Bool}
/-- what a group under construction may change -/
theorem tabs_any (tb : Tabs V Z) {f : Nat} (hz : Z f = true) (e8 : V' 8 = V 8) (e13 : V' 13 = V 13) (e14 : V' 14 = V 14) (e15 : ∀ p, p < 12 → V' 15 p = V 15 p ∨ (V 13 p = f ∧ (V' 15 p = 0 ∨ V' 15 p = 1))) (e12 : ∀ n, n < 23 → n ≠ f → V' 12 n = V 12 n) : Tabs V' Z := by
  refine ⟨fun p hp => ?_, fun p hp q => ?_, fun p hp => ?_, fun g hg q => ?_⟩
  · rw [e13, e8]
    exact tb.gr hp
  · rw [e13] at q
    rw [e14]
    have := tb.no hp q
    refine ⟨this.1, ?_⟩
    rcases e15 p hp with z | ⟨z, -⟩
    · rw [z]; exact this.2
    · omega
  · rcases e15 p hp with z | ⟨-, z⟩
    · rw [z]; exact tb.hi hp
    · exact z
  · rw [e8] at q
    rw [e13, e14]
    refine ⟨tb.nu hg q, fun x => ?_⟩
    have gf : g ≠ f := fun z => by rw [z, hz] at x; cases x
    obtain ⟨a, b⟩ := tb.fu hg q x
    refine ⟨a, ?_⟩
    have r15 : ∀ p : Nat, p < 12 → V 13 p = g → V' 15 p = V 15 p := fun p hp y => by
      rcases e15 p hp with z | ⟨z, -⟩
      · exact z
      · exact absurd (show g = f by omega) gf
    unfold Act
    rw [e12 g hg gf, e13]
    rcases b with ⟨u, v⟩ | ⟨u, u1, u2, u3, u4⟩
    · exact Or.inl ⟨u, fun p hp y => by rw [r15 p hp y]; exact v p hp y⟩
    · exact Or.inr ⟨u, u1, u2, u3, by rw [r15 u u1 u3]; exact u4⟩
def Msk (V : VW) (m : Nat) : Prop := ∀ q, q < 12 → Nat.testBit m q = true → V 13 q = -1 ∧ V 15 q = 0
/-- one tab -/
def tb2 (f : Int) (q kk : Nat) (V : VW) : VW := if kk = 1 then v_hide (v_join V q f) q else v_join V q f
theorem tb2_rows {f q : Nat} (hq : q < 12) (hf : f < 23) (kk : Nat) (h15 : V 15 q = 0) :
    (∀ i, i < 12 → tb2 f q kk V 13 i = if i = q then (f : Int) else V 13 i) ∧
    (∀ i, i < 12 → tb2 f q kk V 14 i = if i = q then (v_tc V f : Int) else V 14 i) ∧
    (∀ i, i < 12 → tb2 f q kk V 15 i = if i = q then (if kk = 1 then 1 else 0) else V 15 i) ∧
    (∀ i, i < 23 → i ≠ f → tb2 f q kk V 12 i = V 12 i) ∧
    ∀ j, j ≠ 12 → j ≠ 13 → j ≠ 14 → j ≠ 15 → tb2 f q kk V j = V j := by
  obtain ⟨r13, r14, r12, rj⟩ := join_rows (V := V) hq hf
  unfold tb2
  by_cases z : kk = 1
  · rw [if_pos z]
    have hg : ga (v_join V q f 13) 12 (q : Int) = f := by rw [ga_in hq, r13 q, if_pos rfl]
    have h15' : ∀ i, v_hide (v_join V q f) q 15 i = if i = q then 1 else V 15 i := fun i => by
      have e : v_hide (v_join V q f) q 15 = up (v_join V q f) 15 q 1 15 := by
        unfold v_hide
        by_cases y : ga (v_join V q f 12) 23 (ga (v_join V q f 13) 12 (q : Int)) = q
        · rw [if_pos y, up_ne (by decide)]
        · rw [if_neg y]
      rw [e, up15 hq, rj 15 (by decide) (by decide) (by decide)]
    have h12' : ∀ i, i < 23 → i ≠ f → v_hide (v_join V q f) q 12 i = V 12 i := fun i hi ne => by
      unfold v_hide
      rw [hg]
      by_cases y : ga (v_join V q f 12) 23 (f : Int) = q
      · rw [if_pos y, up12 hf, if_neg ne, up_ne (by decide), r12 i, if_neg ne]
      · rw [if_neg y, up_ne (by decide), r12 i, if_neg ne]
    refine ⟨fun i _ => ?_, fun i _ => ?_, fun i _ => ?_, h12', fun j q12 q13 q14 q15 => ?_⟩
    · rw [v_hide_ne (by decide) (by decide), r13 i]
    · rw [v_hide_ne (by decide) (by decide), r14 i]
    · rw [h15' i, if_pos z]
    · rw [v_hide_ne q12 q15, rj j q12 q13 q14]
  · rw [if_neg z]
    refine ⟨fun i _ => r13 i, fun i _ => r14 i, fun i _ => ?_, fun i _ ne => by rw [r12 i, if_neg ne], fun j q12 q13 q14 _ => rj j q12 q13 q14⟩
    rw [rj 15 (by decide) (by decide) (by decide), if_neg z]
    by_cases y : i = q
    · rw [if_pos y, y, h15]
    · rw [if_neg y]
theorem tb2_ok (tb : Tabs V Z) {f q m : Nat} (hz : Z f = true) (hq : q < 12) (hf : f < 23) (k2 : V 8 f = 2) (hm : m < 4096) (mq0 : Msk V m) (hb : Nat.testBit m q = true) (kk : Nat) : Tabs (tb2 f q kk V) Z ∧ v_tc (tb2 f q kk V) f = v_tc V f + 1 ∧ Msk (tb2 f q kk V) (m &&& (4095 - 2 ^ q)) := by
  obtain ⟨u13, u15⟩ := mq0 q hq hb
  obtain ⟨r13, r14, r15, r12, rj⟩ := tb2_rows hq hf kk u15
  obtain ⟨j13, j14, j12, jj⟩ := join_rows (V := V) hq hf
  have tj := join_tabs tb (X' := Z) hq u13 hf k2 (fun _ _ => rfl)
  have e13 : tb2 f q kk V 13 = v_join V q f 13 := by
    unfold tb2
    by_cases z : kk = 1
    · rw [if_pos z, v_hide_ne (by decide) (by decide)]
    · rw [if_neg z]
  have e14 : tb2 f q kk V 14 = v_join V q f 14 := by
    unfold tb2
    by_cases z : kk = 1
    · rw [if_pos z, v_hide_ne (by decide) (by decide)]
    · rw [if_neg z]
  refine ⟨tabs_any tj hz (by rw [rj 8 (by decide) (by decide) (by decide) (by decide), jj 8 (by decide) (by decide) (by decide)]) e13 e14 (fun p hp => ?_) (fun i hi ne => ?_), ?_, fun i hi b => ?_⟩
  · rw [r15 p hp, jj 15 (by decide) (by decide) (by decide), j13 p]
    by_cases z : p = q
    · rw [if_pos z, if_pos z]
      right
      refine ⟨rfl, ?_⟩
      by_cases y : kk = 1
      · rw [if_pos y]; exact Or.inr rfl
      · rw [if_neg y]; exact Or.inl rfl
    · rw [if_neg z]
      exact Or.inl rfl
  · rw [r12 i hi ne, j12 i, if_neg ne]
  · unfold v_tc
    refine cnt_one_more (i0 := q) hq (fun i hi ne => by rw [r13 i hi, if_neg ne]) (decide_eq_false (by omega)) (by rw [r13 q hq, if_pos rfl]; exact decide_eq_true rfl)
  · rw [and_bit hm hq] at b
    have ne : i ≠ q := fun z => by rw [decide_eq_false (fun w => w z), Bool.and_false] at b; cases b
    rw [decide_eq_true ne, Bool.and_true] at b
    rw [r13 i hi, r15 i hi, if_neg ne, if_neg ne]
    exact mq0 i hi b
theorem btab_s (f : Int) (q kk : Nat) (l : List (Nat × Nat)) (V : VW) : btab f ((q, kk) :: l) V = btab f l (tb2 f q kk V) := rfl
end RBA
end
section
/-! THE RELATION: read (6): a tab that is made, in the reference -/
section RBB
variable {n : Nat} {c : Nat → Int32} {σ s : Sg} {p m : Nat}
/-- the reference's rows after a tab -/
def tbU (U : VW) (g q j : Nat) (hid : Bool) (st : Bool) : VW := mu (mu (mu (mu U 9 q g) 10 q j) 11 q (if hid then 1 else 0)) 5 g (if st = true ∨ (hid = false ∧ U 5 g = -1) then (q : Int) else U 5 g)
def Fh (s s1 : Sg) : Prop := s1.2 = s.2 ∧ (∀ x, x ≠ 462 → x ≠ 463 → s1.1 x = s.1 x) ∧ ∀ j, j ≠ 15 → j ≠ 16 → j ≠ 20 → s1.1 462 j = s.1 462 j
theorem Fh.rf : Fh s s := ⟨rfl, fun _ _ _ => rfl, fun _ _ _ _ => rfl⟩
theorem Fh.tr {s1 s2 : Sg} (h : Fh s s1) (h2 : Fh s1 s2) : Fh s s2 := ⟨h2.1.trans h.1, fun x a b => (h2.2.1 x a b).trans (h.2.1 x a b), fun j a b e => (h2.2.2 j a b e).trans (h.2.2 j a b e)⟩
theorem Fh.st {j : Nat} {v : Int32} (h : j = 15 ∨ j = 16 ∨ j = 20) : Fh s (su s 462 j v) := ⟨rfl, fun x a _ => su_ne a, fun k a b e => by rw [su_at, if_neg (by omega)]⟩
theorem Fh.ou {s1 : Sg} (o : Out s s1 463 463) : Fh s s1 := ⟨o.1, fun x _ b => o.2 x (by omega), fun j _ _ _ => by rw [o.2 462 (by omega)]⟩
theorem MT.fh {s1 : Sg} {q : Nat} (h : MT n c s p) (f : Fh s s1) (e : s1.1 462 15 = nI q) : MT n c s1 q :=
  ⟨by rw [f.2.2 5 (by omega) (by omega) (by omega)]; exact h.1, fun i hi => by rw [f.2.1 465 (by omega) (by omega)]; exact h.2.1 i hi, e⟩
theorem m_h121 (K : Sg → Int32 → Int32 → Int32 → Option Sg) (st : Bool) (l3 l4 l5 l6 s1 s2 : Int32) : fX9_readsGroup_121 462 K s 1 (b2i st) l3 l4 l5 l6 s1 s2 = fX9_readsGroup_139 462 K (su s 462 15 (s1 + s2)) 1 l3 l4 l5 l6 (b2i (st || !decide (l6 = 0))) := by
  unfold fX9_readsGroup_121 fX9_readsGroup_134
  rw [j_nm]
  cases st
  · rw [show b2i false = 0 from rfl, if_pos rfl]
    by_cases z : l6 = 0
    · rw [if_pos z, decide_eq_true z]
      rfl
    · rw [if_neg z, decide_eq_false z]
      rfl
  · rw [show b2i true = 1 from rfl, if_neg (show ¬ ((1 : Int32) = 0) by decide)]
    rfl
theorem m_h99 (K : Sg → Int32 → Int32 → Int32 → Option Sg) (st : Bool) (l3 l4 l5 l6 : Int32) : fX9_readsGroup_99 462 K s 1 (b2i st) l3 l4 l5 l6 = fX9_readsGroup_121 462 K s 1 (b2i st) l3 l4 l5 l6 (s.1 462 15) (if l5 = 0 ∧ l6 = 0 then 0 else 1) := by
  unfold fX9_readsGroup_99 fX9_readsGroup_116
  by_cases z : l5 = 0
  · by_cases y : l6 = 0
    · rw [if_pos z, if_pos y, if_pos ⟨z, y⟩]
    · rw [if_pos z, if_neg y, if_neg (fun w => y w.2)]
  · rw [if_neg z, if_neg (fun w => z w.1)]
theorem m_h139 (K : Sg → Int32 → Int32 → Int32 → Option Sg) {q g j : Nat} (hq : q < 12) (hg : g < 23) (hj : j < 12) (e21 : s.1 462 21 = oI g) (hid st : Bool) (s0 : Int32) : ∃ s', fX9_readsGroup_139 462 K s 1 (nI j) (nI q) (b2i hid) (b2i st) s0 = fX9_readsGroup_238 462 K s' 1 s0 (nI j) ∧ Out s s' 463 463 ∧ mv (s'.1 463) = tbU (mv (s.1 463)) g q j hid st := by
  have tq : (nI q).toInt = q := j_nI (by omega)
  have tg : (oI (g : Int)).toInt = g := j_oI (by omega) (by omega)
  obtain ⟨s1, a1, a2, a3⟩ := m_p3 (σ := s) tq hq (oI g)
  obtain ⟨s2, b1, b2, b3⟩ := m_p4 (σ := s1) tq hq (nI j)
  have f21 : ∀ x : Sg, Out s x 463 463 → x.1 462 21 = oI g := fun x o => by rw [o.2 462 (by omega)]; exact e21
  obtain ⟨s3, d1, d2, d3⟩ := m_p5 (σ := s2) tq hq (if hid then 1 else 0)
  have o3 : Out s s3 463 463 := (a2.tr b2).tr d2
  have r5 : mv (s3.1 463) 5 g = mv (s.1 463) 5 g := by rw [d3, mu_ne (by decide), b3, mu_ne (by decide), a3, mu_ne (by decide)]
  have rows : mv (s3.1 463) = mu (mu (mu (mv (s.1 463)) 9 q g) 10 q j) 11 q (if hid then 1 else 0) := by
    rw [d3, b3, a3, tg, j_nI (by omega)]
    cases hid <;> rfl
  obtain ⟨s4, g1, g2, g3⟩ := m_l5 (σ := s3) tg (by omega) (nI q)
  obtain ⟨s5, h1, h2, h3⟩ := m_l5 (σ := s3) tg (by omega) (oI (mv (s.1 463) 5 g))
  have e203 : ∀ l5 l6 : Int32, fX9_readsGroup_203 462 K s3 1 s0 (nI j) (nI q) = fX9_readsGroup_238 462 K s4 1 s0 (nI j) := fun _ _ => by
    unfold fX9_readsGroup_203 fX9_readsGroup_208 fX9_readsGroup_235
    rw [if_neg (show ¬ ((1 : Int32) = 0) by decide), f21 s3 o3, g1, j_b]
  have e207 : fX9_readsGroup_207 462 K s3 1 s0 (nI j) (nI q) = fX9_readsGroup_238 462 K s5 1 s0 (nI j) := by
    unfold fX9_readsGroup_207 fX9_readsGroup_208 fX9_readsGroup_235
    rw [if_pos rfl, f21 s3 o3, m_i5 tg (by omega), j_b, r5, h1, j_b]
  have e177 : ∀ x : Int32, x = (if hid then 1 else 0) → fX9_readsGroup_177 462 K s2 1 s0 (nI j) (nI q) (b2i hid) (b2i st) (nI q) 5 x = if st = true ∨ (hid = false ∧ mv (s.1 463) 5 g = -1) then fX9_readsGroup_238 462 K s4 1 s0 (nI j) else fX9_readsGroup_238 462 K s5 1 s0 (nI j) := fun x hx => by
    unfold fX9_readsGroup_177
    rw [hx, d1, j_b]
    cases st
    · rw [if_pos (show b2i false = 0 from rfl)]
      cases hid
      · rw [if_pos (show b2i false = 0 from rfl), f21 s3 o3, m_i5 tg (by omega), j_b, r5]
        by_cases z : mv (s.1 463) 5 g = -1
        · rw [if_pos (by rw [z]; rfl), e203 0 0, if_pos (Or.inr ⟨rfl, z⟩)]
        · rw [if_neg (by rw [j_eq, t_mv, jm1]; exact z), e207, if_neg (fun y => y.elim (fun u => by cases u) (fun u => z u.2))]
      · rw [if_neg (show ¬ b2i true = 0 by decide), e207, if_neg (fun y => y.elim (fun u => by cases u) (fun u => by cases u.1))]
    · rw [if_neg (show ¬ b2i true = 0 by decide), e203 0 0, if_pos (Or.inl rfl)]
  have start : fX9_readsGroup_139 462 K s 1 (nI j) (nI q) (b2i hid) (b2i st) s0 = fX9_readsGroup_177 462 K s2 1 s0 (nI j) (nI q) (b2i hid) (b2i st) (nI q) 5 (if hid then 1 else 0) := by
    unfold fX9_readsGroup_139
    rw [if_neg (show ¬ ((1 : Int32) = 0) by decide), e21, a1, j_b, b1, j_b]
    cases hid
    · rw [if_pos (show b2i false = 0 from rfl)]
      rfl
    · rw [if_neg (show ¬ b2i true = 0 by decide)]
      rfl
  rw [start, e177 _ rfl]
  by_cases z : st = true ∨ (hid = false ∧ mv (s.1 463) 5 g = -1)
  · refine ⟨s4, by rw [if_pos z], o3.tr g2, ?_⟩
    rw [g3, rows, tq]
    unfold tbU
    rw [if_pos z]
  · refine ⟨s5, by rw [if_neg z], o3.tr h2, ?_⟩
    rw [h3, rows, t_mv]
    unfold tbU
    rw [if_neg z]
/-- the letter of a pane that may stand there -/
theorem m_ipn1 (T : Tt n c) (mt : MT n c s p) {q : Nat} (hq : q < 12) (hp : p < n) (e : c p = nI (97 + q)) {u : Nat} (hu : s.1 462 20 = nI u) (u4 : u < 4096) (a2 : Nat.testBit u q = false) (e6 : mv (s.1 463) 6 q = 1) (e9 : mv (s.1 463) 9 q = -1) : fX9_isPaneNext s 462 = some true := by
  have tq : (nI q).toInt = q := j_nI (by omega)
  unfold fX9_isPaneNext
  rw [m_next mt T.1 (by omega), j_b, (cd_in hp).2, e, l_sub hq, j_nm, m_isPane, j_b, tq, decide_eq_true (by omega), Bool.true_and, Int.toNat_natCast, e6, decide_eq_true rfl, if_pos rfl, hu, bt_one u4 hq, a2, if_neg Bool.false_ne_true, if_pos (show nI 0 = (0 : Int32) from rfl), m_isPlaced tq hq, j_b, e9, decide_eq_false (fun y => y rfl), if_neg Bool.false_ne_true]
/-- one tab on the reference's side, when it is made -/
theorem m_tab1 (T : Tt n c) (mt : MT n c s p) {q : Nat} (hq : q < 12) (hp : p < n) (e : c p = nI (97 + q)) (w : s.1 462 16 = -1) {u : Nat} (hu : s.1 462 20 = nI u) (u4 : u < 4096) (a2 : Nat.testBit u q = false) (e6 : mv (s.1 463) 6 q = 1) (e9 : mv (s.1 463) 9 q = -1) {g : Nat} (hg : g < 23) (e21 : s.1 462 21 = oI g) {st st' : Bool} {kk p2 : Nat} (k : Mk n c st (p + 1) kk p2 st') (h2 : p2 ≤ n) (f : Nat) {j : Nat} (hj : j < 12) : ∃ s2, Fh s s2 ∧ MT n c s2 p2 ∧ s2.1 462 16 = -1 ∧ s2.1 462 20 = nI (u ||| 2 ^ q) ∧ mv (s2.1 463) = tbU (mv (s.1 463)) g q j (decide (kk = 1)) (decide (kk = 2)) ∧ fX9_readsGroup_17 462 (f + 1) s 1 (b2i st) (nI j) = (if ltr n c p2 = true then fX9_readsGroup_17 462 f s2 1 (b2i st') (nI (j + 1)) else some s2) := by
  have n120 := T.1
  obtain ⟨w3, hw3⟩ : ∃ w3 : Sg, w3 = su s 462 20 (nI (u ||| 2 ^ q)) := ⟨_, rfl⟩
  have w315 : w3.1 462 15 = nI p := by rw [hw3, su_at, if_neg (by omega)]; exact mt.2.2
  obtain ⟨w4, hw4⟩ : ∃ w4 : Sg, w4 = su w3 462 15 (nI (p + 1)) := ⟨_, rfl⟩
  have f4 : Fh s w4 := by rw [hw4, hw3]; exact (Fh.st (by omega)).tr (Fh.st (by omega))
  have mt4 : MT n c w4 (p + 1) := mt.fh f4 (by rw [hw4, su_at, if_pos ⟨rfl, rfl⟩])
  have g16 : w4.1 462 16 = -1 := by rw [hw4, su_at, if_neg (by omega), hw3, su_at, if_neg (by omega)]; exact w
  have g20 : w4.1 462 20 = nI (u ||| 2 ^ q) := by rw [hw4, su_at, if_neg (by omega), hw3, su_at, if_pos ⟨rfl, rfl⟩]
  have g21 : w4.1 462 21 = oI g := by rw [f4.2.2 21 (by omega) (by omega) (by omega)]; exact e21
  have g63 : w4.1 463 = s.1 463 := by rw [hw4, su_ne (by omega), hw3, su_ne (by omega)]
  have start : fX9_readsGroup_17 462 (f + 1) s 1 (b2i st) (nI j) = if cdm n c (p + 1) = 45 then fX9_readsGroup_79 462 (fX9_readsGroup_17 462 f) w4 1 (b2i st) (nI j) (nI q) 1 else fX9_readsGroup_79 462 (fX9_readsGroup_17 462 f) w4 1 (b2i st) (nI j) (nI q) 0 := by
    rw [fX9_readsGroup_17, m_ipn1 T mt hq hp e hu u4 a2 e6 e9, j_b, if_pos rfl, m_next mt n120 (by omega), j_b, (cd_in hp).2, e, l_sub hq, j_nm, hu, bt_or hq, ← hw3, j_nm, w315, j_s, ← hw4, j_nm, m_next mt4 n120 (by omega), j_b]
  have n79 : ∀ s0 : Int32, fX9_readsGroup_79 462 (fX9_readsGroup_17 462 f) w4 1 (b2i st) (nI j) (nI q) s0 = if cdm n c (p + 1) = 42 then (if b2i st = 0 then fX9_readsGroup_99 462 (fX9_readsGroup_17 462 f) w4 1 (b2i st) (nI j) (nI q) s0 1 else fX9_readsGroup_98 462 (fX9_readsGroup_17 462 f) w4 1 (b2i st) (nI j) (nI q) s0) else fX9_readsGroup_98 462 (fX9_readsGroup_17 462 f) w4 1 (b2i st) (nI j) (nI q) s0 := fun s0 => by
    unfold fX9_readsGroup_79
    rw [m_next mt4 n120 (by omega), j_b]
  -- the end of one turn
  have fin : ∀ (hid sr b : Bool) (a : Int32), w4.1 462 15 + a = nI p2 → ∃ s2, Fh s s2 ∧ MT n c s2 p2 ∧ s2.1 462 16 = -1 ∧ s2.1 462 20 = nI (u ||| 2 ^ q) ∧ mv (s2.1 463) = tbU (mv (s.1 463)) g q j hid sr ∧ fX9_readsGroup_139 462 (fX9_readsGroup_17 462 f) (su w4 462 15 (w4.1 462 15 + a)) 1 (nI j) (nI q) (b2i hid) (b2i sr) (b2i b) = (if ltr n c p2 = true then fX9_readsGroup_17 462 f s2 1 (b2i b) (nI (j + 1)) else some s2) := fun hid sr b a ea => by
    obtain ⟨w5, hw5⟩ : ∃ w5 : Sg, w5 = su w4 462 15 (nI p2) := ⟨_, rfl⟩
    have f5 : Fh s w5 := by rw [hw5]; exact f4.tr (Fh.st (by omega))
    have g21' : w5.1 462 21 = oI g := by rw [hw5, su_at, if_neg (by omega)]; exact g21
    have g63' : w5.1 463 = s.1 463 := by rw [hw5, su_ne (by omega)]; exact g63
    obtain ⟨s2, b1, b2, b3⟩ := m_h139 (s := w5) (fX9_readsGroup_17 462 f) hq hg hj g21' hid sr (b2i b)
    have k62 : ∀ i, s2.1 462 i = w5.1 462 i := fun i => by rw [b2.2 462 (by omega)]
    have mt2 : MT n c s2 p2 := mt.fh (f5.tr (Fh.ou b2)) (by rw [k62, hw5, su_at, if_pos ⟨rfl, rfl⟩])
    refine ⟨s2, f5.tr (Fh.ou b2), mt2, by rw [k62, hw5, su_at, if_neg (by omega)]; exact g16, by rw [k62, hw5, su_at, if_neg (by omega)]; exact g20, by rw [b3, g63'], ?_⟩
    rw [ea, ← hw5, b1]
    unfold fX9_readsGroup_238
    rw [m_next mt2 n120 h2, j_b, m_within, j_b, i97, i108, j_s]
    rfl
  have a0 : nI (p + 1) + 0 = nI (p + 1) := j_a (p + 1) 0
  rcases k with ⟨k1, k2, k3, k4⟩ | ⟨k1, k0, k2, k3, k4⟩ | ⟨k1, k2, k0, k3, k4⟩
  · obtain ⟨s2, x1, x2, x3, x4, x5, x6⟩ := fin true false (st || !true) 1 (by rw [mt4.2.2, j_s, k3])
    refine ⟨s2, x1, x2, x3, x4, by rw [x5, k1]; rfl, ?_⟩
    rw [start, if_pos k2, n79, if_neg (by rw [k2]; decide), fX9_readsGroup_98, m_h99, if_neg (by decide), m_h121, decide_eq_true rfl]
    have : st' = (st || !true) := by rw [k4]; cases st <;> rfl
    rw [this]
    exact x6
  · obtain ⟨s2, x1, x2, x3, x4, x5, x6⟩ := fin false true (st || !false) 1 (by rw [mt4.2.2, j_s, k3])
    refine ⟨s2, x1, x2, x3, x4, by rw [x5, k1]; rfl, ?_⟩
    rw [start, if_neg (by rw [k2]; decide), n79, if_pos k2, if_pos (by rw [k0]; rfl), m_h99, if_neg (by decide), m_h121, decide_eq_false (by decide)]
    have : st' = (st || !false) := by rw [k4]; cases st <;> rfl
    rw [this]
    exact x6
  · have e98 : (if cdm n c (p + 1) = 42 then (if b2i st = 0 then fX9_readsGroup_99 462 (fX9_readsGroup_17 462 f) w4 1 (b2i st) (nI j) (nI q) 0 1 else fX9_readsGroup_98 462 (fX9_readsGroup_17 462 f) w4 1 (b2i st) (nI j) (nI q) 0) else fX9_readsGroup_98 462 (fX9_readsGroup_17 462 f) w4 1 (b2i st) (nI j) (nI q) 0) = fX9_readsGroup_98 462 (fX9_readsGroup_17 462 f) w4 1 (b2i st) (nI j) (nI q) 0 := by
      by_cases z : cdm n c (p + 1) = 42
      · cases hs : st
        · exact absurd z (k0 hs)
        · rw [if_pos z, if_neg (by decide)]
      · rw [if_neg z]
    obtain ⟨s2, x1, x2, x3, x4, x5, x6⟩ := fin false false (st || !true) 0 (by rw [mt4.2.2, a0, k3])
    refine ⟨s2, x1, x2, x3, x4, by rw [x5, k1]; rfl, ?_⟩
    rw [start, if_neg k2, n79, e98, fX9_readsGroup_98, m_h99, if_pos ⟨rfl, rfl⟩, m_h121, decide_eq_true rfl]
    have : st' = (st || !true) := by rw [k4]; cases st <;> rfl
    rw [this]
    exact x6
end RBB
end
section
/-! THE RELATION: read (7): the tabs of a new group, both sides -/
section RBC
variable {n : Nat} {c : Nat → Int32}
def acf (a : Int) : List (Nat × Nat) → Int
  | [] => a
  | (q, kk) :: l => acf (if kk = 2 ∨ (kk ≠ 1 ∧ a = -1) then q else a) l
/-- the panes' cells agree -/
def PR (U V : VW) : Prop := ∀ p, p < 12 → U 9 p = V 13 p ∧ (V 13 p ≠ -1 → U 10 p = V 14 p) ∧ U 11 p = V 15 p
theorem PR.tab {U V : VW} (h : PR U V) {f q : Nat} (hq : q < 12) (hf : f < 23) (kk : Nat) (h15 : V 15 q = 0) {j : Nat} (hj : v_tc V f = j) (sr : Bool) : PR (tbU U f q j (decide (kk = 1)) sr) (tb2 f q kk V) := by
  obtain ⟨r13, r14, r15, -, -⟩ := tb2_rows (V := V) hq hf kk h15
  intro p hp
  have e9 : tbU U f q j (decide (kk = 1)) sr 9 p = if p = q then (f : Int) else U 9 p := by
    unfold tbU
    rw [mu_ne (by decide), mu_ne (by decide), mu_ne (by decide), mu_at]
  have e10 : tbU U f q j (decide (kk = 1)) sr 10 p = if p = q then (j : Int) else U 10 p := by
    unfold tbU
    rw [mu_ne (by decide), mu_ne (by decide), mu_at, mu_ne (by decide)]
  have e11 : tbU U f q j (decide (kk = 1)) sr 11 p = if p = q then (if decide (kk = 1) = true then 1 else 0) else U 11 p := by
    unfold tbU
    rw [mu_ne (by decide), mu_at, mu_ne (by decide), mu_ne (by decide)]
  obtain ⟨a, b, e⟩ := h p hp
  rw [e9, e10, e11, r13 p hp, r14 p hp, r15 p hp]
  by_cases z : p = q
  · rw [if_pos z, if_pos z, if_pos z, if_pos z, if_pos z, if_pos z, hj]
    refine ⟨rfl, fun _ => rfl, ?_⟩
    by_cases y : kk = 1
    · rw [if_pos y, if_pos (decide_eq_true y)]
    · rw [if_neg y, if_neg (by rw [decide_eq_false y]; exact Bool.false_ne_true)]
  · rw [if_neg z, if_neg z, if_neg z, if_neg z, if_neg z, if_neg z]
    exact ⟨a, b, e⟩
theorem tbU_r {U : VW} {f q j : Nat} {hid sr : Bool} {k : Nat} (h : k ≠ 5) (h9 : k ≠ 9) (h10 : k ≠ 10) (h11 : k ≠ 11) : tbU U f q j hid sr k = U k := by
  unfold tbU
  rw [mu_ne h, mu_ne h11, mu_ne h10, mu_ne h9]
theorem tbU_5 {U : VW} {f q j : Nat} {kk : Nat} (i : Nat) : tbU U f q j (decide (kk = 1)) (decide (kk = 2)) 5 i = if i = f then (if kk = 2 ∨ (kk ≠ 1 ∧ U 5 f = -1) then (q : Int) else U 5 f) else U 5 i := by
  unfold tbU
  rw [mu_at, mu_ne (by decide), mu_ne (by decide), mu_ne (by decide)]
  have e : (decide (kk = 2) = true ∨ (decide (kk = 1) = false ∧ U 5 f = -1)) ↔ (kk = 2 ∨ (kk ≠ 1 ∧ U 5 f = -1)) := by
    simp
  by_cases z : kk = 2 ∨ (kk ≠ 1 ∧ U 5 f = -1)
  · rw [if_pos z, if_pos (e.mpr z)]
  · rw [if_neg z, if_neg (fun y => z (e.mp y))]
theorem Mk.lt {st st' : Bool} {p1 kk p2 : Nat} (h : Mk n c st p1 kk p2 st') : p1 ≤ p2 := by
  rcases h with ⟨_, _, z, _⟩ | ⟨_, _, _, z, _⟩ | ⟨_, _, _, z, _⟩ <;> omega
theorem Tb.le : ∀ {t : List (Nat × Nat)} {st : Bool} {p m p' m' : Nat}, Tb n c t st p m p' m' → p ≤ p'
  | [], _, _, _, _, _, h => by
    have : _ ∧ _ := h
    omega
  | (q, kk) :: l, st, p, m, p', m', h => by
    obtain ⟨_, _, _, _, p2, st', k, r⟩ := h
    have := k.lt
    have := Tb.le r
    omega
theorem g_loop (T : Tt n c) {f : Nat} (hf : f < 23) {Z : Nat → Bool} (hz : Z f = true) : ∀ (t : List (Nat × Nat)) (st : Bool) (p m p' m' : Nat) (V : VW) (s : Sg) (u j fuel : Nat), Tb n c t st p m p' m' → t ≠ [] → ltr n c p' = false → p' ≤ n → m < 4096 → Tabs V Z → V 8 f = 2 → Msk V m → PR (mv (s.1 463)) V → v_tc V f = j → MT n c s p → s.1 462 16 = -1 → s.1 462 20 = nI u → u < 4096 → (∀ q, q < 12 → Nat.testBit m q = true → Nat.testBit u q = false ∧ mv (s.1 463) 6 q = 1) → s.1 462 21 = oI f → t.length < fuel → ∃ s' u', fX9_readsGroup_17 462 fuel s 1 (b2i st) (nI j) = some s' ∧ Fh s s' ∧ MT n c s' p' ∧ s'.1 462 16 = -1 ∧ s'.1 462 20 = nI u' ∧ u' < 4096 ∧ m' < 4096 ∧ (∀ q, q < 12 → Nat.testBit m' q = true → Nat.testBit u' q = false ∧ Nat.testBit m q = true) ∧ PR (mv (s'.1 463)) (btab f t V) ∧ (∀ i, mv (s'.1 463) 5 i = if i = f then acf (mv (s.1 463) 5 f) t else mv (s.1 463) 5 i) ∧ (∀ k, k ≠ 5 → k ≠ 9 → k ≠ 10 → k ≠ 11 → mv (s'.1 463) k = mv (s.1 463) k) ∧ Tabs (btab f t V) Z ∧ v_tc (btab f t V) f = j + t.length ∧ Msk (btab f t V) m' ∧ (∀ k, k ≠ 12 → k ≠ 13 → k ≠ 14 → k ≠ 15 → btab f t V k = V k) ∧ (∀ i, i < 23 → i ≠ f → btab f t V 12 i = V 12 i) ∧ cnt (fun q => Nat.testBit m q) 12 = cnt (fun q => Nat.testBit m' q) 12 + t.length := by
  intro t
  induction t with
  | nil => intro st p m p' m' V s u j fuel _ ne; exact absurd rfl ne
  | cons a l ih =>
    obtain ⟨q, kk⟩ := a
    intro st p m p' m' V s u j fuel tb _ lp pn hm tv k2 ms pr hj mt w hu u4 al e21 hfu
    obtain ⟨hq, hb, hp, e, p2, st', k, r⟩ := tb
    obtain ⟨u13, u15⟩ := ms q hq hb
    obtain ⟨al1, al2⟩ := al q hq hb
    have kl := k.lt
    have rl := Tb.le r
    obtain ⟨t1, t2, t3⟩ := tb2_ok tv hz hq hf k2 hm ms hb kk
    obtain ⟨r13, r14, r15, r12, rj⟩ := tb2_rows (V := V) hq hf kk u15
    have j12 : j < 12 := by
      have := v_tc_rg (tb2 f q kk V) f
      omega
    obtain ⟨fu, rfl⟩ : ∃ fu, fuel = fu + 1 := ⟨fuel - 1, by omega⟩
    have e9 : mv (s.1 463) 9 q = -1 := by rw [(pr q hq).1]; exact u13
    obtain ⟨s2, x1, x2, x3, x4, x5, x6⟩ := m_tab1 T mt hq hp e w hu u4 al1 al2 e9 hf e21 k (by omega) fu j12
    have pr2 : PR (mv (s2.1 463)) (tb2 f q kk V) := by rw [x5]; exact pr.tab hq hf kk u15 hj _
    have k2' : tb2 f q kk V 8 f = 2 := by rw [rj 8 (by decide) (by decide) (by decide) (by decide)]; exact k2
    have cn : cnt (fun i => Nat.testBit m i) 12 = cnt (fun i => Nat.testBit (m &&& (4095 - 2 ^ q)) i) 12 + 1 := cnt_one_more (i0 := q) hq (fun i _ ne => by rw [and_bit hm hq, decide_eq_true ne, Bool.and_true]) (by rw [and_bit hm hq, decide_eq_false (fun w => w rfl), Bool.and_false]) hb
    have al' : ∀ i, i < 12 → Nat.testBit (m &&& (4095 - 2 ^ q)) i = true → (Nat.testBit (u ||| 2 ^ q) i = false ∧ mv (s2.1 463) 6 i = 1) ∧ Nat.testBit m i = true := fun i hi b => by
      rw [and_bit hm hq] at b
      have ne : i ≠ q := fun z => by rw [decide_eq_false (fun w => w z), Bool.and_false] at b; cases b
      rw [decide_eq_true ne, Bool.and_true] at b
      obtain ⟨c1, c2⟩ := al i hi b
      refine ⟨⟨?_, ?_⟩, b⟩
      · rw [or_bit, c1, decide_eq_false ne]
        rfl
      · rw [x5, tbU_r (by decide) (by decide) (by decide) (by decide)]
        exact c2
    have f21 : s2.1 462 21 = oI f := by rw [x1.2.2 21 (by omega) (by omega) (by omega)]; exact e21
    have r5 : ∀ i, mv (s2.1 463) 5 i = if i = f then (if kk = 2 ∨ (kk ≠ 1 ∧ mv (s.1 463) 5 f = -1) then (q : Int) else mv (s.1 463) 5 f) else mv (s.1 463) 5 i := fun i => by rw [x5]; exact tbU_5 i
    have rk : ∀ k, k ≠ 5 → k ≠ 9 → k ≠ 10 → k ≠ 11 → mv (s2.1 463) k = mv (s.1 463) k := fun k h5 h9 h10 h11 => by rw [x5]; exact tbU_r h5 h9 h10 h11
    rw [x6]
    by_cases le : l = []
    · subst le
      have pe : p' = p2 ∧ m' = m &&& (4095 - 2 ^ q) := r
      rw [if_neg (by rw [← pe.1, lp]; exact Bool.false_ne_true)]
      refine ⟨s2, u ||| 2 ^ q, rfl, x1, by rw [pe.1]; exact x2, x3, x4, or_lt u4 hq, by rw [pe.2]; exact m_lt hm, fun i hi b => ?_, pr2, r5, rk, t1, by rw [btab_s]; exact t2.trans (by rw [hj]; rfl), by rw [pe.2]; exact t3, rj, r12, by rw [pe.2]; exact cn⟩
      rw [pe.2] at b
      exact ⟨(al' i hi b).1.1, (al' i hi b).2⟩
    · have lt2 : ltr n c p2 = true := by
        match l, le, r with
        | (q2, kk2) :: l2, _, r => exact ltr_of r.1 r.2.2.1 r.2.2.2.1
      rw [if_pos lt2]
      obtain ⟨s', u', y1, y2, y3, y4, y5, y6, y6', y7, y8, y9, y10, y11, y12, y13, y14, y15, y16⟩ := ih st' p2 (m &&& (4095 - 2 ^ q)) p' m' (tb2 f q kk V) s2 (u ||| 2 ^ q) (j + 1) fu r le lp pn (m_lt hm) t1 k2' t3 pr2 (by rw [t2, hj]) x2 x3 x4 (or_lt u4 hq) (fun i hi b => (al' i hi b).1) f21 (by rw [List.length_cons] at hfu; omega)
      refine ⟨s', u', y1, x1.tr y2, y3, y4, y5, y6, y6', fun i hi b => ⟨(y7 i hi b).1, (al' i hi (y7 i hi b).2).2⟩, y8, fun i => ?_, fun k h5 h9 h10 h11 => (y10 k h5 h9 h10 h11).trans (rk k h5 h9 h10 h11), y11, by rw [btab_s, y12, List.length_cons]; omega, y13, fun k h12 h13 h14 h15 => (y14 k h12 h13 h14 h15).trans (rj k h12 h13 h14 h15), fun i hi ne => (y15 i hi ne).trans (r12 i hi ne), by rw [cn, y16, List.length_cons]; omega⟩
      rw [y9 i, r5 f, if_pos rfl, r5 i]
      by_cases z : i = f
      · rw [if_pos z, if_pos z]
        rfl
      · rw [if_neg z, if_neg z, if_neg z]
end RBC
end
section
/-! THE RELATION: read (8): the active tab of a new group -/
section RBD
variable {n : Nat} {c : Nat → Int32}
theorem acf_st : ∀ (t : List (Nat × Nat)) (p m p' m' : Nat) (a : Int), Tb n c t true p m p' m' → a ≠ -1 → acf a t = a
  | [], _, _, _, _, _, _, _ => rfl
  | (q, kk) :: l, p, m, p', m', a, h, ha => by
    obtain ⟨_, _, _, _, p2, st', k, r⟩ := h
    have k2 : kk ≠ 2 ∧ st' = true := by
      rcases k with ⟨x, _, _, y⟩ | ⟨_, x, _⟩ | ⟨x, _, _, _, y⟩
      · exact ⟨by omega, y⟩
      · cases x
      · exact ⟨by omega, y⟩
    rw [k2.2] at r
    show acf (if kk = 2 ∨ (kk ≠ 1 ∧ a = -1) then (q : Int) else a) l = a
    rw [if_neg (fun y => y.elim k2.1 (fun z => ha z.2))]
    exact acf_st l _ _ _ _ a r ha
theorem acf_star : ∀ (t : List (Nat × Nat)) (p m p' m' : Nat) (a : Int), Tb n c t false p m p' m' → star t ≠ -1 → acf a t = star t
  | [], _, _, _, _, _, _, h => absurd rfl h
  | (q, kk) :: l, p, m, p', m', a, h, hs => by
    obtain ⟨_, _, _, _, p2, st', k, r⟩ := h
    show acf (if kk = 2 ∨ (kk ≠ 1 ∧ a = -1) then (q : Int) else a) l = if kk = 2 then (q : Int) else star l
    have hs : (if kk = 2 then (q : Int) else star l) ≠ -1 := hs
    by_cases z : kk = 2
    · have st : st' = true := by
        rcases k with ⟨x, _⟩ | ⟨_, _, _, _, y⟩ | ⟨x, _⟩
        · omega
        · exact y
        · omega
      rw [st] at r
      rw [if_pos (Or.inl z), if_pos z]
      exact acf_st l _ _ _ _ _ r (by omega)
    · have st : st' = false := by
        rcases k with ⟨_, _, _, y⟩ | ⟨x, _⟩ | ⟨_, _, _, _, y⟩
        · exact y
        · exact absurd x z
        · exact y
      rw [st] at r
      rw [if_neg z] at hs ⊢
      exact acf_star l _ _ _ _ _ r hs
theorem acf_first : ∀ (t : List (Nat × Nat)), star t = -1 → (acf (-1) t = -1 ∧ ∀ (i q kk : Nat), t[i]? = some (q, kk) → kk = 1) ∨ ∃ (i q kk : Nat), t[i]? = some (q, kk) ∧ kk ≠ 1 ∧ acf (-1) t = q ∧ ∀ (i' q' kk' : Nat), i' < i → t[i']? = some (q', kk') → kk' = 1
  | [], _ => Or.inl ⟨rfl, fun i q kk h => by simp at h⟩
  | (q, kk) :: l, hs => by
    have hs : (if kk = 2 then (q : Int) else star l) = -1 := hs
    have k2 : kk ≠ 2 := fun z => by rw [if_pos z] at hs; omega
    rw [if_neg k2] at hs
    have keep : ∀ (l : List (Nat × Nat)) (a : Int), a ≠ -1 → star l = -1 → acf a l = a := by
      intro l
      induction l with
      | nil => intro a _ _; rfl
      | cons x l ih =>
        obtain ⟨q2, k3⟩ := x
        intro a ha hs
        have hs : (if k3 = 2 then (q2 : Int) else star l) = -1 := hs
        have k4 : k3 ≠ 2 := fun z => by rw [if_pos z] at hs; omega
        rw [if_neg k4] at hs
        show acf (if k3 = 2 ∨ (k3 ≠ 1 ∧ a = -1) then (q2 : Int) else a) l = a
        rw [if_neg (fun y => y.elim k4 (fun z => ha z.2))]
        exact ih a ha hs
    show (acf (if kk = 2 ∨ (kk ≠ 1 ∧ (-1 : Int) = -1) then (q : Int) else -1) l = -1 ∧ _) ∨ ∃ i q' kk', _ ∧ _ ∧ acf (if kk = 2 ∨ (kk ≠ 1 ∧ (-1 : Int) = -1) then (q : Int) else -1) l = _ ∧ _
    by_cases z : kk = 1
    · rw [if_neg (fun y => y.elim k2 (fun w => w.1 z))]
      rcases acf_first l hs with ⟨a, b⟩ | ⟨i, q', kk', a, b, e, g⟩
      · refine Or.inl ⟨a, fun i q' kk' h => ?_⟩
        cases i with
        | zero =>
          have : (q, kk) = (q', kk') := by simpa using h
          rw [← (Prod.mk.inj this).2]
          exact z
        | succ i => exact b i q' kk' (by simpa using h)
      · refine Or.inr ⟨i + 1, q', kk', by simpa using a, b, e, fun i' q2 k3 hi h => ?_⟩
        cases i' with
        | zero =>
          have : (q, kk) = (q2, k3) := by simpa using h
          rw [← (Prod.mk.inj this).2]
          exact z
        | succ i' => exact g i' q2 k3 (by omega) (by simpa using h)
    · rw [if_pos (Or.inr ⟨z, rfl⟩)]
      exact Or.inr ⟨0, q, kk, rfl, z, keep l q (by omega) hs, fun i' q2 k3 hi => absurd hi (by omega)⟩
theorem btab_keep {f : Nat} (hf : f < 23) {Z : Nat → Bool} (hz : Z f = true) : ∀ (t : List (Nat × Nat)) (st : Bool) (p m p' m' : Nat) (V : VW), Tb n c t st p m p' m' → m < 4096 → Tabs V Z → V 8 f = 2 → Msk V m → ∀ q, q < 12 → V 13 q ≠ -1 → btab f t V 13 q = V 13 q ∧ btab f t V 14 q = V 14 q ∧ btab f t V 15 q = V 15 q
  | [], _, _, _, _, _, _, _, _, _, _, _, _, _, _ => ⟨rfl, rfl, rfl⟩
  | (q0, kk) :: l, st, p, m, p', m', V, h, hm, tv, k2, ms, q, hq, hp => by
    obtain ⟨hq0, hb, _, _, p2, st', k, r⟩ := h
    obtain ⟨u13, u15⟩ := ms q0 hq0 hb
    obtain ⟨t1, t2, t3⟩ := tb2_ok tv hz hq0 hf k2 hm ms hb kk
    obtain ⟨r13, r14, r15, r12, rj⟩ := tb2_rows (V := V) hq0 hf kk u15
    have ne : q ≠ q0 := fun z => by rw [z] at hp; exact hp u13
    have e := btab_keep hf hz l st' p2 (m &&& (4095 - 2 ^ q0)) p' m' (tb2 f q0 kk V) r (m_lt hm) t1 (by rw [rj 8 (by decide) (by decide) (by decide) (by decide)]; exact k2) t3 q hq (by rw [r13 q hq, if_neg ne]; exact hp)
    rw [btab_s, e.1, e.2.1, e.2.2, r13 q hq, r14 q hq, r15 q hq, if_neg ne, if_neg ne, if_neg ne]
    exact ⟨rfl, rfl, rfl⟩
/-- where the tabs are -/
theorem btab_spot {f : Nat} (hf : f < 23) {Z : Nat → Bool} (hz : Z f = true) : ∀ (t : List (Nat × Nat)) (st : Bool) (p m p' m' : Nat) (V : VW), Tb n c t st p m p' m' → m < 4096 → Tabs V Z → V 8 f = 2 → Msk V m → ∀ (i q kk : Nat), t[i]? = some (q, kk) → q < 12 ∧ btab f t V 13 q = f ∧ btab f t V 14 q = ((v_tc V f + i : Nat) : Int) ∧ btab f t V 15 q = if kk = 1 then 1 else 0
  | [], _, _, _, _, _, _, _, _, _, _, _, i, q, kk, h => by simp at h
  | (q0, k0) :: l, st, p, m, p', m', V, h, hm, tv, k2, ms, i, q, kk, hi => by
    obtain ⟨hq0, hb, _, _, p2, st', k, r⟩ := h
    obtain ⟨u13, u15⟩ := ms q0 hq0 hb
    obtain ⟨t1, t2, t3⟩ := tb2_ok tv hz hq0 hf k2 hm ms hb k0
    obtain ⟨r13, r14, r15, r12, rj⟩ := tb2_rows (V := V) hq0 hf k0 u15
    have k2' : tb2 f q0 k0 V 8 f = 2 := by rw [rj 8 (by decide) (by decide) (by decide) (by decide)]; exact k2
    cases i with
    | zero =>
      have e : (q0, k0) = (q, kk) := by simpa using hi
      obtain ⟨e1, e2⟩ := Prod.mk.inj e
      subst e1 e2
      have e := btab_keep hf hz l st' p2 (m &&& (4095 - 2 ^ q0)) p' m' (tb2 f q0 k0 V) r (m_lt hm) t1 k2' t3 q0 hq0 (by rw [r13 q0 hq0, if_pos rfl]; omega)
      rw [btab_s, e.1, e.2.1, e.2.2, r13 q0 hq0, r14 q0 hq0, r15 q0 hq0, if_pos rfl, if_pos rfl, if_pos rfl]
      exact ⟨hq0, rfl, rfl, rfl⟩
    | succ i =>
      have e := btab_spot hf hz l st' p2 (m &&& (4095 - 2 ^ q0)) p' m' (tb2 f q0 k0 V) r (m_lt hm) t1 k2' t3 i q kk (by simpa using hi)
      rw [btab_s]
      refine ⟨e.1, e.2.1, ?_, e.2.2.2⟩
      rw [e.2.2.1, t2]
      omega
theorem act_eq {f : Nat} (hf : f < 23) {Z : Nat → Bool} (hz : Z f = true) {t : List (Nat × Nat)} {p m p' m' : Nat} {V : VW} (h : Tb n c t false p m p' m') (hm : m < 4096) (tv : Tabs V Z) (k2 : V 8 f = 2) (ms : Msk V m) (h0 : v_tc V f = 0) (tv' : Tabs (btab f t V) Z) (k2' : btab f t V 8 f = 2) (hl : v_tc (btab f t V) f = t.length) : (if star t = -1 then v_sta (btab f t V) f 0 else star t) = acf (-1) t := by
  by_cases z : star t = -1
  · rw [if_pos z]
    have nu := tv'.nu hf k2'
    have sp := fun i q kk e => btab_spot hf hz t false p m p' m' V h hm tv k2 ms i q kk e
    have ok : ∀ (i q kk : Nat), t[i]? = some (q, kk) → v_ta (btab f t V) f i = q ∧ v_ok (btab f t V) f i = !decide (kk = 1) := fun i q kk e => by
      obtain ⟨a, b, e14, e15⟩ := sp i q kk e
      rw [h0, Nat.zero_add] at e14
      have ta : v_ta (btab f t V) f i = q := by rw [← e14]; exact v_ta_at nu a b
      refine ⟨ta, ?_⟩
      unfold v_ok
      rw [ta, decide_eq_true (by omega), Bool.true_and, v_hd_in a, e15]
      by_cases y : kk = 1
      · rw [if_pos y, decide_eq_true y]; rfl
      · rw [if_neg y, decide_eq_false y]; rfl
    have hi : ∀ i, t.length ≤ i → v_ok (btab f t V) f i = false := fun i hi => by
      cases q : v_ok (btab f t V) f i
      · rfl
      · obtain ⟨x, x1, x2, x3, x4, x5⟩ := v_ok_sp q
        have mm := (nu.1 x x1 (decide_eq_true x3)).2
        have : v_tc (btab f t V) f = cnt (fun p => decide (btab f t V 13 p = (f : Int))) 12 := rfl
        omega
    have lo : ∀ i, i < t.length → ∃ q kk, t[i]? = some (q, kk) := fun i hi => ⟨t[i].1, t[i].2, by rw [List.getElem?_eq_getElem hi]⟩
    unfold v_sta
    rcases acf_first t z with ⟨a, b⟩ | ⟨i0, q, kk, a, b, e, g⟩
    · rcases fnd_spec (fun i => v_ok (btab f t V) f i && decide ((cnt (v_ok (btab f t V) f) i : Int) = 0)) 12 with ⟨s1, -⟩ | ⟨i, s0, s1, s2, -⟩
      · rw [if_pos s1, a]
      · simp only [Bool.and_eq_true] at s2
        by_cases il : i < t.length
        · obtain ⟨q, kk, e⟩ := lo i il
          have := (ok i q kk e).2
          rw [b i q kk e, decide_eq_true rfl] at this
          rw [this] at s2
          exact absurd s2.1 (by decide)
        · rw [hi i (by omega)] at s2
          exact absurd s2.1 (by decide)
    · obtain ⟨o1, o2⟩ := ok i0 q kk a
      rw [decide_eq_false b] at o2
      have il : i0 < t.length := by
        refine Classical.byContradiction (fun y => ?_)
        rw [List.getElem?_eq_none (by omega)] at a
        cases a
      have tl := v_tc_rg (btab f t V) f
      have before : ∀ i, i < i0 → v_ok (btab f t V) f i = false := fun i hi0 => by
        obtain ⟨q', kk', e'⟩ := lo i (by omega)
        rw [(ok i q' kk' e').2, g i q' kk' hi0 e', decide_eq_true rfl]
        rfl
      have c0 : cnt (v_ok (btab f t V) f) i0 = 0 := cnt_zero.mpr before
      rcases fnd_spec (fun i => v_ok (btab f t V) f i && decide ((cnt (v_ok (btab f t V) f) i : Int) = 0)) 12 with ⟨-, s1⟩ | ⟨i, s0, s1, s2, -⟩
      · have := s1 i0 (by omega)
        rw [o2, c0] at this
        exact absurd this (by decide)
      · simp only [Bool.and_eq_true, decide_eq_true_eq] at s2
        have ge : i0 ≤ i := by
          refine Classical.byContradiction (fun y => ?_)
          rw [before i (by omega)] at s2
          exact absurd s2.1 (by decide)
        have le : i ≤ i0 := by
          refine Classical.byContradiction (fun y => ?_)
          have := cnt_pos (c := v_ok (btab f t V) f) (n := i) (i := i0) (by omega) (by rw [o2]; rfl)
          omega
        have ei : i = i0 := by omega
        rw [s1, if_neg (by omega), ei, o1, e]
  · rw [if_neg z]
    exact (acf_star t p m p' m' (-1) h z).symm
end RBD
end
section
/-! THE RELATION: read (9): the reference's stack when a tree is made -/
section RBE
variable {n : Nat} {c : Nat → Int32} {s : Sg} {p u D : Nat} {cn : Nat → Nat} {nd : Nat → Nat} {wt : Nat → Int}
def NS (s : Sg) (D : Nat) (nd : Nat → Nat) (wt : Nat → Int) : Prop := ∀ i, i < D → s.1 472 i = oI (nd i) ∧ s.1 474 i = oI (wt i)
def Kont1 (k f : Nat) (s : Sg) : Option (Int32 × Sg) := (fX9_ends_0 462 k s 1).bind fun r10 => fX9_goes_27 462 f r10.2 1 (b2i r10.1)
/-- what is left alone when a tree is made -/
def Fy1 (s s1 : Sg) : Prop := s1.2 = s.2 ∧ (∀ x, x ≠ 462 → x ≠ 463 → x ≠ 472 → x ≠ 473 → x ≠ 474 → s1.1 x = s.1 x) ∧ ∀ j, j < 15 ∨ 22 < j ∨ j = 17 ∨ j = 18 → s1.1 462 j = s.1 462 j
theorem Fy1.rf : Fy1 s s := ⟨rfl, fun _ _ _ _ _ _ => rfl, fun _ _ => rfl⟩
theorem Fy1.tr {s1 s2 : Sg} (h : Fy1 s s1) (h2 : Fy1 s1 s2) : Fy1 s s2 := ⟨h2.1.trans h.1, fun x a b d e g => (h2.2.1 x a b d e g).trans (h.2.1 x a b d e g), fun j a => (h2.2.2 j a).trans (h.2.2 j a)⟩
theorem Fy1.fk {s1 : Sg} (h : Fk s s1) : Fy1 s s1 := ⟨h.1, fun x a _ d e g => h.2.1 x a d e g, h.2.2⟩
theorem Fy1.ou {s1 : Sg} (o : Out s s1 463 463) : Fy1 s s1 := ⟨o.1, fun x _ b _ _ _ => o.2 x (by omega), fun j _ => by rw [o.2 462 (by omega)]⟩
theorem Fy1.fh {s1 : Sg} (h : Fh s s1) : Fy1 s s1 := ⟨h.1, fun x a b _ _ _ => h.2.1 x a b, fun j a => h.2.2 j (by omega) (by omega) (by omega)⟩
theorem MS.ou {s1 : Sg} (h : MS n c s p u D cn) (o : Out s s1 463 463) : MS n c s1 p u D cn := by
  have k : ∀ x, x ≠ 463 → s1.1 x = s.1 x := fun x hx => o.2 x (by omega)
  refine ⟨⟨by rw [k 462 (by omega)]; exact h.1.1, fun i hi => by rw [k 465 (by omega)]; exact h.1.2.1 i hi, by rw [k 462 (by omega)]; exact h.1.2.2⟩, by rw [k 462 (by omega)]; exact h.2.1, by rw [k 462 (by omega)]; exact h.2.2.1, by rw [k 462 (by omega)]; exact h.2.2.2.1, fun i hi => by rw [k 473 (by omega)]; exact h.2.2.2.2 i hi⟩
theorem m_join1 (h : MS n c s p u D cn) (hs : NS s D nd wt) (hD : D < 100) {g : Nat} (hg : g < 23) (e21 : s.1 462 21 = oI g) (x : Int32) (hc : ∀ i, i < D → cn i < 1000 ∧ nd i < 23) : ∃ s1, fX9_joins s 462 x 1 = some s1 ∧ Fy1 s s1 ∧ MS n c s1 p u D (bump cn D) ∧ NS s1 D nd wt ∧ s1.1 462 21 = oI g ∧ (D = 0 → s1 = s) ∧ (0 < D → mv (s1.1 463) = mu (mu (mu (mv (s.1 463)) 1 g (nd (D - 1))) 4 g (cn (D - 1))) 3 g x.toInt) := by
  have tg : (oI (g : Int)).toInt = g := j_oI (by omega) (by omega)
  by_cases z : D = 0
  · refine ⟨s, ?_, Fy1.rf, h.cg (fun i hi => absurd hi (by omega)), hs, e21, fun _ => rfl, fun y => absurd y (by omega)⟩
    unfold fX9_joins
    rw [h.2.2.1, z, if_pos (show nI 0 ≤ (0 : Int32) by decide)]
  · obtain ⟨c1, c2⟩ := hc (D - 1) (by omega)
    obtain ⟨n1, n2⟩ := hs (D - 1) (by omega)
    have c473 := h.2.2.2.2 (D - 1) (by omega)
    have ed := dm1 (D := D) (by omega) hD
    obtain ⟨w1, a1, a2, a3⟩ := m_l1 (σ := s) tg (by omega) (oI (nd (D - 1)))
    have m1 := h.ou a2
    have k1 : ∀ y, y ≠ 463 → w1.1 y = s.1 y := fun y hy => a2.2 y (by omega)
    obtain ⟨w2, b1, b2, b3⟩ := m_l4 (σ := w1) tg (by omega) (nI (cn (D - 1)))
    have m2 := m1.ou b2
    have k2 : ∀ y, y ≠ 463 → w2.1 y = s.1 y := fun y hy => (b2.2 y (by omega)).trans (k1 y hy)
    obtain ⟨w3, d1, d2, d3⟩ := m_l3 (σ := w2) tg (by omega) x
    have m3 := m2.ou d2
    have k3 : ∀ y, y ≠ 463 → w3.1 y = s.1 y := fun y hy => (d2.2 y (by omega)).trans (k2 y hy)
    obtain ⟨w4, hw4⟩ : ∃ w4 : Sg, w4 = su w3 473 (D - 1) (nI (cn (D - 1) + 1)) := ⟨_, rfl⟩
    have le : ¬ nI D ≤ (0 : Int32) := by rw [j_le, j_nI (by omega), jz0]; omega
    have ckd : ck (nI (D - 1)) 130 := j_ckn (by omega) (by decide)
    refine ⟨w4, ?_, ?_, ?_, fun i hi => ?_, ?_, fun y => absurd y z, fun _ => ?_⟩
    · unfold fX9_joins fX9_joins_61
      rw [h.2.2.1, if_neg le, if_neg (show ¬ ((1 : Int32) = 0) by decide), ed, if_pos ckd, j_cl _ (by omega), show (462 + 10 : Nat) = 472 from rfl, n1, e21, a1, j_b, m1.2.2.1, ed, if_pos ckd, j_cl _ (by omega), show (462 + 11 : Nat) = 473 from rfl, show w1.1 462 21 = oI g by rw [k1 462 (by omega)]; exact e21, show w1.1 473 (D - 1) = nI (cn (D - 1)) by rw [k1 473 (by omega)]; exact c473, b1, j_b, show w2.1 462 21 = oI g by rw [k2 462 (by omega)]; exact e21, d1, j_b, m3.2.2.1, ed, j_nm, if_pos ckd, if_pos ckd, j_cl _ (by omega), show w3.1 473 (D - 1) = nI (cn (D - 1)) by rw [k3 473 (by omega)]; exact c473, j_s, j_nm, hw4]
    · refine ((Fy1.ou a2).tr ((Fy1.ou b2).tr (Fy1.ou d2))).tr (Fy1.fk ?_)
      rw [hw4]
      exact Fk.ar (by omega)
    · refine ⟨m3.1.fm (by rw [hw4]; exact Fk.ar (by omega)) (by rw [hw4, su_ne (by omega)]; exact m3.1.2.2), by rw [hw4, su_ne (by omega)]; exact m3.2.1, by rw [hw4, su_ne (by omega)]; exact m3.2.2.1, by rw [hw4, su_ne (by omega)]; exact m3.2.2.2.1, fun i hi => ?_⟩
      unfold bump
      rw [hw4]
      by_cases y : i = D - 1
      · rw [su_at, if_pos ⟨rfl, y⟩, if_pos (by omega), y]
      · rw [su_at, if_neg (fun w => y w.2), if_neg (by omega)]
        exact m3.2.2.2.2 i hi
    · rw [hw4, su_ne (by omega), su_ne (by omega), k3 472 (by omega), k3 474 (by omega)]
      exact hs i hi
    · rw [hw4, su_ne (by omega), k3 462 (by omega)]
      exact e21
    · rw [hw4, su_ne (by omega), d3, b3, a3, j_oI (by omega) (by omega), j_nI (by omega)]
end RBE
end
section
/-! THE RELATION: read (10): a split is opened when it is made -/
section RBF
variable {n : Nat} {c : Nat → Int32} {s : Sg} {p u D : Nat} {cn : Nat → Nat} {nd : Nat → Nat} {wt : Nat → Int}
theorem m_open1 (T : Tt n c) (h : MS n c s p u D cn) (hs : NS s D nd wt) (hp : p < n) (hD : D < 100) {n0 : Nat} (h0 : n0 < 23) (hk : mv (s.1 463) 0 n0 = 0) (hl : ∀ k, k < n0 → mv (s.1 463) 0 k ≠ 0) (e40 : cdm n c (p + 1) = 40) : ∃ s5, (∀ s6, fX9_readsWeight s5 462 = some s6 → fX9_opens s 462 1 = some s6) ∧ Fy1 s s5 ∧ MS n c s5 (p + 2) u (D + 1) (fun i => if i = D then 0 else cn i) ∧ NS s5 (D + 1) (fun i => if i = D then n0 else nd i) (fun i => if i = D then (s.1 462 22).toInt else wt i) ∧ mv (s5.1 463) = mu (nn (mv (s.1 463)) n0 1) 2 n0 (if cdm n c p = 86 then 1 else 0) := by
  have n120 := T.1
  have t0 : (oI (n0 : Int)).toInt = n0 := j_oI (by omega) (by omega)
  obtain ⟨w2, hw2⟩ : ∃ w2 : Sg, w2 = su s 462 15 (nI (p + 1)) := ⟨_, rfl⟩
  have m2 : MS n c w2 (p + 1) u D cn := by rw [hw2]; exact h.at _
  have tk := (m_take m2.1 n120 (by omega) 40).1 m2.2.1 e40
  obtain ⟨w3, hw3⟩ : ∃ w3 : Sg, w3 = su w2 462 15 (nI (p + 1 + 1)) := ⟨_, rfl⟩
  rw [← hw3] at tk
  have m3 : MS n c w3 (p + 2) u D cn := by rw [hw3]; exact m2.at _
  have f23 : Fk s w3 := by rw [hw3, hw2]; exact (Fk.st (by omega)).tr (Fk.st (by omega))
  have g22 : w3.1 462 22 = s.1 462 22 := by rw [hw3, su_at, if_neg (by omega), hw2, su_at, if_neg (by omega)]
  have cell3 : ∀ x, x ≠ 462 → w3.1 x = s.1 x := fun x hx => by rw [hw3, su_ne hx, hw2, su_ne hx]
  obtain ⟨w4, hw4⟩ : ∃ w4 : Sg, w4 = su w3 474 D (s.1 462 22) := ⟨_, rfl⟩
  obtain ⟨w5, hw5⟩ : ∃ w5 : Sg, w5 = su w4 473 D 0 := ⟨_, rfl⟩
  have cell5 : ∀ x, x ≠ 473 → x ≠ 474 → w5.1 x = w3.1 x := fun x a b => by rw [hw5, su_ne a, hw4, su_ne b]
  have e4 : w4.1 462 19 = nI D := by rw [hw4, su_ne (by omega)]; exact m3.2.2.1
  have e5 : w5.1 462 19 = nI D := by rw [cell5 462 (by omega) (by omega)]; exact m3.2.2.1
  have r63 : w5.1 463 = s.1 463 := by rw [cell5 463 (by omega) (by omega), cell3 463 (by omega)]
  obtain ⟨w6, a1, a2, a3⟩ := m_newNode (σ := w5) (n0 := n0) (by omega) (by rw [r63]; exact hk) (by rw [r63]; exact hl) 1
  have c6 : ∀ x, x ≠ 463 → w6.1 x = w5.1 x := fun x hx => a2.2 x (by omega)
  obtain ⟨w7, hw7⟩ : ∃ w7 : Sg, w7 = su w6 472 D (oI n0) := ⟨_, rfl⟩
  have e7 : w7.1 462 19 = nI D := by rw [hw7, su_ne (by omega), c6 462 (by omega)]; exact e5
  have s7 : w7.1 472 D = oI n0 := by rw [hw7, su_at, if_pos ⟨rfl, rfl⟩]
  obtain ⟨w8, b1, b2, b3⟩ := m_l2 (σ := w7) t0 (by omega) (if cdm n c p = 86 then 1 else 0)
  have c8 : ∀ x, x ≠ 463 → w8.1 x = w7.1 x := fun x hx => b2.2 x (by omega)
  have e8 : w8.1 462 19 = nI D := by rw [c8 462 (by omega)]; exact e7
  obtain ⟨s5, hs5⟩ : ∃ s5 : Sg, s5 = su w8 462 19 (nI (D + 1)) := ⟨_, rfl⟩
  have ckD : ck (nI D) 130 := j_ckn (by omega) (by decide)
  have core : ∀ s0 : Int32, s0 = (if cdm n c p = 86 then 1 else 0) → ∀ s6, fX9_readsWeight s5 462 = some s6 → fX9_opens_14 462 s 1 s0 = some s6 := fun s0 hs0 s6 h6 => by
    rw [← hs0] at b1
    unfold fX9_opens_14 fX9_opens_89
    rw [h.1.2.2, j_s, j_nm, ← hw2, tk, j_b]
    show (if ck (w3.1 462 19) 130 then nm (su w3 (462 + 12) (w3.1 462 19).toNatClampNeg (w3.1 462 22)) _ else none) = _
    rw [m3.2.2.1, if_pos ckD, j_cl _ (by omega), show (462 + 12 : Nat) = 474 from rfl, g22, ← hw4, j_nm, e4, if_pos ckD, j_cl _ (by omega), show (462 + 11 : Nat) = 473 from rfl, ← hw5, j_nm, if_neg (show ¬ ((1 : Int32) = 0) by decide), a1, j_b, e5, if_pos ckD, j_cl _ (by omega), show (462 + 10 : Nat) = 472 from rfl]
    dsimp only
    rw [← hw7, j_nm, e7, if_pos ckD, j_cl _ (by omega), s7, b1, j_b, e8, j_s, j_nm, ← hs5, h6, j_b]
  have k62 : ∀ j, j ≠ 19 → s5.1 462 j = w3.1 462 j := fun j hj => by
    rw [hs5, su_at, if_neg (fun w => hj w.2), c8 462 (by omega), hw7, su_ne (by omega), c6 462 (by omega), cell5 462 (by omega) (by omega)]
  have cellx : ∀ x, x ≠ 462 → x ≠ 463 → x ≠ 472 → x ≠ 473 → x ≠ 474 → s5.1 x = s.1 x := fun x q1 q2 q3 q4 q5 => by
    rw [hs5, su_ne q1, c8 x q2, hw7, su_ne q3, c6 x q2, cell5 x q4 q5, cell3 x q1]
  refine ⟨s5, fun s6 h6 => ?_, ⟨?_, cellx, fun j hj => ?_⟩, ⟨⟨?_, fun i hi => ?_, ?_⟩, ?_, ?_, ?_, fun i hi => ?_⟩, fun i hi => ?_, ?_⟩
  · unfold fX9_opens
    rw [m_next h.1 n120 (by omega), j_b]
    by_cases z : cdm n c p = 86
    · rw [if_pos z]
      exact core 1 (by rw [if_pos z]) s6 h6
    · rw [if_neg z]
      exact core 0 (by rw [if_neg z]) s6 h6
  · rw [hs5]
    show w8.2 = s.2
    rw [b2.1, hw7]
    show w6.2 = s.2
    rw [a2.1, hw5, hw4]
    exact f23.1
  · rw [k62 j (by omega)]
    exact f23.2.2 j hj
  · rw [k62 5 (by omega)]; exact m3.1.1
  · rw [cellx 465 (by omega) (by omega) (by omega) (by omega) (by omega)]; exact h.1.2.1 i hi
  · rw [k62 15 (by omega)]; exact m3.1.2.2
  · rw [k62 16 (by omega)]; exact m3.2.1
  · rw [hs5, su_at, if_pos ⟨rfl, rfl⟩]
  · rw [k62 20 (by omega)]; exact m3.2.2.2.1
  · show s5.1 473 i = nI (if i = D then 0 else cn i)
    rw [hs5, su_ne (by omega), c8 473 (by omega), hw7, su_ne (by omega), c6 473 (by omega), hw5, su_at]
    by_cases y : i = D
    · rw [if_pos ⟨rfl, y⟩, if_pos y]; rfl
    · rw [if_neg (fun w => y w.2), if_neg y, hw4, su_ne (by omega)]
      exact m3.2.2.2.2 i (by omega)
  · show s5.1 472 i = oI ((if i = D then n0 else nd i : Nat) : Int) ∧ s5.1 474 i = oI (if i = D then (s.1 462 22).toInt else wt i)
    have x472 : s5.1 472 i = if i = D then oI (n0 : Int) else s.1 472 i := by
      rw [hs5, su_ne (by omega), c8 472 (by omega), hw7, su_at]
      by_cases y : i = D
      · rw [if_pos (show 472 = 472 ∧ i = D from ⟨rfl, y⟩), if_pos y]
      · rw [if_neg (show ¬ (472 = 472 ∧ i = D) from fun w => y w.2), if_neg y, c6 472 (by omega), cell5 472 (by omega) (by omega), cell3 472 (by omega)]
    have x474 : s5.1 474 i = if i = D then s.1 462 22 else s.1 474 i := by
      rw [hs5, su_ne (by omega), c8 474 (by omega), hw7, su_ne (show (474 : Nat) ≠ 472 by decide), c6 474 (by omega), hw5, su_ne (show (474 : Nat) ≠ 473 by decide), hw4, su_at]
      by_cases y : i = D
      · rw [if_pos (show 474 = 474 ∧ i = D from ⟨rfl, y⟩), if_pos y]
      · rw [if_neg (show ¬ (474 = 474 ∧ i = D) from fun w => y w.2), if_neg y, cell3 474 (by omega)]
    rw [x472, x474]
    by_cases y : i = D
    · rw [if_pos y, if_pos y, if_pos y, if_pos y, j_oIt]
      exact ⟨rfl, rfl⟩
    · rw [if_neg y, if_neg y, if_neg y, if_neg y]
      exact hs i (by omega)
  · rw [hs5, su_ne (by omega), b3, hw7, su_ne (by omega), a3, r63]
    have : (if cdm n c p = 86 then (1 : Int32) else 0).toInt = if cdm n c p = 86 then 1 else 0 := by
      by_cases z : cdm n c p = 86
      · rw [if_pos z, if_pos z]; rfl
      · rw [if_neg z, if_neg z]; rfl
    rw [this]
    rfl
end RBF
end
section
/-! THE RELATION: read (11): behind a tree that is made -/
section RBG
variable {n : Nat} {c : Nat → Int32} {s : Sg} {p u D : Nat} {cn : Nat → Nat} {nd : Nat → Nat} {wt : Nat → Int}
theorem k1_close (T : Tt n c) (h : MS n c s p u D cn) (hs : NS s D nd wt) (hp : p ≤ n) (hD : 0 < D) (h99 : D < 100) (e : cdm n c p = 41) (c2 : 2 ≤ cn (D - 1)) (hc : ∀ i, i < D → cn i < 1000 ∧ nd i < 23) (k f : Nat) : ∃ s4 s1, Kont1 (k + 1) f s = Kont1 k f s1 ∧ Fy1 s s1 ∧ MS n c s1 (p + 1) u (D - 1) (bump cn (D - 1)) ∧ NS s1 (D - 1) nd wt ∧ s1.1 462 21 = oI (nd (D - 1)) ∧ s4.1 463 = s.1 463 ∧ (D - 1 = 0 → s1 = s4) ∧ (0 < D - 1 → mv (s1.1 463) = mu (mu (mu (mv (s.1 463)) 1 (nd (D - 1)) (nd (D - 1 - 1))) 4 (nd (D - 1)) (cn (D - 1 - 1))) 3 (nd (D - 1)) (oI (wt (D - 1))).toInt) := by
  obtain ⟨n1, n2⟩ := hs (D - 1) (by omega)
  obtain ⟨q1, q2⟩ := hc (D - 1) (by omega)
  obtain ⟨w2, hw2⟩ : ∃ w2 : Sg, w2 = su s 462 15 (nI (p + 1)) := ⟨_, rfl⟩
  have m2 : MS n c w2 (p + 1) u D cn := by rw [hw2]; exact h.at _
  obtain ⟨w3, hw3⟩ : ∃ w3 : Sg, w3 = su w2 462 19 (nI (D - 1)) := ⟨_, rfl⟩
  have e3 : w3.1 462 19 = nI (D - 1) := by rw [hw3, su_at, if_pos ⟨rfl, rfl⟩]
  obtain ⟨w4, hw4⟩ : ∃ w4 : Sg, w4 = su w3 462 21 (oI (nd (D - 1))) := ⟨_, rfl⟩
  have cell : ∀ x, x ≠ 462 → w4.1 x = s.1 x := fun x hx => by rw [hw4, su_ne hx, hw3, su_ne hx, hw2, su_ne hx]
  have e4 : w4.1 462 19 = nI (D - 1) := by rw [hw4, su_at, if_neg (by omega)]; exact e3
  have f4 : Fk w2 w4 := by rw [hw4, hw3]; exact (Fk.st (by omega)).tr (Fk.st (by omega))
  have m4 : MS n c w4 (p + 1) u (D - 1) cn := ⟨m2.1.fm f4 (by rw [hw4, su_at, if_neg (by omega), hw3, su_at, if_neg (by omega)]; exact m2.1.2.2), by rw [hw4, su_at, if_neg (by omega), hw3, su_at, if_neg (by omega)]; exact m2.2.1, e4, by rw [hw4, su_at, if_neg (by omega), hw3, su_at, if_neg (by omega)]; exact m2.2.2.2.1, fun i hi => by rw [cell 473 (by omega)]; exact h.2.2.2.2 i (by omega)⟩
  have s4 : NS w4 (D - 1) nd wt := fun i hi => by rw [cell 472 (by omega), cell 474 (by omega)]; exact hs i (by omega)
  have r3 : w3.1 472 (D - 1) = oI (nd (D - 1)) := by rw [hw3, su_ne (by omega), hw2, su_ne (by omega)]; exact n1
  have r4 : w4.1 474 (D - 1) = oI (wt (D - 1)) := by rw [cell 474 (by omega)]; exact n2
  obtain ⟨s1, a1, a2, a3, a4, a5, a6, a7⟩ := m_join1 m4 s4 (by omega) q2 (by rw [hw4, su_at, if_pos ⟨rfl, rfl⟩]) (oI (wt (D - 1))) (fun i hi => hc i (by omega))
  refine ⟨w4, s1, ?_, (Fy1.fk (Fk.tr (by rw [hw2]; exact Fk.st (by omega)) f4)).tr a2, a3, a4, a5, cell 463 (by omega), a6, fun y => ?_⟩
  · unfold Kont1
    rw [fX9_ends_0, h.2.2.1, if_neg (by rw [j_le, j_nI (by omega), jz0]; omega), if_pos h.2.1, m_next h.1 T.1 hp, j_b, if_pos e, dm1 hD h99, if_pos (j_ckn (by omega) (by decide)), j_cl _ (by omega), show (462 + 11 : Nat) = 473 from rfl, h.2.2.2.2 (D - 1) (by omega), if_neg (by rw [j_le, j_nI (by omega), jz1]; omega), h.1.2.2, j_s, ← hw2, j_nm, m2.2.2.1, dm1 hD h99, ← hw3, j_nm, e3, if_pos (j_ckn (by omega) (by decide)), j_cl _ (by omega), show (462 + 10 : Nat) = 472 from rfl, r3, ← hw4, j_nm, e4, if_pos (j_ckn (by omega) (by decide)), j_cl _ (by omega), show (462 + 12 : Nat) = 474 from rfl, r4, a1, j_b]
  · rw [a7 y, cell 463 (by omega)]
theorem k1_comma (T : Tt n c) (h : MS n c s p u D cn) (hp : p ≤ n) (hD : 0 < D) (h99 : D < 100) (e : cdm n c p = 44) (k f : Nat) {s7 : Sg} (h7 : fX9_readsWeight (su s 462 15 (nI (p + 1))) 462 = some s7) (w : s7.1 462 16 = -1) : Kont1 (k + 1) f s = fX9_goes_27 462 f s7 1 1 := by
  have m2 : MS n c (su s 462 15 (nI (p + 1))) (p + 1) u D cn := h.at _
  unfold Kont1
  rw [fX9_ends_0, h.2.2.1, if_neg (by rw [j_le, j_nI (by omega), jz0]; omega), if_pos h.2.1, m_next h.1 T.1 hp, j_b, if_neg (by rw [e]; decide)]
  unfold fX9_ends_89 fX9_ends_126
  rw [h.2.2.1, if_neg (by rw [j_eq, j_nI (by omega), jz0]; omega), if_pos h.2.1, (m_take h.1 T.1 hp 44).1 h.2.1 e, j_b]
  dsimp only
  rw [m2.2.1, if_pos rfl, h7, j_b, if_pos w, j_b]
  rfl
theorem k1_root (h : MS n c s p u 0 cn) (hn : n ≤ 120) (k f : Nat) (e : p = n) : Kont1 (k + 1) (f + 1) s = some (-1, s) := by
  unfold Kont1
  rw [fX9_ends_0, h.2.2.1, if_pos (show nI 0 ≤ (0 : Int32) by decide), fX9_ends_89, h.2.2.1, if_pos (show nI 0 = (0 : Int32) from rfl), j_b]
  dsimp only
  rw [show b2i false = 0 from rfl, fX9_goes_27, if_pos rfl]
  unfold fX9_goes_96 fX9_goes_123
  rw [if_pos h.2.1, h.1.1, h.1.2.2, if_pos (by rw [j_le, j_nI (by omega), j_nI (by omega)]; omega), h.2.1]
end RBG
end
section
/-! THE RELATION: read (12): the rows while a tree is made -/
section RBH
/-- as VM, but the parents, weights and places of open nodes and the main window's root are not told -/
def BMr (U V : VW) (O : Nat → Bool) : Prop :=
  (∀ n, n < 23 → (V 8 n = 3 → U 0 n = 0) ∧ (V 8 n = 2 → U 0 n = 2) ∧ (V 8 n ≤ 1 → U 0 n = 1 ∧ U 2 n = V 8 n)) ∧
  U 0 23 = 0 ∧
  (∀ n, n < 23 → V 8 n ≠ 3 → O n = false → U 1 n = V 9 n) ∧
  (∀ n, n < 23 → V 9 n ≠ -1 → O n = false → U 3 n = V 11 n ∧ U 4 n = V 10 n) ∧
  (∀ n, n < 23 → V 8 n = 2 → U 5 n = V 12 n) ∧
  PR U V ∧
  (∀ w, w < 5 → U 12 w = (if w = 0 ∨ V 5 w ≠ -1 then 1 else 0) ∧ (w ≠ 0 → U 17 w = V 5 w) ∧ (w = 0 ∨ V 5 w ≠ -1 → U 13 w = V 1 w ∧ U 14 w = V 2 w ∧ U 15 w = V 3 w ∧ U 16 w = V 4 w)) ∧
  U 18 0 = V 6 1 ∧ (∀ k : Nat, (k : Int) < V 6 1 → U 19 k = V 7 k) ∧ ∀ n, n < 23 → V 8 n ≤ 1 → U 5 n = -1
theorem VM.bm {U V : VW} (h : VM U V (fun _ => false)) (O : Nat → Bool) : BMr U V O :=
  ⟨h.1, h.l, fun n hn q _ => h.pa hn q, fun n hn q _ => ⟨h.we hn q, h.pl hn q⟩, fun n hn q => h.ac hn q rfl, fun p hp => ⟨h.gr hp, h.sp hp, h.hi hp⟩, fun w hw => ⟨h.ex hw, fun _ => h.ro hw, h.geo hw⟩, h.fc, fun k q => h.fi q, fun n hn q => h.a5 hn q⟩
theorem BMr.vm {U V : VW} (h : BMr U V (fun _ => false)) (e : U 17 0 = V 5 0) : VM U V (fun _ => false) := by
  obtain ⟨h1, h2, h3, h4, h5, h6, h7, h8, h9, h10⟩ := h
  refine ⟨h1, h2, fun n hn q => h3 n hn q rfl, fun n hn q => h4 n hn q rfl, fun n hn q _ => h5 n hn q, h6, fun w hw => ⟨(h7 w hw).1, ?_, (h7 w hw).2.2⟩, h8, h9, h10⟩
  by_cases z : w = 0
  · rw [z]
    exact e
  · exact (h7 w hw).2.1 z
/-- which nodes are free tells the same in both -/
theorem BMr.k0 {U V : VW} {O : Nat → Bool} (h : BMr U V O) {n : Nat} (hn : n < 23) (hk : 0 ≤ V 8 n ∧ V 8 n ≤ 3) : U 0 n = 0 ↔ V 8 n = 3 := by
  obtain ⟨a, b, c⟩ := h.1 n hn
  refine ⟨fun q => ?_, a⟩
  by_cases x : V 8 n = 3
  · exact x
  · by_cases y : V 8 n = 2
    · have := b y
      omega
    · have := (c (by omega)).1
      omega
end RBH
end
section
/-! THE RELATION: read (13): a new node, both sides -/
section RBI
variable {V V1 U U1 : VW} {d : Nat → Nat} {wn : Nat → Int} {X : Nat → Bool}
def AT (V V1 : VW) (f : Nat) (k : Int) : Prop := (∀ i, i < 23 → V1 8 i = if i = f then k else V 8 i) ∧ (∀ i, i < 23 → i ≠ f → V1 9 i = V 9 i ∧ V1 10 i = V 10 i ∧ V1 11 i = V 11 i) ∧ (∀ w, w < 5 → w ≠ 0 → V1 5 w = V 5 w) ∧ ∀ j, j ≠ 5 → j ≠ 8 → j ≠ 9 → j ≠ 10 → j ≠ 11 → V1 j = V j
theorem at_in (t : Tree V d wn X) {f s : Nat} (fm : v_mn V = f) (hf : f < 23) (hk : V 8 f = 3) (hs : s < 23) (hs1 : V 8 s ≤ 1) (k w : Int) : AT V (att false V k s w) f k := by
  obtain ⟨r8, r9, r10, r11, rj⟩ := att_in t fm hf hk hs hs1 k w
  exact ⟨r8, fun i hi ne => ⟨by rw [r9 i hi, if_neg ne], by rw [r10 i hi, if_neg ne], by rw [r11 i hi, if_neg ne]⟩, fun w _ _ => by rw [rj 5 (by decide) (by decide) (by decide) (by decide)], fun j _ h8 h9 h10 h11 => rj j h8 h9 h10 h11⟩
theorem at_rt {f : Nat} (fm : v_mn V = f) (hf : f < 23) (k sp w : Int) : AT V (att true V k sp w) f k := by
  obtain ⟨r8, r5, rj⟩ := att_rt fm hf k sp w
  exact ⟨r8, fun i _ _ => ⟨by rw [rj 9 (by decide) (by decide)], by rw [rj 10 (by decide) (by decide)], by rw [rj 11 (by decide) (by decide)]⟩, fun w hw w0 => by rw [r5 w hw, if_neg w0], fun j h5 h8 _ _ _ => rj j h8 h5⟩
/-- a split is opened -/
theorem BMr.opn {O : Nat → Bool} (h : BMr U V O) {f : Nat} (hf : f < 23) {k : Int} (k1 : 0 ≤ k ∧ k ≤ 1) (a : AT V V1 f k) (r9 : V 9 f = -1) (u0 : ∀ i, U1 0 i = if i = f then 1 else U 0 i) (u2 : ∀ i, U1 2 i = if i = f then k else U 2 i) (u5 : ∀ i, U1 5 i = if i = f then -1 else U 5 i) (un : ∀ i, i ≠ f → U1 1 i = U 1 i ∧ U1 3 i = U 3 i ∧ U1 4 i = U 4 i) (uj : ∀ j, 6 ≤ j → U1 j = U j) : BMr U1 V1 (fun n => O n || n == f) := by
  obtain ⟨h1, h2, h3, h4, h5, h6, h7, h8, h9, h10⟩ := h
  obtain ⟨a8, a9, a5, aj⟩ := a
  have j : ∀ j, j ≠ 5 → j ≠ 8 → j ≠ 9 → j ≠ 10 → j ≠ 11 → V1 j = V j := aj
  refine ⟨fun n hn => ?_, ?_, fun n hn q o => ?_, fun n hn q o => ?_, fun n hn q => ?_, fun p hp => ?_, fun w hw => ⟨?_, fun w0 => ?_, fun q => ?_⟩, ?_, fun k hk => ?_, fun n hn q => ?_⟩
  · rw [a8 n hn, u0 n, u2 n]
    by_cases z : n = f
    · rw [if_pos z, if_pos z, if_pos z]
      exact ⟨fun y => by omega, fun y => by omega, fun _ => ⟨rfl, rfl⟩⟩
    · rw [if_neg z, if_neg z, if_neg z]
      exact h1 n hn
  · rw [u0 23, if_neg (by omega)]
    exact h2
  · have z : n ≠ f := fun z => by simp [z] at o
    have o' : O n = false := by simpa [z] using o
    rw [a8 n hn, if_neg z] at q
    rw [(un n z).1, (a9 n hn z).1]
    exact h3 n hn q o'
  · have z : n ≠ f := fun z => by simp [z] at o
    have o' : O n = false := by simpa [z] using o
    rw [(a9 n hn z).1] at q
    rw [(un n z).2.1, (un n z).2.2, (a9 n hn z).2.1, (a9 n hn z).2.2]
    exact h4 n hn q o'
  · have z : n ≠ f := fun z => by rw [a8 n hn, if_pos z] at q; omega
    rw [a8 n hn, if_neg z] at q
    rw [u5 n, if_neg z, j 12 (by decide) (by decide) (by decide) (by decide) (by decide)]
    exact h5 n hn q
  · rw [uj 9 (by decide), uj 10 (by decide), uj 11 (by decide), j 13 (by decide) (by decide) (by decide) (by decide) (by decide), j 14 (by decide) (by decide) (by decide) (by decide) (by decide), j 15 (by decide) (by decide) (by decide) (by decide) (by decide)]
    exact h6 p hp
  · rw [uj 12 (by decide), (h7 w hw).1]
    by_cases w0 : w = 0
    · rw [if_pos (Or.inl w0), if_pos (Or.inl w0)]
    · rw [a5 w hw w0]
  · rw [uj 17 (by decide), a5 w hw w0]
    exact (h7 w hw).2.1 w0
  · rw [uj 13 (by decide), uj 14 (by decide), uj 15 (by decide), uj 16 (by decide), j 1 (by decide) (by decide) (by decide) (by decide) (by decide), j 2 (by decide) (by decide) (by decide) (by decide) (by decide), j 3 (by decide) (by decide) (by decide) (by decide) (by decide), j 4 (by decide) (by decide) (by decide) (by decide) (by decide)]
    refine (h7 w hw).2.2 ?_
    by_cases w0 : w = 0
    · exact Or.inl w0
    · rw [a5 w hw w0] at q
      exact q
  · rw [uj 18 (by decide), j 6 (by decide) (by decide) (by decide) (by decide) (by decide)]
    exact h8
  · rw [j 6 (by decide) (by decide) (by decide) (by decide) (by decide)] at hk
    rw [uj 19 (by decide), j 7 (by decide) (by decide) (by decide) (by decide) (by decide)]
    exact h9 k hk
  · rw [u5 n]
    by_cases z : n = f
    · rw [if_pos z]
    · rw [a8 n hn, if_neg z] at q
      rw [if_neg z]
      exact h10 n hn q
end RBI
end
section
/-! THE RELATION: read (14): a tree takes its place, both sides -/
section RBJ
variable {U V : VW} {O : Nat → Bool}
theorem BMr.jn (h : BMr U V O) {g : Nat} {a b w : Int} (e9 : V 9 g = a) (e10 : V 10 g = b) (e11 : V 11 g = w) : BMr (mu (mu (mu U 1 g a) 4 g b) 3 g w) V (fun n => O n && n != g) := by
  obtain ⟨h1, h2, h3, h4, h5, h6, h7, h8, h9, h10⟩ := h
  have r : ∀ j, j ≠ 1 → j ≠ 3 → j ≠ 4 → mu (mu (mu U 1 g a) 4 g b) 3 g w j = U j := fun j q1 q3 q4 => by rw [mu_ne q3, mu_ne q4, mu_ne q1]
  have r1 : ∀ i, mu (mu (mu U 1 g a) 4 g b) 3 g w 1 i = if i = g then a else U 1 i := fun i => by rw [mu_ne (by decide), mu_ne (by decide), mu_at]
  have r3 : ∀ i, mu (mu (mu U 1 g a) 4 g b) 3 g w 3 i = if i = g then w else U 3 i := fun i => by rw [mu_at, mu_ne (by decide), mu_ne (by decide)]
  have r4 : ∀ i, mu (mu (mu U 1 g a) 4 g b) 3 g w 4 i = if i = g then b else U 4 i := fun i => by rw [mu_ne (by decide), mu_at, mu_ne (by decide)]
  unfold BMr PR
  rw [r 0 (by decide) (by decide) (by decide), r 2 (by decide) (by decide) (by decide), r 5 (by decide) (by decide) (by decide), r 9 (by decide) (by decide) (by decide), r 10 (by decide) (by decide) (by decide), r 11 (by decide) (by decide) (by decide), r 12 (by decide) (by decide) (by decide), r 13 (by decide) (by decide) (by decide), r 14 (by decide) (by decide) (by decide), r 15 (by decide) (by decide) (by decide), r 16 (by decide) (by decide) (by decide), r 17 (by decide) (by decide) (by decide), r 18 (by decide) (by decide) (by decide), r 19 (by decide) (by decide) (by decide)]
  refine ⟨h1, h2, fun n hn q o => ?_, fun n hn q o => ?_, h5, h6, h7, h8, h9, h10⟩
  · rw [r1 n]
    by_cases z : n = g
    · rw [if_pos z, z, e9]
    · rw [if_neg z]
      exact h3 n hn q (by simpa [z] using o)
  · rw [r3 n, r4 n]
    by_cases z : n = g
    · rw [if_pos z, if_pos z, z, e10, e11]
      exact ⟨rfl, rfl⟩
    · rw [if_neg z, if_neg z]
      exact h4 n hn q (by simpa [z] using o)
/-- a root has no place to take -/
theorem BMr.rt (h : BMr U V O) {g : Nat} (e9 : V 9 g = -1) (e1 : U 1 g = -1) : BMr U V (fun n => O n && n != g) := by
  obtain ⟨h1, h2, h3, h4, h5, h6, h7, h8, h9, h10⟩ := h
  refine ⟨h1, h2, fun n hn q o => ?_, fun n hn q o => ?_, h5, h6, h7, h8, h9, h10⟩
  · by_cases z : n = g
    · rw [z, e1, e9]
    · exact h3 n hn q (by simpa [z] using o)
  · by_cases z : n = g
    · rw [z, e9] at q
      exact absurd rfl q
    · exact h4 n hn q (by simpa [z] using o)
theorem BMr.oc {O' : Nat → Bool} (h : BMr U V O) (e : ∀ n, n < 23 → O' n = O n) : BMr U V O' := by
  obtain ⟨h1, h2, h3, h4, h5, h6, h7, h8, h9, h10⟩ := h
  exact ⟨h1, h2, fun n hn q o => h3 n hn q (by rw [← e n hn]; exact o), fun n hn q o => h4 n hn q (by rw [← e n hn]; exact o), h5, h6, h7, h8, h9, h10⟩
end RBJ
end
section
/-! THE RELATION: read (15): a group is made, both sides -/
section RBK
variable {V V1 B U U1 U2 : VW}
theorem BMr.grp {O : Nat → Bool} (h : BMr U V O) {f : Nat} (hf : f < 23) (a : AT V V1 f 2) (u0 : ∀ i, U1 0 i = if i = f then 2 else U 0 i) (un : ∀ i, i ≠ f → U1 1 i = U 1 i ∧ U1 2 i = U 2 i ∧ U1 3 i = U 3 i ∧ U1 4 i = U 4 i ∧ U1 5 i = U 5 i) (uj : ∀ j, 12 ≤ j → U1 j = U j) {act : Int} (p2 : PR U2 B) (u5 : ∀ i, U2 5 i = if i = f then act else U1 5 i) (uk : ∀ k, k ≠ 5 → k ≠ 9 → k ≠ 10 → k ≠ 11 → U2 k = U1 k) (b : ∀ k, k ≠ 12 → k ≠ 13 → k ≠ 14 → k ≠ 15 → B k = V1 k) (b12 : ∀ i, i < 23 → i ≠ f → B 12 i = V1 12 i) : BMr U2 (up B 12 f act) (fun n => O n || n == f) := by
  obtain ⟨h1, h2, h3, h4, h5, h6, h7, h8, h9, h10⟩ := h
  obtain ⟨a8, a9, a5, aj⟩ := a
  have e : ∀ j, j ≠ 12 → up B 12 f act j = B j := fun j hj => up_ne hj
  have e8 : up B 12 f act 8 = V1 8 := (e 8 (by decide)).trans (b 8 (by decide) (by decide) (by decide) (by decide))
  have e9 : up B 12 f act 9 = V1 9 := (e 9 (by decide)).trans (b 9 (by decide) (by decide) (by decide) (by decide))
  have e10 : up B 12 f act 10 = V1 10 := (e 10 (by decide)).trans (b 10 (by decide) (by decide) (by decide) (by decide))
  have e11 : up B 12 f act 11 = V1 11 := (e 11 (by decide)).trans (b 11 (by decide) (by decide) (by decide) (by decide))
  have e5 : up B 12 f act 5 = V1 5 := (e 5 (by decide)).trans (b 5 (by decide) (by decide) (by decide) (by decide))
  have ej : ∀ j, j ≠ 5 → j < 8 → up B 12 f act j = V j := fun j q1 q2 => (e j (by omega)).trans ((b j (by omega) (by omega) (by omega) (by omega)).trans (aj j q1 (by omega) (by omega) (by omega) (by omega)))
  have nf : ∀ {n : Nat}, (O n || n == f) = false → n ≠ f ∧ O n = false := fun {n} o => by
    have z : n ≠ f := fun z => by simp [z] at o
    exact ⟨z, by simpa [z] using o⟩
  unfold BMr PR
  rw [e8, e9, e10, e11, e5, e 13 (by decide), e 14 (by decide), e 15 (by decide), ej 1 (by decide) (by decide), ej 2 (by decide) (by decide), ej 3 (by decide) (by decide), ej 4 (by decide) (by decide), ej 6 (by decide) (by decide), ej 7 (by decide) (by decide)]
  rw [uk 0 (by decide) (by decide) (by decide) (by decide), uk 1 (by decide) (by decide) (by decide) (by decide), uk 2 (by decide) (by decide) (by decide) (by decide), uk 3 (by decide) (by decide) (by decide) (by decide), uk 4 (by decide) (by decide) (by decide) (by decide), uk 12 (by decide) (by decide) (by decide) (by decide), uk 13 (by decide) (by decide) (by decide) (by decide), uk 14 (by decide) (by decide) (by decide) (by decide), uk 15 (by decide) (by decide) (by decide) (by decide), uk 16 (by decide) (by decide) (by decide) (by decide), uk 17 (by decide) (by decide) (by decide) (by decide), uk 18 (by decide) (by decide) (by decide) (by decide), uk 19 (by decide) (by decide) (by decide) (by decide), uj 12 (by decide), uj 13 (by decide), uj 14 (by decide), uj 15 (by decide), uj 16 (by decide), uj 17 (by decide), uj 18 (by decide), uj 19 (by decide)]
  refine ⟨fun n hn => ?_, ?_, fun n hn q o => ?_, fun n hn q o => ?_, fun n hn q => ?_, p2, fun w hw => ⟨?_, fun w0 => ?_, fun q => ?_⟩, h8, h9, fun n hn q => ?_⟩
  · rw [a8 n hn, u0 n]
    by_cases z : n = f
    · rw [if_pos z, if_pos z]
      exact ⟨fun y => by omega, fun _ => rfl, fun y => by omega⟩
    · rw [if_neg z, if_neg z, (un n z).2.1]
      exact h1 n hn
  · rw [u0 23, if_neg (by omega)]
    exact h2
  · obtain ⟨z, o'⟩ := nf o
    rw [a8 n hn, if_neg z] at q
    rw [(un n z).1, (a9 n hn z).1]
    exact h3 n hn q o'
  · obtain ⟨z, o'⟩ := nf o
    rw [(a9 n hn z).1] at q
    rw [(un n z).2.2.1, (un n z).2.2.2.1, (a9 n hn z).2.1, (a9 n hn z).2.2]
    exact h4 n hn q o'
  · rw [a8 n hn] at q
    rw [u5 n, up12 hf]
    by_cases z : n = f
    · rw [if_pos z, if_pos z]
    · rw [if_neg z] at q
      rw [if_neg z, if_neg z, (un n z).2.2.2.2, b12 n hn z, aj 12 (by decide) (by decide) (by decide) (by decide) (by decide)]
      exact h5 n hn q
  · rw [(h7 w hw).1]
    by_cases w0 : w = 0
    · rw [if_pos (Or.inl w0), if_pos (Or.inl w0)]
    · rw [a5 w hw w0]
  · rw [a5 w hw w0]
    exact (h7 w hw).2.1 w0
  · refine (h7 w hw).2.2 ?_
    by_cases w0 : w = 0
    · exact Or.inl w0
    · rw [a5 w hw w0] at q
      exact q
  · rw [a8 n hn] at q
    have z : n ≠ f := fun z => by rw [if_pos z] at q; omega
    rw [if_neg z] at q
    rw [u5 n, if_neg z, (un n z).2.2.2.2]
    exact h10 n hn q
end RBK
end
section
/-! THE RELATION: read (16): the reference reads a group and makes it -/
section RBL
variable {n : Nat} {c : Nat → Int32} {s : Sg} {V V1 : VW} {d : Nat → Nat} {wn : Nat → Int} {X : Nat → Bool}
theorem ln_pos : ∀ {t : List (Nat × Nat)}, t ≠ [] → 1 ≤ t.length
  | [], h => absurd rfl h
  | _ :: l, _ => Nat.succ_le_succ (Nat.zero_le l.length)
theorem star_in : ∀ (t : List (Nat × Nat)), star t ≠ -1 → ∃ (i q : Nat), t[i]? = some (q, 2) ∧ star t = q
  | [], h => absurd rfl h
  | (q, kk) :: l, h => by
    have e : star ((q, kk) :: l) = if kk = 2 then (q : Int) else star l := rfl
    by_cases z : kk = 2
    · exact ⟨0, q, by rw [z]; rfl, by rw [e, if_pos z]⟩
    · rw [e, if_neg z] at h
      obtain ⟨i, q', a, b⟩ := star_in l h
      exact ⟨i + 1, q', by simpa using a, by rw [e, if_neg z]; exact b⟩
theorem tb_cnt : ∀ {t : List (Nat × Nat)} {st : Bool} {p m p' m' : Nat}, Tb n c t st p m p' m' → m < 4096 → m' < 4096 ∧ cnt (fun q => Nat.testBit m q) 12 = cnt (fun q => Nat.testBit m' q) 12 + t.length
  | [], _, _, _, _, _, h, hm => by
    have h : _ ∧ _ := h
    rw [h.2]
    exact ⟨hm, rfl⟩
  | (q, kk) :: l, st, p, m, p', m', h, hm => by
    obtain ⟨hq, hb, _, _, p2, st', k, r⟩ := h
    obtain ⟨a, b⟩ := tb_cnt r (m_lt hm)
    have cn : cnt (fun i => Nat.testBit m i) 12 = cnt (fun i => Nat.testBit (m &&& (4095 - 2 ^ q)) i) 12 + 1 := cnt_one_more (i0 := q) hq (fun i _ ne => by rw [and_bit hm hq, decide_eq_true ne, Bool.and_true]) (by rw [and_bit hm hq, decide_eq_false (fun w => w rfl), Bool.and_false]) hb
    refine ⟨a, ?_⟩
    rw [cn, b]
    rfl
theorem tb_hd {t : List (Nat × Nat)} {st : Bool} {p m p' m' : Nat} (h : Tb n c t st p m p' m') (tn : t ≠ []) : p < p' ∧ ∃ q, q < 12 ∧ p < n ∧ c p = nI (97 + q) := by
  match t, h, tn with
  | [], _, tn => exact absurd rfl tn
  | (q, kk) :: l, h, _ =>
    obtain ⟨hq, hb, hp, e, p2, st', k, r⟩ := h
    have := k.lt
    have := Tb.le r
    exact ⟨by omega, q, hq, hp, e⟩
theorem btab_new {f : Nat} (hf : f < 23) : ∀ (t : List (Nat × Nat)) (st : Bool) (p m p' m' : Nat) (V : VW), Tb n c t st p m p' m' → m < 4096 → ∀ q, q < 12 → btab f t V 13 q = V 13 q ∨ Nat.testBit m q = true
  | [], _, _, _, _, _, _, _, _, _, _ => Or.inl rfl
  | (q0, kk) :: l, st, p, m, p', m', V, h, hm, q, hq => by
    obtain ⟨hq0, hb, _, _, p2, st', k, r⟩ := h
    have e13 : tb2 f q0 kk V 13 = v_join V q0 f 13 := by
      unfold tb2
      by_cases z : kk = 1
      · rw [if_pos z, v_hide_ne (by decide) (by decide)]
      · rw [if_neg z]
    rcases btab_new hf l st' p2 (m &&& (4095 - 2 ^ q0)) p' m' (tb2 f q0 kk V) r (m_lt hm) q hq with e | e
    · by_cases z : q = q0
      · rw [z]
        exact Or.inr hb
      · left
        rw [btab_s, e, e13, (join_rows (V := V) hq0 hf).1 q, if_neg z]
    · right
      rw [and_bit hm hq0] at e
      cases b : Nat.testBit m q
      · rw [b] at e
        cases e
      · rfl
theorem grp_key {f : Nat} (hf : f < 23) {t : List (Nat × Nat)} {p m p' m' : Nat} (h : Tb n c t false p m p' m') (hm : m < 4096) (tv : Tabs V1 (fun i => i == f)) (k2 : V1 8 f = 2) (ms : Msk V1 m) (h0 : v_tc V1 f = 0) (tv' : Tabs (btab f t V1) (fun i => i == f)) (k2' : btab f t V1 8 f = 2) (hl : v_tc (btab f t V1) f = t.length) : ((if star t = -1 then v_sta (btab f t V1) f 0 else star t) = -1 ∧ ∀ x : Nat, x < 12 → btab f t V1 13 x = f → btab f t V1 15 x = 1) ∨ ∃ x : Nat, x < 12 ∧ (if star t = -1 then v_sta (btab f t V1) f 0 else star t) = x ∧ btab f t V1 13 x = f ∧ btab f t V1 15 x = 0 := by
  have ae := act_eq hf (Z := fun i => i == f) (by simp) h hm tv k2 ms h0 tv' k2' hl
  have sp := fun i q kk e => btab_spot hf (Z := fun i => i == f) (by simp) t false p m p' m' V1 h hm tv k2 ms i q kk e
  have nu := tv'.nu hf k2'
  by_cases z : star t = -1
  · rw [ae]
    rcases acf_first t z with ⟨a1, b⟩ | ⟨i, q, kk, e1, e2, e3, _⟩
    · refine Or.inl ⟨a1, fun x hx hg => ?_⟩
      have r := nu.1 x hx (decide_eq_true hg)
      have ln : cnt (fun p => decide (btab f t V1 13 p = (f : Int))) 12 = t.length := hl
      rw [ln] at r
      obtain ⟨i, hi⟩ : ∃ i : Nat, btab f t V1 14 x = i := ⟨(btab f t V1 14 x).toNat, by omega⟩
      have il : i < t.length := by omega
      have e : t[i]? = some (t[i].1, t[i].2) := by rw [List.getElem?_eq_getElem il]
      obtain ⟨y1, y2, y3, y4⟩ := sp i _ _ e
      have ex : x = t[i].1 := nu.2.2 x _ hx y1 (decide_eq_true hg) (decide_eq_true y2) (by rw [y3, h0, Nat.zero_add, hi])
      rw [ex, y4, if_pos (b i _ _ e)]
    · obtain ⟨y1, y2, y3, y4⟩ := sp i _ _ e1
      exact Or.inr ⟨q, y1, e3, y2, by rw [y4, if_neg e2]⟩
  · obtain ⟨i, q, e1, e2⟩ := star_in t z
    obtain ⟨y1, y2, y3, y4⟩ := sp i _ _ e1
    rw [if_neg z]
    exact Or.inr ⟨q, y1, e2, y2, by rw [y4, if_neg (by omega)]⟩
theorem grp_tabs {f : Nat} (hf : f < 23) {t : List (Nat × Nat)} (tn : t ≠ []) {p m p' m' : Nat} (h : Tb n c t false p m p' m') (hm : m < 4096) (tv : Tabs V1 (fun i => i == f)) (k2 : V1 8 f = 2) (ms : Msk V1 m) (h0 : v_tc V1 f = 0) (tv' : Tabs (btab f t V1) (fun i => i == f)) (k2' : btab f t V1 8 f = 2) (hl : v_tc (btab f t V1) f = t.length) : Tabs (fing f (star t) (btab f t V1)) (fun _ => false) := by
  have key := grp_key hf h hm tv k2 ms h0 tv' k2' hl
  obtain ⟨a, ha⟩ : ∃ a : Int, a = (if star t = -1 then v_sta (btab f t V1) f 0 else star t) := ⟨_, rfl⟩
  unfold fing
  rw [← ha] at key ⊢
  obtain ⟨B, hB⟩ : ∃ B : VW, B = btab f t V1 := ⟨_, rfl⟩
  rw [← hB] at key tv' k2' hl ⊢
  have e8 : up B 12 f a 8 = B 8 := up_ne (by decide)
  have e13 : up B 12 f a 13 = B 13 := up_ne (by decide)
  have e14 : up B 12 f a 14 = B 14 := up_ne (by decide)
  have e15 : up B 12 f a 15 = B 15 := up_ne (by decide)
  refine ⟨fun p hp => ?_, fun p hp q => ?_, fun p hp => ?_, fun g hg q => ?_⟩
  · rw [e13, e8]
    exact tv'.gr hp
  · rw [e13] at q
    rw [e14, e15]
    exact tv'.no hp q
  · rw [e15]
    exact tv'.hi hp
  · rw [e8] at q
    rw [e13, e14]
    refine ⟨tv'.nu hg q, fun _ => ?_⟩
    unfold Act
    rw [e13, e15, up12 hf]
    by_cases z : g = f
    · rw [if_pos z, z]
      refine ⟨?_, key⟩
      have ln : cnt (fun p => decide (B 13 p = (f : Int))) 12 = t.length := hl
      rw [ln]
      exact ln_pos tn
    · rw [if_neg z]
      exact tv'.fu hg q (by simp [z])
theorem m_grp1 (T : Tt n c) {p u D : Nat} {cn : Nat → Nat} (ms : MS n c s p u D cn) {O : Nat → Bool} (h : BMr (mv (s.1 463)) V O) (t0 : Tree V d wn X) (tb : Tabs V (fun _ => false)) {f : Nat} (hf : f < 23) (hk : V 8 f = 3) (hl : ∀ k, k < f → V 8 k ≠ 3) (a : AT V V1 f 2) {m : Nat} (hm : m < 4096) (mk0 : Msk V m) (u4 : u < 4096) (al : ∀ q, q < 12 → Nat.testBit m q = true → Nat.testBit u q = false ∧ mv (s.1 463) 6 q = 1) {t : List (Nat × Nat)} {p' m' : Nat} (ht : Tb n c t false p m p' m') (tn : t ≠ []) (lp : ltr n c p' = false) (pn : p' ≤ n) : ∃ s' u', fX9_readsGroup s 462 1 = some s' ∧ Fy1 s s' ∧ MT n c s' p' ∧ s'.1 462 16 = -1 ∧ s'.1 462 20 = nI u' ∧ s'.1 462 21 = oI f ∧ u' < 4096 ∧ m' < 4096 ∧ (∀ q, q < 12 → Nat.testBit m' q = true → Nat.testBit u' q = false ∧ Nat.testBit m q = true) ∧ BMr (mv (s'.1 463)) (fing f (star t) (btab f t V1)) (fun i => O i || i == f) ∧ (∀ k, (6 ≤ k ∧ k ≤ 8) ∨ 12 ≤ k → mv (s'.1 463) k = mv (s.1 463) k) ∧ (∀ x, x ≠ 462 → x ≠ 463 → s'.1 x = s.1 x) ∧ s'.1 462 19 = s.1 462 19 ∧ s'.1 462 22 = s.1 462 22 ∧ (∀ i, mv (s'.1 463) 1 i = if i = f then -1 else mv (s.1 463) 1 i) ∧ Tabs (fing f (star t) (btab f t V1)) (fun _ => false) ∧ Msk (fing f (star t) (btab f t V1)) m' ∧ (∀ k, k ≠ 12 → k ≠ 13 → k ≠ 14 → k ≠ 15 → fing f (star t) (btab f t V1) k = V1 k) ∧ ∀ q, q < 12 → fing f (star t) (btab f t V1) 13 q = V 13 q ∨ Nat.testBit m q = true := by
  have fu : FU = 6000 := rfl
  obtain ⟨w1, a1, a2, a3⟩ := m_newNode (σ := s) (n0 := f) (by omega) ((h.1 f hf).1 hk) (fun i hi z => hl i hi ((h.k0 (by omega) (t0.ki (by omega))).mp z)) 2
  have a3 : mv (w1.1 463) = nn (mv (s.1 463)) f 2 := a3
  obtain ⟨n0, n1, n2, n3, n4, n5, nj⟩ := nn_rows (U := mv (s.1 463)) (n := f) (k := 2)
  rw [← a3] at n0 n1 n2 n3 n4 n5 nj
  obtain ⟨w2, hw2⟩ : ∃ w2 : Sg, w2 = su w1 462 21 (oI f) := ⟨_, rfl⟩
  have r63 : w2.1 463 = w1.1 463 := by rw [hw2, su_ne (by omega)]
  have k62 : ∀ i, i ≠ 21 → w2.1 462 i = s.1 462 i := fun i hi => by rw [hw2, su_at, if_neg (fun w => hi w.2), a2.2 462 (by omega)]
  have kx : ∀ x, x ≠ 462 → x ≠ 463 → w2.1 x = s.1 x := fun x q1 q2 => by rw [hw2, su_ne q1, a2.2 x (by omega)]
  obtain ⟨a8, a9, a5, aj⟩ := id a
  have j13 := aj 13 (by decide) (by decide) (by decide) (by decide) (by decide)
  have j14 := aj 14 (by decide) (by decide) (by decide) (by decide) (by decide)
  have j15 := aj 15 (by decide) (by decide) (by decide) (by decide) (by decide)
  have j12 := aj 12 (by decide) (by decide) (by decide) (by decide) (by decide)
  obtain ⟨tv, tc0⟩ := att_tabg (V' := V1) (Z' := fun i => i == f) tb hf hk a8 j12 j13 j14 j15 (by simp) (fun i hi => by simp [hi])
  have mk1 : Msk V1 m := fun q hq b => by rw [j13, j15]; exact mk0 q hq b
  have k2 : V1 8 f = 2 := by rw [a8 f hf, if_pos rfl]
  have pr1 : PR (mv (w2.1 463)) V1 := fun q hq => by
    rw [r63, nj 9 (by decide), nj 10 (by decide), nj 11 (by decide), j13, j14, j15]
    exact h.2.2.2.2.2.1 q hq
  have mt2 : MT n c w2 p := ⟨by rw [k62 5 (by omega)]; exact ms.1.1, fun i hi => by rw [kx 465 (by omega) (by omega)]; exact ms.1.2.1 i hi, by rw [k62 15 (by omega)]; exact ms.1.2.2⟩
  have tl : t.length ≤ 12 := by
    have : t.length < 13 := by
      refine Classical.byContradiction (fun z => ?_)
      obtain ⟨s', u', -, -, -, -, -, -, -, -, -, -, -, -, y12, -⟩ := g_loop T hf (Z := fun i => i == f) (by simp) t false p m p' m' V1 w2 u 0 (t.length + 1) ht tn lp pn hm tv k2 mk1 pr1 tc0 mt2 (by rw [k62 16 (by omega)]; exact ms.2.1) (by rw [k62 20 (by omega)]; exact ms.2.2.2.1) u4 (fun q hq b => ⟨(al q hq b).1, by rw [r63, nj 6 (by decide)]; exact (al q hq b).2⟩) (by rw [hw2, su_at, if_pos ⟨rfl, rfl⟩]) (by omega)
      have := v_tc_rg (btab f t V1) f
      omega
    omega
  obtain ⟨s', u', y1, y2, y3, y4, y5, y6, y6', y7, y8, y9, y10, y11, y12, y13, y14, y15, y16⟩ := g_loop T hf (Z := fun i => i == f) (by simp) t false p m p' m' V1 w2 u 0 FU ht tn lp pn hm tv k2 mk1 pr1 tc0 mt2 (by rw [k62 16 (by omega)]; exact ms.2.1) (by rw [k62 20 (by omega)]; exact ms.2.2.2.1) u4 (fun q hq b => ⟨(al q hq b).1, by rw [r63, nj 6 (by decide)]; exact (al q hq b).2⟩) (by rw [hw2, su_at, if_pos ⟨rfl, rfl⟩]) (by omega)
  have e5 : mv (w2.1 463) 5 f = -1 := by rw [r63, n5 f, if_pos rfl]
  have kb2 : btab f t V1 8 f = 2 := by rw [y14 8 (by decide) (by decide) (by decide) (by decide)]; exact k2
  have act := act_eq hf (Z := fun i => i == f) (by simp) ht hm tv k2 mk1 tc0 y11 (by rw [y14 8 (by decide) (by decide) (by decide) (by decide)]; exact k2) (by rw [y12, Nat.zero_add])
  have cx : ∀ x, x ≠ 462 → x ≠ 463 → s'.1 x = s.1 x := fun x q1 q2 => (y2.2.1 x q1 q2).trans (kx x q1 q2)
  have c62 : ∀ i, i ≠ 15 → i ≠ 16 → i ≠ 20 → i ≠ 21 → s'.1 462 i = s.1 462 i := fun i q1 q2 q3 q4 => (y2.2.2 i q1 q2 q3).trans (k62 i q4)
  refine ⟨s', u', ?_, ⟨?_, fun x q1 q2 _ _ _ => cx x q1 q2, fun i hi => c62 i (by omega) (by omega) (by omega) (by omega)⟩, y3, y4, y5, ?_, y6, y6', y7, ?_, fun k hk => ?_, cx, c62 19 (by omega) (by omega) (by omega) (by omega), c62 22 (by omega) (by omega) (by omega) (by omega), fun i => by rw [y10 1 (by decide) (by decide) (by decide) (by decide), r63]; exact n1 i, grp_tabs hf tn ht hm tv k2 mk1 tc0 y11 kb2 (by rw [y12, Nat.zero_add]), fun q hq b => by have := y13 q hq b; unfold fing; rw [up_ne (by decide), up_ne (by decide)]; exact this, fun k q1 q2 q3 q4 => by unfold fing; rw [up_ne q1]; exact y14 k q1 q2 q3 q4, fun q hq => by unfold fing; rw [up_ne (by decide), ← j13]; exact btab_new hf t false p m p' m' V1 ht hm q hq⟩
  · unfold fX9_readsGroup
    rw [if_neg (show ¬ ((1 : Int32) = 0) by decide), a1, j_b]
    dsimp only
    rw [← hw2, j_nm]
    exact y1
  · rw [y2.1, hw2]
    exact a2.1
  · rw [y2.2.2 21 (by omega) (by omega) (by omega), hw2, su_at, if_pos ⟨rfl, rfl⟩]
  · unfold fing
    rw [act]
    refine h.grp (U1 := mv (w2.1 463)) hf a (fun i => by rw [r63]; exact n0 i) (fun i ne => ?_) (fun j hj => by rw [r63]; exact nj j (by omega)) y8 (fun i => by rw [y9 i, e5]) y10 y14 y15
    rw [r63, n1 i, n2 i, n3 i, n4 i, n5 i, if_neg ne, if_neg ne, if_neg ne, if_neg ne, if_neg ne]
    exact ⟨rfl, rfl, rfl, rfl, rfl⟩
  · rw [y10 k (by omega) (by omega) (by omega) (by omega), r63, nj k (by omega)]
end RBL
end
section
/-! THE RELATION: read (17): what a text says, made on both sides: a group -/
section RBM
def QQ (n : Nat) (c : Nat → Int32) (V : VW) (d : Nat → Nat) (wn : Nat → Int) (X : Nat → Bool) (m : Nat) (s : Sg) (p u D : Nat) (cn nd : Nat → Nat) (wt : Nat → Int) : Prop :=
  Tree V d wn X ∧ Tabs V (fun _ => false) ∧ Msk V m ∧ MS n c s p u D cn ∧ NS s D nd wt ∧ BMr (mv (s.1 463)) V X ∧ (u < 4096 ∧ (∀ q, q < 12 → Nat.testBit m q = true → Nat.testBit u q = false ∧ mv (s.1 463) 6 q = 1) ∧ ∀ q, q < 12 → V 13 q ≠ -1 → mv (s.1 463) 6 q = 1) ∧ (∀ i, i < D → cn i < 1000 ∧ nd i < 23) ∧ D < 100 ∧ ∀ i, i < 23 → X i = true → V 8 i ≤ 1
def KP (rt : Bool) (V V' : VW) : Prop := (∀ i, i < 23 → V 8 i ≠ 3 → V' 8 i = V 8 i ∧ V' 9 i = V 9 i ∧ V' 10 i = V 10 i ∧ V' 11 i = V 11 i) ∧ (∀ j, j < 5 ∨ j = 6 ∨ j = 7 → V' j = V j) ∧ ∀ w, w < 5 → (w ≠ 0 ∨ rt = false) → V' 5 w = V 5 w
def SR (V : VW) (s s1 : Sg) : Prop := Fy1 s s1 ∧ (∀ i, i < 23 → V 8 i ≠ 3 → mv (s1.1 463) 1 i = mv (s.1 463) 1 i) ∧ ∀ k, (6 ≤ k ∧ k ≤ 8) ∨ 12 ≤ k → mv (s1.1 463) k = mv (s.1 463) k
def bits (m : Nat) : Nat := cnt (fun q => Nat.testBit m q) 12
def RTi (n : Nat) (c : Nat → Int32) (rt : Bool) (sp w : Int) (p m : Nat) (V : VW) (p' m' : Nat) (V' : VW) : Prop := m < 4096 → ∃ N, m' < 4096 ∧ N + 1 + 2 * bits m' ≤ 2 * bits m ∧ p < p' ∧ p' ≤ n ∧ ∀ d wn X s u D cn nd wt f, QQ n c V d wn X m s p u D cn nd wt → N ≤ frees V → 3 * D ≤ p → 200 ≤ f + p → rt = decide (D = 0) → (rt = true → V 5 0 = -1) → (rt = false → (1 ≤ w ∧ w ≤ 1000000) ∧ sp = (nd (D - 1) : Int) ∧ V 8 (nd (D - 1)) ≤ 1 ∧ cn (D - 1) = v_cc V sp ∧ s.1 462 22 = oI w) → ∃ d' wn' s1 u1 k f1, fX9_goes_27 462 f s 1 1 = Kont1 k f1 s1 ∧ QQ n c V' d' wn' X m' s1 p' u1 D (bump cn D) nd wt ∧ SR V s s1 ∧ KP rt V V' ∧ frees V' + N = frees V ∧ 200 ≤ k + p' ∧ 200 ≤ f1 + p' ∧ (∀ t : Nat, t < 23 → V 8 t ≤ 1 → v_cc V' t = v_cc V t + (if rt = false ∧ (t : Int) = sp then 1 else 0)) ∧ (rt = true → ∃ g : Nat, g < 23 ∧ V' 5 0 = g ∧ s1.1 462 21 = oI g)
def RKi (n : Nat) (c : Nat → Int32) (sp : Int) (j p m : Nat) (V : VW) (p' m' : Nat) (V' : VW) : Prop := m < 4096 → ∃ N, m' < 4096 ∧ N + 1 + (if j = 0 then 1 else 0) + 2 * bits m' ≤ 2 * bits m ∧ p < p' ∧ p' ≤ n ∧ ∀ d wn X s u D cn nd wt f, QQ n c V d wn X m s p u D cn nd wt → N ≤ frees V → 0 < D → 3 * D ≤ p + 1 → 200 ≤ f + p → sp = (nd (D - 1) : Int) → V 8 (nd (D - 1)) ≤ 1 → v_cc V sp = j → cn (D - 1) = j → ∃ d' wn' s6 s1 u1 k f1 cn', fX9_readsWeight s 462 = some s6 ∧ s6.1 462 16 = -1 ∧ fX9_goes_27 462 f s6 1 1 = Kont1 k f1 s1 ∧ QQ n c V' d' wn' X m' s1 p' u1 D cn' nd wt ∧ (∀ i, i + 1 < D → cn' i = cn i) ∧ cn' (D - 1) = v_cc V' sp ∧ 2 ≤ v_cc V' sp ∧ SR V s s1 ∧ KP false V V' ∧ frees V' + N = frees V ∧ 200 ≤ k + p' ∧ 200 ≤ f1 + p' ∧ ∀ t : Nat, t < 23 → V 8 t ≤ 1 → (t : Int) ≠ sp → v_cc V' t = v_cc V t
variable {n : Nat} {c : Nat → Int32} {V : VW} {d : Nat → Nat} {wn : Nat → Int} {X : Nat → Bool}
theorem v_cc_in {V : VW} {t : Nat} : v_cc V t = cnt (fun n => decide (V 9 n = (t : Int))) 23 := by
  unfold v_cc
  rw [if_neg (by omega)]
theorem v_cc_le (V : VW) (t : Int) : v_cc V t ≤ 23 := by
  unfold v_cc
  by_cases z : t = -1
  · rw [if_pos z]
    omega
  · rw [if_neg z]
    exact cnt_le _ 23
theorem att_all (tr : Tree V d wn X) {g : Nat} (mn : v_mn V = g) (hg : g < 23) (kg : V 8 g = 3) {rt : Bool} {sp w k : Int} (k2 : 0 ≤ k ∧ k ≤ 2) (h0 : rt = true → V 5 0 = -1) (hin : rt = false → (1 ≤ w ∧ w ≤ 1000000) ∧ ∃ s0 : Nat, s0 < 23 ∧ sp = s0 ∧ V 8 s0 ≤ 1) {X' : Nat → Bool} (hx : k ≤ 1 → X' g = true) (hX : ∀ i, i ≠ g → X' i = X i) : ∃ d1 wn1, AT V (att rt V k sp w) g k ∧ Tree (att rt V k sp w) d1 wn1 X' ∧ (rt = false → att rt V k sp w 9 g = sp ∧ att rt V k sp w 10 g = (v_cc V sp : Int) ∧ att rt V k sp w 11 g = w ∧ att rt V k sp w 5 0 = V 5 0) ∧ (rt = true → att rt V k sp w 9 g = -1 ∧ att rt V k sp w 5 0 = g) ∧ (∀ i, i < 23 → att rt V k sp w 9 i ≠ g) ∧ ∀ t : Nat, t < 23 → V 8 t ≤ 1 → v_cc (att rt V k sp w) t = v_cc V t + (if rt = false ∧ (t : Int) = sp then 1 else 0) := by
  have g9 : V 9 g = -1 := tr.fr hg kg
  cases rt
  · obtain ⟨w1, s0, hs, es, hs1⟩ := hin rfl
    subst es
    obtain ⟨r8, r9, r10, r11, rj⟩ := att_in tr mn hg kg hs hs1 k w
    have r5 : att false V k s0 w 5 = V 5 := rj 5 (by decide) (by decide) (by decide) (by decide)
    have ne : s0 ≠ g := fun z => by rw [z] at hs1; omega
    refine ⟨_, _, at_in tr mn hg kg hs hs1 k w, att_tree tr mn hg kg hs hs1 k2 w1 hx hX, fun _ => ⟨by rw [r9 g hg, if_pos rfl], by rw [r10 g hg, if_pos rfl], by rw [r11 g hg, if_pos rfl], by rw [r5]⟩, fun z => (by (cases z)), fun i hi => ?_, fun t ht ht1 => ?_⟩
    · rw [r9 i hi]
      by_cases z : i = g
      · rw [if_pos z]
        omega
      · rw [if_neg z]
        exact tr.nof hg (Or.inl kg) hi
    · rw [v_cc_in, v_cc_in]
      by_cases z : t = s0
      · rw [if_pos ⟨rfl, by omega⟩]
        refine cnt_one_more (i0 := g) hg (fun i hi ne => by rw [r9 i hi, if_neg ne]) (decide_eq_false (by omega)) ?_
        rw [r9 g hg, if_pos rfl, z]
        exact decide_eq_true rfl
      · rw [if_neg (fun y => z (by omega)), Nat.add_zero]
        refine cnt_congr (fun i hi => ?_)
        rw [r9 i hi]
        by_cases y : i = g
        · rw [if_pos y, y, g9, decide_eq_false (by omega), decide_eq_false (by omega)]
        · rw [if_neg y]
  · obtain ⟨r8, r5, rj⟩ := att_rt mn hg k sp w
    have r9 : att true V k sp w 9 = V 9 := rj 9 (by decide) (by decide)
    refine ⟨_, _, at_rt mn hg k sp w, att_rtree tr mn hg kg (h0 rfl) k2 hx hX, fun z => (by (cases z)), fun _ => ⟨by rw [r9]; exact g9, by rw [r5 0 (by omega), if_pos rfl]⟩, fun i hi => by rw [r9]; exact tr.nof hg (Or.inl kg) hi, fun t ht ht1 => ?_⟩
    rw [if_neg (fun y => by cases y.1), Nat.add_zero]
    unfold v_cc
    rw [r9]
theorem KP.at {V1 : VW} {rt : Bool} {f : Nat} {k : Int} (a : AT V V1 f k) (kf : V 8 f = 3) (h5 : rt = false → V1 5 0 = V 5 0) : KP rt V V1 := by
  obtain ⟨a8, a9, a5, aj⟩ := a
  refine ⟨fun i hi u => ?_, fun j hj => aj j (by omega) (by omega) (by omega) (by omega) (by omega), fun w hw z => ?_⟩
  · have ne : i ≠ f := fun z => u (by rw [z]; exact kf)
    obtain ⟨q1, q2, q3⟩ := a9 i hi ne
    exact ⟨by rw [a8 i hi, if_neg ne], q1, q2, q3⟩
  · by_cases y : w = 0
    · rcases z with z | z
      · exact absurd y z
      · rw [y]
        exact h5 z
    · exact a5 w hw y
theorem KP.tr {V1 V2 : VW} {rt : Bool} (h : KP rt V V1) (h2 : KP false V1 V2) : KP rt V V2 := by
  obtain ⟨a, b, e⟩ := h
  obtain ⟨a', b', e'⟩ := h2
  refine ⟨fun i hi u => ?_, fun j hj => (b' j hj).trans (b j hj), fun w hw z => (e' w hw (Or.inr rfl)).trans (e w hw z)⟩
  obtain ⟨q1, q2, q3, q4⟩ := a i hi u
  obtain ⟨o1, o2, o3, o4⟩ := a' i hi (by rw [q1]; exact u)
  exact ⟨o1.trans q1, o2.trans q2, o3.trans q3, o4.trans q4⟩
theorem KP.us {V1 : VW} {rt : Bool} (h : KP rt V V1) {i : Nat} (hi : i < 23) (u : V 8 i ≠ 3) : V1 8 i ≠ 3 := by
  rw [(h.1 i hi u).1]
  exact u
theorem SR.tr {V1 : VW} {rt : Bool} {s s1 s2 : Sg} (h : SR V s s1) (k : KP rt V V1) (h2 : SR V1 s1 s2) : SR V s s2 :=
  ⟨h.1.tr h2.1, fun i hi u => (h2.2.1 i hi (k.us hi u)).trans (h.2.1 i hi u), fun k hk => (h2.2.2 k hk).trans (h.2.2 k hk)⟩
theorem SR.fk {s s1 : Sg} (h : Fk s s1) : SR V s s1 := by
  have e : s1.1 463 = s.1 463 := h.2.1 463 (by omega) (by omega) (by omega) (by omega)
  exact ⟨Fy1.fk h, fun i _ _ => by rw [e], fun k _ => by rw [e]⟩
theorem r_grp (T : Tt n c) : ∀ rt sp w p m V p' m' t, t ≠ [] → Tb n c t false p m p' m' → p' ≤ n → ltr n c p' = false → RTi n c rt sp w p m V p' m' (bgrp rt V sp w t) := by
  intro rt sp w p m V p' m' t tn ht pn lp hm
  have n120 := T.1
  obtain ⟨c1, c2⟩ := tb_cnt ht hm
  obtain ⟨c3, q0, hq0, hp0, e0⟩ := tb_hd ht tn
  have tl := ln_pos tn
  refine ⟨1, c1, ?_, c3, pn, ?_⟩
  · unfold bits
    omega
  intro d wn X s u D cn nd wt f qq nf D3 hfu hrt h0 hin
  obtain ⟨tr, tb, mk, ms, ns, bm, ⟨u4, al, ax⟩, cd, D99, ox⟩ := qq
  obtain ⟨g, hg, mn, kg, lg⟩ := v_mn_sp (show 1 ≤ cnt (fun n => decide (V 8 n = 3)) 23 from nf)
  have hD : rt = false → 0 < D := fun z => by
    rw [z] at hrt
    have := of_decide_eq_false hrt.symm
    omega
  obtain ⟨d1, wn1, a1, tr1, i1, i2, i3, i4⟩ := att_all (X' := X) tr mn hg kg (rt := rt) (sp := sp) (w := w) (k := 2) (by omega) h0 (fun z => ⟨(hin z).1, nd (D - 1), (cd (D - 1) (by have := hD z; omega)).2, (hin z).2.1, (hin z).2.2.1⟩) (fun z => absurd z (by decide)) (fun _ _ => rfl)
  obtain ⟨s', u', b1, b2, b3, b4, b5, b6, b7, b8, b9, b10, b11, b12, b13, b14, b15, b16, b17, b18, b19⟩ := m_grp1 T ms bm tr tb hg kg lg a1 hm mk u4 al ht tn lp pn
  have eb : bgrp rt V sp w t = fing g (star t) (btab g t (att rt V 2 sp w)) := by
    unfold bgrp
    rw [mn]
  rw [eb]
  obtain ⟨V', hV'⟩ : ∃ V' : VW, V' = fing g (star t) (btab g t (att rt V 2 sp w)) := ⟨_, rfl⟩
  rw [← hV'] at b10 b16 b17 b18 b19 ⊢
  obtain ⟨V1, hV1⟩ : ∃ V1 : VW, V1 = att rt V 2 sp w := ⟨_, rfl⟩
  rw [← hV1] at a1 tr1 i1 i2 i3 i4 b18
  have x8 := b18 8 (by decide) (by decide) (by decide) (by decide)
  have x9 := b18 9 (by decide) (by decide) (by decide) (by decide)
  have x10 := b18 10 (by decide) (by decide) (by decide) (by decide)
  have x11 := b18 11 (by decide) (by decide) (by decide) (by decide)
  have x5 := b18 5 (by decide) (by decide) (by decide) (by decide)
  have ms' : MS n c s' p' u' D cn := ⟨b3, b4, by rw [b13]; exact ms.2.2.1, b5, fun i hi => by rw [b12 473 (by omega) (by omega)]; exact ms.2.2.2.2 i hi⟩
  have ns' : NS s' D nd wt := fun i hi => by rw [b12 472 (by omega) (by omega), b12 474 (by omega) (by omega)]; exact ns i hi
  obtain ⟨s1, e1, e2, e3, e4, e5, e6, e7⟩ := m_join1 ms' ns' D99 hg b6 (s'.1 462 22) cd
  have rk : ∀ k, k ≠ 1 → k ≠ 3 → k ≠ 4 → mv (s1.1 463) k = mv (s'.1 463) k := fun k q1 q3 q4 => by
    by_cases z : D = 0
    · rw [e6 z]
    · rw [e7 (by omega), mu_ne q3, mu_ne q4, mu_ne q1]
  have r1 : ∀ i, i ≠ g → mv (s1.1 463) 1 i = mv (s.1 463) 1 i := fun i hi => by
    by_cases z : D = 0
    · rw [e6 z, b15 i, if_neg hi]
    · rw [e7 (by omega), mu_ne (by decide), mu_ne (by decide), mu_at, if_neg hi, b15 i, if_neg hi]
  have bm1 : BMr (mv (s1.1 463)) V' X := by
    refine BMr.oc (O := fun i => (X i || i == g) && i != g) ?_ (fun i hi => ?_)
    · by_cases z : D = 0
      · rw [e6 z]
        refine b10.rt ?_ (by rw [b15 g, if_pos rfl])
        rw [x9]
        exact (i2 (by rw [hrt]; exact decide_eq_true z)).1
      · have rf : rt = false := by rw [hrt]; exact decide_eq_false z
        obtain ⟨j1, j2, j3, j4⟩ := i1 rf
        obtain ⟨o1, o2, o3, o4, o5⟩ := hin rf
        have e22 : (s'.1 462 22).toInt = w := by rw [b14, o5, j_oI (by omega) (by omega)]
        rw [e7 (by omega), e22]
        exact b10.jn (by rw [x9, j1, o2]) (by rw [x10, j2, o4]) (by rw [x11, j3])
    · show X i = ((X i || i == g) && i != g)
      by_cases z : i = g
      · rw [z]
        cases hx : X g
        · simp
        · have := ox g hg hx
          omega
      · have y1 : (i == g) = false := by simpa using z
        have y2 : (i != g) = true := by simpa using z
        rw [y1, y2, Bool.or_false, Bool.and_true]
  have kp : KP rt V V' := by
    have k1 : KP rt V V1 := KP.at a1 kg (fun z => (i1 z).2.2.2)
    refine ⟨fun i hi q => ?_, fun j hj => ?_, fun w hw z => ?_⟩
    · rw [x8, x9, x10, x11]
      exact k1.1 i hi q
    · rw [b18 j (by omega) (by omega) (by omega) (by omega)]
      exact k1.2.1 j hj
    · rw [x5]
      exact k1.2.2 w hw z
  have fu : FU = 6000 := rfl
  obtain ⟨f', rfl⟩ : ∃ f', f = f' + 1 := ⟨f - 1, by omega⟩
  have cp : cdm n c p = nI (97 + q0) := by rw [(cd_in hp0).2, e0]
  have cpi : (cdm n c p).toInt = 97 + q0 := by
    rw [cp, j_nI (by omega)]
    omega
  have h72 : cdm n c p ≠ 72 := fun z => by
    rw [z] at cpi
    have : (72 : Int32).toInt = 72 := rfl
    omega
  have h86 : cdm n c p ≠ 86 := fun z => by
    rw [z] at cpi
    have : (86 : Int32).toInt = 86 := rfl
    omega
  have ge : fX9_goes_27 462 (f' + 1) s 1 1 = (fX9_joins s' 462 (s'.1 462 22) 1).bind fun σ9 => (fX9_ends σ9 462 1).bind fun r10 => fX9_goes_27 462 f' r10.2 1 (b2i r10.1) := by
    rw [fX9_goes_27, if_neg (show ¬ ((1 : Int32) = 0) by decide), if_pos ms.2.1, m_next ms.1 n120 (by omega), j_b, if_neg h72, j_b, if_neg h86, b1, j_b, if_pos b4]
  have sr : SR V s s1 := by
    refine ⟨b2.tr e2, fun i hi q => r1 i (fun z => q (by rw [z]; exact kg)), fun k hk => ?_⟩
    rw [rk k (by omega) (by omega) (by omega)]
    exact b11 k hk
  refine ⟨d1, wn1, s1, u', FU, f', ?_, ⟨?_, b16, b17, e3, e4, bm1, ⟨b7, fun q hq b => ?_, fun q hq b => ?_⟩, fun i hi => ?_, D99, fun i hi x => ?_⟩, sr, kp, ?_, by omega, by omega, fun t ht ht1 => ?_, fun z => ?_⟩
  · rw [ge, e1, j_b]
    rfl
  · exact tr1.cg (fun i _ => by rw [x8]) (fun i _ => by rw [x9]) (fun i _ => by rw [x10]) (fun i hi q => by rw [x11]; exact tr1.we hi q) (fun i _ => by rw [x5])
  · obtain ⟨o1, o2⟩ := b9 q hq b
    refine ⟨o1, ?_⟩
    rw [rk 6 (by decide) (by decide) (by decide), b11 6 (by omega)]
    exact (al q hq o2).2
  · rw [rk 6 (by decide) (by decide) (by decide), b11 6 (by omega)]
    rcases b19 q hq with e | e
    · exact ax q hq (by rw [← e]; exact b)
    · exact (al q hq e).2
  · refine ⟨?_, (cd i hi).2⟩
    unfold bump
    by_cases z : i + 1 = D
    · rw [if_pos z]
      have rf : rt = false := by rw [hrt]; exact decide_eq_false (by omega)
      have o4 := (hin rf).2.2.2.1
      have := v_cc_le V sp
      have : i = D - 1 := by omega
      rw [this]
      omega
    · rw [if_neg z]
      exact (cd i hi).1
  · have h1 := ox i hi x
    rw [(kp.1 i hi (by omega)).1]
    exact h1
  · have := frees_one (V := V) (V' := V') hg kg (k := 2) (by omega) (fun i hi => by rw [x8]; exact a1.1 i hi)
    omega
  · have : v_cc V' t = v_cc V1 t := by
      unfold v_cc
      rw [x9]
    rw [this]
    exact i4 t ht ht1
  · exact ⟨g, hg, by rw [x5]; exact (i2 z).2, e5⟩
end RBM
end
section
/-! THE RELATION: read (18): what a text says, made on both sides: a split -/
section RBN
variable {n : Nat} {c : Nat → Int32} {V : VW} {d : Nat → Nat} {wn : Nat → Int} {X : Nat → Bool}
theorem g27_open {s s6 : Sg} {p u D : Nat} {cn : Nat → Nat} (T : Tt n c) (ms : MS n c s p u D cn) (pn : p ≤ n) (hk : cdm n c p = 72 ∨ cdm n c p = 86) (f' : Nat) (h6 : fX9_opens s 462 1 = some s6) : fX9_goes_27 462 (f' + 1) s 1 1 = fX9_goes_27 462 f' s6 1 1 := by
  have e57 : fX9_goes_57 462 (fX9_goes_27 462 f') s 1 1 = fX9_goes_27 462 f' s6 1 1 := by
    unfold fX9_goes_57
    rw [h6, j_b]
  rw [fX9_goes_27, if_neg (show ¬ ((1 : Int32) = 0) by decide), if_pos ms.2.1, m_next ms.1 T.1 pn, j_b]
  rcases hk with z | z
  · rw [if_pos z, e57]
  · rw [if_neg (by rw [z]; decide), j_b, if_pos z, e57]
theorem r_split (T : Tt n c) : ∀ rt sp w p m V p2 m2 V2 (k : Int), (k = 0 ∧ cdm n c p = 72) ∨ (k = 1 ∧ cdm n c p = 86) → cdm n c (p + 1) = 40 → RKi n c (v_mn V) 0 (p + 2) m (att rt V k sp w) p2 m2 V2 → cdm n c p2 = 41 → RTi n c rt sp w p m V (p2 + 1) m2 V2 := by
  intro rt sp w p m V p2 m2 V2 k hk e40 rk e41 hm
  have n120 := T.1
  have pn : p < n := by
    rcases hk with ⟨_, z⟩ | ⟨_, z⟩
    · exact cd_lt (by decide) z
    · exact cd_lt (by decide) z
  have hk2 : cdm n c p = 72 ∨ cdm n c p = 86 := by
    rcases hk with ⟨_, z⟩ | ⟨_, z⟩
    · exact Or.inl z
    · exact Or.inr z
  have k01 : 0 ≤ k ∧ k ≤ 1 := by
    rcases hk with ⟨z, _⟩ | ⟨z, _⟩ <;> omega
  have way : (if cdm n c p = 86 then (1 : Int) else 0) = k := by
    rcases hk with ⟨z, y⟩ | ⟨z, y⟩
    · rw [y, if_neg (by decide), z]
    · rw [y, if_pos rfl, z]
  have p2n : p2 < n := cd_lt (by decide) e41
  obtain ⟨N, c1, c2, c3, c4, ih⟩ := rk hm
  rw [if_pos rfl] at c2
  refine ⟨N + 1, c1, by omega, by omega, by omega, ?_⟩
  intro d wn X s u D cn nd wt f qq nf D3 hfu hrt h0 hin
  obtain ⟨tr, tb, mk, ms, ns, bm, ⟨u4, al, ax⟩, cd, D99, ox⟩ := qq
  obtain ⟨g, hg, mn, kg, lg⟩ := v_mn_sp (show 1 ≤ cnt (fun n => decide (V 8 n = 3)) 23 from by
    have : N + 1 ≤ cnt (fun n => decide (V 8 n = 3)) 23 := nf
    omega)
  have hD : rt = false → 0 < D := fun z => by
    rw [z] at hrt
    have := of_decide_eq_false hrt.symm
    omega
  obtain ⟨X1, hX1⟩ : ∃ X1 : Nat → Bool, X1 = fun i => X i || i == g := ⟨_, rfl⟩
  obtain ⟨d1, wn1, a1, tr1, i1, i2, i3, i4⟩ := att_all (X' := X1) tr mn hg kg (rt := rt) (sp := sp) (w := w) (k := k) (by omega) h0 (fun z => ⟨(hin z).1, nd (D - 1), (cd (D - 1) (by have := hD z; omega)).2, (hin z).2.1, (hin z).2.2.1⟩) (fun _ => by rw [hX1]; simp) (fun i hi => by rw [hX1]; simp [hi])
  rw [mn] at ih
  obtain ⟨V1, hV1⟩ : ∃ V1 : VW, V1 = att rt V k sp w := ⟨_, rfl⟩
  rw [← hV1] at a1 tr1 i1 i2 i3 i4 ih
  have g9 : V 9 g = -1 := tr.fr hg kg
  -- the reference opens a split
  obtain ⟨s5, o1, o2, o3, o4, o5⟩ := m_open1 T ms ns pn D99 hg ((bm.1 g hg).1 kg) (fun i hi z => lg i hi ((bm.k0 (by omega) (tr.ki (by omega))).mp z)) e40
  rw [way] at o5
  obtain ⟨n0, n1, n2, n3, n4, n5, nj⟩ := nn_rows (U := mv (s.1 463)) (n := g) (k := 1)
  have q0 : ∀ i, mv (s5.1 463) 0 i = if i = g then 1 else mv (s.1 463) 0 i := fun i => by rw [o5, mu_ne (by decide)]; exact n0 i
  have q1 : ∀ i, mv (s5.1 463) 1 i = if i = g then -1 else mv (s.1 463) 1 i := fun i => by rw [o5, mu_ne (by decide)]; exact n1 i
  have q2 : ∀ i, mv (s5.1 463) 2 i = if i = g then k else mv (s.1 463) 2 i := fun i => by
    rw [o5, mu_at, n2 i]
    by_cases z : i = g
    · rw [if_pos z, if_pos z]
    · rw [if_neg z, if_neg z, if_neg z]
  have q3 : ∀ i, i ≠ g → mv (s5.1 463) 3 i = mv (s.1 463) 3 i := fun i ne => by rw [o5, mu_ne (by decide), n3 i, if_neg ne]
  have q4 : ∀ i, i ≠ g → mv (s5.1 463) 4 i = mv (s.1 463) 4 i := fun i ne => by rw [o5, mu_ne (by decide), n4 i, if_neg ne]
  have q5 : ∀ i, mv (s5.1 463) 5 i = if i = g then -1 else mv (s.1 463) 5 i := fun i => by rw [o5, mu_ne (by decide)]; exact n5 i
  have q6 : ∀ j, 6 ≤ j → mv (s5.1 463) j = mv (s.1 463) j := fun j hj => by rw [o5, mu_ne (by omega)]; exact nj j hj
  have bm5 : BMr (mv (s5.1 463)) V1 X1 := by
    rw [hX1]
    exact bm.opn hg k01 a1 g9 q0 q2 q5 (fun i ne => ⟨by rw [q1 i, if_neg ne], q3 i ne, q4 i ne⟩) q6
  obtain ⟨a8, a9, a5, aj⟩ := id a1
  have j12 := aj 12 (by decide) (by decide) (by decide) (by decide) (by decide)
  have j13 := aj 13 (by decide) (by decide) (by decide) (by decide) (by decide)
  have j14 := aj 14 (by decide) (by decide) (by decide) (by decide) (by decide)
  have j15 := aj 15 (by decide) (by decide) (by decide) (by decide) (by decide)
  have g8 : V1 8 g = k := by rw [a8 g hg, if_pos rfl]
  have f1 := frees_one (V := V) (V' := V1) hg kg (k := k) (by omega) a8
  have fu : FU = 6000 := rfl
  obtain ⟨f', rfl⟩ : ∃ f', f = f' + 1 := ⟨f - 1, by omega⟩
  have sub : D + 1 - 1 = D := Nat.add_sub_cancel D 1
  have qq5 : QQ n c V1 d1 wn1 X1 m s5 (p + 2) u (D + 1) (fun i => if i = D then 0 else cn i) (fun i => if i = D then g else nd i) (fun i => if i = D then (s.1 462 22).toInt else wt i) := by
    refine ⟨tr1, att_tabs tb hg kg k01.2 a8 j12 j13 j14 j15, fun q hq b => ?_, o3, o4, bm5, ⟨u4, fun q hq b => ⟨(al q hq b).1, by rw [q6 6 (by decide)]; exact (al q hq b).2⟩, fun q hq b => by rw [j13] at b; rw [q6 6 (by decide)]; exact ax q hq b⟩, fun i hi => ?_, by omega, fun i hi x => ?_⟩
    · rw [j13, j15]
      exact mk q hq b
    · show (if i = D then 0 else cn i) < 1000 ∧ (if i = D then g else nd i) < 23
      by_cases z : i = D
      · rw [if_pos z, if_pos z]
        omega
      · rw [if_neg z, if_neg z]
        exact cd i (by omega)
    · by_cases z : i = g
      · rw [z, g8]
        exact k01.2
      · rw [a8 i hi, if_neg z]
        refine ox i hi ?_
        rw [hX1] at x
        simpa [z] using x
  have cc0 : v_cc V1 g = 0 := by
    rw [v_cc_in]
    exact cnt_zero.mpr (fun i hi => decide_eq_false (i3 i hi))
  obtain ⟨d2, wn2, s6, s7, u7, k7, f7, cn7, r1, r2, r3, qq7, r4, r5, r6, sr7, kp7, r7, r8, r9, r10⟩ := ih d1 wn1 X1 s5 u (D + 1) _ _ _ f' qq5 (by omega) (by omega) (by omega) (by omega) (by rw [sub]; show (g : Int) = ((if D = D then g else nd D : Nat) : Int); rw [if_pos rfl]) (by rw [sub]; show V1 8 (if D = D then g else nd D) ≤ 1; rw [if_pos rfl, g8]; exact k01.2) cc0 (by rw [sub]; show (if D = D then 0 else cn D) = 0; rw [if_pos rfl])
  obtain ⟨tr7, tb7, mk7, ms7, ns7, bm7, ⟨u74, al7, ax7⟩, cd7, D799, ox7⟩ := qq7
  rw [sub] at r5
  have ge := g27_open T ms (by omega) hk2 f' (o1 s6 r1)
  obtain ⟨k', rfl⟩ : ∃ k', k7 = k' + 1 := ⟨k7 - 1, by omega⟩
  obtain ⟨s4, s1, x1, x2, x3, x4, x5, x6, x7, x8⟩ := k1_close T ms7 ns7 (by omega) (by omega) (by omega) e41 (by rw [sub, r5]; exact r6) cd7 k' f7
  rw [sub] at x3 x4 x5 x7 x8
  have ndD : (if D = D then g else nd D) = g := if_pos rfl
  have x5 : s1.1 462 21 = oI ((if D = D then g else nd D : Nat) : Int) := x5
  rw [ndD] at x5
  have kpa : KP rt V V1 := KP.at a1 kg (fun z => (i1 z).2.2.2)
  have kp : KP rt V V2 := kpa.tr kp7
  have ug : V1 8 g ≠ 3 := by rw [g8]; omega
  obtain ⟨y8, y9, y10, y11⟩ := kp7.1 g hg ug
  have cnD : ∀ i, i < D → cn7 i = cn i := fun i hi => by
    have : cn7 i = if i = D then 0 else cn i := r4 i (by omega)
    rw [this, if_neg (by omega)]
  have w10 : rt = false → V2 9 g = nd (D - 1) ∧ V2 10 g = cn (D - 1) ∧ V2 11 g = w ∧ (s.1 462 22).toInt = w := fun z => by
    obtain ⟨j1, j2, j3, _⟩ := i1 z
    obtain ⟨h1, h2, h3, h4, h5⟩ := hin z
    exact ⟨by rw [y9, j1, h2], by rw [y10, j2, h4], by rw [y11, j3], by rw [h5, j_oI (by omega) (by omega)]⟩
  have s41 : s4.1 463 = s7.1 463 := x6
  have e8 : 0 < D → mv (s1.1 463) = mu (mu (mu (mv (s7.1 463)) 1 g (nd (D - 1))) 4 g (cn (D - 1))) 3 g w := fun z => by
    have rf : rt = false := by rw [hrt]; exact decide_eq_false (by omega)
    have h8 : mv (s1.1 463) = mu (mu (mu (mv (s7.1 463)) 1 (if D = D then g else nd D : Nat) ((if D - 1 = D then g else nd (D - 1) : Nat) : Int)) 4 (if D = D then g else nd D : Nat) ((cn7 (D - 1) : Nat) : Int)) 3 (if D = D then g else nd D : Nat) (oI (if D = D then (s.1 462 22).toInt else wt D)).toInt := x8 z
    have wb := (hin rf).1
    rw [ndD, if_neg (by omega), if_pos rfl, cnD (D - 1) (by omega), (w10 rf).2.2.2, j_oI (by omega) (by omega)] at h8
    exact h8
  have rk1 : ∀ k, k ≠ 1 → k ≠ 3 → k ≠ 4 → mv (s1.1 463) k = mv (s7.1 463) k := fun k z1 z3 z4 => by
    by_cases z : D = 0
    · rw [x7 z, s41]
    · rw [e8 (by omega), mu_ne z3, mu_ne z4, mu_ne z1]
  have r11 : ∀ i, i ≠ g → mv (s1.1 463) 1 i = mv (s7.1 463) 1 i := fun i hi => by
    by_cases z : D = 0
    · rw [x7 z, s41]
    · rw [e8 (by omega), mu_ne (by decide), mu_ne (by decide), mu_at, if_neg hi]
  have bm1 : BMr (mv (s1.1 463)) V2 X := by
    refine BMr.oc (O := fun i => X1 i && i != g) ?_ (fun i hi => ?_)
    · by_cases z : D = 0
      · rw [x7 z, s41]
        have rt1 : rt = true := by rw [hrt]; exact decide_eq_true z
        refine bm7.rt (by rw [y9]; exact (i2 rt1).1) ?_
        rw [sr7.2.1 g hg ug, q1 g, if_pos rfl]
      · have rf : rt = false := by rw [hrt]; exact decide_eq_false z
        rw [e8 (by omega)]
        exact bm7.jn (w10 rf).1 (w10 rf).2.1 (w10 rf).2.2.1
    · rw [hX1]
      show X i = ((X i || i == g) && i != g)
      by_cases z : i = g
      · rw [z]
        cases hx : X g
        · simp
        · have := ox g hg hx
          omega
      · have y1 : (i == g) = false := by simpa using z
        have y2 : (i != g) = true := by simpa using z
        rw [y1, y2, Bool.or_false, Bool.and_true]
  have sr : SR V s s1 := by
    refine ⟨(o2.tr sr7.1).tr x2, fun i hi q => ?_, fun k hk => ?_⟩
    · have ne : i ≠ g := fun z => q (by rw [z]; exact kg)
      rw [r11 i ne, sr7.2.1 i hi (kpa.us hi q), q1 i, if_neg ne]
    · rw [rk1 k (by omega) (by omega) (by omega), sr7.2.2 k hk, q6 k (by omega)]
  refine ⟨d2, wn2, s1, u7, k', f7, ?_, ⟨?_, tb7, mk7, ?_, ?_, bm1, ⟨u74, fun q hq b => ?_, fun q hq b => by rw [rk1 6 (by decide) (by decide) (by decide)]; exact ax7 q hq b⟩, fun i hi => ?_, D99, fun i hi x => ?_⟩, sr, kp, by omega, by omega, by omega, fun t ht ht1 => ?_, fun z => ?_⟩
  · rw [ge, r3, x1]
  · refine tr7.drop (fun t ht ht1 z1 z2 => ?_)
    have e : t = g := by
      rw [hX1] at z1
      simpa [z2] using z1
    rw [e, ← v_cc_in]
    exact r6
  · refine MS.cg x3 (fun i hi => ?_)
    unfold bump
    by_cases z : i + 1 = D
    · rw [if_pos z, if_pos z, cnD i hi]
    · rw [if_neg z, if_neg z, cnD i hi]
  · intro i hi
    have : s1.1 472 i = oI ((if i = D then g else nd i : Nat) : Int) ∧ s1.1 474 i = oI (if i = D then (s.1 462 22).toInt else wt i) := x4 i hi
    rw [if_neg (by omega), if_neg (by omega)] at this
    exact this
  · refine ⟨(al7 q hq b).1, ?_⟩
    rw [rk1 6 (by decide) (by decide) (by decide)]
    exact (al7 q hq b).2
  · refine ⟨?_, (cd i hi).2⟩
    unfold bump
    by_cases z : i + 1 = D
    · rw [if_pos z]
      have rf : rt = false := by rw [hrt]; exact decide_eq_false (by omega)
      have o4 := (hin rf).2.2.2.1
      have := v_cc_le V sp
      have : i = D - 1 := by omega
      rw [this]
      omega
    · rw [if_neg z]
      exact (cd i hi).1
  · have h1 := ox i hi x
    rw [(kp.1 i hi (by omega)).1]
    exact h1
  · have ne : t ≠ g := fun z => by rw [z] at ht1; omega
    have u1 : V1 8 t ≤ 1 := by rw [a8 t ht, if_neg ne]; exact ht1
    rw [r10 t ht u1 (by omega)]
    exact i4 t ht ht1
  · exact ⟨g, hg, by rw [kp7.2.2 0 (by omega) (Or.inr rfl)]; exact (i2 z).2, x5⟩
end RBN
end
section
/-! THE RELATION: read (19): what a text says, made on both sides: the children of a split; the whole text -/
section RBO
variable {n : Nat} {c : Nat → Int32} {V : VW} {d : Nat → Nat} {wn : Nat → Int} {X : Nat → Bool}
theorem QQ.we {m : Nat} {s s1 : Sg} {p u D p1 : Nat} {cn nd : Nat → Nat} {wt : Nat → Int} (h : QQ n c V d wn X m s p u D cn nd wt) (f : Fz s s1) (mt : MT n c s1 p1) (w : s1.1 462 16 = -1) : QQ n c V d wn X m s1 p1 u D cn nd wt := by
  obtain ⟨tr, tb, mk, ms, ns, bm, ⟨u4, al, ax⟩, cd, D99, ox⟩ := h
  have e : s1.1 463 = s.1 463 := f.2.1 463 (by omega)
  exact ⟨tr, tb, mk, ms.we f mt w, fun i hi => by rw [f.2.1 472 (by omega), f.2.1 474 (by omega)]; exact ns i hi, by rw [e]; exact bm, ⟨u4, by rw [e]; exact al, by rw [e]; exact ax⟩, cd, D99, ox⟩
/-- the next child -/
theorem r_child (T : Tt n c) {sp : Int} {j p m : Nat} {w : Int} {p1 p2 m2 : Nat} {V2 : VW} {N : Nat} (wt0 : Wt n c p w p1) (ih : ∀ d wn X s u D cn nd wt f, QQ n c V d wn X m s p1 u D cn nd wt → N ≤ frees V → 3 * D ≤ p1 → 200 ≤ f + p1 → false = decide (D = 0) → (false = true → V 5 0 = -1) → (false = false → (1 ≤ w ∧ w ≤ 1000000) ∧ sp = (nd (D - 1) : Int) ∧ V 8 (nd (D - 1)) ≤ 1 ∧ cn (D - 1) = v_cc V sp ∧ s.1 462 22 = oI w) → ∃ d' wn' s1 u1 k f1, fX9_goes_27 462 f s 1 1 = Kont1 k f1 s1 ∧ QQ n c V2 d' wn' X m2 s1 p2 u1 D (bump cn D) nd wt ∧ SR V s s1 ∧ KP false V V2 ∧ frees V2 + N = frees V ∧ 200 ≤ k + p2 ∧ 200 ≤ f1 + p2 ∧ (∀ t : Nat, t < 23 → V 8 t ≤ 1 → v_cc V2 t = v_cc V t + (if false = false ∧ (t : Int) = sp then 1 else 0)) ∧ (false = true → ∃ g : Nat, g < 23 ∧ V2 5 0 = g ∧ s1.1 462 21 = oI g)) {s : Sg} {u D : Nat} {cn nd : Nat → Nat} {wt : Nat → Int} {f : Nat} (qq : QQ n c V d wn X m s p u D cn nd wt) (nf : N ≤ frees V) (D0 : 0 < D) (D3 : 3 * D ≤ p + 1) (hfu : 200 ≤ f + p) (hsp : sp = (nd (D - 1) : Int)) (h8 : V 8 (nd (D - 1)) ≤ 1) (hj : v_cc V sp = j) (hc : cn (D - 1) = j) : ∃ d' wn' s6 s1 u1 k f1, fX9_readsWeight s 462 = some s6 ∧ s6.1 462 16 = -1 ∧ fX9_goes_27 462 f s6 1 1 = Kont1 k f1 s1 ∧ QQ n c V2 d' wn' X m2 s1 p2 u1 D (bump cn D) nd wt ∧ SR V s s1 ∧ KP false V V2 ∧ frees V2 + N = frees V ∧ 200 ≤ k + p2 ∧ 200 ≤ f1 + p2 ∧ v_cc V2 sp = j + 1 ∧ bump cn D (D - 1) = j + 1 ∧ ∀ t : Nat, t < 23 → V 8 t ≤ 1 → (t : Int) ≠ sp → v_cc V2 t = v_cc V t := by
  obtain ⟨w1, w2, w3, w4⟩ := wt0
  obtain ⟨s6, x1, x2, x3, x4, x5⟩ := w4 s qq.2.2.2.1.1 qq.2.2.2.1.2.1
  have n23 := (qq.2.2.2.2.2.2.2.1 (D - 1) (by omega)).2
  obtain ⟨d', wn', s1, u1, k, f1, y1, y2, y3, y4, y5, y6, y7, y8, -⟩ := ih d wn X s6 u D cn nd wt f (qq.we x2 x3 x4) nf (by omega) (by omega) (decide_eq_false (by omega)).symm (fun z => by cases z) (fun _ => ⟨w1, hsp, h8, by rw [hc, hj], x5⟩)
  have f0 : SR V s s6 := SR.fk (Fk.fz x2)
  have sr : SR V s s1 := ⟨f0.1.tr y3.1, fun i hi q => (y3.2.1 i hi q).trans (f0.2.1 i hi q), fun k hk => (y3.2.2 k hk).trans (f0.2.2 k hk)⟩
  refine ⟨d', wn', s6, s1, u1, k, f1, x1, x4, y1, y2, sr, y4, y5, y6, y7, ?_, ?_, fun t ht ht1 ne => ?_⟩
  · have := y8 (nd (D - 1)) n23 h8
    rw [if_pos ⟨rfl, hsp.symm⟩, ← hsp, hj] at this
    exact this
  · unfold bump
    rw [if_pos (by omega), hc]
  · rw [y8 t ht ht1, if_neg (fun z => ne z.2)]
    omega
theorem r_more (T : Tt n c) : ∀ sp j p m V w p1 p2 m2 V2 p' m' V', Wt n c p w p1 → RTi n c false sp w p1 m V p2 m2 V2 → cdm n c p2 = 44 → RKi n c sp (j + 1) (p2 + 1) m2 V2 p' m' V' → RKi n c sp j p m V p' m' V' := by
  intro sp j p m V w p1 p2 m2 V2 p' m' V' wt0 rt e44 rk hm
  have n120 := T.1
  have p2n : p2 < n := cd_lt (by decide) e44
  obtain ⟨N1, b1, b2, b3, b4, ih1⟩ := rt hm
  obtain ⟨N2, c1, c2, c3, c4, ih2⟩ := rk b1
  rw [if_neg (show ¬ j + 1 = 0 by omega)] at c2
  have pp : p < p1 := wt0.2.1
  refine ⟨N1 + N2, c1, ?_, by omega, c4, ?_⟩
  · by_cases z : j = 0
    · rw [if_pos z]
      omega
    · rw [if_neg z]
      omega
  intro d wn X s u D cn nd wt f qq nf D0 D3 hfu hsp h8 hj hc
  obtain ⟨d2, wn2, s6, s2, u2, k2, f2, x1, x2, x3, x4, x5, x6, x7, x8, x9, x10, x11, x12⟩ := r_child T wt0 ih1 qq (by omega) D0 D3 hfu hsp h8 hj hc
  obtain ⟨k', rfl⟩ : ∃ k', k2 = k' + 1 := ⟨k2 - 1, by omega⟩
  have n23 := (qq.2.2.2.2.2.2.2.1 (D - 1) (by omega)).2
  have D99 := qq.2.2.2.2.2.2.2.2.1
  obtain ⟨s3, hs3⟩ : ∃ s3 : Sg, s3 = su s2 462 15 (nI (p2 + 1)) := ⟨_, rfl⟩
  have fz : Fz s2 s3 := by rw [hs3]; exact Fz.st (by omega)
  have ms3 : MS n c s3 (p2 + 1) u2 D (bump cn D) := by rw [hs3]; exact x4.2.2.2.1.at _
  have h82 : V2 8 (nd (D - 1)) ≤ 1 := by
    rw [(x6.1 (nd (D - 1)) n23 (by omega)).1]
    exact h8
  obtain ⟨d3, wn3, s7, s1, u1, k1, f1, cn', y1, y2, y3, y4, y5, y6, y7, y8, y9, y10, y11, y12, y13⟩ := ih2 d2 wn2 X s3 u2 D (bump cn D) nd wt f2 (x4.we fz ms3.1 ms3.2.1) (by omega) D0 (by omega) (by omega) hsp h82 x10 x11
  have kc := k1_comma T x4.2.2.2.1 (by omega) D0 D99 e44 k' f2 (by rw [← hs3]; exact y1) y2
  have f0 : SR V2 s2 s3 := SR.fk (Fk.fz fz)
  have sr3 : SR V2 s2 s1 := ⟨f0.1.tr y8.1, fun i hi q => (y8.2.1 i hi q).trans (f0.2.1 i hi q), fun k hk => (y8.2.2 k hk).trans (f0.2.2 k hk)⟩
  refine ⟨d3, wn3, s6, s1, u1, k1, f1, cn', x1, x2, ?_, y4, fun i hi => ?_, y6, y7, x5.tr x6 sr3, x6.tr y9, by omega, y11, y12, fun t ht ht1 ne => ?_⟩
  · rw [x3, kc, y3]
  · rw [y5 i hi]
    unfold bump
    rw [if_neg (by omega)]
  · have u1 : V2 8 t ≤ 1 := by
      rw [(x6.1 t ht (by omega)).1]
      exact ht1
    rw [y13 t ht u1 ne, x12 t ht ht1 ne]
theorem r_last (T : Tt n c) : ∀ sp j p m V w p1 p2 m2 V2, 1 ≤ j → Wt n c p w p1 → RTi n c false sp w p1 m V p2 m2 V2 → cdm n c p2 = 41 → RKi n c sp j p m V p2 m2 V2 := by
  intro sp j p m V w p1 p2 m2 V2 hj1 wt0 rt e41 hm
  obtain ⟨N1, b1, b2, b3, b4, ih1⟩ := rt hm
  have pp : p < p1 := wt0.2.1
  refine ⟨N1, b1, ?_, by omega, b4, ?_⟩
  · rw [if_neg (by omega)]
    omega
  intro d wn X s u D cn nd wt f qq nf D0 D3 hfu hsp h8 hj hc
  obtain ⟨d2, wn2, s6, s2, u2, k2, f2, x1, x2, x3, x4, x5, x6, x7, x8, x9, x10, x11, x12⟩ := r_child T wt0 ih1 qq nf D0 D3 hfu hsp h8 hj hc
  exact ⟨d2, wn2, s6, s2, u2, k2, f2, bump cn D, x1, x2, x3, x4, fun i hi => by unfold bump; rw [if_neg (by omega)], by rw [x11, x10], by rw [x10]; omega, x5, x6, x7, x8, x9, x12⟩
theorem r_clo (T : Tt n c) : Clo n c (RTi n c) (RKi n c) := ⟨r_grp T, r_split T, r_more T, r_last T⟩
/-- the reference makes the whole text -/
theorem r_all (T : Tt n c) {m m1 : Nat} {V' : VW} (par : ParT n c true (-1) 0 0 m V n m1 V') (hm : m < 4096) (tr : Tree V d wn (fun _ => false)) (tb : Tabs V (fun _ => false)) (mk : Msk V m) (h0 : V 5 0 = -1) (fr : 2 * bits m ≤ frees V + 1) {s : Sg} {cn : Nat → Nat} (ms : MS n c s 0 0 0 cn) (vm : VM (mv (s.1 463)) V (fun _ => false)) (al : ∀ q, q < 12 → Nat.testBit m q = true → mv (s.1 463) 6 q = 1) (ax : ∀ q, q < 12 → V 13 q ≠ -1 → mv (s.1 463) 6 q = 1) : ∃ d' wn' s1, fX9_goes_27 462 FU s 1 1 = some (-1, s1) ∧ Fy1 s s1 ∧ Tree V' d' wn' (fun _ => false) ∧ Tabs V' (fun _ => false) ∧ BMr (mv (s1.1 463)) V' (fun _ => false) ∧ KP true V V' ∧ (∀ k, (6 ≤ k ∧ k ≤ 8) ∨ 12 ≤ k → mv (s1.1 463) k = mv (s.1 463) k) ∧ ∃ g : Nat, g < 23 ∧ V' 5 0 = g ∧ s1.1 462 21 = oI g ∧ ∀ q, q < 12 → V' 13 q ≠ -1 → mv (s1.1 463) 6 q = 1 := by
  have n120 := T.1
  obtain ⟨N, c1, c2, c3, c4, ih⟩ := par _ _ (r_clo T) hm
  have fu : FU = 6000 := rfl
  have qq : QQ n c V d wn (fun _ => false) m s 0 0 0 cn (fun _ => 0) (fun _ => 0) := ⟨tr, tb, mk, ms, fun i hi => absurd hi (by omega), vm.bm _, ⟨by omega, fun q hq b => ⟨Nat.zero_testBit q, al q hq b⟩, ax⟩, fun i hi => absurd hi (by omega), by omega, fun i hi x => by cases x⟩
  obtain ⟨d', wn', s1, u1, k, f1, y1, y2, y3, y4, y5, y6, y7, y8, y9⟩ := ih d wn _ s 0 0 cn _ _ FU qq (by omega) (by omega) (by omega) (decide_eq_true rfl).symm (fun _ => h0) (fun z => by cases z)
  obtain ⟨k', rfl⟩ : ∃ k', k = k' + 1 := ⟨k - 1, by omega⟩
  obtain ⟨f', rfl⟩ : ∃ f', f1 = f' + 1 := ⟨f1 - 1, by omega⟩
  obtain ⟨tr', tb', mk', ms', ns', bm', ⟨-, -, ax'⟩, -⟩ := y2
  obtain ⟨g, hg, g5, g21⟩ := y9 rfl
  exact ⟨d', wn', s1, by rw [y1, k1_root ms' n120 k' f' rfl], y3.1, tr', tb', bm', y4, y3.2.2, g, hg, g5, g21, ax'⟩
end RBO
end
section
/-! THE RELATION: read (20): c_read -/
section RBP
variable {σ s : Sg} {n : Nat} {c : Nat → Int32} {d : Nat → Nat} {wn : Nat → Int}
theorem BMr.w0 {U V : VW} {O : Nat → Bool} (h : BMr U V O) (x : Int) : BMr (mu U 17 0 x) V O := by
  obtain ⟨h1, h2, h3, h4, h5, h6, h7, h8, h9, h10⟩ := h
  have r : ∀ j, j ≠ 17 → mu U 17 0 x j = U j := fun j hj => mu_ne hj
  unfold BMr PR
  rw [r 0 (by decide), r 1 (by decide), r 2 (by decide), r 3 (by decide), r 4 (by decide), r 5 (by decide), r 9 (by decide), r 10 (by decide), r 11 (by decide), r 12 (by decide), r 13 (by decide), r 14 (by decide), r 15 (by decide), r 16 (by decide), r 18 (by decide), r 19 (by decide)]
  refine ⟨h1, h2, h3, h4, h5, h6, fun w hw => ⟨(h7 w hw).1, fun w0 => ?_, (h7 w hw).2.2⟩, h8, h9, h10⟩
  rw [mu_at, if_neg w0]
  exact (h7 w hw).2.1 w0
theorem cnt_m1 (V : VW) : cnt (fun p => decide (V 13 p = -1)) 12 + cnt (fun p => decide (V 13 p ≠ -1)) 12 = 12 := by
  have h : cnt (fun _ => true) 12 = cnt (fun p => decide (V 13 p = -1)) 12 + cnt (fun p => decide (V 13 p ≠ -1)) 12 := cnt_split (fun i _ => by
    by_cases x : V 13 i = -1 <;> simp [x])
  have : cnt (fun _ => true) 12 = 12 := by decide
  omega
/-- the reference begins to read -/
theorem g_start {s0 : Sg} (e5 : s0.1 462 5 = nI n) (e65 : ∀ i, i < n → s0.1 465 i = c i) (x : Int32) : ∃ s5, fX9_goes s0 462 x = fX9_goes_27 462 FU s5 x 1 ∧ MS n c s5 0 0 0 (fun _ => 0) ∧ Fy1 s0 s5 ∧ s5.1 463 = s0.1 463 := by
  obtain ⟨s5, hs5⟩ : ∃ s5 : Sg, s5 = su (su (su (su (su s0 462 15 0) 462 16 (-1)) 462 19 0) 462 20 0) 462 22 0 := ⟨_, rfl⟩
  have x5 : ∀ y, y ≠ 462 → s5.1 y = s0.1 y := fun y hy => by rw [hs5, su_ne hy, su_ne hy, su_ne hy, su_ne hy, su_ne hy]
  have j5 : ∀ j, (j < 15 ∨ 22 < j ∨ j = 17 ∨ j = 18) → s5.1 462 j = s0.1 462 j := fun j h15 => by
    rw [hs5, su_at, if_neg (by omega), su_at, if_neg (by omega), su_at, if_neg (by omega), su_at, if_neg (by omega), su_at, if_neg (by omega)]
  refine ⟨s5, ?_, ⟨⟨?_, fun i hi => ?_, ?_⟩, ?_, ?_, ?_, fun i hi => absurd hi (by omega)⟩, ⟨by rw [hs5]; rfl, fun x h1 _ _ _ _ => x5 x h1, j5⟩, x5 463 (by omega)⟩
  · unfold fX9_goes
    rw [j_nm, j_nm, j_nm, j_nm, j_nm, ← hs5]
  · rw [j5 5 (by omega)]; exact e5
  · rw [x5 465 (by omega)]; exact e65 i hi
  · rw [hs5, su_at, if_neg (by omega), su_at, if_neg (by omega), su_at, if_neg (by omega), su_at, if_neg (by omega), su_at, if_pos ⟨rfl, rfl⟩]; rfl
  · rw [hs5, su_at, if_neg (by omega), su_at, if_neg (by omega), su_at, if_neg (by omega), su_at, if_pos ⟨rfl, rfl⟩]
  · rw [hs5, su_at, if_neg (by omega), su_at, if_neg (by omega), su_at, if_pos ⟨rfl, rfl⟩]; rfl
  · rw [hs5, su_at, if_neg (by omega), su_at, if_pos ⟨rfl, rfl⟩]; rfl
/-- the new layout -/
theorem rd_inv {V V' : VW} {d' : Nat → Nat} {wn' : Nat → Int} (h : Inv V d wn) (kp : KP true V V') (tr : Tree V' d' wn' (fun _ => false)) (tb : Tabs V' (fun _ => false)) : Inv V' d' wn' := by
  obtain ⟨k8, kj, k5⟩ := kp
  refine ⟨tr, tb, ?_, h.2.2.2.cg (kj 1 (by omega)) (kj 2 (by omega)) (kj 3 (by omega)) (kj 4 (by omega))⟩
  have : odp V' = odp V := by
    unfold odp
    rw [kj 6 (by omega), kj 7 (by omega)]
  rw [this]
  refine h.2.2.1.cg (fun w hw => ?_)
  unfold flw
  by_cases z : w = 0
  · rw [z]
    rfl
  · rw [k5 w hw (Or.inl z)]
/-- the reference makes the tree of a good text -/
theorem m_read {S : ST} (hS : SI S) (T : Tt n c) {m1 : Nat} {V' : VW} (par : ParT n c true (-1) 0 0 (setn (alS S) 12) (wds (own (S_pl S)) (S_pl S) 12) n m1 V') {s0 : Sg} (sm : SM (mv (s0.1 463)) S) (e5 : s0.1 462 5 = nI n) (e65 : ∀ i, i < n → s0.1 465 i = c i) : SI (pfS S (fc (plc V') (S_fo S) 12) V') ∧ ∃ s1, fX9_read_29 462 FU s0 0 = some (oI (v_pi V' 0), s1) ∧ SM (mv (s1.1 463)) (pfS S (fc (plc V') (S_fo S) 12) V') ∧ Fy1 s0 s1 := by
  obtain ⟨d, wn, hI⟩ := id hS.2.2.2.2.1
  obtain ⟨W, hW⟩ : ∃ W : VW, W = wds (own (S_pl S)) (S_pl S) 12 := ⟨_, rfl⟩
  obtain ⟨iw, w13⟩ := wds_inv (c := own (S_pl S)) hI 12 (Nat.le_refl _)
  have w0 := emp_root hI
  obtain ⟨s9, a1, a2, a3, a4⟩ := m_clear sm.2.1 hI
  rw [← hW] at iw w13 w0 a3 par
  have al : ∀ q, q < 12 → Nat.testBit (setn (alS S) 12) q = true → exB S q = true ∧ W 13 q = -1 := fun q hq b => by
    rw [setn_bit, decide_eq_true hq, Bool.true_and] at b
    unfold alS at b
    rw [← hW] at b
    simpa using b
  have ex6 : ∀ q, q < 12 → exB S q = true → mv (s9.1 463) 6 q = 1 := fun q hq x => by
    rw [a4 6 (by omega), (sm.1 q hq).1, if_pos x]
  obtain ⟨s5, b1, b2, b3, r63⟩ := g_start (s0 := s9) (n := n) (c := c) (by rw [a2.2 462 (by omega)]; exact e5) (fun i hi => by rw [a2.2 465 (by omega)]; exact e65 i hi) 1
  have fr : 2 * bits (setn (alS S) 12) ≤ frees W + 1 := by
    have f1 := few_nodes iw.1 iw.2.1
    have f2 := cnt_free W
    have f3 := cnt_m1 W
    have f4 : bits (setn (alS S) 12) ≤ cnt (fun p => decide (W 13 p = -1)) 12 := cnt_mono (fun q hq b => decide_eq_true (al q hq b).2)
    unfold frees
    omega
  obtain ⟨d', wn', s6, c1, c2, c3, c4, c5, c6, c7, g, hg, g5, g21, ax⟩ := r_all T par (setn_lt _ 12 (Nat.le_refl _)) iw.1 iw.2.1 (fun q hq b => ⟨(al q hq b).2, (iw.2.1.no hq (al q hq b).2).2⟩) w0 fr b2 (by rw [r63]; exact a3) (fun q hq b => by rw [r63]; exact ex6 q hq (al q hq b).1) (fun q hq z => by
    rw [r63]
    refine ex6 q hq (hS.2.2.2.1 q hq (fun y => z ?_))
    rw [w13 q hq, y]
    by_cases x : q < 12 ∧ own (S_pl S) q = true
    · rw [if_pos x]
    · rw [if_neg x])
  have hI' : Inv V' d' wn' := rd_inv iw c6 c3 c4
  have k9 : ∀ k, (6 ≤ k ∧ k ≤ 8) ∨ 20 ≤ k → mv (s6.1 463) k = mv (s0.1 463) k := fun k hk => by
    rw [c7 k (by omega), r63, a4 k hk]
  have hO := hS.2.2.2.2.2.1
  have hSI : SI (pfS S (fc (plc V') (S_fo S) 12) V') := by
    refine hS.pf hI' (fun p hp z => ?_) ((fc_LO hO 12 (by omega)).cg (fun i hi => by rw [if_pos hi]))
    have := ax p hp z
    rw [k9 6 (by omega), (sm.1 p hp).1] at this
    cases q : exB S p
    · rw [q] at this
      exact absurd this (by decide)
    · rfl
  refine ⟨hSI, ?_⟩
  obtain ⟨s7, x1, x2, x3⟩ := m_s5 (σ := s6) (a := 0) (w := 0) jz0 (by omega) (s6.1 462 21)
  have e21 : (s6.1 462 21).toInt = V' 5 0 := by rw [g21, g5, j_oI (by omega) (by omega)]
  have x3 : mv (s7.1 463) = mu (mv (s6.1 463)) 17 0 (V' 5 0) := by rw [x3, e21]
  have vm7 : VM (mv (s7.1 463)) V' (fun _ => false) := by
    rw [x3]
    exact (c5.w0 (V' 5 0)).vm (by rw [mu_at, if_pos rfl])
  have k7 : ∀ k, (6 ≤ k ∧ k ≤ 8) ∨ 20 ≤ k → mv (s7.1 463) k = mv (s0.1 463) k := fun k hk => by
    rw [x3, mu_ne (by omega)]
    exact k9 k hk
  have oe7 : OE (mo (mv (s7.1 463)) 20) (S_fo S) := by
    have := sm.2.2.1
    unfold mo at this ⊢
    rw [k7 20 (by omega), k7 21 (by omega)]
    exact this
  obtain ⟨s8, y1, y2, y3, y4⟩ := m_focuses (σ := s7) (o := S_fo S) (c := plc V') (fun p hp => by rw [vm7.gr hp]; rfl) oe7 (hO.di (by decide)) hO.pn
  have vm8 : VM (mv (s8.1 463)) V' (fun _ => false) := vm7.rows (fun j hj => y4 j (by omega) (by omega))
  have pin := m_placedIn vm8 c3 c4 0
  refine ⟨s8, ?_, ?_, ?_⟩
  · rw [a1]
    unfold rdG
    rw [b1, c1, j_b]
    dsimp only
    rw [x1, j_b, y1, j_b, pin, j_b]
    rfl
  · refine ⟨fun p hp => ?_, vm8, y3, fun k hk => ?_⟩
    · rw [y4 6 (by decide) (by decide), y4 7 (by decide) (by decide), y4 8 (by decide) (by decide), k7 6 (by omega), k7 7 (by omega), k7 8 (by omega)]
      exact sm.1 p hp
    · rw [y4 (22 + k) (by omega) (by omega), k7 (22 + k) (by omega)]
      exact sm.2.2.2 k hk
  · exact (((Fy1.ou a2).tr b3).tr c2).tr ((Fy1.ou x2).tr (Fy1.ou y2))
end RBP
end
