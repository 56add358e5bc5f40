/-! THE RELATION: texts (3): the tabs of a group, both sides -/
section RAV
variable {n : Nat} {c : Nat → Int32} {σ s : Sg} {p m : Nat}
theorem m_g121 (K : Sg → Int32 → Int32 → Int32 → Option Sg) (st : Bool) (l3 l4 l5 l6 s1 s2 : Int32) : fX9_readsGroup_121 462 K s 0 (b2i st) l3 l4 l5 l6 s1 s2 = fX9_readsGroup_238 462 K (su s 462 15 (s1 + s2)) 0 (b2i (st || !decide (l6 = 0))) l3 := by
  unfold fX9_readsGroup_121 fX9_readsGroup_134 fX9_readsGroup_139
  rw [j_nm]
  cases st
  · rw [show b2i false = 0 from rfl, if_pos rfl, if_pos rfl]
    by_cases z : l6 = 0
    · rw [if_pos z, decide_eq_true z]
      rfl
    · rw [if_neg z, if_pos rfl, decide_eq_false z]
      rfl
  · rw [show b2i true = 1 from rfl, if_neg (show ¬ ((1 : Int32) = 0) by decide), if_pos rfl]
    rfl
theorem m_g99 (K : Sg → Int32 → Int32 → Int32 → Option Sg) (st : Bool) (l3 l4 l5 l6 : Int32) : fX9_readsGroup_99 462 K s 0 (b2i st) l3 l4 l5 l6 = fX9_readsGroup_121 462 K s 0 (b2i st) l3 l4 l5 l6 (s.1 462 15) (if l5 = 0 ∧ l6 = 0 then 0 else 1) := by
  unfold fX9_readsGroup_99 fX9_readsGroup_116
  by_cases z : l5 = 0
  · by_cases y : l6 = 0
    · rw [if_pos z, if_pos y, if_pos ⟨z, y⟩]
    · rw [if_pos z, if_neg y, if_neg (fun w => y w.2)]
  · rw [if_neg z, if_neg (fun w => z w.1)]
/-- one tab on the reference's side, when nothing is made -/
theorem m_tab0 (T : Tt n c) {al : Nat → Bool} {r : Nat → Int32} (ha : HA n c al r) (hr : s.1 463 = r) (mt : MT n c s p) {q : Nat} (hq : q < 12) (hp : p < n) (e : c p = nI (97 + q)) (w : s.1 462 16 = -1) {u : Nat} (hu : s.1 462 20 = nI u) (u4 : u < 4096) (a1 : al q = true) (a2 : Nat.testBit u q = false) {st st' : Bool} {kk p2 : Nat} (k : Mk n c st (p + 1) kk p2 st') (h2 : p2 ≤ n) (f : Nat) (j : Int32) : ∃ s2, Fg s s2 ∧ MT n c s2 p2 ∧ s2.1 462 16 = -1 ∧ s2.1 462 20 = nI (u ||| 2 ^ q) ∧ fX9_readsGroup_17 462 (f + 1) s 0 (b2i st) j = (if ltr n c p2 = true then fX9_readsGroup_17 462 f s2 0 (b2i st') (j + 1) else some s2) := by
  have n120 := T.1
  have eq97 : (nI (97 + q)).toInt = ((97 + q : Nat) : Int) := j_nI (by omega)
  have px : pnx al u (cdm n c p) = true := by
    unfold pnx
    rw [(cd_in hp).2, e, eq97, decide_eq_true (by omega), show (((97 + q : Nat) : Int) - 97).toNat = q by omega, a1, a2]
    rfl
  obtain ⟨w3, hw3⟩ : ∃ w3 : Sg, w3 = su s 462 20 (nI (u ||| 2 ^ q)) := ⟨_, rfl⟩
  have w315 : w3.1 462 15 = nI p := by rw [hw3, su_at, if_neg (by omega)]; exact mt.2.2
  obtain ⟨w4, hw4⟩ : ∃ w4 : Sg, w4 = su w3 462 15 (nI (p + 1)) := ⟨_, rfl⟩
  have f4 : Fg s w4 := by rw [hw4, hw3]; exact (Fg.st (by omega)).tr (Fg.st (by omega))
  have mt4 : MT n c w4 (p + 1) := mt.fg f4 (by rw [hw4, su_at, if_pos ⟨rfl, rfl⟩])
  have g16 : w4.1 462 16 = -1 := by rw [hw4, su_at, if_neg (by omega), hw3, su_at, if_neg (by omega)]; exact w
  have g20 : w4.1 462 20 = nI (u ||| 2 ^ q) := by rw [hw4, su_at, if_neg (by omega), hw3, su_at, if_pos ⟨rfl, rfl⟩]
  have start : fX9_readsGroup_17 462 (f + 1) s 0 (b2i st) j = if cdm n c (p + 1) = 45 then fX9_readsGroup_79 462 (fX9_readsGroup_17 462 f) w4 0 (b2i st) j (nI q) 1 else fX9_readsGroup_79 462 (fX9_readsGroup_17 462 f) w4 0 (b2i st) j (nI q) 0 := by
    rw [fX9_readsGroup_17, ha s p u hr mt (by omega) hu u4, j_b, px, if_pos rfl, m_next mt n120 (by omega), j_b, (cd_in hp).2, e, l_sub hq, j_nm, hu, bt_or hq, ← hw3, j_nm, w315, j_s, ← hw4, j_nm, m_next mt4 n120 (by omega), j_b]
  have n79 : ∀ s0 : Int32, fX9_readsGroup_79 462 (fX9_readsGroup_17 462 f) w4 0 (b2i st) j (nI q) s0 = if cdm n c (p + 1) = 42 then (if b2i st = 0 then fX9_readsGroup_99 462 (fX9_readsGroup_17 462 f) w4 0 (b2i st) j (nI q) s0 1 else fX9_readsGroup_98 462 (fX9_readsGroup_17 462 f) w4 0 (b2i st) j (nI q) s0) else fX9_readsGroup_98 462 (fX9_readsGroup_17 462 f) w4 0 (b2i st) j (nI q) s0 := fun s0 => by
    unfold fX9_readsGroup_79
    rw [m_next mt4 n120 (by omega), j_b]
  have fin : ∀ (q2 : Nat) (b : Bool) (a : Int32), nI (p + 1) + a = nI q2 → q2 = p2 → fX9_readsGroup_238 462 (fX9_readsGroup_17 462 f) (su w4 462 15 (w4.1 462 15 + a)) 0 (b2i b) j = (if ltr n c p2 = true then fX9_readsGroup_17 462 f (su w4 462 15 (nI p2)) 0 (b2i b) (j + 1) else some (su w4 462 15 (nI p2))) := fun q2 b a ea eq => by
    rw [mt4.2.2, ea, eq]
    unfold fX9_readsGroup_238
    have mt5 : MT n c (su w4 462 15 (nI p2)) p2 := mt4.fg (Fg.st (by omega)) (by rw [su_at, if_pos ⟨rfl, rfl⟩])
    rw [m_next mt5 n120 h2, j_b, m_within, j_b, i97, i108]
    rfl
  refine ⟨su w4 462 15 (nI p2), f4.tr (Fg.st (by omega)), mt4.fg (Fg.st (by omega)) (by rw [su_at, if_pos ⟨rfl, rfl⟩]), by rw [su_at, if_neg (by omega)]; exact g16, by rw [su_at, if_neg (by omega)]; exact g20, ?_⟩
  have a0 : nI (p + 1) + 0 = nI (p + 1) := j_a (p + 1) 0
  rcases k with ⟨k1, k2, k3, k4⟩ | ⟨k1, k0, k2, k3, k4⟩ | ⟨k1, k2, k0, k3, k4⟩
  · rw [start, if_pos k2, n79, if_neg (by rw [k2]; decide), fX9_readsGroup_98, m_g99, if_neg (by decide), m_g121, decide_eq_true rfl, fin (p + 1 + 1) (st || !true) 1 (j_s (p + 1)) (by omega), k4]
    cases st <;> rfl
  · rw [start, if_neg (by rw [k2]; decide), n79, if_pos k2, if_pos (by rw [k0]; rfl), m_g99, if_neg (by decide), m_g121, decide_eq_false (by decide), fin (p + 1 + 1) (st || !false) 1 (j_s (p + 1)) (by omega), k4]
    cases st <;> rfl
  · have e98 : (if cdm n c (p + 1) = 42 then (if b2i st = 0 then fX9_readsGroup_99 462 (fX9_readsGroup_17 462 f) w4 0 (b2i st) j (nI q) 0 1 else fX9_readsGroup_98 462 (fX9_readsGroup_17 462 f) w4 0 (b2i st) j (nI q) 0) else fX9_readsGroup_98 462 (fX9_readsGroup_17 462 f) w4 0 (b2i st) j (nI q) 0) = fX9_readsGroup_98 462 (fX9_readsGroup_17 462 f) w4 0 (b2i st) j (nI q) 0 := by
      by_cases z : cdm n c (p + 1) = 42
      · cases hs : st
        · exact absurd z (k0 hs)
        · rw [if_pos z, if_neg (by decide)]
      · rw [if_neg z]
    rw [start, if_neg k2, n79, e98, fX9_readsGroup_98, m_g99, if_pos ⟨rfl, rfl⟩, m_g121, decide_eq_true rfl, fin (p + 1) (st || !true) 0 a0 (by omega), k4]
    cases st <;> rfl
theorem AL.tab {al : Nat → Bool} {m u q : Nat} (h : AL al m u) (hm : m < 4096) (hq : q < 12) : AL al (m &&& (4095 - 2 ^ q)) (u ||| 2 ^ q) := ⟨or_lt h.1 hq, fun i hi => by
  rw [and_bit hm hq, or_bit, h.2 i hi]
  by_cases z : i = q
  · rw [decide_eq_false (fun w => w z), decide_eq_true z, Bool.and_false, Bool.or_true]
    cases al i <;> rfl
  · rw [decide_eq_true z, decide_eq_false z, Bool.and_true, Bool.or_false]⟩
theorem sim_t7 (T : Tt n c) {al : Nat → Bool} {r : Nat → Int32} (ha : HA n c al r) (g : Int32) : ∀ (k fuel : Nat) (σ : Sg) (sp : Int) (p m j : Nat), CS n c σ p m → m < 4096 → p ≤ n → cnt (fun q => Nat.testBit m q) 12 + j ≤ 12 → j + k = 12 → k < fuel → (-1 ≤ sp ∧ sp < 12) → ∃ t σ1 p1 m1, fX6_passTabs_7 440 fuel σ g (oI sp) (nI j) (nI j) = some (decide (0 < j + t.length), σ1) ∧ CS n c σ1 p1 m1 ∧ m1 < 4096 ∧ Fc σ σ1 ∧ p ≤ p1 ∧ p1 ≤ n ∧ (t ≠ [] → p < p1 ∧ ltr n c p = true) ∧ Tb n c t (decide (sp ≠ -1)) p m p1 m1 ∧ pv σ1 443 = fing g.toInt (if sp = -1 then star t else sp) (btab g.toInt t (pv σ 443)) ∧ ∀ s u f, s.1 463 = r → MT n c s p → s.1 462 16 = -1 → s.1 462 20 = nI u → AL al m u → k < f → ∃ s1, fX9_readsGroup_17 462 f s 0 (b2i (decide (sp ≠ -1))) (nI j) = some s1 ∧ Fg s s1 ∧ ((t = [] ∨ ltr n c p1 = true) → s1.1 462 16 = nI p1) ∧ (t ≠ [] → ltr n c p1 = false → MT n c s1 p1 ∧ s1.1 462 16 = -1 ∧ ∃ u1, s1.1 462 20 = nI u1 ∧ AL al m1 u1) := by
  intro k
  induction k with
  | zero =>
    intro fuel σ sp p m j h hm hp hc hj hf hsp
    have n120 := T.1
    match fuel, hf with
    | f + 1, _ =>
      obtain ⟨σ1, a1, a2, a3, a4⟩ := s_tb139 g (nI j) sp hsp h
      have z0 : cnt (fun q => Nat.testBit m q) 12 = 0 := by omega
      refine ⟨[], σ1, p, m, ?_, a2, hm, a3, Nat.le_refl _, hp, fun w => absurd rfl w, ⟨rfl, rfl⟩, ?_, fun s u f hr mt w hu hal hf => ?_⟩
      · rw [fX6_passTabs_7, if_pos (by rw [j_le_nI (by omega), i12]; omega), a1, j_nI (by omega)]
        simp
      · rw [a4]
        by_cases z : sp = -1
        · rw [if_pos z, z]; rfl
        · rw [if_neg z]; rfl
      · match f, hf with
        | f + 1, _ =>
          refine ⟨su s 462 16 (nI p), ?_, Fg.st (by omega), fun _ => by rw [su_at, if_pos ⟨rfl, rfl⟩], fun z => absurd rfl z⟩
          have px : pnx al u (cdm n c p) = false := by
            unfold pnx
            by_cases z : 97 ≤ (cdm n c p).toInt ∧ (cdm n c p).toInt ≤ 108
            · rw [← hal.2 _ (by omega), (cnt_zero.mp z0) _ (by omega), Bool.and_false]
            · rw [decide_eq_false z, Bool.false_and]
          rw [fX9_readsGroup_17, ha s p u hr mt hp hu hal.1, j_b, px, if_neg Bool.false_ne_true, mt.2.2, j_nm]
  | succ k ih =>
    intro fuel σ sp p m j h hm hp hc hj hf hsp
    have n120 := T.1
    match fuel, hf with
    | f + 1, hf =>
      by_cases hl : ltr n c p = true ∧ Nat.testBit m ((cdm n c p).toInt - 97).toNat = true
      · obtain ⟨q, hq, pn, eq⟩ := ltr_sp T hl.1
        have eq97 : (nI (97 + q)).toInt = ((97 + q : Nat) : Int) := j_nI (by omega)
        have hb : Nat.testBit m q = true := by
          have := hl.2
          rwa [(cd_in pn).2, eq, eq97, show (((97 + q : Nat) : Int) - 97).toNat = q by omega] at this
        obtain ⟨σ2, kk, p2, st', k1, k2, k3, k4, k5, k6, k7⟩ := t_tab1 T h hm hq hb pn eq g hsp (j := j) (by omega) f
        have cn : cnt (fun i => Nat.testBit m i) 12 = cnt (fun i => Nat.testBit (m &&& (4095 - 2 ^ q)) i) 12 + 1 := cnt_one_more (i0 := q) hq (fun i _ ne => by rw [and_bit hm hq, decide_eq_true ne, Bool.and_true]) (by rw [and_bit hm hq, decide_eq_false (fun w => w rfl), Bool.and_false]) hb
        have sp2 : -1 ≤ (if kk = 2 then (q : Int) else sp) ∧ (if kk = 2 then (q : Int) else sp) < 12 := by
          by_cases z : kk = 2
          · rw [if_pos z]; omega
          · rw [if_neg z]; omega
        have p2gt : p < p2 := by
          rcases k1 with ⟨_, _, z, _⟩ | ⟨_, _, _, z, _⟩ | ⟨_, _, _, z, _⟩ <;> omega
        obtain ⟨t, σ1, p1, m1, b1, b2, b3, b4, b5, b6, b7, b8, b9, b10⟩ := ih f σ2 (if kk = 2 then (q : Int) else sp) p2 (m &&& (4095 - 2 ^ q)) (j + 1) k5 (m_lt hm) k2 (by omega) (by omega) (by omega) sp2
        rw [← k3] at b8 b10
        refine ⟨(q, kk) :: t, σ1, p1, m1, ?_, b2, b3, k6.tr b4, by omega, b6, fun _ => ⟨by omega, hl.1⟩, ⟨hq, hb, pn, eq, p2, st', k1, b8⟩, ?_, fun s u f2 hr mt w hu hal hf2 => ?_⟩
        · rw [k4, b1, List.length_cons, decide_eq_true (by omega), decide_eq_true (by omega)]
        · rw [b9, k7]
          show _ = fing g.toInt (if sp = -1 then (if kk = 2 then (q : Int) else star t) else sp) (btab g.toInt t (if kk = 1 then v_hide (v_join (pv σ 443) q g.toInt) q else v_join (pv σ 443) q g.toInt))
          congr 1
          by_cases z : sp = -1
          · rw [if_pos z]
            by_cases y : kk = 2
            · rw [if_pos y, if_pos y, if_neg (by omega)]
            · rw [if_neg y, if_neg y, if_pos z]
          · have y : kk ≠ 2 := fun y => by
              rcases k1 with ⟨a, _⟩ | ⟨_, a, _⟩ | ⟨a, _⟩
              · omega
              · exact z (Classical.byContradiction (fun w => absurd a (by rw [decide_eq_true w]; exact fun v => by cases v)))
              · omega
            rw [if_neg y, if_neg z, if_neg z]
        · match f2, hf2 with
          | f2 + 1, hf2 =>
            have am := hal.2 q hq
            rw [hb] at am
            have a1 : al q = true := by
              cases ea : al q
              · rw [ea, Bool.false_and] at am; cases am
              · rfl
            have a2 : Nat.testBit u q = false := by
              cases eb : Nat.testBit u q
              · rfl
              · rw [a1, eb] at am; cases am
            obtain ⟨s2, d1, d2, d3, d4, d5⟩ := m_tab0 T ha hr mt hq pn eq w hu hal.1 a1 a2 k1 k2 f2 (nI j)
            have al2 := hal.tab hm hq
            rw [d5, j_s]
            by_cases z : ltr n c p2 = true
            · obtain ⟨s1, e1, e2, e3, e4⟩ := b10 s2 (u ||| 2 ^ q) f2 (by rw [d1.2.1 463 (by omega)]; exact hr) d2 d3 d4 al2 (by omega)
              rw [if_pos z]
              refine ⟨s1, e1, d1.tr e2, fun y => e3 ?_, fun _ y => ?_⟩
              · rcases y with y | y
                · exact absurd y (by simp)
                · exact Or.inr y
              · by_cases te : t = []
                · have : p1 = p2 := by
                    rw [te] at b8
                    exact b8.1
                  rw [this, z] at y
                  cases y
                · exact e4 te y
            · rw [if_neg z]
              have te : t = [] := Classical.byContradiction (fun te => z (b7 te).2)
              have pe : p1 = p2 ∧ m1 = m &&& (4095 - 2 ^ q) := by
                rw [te] at b8
                exact b8
              refine ⟨s2, rfl, d1, fun y => ?_, fun _ _ => ?_⟩
              · rcases y with y | y
                · exact absurd y (by simp)
                · rw [pe.1] at y
                  exact absurd y z
              · rw [pe.1, pe.2]
                exact ⟨d2, d3, u ||| 2 ^ q, d4, al2⟩
      · obtain ⟨σ1, a1, a2, a3, a4⟩ := s_tb139 g (nI j) sp hsp h
        refine ⟨[], σ1, p, m, ?_, a2, hm, a3, Nat.le_refl _, hp, fun w => absurd rfl w, ⟨rfl, rfl⟩, ?_, fun s u f hr mt w hu hal hf => ?_⟩
        · have tj : decide (0 < (nI j).toInt) = decide (0 < j + ([] : List (Nat × Nat)).length) := by
            rw [j_nI (by omega)]
            simp
          rw [tj] at a1
          rw [fX6_passTabs_7, if_neg (by rw [j_le_nI (by omega), i12]; omega), t_code h n120 hp, j_b, j_nm]
          have rg := (cd_rg T p).1
          have e2 : (cdc n c p - 97).toInt = (cdc n c p).toInt - 97 := by rw [j_sub (by rw [i97]; omega) (by rw [i97]; omega), i97]
          by_cases z1 : cdc n c p - 97 < 0
          · rw [if_pos z1]
            exact a1
          · by_cases z2 : 12 ≤ cdc n c p - 97
            · rw [if_neg z1, if_pos z2]
              exact a1
            · rw [j_lt, e2, jz0] at z1
              rw [j_le, e2, i12] at z2
              have pn : p < n := by
                refine Classical.byContradiction (fun y => ?_)
                rw [(cd_no y).1, jm1] at z1
                omega
              have l1 : ltr n c p = true := decide_eq_true (by rw [(cd_in (c := c) pn).2, ← (cd_in (c := c) pn).1]; omega)
              obtain ⟨q, hq, _, eq⟩ := ltr_sp T l1
              have eq97 : (nI (97 + q)).toInt = ((97 + q : Nat) : Int) := j_nI (by omega)
              have hb : Nat.testBit m q = false := by
                cases eb : Nat.testBit m q
                · rfl
                · exact absurd ⟨l1, by rw [(cd_in pn).2, eq, eq97, show (((97 + q : Nat) : Int) - 97).toNat = q by omega]; exact eb⟩ hl
              have tq : (nI q).toInt = q := j_nI (by omega)
              rw [(cd_in pn).1, eq, l_sub hq, if_neg (by rw [j_lt, tq, jz0]; omega), if_neg (by rw [j_le, tq, i12]; omega), h.2.2.2, bt_one hm hq, hb, if_neg (show ¬ (false = true) from Bool.false_ne_true), if_pos (show nI 0 = (0 : Int32) from rfl)]
              exact a1
        · rw [a4]
          by_cases z : sp = -1
          · rw [if_pos z, z]; rfl
          · rw [if_neg z]; rfl
        · match f, hf with
          | f + 1, _ =>
            refine ⟨su s 462 16 (nI p), ?_, Fg.st (by omega), fun _ => by rw [su_at, if_pos ⟨rfl, rfl⟩], fun z => absurd rfl z⟩
            have px : pnx al u (cdm n c p) = false := by
              unfold pnx
              by_cases z : 97 ≤ (cdm n c p).toInt ∧ (cdm n c p).toInt ≤ 108
              · rw [← hal.2 _ (by omega), decide_eq_true z, Bool.true_and]
                cases eb : Nat.testBit m ((cdm n c p).toInt - 97).toNat
                · rfl
                · exact absurd ⟨decide_eq_true z, eb⟩ hl
              · rw [decide_eq_false z, Bool.false_and]
            rw [fX9_readsGroup_17, ha s p u hr mt hp hu hal.1, j_b, px, if_neg Bool.false_ne_true, mt.2.2, j_nm]
theorem sim_tabs (T : Tt n c) {al : Nat → Bool} {r : Nat → Int32} (ha : HA n c al r) (g : Int32) (h : CS n c σ p m) (hm : m < 4096) (hp : p ≤ n) : ∃ ok σ1 p1 m1, fX6_passTabs σ 440 g = some (ok, σ1) ∧ CS n c σ1 p1 m1 ∧ m1 < 4096 ∧ Fc σ σ1 ∧ p ≤ p1 ∧ p1 ≤ n ∧ (ok = true → p < p1 ∧ ∃ t, t ≠ [] ∧ Tb n c t false p m p1 m1 ∧ pv σ1 443 = fing g.toInt (star t) (btab g.toInt t (pv σ 443))) ∧ ∀ s u, s.1 463 = r → MT n c s p → s.1 462 16 = -1 → s.1 462 20 = nI u → AL al m u → ∃ s1, fX9_readsGroup s 462 0 = some s1 ∧ Fg s s1 ∧ ((ok = false ∨ ltr n c p1 = true) → s1.1 462 16 = nI p1) ∧ (ok = true → ltr n c p1 = false → MT n c s1 p1 ∧ s1.1 462 16 = -1 ∧ ∃ u1, s1.1 462 20 = nI u1 ∧ AL al m1 u1) := by
  obtain ⟨t, σ1, p1, m1, b1, b2, b3, b4, b5, b6, b7, b8, b9, b10⟩ := sim_t7 T ha g 12 FU σ (-1) p m 0 h hm hp (by have := cnt_le (fun q => Nat.testBit m q) 12; omega) (by omega) (by decide) (by omega)
  have et : decide (0 < 0 + t.length) = true ↔ t ≠ [] := by
    cases t <;> simp
  refine ⟨decide (0 < 0 + t.length), σ1, p1, m1, b1, b2, b3, b4, b5, b6, fun w => ⟨(b7 (et.mp w)).1, t, et.mp w, b8, ?_⟩, fun s u hr mt w hu hal => ?_⟩
  · rw [b9, if_pos rfl]
  · obtain ⟨s1, e1, e2, e3, e4⟩ := b10 s u FU hr mt w hu hal (by decide)
    refine ⟨s1, ?_, e2, fun y => e3 ?_, fun y1 y2 => e4 (et.mp y1) y2⟩
    · unfold fX9_readsGroup
      rw [if_pos rfl]
      exact e1
    · rcases y with y | y
      · exact Or.inl (Classical.byContradiction (fun z => by rw [et.mpr z] at y; cases y))
      · exact Or.inr y
end RAV
