/-! THE RELATION: texts (1): characters, signs, weights -/
section RAT
def cdc (n : Nat) (c : Nat → Int32) (p : Nat) : Int32 := if p < n then c p else -1
def cdm (n : Nat) (c : Nat → Int32) (p : Nat) : Int32 := if p < n then c p else 0
def Tt (n : Nat) (c : Nat → Int32) : Prop := n ≤ 120 ∧ ∀ i, i < n → 32 ≤ (c i).toInt ∧ (c i).toInt ≤ 126
def CS (n : Nat) (c : Nat → Int32) (σ : Sg) (p m : Nat) : Prop := σ.1 441 1 = nI n ∧ (∀ i, i < n → σ.1 442 i = c i) ∧ σ.1 440 2 = nI p ∧ σ.1 440 3 = nI m
def MT (n : Nat) (c : Nat → Int32) (s : Sg) (p : Nat) : Prop := s.1 462 5 = nI n ∧ (∀ i, i < n → s.1 465 i = c i) ∧ s.1 462 15 = nI p
def Fc (σ σ' : Sg) : Prop := σ'.2 = σ.2 ∧ ∀ x, x ≠ 440 → (x < 444 ∨ 458 < x) → σ'.1 x = σ.1 x
def Fz (s s1 : Sg) : Prop := s1.2 = s.2 ∧ (∀ x, x ≠ 462 → s1.1 x = s.1 x) ∧ ∀ j, j ≠ 15 → j ≠ 16 → j ≠ 22 → s1.1 462 j = s.1 462 j
def WE (n : Nat) (c : Nat → Int32) (s s1 : Sg) (v : Int32) (p : Nat) : Prop := Fz s s1 ∧ (cdm n c p = 58 → MT n c s1 (p + 1) ∧ s1.1 462 16 = -1 ∧ s1.1 462 22 = v) ∧ (cdm n c p ≠ 58 → s1.1 462 16 = nI p)
variable {n : Nat} {c : Nat → Int32} {σ s : Sg} {p m : Nat}
theorem cd_c {k : Int32} (hk : 1 ≤ k.toInt) : cdc n c p = k ↔ cdm n c p = k := by
  unfold cdc cdm
  by_cases z : p < n
  · rw [if_pos z, if_pos z]
  · rw [if_neg z, if_neg z]
    refine ⟨fun e => ?_, fun e => ?_⟩
    · rw [← e] at hk; exact absurd hk (by decide)
    · rw [← e] at hk; exact absurd hk (by decide)
theorem cd_in (z : p < n) : cdc n c p = c p ∧ cdm n c p = c p := ⟨if_pos z, if_pos z⟩
theorem cd_no (z : ¬ p < n) : cdc n c p = -1 ∧ cdm n c p = 0 := ⟨if_neg z, if_neg z⟩
theorem cd_lt {k : Int32} (hk : 1 ≤ k.toInt) (h : cdm n c p = k) : p < n := by
  refine Classical.byContradiction (fun z => ?_)
  rw [(cd_no z).2] at h
  rw [← h] at hk
  exact absurd hk (by decide)
theorem Fz.rf : Fz s s := ⟨rfl, fun _ _ => rfl, fun _ _ _ _ => rfl⟩
theorem Fz.tr {s1 s2 : Sg} (h : Fz s s1) (h2 : Fz s1 s2) : Fz s s2 := ⟨h2.1.trans h.1, fun x a => (h2.2.1 x a).trans (h.2.1 x a), fun j a b d => (h2.2.2 j a b d).trans (h.2.2 j a b d)⟩
theorem Fz.st {j : Nat} {v : Int32} (h : j = 15 ∨ j = 16 ∨ j = 22) : Fz s (su s 462 j v) := ⟨rfl, fun x a => su_ne a, fun k a b d => by rw [su_at, if_neg (by omega)]⟩
theorem MT.fw {s1 : Sg} {q : Nat} (h : MT n c s p) (f : Fz s s1) (e : s1.1 462 15 = nI q) : MT n c s1 q :=
  ⟨by rw [f.2.2 5 (by omega) (by omega) (by omega)]; exact h.1, fun i hi => by rw [f.2.1 465 (by omega)]; exact h.2.1 i hi, e⟩
theorem CS.at (h : CS n c σ p m) (q : Nat) : CS n c (su σ 440 2 (nI q)) q m := ⟨by rw [su_ne (by omega)]; exact h.1, fun i hi => by rw [su_ne (by omega)]; exact h.2.1 i hi, by rw [su_at, if_pos ⟨rfl, rfl⟩], by rw [su_at, if_neg (by omega)]; exact h.2.2.2⟩
theorem CS.ms (h : CS n c σ p m) (q : Nat) : CS n c (su σ 440 3 (nI q)) p q := ⟨by rw [su_ne (by omega)]; exact h.1, fun i hi => by rw [su_ne (by omega)]; exact h.2.1 i hi, by rw [su_at, if_neg (by omega)]; exact h.2.2.1, by rw [su_at, if_pos ⟨rfl, rfl⟩]⟩
theorem CS.ou {σ' : Sg} (h : CS n c σ p m) (o : Out σ σ' 444 458) : CS n c σ' p m := ⟨by rw [o.2 441 (by omega)]; exact h.1, fun i hi => by rw [o.2 442 (by omega)]; exact h.2.1 i hi, by rw [o.2 440 (by omega)]; exact h.2.2.1, by rw [o.2 440 (by omega)]; exact h.2.2.2⟩
theorem Fc.rf : Fc σ σ := ⟨rfl, fun _ _ _ => rfl⟩
theorem Fc.tr {σ1 σ2 : Sg} (h : Fc σ σ1) (h2 : Fc σ1 σ2) : Fc σ σ2 := ⟨h2.1.trans h.1, fun x a b => (h2.2 x a b).trans (h.2 x a b)⟩
theorem Fc.st {j : Nat} {v : Int32} : Fc σ (su σ 440 j v) := ⟨rfl, fun x a _ => su_ne a⟩
theorem Fc.ou {σ' : Sg} (o : Out σ σ' 444 458) : Fc σ σ' := ⟨o.1, fun x _ b => o.2 x b⟩
theorem p43 {j : Nat} {v : Int32} : pv (su σ 440 j v) 443 = pv σ 443 := pv_c (fun j h1 h2 => su_ne (by omega))
theorem t_code (h : CS n c σ p m) (hn : n ≤ 120) (hp : p ≤ n) : fX5_code σ (440 + 1) (σ.1 440 2) = some (cdc n c p) := by
  unfold fX5_code cdc
  rw [h.2.2.1, show (440 + 1 : Nat) = 441 from rfl, h.1]
  by_cases z : p < n
  · rw [if_neg (by rw [j_le_nI (by omega), j_nI (by omega)]; omega), if_pos z, show (441 + 1 : Nat) = 442 from rfl, s_atn (by decide) (by omega), j_b, h.2.1 p z]
  · rw [if_pos (by rw [j_le_nI (by omega), j_nI (by omega)]; omega), if_neg z]
theorem t_sign (h : CS n c σ p m) (hn : n ≤ 120) (hp : p ≤ n) (k : Int32) : (cdc n c p = k → fX6_passSign σ 440 k = some (true, su σ 440 2 (nI (p + 1)))) ∧ (cdc n c p ≠ k → fX6_passSign σ 440 k = some (false, σ)) := by
  unfold fX6_passSign
  rw [t_code h hn hp, j_b]
  refine ⟨fun e => ?_, fun e => ?_⟩
  · rw [if_pos e, h.2.2.1, j_s, j_nm]
  · rw [if_neg e]
theorem m_next (h : MT n c s p) (hn : n ≤ 120) (hp : p ≤ n) : fX9_next s 462 = some (cdm n c p) := by
  unfold fX9_next cdm
  rw [h.1, h.2.2]
  by_cases z : p < n
  · rw [if_neg (by rw [j_le_nI (by omega), j_nI (by omega)]; omega), if_pos (j_ckn (by omega) (by decide)), if_pos z, show (462 + 3 : Nat) = 465 from rfl, j_cl _ (by omega), h.2.1 p z]
  · rw [if_pos (by rw [j_le_nI (by omega), j_nI (by omega)]; omega), if_neg z]
theorem m_take (h : MT n c s p) (hn : n ≤ 120) (hp : p ≤ n) (k : Int32) : (s.1 462 16 = -1 → cdm n c p = k → fX9_takes_ s 462 k 1 = some (true, su s 462 15 (nI (p + 1)))) ∧ (s.1 462 16 = -1 → cdm n c p ≠ k → fX9_takes_ s 462 k 1 = some (false, su s 462 16 (nI p))) ∧ (s.1 462 16 ≠ -1 → fX9_takes_ s 462 k 1 = some (false, su s 462 16 (s.1 462 16))) := by
  unfold fX9_takes_ fX9_takes__32 fX9_takes__52
  refine ⟨fun w e => ?_, fun w e => ?_, fun w => ?_⟩
  · rw [if_pos w, if_neg (show ¬ ((1 : Int32) = 0) by decide), m_next h hn hp, j_b, if_pos e, h.2.2, j_s, j_nm]
  · rw [if_pos w, if_neg (show ¬ ((1 : Int32) = 0) by decide), m_next h hn hp, j_b, if_neg e, if_pos w, h.2.2, j_nm]
  · rw [if_neg w, if_neg w, j_nm]
theorem nI_m1 {k : Nat} (h : k < 2147483648) : nI k ≠ -1 := fun e => by
  rw [j_eq, j_nI h, jm1] at e
  omega
theorem m_w120 (h : MT n c s p) (hn : n ≤ 120) (hp : p ≤ n) (w : s.1 462 16 = -1) : ∃ s1, fX9_readsWeight_120 462 s = some s1 ∧ WE n c s s1 (s.1 462 22) p := by
  unfold fX9_readsWeight_120
  by_cases e : cdm n c p = 58
  · refine ⟨su s 462 15 (nI (p + 1)), by rw [(m_take h hn hp 58).1 w e, j_b], Fz.st (by omega), fun _ => ⟨h.fw (Fz.st (by omega)) (by rw [su_at, if_pos ⟨rfl, rfl⟩]), by rw [su_at, if_neg (by omega)]; exact w, by rw [su_at, if_neg (by omega)]⟩, fun z => absurd e z⟩
  · exact ⟨su s 462 16 (nI p), by rw [(m_take h hn hp 58).2.1 w e, j_b], Fz.st (by omega), fun z => absurd z e, fun _ => by rw [su_at, if_pos ⟨rfl, rfl⟩]⟩
theorem m_w120b (h : MT n c s p) (hn : n ≤ 120) (hp : p ≤ n) {k : Nat} (hk : k < 1000) (w : s.1 462 16 = nI k) : ∃ s1, fX9_readsWeight_120 462 s = some s1 ∧ Fz s s1 ∧ s1.1 462 16 = nI k := by
  unfold fX9_readsWeight_120
  exact ⟨su s 462 16 (nI k), by rw [(m_take h hn hp 58).2.2 (by rw [w]; exact nI_m1 (by omega)), j_b, w], Fz.st (by omega), by rw [su_at, if_pos ⟨rfl, rfl⟩]⟩
def dig (x : Int32) : Bool := decide (48 ≤ x.toInt ∧ x.toInt ≤ 57)
theorem i48 : (48 : Int32).toInt = 48 := rfl
theorem i57 : (57 : Int32).toInt = 57 := rfl
theorem i49 : (49 : Int32).toInt = 49 := rfl
theorem i10 : (10 : Int32).toInt = 10 := rfl
theorem iml : (1000000 : Int32).toInt = 1000000 := rfl
theorem d_next {v x : Int32} (h : 0 ≤ v.toInt ∧ v.toInt ≤ 1000000) (hx : 48 ≤ x.toInt ∧ x.toInt ≤ 57) : (10 * v + x - 48).toInt = 10 * v.toInt + x.toInt - 48 := by
  have e1 : (10 * v).toInt = 10 * v.toInt := by rw [j_mul (by rw [i10]; omega) (by rw [i10]; omega), i10]
  have e2 : (10 * v + x).toInt = 10 * v.toInt + x.toInt := by rw [j_add (by rw [e1]; omega) (by rw [e1]; omega), e1]
  rw [j_sub (by rw [e2, i48]; omega) (by rw [e2, i48]; omega), e2, i48]
/-- one more digit on the reference's side -/
theorem m_dig (h : MT n c s p) (hn : n ≤ 120) (hp : p < n) (w : s.1 462 16 = -1) (hd : 48 ≤ (c p).toInt ∧ (c p).toInt ≤ 57) {v : Int32} (hv : s.1 462 22 = v) (le : 10 * v + c p - 48 ≤ 1000000) (f : Nat) : ∃ s1, Fz s s1 ∧ MT n c s1 (p + 1) ∧ s1.1 462 16 = -1 ∧ s1.1 462 22 = 10 * v + c p - 48 ∧ fX9_readsWeight_44 462 (f + 1) s 1 = fX9_readsWeight_44 462 f s1 (b2i (dig (cdm n c (p + 1)))) := by
  refine ⟨su (su s 462 22 (10 * v + c p - 48)) 462 15 (nI (p + 1)), (Fz.st (by omega)).tr (Fz.st (by omega)), h.fw ((Fz.st (by omega)).tr (Fz.st (by omega))) (by rw [su_at, if_pos ⟨rfl, rfl⟩]), by rw [su_at, if_neg (by omega), su_at, if_neg (by omega)]; exact w, by rw [su_at, if_neg (by omega), su_at, if_pos ⟨rfl, rfl⟩], ?_⟩
  have mt : MT n c (su (su s 462 22 (10 * v + c p - 48)) 462 15 (nI (p + 1))) (p + 1) := h.fw ((Fz.st (by omega)).tr (Fz.st (by omega))) (by rw [su_at, if_pos ⟨rfl, rfl⟩])
  have e22 : (su s 462 22 (10 * v + c p - 48)).1 462 22 = 10 * v + c p - 48 := by rw [su_at, if_pos ⟨rfl, rfl⟩]
  have e15 : (su s 462 22 (10 * v + c p - 48)).1 462 15 = nI p := by rw [su_at, if_neg (by omega)]; exact h.2.2
  rw [fX9_readsWeight_44, if_neg (show ¬ ((1 : Int32) = 0) by decide), if_pos w, m_next h hn (by omega), j_b, hv, (cd_in hp).2, j_nm, e22, if_pos le, e15, j_s, j_nm, m_next mt hn (by omega), j_b, m_within, j_b, i48, i57]
  rfl
theorem sim_w4 (T : Tt n c) : ∀ (k fuel : Nat) (σ : Sg) (v : Int32) (p j : Nat), CS n c σ p m → p + k = n → k < fuel → 1 ≤ v.toInt → v.toInt ≤ 1000000 → j + 1 ≤ p → ∃ v1 σ1 p1, fX6_passWeight_4 440 fuel σ v (nI j) = some (v1, σ1) ∧ CS n c σ1 p1 m ∧ Fc σ σ1 ∧ pv σ1 443 = pv σ 443 ∧ (1 ≤ v1.toInt ∧ v1.toInt ≤ 1000000) ∧ p ≤ p1 ∧ p1 ≤ n ∧ ∀ s f, MT n c s p → s.1 462 16 = -1 → s.1 462 22 = v → k + 1 < f → ∃ s1, fX9_readsWeight_44 462 f s (b2i (dig (cdm n c p))) = some s1 ∧ WE n c s s1 v1 p1 := by
  intro k
  induction k with
  | zero =>
    intro fuel σ v p j h e hf v0 v1 hj
    match fuel, hf with
    | f + 1, _ =>
      have np : ¬ p < n := by omega
      refine ⟨v, σ, p, ?_, h, Fc.rf, rfl, ⟨v0, v1⟩, Nat.le_refl _, by omega, fun s f mt w hv ff => ?_⟩
      · rw [fX6_passWeight_4]
        by_cases z : (120 : Int32) ≤ nI j
        · rw [if_pos z]
        · rw [if_neg z, t_code h T.1 (by omega), j_b, (cd_no np).1, j_nm, if_pos (by decide)]
      · match f, ff with
        | f + 1, _ =>
          rw [(cd_no np).2, show b2i (dig 0) = 0 by decide, fX9_readsWeight_44, if_pos rfl]
          have := m_w120 mt T.1 (by omega) w
          rwa [hv] at this
  | succ k ih =>
    intro fuel σ v p j h e hf v0 v1 hj
    match fuel, hf with
    | f + 1, hf =>
      have hp : p < n := by omega
      have n120 := T.1
      have j120 : ¬ (120 : Int32) ≤ nI j := by
        rw [j_le_nI (by omega)]
        have : (120 : Int32).toInt = 120 := rfl
        omega
      have st : (¬ (48 ≤ (c p).toInt ∧ (c p).toInt ≤ 57)) → ∃ v1 σ1 p1, fX6_passWeight_4 440 (f + 1) σ v (nI j) = some (v1, σ1) ∧ CS n c σ1 p1 m ∧ Fc σ σ1 ∧ pv σ1 443 = pv σ 443 ∧ (1 ≤ v1.toInt ∧ v1.toInt ≤ 1000000) ∧ p ≤ p1 ∧ p1 ≤ n ∧ ∀ s f, MT n c s p → s.1 462 16 = -1 → s.1 462 22 = v → k + 1 + 1 < f → ∃ s1, fX9_readsWeight_44 462 f s (b2i (dig (cdm n c p))) = some s1 ∧ WE n c s s1 v1 p1 := fun nd => by
        refine ⟨v, σ, p, ?_, h, Fc.rf, rfl, ⟨v0, v1⟩, Nat.le_refl _, by omega, fun s f mt w hv ff => ?_⟩
        · rw [fX6_passWeight_4, if_neg j120, t_code h T.1 (by omega), j_b, (cd_in hp).1, j_nm]
          by_cases z : c p < 48
          · rw [if_pos z]
          · rw [if_neg z, if_pos (by rw [j_lt, i57]; rw [j_lt, i48] at z; omega)]
        · match f, ff with
          | f + 1, _ =>
            rw [(cd_in hp).2, show dig (c p) = false from decide_eq_false nd, show b2i false = 0 from rfl, fX9_readsWeight_44, if_pos rfl]
            have := m_w120 mt T.1 (by omega) w
            rwa [hv] at this
      by_cases hd : 48 ≤ (c p).toInt ∧ (c p).toInt ≤ 57
      · have dn := d_next ⟨by omega, v1⟩ hd
        have l1 : ¬ c p < 48 := by rw [j_lt, i48]; omega
        have l2 : ¬ (57 : Int32) < c p := by rw [j_lt, i57]; omega
        have l3 : ¬ 10 * v + c p - 48 < 1 := by rw [j_lt, dn, jz1]; omega
        have dt : dig (c p) = true := decide_eq_true hd
        by_cases big : 10 * v + c p - 48 ≤ 1000000
        · have big2 := big
          rw [j_le, dn, iml] at big2
          obtain ⟨v', σ', p', a1, a2, a3, a4, a5, a6, a7, a8⟩ := ih f (su σ 440 2 (nI (p + 1))) (10 * v + c p - 48) (p + 1) (j + 1) (h.at _) (by omega) (by omega) (by rw [dn]; omega) (by rw [dn]; omega) (by omega)
          refine ⟨v', σ', p', ?_, a2, Fc.st.tr a3, a4.trans p43, a5, by omega, a7, fun s f2 mt w hv ff => ?_⟩
          · rw [fX6_passWeight_4, if_neg j120, t_code h T.1 (by omega), j_b, (cd_in hp).1, j_nm, if_neg l1, if_neg l2, if_neg l3, if_pos big, h.2.2.1, j_s, j_nm, j_s]
            exact a1
          · match f2, ff with
            | f2 + 1, ff =>
              obtain ⟨s1, b1, b2, b3, b4, b5⟩ := m_dig mt T.1 hp w hd hv big f2
              obtain ⟨s2, d1, d2⟩ := a8 s1 f2 b2 b3 b4 (by omega)
              refine ⟨s2, ?_, b1.tr d2.1, d2.2⟩
              rw [(cd_in hp).2, dt, show b2i true = 1 from rfl, b5]
              exact d1
        · refine ⟨v, σ, p, ?_, h, Fc.rf, rfl, ⟨v0, v1⟩, Nat.le_refl _, by omega, fun s f mt w hv ff => ?_⟩
          · rw [fX6_passWeight_4, if_neg j120, t_code h T.1 (by omega), j_b, (cd_in hp).1, j_nm, if_neg l1, if_neg l2, if_neg l3, if_neg big]
          · match f, ff with
            | f + 2, _ =>
              obtain ⟨s2, hs2⟩ : ∃ s2 : Sg, s2 = su (su s 462 22 (10 * v + c p - 48)) 462 16 (nI p) := ⟨_, rfl⟩
              have e22 : (su s 462 22 (10 * v + c p - 48)).1 462 22 = 10 * v + c p - 48 := by rw [su_at, if_pos ⟨rfl, rfl⟩]
              have e15 : (su s 462 22 (10 * v + c p - 48)).1 462 15 = nI p := by rw [su_at, if_neg (by omega)]; exact mt.2.2
              have fw2 : Fz s s2 := by rw [hs2]; exact (Fz.st (by omega)).tr (Fz.st (by omega))
              have w2 : s2.1 462 16 = nI p := by rw [hs2, su_at, if_pos ⟨rfl, rfl⟩]
              have mt2 : MT n c s2 p := mt.fw fw2 (by rw [hs2, su_at, if_neg (by omega), su_at, if_neg (by omega)]; exact mt.2.2)
              obtain ⟨s3, e1, e2, e3⟩ := m_w120b mt2 T.1 (by omega) (k := p) (by omega) w2
              refine ⟨s3, ?_, fw2.tr e2, fun z => ?_, fun _ => e3⟩
              · rw [(cd_in hp).2, dt, show b2i true = 1 from rfl, fX9_readsWeight_44, if_neg (show ¬ ((1 : Int32) = 0) by decide), if_pos w, m_next mt T.1 (by omega), j_b, hv, (cd_in hp).2, j_nm, e22, if_neg big, e15, j_nm, ← hs2, fX9_readsWeight_44, if_neg (show ¬ ((1 : Int32) = 0) by decide), if_neg (by rw [w2]; exact nI_m1 (by omega))]
                exact e1
              · rw [(cd_in hp).2] at z
                rw [z] at hd
                exact absurd hd (by decide)
      · exact st hd
theorem sim_w (T : Tt n c) (h : CS n c σ p m) (p1 : 1 ≤ p) (hp : p ≤ n) : ∃ v σ1 q, fX6_passWeight σ 440 = some (v, σ1) ∧ CS n c σ1 q m ∧ Fc σ σ1 ∧ pv σ1 443 = pv σ 443 ∧ ((v = 0 ∧ q = p ∧ ∀ s, MT n c s p → s.1 462 16 = -1 → ∃ s1, fX9_readsWeight s 462 = some s1 ∧ Fz s s1 ∧ s1.1 462 16 = nI p) ∨ ((1 ≤ v.toInt ∧ v.toInt ≤ 1000000) ∧ p < q ∧ q ≤ n ∧ ∀ s, MT n c s p → s.1 462 16 = -1 → ∃ s1, fX9_readsWeight s 462 = some s1 ∧ WE n c s s1 v q)) := by
  have n120 := T.1
  have neg : (¬ (49 ≤ (cdc n c p).toInt ∧ (cdc n c p).toInt ≤ 57)) → ∀ s, MT n c s p → s.1 462 16 = -1 → ∃ s1, fX9_readsWeight s 462 = some s1 ∧ Fz s s1 ∧ s1.1 462 16 = nI p := fun nd s mt w => by
    obtain ⟨s2, hs2⟩ : ∃ s2 : Sg, s2 = su (su s 462 22 0) 462 16 (nI p) := ⟨_, rfl⟩
    have e16 : (su s 462 22 0).1 462 16 = s.1 462 16 := by rw [su_at, if_neg (by omega)]
    have e15 : (su s 462 22 0).1 462 15 = nI p := by rw [su_at, if_neg (by omega)]; exact mt.2.2
    have fw2 : Fz s s2 := by rw [hs2]; exact (Fz.st (by omega)).tr (Fz.st (by omega))
    have w2 : s2.1 462 16 = nI p := by rw [hs2, su_at, if_pos ⟨rfl, rfl⟩]
    have mt1 : MT n c (su s 462 22 0) p := mt.fw (Fz.st (by omega)) (by rw [su_at, if_neg (by omega)]; exact mt.2.2)
    have mt2 : MT n c s2 p := mt.fw fw2 (by rw [hs2, su_at, if_neg (by omega), su_at, if_neg (by omega)]; exact mt.2.2)
    obtain ⟨s3, e1, e2, e3⟩ := m_w120b mt2 T.1 hp (k := p) (by omega) w2
    refine ⟨s3, ?_, fw2.tr e2, e3⟩
    have nd2 : ¬ (49 ≤ (cdm n c p).toInt ∧ (cdm n c p).toInt ≤ 57) := by
      by_cases z : p < n
      · rw [(cd_in z).2]
        rw [(cd_in z).1] at nd
        exact nd
      · rw [(cd_no z).2]
        decide
    unfold fX9_readsWeight fX9_readsWeight_41
    rw [j_nm, m_next mt1 T.1 hp, j_b, m_within, j_b, i49, i57, decide_eq_false nd2, if_neg Bool.false_ne_true, e16, if_pos w, e15, j_nm, ← hs2, show b2i false = 0 from rfl, show FU = 5999 + 1 from rfl, fX9_readsWeight_44, if_pos rfl]
    exact e1
  have cw : fX6_passWeight σ 440 = fX6_passWeight_4 440 (5999 + 1) σ 0 0 := rfl
  have start : fX6_passWeight_4 440 (5999 + 1) σ 0 0 = (nm (((10 * 0) + cdc n c p) - 48) fun v2 => if cdc n c p < 48 then some ((0 : Int32), σ) else if 57 < cdc n c p then some (0, σ) else if v2 < 1 then some (0, σ) else if v2 ≤ 1000000 then nm (su σ 440 2 ((σ.1 440 2) + 1)) fun σ3 => fX6_passWeight_4 440 5999 σ3 v2 (0 + 1) else some (0, σ)) := by
    rw [fX6_passWeight_4, if_neg (by decide), t_code h T.1 hp, j_b]
  by_cases hd : 48 ≤ (cdc n c p).toInt ∧ (cdc n c p).toInt ≤ 57
  · have z : p < n := by
      refine Classical.byContradiction (fun z => ?_)
      rw [(cd_no z).1] at hd
      exact absurd hd (by decide)
    have dn := d_next (v := 0) ⟨by decide, by decide⟩ hd
    rw [jz0] at dn
    have l1 : ¬ cdc n c p < 48 := by rw [j_lt, i48]; omega
    have l2 : ¬ (57 : Int32) < cdc n c p := by rw [j_lt, i57]; omega
    by_cases z0 : (cdc n c p).toInt = 48
    · refine ⟨0, σ, p, ?_, h, Fc.rf, rfl, Or.inl ⟨rfl, rfl, neg (by omega)⟩⟩
      rw [cw, start, j_nm, if_neg l1, if_neg l2, if_pos (by rw [j_lt, dn, jz1]; omega)]
    · have big : 10 * 0 + cdc n c p - 48 ≤ 1000000 := by rw [j_le, dn, iml]; omega
      obtain ⟨v', σ', p', a1, a2, a3, a4, a5, a6, a7, a8⟩ := sim_w4 T (n - (p + 1)) 5999 (su σ 440 2 (nI (p + 1))) (10 * 0 + cdc n c p - 48) (p + 1) 1 (h.at _) (by omega) (by omega) (by rw [dn]; omega) (by rw [dn]; omega) (by omega)
      refine ⟨v', σ', p', ?_, a2, Fc.st.tr a3, a4.trans p43, Or.inr ⟨a5, by omega, a7, fun s mt w => ?_⟩⟩
      · rw [cw, start, j_nm, if_neg l1, if_neg l2, if_neg (by rw [j_lt, dn, jz1]; omega), if_pos big, h.2.2.1, j_s, j_nm]
        exact a1
      · have mt1 : MT n c (su s 462 22 0) p := mt.fw (Fz.st (by omega)) (by rw [su_at, if_neg (by omega)]; exact mt.2.2)
        rw [(cd_in z).1] at hd z0 big a8
        obtain ⟨s1, b1, b2, b3, b4, b5⟩ := m_dig mt1 T.1 z (by rw [su_at, if_neg (by omega)]; exact w) hd (v := 0) (by rw [su_at, if_pos ⟨rfl, rfl⟩]) big 5999
        obtain ⟨s2, d1, d2⟩ := a8 s1 5999 b2 b3 b4 (by omega)
        refine ⟨s2, ?_, (Fz.st (by omega)).tr (b1.tr d2.1), d2.2⟩
        unfold fX9_readsWeight
        rw [j_nm, m_next mt1 T.1 hp, j_b, m_within, j_b, i49, i57, (cd_in z).2, decide_eq_true (by omega), if_pos rfl, show b2i true = 1 from rfl, show FU = 5999 + 1 from rfl, b5]
        exact d1
  · refine ⟨0, σ, p, ?_, h, Fc.rf, rfl, Or.inl ⟨rfl, rfl, neg (by omega)⟩⟩
    rw [cw, start, j_nm]
    by_cases z : cdc n c p < 48
    · rw [if_pos z]
    · rw [if_neg z, if_pos (by rw [j_lt, i57]; rw [j_lt, i48] at z; omega)]
end RAT
