/-! THE RELATION: texts (4): the reference's stack -/
section RAW
def MS (n : Nat) (c : Nat → Int32) (s : Sg) (p u D : Nat) (cn : Nat → Nat) : Prop := MT n c s p ∧ s.1 462 16 = -1 ∧ s.1 462 19 = nI D ∧ s.1 462 20 = nI u ∧ ∀ i, i < D → s.1 473 i = nI (cn i)
def Fk (s s1 : Sg) : Prop := s1.2 = s.2 ∧ (∀ x, x ≠ 462 → x ≠ 472 → x ≠ 473 → x ≠ 474 → s1.1 x = s.1 x) ∧ ∀ j, j < 15 ∨ 22 < j ∨ j = 17 ∨ j = 18 → s1.1 462 j = s.1 462 j
def bump (cn : Nat → Nat) (D : Nat) : Nat → Nat := fun i => if i + 1 = D then cn i + 1 else cn i
def Kont (k f : Nat) (s : Sg) : Option (Int32 × Sg) := (fX9_ends_0 462 k s 0).bind fun r10 => fX9_goes_27 462 f r10.2 0 (b2i r10.1)
variable {n : Nat} {c : Nat → Int32} {σ s : Sg} {p m u D : Nat} {cn : Nat → Nat}
theorem Fk.rf : Fk s s := ⟨rfl, fun _ _ _ _ _ => rfl, fun _ _ => rfl⟩
theorem Fk.tr {s1 s2 : Sg} (h : Fk s s1) (h2 : Fk s1 s2) : Fk s s2 := ⟨h2.1.trans h.1, fun x a b d e => (h2.2.1 x a b d e).trans (h.2.1 x a b d e), fun j a => (h2.2.2 j a).trans (h.2.2 j a)⟩
theorem Fk.st {j : Nat} {v : Int32} (h : j = 15 ∨ j = 16 ∨ (19 ≤ j ∧ j ≤ 22)) : Fk s (su s 462 j v) := ⟨rfl, fun x a _ _ _ => su_ne a, fun k a => by rw [su_at, if_neg (by omega)]⟩
theorem Fk.ar {x j : Nat} {v : Int32} (h : x = 472 ∨ x = 473 ∨ x = 474) : Fk s (su s x j v) := ⟨rfl, fun y a b d e => su_ne (by omega), fun k a => by rw [su_ne (by omega)]⟩
theorem Fk.fz {s1 : Sg} (h : Fz s s1) : Fk s s1 := ⟨h.1, fun x a _ _ _ => h.2.1 x a, fun j a => h.2.2 j (by omega) (by omega) (by omega)⟩
theorem Fk.fg {s1 : Sg} (h : Fg s s1) : Fk s s1 := ⟨h.1, fun x a _ _ _ => h.2.1 x a, fun j a => h.2.2 j (by omega) (by omega) (by omega)⟩
theorem MT.fm {s1 : Sg} {q : Nat} (h : MT n c s p) (f : Fk s s1) (e : s1.1 462 15 = nI q) : MT n c s1 q :=
  ⟨by rw [f.2.2 5 (by omega)]; exact h.1, fun i hi => by rw [f.2.1 465 (by omega) (by omega) (by omega) (by omega)]; exact h.2.1 i hi, e⟩
theorem MS.at (h : MS n c s p u D cn) (q : Nat) : MS n c (su s 462 15 (nI q)) q u D cn :=
  ⟨h.1.fm (Fk.st (by omega)) (by rw [su_at, if_pos ⟨rfl, rfl⟩]), by rw [su_at, if_neg (by omega)]; exact h.2.1, by rw [su_at, if_neg (by omega)]; exact h.2.2.1, by rw [su_at, if_neg (by omega)]; exact h.2.2.2.1, fun i hi => by rw [su_ne (by omega)]; exact h.2.2.2.2 i hi⟩
/-- after a weight -/
theorem MS.we {s1 : Sg} {q : Nat} (h : MS n c s p u D cn) (f : Fz s s1) (mt : MT n c s1 q) (w : s1.1 462 16 = -1) : MS n c s1 q u D cn :=
  ⟨mt, w, by rw [f.2.2 19 (by omega) (by omega) (by omega)]; exact h.2.2.1, by rw [f.2.2 20 (by omega) (by omega) (by omega)]; exact h.2.2.2.1, fun i hi => by rw [f.2.1 473 (by omega)]; exact h.2.2.2.2 i hi⟩
/-- after a group -/
theorem MS.gr {s1 : Sg} {q u1 : Nat} (h : MS n c s p u D cn) (f : Fg s s1) (mt : MT n c s1 q) (w : s1.1 462 16 = -1) (e : s1.1 462 20 = nI u1) : MS n c s1 q u1 D cn :=
  ⟨mt, w, by rw [f.2.2 19 (by omega) (by omega) (by omega)]; exact h.2.2.1, e, fun i hi => by rw [f.2.1 473 (by omega)]; exact h.2.2.2.2 i hi⟩
theorem g27_dead {q : Nat} (hq : q < 1000) (w : s.1 462 16 = nI q) (f : Nat) (l1 x : Int32) : fX9_goes_27 462 (f + 1) s l1 x = some (nI q, s) := by
  have ne : ¬ s.1 462 16 = -1 := by rw [w]; exact nI_m1 (by omega)
  have e96 : fX9_goes_96 462 s = some (nI q, s) := by
    unfold fX9_goes_96 fX9_goes_123
    rw [if_neg ne, w]
  rw [fX9_goes_27]
  by_cases z : x = 0
  · rw [if_pos z, e96]
  · rw [if_neg z, if_neg ne, e96]
theorem m_join0 (h : MS n c s p u D cn) (hD : D < 100) (x : Int32) : ∃ s1, fX9_joins s 462 x 0 = some s1 ∧ Fk s s1 ∧ MS n c s1 p u D (bump cn D) := by
  unfold fX9_joins fX9_joins_61
  by_cases z : D = 0
  · refine ⟨s, ?_, Fk.rf, h.1, h.2.1, h.2.2.1, h.2.2.2.1, fun i hi => absurd hi (by omega)⟩
    rw [h.2.2.1, z, if_pos (show nI 0 ≤ (0 : Int32) by decide)]
  · have ed : nI D - 1 = nI (D - 1) := by
      refine j_eq.mpr ?_
      rw [j_sub (by rw [j_nI (by omega), jz1]; omega) (by rw [j_nI (by omega), jz1]; omega), j_nI (by omega), j_nI (by omega), jz1]
      omega
    have c1 := h.2.2.2.2 (D - 1) (by omega)
    refine ⟨su s 473 (D - 1) (nI (cn (D - 1) + 1)), ?_, Fk.ar (by omega), h.1.fm (Fk.ar (by omega)) (by rw [su_ne (by omega)]; exact h.1.2.2), by rw [su_ne (by omega)]; exact h.2.1, by rw [su_ne (by omega)]; exact h.2.2.1, by rw [su_ne (by omega)]; exact h.2.2.2.1, fun i hi => ?_⟩
    · rw [h.2.2.1, if_neg (by rw [j_le, j_nI (by omega), jz0]; omega), if_pos rfl, ed, j_nm, if_pos (j_ckn (by omega) (by decide)), if_pos (j_ckn (by omega) (by decide)), j_cl _ (by omega), show (462 + 11 : Nat) = 473 from rfl, c1, j_s, j_nm]
    · unfold bump
      by_cases y : i = D - 1
      · rw [su_at, if_pos ⟨rfl, y⟩, if_pos (by omega), y]
      · rw [su_at, if_neg (fun w => y w.2), if_neg (by omega)]
        exact h.2.2.2.2 i hi
/-- reading a weight when something is wrong already -/
theorem m_wdead (T : Tt n c) (mt : MT n c s p) (hp : p ≤ n) {k : Nat} (hk : k < 1000) (w : s.1 462 16 = nI k) : ∃ s1, fX9_readsWeight s 462 = some s1 ∧ Fz s s1 ∧ s1.1 462 16 = nI k := by
  have n120 := T.1
  have ne : ¬ s.1 462 16 = -1 := by rw [w]; exact nI_m1 (by omega)
  have mt1 : MT n c (su s 462 22 0) p := mt.fw (Fz.st (by omega)) (by rw [su_at, if_neg (by omega)]; exact mt.2.2)
  have e16 : (su s 462 22 0).1 462 16 = nI k := by rw [su_at, if_neg (by omega)]; exact w
  have ne1 : ¬ (su s 462 22 0).1 462 16 = -1 := by rw [e16]; exact nI_m1 (by omega)
  unfold fX9_readsWeight fX9_readsWeight_41
  rw [j_nm, m_next mt1 n120 hp, j_b, m_within, j_b]
  by_cases z : (49 : Int32).toInt ≤ (cdm n c p).toInt ∧ (cdm n c p).toInt ≤ (57 : Int32).toInt
  · obtain ⟨s3, e1, e2, e3⟩ := m_w120b mt1 n120 hp hk e16
    refine ⟨s3, ?_, (Fz.st (by omega)).tr e2, e3⟩
    rw [decide_eq_true z, if_pos rfl, show b2i true = 1 from rfl, show FU = 5999 + 1 from rfl, fX9_readsWeight_44, if_neg (show ¬ ((1 : Int32) = 0) by decide), if_neg ne1]
    exact e1
  · obtain ⟨s2, hs2⟩ : ∃ s2 : Sg, s2 = su (su s 462 22 0) 462 16 (nI k) := ⟨_, rfl⟩
    have fw2 : Fz s s2 := by rw [hs2]; exact (Fz.st (by omega)).tr (Fz.st (by omega))
    have w2 : s2.1 462 16 = nI k := by rw [hs2, su_at, if_pos ⟨rfl, rfl⟩]
    have mt2 : MT n c s2 p := mt.fw fw2 (by rw [hs2, su_at, if_neg (by omega), su_at, if_neg (by omega)]; exact mt.2.2)
    obtain ⟨s3, e1, e2, e3⟩ := m_w120b mt2 n120 hp hk w2
    refine ⟨s3, ?_, fw2.tr e2, e3⟩
    rw [decide_eq_false z, if_neg Bool.false_ne_true, if_neg ne1, e16, j_nm, ← hs2, show b2i false = 0 from rfl, show FU = 5999 + 1 from rfl, fX9_readsWeight_44, if_pos rfl]
    exact e1
theorem m_open (T : Tt n c) (h : MS n c s p u D cn) (hp : p < n) (hD : D < 100) : (cdm n c (p + 1) = 40 → ∃ s5, (∀ s6, fX9_readsWeight s5 462 = some s6 → fX9_opens s 462 0 = some s6) ∧ Fk s s5 ∧ MS n c s5 (p + 2) u (D + 1) (fun i => if i = D then 0 else cn i)) ∧ (cdm n c (p + 1) ≠ 40 → ∃ s5, fX9_opens s 462 0 = some s5 ∧ Fk s s5 ∧ s5.1 462 16 = nI (p + 1)) := by
  have n120 := T.1
  obtain ⟨w2, hw2⟩ : ∃ w2 : Sg, w2 = su s 462 15 (nI (p + 1)) := ⟨_, rfl⟩
  have m2 : MS n c w2 (p + 1) u D cn := by rw [hw2]; exact h.at _
  have start : fX9_opens s 462 0 = fX9_opens_14 462 s 0 1 ∨ fX9_opens s 462 0 = fX9_opens_14 462 s 0 0 := by
    unfold fX9_opens
    rw [m_next h.1 n120 (by omega), j_b]
    by_cases z : cdm n c p = 86
    · rw [if_pos z]; exact Or.inl rfl
    · rw [if_neg z]; exact Or.inr rfl
  have core : ∀ (w3 : Sg) (b : Bool) (s0 : Int32), fX9_takes_ w2 462 40 1 = some (b, w3) → w3.1 462 19 = nI D → ∃ s5, s5 = su (su (su w3 474 D (w3.1 462 22)) 473 D 0) 462 19 (nI (D + 1)) ∧ ∀ s6, fX9_readsWeight s5 462 = some s6 → fX9_opens_14 462 s 0 s0 = some s6 := fun w3 b s0 tk e19 => by
    refine ⟨_, rfl, fun s6 e6 => ?_⟩
    obtain ⟨w4, hw4⟩ : ∃ w4 : Sg, w4 = su w3 474 D (w3.1 462 22) := ⟨_, rfl⟩
    obtain ⟨w5, hw5⟩ : ∃ w5 : Sg, w5 = su w4 473 D 0 := ⟨_, rfl⟩
    have e4 : w4.1 462 19 = nI D := by rw [hw4, su_ne (by omega)]; exact e19
    have e5 : w5.1 462 19 = nI D := by rw [hw5, su_ne (by omega)]; exact e4
    rw [← hw4, ← hw5] at e6
    unfold fX9_opens_14 fX9_opens_89
    rw [h.1.2.2, j_s, j_nm, ← hw2, tk, j_b]
    show (if ck (w3.1 462 19) 130 then nm (su w3 (462 + 12) (w3.1 462 19).toNatClampNeg (w3.1 462 22)) _ else none) = _
    rw [e19, if_pos (j_ckn (by omega) (by decide)), j_cl _ (by omega), show (462 + 12 : Nat) = 474 from rfl, ← hw4, j_nm, e4, if_pos (j_ckn (by omega) (by decide)), j_cl _ (by omega), show (462 + 11 : Nat) = 473 from rfl, ← hw5, j_nm, if_pos rfl, e5, j_s, j_nm, e6, j_b]
  refine ⟨fun e => ?_, fun e => ?_⟩
  · have tk := (m_take m2.1 n120 (by omega) 40).1 m2.2.1 e
    obtain ⟨w3, hw3⟩ : ∃ w3 : Sg, w3 = su w2 462 15 (nI (p + 1 + 1)) := ⟨_, rfl⟩
    rw [← hw3] at tk
    have m3 : MS n c w3 (p + 2) u D cn := by rw [hw3]; exact m2.at _
    obtain ⟨s5, h5, r5⟩ := core w3 true 1 tk m3.2.2.1
    obtain ⟨s5', h5', r5'⟩ := core w3 true 0 tk m3.2.2.1
    have f35 : Fk w3 s5 := by rw [h5]; exact ((Fk.ar (by omega)).tr (Fk.ar (by omega))).tr (Fk.st (by omega))
    have f23 : Fk s w3 := by rw [hw3, hw2]; exact (Fk.st (by omega)).tr (Fk.st (by omega))
    refine ⟨s5, fun s6 e6 => ?_, f23.tr f35, m3.1.fm f35 ?_, ?_, ?_, ?_, fun i hi => ?_⟩
    · rcases start with z | z
      · rw [z]; exact r5 s6 e6
      · rw [z]; exact r5' s6 (by rw [h5', ← h5]; exact e6)
    · rw [h5, su_at, if_neg (by omega), su_ne (by omega), su_ne (by omega)]; exact m3.1.2.2
    · rw [h5, su_at, if_neg (by omega), su_ne (by omega), su_ne (by omega)]; exact m3.2.1
    · rw [h5, su_at, if_pos ⟨rfl, rfl⟩]
    · rw [h5, su_at, if_neg (by omega), su_ne (by omega), su_ne (by omega)]; exact m3.2.2.2.1
    · rw [h5, su_ne (by omega)]
      show _ = nI (if i = D then 0 else cn i)
      by_cases y : i = D
      · rw [su_at, if_pos ⟨rfl, y⟩, if_pos y]; rfl
      · rw [su_at, if_neg (fun w => y w.2), if_neg y, su_ne (by omega)]
        exact m3.2.2.2.2 i (by omega)
  · have tk := (m_take m2.1 n120 (by omega) 40).2.1 m2.2.1 e
    obtain ⟨w3, hw3⟩ : ∃ w3 : Sg, w3 = su w2 462 16 (nI (p + 1)) := ⟨_, rfl⟩
    rw [← hw3] at tk
    have e19 : w3.1 462 19 = nI D := by rw [hw3, su_at, if_neg (by omega)]; exact m2.2.2.1
    obtain ⟨s5, h5, r5⟩ := core w3 false 1 tk e19
    obtain ⟨s5', h5', r5'⟩ := core w3 false 0 tk e19
    have f35 : Fk w3 s5 := by rw [h5]; exact ((Fk.ar (by omega)).tr (Fk.ar (by omega))).tr (Fk.st (by omega))
    have f23 : Fk s w3 := by rw [hw3, hw2]; exact (Fk.st (by omega)).tr (Fk.st (by omega))
    have w5 : s5.1 462 16 = nI (p + 1) := by rw [h5, su_at, if_neg (by omega), su_ne (by omega), su_ne (by omega), hw3, su_at, if_pos ⟨rfl, rfl⟩]
    have m5 : MT n c s5 (p + 1) := m2.1.fm (Fk.tr (by rw [hw3]; exact Fk.st (by omega)) f35) (by rw [h5, su_at, if_neg (by omega), su_ne (by omega), su_ne (by omega), hw3, su_at, if_neg (by omega)]; exact m2.1.2.2)
    obtain ⟨s6, a1, a2, a3⟩ := m_wdead T m5 (by omega) (k := p + 1) (by omega) w5
    refine ⟨s6, ?_, (f23.tr f35).tr (Fk.fz a2), a3⟩
    rcases start with z | z
    · rw [z]; exact r5 s6 a1
    · rw [z]; exact r5' s6 (by rw [h5', ← h5]; exact a1)
end RAW
