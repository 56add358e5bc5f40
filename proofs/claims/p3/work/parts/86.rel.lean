/-! THE RELATION: restore in the reference -/
theorem VM.size {U V : VW} {X : Nat → Bool} (h : VM U V X) (a b : Int) : VM (mu (mu U 15 0 a) 16 0 b) (up (up V 3 0 a) 4 0 b) X := by
  have e : ∀ j, j ≠ 3 → j ≠ 4 → up (up V 3 0 a) 4 0 b j = V j := fun j h3 h4 => by rw [up_ne h4, up_ne h3]
  have m : ∀ j, j ≠ 15 → j ≠ 16 → mu (mu U 15 0 a) 16 0 b j = U j := fun j h3 h4 => by rw [mu_ne h4, mu_ne h3]
  unfold VM
  rw [e 8 (by decide) (by decide), e 9 (by decide) (by decide), e 10 (by decide) (by decide), e 11 (by decide) (by decide), e 12 (by decide) (by decide), e 13 (by decide) (by decide), e 14 (by decide) (by decide), e 15 (by decide) (by decide), e 5 (by decide) (by decide), e 1 (by decide) (by decide), e 2 (by decide) (by decide), e 6 (by decide) (by decide), e 7 (by decide) (by decide)]
  rw [m 0 (by decide) (by decide), m 1 (by decide) (by decide), m 2 (by decide) (by decide), m 3 (by decide) (by decide), m 4 (by decide) (by decide), m 5 (by decide) (by decide), m 9 (by decide) (by decide), m 10 (by decide) (by decide), m 11 (by decide) (by decide), m 12 (by decide) (by decide), m 13 (by decide) (by decide), m 14 (by decide) (by decide), m 17 (by decide) (by decide), m 18 (by decide) (by decide), m 19 (by decide) (by decide)]
  obtain ⟨h1, h2, h3, h4, h5, h6, h7, h8⟩ := h
  refine ⟨h1, h2, h3, h4, h5, h6, fun w hw => ⟨(h7 w hw).1, (h7 w hw).2.1, fun q => ?_⟩, h8⟩
  obtain ⟨g1, g2, g3, g4⟩ := (h7 w hw).2.2 q
  refine ⟨g1, g2, ?_, ?_⟩
  · rw [mu_ne (by decide), mu_at, up_ne (by decide), show up V 3 0 a 3 w = if w = 0 then a else V 3 w from up3 (w := 0) (by decide) w, g3]
  · rw [mu_at, mu_ne (by decide), show up (up V 3 0 a) 4 0 b 4 w = if w = 0 then b else up V 3 0 a 4 w from up4 (w := 0) (by decide) w, up_ne (by decide), g4]
section RR
variable {σ : Sg}
/-- the panes' cells come from the slot -/
def rtp (f : Nat → Int32) (at_ n : Nat) : Nat → Int32 := fun c => if c < 6 * n ∧ 3 ≤ c % 6 then f (at_ + 1 + 3 * (c / 6) + (c % 6 - 3)) else f c
theorem m_re80 {at_ p : Nat} (ha : 264 ≤ at_ ∧ at_ ≤ 702) (hp : p < 12) (l3 l4 : Int32) (k70 : Sg → Int32 → Int32 → Int32 → Int32 → Option (Int32 × Sg)) : ∃ σ', fX9_restore_80 462 k70 FU σ (nI at_) l3 l4 (nI p) 0 = k70 σ' (nI at_) l3 l4 (nI (p + 1)) ∧ Out σ σ' 463 463 ∧ σ'.1 463 = cpy (σ.1 463) (at_ + 1 + 3 * p) (6 * p + 3) 3 := by
  refine lp (F := fun n (s : Sg × Int32) => fX9_restore_80 462 k70 n s.1 (nI at_) l3 l4 (nI p) s.2) (Q := fun r => ∃ σ', r = k70 σ' (nI at_) l3 l4 (nI (p + 1)) ∧ Out σ σ' 463 463 ∧ σ'.1 463 = cpy (σ.1 463) (at_ + 1 + 3 * p) (6 * p + 3) 3) (fun i s => s.2 = nI i ∧ Out σ s.1 463 463 ∧ s.1.1 463 = cpy (σ.1 463) (at_ + 1 + 3 * p) (6 * p + 3) i) 3 ?_ ?_ 3 0 FU (σ, 0) rfl (by decide) ⟨rfl, Out.rf, by
    funext c
    unfold cpy
    rw [if_neg (by omega)]⟩
  · rintro n i ⟨s, l⟩ hi ⟨rfl, ho, hv⟩
    simp only at ho hv
    have e3 : (3 : Int32) * nI p = nI (3 * p) := (Int32.ofNat_mul 3 p).symm
    have e6 : (6 : Int32) * nI p = nI (6 * p) := (Int32.ofNat_mul 6 p).symm
    have e0 : (nI at_ + 1 + 3 * nI p) + nI i = nI (at_ + 1 + 3 * p + i) := by rw [e3, j_s, j_a, j_a]
    have e7 : 6 * nI p + (3 + nI i) = nI (6 * p + 3 + i) := by rw [e6, show (3 : Int32) = nI 3 from rfl, j_a, j_a, Nat.add_assoc]
    refine ⟨(su s 463 (6 * p + 3 + i) (s.1 463 (at_ + 1 + 3 * p + i)), nI (i + 1)), ⟨rfl, ho.tr su_out, ?_⟩, ?_⟩
    · show (su s 463 _ _).1 463 = _
      rw [su_row, hv]
      exact cpy_s _ _ _ _ (by omega)
    · show fX9_restore_80 462 k70 (n + 1) s (nI at_) l3 l4 (nI p) (nI i) = fX9_restore_80 462 k70 n _ (nI at_) l3 l4 (nI p) (nI (i + 1))
      have eo : ∀ v, fX9_put s 462 (nI p) (3 + nI i) v = some (su s 463 (6 * p + 3 + i) v) := fun v => by
        unfold fX9_put
        rw [e7, if_pos (j_ckn (by omega) (by decide)), j_cl _ (by omega)]
        rfl
      rw [fX9_restore_80, if_neg (n_ge 3 (m := 3) rfl hi (by decide)), e0, if_pos (j_ckn (by omega) (by decide)), j_cl _ (by omega), eo, j_b, j_s]
  · rintro n ⟨s, l⟩ ⟨rfl, ho, hv⟩
    show ∃ σ', fX9_restore_80 462 k70 (n + 1) s (nI at_) l3 l4 (nI p) (nI 3) = _ ∧ _
    rw [fX9_restore_80, if_pos (n_le 3 (m := 3) rfl (by decide)), j_s]
    exact ⟨s, rfl, ho, hv⟩
theorem m_re166 {at_ : Nat} (ha : 264 ≤ at_ ∧ at_ ≤ 702) (l3 l4 : Int32) : ∃ σ', fX9_restore_166 462 FU σ (nI at_) l3 l4 0 = (fX9_puts σ' 462 0 3 l3).bind (fun σ8 => (fX9_puts σ8 462 0 4 l4).bind fun σ9 => fX9_restore_221 462 FU σ9 0) ∧ Out σ σ' 463 463 ∧ σ'.1 463 = cpy (σ.1 463) (at_ + 181) 216 35 := by
  refine lp (F := fun n (s : Sg × Int32) => fX9_restore_166 462 n s.1 (nI at_) l3 l4 s.2) (Q := fun r => ∃ σ', r = (fX9_puts σ' 462 0 3 l3).bind (fun σ8 => (fX9_puts σ8 462 0 4 l4).bind fun σ9 => fX9_restore_221 462 FU σ9 0) ∧ Out σ σ' 463 463 ∧ σ'.1 463 = cpy (σ.1 463) (at_ + 181) 216 35) (fun i s => s.2 = nI i ∧ Out σ s.1 463 463 ∧ s.1.1 463 = cpy (σ.1 463) (at_ + 181) 216 i) 35 ?_ ?_ 35 0 FU (σ, 0) rfl (by decide) ⟨rfl, Out.rf, by
    funext c
    unfold cpy
    rw [if_neg (by omega)]⟩
  · rintro n i ⟨s, l⟩ hi ⟨rfl, ho, hv⟩
    simp only at ho hv
    have e0 : (nI at_ + 181) + nI i = nI (at_ + 181 + i) := by rw [show (181 : Int32) = nI 181 from rfl, j_a, j_a]
    have e7 : 216 + nI i = nI (216 + i) := j_a 216 i
    refine ⟨(su s 463 (216 + i) (s.1 463 (at_ + 181 + i)), nI (i + 1)), ⟨rfl, ho.tr su_out, ?_⟩, ?_⟩
    · show (su s 463 _ _).1 463 = _
      rw [su_row, hv]
      exact cpy_s _ _ _ _ (by omega)
    · show fX9_restore_166 462 (n + 1) s (nI at_) l3 l4 (nI i) = fX9_restore_166 462 n _ (nI at_) l3 l4 (nI (i + 1))
      rw [fX9_restore_166, if_neg (n_ge 35 (m := 35) rfl hi (by decide)), e7, e0, if_pos (j_ckn (by omega) (by decide)), if_pos (j_ckn (by omega) (by decide)), j_nm, j_cl _ (by omega), j_cl _ (by omega), j_s]
  · rintro n ⟨s, l⟩ ⟨rfl, ho, hv⟩
    simp only at ho hv
    show ∃ σ', fX9_restore_166 462 (n + 1) s (nI at_) l3 l4 (nI 35) = _ ∧ _
    rw [fX9_restore_166, if_pos (n_le 35 (m := 35) rfl (by decide))]
    exact ⟨s, rfl, ho, hv⟩
theorem m_re127 {at_ : Nat} (ha : 264 ≤ at_ ∧ at_ ≤ 702) (l3 l4 : Int32) : ∃ σ', fX9_restore_127 462 FU σ (nI at_) l3 l4 0 = (fX9_puts σ' 462 0 3 l3).bind (fun σ8 => (fX9_puts σ8 462 0 4 l4).bind fun σ9 => fX9_restore_221 462 FU σ9 0) ∧ Out σ σ' 463 463 ∧ σ'.1 463 = cpy (cpy (σ.1 463) (at_ + 37) 72 144) (at_ + 181) 216 35 := by
  refine lp (F := fun n (s : Sg × Int32) => fX9_restore_127 462 n s.1 (nI at_) l3 l4 s.2) (Q := fun r => ∃ σ', r = (fX9_puts σ' 462 0 3 l3).bind (fun σ8 => (fX9_puts σ8 462 0 4 l4).bind fun σ9 => fX9_restore_221 462 FU σ9 0) ∧ Out σ σ' 463 463 ∧ σ'.1 463 = cpy (cpy (σ.1 463) (at_ + 37) 72 144) (at_ + 181) 216 35) (fun i s => s.2 = nI i ∧ Out σ s.1 463 463 ∧ s.1.1 463 = cpy (σ.1 463) (at_ + 37) 72 i) 144 ?_ ?_ 144 0 FU (σ, 0) rfl (by decide) ⟨rfl, Out.rf, by
    funext c
    unfold cpy
    rw [if_neg (by omega)]⟩
  · rintro n i ⟨s, l⟩ hi ⟨rfl, ho, hv⟩
    simp only at ho hv
    have e0 : (nI at_ + 37) + nI i = nI (at_ + 37 + i) := by rw [show (37 : Int32) = nI 37 from rfl, j_a, j_a]
    have e7 : 72 + nI i = nI (72 + i) := j_a 72 i
    refine ⟨(su s 463 (72 + i) (s.1 463 (at_ + 37 + i)), nI (i + 1)), ⟨rfl, ho.tr su_out, ?_⟩, ?_⟩
    · show (su s 463 _ _).1 463 = _
      rw [su_row, hv]
      exact cpy_s _ _ _ _ (by omega)
    · show fX9_restore_127 462 (n + 1) s (nI at_) l3 l4 (nI i) = fX9_restore_127 462 n _ (nI at_) l3 l4 (nI (i + 1))
      rw [fX9_restore_127, if_neg (n_ge 144 (m := 144) rfl hi (by decide)), e7, e0, if_pos (j_ckn (by omega) (by decide)), if_pos (j_ckn (by omega) (by decide)), j_nm, j_cl _ (by omega), j_cl _ (by omega), j_s]
  · rintro n ⟨s, l⟩ ⟨rfl, ho, hv⟩
    simp only at ho hv
    show ∃ σ', fX9_restore_127 462 (n + 1) s (nI at_) l3 l4 (nI 144) = _ ∧ _
    obtain ⟨σ', a, b, c⟩ := m_re166 (σ := s) ha l3 l4
    rw [fX9_restore_127, if_pos (n_le 144 (m := 144) rfl (by decide))]
    exact ⟨σ', a, ho.tr b, by rw [c, hv]⟩
theorem m_re70 {at_ : Nat} (ha : 264 ≤ at_ ∧ at_ ≤ 702) (l3 l4 : Int32) : ∃ σ', fX9_restore_70 462 FU σ (nI at_) l3 l4 0 = (fX9_puts σ' 462 0 3 l3).bind (fun σ8 => (fX9_puts σ8 462 0 4 l4).bind fun σ9 => fX9_restore_221 462 FU σ9 0) ∧ Out σ σ' 463 463 ∧ σ'.1 463 = cpy (cpy (rtp (σ.1 463) at_ 12) (at_ + 37) 72 144) (at_ + 181) 216 35 := by
  refine lp (F := fun n (s : Sg × Int32) => fX9_restore_70 462 n s.1 (nI at_) l3 l4 s.2) (Q := fun r => ∃ σ', r = (fX9_puts σ' 462 0 3 l3).bind (fun σ8 => (fX9_puts σ8 462 0 4 l4).bind fun σ9 => fX9_restore_221 462 FU σ9 0) ∧ Out σ σ' 463 463 ∧ σ'.1 463 = cpy (cpy (rtp (σ.1 463) at_ 12) (at_ + 37) 72 144) (at_ + 181) 216 35) (fun i s => s.2 = nI i ∧ Out σ s.1 463 463 ∧ s.1.1 463 = rtp (σ.1 463) at_ i) 12 ?_ ?_ 12 0 FU (σ, 0) rfl (by decide) ⟨rfl, Out.rf, by
    funext c
    unfold rtp
    rw [if_neg (by omega)]⟩
  · rintro n i ⟨s, l⟩ hi ⟨rfl, ho, hv⟩
    simp only at ho hv
    obtain ⟨σ2, a2, o2, v2⟩ := m_re80 (σ := s) ha hi l3 l4 (fX9_restore_70 462 n)
    refine ⟨(σ2, nI (i + 1)), ⟨rfl, ho.tr o2, ?_⟩, ?_⟩
    · show σ2.1 463 = _
      rw [v2, hv]
      funext c
      unfold cpy rtp
      by_cases q : 6 * i + 3 ≤ c ∧ c < 6 * i + 3 + 3
      · obtain ⟨k, hk, ek⟩ : ∃ k, k < 3 ∧ c = 6 * i + 3 + k := ⟨c - (6 * i + 3), by omega, by omega⟩
        subst ek
        have e1 : (6 * i + 3 + k) / 6 = i := by omega
        have e2 : (6 * i + 3 + k) % 6 - 3 = k := by omega
        have e3 : 6 * i + 3 + k - (6 * i + 3) = k := by omega
        rw [if_pos q, if_neg (by omega), if_pos (by omega), e1, e2, e3]
      · rw [if_neg q]
        by_cases z : c < 6 * i ∧ 3 ≤ c % 6
        · rw [if_pos z, if_pos (by omega)]
        · rw [if_neg z, if_neg (by omega)]
    · show fX9_restore_70 462 (n + 1) s (nI at_) l3 l4 (nI i) = fX9_restore_70 462 n σ2 (nI at_) l3 l4 (nI (i + 1))
      rw [fX9_restore_70, if_neg (n_ge 12 (m := 12) rfl hi (by decide)), a2]
  · rintro n ⟨s, l⟩ ⟨rfl, ho, hv⟩
    simp only at ho hv
    show ∃ σ', fX9_restore_70 462 (n + 1) s (nI at_) l3 l4 (nI 12) = _ ∧ _
    obtain ⟨σ', a, b, c⟩ := m_re127 (σ := s) ha l3 l4
    rw [fX9_restore_70, if_pos (n_le 12 (m := 12) rfl (by decide))]
    exact ⟨σ', a, ho.tr b, by rw [c, hv]⟩
/-- what the cells are then -/
theorem re_row (f : Nat → Int32) {s : Nat} (hs : s < 3) {g : Nat → Int32} (hg : g = cpy (cpy (rtp f (264 + 219 * s) 12) (264 + 219 * s + 37) 72 144) (264 + 219 * s + 181) 216 35) : (∀ j, (j = 6 ∨ j = 7 ∨ j = 8 ∨ 20 ≤ j) → mv g j = mv f j) ∧ ∀ j i, (j < 6 ∨ (9 ≤ j ∧ j < 20)) → i < mw j → mv g j i = sr (mv f (22 + s)) j i := by
  have m22 : ∀ i, i < 219 → mv f (22 + s) i = (f (264 + 219 * s + i)).toInt := fun i hi => by
    have hw : mw (22 + s) = 219 := by
      unfold mw
      rw [if_neg (by omega), if_neg (by omega), if_neg (by omega), if_neg (by omega), if_neg (by omega), if_neg (by omega), if_neg (by omega), if_pos (by omega)]
    have hm : ma (22 + s) i = 264 + 219 * s + i := by
      unfold ma
      rw [if_neg (by omega), if_neg (by omega), if_neg (by omega), if_neg (by omega), if_neg (by omega), if_neg (by omega), if_neg (by omega)]
      omega
    rw [mv_in (by omega), hm]
  refine ⟨fun j hj => ?_, fun j i hj hi => ?_⟩
  · funext i
    unfold mv
    by_cases q : i < mw j
    · rw [if_pos q, if_pos q]
      congr 1
      rw [hg]
      have : (ma j i < 72 ∧ ma j i % 6 < 3) ∨ 251 ≤ ma j i := by
        rcases hj with h | h | h | h
        · obtain ⟨rfl⟩ := h
          have e := ma_p (k := 0) (by decide) i
          have : i < 12 := q
          simp only [Nat.reduceAdd] at e
          omega
        · obtain ⟨rfl⟩ := h
          have e := ma_p (k := 1) (by decide) i
          have : i < 12 := q
          simp only [Nat.reduceAdd] at e
          omega
        · obtain ⟨rfl⟩ := h
          have e := ma_p (k := 2) (by decide) i
          have : i < 12 := q
          simp only [Nat.reduceAdd] at e
          omega
        · right
          unfold ma
          rw [if_neg (by omega), if_neg (by omega), if_neg (by omega), if_neg (by omega), if_neg (by omega)]
          split
          · omega
          · split
            · omega
            · omega
      unfold cpy rtp
      rw [if_neg (by omega), if_neg (by omega), if_neg (by omega)]
    · rw [if_neg q, if_neg q]
  · unfold sr
    rw [if_pos hi]
    rcases hj with hj | ⟨h9, h20⟩
    · rw [if_pos hj]
      rw [mw_n hj] at hi
      rw [m22 _ (by omega), mv_in (by rw [mw_n hj]; exact hi), ma_n hj, hg]
      unfold cpy rtp
      rw [if_neg (by omega), if_pos (by omega), if_neg (by omega)]
      exact congrArg (fun x => (f x).toInt) (by omega)
    · rw [if_neg (by omega)]
      by_cases h12 : j < 12
      · rw [if_pos h12]
        obtain ⟨k, hk⟩ : ∃ k, j = 6 + k := ⟨j - 6, by omega⟩
        subst hk
        rw [mw_p (by omega)] at hi
        rw [m22 _ (by omega), mv_in (by rw [mw_p (by omega)]; exact hi), ma_p (by omega), hg]
        unfold cpy rtp
        rw [if_neg (by omega), if_neg (by omega), if_pos (by omega)]
        exact congrArg (fun x => (f x).toInt) (by omega)
      · rw [if_neg h12]
        by_cases h18 : j < 18
        · rw [if_pos h18]
          obtain ⟨k, hk⟩ : ∃ k, j = 12 + k := ⟨j - 12, by omega⟩
          subst hk
          rw [mw_w (by omega)] at hi
          rw [m22 _ (by omega), mv_in (by rw [mw_w (by omega)]; exact hi), ma_w (by omega), hg]
          unfold cpy rtp
          rw [if_pos (by omega), if_neg (by omega), if_neg (by omega)]
          exact congrArg (fun x => (f x).toInt) (by omega)
        · rw [if_neg h18]
          by_cases e18 : j = 18
          · rw [if_pos e18]
            subst e18
            have hi : i < 1 := hi
            have : i = 0 := by omega
            subst this
            rw [m22 _ (by omega), mv_in (by decide), show ma 18 0 = 246 from rfl, hg]
            unfold cpy rtp
            rw [if_pos (by omega), if_neg (by omega), if_neg (by omega)]
          · rw [if_neg e18]
            have : j = 19 := by omega
            subst this
            have hi : i < 4 := hi
            rw [m22 _ (by omega), mv_in (by exact hi), show ma 19 i = 247 + i from rfl, hg]
            unfold cpy rtp
            rw [if_pos (by omega), if_neg (by omega), if_neg (by omega)]
            exact congrArg (fun x => (f x).toInt) (by omega)
/-- taking away, the floors settled -/
theorem m_re221 {S : ST} {V : VW} {d : Nat → Nat} {wn : Nat → Int} (h6 : ∀ p, p < 12 → mv (σ.1 463) 6 p = if exB S p then 1 else 0) (hV : VM (mv (σ.1 463)) V (fun _ => false)) (hI : Inv V d wn) (ho : OE (mo (mv (σ.1 463)) 20) (S_fo S)) (hd : DI (S_fo S)) (hp : Pn (S_fo S)) : ∃ σ', fX9_restore_221 462 FU σ 0 = some (oI (m_pm (mv (σ'.1 463))), σ') ∧ Out σ σ' 463 463 ∧ VM (mv (σ'.1 463)) (wds (fun q => !exB S q) V 12) (fun _ => false) ∧ OE (mo (mv (σ'.1 463)) 20) (fc (plc (wds (fun q => !exB S q) V 12)) (S_fo S) 12) ∧ FS (mv (σ.1 463)) (mv (σ'.1 463)) := by
  refine lp (F := fun n (s : Sg × Int32) => fX9_restore_221 462 n s.1 s.2) (Q := fun r => ∃ σ', r = some (oI (m_pm (mv (σ'.1 463))), σ') ∧ Out σ σ' 463 463 ∧ VM (mv (σ'.1 463)) (wds (fun q => !exB S q) V 12) (fun _ => false) ∧ OE (mo (mv (σ'.1 463)) 20) (fc (plc (wds (fun q => !exB S q) V 12)) (S_fo S) 12) ∧ FS (mv (σ.1 463)) (mv (σ'.1 463))) (fun i s => s.2 = nI i ∧ Out σ s.1 463 463 ∧ VM (mv (s.1.1 463)) (wds (fun q => !exB S q) V i) (fun _ => false) ∧ FR (mv (σ.1 463)) (mv (s.1.1 463))) 12 ?_ ?_ 12 0 FU (σ, 0) rfl (by decide) ⟨rfl, Out.rf, hV, FR.rf⟩
  · rintro n i ⟨s, l⟩ hi ⟨rfl, hO, hv, hf⟩
    simp only at hO hv hf
    obtain ⟨⟨i1, i2, i3, i4⟩, -⟩ := wds_inv (c := fun q => !exB S q) hI i (by omega)
    have ei : (nI i).toInt = i := j_nI (by omega)
    show ∃ s' : Sg × Int32, _ ∧ fX9_restore_221 462 (n + 1) s (nI i) = _
    rw [fX9_restore_221, if_neg (n_ge 12 (m := 12) rfl hi (by decide)), m_o0 ei hi, j_b, hf 6 (by decide), h6 i hi]
    have ew : wds (fun q => !exB S q) V (i + 1) = if (!exB S i) = true then v_withdraw (wds (fun q => !exB S q) V i) i else wds (fun q => !exB S q) V i := rfl
    cases q : exB S i
    · rw [if_pos (by decide)]
      obtain ⟨σ2, a2, o2, v2, f2⟩ := m_takes hv i1 i2 i3 ei hi
      rw [a2, j_b, fX9_restore_244, j_s]
      rw [q, if_pos (by decide)] at ew
      exact ⟨(σ2, nI (i + 1)), ⟨rfl, hO.tr o2, by rw [ew]; exact v2, hf.tr f2⟩, rfl⟩
    · rw [if_neg (by decide), fX9_restore_244, j_s]
      rw [q, if_neg (by decide)] at ew
      exact ⟨(s, nI (i + 1)), ⟨rfl, hO, by rw [ew]; exact hv, hf⟩, rfl⟩
  · rintro n ⟨s, l⟩ ⟨rfl, hO, hv, hf⟩
    simp only at hO hv hf
    show ∃ σ', fX9_restore_221 462 (n + 1) s (nI 12) = _ ∧ _
    have h9 : ∀ p, p < 12 → decide (mv (s.1 463) 9 p ≠ -1) = plc (wds (fun q => !exB S q) V 12) p := fun p hp => by
      rw [hv.gr hp]
      rfl
    have o2 : OE (mo (mv (s.1 463)) 20) (S_fo S) := by
      have e : mo (mv (s.1 463)) 20 = mo (mv (σ.1 463)) 20 := by
        unfold mo
        rw [hf 20 (by omega), hf 21 (by omega)]
      rw [e]
      exact ho
    obtain ⟨σ3, a3, o3, v3, r3⟩ := m_focuses h9 o2 hd hp
    rw [fX9_restore_221, if_pos (n_le 12 (m := 12) rfl (by decide)), a3, j_b, m_placedMany, j_b]
    refine ⟨σ3, rfl, hO.tr o3, ?_, v3, fun j hj => ?_⟩
    · obtain ⟨⟨-, -, i3, -⟩, -⟩ := wds_inv (c := fun q => !exB S q) hI 12 (Nat.le_refl _)
      exact hv.cg (fl4 i3).2 (fun j i hj _ => by rw [r3 j (by omega) (by omega)])
    · rw [r3 j (by omega) (by omega), hf j (by omega)]
/-- restore, from the saved cells -/
theorem m_restore {S : ST} {s : Nat} (hs : s < 3) {d : Nat → Nat} {wn : Nat → Int} (h : SM (mv (σ.1 463)) S) (hv : svB S s = true) (hI : Inv (v_load (S_sl S s) (S_pl S)) d wn) (hd : DI (S_fo S)) (hp : Pn (S_fo S)) : ∃ σ', fX9_restore_70 462 FU σ (nI (264 + 219 * s)) (oI (mv (σ.1 463) 15 0)) (oI (mv (σ.1 463) 16 0)) 0 = some (oI (m_pm (mv (σ'.1 463))), σ') ∧ Out σ σ' 463 463 ∧ SM (mv (σ'.1 463)) (S.1, S.2.1, S.2.2.1, fc (plc (wds (fun q => !exB S q) (v_load (S_sl S s) (S_pl S)) 12)) (S_fo S) 12, wds (fun q => !exB S q) (v_load (S_sl S s) (S_pl S)) 12, S.2.2.2.2.2) := by
  obtain ⟨h1, h2, h3, h4⟩ := h
  obtain ⟨σ1, a1, o1, v1⟩ := m_re70 (σ := σ) (at_ := 264 + 219 * s) (by omega) (oI (mv (σ.1 463) 15 0)) (oI (mv (σ.1 463) 16 0))
  obtain ⟨r1, r2⟩ := re_row (σ.1 463) hs v1
  obtain ⟨σ2, a2, o2, v2⟩ := m_s3 (σ := σ1) (a := 0) (w := 0) rfl (by decide) (oI (mv (σ.1 463) 15 0))
  obtain ⟨σ3, a3, o3, v3⟩ := m_s4 (σ := σ2) (a := 0) (w := 0) rfl (by decide) (oI (mv (σ.1 463) 16 0))
  rw [t_mv] at v2 v3
  rw [v2] at v3
  have l4 : (S_sl S s) 6 1 ≤ 4 := (fl4 hI.2.2.1).2
  have vm1 : VM (mv (σ1.1 463)) (S_sl S s) (fun _ => false) := ((h4 s hs).2 hv).cg l4 (fun j i hj hi => r2 j i hj hi)
  have vm3 : VM (mv (σ3.1 463)) (v_load (S_sl S s) (S_pl S)) (fun _ => false) := by
    have := vm1.size (mv (σ.1 463) 15 0) (mv (σ.1 463) 16 0)
    rw [v3]
    have g := h2.geo (w := 0) (by decide) (Or.inl rfl)
    rw [g.2.2.1, g.2.2.2] at this ⊢
    exact this
  have f3 : FR (mv (σ.1 463)) (mv (σ3.1 463)) := fun j hj => by
    rw [v3, mu_ne (by omega), mu_ne (by omega), r1 j hj]
  have o4 : OE (mo (mv (σ3.1 463)) 20) (S_fo S) := by
    have e : mo (mv (σ3.1 463)) 20 = mo (mv (σ.1 463)) 20 := by
      unfold mo
      rw [f3 20 (by omega), f3 21 (by omega)]
    rw [e]
    exact h3
  obtain ⟨σ4, a4, o4', v4, w4, f4⟩ := m_re221 (σ := σ3) (S := S) (fun p hp => by rw [f3 6 (by omega)]; exact (h1 p hp).1) vm3 hI o4 hd hp
  refine ⟨σ4, ?_, ((o1.tr o2).tr o3).tr o4', ?_⟩
  · rw [a1, show (fX9_puts σ1 462 0 3 (oI (mv (σ.1 463) 15 0))) = some σ2 from a2, j_b, show (fX9_puts σ2 462 0 4 (oI (mv (σ.1 463) 16 0))) = some σ3 from a3, j_b]
    exact a4
  · have ff : ∀ j, (j = 6 ∨ j = 7 ∨ j = 8 ∨ 22 ≤ j) → mv (σ4.1 463) j = mv (σ.1 463) j := fun j hj => by
      rw [f4 j hj, f3 j (by omega)]
    refine ⟨fun p hp => ?_, v4, w4, fun t ht => ?_⟩
    · rw [ff 6 (by omega), ff 7 (by omega), ff 8 (by omega)]
      exact h1 p hp
    · rw [ff (22 + t) (by omega)]
      exact h4 t ht
end RR
