/-! THE RELATION: store and restore in the reference -/
section SR
variable {σ : Sg}
/-- some cells from others: d to d + n from s -/
def cpy (f : Nat → Int32) (s d n : Nat) : Nat → Int32 := fun c => if d ≤ c ∧ c < d + n then f (s + (c - d)) else f c
theorem cpy_s (f : Nat → Int32) (s d i : Nat) (h : s + i < d ∨ d + i ≤ s) : (fun c => if c = d + i then cpy f s d i (s + i) else cpy f s d i c) = cpy f s d (i + 1) := by
  funext c
  unfold cpy
  by_cases q : c = d + i
  · rw [if_pos q, if_neg (by omega), if_pos (by omega), q]
    congr 1
    omega
  · rw [if_neg q]
    by_cases z : d ≤ c ∧ c < d + i
    · rw [if_pos z, if_pos (by omega)]
    · rw [if_neg z, if_neg (by omega)]
theorem su_row {k c : Nat} {v : Int32} : (su σ k c v).1 k = fun i => if i = c then v else σ.1 k i := by
  funext i
  rw [su_at]
  by_cases q : i = c
  · rw [if_pos ⟨rfl, q⟩, if_pos q]
  · rw [if_neg (fun z => q z.2), if_neg q]
theorem m_st55 {at_ p : Nat} (ha : 264 ≤ at_ ∧ at_ ≤ 702) (hp : p < 12) (k46 : Sg → Int32 → Int32 → Option (Int32 × Sg)) : ∃ σ', fX9_store_55 462 k46 FU σ (nI at_) (nI p) 0 = k46 σ' (nI at_) (nI (p + 1)) ∧ Out σ σ' 463 463 ∧ σ'.1 463 = cpy (σ.1 463) (6 * p + 3) (at_ + 1 + 3 * p) 3 := by
  refine lp (F := fun n (s : Sg × Int32) => fX9_store_55 462 k46 n s.1 (nI at_) (nI p) s.2) (Q := fun r => ∃ σ', r = k46 σ' (nI at_) (nI (p + 1)) ∧ Out σ σ' 463 463 ∧ σ'.1 463 = cpy (σ.1 463) (6 * p + 3) (at_ + 1 + 3 * p) 3) (fun i s => s.2 = nI i ∧ Out σ s.1 463 463 ∧ s.1.1 463 = cpy (σ.1 463) (6 * p + 3) (at_ + 1 + 3 * p) i) 3 ?_ ?_ 3 0 FU (σ, 0) rfl (by decide) ⟨rfl, Out.rf, by
    funext c
    unfold cpy
    rw [if_neg (by omega)]⟩
  · rintro n i ⟨s, l⟩ hi ⟨rfl, ho, hv⟩
    simp only at ho hv
    have e3 : (3 : Int32) * nI p = nI (3 * p) := (Int32.ofNat_mul 3 p).symm
    have e6 : (6 : Int32) * nI p = nI (6 * p) := (Int32.ofNat_mul 6 p).symm
    have e0 : (nI at_ + 1 + 3 * nI p) + nI i = nI (at_ + 1 + 3 * p + i) := by rw [e3, j_s, j_a, j_a]
    have e7 : 6 * nI p + (3 + nI i) = nI (6 * p + 3 + i) := by rw [e6, show (3 : Int32) = nI 3 from rfl, j_a, j_a, Nat.add_assoc]
    refine ⟨(su s 463 (at_ + 1 + 3 * p + i) (s.1 463 (6 * p + 3 + i)), nI (i + 1)), ⟨rfl, ho.tr su_out, ?_⟩, ?_⟩
    · show (su s 463 _ _).1 463 = _
      rw [su_row, hv]
      exact cpy_s _ _ _ _ (by omega)
    · show fX9_store_55 462 k46 (n + 1) s (nI at_) (nI p) (nI i) = fX9_store_55 462 k46 n _ (nI at_) (nI p) (nI (i + 1))
      have eo : fX9_of s 462 (nI p) (3 + nI i) = some (s.1 463 (6 * p + 3 + i)) := by
        unfold fX9_of
        rw [e7, if_pos (j_ckn (by omega) (by decide)), j_cl _ (by omega)]
      rw [fX9_store_55, if_neg (n_ge 3 (m := 3) rfl hi (by decide)), eo, j_b, e0, if_pos (j_ckn (by omega) (by decide)), j_nm, j_cl _ (by omega), j_s]
  · rintro n ⟨s, l⟩ ⟨rfl, ho, hv⟩
    show ∃ σ', fX9_store_55 462 k46 (n + 1) s (nI at_) (nI p) (nI 3) = _ ∧ _
    rw [fX9_store_55, if_pos (n_le 3 (m := 3) rfl (by decide)), j_s]
    exact ⟨s, rfl, ho, hv⟩
/-- the panes' cells are in the slot -/
def stp (f : Nat → Int32) (at_ n : Nat) : Nat → Int32 := fun c => if at_ + 1 ≤ c ∧ c < at_ + 1 + 3 * n then f (6 * ((c - (at_ + 1)) / 3) + 3 + (c - (at_ + 1)) % 3) else f c
theorem m_st134 {at_ : Nat} (ha : 264 ≤ at_ ∧ at_ ≤ 702) {m : Int32} (hm : ∀ s : Sg, (∀ c, c < 264 → s.1 463 c = σ.1 463 c) → fX9_placedMany s 462 = some m) : ∃ σ', fX9_store_134 462 FU σ (nI at_) 0 = some (m, σ') ∧ Out σ σ' 463 463 ∧ σ'.1 463 = cpy (σ.1 463) 216 (at_ + 181) 35 := by
  refine lp (F := fun n (s : Sg × Int32) => fX9_store_134 462 n s.1 (nI at_) s.2) (Q := fun r => ∃ σ', r = some (m, σ') ∧ Out σ σ' 463 463 ∧ σ'.1 463 = cpy (σ.1 463) 216 (at_ + 181) 35) (fun i s => s.2 = nI i ∧ Out σ s.1 463 463 ∧ s.1.1 463 = cpy (σ.1 463) 216 (at_ + 181) i) 35 ?_ ?_ 35 0 FU (σ, 0) rfl (by decide) ⟨rfl, Out.rf, by
    funext c
    unfold cpy
    rw [if_neg (by omega)]⟩
  · rintro n i ⟨s, l⟩ hi ⟨rfl, ho, hv⟩
    simp only at ho hv
    have e0 : (nI at_ + 181) + nI i = nI (at_ + 181 + i) := by rw [show (181 : Int32) = nI 181 from rfl, j_a, j_a]
    have e7 : 216 + nI i = nI (216 + i) := j_a 216 i
    refine ⟨(su s 463 (at_ + 181 + i) (s.1 463 (216 + i)), nI (i + 1)), ⟨rfl, ho.tr su_out, ?_⟩, ?_⟩
    · show (su s 463 _ _).1 463 = _
      rw [su_row, hv]
      exact cpy_s _ _ _ _ (by omega)
    · show fX9_store_134 462 (n + 1) s (nI at_) (nI i) = fX9_store_134 462 n _ (nI at_) (nI (i + 1))
      rw [fX9_store_134, if_neg (n_ge 35 (m := 35) rfl hi (by decide)), e7, e0, if_pos (j_ckn (by omega) (by decide)), if_pos (j_ckn (by omega) (by decide)), j_nm, j_cl _ (by omega), j_cl _ (by omega), j_s]
  · rintro n ⟨s, l⟩ ⟨rfl, ho, hv⟩
    simp only at ho hv
    show ∃ σ', fX9_store_134 462 (n + 1) s (nI at_) (nI 35) = _ ∧ _
    rw [fX9_store_134, if_pos (n_le 35 (m := 35) rfl (by decide)), hm s (fun c hc => by
      rw [hv]
      unfold cpy
      rw [if_neg (by omega)]), j_b]
    exact ⟨s, rfl, ho, hv⟩
theorem m_st99 {at_ : Nat} (ha : 264 ≤ at_ ∧ at_ ≤ 702) {m : Int32} (hm : ∀ s : Sg, (∀ c, c < 264 → s.1 463 c = σ.1 463 c) → fX9_placedMany s 462 = some m) : ∃ σ', fX9_store_99 462 FU σ (nI at_) 0 = some (m, σ') ∧ Out σ σ' 463 463 ∧ σ'.1 463 = cpy (cpy (σ.1 463) 72 (at_ + 37) 144) 216 (at_ + 181) 35 := by
  refine lp (F := fun n (s : Sg × Int32) => fX9_store_99 462 n s.1 (nI at_) s.2) (Q := fun r => ∃ σ', r = some (m, σ') ∧ Out σ σ' 463 463 ∧ σ'.1 463 = cpy (cpy (σ.1 463) 72 (at_ + 37) 144) 216 (at_ + 181) 35) (fun i s => s.2 = nI i ∧ Out σ s.1 463 463 ∧ s.1.1 463 = cpy (σ.1 463) 72 (at_ + 37) i) 144 ?_ ?_ 144 0 FU (σ, 0) rfl (by decide) ⟨rfl, Out.rf, by
    funext c
    unfold cpy
    rw [if_neg (by omega)]⟩
  · rintro n i ⟨s, l⟩ hi ⟨rfl, ho, hv⟩
    simp only at ho hv
    have e0 : (nI at_ + 37) + nI i = nI (at_ + 37 + i) := by rw [show (37 : Int32) = nI 37 from rfl, j_a, j_a]
    have e7 : 72 + nI i = nI (72 + i) := j_a 72 i
    refine ⟨(su s 463 (at_ + 37 + i) (s.1 463 (72 + i)), nI (i + 1)), ⟨rfl, ho.tr su_out, ?_⟩, ?_⟩
    · show (su s 463 _ _).1 463 = _
      rw [su_row, hv]
      exact cpy_s _ _ _ _ (by omega)
    · show fX9_store_99 462 (n + 1) s (nI at_) (nI i) = fX9_store_99 462 n _ (nI at_) (nI (i + 1))
      rw [fX9_store_99, if_neg (n_ge 144 (m := 144) rfl hi (by decide)), e7, e0, if_pos (j_ckn (by omega) (by decide)), if_pos (j_ckn (by omega) (by decide)), j_nm, j_cl _ (by omega), j_cl _ (by omega), j_s]
  · rintro n ⟨s, l⟩ ⟨rfl, ho, hv⟩
    simp only at ho hv
    show ∃ σ', fX9_store_99 462 (n + 1) s (nI at_) (nI 144) = _ ∧ _
    obtain ⟨σ', a, b, c⟩ := m_st134 (σ := s) ha (m := m) (fun t ht => hm t (fun c hc => by
      rw [ht c hc, hv]
      unfold cpy
      rw [if_neg (by omega)]))
    rw [fX9_store_99, if_pos (n_le 144 (m := 144) rfl (by decide))]
    exact ⟨σ', a, ho.tr b, by rw [c, hv]⟩
theorem m_st46 {at_ : Nat} (ha : 264 ≤ at_ ∧ at_ ≤ 702) {m : Int32} (hm : ∀ s : Sg, (∀ c, c < 264 → s.1 463 c = σ.1 463 c) → fX9_placedMany s 462 = some m) : ∃ σ', fX9_store_46 462 FU σ (nI at_) 0 = some (m, σ') ∧ Out σ σ' 463 463 ∧ σ'.1 463 = cpy (cpy (stp (σ.1 463) at_ 12) 72 (at_ + 37) 144) 216 (at_ + 181) 35 := by
  refine lp (F := fun n (s : Sg × Int32) => fX9_store_46 462 n s.1 (nI at_) s.2) (Q := fun r => ∃ σ', r = some (m, σ') ∧ Out σ σ' 463 463 ∧ σ'.1 463 = cpy (cpy (stp (σ.1 463) at_ 12) 72 (at_ + 37) 144) 216 (at_ + 181) 35) (fun i s => s.2 = nI i ∧ Out σ s.1 463 463 ∧ s.1.1 463 = stp (σ.1 463) at_ i) 12 ?_ ?_ 12 0 FU (σ, 0) rfl (by decide) ⟨rfl, Out.rf, by
    funext c
    unfold stp
    rw [if_neg (by omega)]⟩
  · rintro n i ⟨s, l⟩ hi ⟨rfl, ho, hv⟩
    simp only at ho hv
    obtain ⟨σ2, a2, o2, v2⟩ := m_st55 (σ := s) ha hi (fX9_store_46 462 n)
    refine ⟨(σ2, nI (i + 1)), ⟨rfl, ho.tr o2, ?_⟩, ?_⟩
    · show σ2.1 463 = _
      rw [v2, hv]
      funext c
      unfold cpy stp
      by_cases q : at_ + 1 + 3 * i ≤ c ∧ c < at_ + 1 + 3 * i + 3
      · obtain ⟨k, hk, ek⟩ : ∃ k, k < 3 ∧ c = at_ + 1 + 3 * i + k := ⟨c - (at_ + 1 + 3 * i), by omega, by omega⟩
        subst ek
        rw [if_pos q, if_neg (by omega), if_pos (by omega)]
        have e1 : (at_ + 1 + 3 * i + k - (at_ + 1)) / 3 = i := by omega
        have e2 : (at_ + 1 + 3 * i + k - (at_ + 1)) % 3 = k := by omega
        have e3 : at_ + 1 + 3 * i + k - (at_ + 1 + 3 * i) = k := by omega
        rw [e1, e2, e3]
      · rw [if_neg q]
        by_cases z : at_ + 1 ≤ c ∧ c < at_ + 1 + 3 * i
        · rw [if_pos z, if_pos (by omega)]
        · rw [if_neg z, if_neg (by omega)]
    · show fX9_store_46 462 (n + 1) s (nI at_) (nI i) = fX9_store_46 462 n σ2 (nI at_) (nI (i + 1))
      rw [fX9_store_46, if_neg (n_ge 12 (m := 12) rfl hi (by decide)), a2]
  · rintro n ⟨s, l⟩ ⟨rfl, ho, hv⟩
    simp only at ho hv
    show ∃ σ', fX9_store_46 462 (n + 1) s (nI at_) (nI 12) = _ ∧ _
    obtain ⟨σ', a, b, c⟩ := m_st99 (σ := s) ha (m := m) (fun t ht => hm t (fun c hc => by
      rw [ht c hc, hv]
      unfold stp
      rw [if_neg (by omega)]))
    rw [fX9_store_46, if_pos (n_le 12 (m := 12) rfl (by decide))]
    exact ⟨σ', a, ho.tr b, by rw [c, hv]⟩
/-- what the slot's cells are then -/
theorem st_row (f : Nat → Int32) {s : Nat} (hs : s < 3) {g : Nat → Int32} (hg : g = cpy (cpy (stp (fun i => if i = 264 + 219 * s then 1 else f i) (264 + 219 * s) 12) 72 (264 + 219 * s + 37) 144) 216 (264 + 219 * s + 181) 35) : (∀ j, j < 22 → mv g j = mv f j) ∧ (∀ t, t < 3 → t ≠ s → mv g (22 + t) = mv f (22 + t)) ∧ mv g (22 + s) 0 = 1 ∧ ∀ j i, (j < 6 ∨ (9 ≤ j ∧ j < 20)) → i < mw j → sr (mv g (22 + s)) j i = mv f j i := by
  have low : ∀ c, c < 264 + 219 * s ∨ 264 + 219 * s + 219 ≤ c → g c = f c := fun c hc => by
    rw [hg]
    unfold cpy stp
    dsimp only
    rw [if_neg (by omega), if_neg (by omega), if_neg (by omega), if_neg (by omega)]
  have m22 : ∀ t, t < 3 → ∀ i, i < 219 → mv g (22 + t) i = (g (264 + 219 * t + i)).toInt ∧ mv f (22 + t) i = (f (264 + 219 * t + i)).toInt := fun t ht i hi => by
    have hw : mw (22 + t) = 219 := by
      unfold mw
      rw [if_neg (by omega), if_neg (by omega), if_neg (by omega), if_neg (by omega), if_neg (by omega), if_neg (by omega), if_neg (by omega), if_pos (by omega)]
    have hm : ma (22 + t) i = 264 + 219 * t + i := by
      unfold ma
      rw [if_neg (by omega), if_neg (by omega), if_neg (by omega), if_neg (by omega), if_neg (by omega), if_neg (by omega), if_neg (by omega)]
      omega
    rw [mv_in (by omega), mv_in (by omega), hm]
    exact ⟨rfl, rfl⟩
  have v0 : ∀ t, t < 3 → ∀ i, 219 ≤ i → mv g (22 + t) i = 0 ∧ mv f (22 + t) i = 0 := fun t ht i hi => by
    have hw : mw (22 + t) = 219 := by
      unfold mw
      rw [if_neg (by omega), if_neg (by omega), if_neg (by omega), if_neg (by omega), if_neg (by omega), if_neg (by omega), if_neg (by omega), if_pos (by omega)]
    unfold mv
    rw [if_neg (by omega), if_neg (by omega)]
    exact ⟨rfl, rfl⟩
  refine ⟨fun j hj => ?_, fun t ht ne => ?_, ?_, fun j i hj hi => ?_⟩
  · funext i
    unfold mv
    by_cases q : i < mw j
    · rw [if_pos q, if_pos q, low]
      left
      have : ma j i < 264 := by
        unfold mw at q
        unfold ma
        revert q
        split
        · intro q; omega
        · split
          · intro q; omega
          · split
            · intro q; omega
            · split
              · intro q; omega
              · split
                · intro q; omega
                · split
                  · intro q; omega
                  · split
                    · intro q; omega
                    · intro q; omega
      omega
    · rw [if_neg q, if_neg q]
  · funext i
    by_cases q : i < 219
    · rw [(m22 t ht i q).1, (m22 t ht i q).2, low _ (by omega)]
    · rw [(v0 t ht i (by omega)).1, (v0 t ht i (by omega)).2]
  · rw [(m22 s hs 0 (by omega)).1, hg]
    unfold cpy stp
    dsimp only
    rw [if_neg (by omega), if_neg (by omega), if_neg (by omega), if_pos (by omega)]
    rfl
  · unfold sr
    rw [if_pos hi]
    rcases hj with hj | ⟨h9, h20⟩
    · rw [if_pos hj]
      rw [mw_n hj] at hi
      rw [(m22 s hs _ (by omega)).1, mv_in (by rw [mw_n hj]; exact hi), ma_n hj, hg]
      unfold cpy stp
      dsimp only
      rw [if_neg (by omega), if_pos (by omega), if_neg (by omega), if_neg (by omega)]
      exact congrArg (fun x => (f x).toInt) (by omega)
    · rw [if_neg (by omega)]
      by_cases h12 : j < 12
      · rw [if_pos h12]
        obtain ⟨k, hk⟩ : ∃ k, j = 6 + k := ⟨j - 6, by omega⟩
        subst hk
        rw [mw_p (by omega)] at hi
        rw [(m22 s hs _ (by omega)).1, mv_in (by rw [mw_p (by omega)]; exact hi), ma_p (by omega), hg]
        unfold cpy stp
        dsimp only
        rw [if_neg (by omega), if_neg (by omega), if_pos (by omega), if_neg (by omega)]
        exact congrArg (fun x => (f x).toInt) (by omega)
      · rw [if_neg h12]
        by_cases h18 : j < 18
        · rw [if_pos h18]
          obtain ⟨k, hk⟩ : ∃ k, j = 12 + k := ⟨j - 12, by omega⟩
          subst hk
          rw [mw_w (by omega)] at hi
          rw [(m22 s hs _ (by omega)).1, mv_in (by rw [mw_w (by omega)]; exact hi), ma_w (by omega), hg]
          unfold cpy stp
          dsimp only
          rw [if_pos (by omega), if_neg (by omega), if_neg (by omega), if_neg (by omega)]
          exact congrArg (fun x => (f x).toInt) (by omega)
        · rw [if_neg h18]
          by_cases e18 : j = 18
          · rw [if_pos e18]
            subst e18
            have hi : i < 1 := hi
            have : i = 0 := by omega
            subst this
            rw [(m22 s hs _ (by omega)).1, mv_in (by decide), show ma 18 0 = 246 from rfl, hg]
            unfold cpy stp
            dsimp only
            rw [if_pos (by omega), if_neg (by omega), if_neg (by omega), if_neg (by omega)]
            exact congrArg (fun x => (f x).toInt) (by omega)
          · rw [if_neg e18]
            have : j = 19 := by omega
            subst this
            have hi : i < 4 := hi
            rw [(m22 s hs _ (by omega)).1, mv_in (by exact hi), show ma 19 i = 247 + i from rfl, hg]
            unfold cpy stp
            dsimp only
            rw [if_pos (by omega), if_neg (by omega), if_neg (by omega), if_neg (by omega)]
            exact congrArg (fun x => (f x).toInt) (by omega)
end SR
