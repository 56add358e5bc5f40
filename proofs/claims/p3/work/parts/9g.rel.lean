/-! THE RELATION: the reference's plan (7): too little room -/
section MG
variable {σ : Sg} {V : VW} {d : Nat → Nat} {wn : Nat → Int} {X Y : Nat → Bool}
/-- the k-th child in the reference -/
theorem m_kid (h : VM (mv (σ.1 463)) V X) (t : Tree V d wn Y) {n k : Nat} (hn : n < 23) (k1 : V 8 n ≤ 1) (hk : k < v_cc V n) : ∃ c : Nat, c < 23 ∧ fX9_child σ 462 (nI n) (nI k) = some (nI c) ∧ V 9 c = n ∧ (kids V n)[k]? = some c := by
  obtain ⟨c, hc, e1, e2, e3, e4⟩ := t.kid hn k1 hk
  have c23 : v_cc V n ≤ 23 := by
    unfold v_cc
    split
    · omega
    · exact cnt_le _ _
  refine ⟨c, hc, ?_, e2, e4⟩
  rw [m_child, j_nI (by omega), j_nI (by omega), h.ca t (by omega), e1, j_nIo c (by omega)]
theorem m_many (h : VM (mv (σ.1 463)) V X) (t : Tree V d wn Y) {n : Nat} (hn : n < 23) : fX9_childMany σ 462 (nI n) = some (nI (v_cc V n)) := by
  have c23 : v_cc V n ≤ 23 := by
    unfold v_cc
    split
    · omega
    · exact cnt_le _ _
  rw [m_childMany, j_nI (by omega), h.cc t (by omega), j_nIo _ (by omega)]
theorem m_ls146 (h : VM (mv (σ.1 463)) V X) (t : Tree V d wn Y) {n D : Nat} (hn : n < 23) (k1 : V 8 n ≤ 1) (hD : D ≤ 1) (hc : ∀ i, i < 23 → V 9 i = n → mq σ 1 i = 0 ∨ mq σ 1 i = 1) {m : Nat → Int} (hm : ∀ c ∈ pls V (mq σ) n, m c = mq σ (2 + D) c ∧ 0 ≤ m c ∧ m c ≤ 965) {room : Int} (h0 : 0 ≤ room ∧ room ≤ 400) : ∃ σ', fX9_laysShares_146 462 FU σ (nI n) (nI D) (oI room) 0 = some σ' ∧ Out σ σ' 470 470 ∧ ∀ c ∈ pls V (mq σ) n, (σ'.1 470 c).toInt = xm m (pls V (mq σ) n) room c := by
  have nd := t.pls_nd (P := mq σ) hn k1
  have c23 : v_cc V n ≤ 23 := by
    unfold v_cc
    split
    · omega
    · exact cnt_le _ _
  have hpl : pls V (mq σ) n = (kids V n).filter (fun c => decide (mq σ 1 c = 1)) := rfl
  refine lp (F := fun f (s : Sg × Int32 × Int32) => fX9_laysShares_146 462 f s.1 (nI n) (nI D) s.2.1 s.2.2) (Q := fun o => ∃ σ', o = some σ' ∧ Out σ σ' 470 470 ∧ ∀ c ∈ pls V (mq σ) n, (σ'.1 470 c).toInt = xm m (pls V (mq σ) n) room c) (fun i s => s.2.2 = nI i ∧ Out σ s.1 470 470 ∧ (0 ≤ s.2.1.toInt ∧ s.2.1.toInt ≤ 400) ∧ (∀ c ∈ ((kids V n).take i).filter (fun c => decide (mq σ 1 c = 1)), (s.1.1 470 c).toInt = xm m (pls V (mq σ) n) room c) ∧ ∀ c ∈ ((kids V n).drop i).filter (fun c => decide (mq σ 1 c = 1)), xm m (pls V (mq σ) n) room c = xm m (((kids V n).drop i).filter (fun c => decide (mq σ 1 c = 1))) s.2.1.toInt c) (v_cc V n) ?_ ?_ (v_cc V n) 0 FU (σ, oI room, 0) (by omega) (by show _ < 6000; omega) ⟨rfl, Out.rf, by show 0 ≤ (oI room).toInt ∧ (oI room).toInt ≤ 400; rw [j_oI (by omega) (by omega)]; exact h0, fun c hc => (by cases hc), fun c _ => (by
    show _ = xm m _ (oI room).toInt c
    rw [j_oI (by omega) (by omega)]
    rfl)⟩
  · rintro f i ⟨s, r, l⟩ hi ⟨rfl, ho, hr, hv, hx⟩
    simp only at ho hr hv hx
    have e63 : s.1 463 = σ.1 463 := ho.2 463 (by omega)
    obtain ⟨c, hc23, ec, e9, gk⟩ := m_kid (σ := s) (V := V) (X := X) (by rw [e63]; exact h) t hn k1 hi
    have li : i < (kids V n).length := by rw [kids_len]; exact hi
    have dk := List.drop_eq_getElem_cons li
    have gk2 := List.getElem?_eq_getElem li
    have : (kids V n)[i] = c := Option.some.inj (gk2.symm.trans gk)
    rw [this] at dk
    have tk := take_snoc gk
    have nle : ¬ nI (v_cc V n) ≤ nI i := by rw [j_le, j_nI (by omega), j_nI (by omega)]; omega
    have e2 : (2 : Int32) * nI c + nI D = nI (2 * c + D) := by
      rw [show (2 : Int32) * nI c = nI (2 * c) from (Int32.ofNat_mul 2 c).symm, j_a]
    have ecl : (nI c).toNatClampNeg = c := j_cl _ (by omega)
    have ec2 : (nI (2 * c + D)).toNatClampNeg = 2 * c + D := j_cl _ (by omega)
    have ckc : ck (nI c) 24 := j_ckn (by omega) (by decide)
    have ck2 : ck (nI (2 * c + D)) 48 := j_ckn (by omega) (by decide)
    show ∃ s' : Sg × Int32 × Int32, _ ∧ fX9_laysShares_146 462 (f + 1) s (nI n) (nI D) r (nI i) = _
    rw [fX9_laysShares_146, m_many (σ := s) (V := V) (X := X) (by rw [e63]; exact h) t hn, j_b, if_neg nle, ec, j_b, if_pos ckc]
    have s7 : s.1 (462 + 5) (nI c).toNatClampNeg = 0 ↔ mq σ 1 c = 0 := by
      rw [ecl, show (462 + 5 : Nat) = 467 from rfl, ho.2 467 (by omega), mq1 (by omega), j_eq, jz0]
    rcases hc c hc23 e9 with z | z
    · rw [if_pos (s7.mpr z)]
      unfold fX9_laysShares_226
      rw [j_s]
      have nz : ¬ mq σ 1 c = 1 := by omega
      refine ⟨(s, r, nI (i + 1)), ⟨rfl, ho, hr, fun y hy => ?_, fun y hy => ?_⟩, rfl⟩
      · rw [tk, List.filter_append] at hy
        simp [nz] at hy
        exact hv y (by rw [List.mem_filter]; exact ⟨hy.1, decide_eq_true hy.2⟩)
      · have ed : ((kids V n).drop i).filter (fun c => decide (mq σ 1 c = 1)) = ((kids V n).drop (i + 1)).filter (fun c => decide (mq σ 1 c = 1)) := by
          rw [dk, List.filter_cons, decide_eq_false nz]
          rfl
        have := hx y (by rw [ed]; exact hy)
        rw [ed] at this
        exact this
    · have n7 : ¬ s.1 (462 + 5) (nI c).toNatClampNeg = 0 := fun y => by rw [s7] at y; omega
      have cin : c ∈ pls V (mq σ) n := (t.pls_mem hn k1).mpr ⟨hc23, e9, z⟩
      obtain ⟨m1, m0, mB⟩ := hm c cin
      have g8 : (s.1 (462 + 6) (nI (2 * c + D)).toNatClampNeg).toInt = m c := by
        rw [ec2, show (462 + 6 : Nat) = 468 from rfl, ho.2 468 (by omega), ← mqL (by omega) hD, m1]
      have ed : ((kids V n).drop i).filter (fun c => decide (mq σ 1 c = 1)) = c :: ((kids V n).drop (i + 1)).filter (fun c => decide (mq σ 1 c = 1)) := by
        rw [dk, List.filter_cons, decide_eq_true z]
        rfl
      have ndd : (c :: ((kids V n).drop (i + 1)).filter (fun c => decide (mq σ 1 c = 1))).Nodup := by
        rw [← ed]
        exact ((t.kids_nd hn k1).sublist (List.drop_sublist _ _)).filter _
      rw [List.nodup_cons] at ndd
      rw [ed] at hx
      have xc0 := hx c (List.mem_cons_self ..)
      have xc0 : xm m (pls V (mq σ) n) room c = if r.toInt < m c then r.toInt else m c := by
        rw [xc0]
        show (if c = c then _ else _) = _
        rw [if_pos rfl]
      -- the share is given
      have go : ∀ v : Int32, v.toInt = (if r.toInt < m c then r.toInt else m c) → ∃ s' : Sg × Int32 × Int32, (s'.2.2 = nI (i + 1) ∧ Out σ s'.1 470 470 ∧ (0 ≤ s'.2.1.toInt ∧ s'.2.1.toInt ≤ 400) ∧ (∀ c ∈ ((kids V n).take (i + 1)).filter (fun c => decide (mq σ 1 c = 1)), (s'.1.1 470 c).toInt = xm m (pls V (mq σ) n) room c) ∧ ∀ c ∈ ((kids V n).drop (i + 1)).filter (fun c => decide (mq σ 1 c = 1)), xm m (pls V (mq σ) n) room c = xm m (((kids V n).drop (i + 1)).filter (fun c => decide (mq σ 1 c = 1))) s'.2.1.toInt c) ∧ fX9_laysShares_213 462 (fX9_laysShares_146 462 f) s (nI n) (nI D) r (nI i) (nI c) (nI c) v = fX9_laysShares_146 462 f s'.1 (nI n) (nI D) s'.2.1 s'.2.2 := fun v hvT => by
        have vr : 0 ≤ (if r.toInt < m c then r.toInt else m c) ∧ (if r.toInt < m c then r.toInt else m c) ≤ r.toInt := by split <;> omega
        have g470 : (su s 470 c v).1 (462 + 8) c = v := by
          show (su s 470 c v).1 470 c = v
          rw [su_at, if_pos ⟨rfl, rfl⟩]
        unfold fX9_laysShares_213
        rw [if_pos ckc, j_nm, if_pos ckc, j_nm, ecl, show su s (462 + 8) c v = su s 470 c v from rfl, g470]
        unfold fX9_laysShares_226
        rw [j_s]
        have rv' : (r - v).toInt = r.toInt - v.toInt := j_sub (by omega) (by omega)
        refine ⟨(su s 470 c v, r - v, nI (i + 1)), ⟨rfl, ho.tr su_out, by show 0 ≤ (r - v).toInt ∧ (r - v).toInt ≤ 400; omega, fun y hy => ?_, fun y hy => ?_⟩, rfl⟩
        · show ((su s 470 c v).1 470 y).toInt = _
          rw [su_at]
          by_cases w : y = c
          · rw [if_pos ⟨rfl, w⟩, hvT, w, xc0]
          · rw [if_neg (fun u => w u.2)]
            rw [tk, List.filter_append] at hy
            simp [z] at hy
            rcases hy with hy | hy
            · exact hv y (by rw [List.mem_filter]; exact ⟨hy.1, decide_eq_true hy.2⟩)
            · exact absurd hy w
        · have w : y ≠ c := fun u => ndd.1 (u ▸ hy)
          rw [hx y (List.mem_cons_of_mem _ hy)]
          show (if y = c then _ else xm m _ (r.toInt - (if r.toInt < m c then r.toInt else m c)) y) = xm m _ (r - v).toInt y
          rw [if_neg w, rv', hvT]
      rw [if_neg n7, e2, if_pos ck2]
      by_cases y : r ≤ s.1 (462 + 6) (nI (2 * c + D)).toNatClampNeg
      · rw [if_pos y]
        rw [j_le, g8] at y
        exact go r (by split <;> omega)
      · rw [if_neg y, if_pos ck2]
        rw [j_le, g8] at y
        exact go _ (by rw [g8, if_neg (by omega)])
  · rintro f ⟨s, r, l⟩ ⟨rfl, ho, hr, hv, hx⟩
    simp only at ho hr hv hx
    have e63 : s.1 463 = σ.1 463 := ho.2 463 (by omega)
    have ef : (kids V n).take (v_cc V n) = kids V n := List.take_of_length_le (by rw [kids_len]; exact Nat.le_refl _)
    rw [ef] at hv
    show ∃ σ', fX9_laysShares_146 462 (f + 1) s (nI n) (nI D) r (nI (v_cc V n)) = _ ∧ _
    rw [fX9_laysShares_146, m_many (σ := s) (V := V) (X := X) (by rw [e63]; exact h) t hn, j_b, if_pos (by rw [j_le]; exact Int.le_refl _)]
    exact ⟨s, rfl, ho, hv⟩
end MG
