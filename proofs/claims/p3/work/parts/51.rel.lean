/-! THE RELATION: the class's orders -/
def Out (σ σ' : Sg) (lo hi : Nat) : Prop := σ'.2 = σ.2 ∧ ∀ c, (c < lo ∨ hi < c) → σ'.1 c = σ.1 c
theorem Out.rf {σ : Sg} {lo hi : Nat} : Out σ σ lo hi := ⟨rfl, fun _ _ => rfl⟩
theorem Out.tr {σ σ1 σ2 : Sg} {lo hi : Nat} (h : Out σ σ1 lo hi) (h2 : Out σ1 σ2 lo hi) : Out σ σ2 lo hi := ⟨h2.1.trans h.1, fun c hc => (h2.2 c hc).trans (h.2 c hc)⟩
theorem Out.mo {σ σ1 : Sg} {lo hi lo2 hi2 : Nat} (h : Out σ σ1 lo hi) (h1 : lo2 ≤ lo) (h2 : hi ≤ hi2) : Out σ σ1 lo2 hi2 := ⟨h.1, fun c hc => h.2 c (by omega)⟩
theorem su_at {σ : Sg} {k j : Nat} {v : Int32} (k' i : Nat) : (su σ k j v).1 k' i = if k' = k ∧ i = j then v else σ.1 k' i := by
  unfold su upd
  by_cases h : k' = k
  · subst h
    by_cases h2 : i = j
    · simp [h2]
    · simp [h2]
  · simp [h]
theorem su_out {σ : Sg} {k j : Nat} {v : Int32} : Out σ (su σ k j v) k k := ⟨rfl, fun c hc => by
  funext i
  rw [su_at, if_neg (by omega)]⟩
theorem su_ne {σ : Sg} {k j : Nat} {v : Int32} {k' : Nat} (h : k' ≠ k) : (su σ k j v).1 k' = σ.1 k' := by
  funext i
  rw [su_at, if_neg (fun q => h q.1)]
/-- a row asked at an index -/
def ga (f : Nat → Int) (n : Nat) (p : Int) : Int := if 0 ≤ p ∧ p < n then f p.toNat else -1
theorem ga_in {f : Nat → Int} {n i : Nat} (h : i < n) : ga f n i = f i := by
  unfold ga
  rw [if_pos (by omega)]
  rfl
theorem ga_m1 {f : Nat → Int} {n : Nat} : ga f n (-1) = -1 := if_neg (by omega)
theorem s_at {σ : Sg} {c n : Nat} (hn : n < 2147483648) (p : Int32) : fX8_at σ c n p = some (oI (ga (fun i => (σ.1 c i).toInt) n p.toInt)) := by
  unfold fX8_at ga
  have z : (0 : Int32).toInt = 0 := rfl
  by_cases h : 0 ≤ p.toInt ∧ p.toInt < n
  · rw [if_neg (by rw [j_lt, z]; omega), if_neg (by rw [j_le, j_nI hn]; omega), if_pos (by rw [j_ck]; exact h), if_pos h, j_oIt]
    rfl
  · rw [if_neg h]
    by_cases h0 : p < 0
    · rw [if_pos h0]; rfl
    · rw [if_neg h0, if_pos (by rw [j_le, j_nI hn]; rw [j_lt, z] at h0; omega)]; rfl
theorem s_put {σ : Sg} {c n : Nat} (hn : n < 2147483648) (p v : Int32) : fX8_put σ c n p v = some (if 0 ≤ p.toInt ∧ p.toInt < n then su σ c p.toInt.toNat v else σ) := by
  unfold fX8_put
  have z : (0 : Int32).toInt = 0 := rfl
  by_cases h : 0 ≤ p.toInt ∧ p.toInt < n
  · rw [if_neg (by rw [j_lt, z]; omega), if_neg (by rw [j_le, j_nI hn]; omega), if_pos (by rw [j_ck]; exact h), if_pos h]
    rfl
  · rw [if_neg h]
    by_cases h0 : p < 0
    · rw [if_pos h0]
    · rw [if_neg h0, if_pos (by rw [j_le, j_nI hn]; rw [j_lt, z] at h0; omega)]
theorem s_atn {σ : Sg} {c n i : Nat} (hn : n < 2147483648) (h : i < n) : fX8_at σ c n (nI i) = some (σ.1 c i) := by
  rw [s_at hn, j_nI (by omega), ga_in h, j_oIt]
theorem s_putn {σ : Sg} {c n i : Nat} (hn : n < 2147483648) (h : i < n) (v : Int32) : fX8_put σ c n (nI i) v = some (su σ c i v) := by
  rw [s_put hn, j_nI (by omega), if_pos (by omega)]
  rfl
abbrev OD : Type := Int × (Nat → Int)
def odv (σ : Sg) (c : Nat) : OD := ((σ.1 c 1).toInt, fun i => if i < 12 then (σ.1 (c + 1) i).toInt else 0)
def OkO (o : OD) : Prop := 0 ≤ o.1 ∧ o.1 ≤ 12
def o_ix (o : OD) (x : Int) : Int := fnd (fun k => decide (o.2 k = x)) o.1.toNat
def o_it (o : OD) (p : Int) : Int := if o.1 ≤ p then -1 else ga o.2 12 p
def o_lv (o : OD) (x : Int) : OD := if o_ix o x = -1 then o else (o.1 - 1, fun k => if o_ix o x ≤ k ∧ (k : Int) < o.1 - 1 then o.2 (k + 1) else o.2 k)
def o_pl (o : OD) (x : Int) : OD := if 12 ≤ (o_lv o x).1 then o_lv o x else ((o_lv o x).1 + 1, fun k => if (k : Int) = (o_lv o x).1 then x else (o_lv o x).2 k)
def o_pf (o : OD) (x : Int) : OD := ((o_pl o x).1, fun k => if k = 0 then x else if (k : Int) < (o_pl o x).1 then (o_pl o x).2 (k - 1) else (o_pl o x).2 k)
theorem odv_of {σ' : Sg} {c : Nat} {o : OD} (h1 : (σ'.1 c 1).toInt = o.1) (h2 : ∀ i, i < 12 → (σ'.1 (c + 1) i).toInt = o.2 i) (h3 : ∀ i, 12 ≤ i → o.2 i = 0) : odv σ' c = o := by
  refine Prod.ext h1 (funext fun i => ?_)
  show (if i < 12 then _ else 0) = _
  by_cases h : i < 12
  · rw [if_pos h, h2 i h]
  · rw [if_neg h, h3 i (by omega)]
theorem odv_in {σ : Sg} {c i : Nat} (h : i < 12) : (odv σ c).2 i = (σ.1 (c + 1) i).toInt := if_pos h
theorem odv_no {σ : Sg} {c i : Nat} (h : 12 ≤ i) : (odv σ c).2 i = 0 := if_neg (by omega)
theorem odv_out {σ σ' : Sg} {c lo hi : Nat} (h : Out σ σ' lo hi) (h2 : c + 1 < lo ∨ hi < c) : odv σ' c = odv σ c := by
  unfold odv
  rw [h.2 c (by omega), h.2 (c + 1) (by omega)]
theorem ga_od {σ : Sg} {c : Nat} (p : Int) : ga (fun i => (σ.1 (c + 1) i).toInt) 12 p = ga (odv σ c).2 12 p := by
  unfold ga
  by_cases h : 0 ≤ p ∧ p < (12 : Nat)
  · rw [if_pos h, if_pos h, odv_in (by omega)]
  · rw [if_neg h, if_neg h]
theorem o_ix_rg {o : OD} (x : Int) : -1 ≤ o_ix o x ∧ (o_ix o x < o.1 ∨ o_ix o x = -1) := by
  have h1 := fnd_rg (fun k => decide (o.2 k = x)) o.1.toNat
  unfold o_ix
  omega
theorem s_indexOf {σ : Sg} {c : Nat} (h : OkO (odv σ c)) (x : Int32) : fX0_indexOf σ c x = some (oI (o_ix (odv σ c) x.toInt)) := by
  have e1 : (σ.1 c 1).toInt = (odv σ c).1 := rfl
  obtain ⟨h0, h1⟩ := h
  unfold fX0_indexOf o_ix
  refine lp_fnd (F := fun n l => fX0_indexOf_2 σ c n x l) (odv σ c).1.toNat (by omega) ?_ ?_ FU (by show _ < 6000; omega)
  · intro n i hi
    show fX0_indexOf_2 σ c (n + 1) x (nI i) = _
    rw [fX0_indexOf_2, if_neg (by rw [j_le, j_nI (by omega), e1]; omega), s_atn (by decide) (by omega), j_b, j_s]
    by_cases q : σ.1 (c + 1) i = x
    · rw [if_pos q, if_pos (by rw [decide_eq_true_eq, odv_in (by omega), q])]
    · rw [if_neg q, if_neg (by rw [decide_eq_true_eq, odv_in (by omega), ← j_eq]; exact q)]
  · intro n
    show fX0_indexOf_2 σ c (n + 1) x _ = _
    rw [fX0_indexOf_2, if_pos (by rw [j_le, j_nI (by omega), e1]; omega)]
theorem s_item {σ : Sg} {c : Nat} (x : Int32) : fX0_item σ c x = some (oI (o_it (odv σ c) x.toInt)) := by
  unfold fX0_item o_it
  have e1 : (odv σ c).1 = (σ.1 c 1).toInt := rfl
  by_cases h : σ.1 c 1 ≤ x
  · rw [if_pos h, e1, if_pos (j_le.mp h)]; rfl
  · rw [if_neg h, e1, if_neg (fun q => h (j_le.mpr q)), s_at (by decide), j_b, ga_od]
theorem s_size {σ : Sg} {c : Nat} : fX0_size σ c = some (oI (odv σ c).1) := by
  unfold fX0_size
  rw [show (odv σ c).1 = (σ.1 c 1).toInt from rfl, j_oIt]
theorem s_leave {σ : Sg} {c : Nat} (h : OkO (odv σ c)) (x : Int32) : ∃ σ', fX0_leave σ c x = some σ' ∧ Out σ σ' c (c + 1) ∧ odv σ' c = o_lv (odv σ c) x.toInt := by
  have e1 : (σ.1 c 1).toInt = (odv σ c).1 := rfl
  have e1' : ((1 : Int32).toInt) = 1 := rfl
  unfold fX0_leave
  rw [s_indexOf h, j_b]
  have hr := o_ix_rg (o := odv σ c) x.toInt
  obtain ⟨h0, h1⟩ := h
  by_cases e : o_ix (odv σ c) x.toInt = -1
  · rw [if_pos (by rw [e]; rfl)]
    exact ⟨σ, rfl, Out.rf, by rw [o_lv, if_pos e]⟩
  · obtain ⟨i0, hi0⟩ : ∃ i0 : Nat, o_ix (odv σ c) x.toInt = i0 := ⟨(o_ix (odv σ c) x.toInt).toNat, by omega⟩
    rw [if_neg (by rw [show (-1 : Int32) = oI (-1) from rfl, j_oe (by omega) (by omega) (by omega) (by omega)]; exact e)]
    have es : (σ.1 c 1 - 1).toInt = (odv σ c).1 - 1 := by rw [j_sub (by rw [e1, e1']; omega) (by rw [e1, e1']; omega), e1, e1']
    rw [hi0, ← j_nIo i0 (by omega)]
    refine lp (F := fun n (s : Sg × Int32) => fX0_leave_14 c n s.1 s.2) (Q := fun r => ∃ σ', r = some σ' ∧ Out σ σ' c (c + 1) ∧ odv σ' c = o_lv (odv σ c) x.toInt) (fun i s => s.2 = nI i ∧ i0 ≤ i ∧ Out σ s.1 (c + 1) (c + 1) ∧ ∀ k, k < 12 → s.1.1 (c + 1) k = if i0 ≤ k ∧ k < i then σ.1 (c + 1) (k + 1) else σ.1 (c + 1) k) ((odv σ c).1 - 1).toNat ?_ ?_ (((odv σ c).1 - 1).toNat - i0) i0 FU (σ, nI i0) (by omega) (by show _ < 6000; omega) ⟨rfl, Nat.le_refl _, Out.rf, fun k hk => by rw [if_neg (by omega)]⟩
    · rintro n i ⟨s, l⟩ hi ⟨rfl, hge, ho, hv⟩
      have ho' : s.1 c = σ.1 c := ho.2 c (by omega)
      refine ⟨(su s (c + 1) i (s.1 (c + 1) (i + 1)), nI (i + 1)), ⟨rfl, by omega, ho.tr su_out, fun k hk => ?_⟩, ?_⟩
      · show (su s (c + 1) i (s.1 (c + 1) (i + 1))).1 (c + 1) k = _
        rw [su_at]
        have a := hv k hk
        have b := hv (i + 1) (by omega)
        simp only at a b
        by_cases q : k = i
        · subst q
          rw [if_pos ⟨rfl, rfl⟩, b, if_neg (by omega), if_pos (by omega)]
        · rw [if_neg (fun w => q w.2), a]
          by_cases q2 : i0 ≤ k ∧ k < i
          · rw [if_pos q2, if_pos (by omega)]
          · rw [if_neg q2, if_neg (by omega)]
      · show fX0_leave_14 c (n + 1) s (nI i) = fX0_leave_14 c n _ (nI (i + 1))
        rw [fX0_leave_14, ho', if_neg (by rw [j_le, es, j_nI (by omega)]; omega), j_s, s_atn (by decide) (by omega), j_b, s_putn (by decide) (by omega), j_b]
    · rintro n ⟨s, l⟩ ⟨rfl, hge, ho, hv⟩
      have ho' : s.1 c = σ.1 c := ho.2 c (by omega)
      show ∃ σ', fX0_leave_14 c (n + 1) s _ = some σ' ∧ _
      rw [fX0_leave_14, ho', if_pos (by rw [j_le, es, j_nI (by omega)]; omega), j_nm]
      refine ⟨_, rfl, (ho.mo (by omega) (by omega)).tr (su_out.mo (by omega) (by omega)), odv_of ?_ ?_ ?_⟩
      · rw [su_at, if_pos ⟨rfl, rfl⟩, es, o_lv, if_neg e]
      · intro i hi
        rw [su_at, if_neg (by omega), hv i hi, o_lv, if_neg e, hi0]
        show _ = if (i0 : Int) ≤ i ∧ (i : Int) < (odv σ c).1 - 1 then _ else _
        by_cases q : i0 ≤ i ∧ i < ((odv σ c).1 - 1).toNat
        · rw [if_pos q, if_pos (by omega), odv_in (by omega)]
        · rw [if_neg q, if_neg (by omega), odv_in hi]
      · intro i hi
        rw [o_lv, if_neg e]
        show (if _ ∧ (i : Int) < (odv σ c).1 - 1 then _ else _) = _
        rw [if_neg (by omega), odv_no hi]
theorem o_lv_ok {o : OD} (h : OkO o) (x : Int) : OkO (o_lv o x) ∧ (o_lv o x).1 ≤ o.1 := by
  have hr := o_ix_rg (o := o) x
  unfold OkO at *
  unfold o_lv
  by_cases e : o_ix o x = -1
  · rw [if_pos e]
    omega
  · rw [if_neg e]
    show (0 ≤ o.1 - 1 ∧ o.1 - 1 ≤ 12) ∧ o.1 - 1 ≤ o.1
    omega
theorem o_pl_ok {o : OD} (h : OkO o) (x : Int) : OkO (o_pl o x) := by
  have h1 := (o_lv_ok h x).1
  unfold o_pl
  by_cases e : 12 ≤ (o_lv o x).1
  · rw [if_pos e]
    exact h1
  · rw [if_neg e]
    unfold OkO at *
    show 0 ≤ (o_lv o x).1 + 1 ∧ (o_lv o x).1 + 1 ≤ 12
    omega
theorem o_pf_ok {o : OD} (h : OkO o) (x : Int) : OkO (o_pf o x) := o_pl_ok h x
theorem o_lv_no {o : OD} (h : OkO o) (x : Int) {i : Nat} (hz : ∀ i, 12 ≤ i → o.2 i = 0) (hi : 12 ≤ i) : (o_lv o x).2 i = 0 := by
  unfold OkO at h
  unfold o_lv
  by_cases e : o_ix o x = -1
  · rw [if_pos e]
    exact hz i hi
  · rw [if_neg e]
    show (if _ ∧ (i : Int) < o.1 - 1 then _ else _) = _
    rw [if_neg (by omega), hz i hi]
theorem s_putLast {σ : Sg} {c : Nat} (h : OkO (odv σ c)) (x : Int32) : ∃ σ', fX0_putLast σ c x = some σ' ∧ Out σ σ' c (c + 1) ∧ odv σ' c = o_pl (odv σ c) x.toInt := by
  obtain ⟨σ1, h1, h2, h3⟩ := s_leave h x
  have hk := (o_lv_ok h x.toInt).1
  have hz : ∀ i, 12 ≤ i → (o_lv (odv σ c) x.toInt).2 i = 0 := fun i hi => o_lv_no h x.toInt (fun i hi => odv_no hi) hi
  rw [← h3] at hk hz
  have e1 : (σ1.1 c 1).toInt = (odv σ1 c).1 := rfl
  have e1' : ((1 : Int32).toInt) = 1 := rfl
  have e12 : (nI 12).toInt = 12 := rfl
  unfold OkO at hk
  unfold fX0_putLast
  rw [h1, j_b]
  by_cases e : 12 ≤ (odv σ1 c).1
  · rw [if_pos (by rw [j_le, e12, e1]; exact e)]
    exact ⟨σ1, rfl, h2, by rw [o_pl, ← h3, if_pos e]⟩
  · obtain ⟨m, hm⟩ : ∃ m : Nat, (odv σ1 c).1 = m := ⟨(odv σ1 c).1.toNat, by omega⟩
    have hc : σ1.1 c 1 = nI m := j_eq.mpr (by rw [j_nI (by omega), e1, hm])
    rw [if_neg (by rw [j_le, e12, e1]; exact e), hc, s_putn (by decide) (by omega), j_b, j_nm]
    refine ⟨_, rfl, (h2.tr (su_out.mo (by omega) (by omega))).tr (su_out.mo (by omega) (by omega)), odv_of ?_ ?_ ?_⟩
    · rw [su_at, if_pos ⟨rfl, rfl⟩, su_at, if_neg (by omega), o_pl, ← h3, if_neg e]
      rw [j_add (by rw [e1, e1']; omega) (by rw [e1, e1']; omega), e1, e1']
    · intro i hi
      rw [su_at, if_neg (by omega), su_at, o_pl, ← h3, if_neg e]
      show _ = if (i : Int) = (odv σ1 c).1 then _ else _
      by_cases q : i = m
      · rw [if_pos ⟨rfl, q⟩, if_pos (by omega)]
      · rw [if_neg (fun w => q w.2), if_neg (by omega), odv_in hi]
    · intro i hi
      rw [o_pl, ← h3, if_neg e]
      show (if (i : Int) = (odv σ1 c).1 then _ else _) = _
      rw [if_neg (by omega), hz i hi]
theorem o_pl_no {o : OD} (h : OkO o) (x : Int) {i : Nat} (hz : ∀ i, 12 ≤ i → o.2 i = 0) (hi : 12 ≤ i) : (o_pl o x).2 i = 0 := by
  have h1 := (o_lv_ok h x).1
  unfold OkO at h1
  unfold o_pl
  by_cases e : 12 ≤ (o_lv o x).1
  · rw [if_pos e]
    exact o_lv_no h x hz hi
  · rw [if_neg e]
    show (if (i : Int) = (o_lv o x).1 then _ else _) = _
    rw [if_neg (by omega), o_lv_no h x hz hi]
theorem s_putFirst {σ : Sg} {c : Nat} (h : OkO (odv σ c)) (x : Int32) : ∃ σ', fX0_putFirst σ c x = some σ' ∧ Out σ σ' c (c + 1) ∧ odv σ' c = o_pf (odv σ c) x.toInt := by
  obtain ⟨σ1, h1, h2, h3⟩ := s_putLast h x
  have hk := o_pl_ok h x.toInt
  have hz : ∀ i, 12 ≤ i → (o_pl (odv σ c) x.toInt).2 i = 0 := fun i hi => o_pl_no h x.toInt (fun i hi => odv_no hi) hi
  rw [← h3] at hk hz
  have e1 : (σ1.1 c 1).toInt = (odv σ1 c).1 := rfl
  have e1' : ((1 : Int32).toInt) = 1 := rfl
  have em : ((-1 : Int32).toInt) = -1 := rfl
  have e0 : ((0 : Int32).toInt) = 0 := rfl
  unfold OkO at hk
  unfold fX0_putFirst
  rw [h1, j_b, j_nm]
  have es : (σ1.1 c 1 - 1).toInt = (odv σ1 c).1 - 1 := by rw [j_sub (by rw [e1, e1']; omega) (by rw [e1, e1']; omega), e1, e1']
  -- the loop goes down: i counts the steps done
  refine lp (F := fun n (s : Sg × Int32) => fX0_putFirst_12 c n s.1 x s.2) (Q := fun r => ∃ σ', r = some σ' ∧ Out σ σ' c (c + 1) ∧ odv σ' c = o_pf (odv σ c) x.toInt) (fun i s => s.2.toInt = (odv σ1 c).1 - 1 - i ∧ Out σ1 s.1 (c + 1) (c + 1) ∧ ∀ k, k < 12 → s.1.1 (c + 1) k = if (odv σ1 c).1 - 1 - i < k ∧ (k : Int) < (odv σ1 c).1 then σ1.1 (c + 1) (k - 1) else σ1.1 (c + 1) k) ((odv σ1 c).1 - 1).toNat ?_ ?_ _ 0 FU (σ1, σ1.1 c 1 - 1) (Nat.zero_add _) (by show _ < 6000; omega) ⟨by rw [es]; omega, Out.rf, fun k hk => by rw [if_neg (by omega)]⟩
  · rintro n i ⟨s, l⟩ hi ⟨hl, ho, hv⟩
    simp only at hl ho hv
    obtain ⟨m, hm⟩ : ∃ m : Nat, (odv σ1 c).1 - 1 - i = m := ⟨((odv σ1 c).1 - 1 - i).toNat, by omega⟩
    have hl2 : l = nI m := j_eq.mpr (by rw [j_nI (by omega), hl, hm])
    have hp : nI m - 1 = nI (m - 1) := j_eq.mpr (by rw [j_sub (by rw [j_nI (by omega), e1']; omega) (by rw [j_nI (by omega), e1']; omega), j_nI (by omega), j_nI (by omega), e1']; omega)
    refine ⟨(su s (c + 1) m (s.1 (c + 1) (m - 1)), l + (-1)), ⟨?_, ho.tr su_out, fun k hk => ?_⟩, ?_⟩
    · show (l + (-1)).toInt = _
      rw [j_add (by rw [hl, em]; omega) (by rw [hl, em]; omega), hl, em]
      omega
    · show (su s (c + 1) m (s.1 (c + 1) (m - 1))).1 (c + 1) k = _
      rw [su_at]
      have a := hv k hk
      have b := hv (m - 1) (by omega)
      by_cases q : k = m
      · subst q
        rw [if_pos ⟨rfl, rfl⟩, b, if_neg (by omega), if_pos (by omega)]
      · rw [if_neg (fun w => q w.2), a]
        by_cases q2 : (odv σ1 c).1 - 1 - i < k ∧ (k : Int) < (odv σ1 c).1
        · rw [if_pos q2, if_pos (by omega)]
        · rw [if_neg q2, if_neg (by omega)]
    · show fX0_putFirst_12 c (n + 1) s x l = fX0_putFirst_12 c n _ x (l + (-1))
      rw [fX0_putFirst_12, if_neg (by rw [j_le, hl, e0]; omega), hl2, hp, s_atn (by decide) (by omega), j_b, s_putn (by decide) (by omega), j_b]
  · rintro n ⟨s, l⟩ ⟨hl, ho, hv⟩
    simp only at hl ho hv
    show ∃ σ', fX0_putFirst_12 c (n + 1) s x l = some σ' ∧ _
    rw [fX0_putFirst_12, if_pos (by rw [j_le, hl, e0]; omega), j_0, s_putn (by decide) (by omega), j_b]
    refine ⟨_, rfl, (h2.tr (ho.mo (by omega) (by omega))).tr (su_out.mo (by omega) (by omega)), odv_of ?_ ?_ ?_⟩
    · rw [su_at, if_neg (by omega), ho.2 c (by omega), e1, h3]
      rfl
    · intro i hi
      rw [su_at]
      show _ = if i = 0 then x.toInt else if (i : Int) < (o_pl (odv σ c) x.toInt).1 then (o_pl (odv σ c) x.toInt).2 (i - 1) else (o_pl (odv σ c) x.toInt).2 i
      by_cases q : i = 0
      · rw [if_pos ⟨rfl, q⟩, if_pos q]
      · rw [if_neg (fun w => q w.2), if_neg q, hv i hi, ← h3]
        by_cases q2 : (i : Int) < (odv σ1 c).1
        · rw [if_pos q2, if_pos (by omega), odv_in (by omega)]
        · rw [if_neg q2, if_neg (by omega), odv_in hi]
    · intro i hi
      show (if i = 0 then x.toInt else if (i : Int) < (o_pl (odv σ c) x.toInt).1 then (o_pl (odv σ c) x.toInt).2 (i - 1) else (o_pl (odv σ c) x.toInt).2 i) = 0
      rw [← h3, if_neg (by omega), if_neg (by omega), hz i hi]
theorem o_pf_no {o : OD} (h : OkO o) (x : Int) {i : Nat} (hz : ∀ i, 12 ≤ i → o.2 i = 0) (hi : 12 ≤ i) : (o_pf o x).2 i = 0 := by
  have h1 := o_pl_ok h x
  unfold OkO at h1
  show (if i = 0 then x else if (i : Int) < (o_pl o x).1 then (o_pl o x).2 (i - 1) else (o_pl o x).2 i) = 0
  rw [if_neg (by omega), if_neg (by omega), o_pl_no h x hz hi]
