/-! THE RELATION: copies, states, records of the class -/
theorem s_copyRow {σ : Sg} {c0 c1 n : Nat} (hn : n < 2147483648) : ∃ σ', fX8_copyRow σ c0 n c1 n = some σ' ∧ Out σ σ' c1 c1 ∧ ∀ i, i < n → σ'.1 c1 i = σ.1 c0 i := by
  unfold fX8_copyRow
  rw [ite_self, j_nm]
  have hc : (nI n).toNatClampNeg = n := j_cl n hn
  have h0 : (0 : Int32).toNatClampNeg = 0 := rfl
  rw [if_pos (by
    refine ⟨by decide, by decide, by rw [j_lt, j_nI hn, jz0]; omega, ?_, ?_⟩ <;> rw [hc, h0] <;> omega), j_nm, hc, h0]
  refine ⟨_, rfl, ⟨rfl, fun c hq => if_neg (by omega)⟩, fun i hi => ?_⟩
  show (if c1 = c1 then va_cpy (σ.1 c0) (σ.1 c1) 0 0 n else σ.1 c1) i = _
  rw [if_pos rfl]
  unfold va_cpy
  rw [if_pos (by have := hc; have := h0; omega)]
  show σ.1 c0 (0 + (i - 0)) = _
  rw [Nat.zero_add, Nat.sub_zero]
theorem s_odcopy {σ : Sg} {b c : Nat} (h : c + 1 < b ∨ b + 1 < c) : ∃ σ', fX0_copyFrom σ b c = some σ' ∧ Out σ σ' b (b + 1) ∧ odv σ' b = odv σ c := by
  unfold fX0_copyFrom
  obtain ⟨σ1, h1, h2, h3⟩ := s_copyRow (σ := σ) (c0 := c + 1) (c1 := b + 1) (n := 12) (by decide)
  rw [h1, j_b, j_nm]
  refine ⟨_, rfl, (h2.mo (by omega) (by omega)).tr (su_out.mo (by omega) (by omega)), odv_of ?_ ?_ ?_⟩
  · rw [su_at, if_pos ⟨rfl, rfl⟩, h2.2 c (by omega)]
    rfl
  · intro i hi
    rw [su_ne (by omega), h3 i hi, odv_in hi]
  · intro i hi
    exact odv_no hi
/-- the rows that D names are those of c -/
def Dn (D : Nat → Bool) (σ σ' : Sg) (b c : Nat) : Prop := Out σ σ' (b + 1) (b + 15) ∧ ∀ j i, D j = true → inr j i = true → σ'.1 (b + j) i = σ.1 (c + j) i
theorem Dn.row {D : Nat → Bool} {σ σ1 : Sg} {b c : Nat} (h : Dn D σ σ1 b c) (hd : c + 15 < b + 1 ∨ b + 15 < c + 1) (j n : Nat) (hj : 1 ≤ j ∧ j ≤ 15) (hn : wd j = n) : ∃ σ2, fX8_copyRow σ1 (c + j) n (b + j) n = some σ2 ∧ Dn (fun k => D k || k == j) σ σ2 b c := by
  have hw : wd j < 2147483648 := by
    unfold wd
    split <;> decide
  obtain ⟨σ2, h1, h2, h3⟩ := s_copyRow (σ := σ1) (c0 := c + j) (c1 := b + j) (n := n) (by omega)
  refine ⟨σ2, h1, h.1.tr (h2.mo (by omega) (by omega)), fun k i hk hi => ?_⟩
  have hi2 : i < wd k := by
    unfold inr at hi
    simp at hi
    exact hi.1
  by_cases e : k = j
  · subst e
    rw [h3 i (by omega), h.1.2 (c + k) (by omega)]
  · have hk1 : k ≤ 15 := by
      refine Nat.le_of_not_lt (fun q => ?_)
      rw [inr_hi i (Or.inr (by omega))] at hi
      cases hi
    rw [h2.2 (b + k) (by omega)]
    exact h.2 k i (by simpa [e] using hk) hi
theorem Dn.ord {D : Nat → Bool} {σ σ1 : Sg} {b c : Nat} (h : Dn D σ σ1 b c) (hd : c + 15 < b + 1 ∨ b + 15 < c + 1) : ∃ σ2, fX0_copyFrom σ1 (b + 6) (c + 6) = some σ2 ∧ Dn (fun k => D k || k == 6 || k == 7) σ σ2 b c := by
  obtain ⟨σ2, h1, h2, h3⟩ := s_odcopy (σ := σ1) (b := b + 6) (c := c + 6) (by omega)
  refine ⟨σ2, h1, h.1.tr (h2.mo (by omega) (by omega)), fun k i hk hi => ?_⟩
  have hk1 : k ≤ 15 := by
    refine Nat.le_of_not_lt (fun q => ?_)
    rw [inr_hi i (Or.inr (by omega))] at hi
    cases hi
  by_cases e6 : k = 6
  · subst e6
    rw [inr_6, decide_eq_true_eq] at hi
    subst hi
    have := congrArg Prod.fst h3
    have h4 : (σ2.1 (b + 6) 1).toInt = (σ1.1 (c + 6) 1).toInt := this
    rw [j_eq.mpr h4, h.1.2 (c + 6) (by omega)]
  · by_cases e7 : k = 7
    · subst e7
      rw [inr_7, decide_eq_true_eq] at hi
      have := congrFun (congrArg Prod.snd h3) i
      rw [odv_in hi, odv_in hi] at this
      have h4 : σ2.1 (b + 7) i = σ1.1 (c + 7) i := j_eq.mpr this
      rw [h4, h.1.2 (c + 7) (by omega)]
    · rw [h2.2 (b + k) (by omega)]
      exact h.2 k i (by simpa [e6, e7] using hk) hi
theorem s_plcopy {σ : Sg} {b c : Nat} (hd : c + 15 < b + 1 ∨ b + 15 < c + 1) : Do (fX1_copyFrom σ b c) σ b (pv σ c) := by
  unfold Do fX1_copyFrom
  have d0 : Dn (fun _ => false) σ σ b c := ⟨Out.rf, fun j i h => by cases h⟩
  obtain ⟨σ1, a1, d1⟩ := d0.row hd 1 5 (by omega) rfl
  obtain ⟨σ2, a2, d2⟩ := d1.row hd 2 5 (by omega) rfl
  obtain ⟨σ3, a3, d3⟩ := d2.row hd 3 5 (by omega) rfl
  obtain ⟨σ4, a4, d4⟩ := d3.row hd 4 5 (by omega) rfl
  obtain ⟨σ5, a5, d5⟩ := d4.row hd 5 5 (by omega) rfl
  obtain ⟨σ6, a6, d6⟩ := d5.ord hd
  obtain ⟨σ7, a7, d7⟩ := d6.row hd 8 23 (by omega) rfl
  obtain ⟨σ8, a8, d8⟩ := d7.row hd 9 23 (by omega) rfl
  obtain ⟨σ9, a9, d9⟩ := d8.row hd 10 23 (by omega) rfl
  obtain ⟨σ10, a10, d10⟩ := d9.row hd 11 23 (by omega) rfl
  obtain ⟨σ11, a11, d11⟩ := d10.row hd 12 23 (by omega) rfl
  obtain ⟨σ12, a12, d12⟩ := d11.row hd 13 12 (by omega) rfl
  obtain ⟨σ13, a13, d13⟩ := d12.row hd 14 12 (by omega) rfl
  obtain ⟨σ14, a14, d14⟩ := d13.row hd 15 12 (by omega) rfl
  rw [a1, j_b, a2, j_b, a3, j_b, a4, j_b, a5, j_b, a6, j_b, a7, j_b, a8, j_b, a9, j_b, a10, j_b, a11, j_b, a12, j_b, a13, j_b, a14, j_b]
  refine ⟨σ14, rfl, d14.1, ?_⟩
  funext j i
  rw [pv_def, pv_def]
  by_cases hi : inr j i = true
  · rw [if_pos hi, if_pos hi, d14.2 j i ?_ hi]
    have h1 : ¬ (j = 0 ∨ 16 ≤ j) := fun q => by
      rw [inr_hi i q] at hi
      cases hi
    have : j = 1 ∨ j = 2 ∨ j = 3 ∨ j = 4 ∨ j = 5 ∨ j = 6 ∨ j = 7 ∨ j = 8 ∨ j = 9 ∨ j = 10 ∨ j = 11 ∨ j = 12 ∨ j = 13 ∨ j = 14 ∨ j = 15 := by omega
    rcases this with rfl | rfl | rfl | rfl | rfl | rfl | rfl | rfl | rfl | rfl | rfl | rfl | rfl | rfl | rfl <;> rfl
  · rw [if_neg hi, if_neg hi]
theorem pv_out {σ σ' : Sg} {b lo hi : Nat} (h : Out σ σ' lo hi) (h2 : b + 15 < lo ∨ hi < b + 1) : pv σ' b = pv σ b := by
  funext j i
  rw [pv_def, pv_def]
  by_cases hi : inr j i = true
  · have h1 : ¬ (j = 0 ∨ 16 ≤ j) := fun q => by
      rw [inr_hi i q] at hi
      cases hi
    rw [h.2 (b + j) (by omega)]
  · rw [if_neg hi, if_neg hi]
/-! a state: the panes that exist, the slots that are saved; least widths and heights; the order of focus; the placement; the slots' -/
abbrev ST : Type := (Int × Int) × (Nat → Int) × (Nat → Int) × OD × VW × (Nat → VW)
abbrev S_ex (S : ST) : Int := S.1.1
abbrev S_sv (S : ST) : Int := S.1.2
abbrev S_mw (S : ST) : Nat → Int := S.2.1
abbrev S_mh (S : ST) : Nat → Int := S.2.2.1
abbrev S_fo (S : ST) : OD := S.2.2.2.1
abbrev S_pl (S : ST) : VW := S.2.2.2.2.1
abbrev S_sl (S : ST) : Nat → VW := S.2.2.2.2.2
def rw12 (f : Nat → Int32) : Nat → Int := fun i => if i < 12 then (f i).toInt else 0
def slo (s : Nat) : Nat := 22 + 16 * s
def slv (σ : Sg) (b : Nat) : Nat → VW := fun s => if s < 3 then pv σ (b + slo s) else fun _ _ => 0
def stv (σ : Sg) (b : Nat) : ST := (((σ.1 b 0).toInt, (σ.1 b 6).toInt), rw12 (σ.1 (b + 1)), rw12 (σ.1 (b + 2)), odv σ (b + 3), pv σ (b + 5), slv σ b)
theorem rw12_in {f : Nat → Int32} {i : Nat} (h : i < 12) : rw12 f i = (f i).toInt := if_pos h
theorem rw12_eq {f g : Nat → Int32} (h : ∀ i, i < 12 → f i = g i) : rw12 f = rw12 g := by
  funext i
  unfold rw12
  by_cases q : i < 12
  · rw [if_pos q, if_pos q, h i q]
  · rw [if_neg q, if_neg q]
theorem slv_eq {σ σ' : Sg} {b c : Nat} (h : ∀ s, s < 3 → pv σ' (b + slo s) = pv σ (c + slo s)) : slv σ' b = slv σ c := by
  funext s
  unfold slv
  by_cases q : s < 3
  · rw [if_pos q, if_pos q, h s q]
  · rw [if_neg q, if_neg q]
theorem stv_of {σ σ' : Sg} {b c : Nat} (h0 : σ'.1 b 0 = σ.1 c 0) (h6 : σ'.1 b 6 = σ.1 c 6) (h1 : ∀ i, i < 12 → σ'.1 (b + 1) i = σ.1 (c + 1) i) (h2 : ∀ i, i < 12 → σ'.1 (b + 2) i = σ.1 (c + 2) i) (h3 : odv σ' (b + 3) = odv σ (c + 3)) (h5 : pv σ' (b + 5) = pv σ (c + 5)) (hs : ∀ s, s < 3 → pv σ' (b + slo s) = pv σ (c + slo s)) : stv σ' b = stv σ c := by
  unfold stv
  rw [h0, h6, rw12_eq h1, rw12_eq h2, h3, h5, slv_eq hs]
theorem stv_out {σ σ' : Sg} {b lo hi : Nat} (h : Out σ σ' lo hi) (h2 : b + 69 < lo ∨ hi < b) : stv σ' b = stv σ b := by
  refine stv_of ?_ ?_ (fun i _ => ?_) (fun i _ => ?_) (odv_out h (by omega)) (pv_out h (by omega)) (fun s hs => pv_out h (by unfold slo; omega))
  · rw [h.2 b (by omega)]
  · rw [h.2 b (by omega)]
  · rw [h.2 (b + 1) (by omega)]
  · rw [h.2 (b + 2) (by omega)]
theorem rg3 (b : Nat) : rget [b + 22, b + 38, b + 54] (nI 0) = b + slo 0 ∧ rget [b + 22, b + 38, b + 54] (nI 1) = b + slo 1 ∧ rget [b + 22, b + 38, b + 54] (nI 2) = b + slo 2 := ⟨rfl, rfl, rfl⟩
theorem rgs (b : Nat) {s : Nat} (h : s < 3) : rget [b + 22, b + 38, b + 54] (nI s) = b + slo s := by
  have : s = 0 ∨ s = 1 ∨ s = 2 := by omega
  rcases this with rfl | rfl | rfl
  · exact (rg3 b).1
  · exact (rg3 b).2.1
  · exact (rg3 b).2.2
theorem s_stcopy {σ : Sg} {b c : Nat} (hd : c + 69 < b ∨ b + 69 < c) : ∃ σ', fX4_copyFrom σ b c = some σ' ∧ Out σ σ' b (b + 69) ∧ stv σ' b = stv σ c := by
  unfold fX4_copyFrom
  rw [j_nm]
  obtain ⟨σ2, a2, o2, e2⟩ := s_copyRow (σ := su σ b 0 (σ.1 c 0)) (c0 := c + 1) (c1 := b + 1) (n := 12) (by decide)
  obtain ⟨σ3, a3, o3, e3⟩ := s_copyRow (σ := σ2) (c0 := c + 2) (c1 := b + 2) (n := 12) (by decide)
  obtain ⟨σ4, a4, o4, e4⟩ := s_odcopy (σ := σ3) (b := b + 3) (c := c + 3) (by omega)
  obtain ⟨σ5, a5, o5, e5⟩ := s_plcopy (σ := σ4) (b := b + 5) (c := c + 5) (by omega)
  rw [a2, j_b, a3, j_b, a4, j_b, a5, j_b]
  have O1 : Out σ (su σ b 0 (σ.1 c 0)) b (b + 69) := su_out.mo (by omega) (by omega)
  have O2 : Out σ σ2 b (b + 69) := O1.tr (o2.mo (by omega) (by omega))
  have O3 : Out σ σ3 b (b + 69) := O2.tr (o3.mo (by omega) (by omega))
  have O4 : Out σ σ4 b (b + 69) := O3.tr (o4.mo (by omega) (by omega))
  have O5 : Out σ σ5 b (b + 69) := O4.tr (o5.mo (by omega) (by omega))
  have q0 : σ5.1 b 0 = σ.1 c 0 := by
    rw [o5.2 b (by omega), o4.2 b (by omega), o3.2 b (by omega), o2.2 b (by omega), su_at, if_pos ⟨rfl, rfl⟩]
  have q1 : ∀ i, i < 12 → σ5.1 (b + 1) i = σ.1 (c + 1) i := fun i hi => by
    rw [o5.2 (b + 1) (by omega), o4.2 (b + 1) (by omega), o3.2 (b + 1) (by omega), e2 i hi, su_ne (by omega)]
  have q2 : ∀ i, i < 12 → σ5.1 (b + 2) i = σ.1 (c + 2) i := fun i hi => by
    rw [o5.2 (b + 2) (by omega), o4.2 (b + 2) (by omega), e3 i hi, O2.2 (c + 2) (by omega)]
  have q3 : odv σ5 (b + 3) = odv σ (c + 3) := by
    rw [odv_out o5 (by omega), e4, odv_out O3 (by omega)]
  have q5 : pv σ5 (b + 5) = pv σ (c + 5) := by rw [e5, pv_out O4 (by omega)]
  refine lp (F := fun n (s : Sg × Int32) => fX4_copyFrom_54 b c n s.1 s.2) (Q := fun r => ∃ σ', r = some σ' ∧ Out σ σ' b (b + 69) ∧ stv σ' b = stv σ c) (fun i s => s.2 = nI i ∧ Out σ s.1 b (b + 69) ∧ Out σ5 s.1 (b + 22) (b + 69) ∧ ∀ k, k < i → pv s.1 (b + slo k) = pv σ (c + slo k)) 3 ?_ ?_ 3 0 FU (σ5, 0) rfl (by decide) ⟨rfl, O5, Out.rf, fun k hk => absurd hk (by omega)⟩
  · rintro n i ⟨s, l⟩ hi ⟨rfl, ho, ho5, hv⟩
    simp only at ho ho5 hv
    obtain ⟨σ6, a6, o6, e6⟩ := s_plcopy (σ := s) (b := b + slo i) (c := c + slo i) (by unfold slo; omega)
    refine ⟨(σ6, nI (i + 1)), ⟨rfl, ho.tr (o6.mo (by unfold slo; omega) (by unfold slo; omega)), ho5.tr (o6.mo (by unfold slo; omega) (by unfold slo; omega)), fun k hk => ?_⟩, ?_⟩
    · show pv σ6 (b + slo k) = _
      by_cases q : k = i
      · subst q
        rw [e6, pv_out ho (by unfold slo; omega)]
      · rw [pv_out o6 (by unfold slo; omega), hv k (by omega)]
    · show fX4_copyFrom_54 b c (n + 1) s (nI i) = fX4_copyFrom_54 b c n σ6 (nI (i + 1))
      rw [fX4_copyFrom_54, show ([b + 22, b + 38, b + 54] : List Nat).length = 3 from rfl, show ([c + 22, c + 38, c + 54] : List Nat).length = 3 from rfl, if_neg (n_ge (nI 3) (m := 3) rfl hi (by decide)), if_neg (n_ge (nI 3) (m := 3) rfl hi (by decide)), if_pos (j_ckn hi (by decide)), if_pos (j_ckn hi (by decide)), rgs b hi, rgs c hi, a6, j_b, j_s]
  · rintro n ⟨s, l⟩ ⟨rfl, ho, ho5, hv⟩
    simp only at ho ho5 hv
    show ∃ σ', fX4_copyFrom_54 b c (n + 1) s (nI 3) = some σ' ∧ _
    rw [fX4_copyFrom_54, show ([b + 22, b + 38, b + 54] : List Nat).length = 3 from rfl, if_pos (n_le (nI 3) (m := 3) rfl (by decide))]
    unfold fX4_copyFrom_93
    rw [j_nm]
    refine ⟨_, rfl, ho.tr (su_out.mo (by omega) (by omega)), stv_of ?_ ?_ ?_ ?_ ?_ ?_ ?_⟩
    · rw [su_at, if_neg (by omega), ho5.2 b (by omega), q0]
    · rw [su_at, if_pos ⟨rfl, rfl⟩, ho.2 c (by omega)]
    · intro i hi
      rw [su_ne (by omega), ho5.2 (b + 1) (by omega), q1 i hi]
    · intro i hi
      rw [su_ne (by omega), ho5.2 (b + 2) (by omega), q2 i hi]
    · rw [odv_out su_out (by omega), odv_out ho5 (by omega), q3]
    · rw [pv_out su_out (by omega), pv_out ho5 (by omega), q5]
    · intro k hk
      rw [pv_out su_out (by unfold slo; omega), hv k hk]
/-! the ring of records -/
theorem rfm5 (σ : Sg) {h k : Nat} (hh : h < 5) (hk : k < 6) : fJ9_floorMod_7cf53 σ (nI h + nI k) 5 = some (nI ((h + k) % 5)) := by
  have : ∀ h, h < 5 → ∀ k, k < 6 → fJ9_floorMod_7cf53 (fun _ _ => 0, fun _ _ => 0) (nI h + nI k) 5 = some (nI ((h + k) % 5)) := by decide +kernel
  exact this h hh k hk
/-- the record of this age: oldest h, at an age of k -/
def rb (h k : Nat) : Nat := 72 + 70 * ((h + k) % 5)
theorem s_recordAt {σ : Sg} {h k : Nat} (hh : σ.1 0 2 = nI h) (h5 : h < 5) (hk : k < 6) : fX8_recordAt σ (nI k) = some (rb h k) := by
  unfold fX8_recordAt
  rw [hh, rfm5 σ h5 hk, j_b]
  have hm : (h + k) % 5 < 5 := Nat.mod_lt _ (by decide)
  have key : ∀ m, m < 5 → (if nI m < 0 then fX8_recordAt_33 σ else if nI ([72, 142, 212, 282, 352]).length ≤ nI m then fX8_recordAt_33 σ else if ck (nI m) ([72, 142, 212, 282, 352]).length then fX8_recordAt_37 σ (rget [72, 142, 212, 282, 352] (nI m)) else none) = some (72 + 70 * m) := by
    intro m hm
    have : m = 0 ∨ m = 1 ∨ m = 2 ∨ m = 3 ∨ m = 4 := by omega
    rcases this with rfl | rfl | rfl | rfl | rfl <;> rfl
  exact key _ hm
/-- the records of the class are l, the oldest first -/
def Ch (σ : Sg) (l : List ST) : Prop := ∃ h : Nat, h < 5 ∧ σ.1 0 2 = nI h ∧ l.length ≤ 5 ∧ σ.1 0 3 = nI l.length ∧ ∀ k S, l[k]? = some S → stv σ (rb h k) = S
def keep (l : List ST) (S : ST) : List ST := (if l.length = 5 then l.drop 1 else l) ++ [S]
theorem rb_lo (h k : Nat) : 72 ≤ rb h k ∧ rb h k ≤ 352 := by
  unfold rb
  have := Nat.mod_lt (h + k) (show 0 < 5 by decide)
  omega
theorem rb_apart {h k m : Nat} (hk : k < 5) (hm : m < 5) (h5 : h < 5) (hne : k ≠ m) : rb h k + 69 < rb h m ∨ rb h m + 69 < rb h k := by
  unfold rb
  omega
theorem s_keep32 {σ : Sg} {l : List ST} (hl : l.length ≤ 4) (hc : Ch σ l) : ∃ σ', fX8_keepRecord_32 σ = some σ' ∧ σ'.2 = σ.2 ∧ (∀ c, c ≠ 0 → (c < 72 ∨ 421 < c) → σ'.1 c = σ.1 c) ∧ Ch σ' (l ++ [stv σ 1]) := by
  obtain ⟨h, h5, e2, -, e3, hr⟩ := hc
  have r1 := rb_lo h l.length
  unfold fX8_keepRecord_32
  rw [e3, s_recordAt e2 h5 (by omega), j_b]
  obtain ⟨σ5, a5, o5, v5⟩ := s_stcopy (σ := σ) (b := rb h l.length) (c := 1) (by omega)
  rw [a5, j_b, j_nm]
  refine ⟨_, rfl, o5.1, fun c hc1 hc2 => ?_, h, h5, ?_, by simp; omega, ?_, fun k S hk => ?_⟩
  · rw [su_ne hc1, o5.2 c (by omega)]
  · rw [su_at, if_neg (by omega), o5.2 0 (by omega), e2]
  · rw [su_at, if_pos ⟨rfl, rfl⟩, o5.2 0 (by omega), e3, j_s]
    simp
  · have r2 := rb_lo h k
    rw [stv_out su_out (by omega)]
    by_cases q : k < l.length
    · rw [List.getElem?_append_left q] at hk
      rw [stv_out o5 (by have := rb_apart (h := h) (k := k) (m := l.length) (by omega) (by omega) h5 (by omega); omega)]
      exact hr k S hk
    · have hk2 := (List.getElem?_eq_some_iff.mp hk).1
      simp at hk2
      have : k = l.length := by omega
      subst this
      rw [List.getElem?_append_right (by omega)] at hk
      simp at hk
      rw [v5, hk]
theorem s_keepRecord {σ : Sg} {l : List ST} (hc : Ch σ l) : ∃ σ', fX8_keepRecord σ = some σ' ∧ σ'.2 = σ.2 ∧ (∀ c, c ≠ 0 → (c < 72 ∨ 421 < c) → σ'.1 c = σ.1 c) ∧ Ch σ' (keep l (stv σ 1)) := by
  unfold fX8_keepRecord keep
  have hc0 := hc
  obtain ⟨h, h5, e2, hl, e3, hr⟩ := hc
  by_cases q : l.length = 5
  · rw [if_pos (by rw [e3, q]; rfl), if_pos q, e2, show (1 : Int32) = nI 1 from rfl, rfm5 σ h5 (by decide), j_b, j_nm, j_nm]
    have hm : (h + 1) % 5 < 5 := Nat.mod_lt _ (by decide)
    obtain ⟨σ', a, b, c, d⟩ := s_keep32 (σ := su (su σ 0 2 (nI ((h + 1) % 5))) 0 3 ((su σ 0 2 (nI ((h + 1) % 5))).1 0 3 - nI 1)) (l := l.drop 1) (by simp; omega) ⟨(h + 1) % 5, hm, by rw [su_at, if_neg (by omega), su_at, if_pos ⟨rfl, rfl⟩], by simp; omega, by
      rw [su_at, if_pos ⟨rfl, rfl⟩, su_at, if_neg (by omega), e3, q]
      simp [q]
      rfl, fun k S hk => by
      have hk1 : l[k + 1]? = some S := by rw [List.getElem?_drop] at hk; rw [Nat.add_comm] at hk; exact hk
      have := hr (k + 1) S hk1
      have r2 := rb_lo ((h + 1) % 5) k
      rw [stv_out su_out (by omega), stv_out su_out (by omega), ← this]
      congr 1
      unfold rb
      omega⟩
    refine ⟨σ', a, b, fun k hk hk2 => ?_, ?_⟩
    · rw [c k hk hk2, su_ne hk, su_ne hk]
    · rw [stv_out su_out (by omega), stv_out su_out (by omega)] at d
      exact d
  · rw [if_neg (by
      rw [e3]
      show ¬ nI l.length = nI 5
      rw [j_inj (by omega) (by omega)]
      exact q), if_neg q]
    exact s_keep32 (by omega) hc0
