section
/-! THE RELATION: ints, counts, first finds, loops -/
theorem j_b {α β : Type} (a : α) (f : α → Option β) : Option.bind (some a) f = f a := Eq.trans rfl rfl
theorem j_xl {α β : Type} (v : α) (h : Nat → Option β) (f : α → Option β) : xcat (.inl v) h f = f v := Eq.trans rfl rfl
theorem j_xr {α β : Type} (e : Nat) (h : Nat → Option β) (f : α → Option β) : xcat (.inr e) h f = h e := Eq.trans rfl rfl
theorem j_nm {α β : Type} (x : α) (f : α → β) : nm x f = f x := Eq.trans rfl rfl
theorem j_le {a b : Int32} : a ≤ b ↔ a.toInt ≤ b.toInt := Int32.le_iff_toInt_le
theorem j_lt {a b : Int32} : a < b ↔ a.toInt < b.toInt := Int32.lt_iff_toInt_lt
theorem j_eq {a b : Int32} : a = b ↔ a.toInt = b.toInt := Int32.toInt_inj.symm
theorem j_lo (a : Int32) : -2147483648 ≤ a.toInt := Int32.le_toInt a
theorem j_hi (a : Int32) : a.toInt < 2147483648 := Int32.toInt_lt a
theorem j_add {a b : Int32} (h0 : -2147483648 ≤ a.toInt + b.toInt) (h1 : a.toInt + b.toInt < 2147483648) : (a + b).toInt = a.toInt + b.toInt := by
  rw [Int32.toInt_add, Int.bmod_def]
  split <;> omega
theorem j_sub {a b : Int32} (h0 : -2147483648 ≤ a.toInt - b.toInt) (h1 : a.toInt - b.toInt < 2147483648) : (a - b).toInt = a.toInt - b.toInt := by
  rw [Int32.toInt_sub, Int.bmod_def]
  split <;> omega
theorem j_mul {a b : Int32} (h0 : -2147483648 ≤ a.toInt * b.toInt) (h1 : a.toInt * b.toInt < 2147483648) : (a * b).toInt = a.toInt * b.toInt := by
  rw [Int32.toInt_mul, Int.bmod_def]
  split <;> omega
theorem j_nI {n : Nat} (h : n < 2147483648) : (nI n).toInt = n := by
  have e : ((Int32.size : Nat) : Int) = 4294967296 := rfl
  rw [show nI n = Int32.ofNat n from rfl, Int32.toInt_ofNat', Int.bmod_def, e]
  split <;> omega
theorem j_s (i : Nat) : nI i + 1 = nI (i + 1) := (Int32.ofNat_add i 1).symm
theorem j_a (i k : Nat) : nI i + nI k = nI (i + k) := (Int32.ofNat_add i k).symm
theorem j_0 : (0 : Int32) = nI 0 := rfl
theorem j_of {l : Int32} (h0 : 0 ≤ l.toInt) : l = nI l.toInt.toNat := by
  have := j_hi l
  refine j_eq.mpr ?_
  rw [j_nI (by omega)]
  omega
/-- an int of a whole number -/
abbrev oI (x : Int) : Int32 := Int32.ofInt x
theorem j_oI {x : Int} (h0 : -2147483648 ≤ x) (h1 : x < 2147483648) : (oI x).toInt = x := by
  rw [show oI x = Int32.ofInt x from rfl, Int32.toInt_ofInt, Int.bmod_def]
  have e : ((Int32.size : Nat) : Int) = 4294967296 := rfl
  rw [e]
  split <;> omega
theorem j_oIt (a : Int32) : oI a.toInt = a := j_eq.mpr (j_oI (j_lo a) (j_hi a))
theorem j_nIo (n : Nat) (h : n < 2147483648) : nI n = oI n := by
  refine j_eq.mpr ?_
  rw [j_nI h, j_oI (by omega) (by omega)]
theorem j_oe {x y : Int} (h0 : -2147483648 ≤ x) (h1 : x < 2147483648) (h2 : -2147483648 ≤ y) (h3 : y < 2147483648) : oI x = oI y ↔ x = y := by
  rw [j_eq, j_oI h0 h1, j_oI h2 h3]
theorem j_le_nI {a : Int32} {i : Nat} (h : i < 2147483648) : a ≤ nI i ↔ a.toInt ≤ i := by rw [j_le, j_nI h]
theorem j_lt_nI {a : Int32} {i : Nat} (h : i < 2147483648) : a < nI i ↔ a.toInt < i := by rw [j_lt, j_nI h]
theorem j_nI_le {a : Int32} {i : Nat} (h : i < 2147483648) : nI i ≤ a ↔ (i : Int) ≤ a.toInt := by rw [j_le, j_nI h]
theorem j_nI_lt {a : Int32} {i : Nat} (h : i < 2147483648) : nI i < a ↔ (i : Int) < a.toInt := by rw [j_lt, j_nI h]
theorem j_inj {i k : Nat} (hi : i < 2147483648) (hk : k < 2147483648) : nI i = nI k ↔ i = k := by
  rw [j_eq, j_nI hi, j_nI hk]
  omega
theorem j_cl (n : Nat) (h : n < 2147483648) : (nI n).toNatClampNeg = n := by
  show (nI n).toInt.toNat = n
  rw [j_nI h]
  omega
theorem j_ck {i : Int32} {n : Nat} : ck i n ↔ 0 ≤ i.toInt ∧ i.toInt < n := by
  have e : i.toNatClampNeg = i.toInt.toNat := rfl
  have z : (0 : Int32).toInt = 0 := rfl
  unfold ck
  rw [j_lt, e, z]
  omega
theorem j_ckn {i n : Nat} (hi : i < n) (h : n < 2147483648) : ck (nI i) n := by
  rw [j_ck, j_nI (by omega)]
  omega
/-! how many below n -/
def cnt (c : Nat → Bool) : Nat → Nat
  | 0 => 0
  | n + 1 => cnt c n + (if c n then 1 else 0)
theorem cnt_le (c : Nat → Bool) : ∀ n, cnt c n ≤ n
  | 0 => Nat.le_refl 0
  | n + 1 => by
    have := cnt_le c n
    show cnt c n + (if c n then 1 else 0) ≤ n + 1
    split <;> omega
theorem cnt_congr {c d : Nat → Bool} : ∀ {n : Nat}, (∀ i, i < n → c i = d i) → cnt c n = cnt d n
  | 0, _ => rfl
  | n + 1, h => by
    show cnt c n + _ = cnt d n + _
    rw [cnt_congr (fun i hi => h i (by omega)), h n (by omega)]
theorem cnt_mono {c d : Nat → Bool} : ∀ {n : Nat}, (∀ i, i < n → c i = true → d i = true) → cnt c n ≤ cnt d n
  | 0, _ => Nat.le_refl 0
  | n + 1, h => by
    have h1 := cnt_mono (c := c) (d := d) (n := n) (fun i hi => h i (by omega))
    have h2 := h n (by omega)
    show cnt c n + _ ≤ cnt d n + _
    cases hc : c n
    · simp; omega
    · rw [h2 hc]; simp; omega
theorem cnt_zero {c : Nat → Bool} : ∀ {n : Nat}, cnt c n = 0 ↔ ∀ i, i < n → c i = false
  | 0 => ⟨fun _ i hi => absurd hi (by omega), fun _ => rfl⟩
  | n + 1 => by
    have h1 := cnt_zero (c := c) (n := n)
    show cnt c n + (if c n then 1 else 0) = 0 ↔ _
    constructor
    · intro h i hi
      cases hc : c n
      · rw [hc] at h
        by_cases e : i = n
        · rw [e]; exact hc
        · exact h1.mp (by simpa using h) i (by omega)
      · rw [hc] at h; simp at h
    · intro h
      rw [h n (by omega), h1.mpr (fun i hi => h i (by omega))]
      rfl
theorem cnt_pos {c : Nat → Bool} {n i : Nat} (hi : i < n) (h : c i = true) : 1 ≤ cnt c n := by
  rcases Nat.eq_zero_or_pos (cnt c n) with e | e
  · rw [cnt_zero.mp e i hi] at h; cases h
  · exact e
theorem cnt_ex {c : Nat → Bool} {n : Nat} (h : 1 ≤ cnt c n) : ∃ i, i < n ∧ c i = true := by
  refine Classical.byContradiction (fun q => ?_)
  have : cnt c n = 0 := cnt_zero.mpr (fun i hi => by
    cases hc : c i
    · rfl
    · exact absurd ⟨i, hi, hc⟩ q)
  omega
/-- one place more -/
theorem cnt_one_more {c d : Nat → Bool} {i0 : Nat} : ∀ {n : Nat}, i0 < n → (∀ i, i < n → i ≠ i0 → c i = d i) → c i0 = false → d i0 = true → cnt d n = cnt c n + 1
  | 0, hi, _, _, _ => absurd hi (by omega)
  | n + 1, hi, h, hc, hd => by
    show cnt d n + (if d n then 1 else 0) = cnt c n + (if c n then 1 else 0) + 1
    by_cases e : i0 = n
    · subst e
      rw [hc, hd, cnt_congr (c := c) (d := d) (fun i hi => h i (by omega) (by omega))]
      simp
    · rw [cnt_one_more (n := n) (by omega) (fun i hi => h i (by omega)) hc hd, h n (by omega) (fun q => e q.symm)]
      omega
theorem cnt_two {c : Nat → Bool} {n i : Nat} (h : 2 ≤ cnt c n) (hi : i < n) (hc : c i = true) : ∃ k, k < n ∧ k ≠ i ∧ c k = true := by
  have h1 := cnt_one_more (c := fun k => c k && k != i) (d := c) (n := n) hi (fun k _ hk => by simp [hk]) (by simp) hc
  obtain ⟨k, hk, hk2⟩ := cnt_ex (c := fun k => c k && k != i) (n := n) (by omega)
  simp at hk2
  exact ⟨k, hk, hk2.2, hk2.1⟩
theorem cnt_uniq {c : Nat → Bool} {n i k : Nat} (h : cnt c n ≤ 1) (hi : i < n) (hk : k < n) (hc : c i = true) (hd : c k = true) : i = k := by
  refine Classical.byContradiction (fun q => ?_)
  have h1 := cnt_one_more (c := fun m => c m && m != i) (d := c) (n := n) hi (fun m _ hm => by simp [hm]) (by simp) hc
  have h2 := cnt_pos (c := fun m => c m && m != i) (n := n) hk (by simp [hd]; exact fun e => q e.symm)
  omega
theorem cnt_ext {c d : Nat → Bool} {n : Nat} : ∀ (k : Nat), (∀ i, i < n → c i = d i) → (∀ i, n ≤ i → d i = false) → cnt d (n + k) = cnt c n
  | 0, h, _ => (cnt_congr h).symm
  | k + 1, h, h2 => by
    show cnt d (n + k) + (if d (n + k) then 1 else 0) = _
    rw [h2 (n + k) (by omega), cnt_ext k h h2]
    rfl
theorem cnt_split {c d e : Nat → Bool} : ∀ {n : Nat}, (∀ i, i < n → c i = (d i || e i) ∧ (d i && e i) = false) → cnt c n = cnt d n + cnt e n
  | 0, _ => rfl
  | n + 1, h => by
    have h1 := cnt_split (c := c) (d := d) (e := e) (n := n) (fun i hi => h i (by omega))
    obtain ⟨h2, h3⟩ := h n (by omega)
    show cnt c n + _ = cnt d n + _ + (cnt e n + _)
    rw [h1, h2]
    cases hd : d n <;> cases he : e n <;> simp [hd, he] at h3 ⊢ <;> omega
/-! sums below n -/
def sm (g : Nat → Int) : Nat → Int
  | 0 => 0
  | n + 1 => sm g n + g n
theorem sm_congr {g h : Nat → Int} : ∀ {n : Nat}, (∀ i, i < n → g i = h i) → sm g n = sm h n
  | 0, _ => rfl
  | n + 1, e => by
    show sm g n + _ = sm h n + _
    rw [sm_congr (fun i hi => e i (by omega)), e n (by omega)]
theorem sm_one {g h : Nat → Int} {i0 : Nat} : ∀ {n : Nat}, i0 < n → (∀ i, i < n → i ≠ i0 → g i = h i) → sm h n = sm g n + (h i0 - g i0)
  | 0, hi, _ => absurd hi (by omega)
  | n + 1, hi, e => by
    show sm h n + h n = sm g n + g n + _
    by_cases q : i0 = n
    · subst q
      rw [sm_congr (g := g) (h := h) (fun i hi => e i (by omega) (by omega))]
      omega
    · rw [sm_one (n := n) (by omega) (fun i hi => e i (by omega)), e n (by omega) (fun r => q r.symm)]
      omega
theorem sm_le {g h : Nat → Int} : ∀ {n : Nat}, (∀ i, i < n → g i ≤ h i) → sm g n ≤ sm h n
  | 0, _ => Int.le_refl 0
  | n + 1, e => by
    have h1 := sm_le (g := g) (h := h) (n := n) (fun i hi => e i (by omega))
    have h2 := e n (by omega)
    show sm g n + g n ≤ sm h n + h n
    omega
theorem sm_0 : ∀ (n : Nat), sm (fun _ => 0) n = 0
  | 0 => rfl
  | n + 1 => by
    show sm (fun _ => 0) n + 0 = 0
    rw [sm_0 n]
    rfl
theorem sm_add (g h : Nat → Int) : ∀ (n : Nat), sm (fun i => g i + h i) n = sm g n + sm h n
  | 0 => rfl
  | n + 1 => by
    show sm _ n + (g n + h n) = (sm g n + g n) + (sm h n + h n)
    rw [sm_add g h n]
    omega
theorem sm_cnt (c : Nat → Bool) : ∀ (n : Nat), sm (fun i => if c i then 1 else 0) n = cnt c n
  | 0 => rfl
  | n + 1 => by
    show sm _ n + (if c n then 1 else 0) = ((cnt c n + (if c n then 1 else 0) : Nat) : Int)
    rw [sm_cnt c n]
    split <;> omega
theorem sm_swap (g : Nat → Nat → Int) (m : Nat) : ∀ (n : Nat), sm (fun i => sm (g i) m) n = sm (fun k => sm (fun i => g i k) n) m
  | 0 => (sm_0 m).symm
  | n + 1 => by
    show sm (fun i => sm (g i) m) n + sm (g n) m = sm (fun k => sm (fun i => g i k) n + g n k) m
    rw [sm_add, sm_swap g m n]
theorem sm_ext {g h : Nat → Int} {n : Nat} : ∀ (k : Nat), (∀ i, i < n → g i = h i) → (∀ i, n ≤ i → h i = 0) → sm h (n + k) = sm g n
  | 0, e, _ => (sm_congr e).symm
  | k + 1, e, e2 => by
    show sm h (n + k) + h (n + k) = _
    rw [e2 (n + k) (by omega), sm_ext k e e2]
    omega
/-! the first below n; -1 -/
def fnd (c : Nat → Bool) : Nat → Int
  | 0 => -1
  | n + 1 => if 0 ≤ fnd c n then fnd c n else if c n then n else -1
theorem fnd_spec (c : Nat → Bool) : ∀ (n : Nat), (fnd c n = -1 ∧ ∀ i, i < n → c i = false) ∨ ∃ i : Nat, i < n ∧ fnd c n = i ∧ c i = true ∧ ∀ k, k < i → c k = false
  | 0 => Or.inl ⟨rfl, fun i hi => absurd hi (by omega)⟩
  | n + 1 => by
    unfold fnd
    rcases fnd_spec c n with ⟨h1, h2⟩ | ⟨i, h1, h2, h3, h4⟩
    · rw [h1, if_neg (by omega)]
      cases hc : c n
      · left
        refine ⟨by simp, fun i hi => ?_⟩
        by_cases e : i = n
        · rw [e]; exact hc
        · exact h2 i (by omega)
      · right
        exact ⟨n, by omega, by simp, hc, h2⟩
    · right
      rw [h2, if_pos (by omega)]
      exact ⟨i, by omega, rfl, h3, h4⟩
theorem fnd_rg (c : Nat → Bool) (n : Nat) : -1 ≤ fnd c n ∧ fnd c n < n := by
  rcases fnd_spec c n with ⟨h1, _⟩ | ⟨i, h1, h2, _⟩ <;> omega
theorem fnd_congr {c d : Nat → Bool} : ∀ {n : Nat}, (∀ i, i < n → c i = d i) → fnd c n = fnd d n
  | 0, _ => rfl
  | n + 1, h => by
    unfold fnd
    rw [fnd_congr (fun i hi => h i (by omega)), h n (by omega)]
theorem fnd_at {c : Nat → Bool} {n i : Nat} (hi : i < n) (hc : c i = true) (hl : ∀ k, k < i → c k = false) : fnd c n = i := by
  rcases fnd_spec c n with ⟨_, h2⟩ | ⟨k, h1, h2, h3, h4⟩
  · rw [h2 i hi] at hc; cases hc
  · rw [h2]
    have : k = i := by
      rcases Nat.lt_trichotomy k i with q | q | q
      · rw [hl k q] at h3; cases h3
      · exact q
      · rw [h4 i q] at hc; cases hc
    rw [this]
theorem fnd_un {c : Nat → Bool} {n i : Nat} (hi : i < n) (hc : c i = true) (hl : ∀ k, k < n → c k = true → k = i) : fnd c n = i :=
  fnd_at hi hc (fun k hk => by
    cases h : c k
    · rfl
    · exact absurd (hl k (by omega) h) (by omega))
theorem fnd_no {c : Nat → Bool} {n : Nat} (h : ∀ i, i < n → c i = false) : fnd c n = -1 := by
  rcases fnd_spec c n with ⟨h1, _⟩ | ⟨k, h1, _, h3, _⟩
  · exact h1
  · rw [h k h1] at h3; cases h3
theorem fnd_ext {c d : Nat → Bool} {n : Nat} : ∀ (k : Nat), (∀ i, i < n → c i = d i) → (∀ i, n ≤ i → d i = false) → fnd d (n + k) = fnd c n
  | 0, h, _ => (fnd_congr h).symm
  | k + 1, h, h2 => by
    show (if 0 ≤ fnd d (n + k) then fnd d (n + k) else if d (n + k) then _ else -1) = _
    rw [h2 (n + k) (by omega), fnd_ext k h h2]
    have := fnd_rg c n
    simp
    omega
/-! pigeons -/
theorem pigeon : ∀ (m : Nat) (f : Nat → Nat), (∀ i, i < m + 1 → f i < m) → ∃ i k, i < k ∧ k < m + 1 ∧ f i = f k
  | 0, f, h => absurd (h 0 (by omega)) (by omega)
  | m + 1, f, h => by
    by_cases e : ∃ i, i < m + 1 ∧ f i = f (m + 1)
    · obtain ⟨i, h1, h2⟩ := e
      exact ⟨i, m + 1, h1, by omega, h2⟩
    · obtain ⟨i, k, h1, h2, h3⟩ := pigeon m (fun i => if f i = m then f (m + 1) else f i) (fun i hi => by
        have h1 := h i (by omega)
        have h2 := h (m + 1) (by omega)
        have h3 : f i ≠ f (m + 1) := fun q => e ⟨i, hi, q⟩
        show (if f i = m then f (m + 1) else f i) < m
        split <;> omega)
      refine ⟨i, k, h1, by omega, ?_⟩
      have a := h i (by omega)
      have b := h k (by omega)
      have c1 : f i ≠ f (m + 1) := fun q => e ⟨i, by omega, q⟩
      have c2 : f k ≠ f (m + 1) := fun q => e ⟨k, by omega, q⟩
      revert h3
      show (if f i = m then f (m + 1) else f i) = (if f k = m then f (m + 1) else f k) → _
      split <;> split <;> intro h3 <;> omega
/-! loops -/
theorem lp {S R : Type} {F : Nat → S → Option R} {Q : Option R → Prop} (P : Nat → S → Prop) (N : Nat) (hs : ∀ n i s, i < N → P i s → ∃ s', P (i + 1) s' ∧ F (n + 1) s = F n s') (he : ∀ n s, P N s → Q (F (n + 1) s)) : ∀ (k i fuel : Nat) (s : S), i + k = N → k < fuel → P i s → Q (F fuel s)
  | 0, i, 0, _, _, hf, _ => absurd hf (by omega)
  | 0, i, f + 1, s, hk, _, hp => he f s (by rw [← hk]; exact hp)
  | k + 1, i, 0, _, _, hf, _ => absurd hf (by omega)
  | k + 1, i, f + 1, s, hk, hf, hp => by
    obtain ⟨s', h1, h2⟩ := hs f i s (by omega) hp
    rw [h2]
    exact lp P N hs he k (i + 1) f s' (by omega) (by omega) h1
/-- a loop that may end earlier -/
theorem lpx {S R : Type} {F : Nat → S → Option R} {Q : Option R → Prop} (P : Nat → S → Prop) (N : Nat) (hs : ∀ n i s, i < N → P i s → Q (F (n + 1) s) ∨ ∃ s', P (i + 1) s' ∧ F (n + 1) s = F n s') (he : ∀ n s, P N s → Q (F (n + 1) s)) : ∀ (k i fuel : Nat) (s : S), i + k = N → k < fuel → P i s → Q (F fuel s)
  | 0, i, 0, _, _, hf, _ => absurd hf (by omega)
  | 0, i, f + 1, s, hk, _, hp => he f s (by rw [← hk]; exact hp)
  | k + 1, i, 0, _, _, hf, _ => absurd hf (by omega)
  | k + 1, i, f + 1, s, hk, hf, hp => by
    rcases hs f i s (by omega) hp with h | ⟨s', h1, h2⟩
    · exact h
    · rw [h2]
      exact lpx P N hs he k (i + 1) f s' (by omega) (by omega) h1
theorem lp_cnt {F : Nat → Int32 → Int32 → Option Int32} {c : Nat → Bool} (N : Nat) (hs : ∀ n a i, i < N → F (n + 1) a (nI i) = F n (a + (if c i then 1 else 0)) (nI (i + 1))) (he : ∀ n a, F (n + 1) a (nI N) = some a) (fuel : Nat) (hf : N < fuel) : F fuel 0 0 = some (nI (cnt c N)) := by
  refine lp (F := fun n (s : Int32 × Int32) => F n s.1 s.2) (Q := fun r => r = some (nI (cnt c N))) (fun i s => s = (nI (cnt c i), nI i)) N ?_ ?_ N 0 fuel (0, 0) (by omega) hf rfl
  · rintro n i _ hi rfl
    refine ⟨_, rfl, ?_⟩
    show F (n + 1) (nI (cnt c i)) (nI i) = F n (nI (cnt c (i + 1))) (nI (i + 1))
    rw [hs n _ i hi]
    congr 1
    show nI (cnt c i) + _ = nI (cnt c i + _)
    split
    · exact j_s _
    · exact Int32.add_zero _
  · rintro n _ rfl
    exact he n _
theorem lp_fnd {F : Nat → Int32 → Option Int32} {c : Nat → Bool} (N : Nat) (hN : N < 2147483648) (hs : ∀ n i, i < N → F (n + 1) (nI i) = if c i then some (nI i) else F n (nI (i + 1))) (he : ∀ n, F (n + 1) (nI N) = some (-1)) (fuel : Nat) (hf : N < fuel) : F fuel 0 = some (oI (fnd c N)) := by
  refine lpx (F := fun n (s : Int32) => F n s) (Q := fun r => r = some (oI (fnd c N))) (fun i s => s = nI i ∧ ∀ k, k < i → c k = false) N ?_ ?_ N 0 fuel 0 (by omega) hf ⟨rfl, fun k hk => absurd hk (by omega)⟩
  · rintro n i _ hi ⟨rfl, hl⟩
    have h := hs n i hi
    cases hc : c i
    · right
      rw [hc] at h
      refine ⟨_, ⟨rfl, fun k hk => ?_⟩, h⟩
      by_cases e : k = i
      · rw [e]; exact hc
      · exact hl k (by omega)
    · left
      rw [hc] at h
      show F (n + 1) (nI i) = _
      rw [h, fnd_at hi hc hl, j_nIo i (by omega)]
      rfl
  · rintro n _ ⟨rfl, hl⟩
    show F (n + 1) (nI N) = _
    rw [he n, fnd_no hl]
    rfl
end
section
/-! THE RELATION: the class's orders -/
def Out (σ σ' : Sg) (lo hi : Nat) : Prop := σ'.2 = σ.2 ∧ ∀ c, (c < lo ∨ hi < c) → σ'.1 c = σ.1 c
theorem Out.rf {σ : Sg} {lo hi : Nat} : Out σ σ lo hi := ⟨rfl, fun _ _ => rfl⟩
theorem Out.tr {σ σ1 σ2 : Sg} {lo hi : Nat} (h : Out σ σ1 lo hi) (h2 : Out σ1 σ2 lo hi) : Out σ σ2 lo hi := ⟨h2.1.trans h.1, fun c hc => (h2.2 c hc).trans (h.2 c hc)⟩
theorem Out.mo {σ σ1 : Sg} {lo hi lo2 hi2 : Nat} (h : Out σ σ1 lo hi) (h1 : lo2 ≤ lo) (h2 : hi ≤ hi2) : Out σ σ1 lo2 hi2 := ⟨h.1, fun c hc => h.2 c (by omega)⟩
theorem su_at {σ : Sg} {k j : Nat} {v : Int32} (k' i : Nat) : (su σ k j v).1 k' i = if k' = k ∧ i = j then v else σ.1 k' i := by
  unfold su upd
  by_cases h : k' = k
  · subst h
    by_cases h2 : i = j
    · simp [h2]
    · simp [h2]
  · simp [h]
theorem su_out {σ : Sg} {k j : Nat} {v : Int32} : Out σ (su σ k j v) k k := ⟨rfl, fun c hc => by
  funext i
  rw [su_at, if_neg (by omega)]⟩
theorem su_ne {σ : Sg} {k j : Nat} {v : Int32} {k' : Nat} (h : k' ≠ k) : (su σ k j v).1 k' = σ.1 k' := by
  funext i
  rw [su_at, if_neg (fun q => h q.1)]
/-- a row asked at an index -/
def ga (f : Nat → Int) (n : Nat) (p : Int) : Int := if 0 ≤ p ∧ p < n then f p.toNat else -1
theorem ga_in {f : Nat → Int} {n i : Nat} (h : i < n) : ga f n i = f i := by
  unfold ga
  rw [if_pos (by omega)]
  rfl
theorem ga_m1 {f : Nat → Int} {n : Nat} : ga f n (-1) = -1 := if_neg (by omega)
theorem s_at {σ : Sg} {c n : Nat} (hn : n < 2147483648) (p : Int32) : fX8_at σ c n p = some (oI (ga (fun i => (σ.1 c i).toInt) n p.toInt)) := by
  unfold fX8_at ga
  have z : (0 : Int32).toInt = 0 := rfl
  by_cases h : 0 ≤ p.toInt ∧ p.toInt < n
  · rw [if_neg (by rw [j_lt, z]; omega), if_neg (by rw [j_le, j_nI hn]; omega), if_pos (by rw [j_ck]; exact h), if_pos h, j_oIt]
    rfl
  · rw [if_neg h]
    by_cases h0 : p < 0
    · rw [if_pos h0]; rfl
    · rw [if_neg h0, if_pos (by rw [j_le, j_nI hn]; rw [j_lt, z] at h0; omega)]; rfl
theorem s_put {σ : Sg} {c n : Nat} (hn : n < 2147483648) (p v : Int32) : fX8_put σ c n p v = some (if 0 ≤ p.toInt ∧ p.toInt < n then su σ c p.toInt.toNat v else σ) := by
  unfold fX8_put
  have z : (0 : Int32).toInt = 0 := rfl
  by_cases h : 0 ≤ p.toInt ∧ p.toInt < n
  · rw [if_neg (by rw [j_lt, z]; omega), if_neg (by rw [j_le, j_nI hn]; omega), if_pos (by rw [j_ck]; exact h), if_pos h]
    rfl
  · rw [if_neg h]
    by_cases h0 : p < 0
    · rw [if_pos h0]
    · rw [if_neg h0, if_pos (by rw [j_le, j_nI hn]; rw [j_lt, z] at h0; omega)]
theorem s_atn {σ : Sg} {c n i : Nat} (hn : n < 2147483648) (h : i < n) : fX8_at σ c n (nI i) = some (σ.1 c i) := by
  rw [s_at hn, j_nI (by omega), ga_in h, j_oIt]
theorem s_putn {σ : Sg} {c n i : Nat} (hn : n < 2147483648) (h : i < n) (v : Int32) : fX8_put σ c n (nI i) v = some (su σ c i v) := by
  rw [s_put hn, j_nI (by omega), if_pos (by omega)]
  rfl
abbrev OD : Type := Int × (Nat → Int)
def odv (σ : Sg) (c : Nat) : OD := ((σ.1 c 1).toInt, fun i => if i < 12 then (σ.1 (c + 1) i).toInt else 0)
def OkO (o : OD) : Prop := 0 ≤ o.1 ∧ o.1 ≤ 12
def o_ix (o : OD) (x : Int) : Int := fnd (fun k => decide (o.2 k = x)) o.1.toNat
def o_it (o : OD) (p : Int) : Int := if o.1 ≤ p then -1 else ga o.2 12 p
def o_lv (o : OD) (x : Int) : OD := if o_ix o x = -1 then o else (o.1 - 1, fun k => if o_ix o x ≤ k ∧ (k : Int) < o.1 - 1 then o.2 (k + 1) else o.2 k)
def o_pl (o : OD) (x : Int) : OD := if 12 ≤ (o_lv o x).1 then o_lv o x else ((o_lv o x).1 + 1, fun k => if (k : Int) = (o_lv o x).1 then x else (o_lv o x).2 k)
def o_pf (o : OD) (x : Int) : OD := ((o_pl o x).1, fun k => if k = 0 then x else if (k : Int) < (o_pl o x).1 then (o_pl o x).2 (k - 1) else (o_pl o x).2 k)
theorem odv_of {σ' : Sg} {c : Nat} {o : OD} (h1 : (σ'.1 c 1).toInt = o.1) (h2 : ∀ i, i < 12 → (σ'.1 (c + 1) i).toInt = o.2 i) (h3 : ∀ i, 12 ≤ i → o.2 i = 0) : odv σ' c = o := by
  refine Prod.ext h1 (funext fun i => ?_)
  show (if i < 12 then _ else 0) = _
  by_cases h : i < 12
  · rw [if_pos h, h2 i h]
  · rw [if_neg h, h3 i (by omega)]
theorem odv_in {σ : Sg} {c i : Nat} (h : i < 12) : (odv σ c).2 i = (σ.1 (c + 1) i).toInt := if_pos h
theorem odv_no {σ : Sg} {c i : Nat} (h : 12 ≤ i) : (odv σ c).2 i = 0 := if_neg (by omega)
theorem odv_out {σ σ' : Sg} {c lo hi : Nat} (h : Out σ σ' lo hi) (h2 : c + 1 < lo ∨ hi < c) : odv σ' c = odv σ c := by
  unfold odv
  rw [h.2 c (by omega), h.2 (c + 1) (by omega)]
theorem ga_od {σ : Sg} {c : Nat} (p : Int) : ga (fun i => (σ.1 (c + 1) i).toInt) 12 p = ga (odv σ c).2 12 p := by
  unfold ga
  by_cases h : 0 ≤ p ∧ p < (12 : Nat)
  · rw [if_pos h, if_pos h, odv_in (by omega)]
  · rw [if_neg h, if_neg h]
theorem o_ix_rg {o : OD} (x : Int) : -1 ≤ o_ix o x ∧ (o_ix o x < o.1 ∨ o_ix o x = -1) := by
  have h1 := fnd_rg (fun k => decide (o.2 k = x)) o.1.toNat
  unfold o_ix
  omega
theorem s_indexOf {σ : Sg} {c : Nat} (h : OkO (odv σ c)) (x : Int32) : fX0_indexOf σ c x = some (oI (o_ix (odv σ c) x.toInt)) := by
  have e1 : (σ.1 c 1).toInt = (odv σ c).1 := rfl
  obtain ⟨h0, h1⟩ := h
  unfold fX0_indexOf o_ix
  refine lp_fnd (F := fun n l => fX0_indexOf_2 σ c n x l) (odv σ c).1.toNat (by omega) ?_ ?_ FU (by show _ < 6000; omega)
  · intro n i hi
    show fX0_indexOf_2 σ c (n + 1) x (nI i) = _
    rw [fX0_indexOf_2, if_neg (by rw [j_le, j_nI (by omega), e1]; omega), s_atn (by decide) (by omega), j_b, j_s]
    by_cases q : σ.1 (c + 1) i = x
    · rw [if_pos q, if_pos (by rw [decide_eq_true_eq, odv_in (by omega), q])]
    · rw [if_neg q, if_neg (by rw [decide_eq_true_eq, odv_in (by omega), ← j_eq]; exact q)]
  · intro n
    show fX0_indexOf_2 σ c (n + 1) x _ = _
    rw [fX0_indexOf_2, if_pos (by rw [j_le, j_nI (by omega), e1]; omega)]
theorem s_item {σ : Sg} {c : Nat} (x : Int32) : fX0_item σ c x = some (oI (o_it (odv σ c) x.toInt)) := by
  unfold fX0_item o_it
  have e1 : (odv σ c).1 = (σ.1 c 1).toInt := rfl
  by_cases h : σ.1 c 1 ≤ x
  · rw [if_pos h, e1, if_pos (j_le.mp h)]; rfl
  · rw [if_neg h, e1, if_neg (fun q => h (j_le.mpr q)), s_at (by decide), j_b, ga_od]
theorem s_size {σ : Sg} {c : Nat} : fX0_size σ c = some (oI (odv σ c).1) := by
  unfold fX0_size
  rw [show (odv σ c).1 = (σ.1 c 1).toInt from rfl, j_oIt]
theorem s_leave {σ : Sg} {c : Nat} (h : OkO (odv σ c)) (x : Int32) : ∃ σ', fX0_leave σ c x = some σ' ∧ Out σ σ' c (c + 1) ∧ odv σ' c = o_lv (odv σ c) x.toInt := by
  have e1 : (σ.1 c 1).toInt = (odv σ c).1 := rfl
  have e1' : ((1 : Int32).toInt) = 1 := rfl
  unfold fX0_leave
  rw [s_indexOf h, j_b]
  have hr := o_ix_rg (o := odv σ c) x.toInt
  obtain ⟨h0, h1⟩ := h
  by_cases e : o_ix (odv σ c) x.toInt = -1
  · rw [if_pos (by rw [e]; rfl)]
    exact ⟨σ, rfl, Out.rf, by rw [o_lv, if_pos e]⟩
  · obtain ⟨i0, hi0⟩ : ∃ i0 : Nat, o_ix (odv σ c) x.toInt = i0 := ⟨(o_ix (odv σ c) x.toInt).toNat, by omega⟩
    rw [if_neg (by rw [show (-1 : Int32) = oI (-1) from rfl, j_oe (by omega) (by omega) (by omega) (by omega)]; exact e)]
    have es : (σ.1 c 1 - 1).toInt = (odv σ c).1 - 1 := by rw [j_sub (by rw [e1, e1']; omega) (by rw [e1, e1']; omega), e1, e1']
    rw [hi0, ← j_nIo i0 (by omega)]
    refine lp (F := fun n (s : Sg × Int32) => fX0_leave_14 c n s.1 s.2) (Q := fun r => ∃ σ', r = some σ' ∧ Out σ σ' c (c + 1) ∧ odv σ' c = o_lv (odv σ c) x.toInt) (fun i s => s.2 = nI i ∧ i0 ≤ i ∧ Out σ s.1 (c + 1) (c + 1) ∧ ∀ k, k < 12 → s.1.1 (c + 1) k = if i0 ≤ k ∧ k < i then σ.1 (c + 1) (k + 1) else σ.1 (c + 1) k) ((odv σ c).1 - 1).toNat ?_ ?_ (((odv σ c).1 - 1).toNat - i0) i0 FU (σ, nI i0) (by omega) (by show _ < 6000; omega) ⟨rfl, Nat.le_refl _, Out.rf, fun k hk => by rw [if_neg (by omega)]⟩
    · rintro n i ⟨s, l⟩ hi ⟨rfl, hge, ho, hv⟩
      have ho' : s.1 c = σ.1 c := ho.2 c (by omega)
      refine ⟨(su s (c + 1) i (s.1 (c + 1) (i + 1)), nI (i + 1)), ⟨rfl, by omega, ho.tr su_out, fun k hk => ?_⟩, ?_⟩
      · show (su s (c + 1) i (s.1 (c + 1) (i + 1))).1 (c + 1) k = _
        rw [su_at]
        have a := hv k hk
        have b := hv (i + 1) (by omega)
        simp only at a b
        by_cases q : k = i
        · subst q
          rw [if_pos ⟨rfl, rfl⟩, b, if_neg (by omega), if_pos (by omega)]
        · rw [if_neg (fun w => q w.2), a]
          by_cases q2 : i0 ≤ k ∧ k < i
          · rw [if_pos q2, if_pos (by omega)]
          · rw [if_neg q2, if_neg (by omega)]
      · show fX0_leave_14 c (n + 1) s (nI i) = fX0_leave_14 c n _ (nI (i + 1))
        rw [fX0_leave_14, ho', if_neg (by rw [j_le, es, j_nI (by omega)]; omega), j_s, s_atn (by decide) (by omega), j_b, s_putn (by decide) (by omega), j_b]
    · rintro n ⟨s, l⟩ ⟨rfl, hge, ho, hv⟩
      have ho' : s.1 c = σ.1 c := ho.2 c (by omega)
      show ∃ σ', fX0_leave_14 c (n + 1) s _ = some σ' ∧ _
      rw [fX0_leave_14, ho', if_pos (by rw [j_le, es, j_nI (by omega)]; omega), j_nm]
      refine ⟨_, rfl, (ho.mo (by omega) (by omega)).tr (su_out.mo (by omega) (by omega)), odv_of ?_ ?_ ?_⟩
      · rw [su_at, if_pos ⟨rfl, rfl⟩, es, o_lv, if_neg e]
      · intro i hi
        rw [su_at, if_neg (by omega), hv i hi, o_lv, if_neg e, hi0]
        show _ = if (i0 : Int) ≤ i ∧ (i : Int) < (odv σ c).1 - 1 then _ else _
        by_cases q : i0 ≤ i ∧ i < ((odv σ c).1 - 1).toNat
        · rw [if_pos q, if_pos (by omega), odv_in (by omega)]
        · rw [if_neg q, if_neg (by omega), odv_in hi]
      · intro i hi
        rw [o_lv, if_neg e]
        show (if _ ∧ (i : Int) < (odv σ c).1 - 1 then _ else _) = _
        rw [if_neg (by omega), odv_no hi]
theorem o_lv_ok {o : OD} (h : OkO o) (x : Int) : OkO (o_lv o x) ∧ (o_lv o x).1 ≤ o.1 := by
  have hr := o_ix_rg (o := o) x
  unfold OkO at *
  unfold o_lv
  by_cases e : o_ix o x = -1
  · rw [if_pos e]
    omega
  · rw [if_neg e]
    show (0 ≤ o.1 - 1 ∧ o.1 - 1 ≤ 12) ∧ o.1 - 1 ≤ o.1
    omega
theorem o_pl_ok {o : OD} (h : OkO o) (x : Int) : OkO (o_pl o x) := by
  have h1 := (o_lv_ok h x).1
  unfold o_pl
  by_cases e : 12 ≤ (o_lv o x).1
  · rw [if_pos e]
    exact h1
  · rw [if_neg e]
    unfold OkO at *
    show 0 ≤ (o_lv o x).1 + 1 ∧ (o_lv o x).1 + 1 ≤ 12
    omega
theorem o_pf_ok {o : OD} (h : OkO o) (x : Int) : OkO (o_pf o x) := o_pl_ok h x
theorem o_lv_no {o : OD} (h : OkO o) (x : Int) {i : Nat} (hz : ∀ i, 12 ≤ i → o.2 i = 0) (hi : 12 ≤ i) : (o_lv o x).2 i = 0 := by
  unfold OkO at h
  unfold o_lv
  by_cases e : o_ix o x = -1
  · rw [if_pos e]
    exact hz i hi
  · rw [if_neg e]
    show (if _ ∧ (i : Int) < o.1 - 1 then _ else _) = _
    rw [if_neg (by omega), hz i hi]
theorem s_putLast {σ : Sg} {c : Nat} (h : OkO (odv σ c)) (x : Int32) : ∃ σ', fX0_putLast σ c x = some σ' ∧ Out σ σ' c (c + 1) ∧ odv σ' c = o_pl (odv σ c) x.toInt := by
  obtain ⟨σ1, h1, h2, h3⟩ := s_leave h x
  have hk := (o_lv_ok h x.toInt).1
  have hz : ∀ i, 12 ≤ i → (o_lv (odv σ c) x.toInt).2 i = 0 := fun i hi => o_lv_no h x.toInt (fun i hi => odv_no hi) hi
  rw [← h3] at hk hz
  have e1 : (σ1.1 c 1).toInt = (odv σ1 c).1 := rfl
  have e1' : ((1 : Int32).toInt) = 1 := rfl
  have e12 : (nI 12).toInt = 12 := rfl
  unfold OkO at hk
  unfold fX0_putLast
  rw [h1, j_b]
  by_cases e : 12 ≤ (odv σ1 c).1
  · rw [if_pos (by rw [j_le, e12, e1]; exact e)]
    exact ⟨σ1, rfl, h2, by rw [o_pl, ← h3, if_pos e]⟩
  · obtain ⟨m, hm⟩ : ∃ m : Nat, (odv σ1 c).1 = m := ⟨(odv σ1 c).1.toNat, by omega⟩
    have hc : σ1.1 c 1 = nI m := j_eq.mpr (by rw [j_nI (by omega), e1, hm])
    rw [if_neg (by rw [j_le, e12, e1]; exact e), hc, s_putn (by decide) (by omega), j_b, j_nm]
    refine ⟨_, rfl, (h2.tr (su_out.mo (by omega) (by omega))).tr (su_out.mo (by omega) (by omega)), odv_of ?_ ?_ ?_⟩
    · rw [su_at, if_pos ⟨rfl, rfl⟩, su_at, if_neg (by omega), o_pl, ← h3, if_neg e]
      rw [j_add (by rw [e1, e1']; omega) (by rw [e1, e1']; omega), e1, e1']
    · intro i hi
      rw [su_at, if_neg (by omega), su_at, o_pl, ← h3, if_neg e]
      show _ = if (i : Int) = (odv σ1 c).1 then _ else _
      by_cases q : i = m
      · rw [if_pos ⟨rfl, q⟩, if_pos (by omega)]
      · rw [if_neg (fun w => q w.2), if_neg (by omega), odv_in hi]
    · intro i hi
      rw [o_pl, ← h3, if_neg e]
      show (if (i : Int) = (odv σ1 c).1 then _ else _) = _
      rw [if_neg (by omega), hz i hi]
theorem o_pl_no {o : OD} (h : OkO o) (x : Int) {i : Nat} (hz : ∀ i, 12 ≤ i → o.2 i = 0) (hi : 12 ≤ i) : (o_pl o x).2 i = 0 := by
  have h1 := (o_lv_ok h x).1
  unfold OkO at h1
  unfold o_pl
  by_cases e : 12 ≤ (o_lv o x).1
  · rw [if_pos e]
    exact o_lv_no h x hz hi
  · rw [if_neg e]
    show (if (i : Int) = (o_lv o x).1 then _ else _) = _
    rw [if_neg (by omega), o_lv_no h x hz hi]
theorem s_putFirst {σ : Sg} {c : Nat} (h : OkO (odv σ c)) (x : Int32) : ∃ σ', fX0_putFirst σ c x = some σ' ∧ Out σ σ' c (c + 1) ∧ odv σ' c = o_pf (odv σ c) x.toInt := by
  obtain ⟨σ1, h1, h2, h3⟩ := s_putLast h x
  have hk := o_pl_ok h x.toInt
  have hz : ∀ i, 12 ≤ i → (o_pl (odv σ c) x.toInt).2 i = 0 := fun i hi => o_pl_no h x.toInt (fun i hi => odv_no hi) hi
  rw [← h3] at hk hz
  have e1 : (σ1.1 c 1).toInt = (odv σ1 c).1 := rfl
  have e1' : ((1 : Int32).toInt) = 1 := rfl
  have em : ((-1 : Int32).toInt) = -1 := rfl
  have e0 : ((0 : Int32).toInt) = 0 := rfl
  unfold OkO at hk
  unfold fX0_putFirst
  rw [h1, j_b, j_nm]
  have es : (σ1.1 c 1 - 1).toInt = (odv σ1 c).1 - 1 := by rw [j_sub (by rw [e1, e1']; omega) (by rw [e1, e1']; omega), e1, e1']
  -- the loop goes down: i counts the steps done
  refine lp (F := fun n (s : Sg × Int32) => fX0_putFirst_12 c n s.1 x s.2) (Q := fun r => ∃ σ', r = some σ' ∧ Out σ σ' c (c + 1) ∧ odv σ' c = o_pf (odv σ c) x.toInt) (fun i s => s.2.toInt = (odv σ1 c).1 - 1 - i ∧ Out σ1 s.1 (c + 1) (c + 1) ∧ ∀ k, k < 12 → s.1.1 (c + 1) k = if (odv σ1 c).1 - 1 - i < k ∧ (k : Int) < (odv σ1 c).1 then σ1.1 (c + 1) (k - 1) else σ1.1 (c + 1) k) ((odv σ1 c).1 - 1).toNat ?_ ?_ _ 0 FU (σ1, σ1.1 c 1 - 1) (Nat.zero_add _) (by show _ < 6000; omega) ⟨by rw [es]; omega, Out.rf, fun k hk => by rw [if_neg (by omega)]⟩
  · rintro n i ⟨s, l⟩ hi ⟨hl, ho, hv⟩
    simp only at hl ho hv
    obtain ⟨m, hm⟩ : ∃ m : Nat, (odv σ1 c).1 - 1 - i = m := ⟨((odv σ1 c).1 - 1 - i).toNat, by omega⟩
    have hl2 : l = nI m := j_eq.mpr (by rw [j_nI (by omega), hl, hm])
    have hp : nI m - 1 = nI (m - 1) := j_eq.mpr (by rw [j_sub (by rw [j_nI (by omega), e1']; omega) (by rw [j_nI (by omega), e1']; omega), j_nI (by omega), j_nI (by omega), e1']; omega)
    refine ⟨(su s (c + 1) m (s.1 (c + 1) (m - 1)), l + (-1)), ⟨?_, ho.tr su_out, fun k hk => ?_⟩, ?_⟩
    · show (l + (-1)).toInt = _
      rw [j_add (by rw [hl, em]; omega) (by rw [hl, em]; omega), hl, em]
      omega
    · show (su s (c + 1) m (s.1 (c + 1) (m - 1))).1 (c + 1) k = _
      rw [su_at]
      have a := hv k hk
      have b := hv (m - 1) (by omega)
      by_cases q : k = m
      · subst q
        rw [if_pos ⟨rfl, rfl⟩, b, if_neg (by omega), if_pos (by omega)]
      · rw [if_neg (fun w => q w.2), a]
        by_cases q2 : (odv σ1 c).1 - 1 - i < k ∧ (k : Int) < (odv σ1 c).1
        · rw [if_pos q2, if_pos (by omega)]
        · rw [if_neg q2, if_neg (by omega)]
    · show fX0_putFirst_12 c (n + 1) s x l = fX0_putFirst_12 c n _ x (l + (-1))
      rw [fX0_putFirst_12, if_neg (by rw [j_le, hl, e0]; omega), hl2, hp, s_atn (by decide) (by omega), j_b, s_putn (by decide) (by omega), j_b]
  · rintro n ⟨s, l⟩ ⟨hl, ho, hv⟩
    simp only at hl ho hv
    show ∃ σ', fX0_putFirst_12 c (n + 1) s x l = some σ' ∧ _
    rw [fX0_putFirst_12, if_pos (by rw [j_le, hl, e0]; omega), j_0, s_putn (by decide) (by omega), j_b]
    refine ⟨_, rfl, (h2.tr (ho.mo (by omega) (by omega))).tr (su_out.mo (by omega) (by omega)), odv_of ?_ ?_ ?_⟩
    · rw [su_at, if_neg (by omega), ho.2 c (by omega), e1, h3]
      rfl
    · intro i hi
      rw [su_at]
      show _ = if i = 0 then x.toInt else if (i : Int) < (o_pl (odv σ c) x.toInt).1 then (o_pl (odv σ c) x.toInt).2 (i - 1) else (o_pl (odv σ c) x.toInt).2 i
      by_cases q : i = 0
      · rw [if_pos ⟨rfl, q⟩, if_pos q]
      · rw [if_neg (fun w => q w.2), if_neg q, hv i hi, ← h3]
        by_cases q2 : (i : Int) < (odv σ1 c).1
        · rw [if_pos q2, if_pos (by omega), odv_in (by omega)]
        · rw [if_neg q2, if_neg (by omega), odv_in hi]
    · intro i hi
      show (if i = 0 then x.toInt else if (i : Int) < (o_pl (odv σ c) x.toInt).1 then (o_pl (odv σ c) x.toInt).2 (i - 1) else (o_pl (odv σ c) x.toInt).2 i) = 0
      rw [← h3, if_neg (by omega), if_neg (by omega), hz i hi]
theorem o_pf_no {o : OD} (h : OkO o) (x : Int) {i : Nat} (hz : ∀ i, 12 ≤ i → o.2 i = 0) (hi : 12 ≤ i) : (o_pf o x).2 i = 0 := by
  have h1 := o_pl_ok h x
  unfold OkO at h1
  show (if i = 0 then x else if (i : Int) < (o_pl o x).1 then (o_pl o x).2 (i - 1) else (o_pl o x).2 i) = 0
  rw [if_neg (by omega), if_neg (by omega), o_pl_no h x hz hi]
end
section
/-! THE RELATION: a placement of the class, what it answers -/
abbrev VW : Type := Nat → Nat → Int
def wd (j : Nat) : Nat := match j with
  | 1 => 5 | 2 => 5 | 3 => 5 | 4 => 5 | 5 => 5 | 6 => 2 | 7 => 12 | 8 => 23 | 9 => 23 | 10 => 23 | 11 => 23 | 12 => 23 | 13 => 12 | 14 => 12 | 15 => 12 | _ => 0
def inr (j i : Nat) : Bool := decide (i < wd j) && !(j == 6 && i == 0)
def pv (σ : Sg) (b : Nat) : VW := fun j i => if inr j i then (σ.1 (b + j) i).toInt else 0
theorem wd_hi {j : Nat} (h : j = 0 ∨ 16 ≤ j) : wd j = 0 := by
  unfold wd
  split <;> first | rfl | omega
theorem inr_hi {j : Nat} (i : Nat) (h : j = 0 ∨ 16 ≤ j) : inr j i = false := by
  unfold inr
  rw [wd_hi h]
  simp
theorem inr_8 (i : Nat) : inr 8 i = decide (i < 23) := by simp [inr, wd]
theorem inr_9 (i : Nat) : inr 9 i = decide (i < 23) := by simp [inr, wd]
theorem inr_10 (i : Nat) : inr 10 i = decide (i < 23) := by simp [inr, wd]
theorem inr_11 (i : Nat) : inr 11 i = decide (i < 23) := by simp [inr, wd]
theorem inr_12 (i : Nat) : inr 12 i = decide (i < 23) := by simp [inr, wd]
theorem inr_13 (i : Nat) : inr 13 i = decide (i < 12) := by simp [inr, wd]
theorem inr_14 (i : Nat) : inr 14 i = decide (i < 12) := by simp [inr, wd]
theorem inr_15 (i : Nat) : inr 15 i = decide (i < 12) := by simp [inr, wd]
theorem inr_1 (i : Nat) : inr 1 i = decide (i < 5) := by simp [inr, wd]
theorem inr_2 (i : Nat) : inr 2 i = decide (i < 5) := by simp [inr, wd]
theorem inr_3 (i : Nat) : inr 3 i = decide (i < 5) := by simp [inr, wd]
theorem inr_4 (i : Nat) : inr 4 i = decide (i < 5) := by simp [inr, wd]
theorem inr_5 (i : Nat) : inr 5 i = decide (i < 5) := by simp [inr, wd]
theorem inr_7 (i : Nat) : inr 7 i = decide (i < 12) := by simp [inr, wd]
theorem inr_6 (i : Nat) : inr 6 i = decide (i = 1) := by
  by_cases h : i = 1
  · simp [inr, wd, h]
  · by_cases h0 : i = 0
    · simp [inr, wd, h0]
    · have h2 : ¬ i < 2 := by omega
      simp [inr, wd, h, h2]
theorem pv_in {σ : Sg} {b j i : Nat} (h : inr j i = true) : pv σ b j i = (σ.1 (b + j) i).toInt := if_pos h
theorem pv_no {σ : Sg} {b j i : Nat} (h : inr j i = false) : pv σ b j i = 0 := if_neg (by rw [h]; decide)
theorem pv_rg (σ : Sg) (b j i : Nat) : -2147483648 ≤ pv σ b j i ∧ pv σ b j i < 2147483648 := by
  unfold pv
  split
  · exact ⟨j_lo _, j_hi _⟩
  · omega
theorem ga_rg {σ : Sg} {b j n : Nat} (p : Int) : -2147483648 ≤ ga (pv σ b j) n p ∧ ga (pv σ b j) n p < 2147483648 := by
  unfold ga
  split
  · exact pv_rg σ b j _
  · omega
theorem t_ga {σ : Sg} {b j n : Nat} {p : Int} : (oI (ga (pv σ b j) n p)).toInt = ga (pv σ b j) n p := j_oI (ga_rg p).1 (ga_rg p).2
theorem s_v {σ : Sg} {b j n : Nat} (hn : n < 2147483648) (h : ∀ i, i < n → inr j i = true) (p : Int32) : fX8_at σ (b + j) n p = some (oI (ga (pv σ b j) n p.toInt)) := by
  rw [s_at hn]
  congr 2
  unfold ga
  by_cases q : 0 ≤ p.toInt ∧ p.toInt < n
  · rw [if_pos q, if_pos q, pv_in (h _ (by omega))]
  · rw [if_neg q, if_neg q]
theorem s_v1 {σ : Sg} {b : Nat} (p : Int32) : fX8_at σ (b + 1) 5 p = some (oI (ga (pv σ b 1) 5 p.toInt)) := s_v (by decide) (fun i h => by rw [inr_1]; exact decide_eq_true h) p
theorem s_v2 {σ : Sg} {b : Nat} (p : Int32) : fX8_at σ (b + 2) 5 p = some (oI (ga (pv σ b 2) 5 p.toInt)) := s_v (by decide) (fun i h => by rw [inr_2]; exact decide_eq_true h) p
theorem s_v3 {σ : Sg} {b : Nat} (p : Int32) : fX8_at σ (b + 3) 5 p = some (oI (ga (pv σ b 3) 5 p.toInt)) := s_v (by decide) (fun i h => by rw [inr_3]; exact decide_eq_true h) p
theorem s_v4 {σ : Sg} {b : Nat} (p : Int32) : fX8_at σ (b + 4) 5 p = some (oI (ga (pv σ b 4) 5 p.toInt)) := s_v (by decide) (fun i h => by rw [inr_4]; exact decide_eq_true h) p
theorem s_v5 {σ : Sg} {b : Nat} (p : Int32) : fX8_at σ (b + 5) 5 p = some (oI (ga (pv σ b 5) 5 p.toInt)) := s_v (by decide) (fun i h => by rw [inr_5]; exact decide_eq_true h) p
theorem s_v8 {σ : Sg} {b : Nat} (p : Int32) : fX8_at σ (b + 8) 23 p = some (oI (ga (pv σ b 8) 23 p.toInt)) := s_v (by decide) (fun i h => by rw [inr_8]; exact decide_eq_true h) p
theorem s_v9 {σ : Sg} {b : Nat} (p : Int32) : fX8_at σ (b + 9) 23 p = some (oI (ga (pv σ b 9) 23 p.toInt)) := s_v (by decide) (fun i h => by rw [inr_9]; exact decide_eq_true h) p
theorem s_v10 {σ : Sg} {b : Nat} (p : Int32) : fX8_at σ (b + 10) 23 p = some (oI (ga (pv σ b 10) 23 p.toInt)) := s_v (by decide) (fun i h => by rw [inr_10]; exact decide_eq_true h) p
theorem s_v11 {σ : Sg} {b : Nat} (p : Int32) : fX8_at σ (b + 11) 23 p = some (oI (ga (pv σ b 11) 23 p.toInt)) := s_v (by decide) (fun i h => by rw [inr_11]; exact decide_eq_true h) p
theorem s_v12 {σ : Sg} {b : Nat} (p : Int32) : fX8_at σ (b + 12) 23 p = some (oI (ga (pv σ b 12) 23 p.toInt)) := s_v (by decide) (fun i h => by rw [inr_12]; exact decide_eq_true h) p
theorem s_v13 {σ : Sg} {b : Nat} (p : Int32) : fX8_at σ (b + 13) 12 p = some (oI (ga (pv σ b 13) 12 p.toInt)) := s_v (by decide) (fun i h => by rw [inr_13]; exact decide_eq_true h) p
theorem s_v14 {σ : Sg} {b : Nat} (p : Int32) : fX8_at σ (b + 14) 12 p = some (oI (ga (pv σ b 14) 12 p.toInt)) := s_v (by decide) (fun i h => by rw [inr_14]; exact decide_eq_true h) p
theorem s_v15 {σ : Sg} {b : Nat} (p : Int32) : fX8_at σ (b + 15) 12 p = some (oI (ga (pv σ b 15) 12 p.toInt)) := s_v (by decide) (fun i h => by rw [inr_15]; exact decide_eq_true h) p
theorem pv_8 {σ : Sg} {b i : Nat} (h : i < 23) : pv σ b 8 i = (σ.1 (b + 8) i).toInt := pv_in (by rw [inr_8]; exact decide_eq_true h)
theorem pv_9 {σ : Sg} {b i : Nat} (h : i < 23) : pv σ b 9 i = (σ.1 (b + 9) i).toInt := pv_in (by rw [inr_9]; exact decide_eq_true h)
theorem pv_10 {σ : Sg} {b i : Nat} (h : i < 23) : pv σ b 10 i = (σ.1 (b + 10) i).toInt := pv_in (by rw [inr_10]; exact decide_eq_true h)
theorem pv_11 {σ : Sg} {b i : Nat} (h : i < 23) : pv σ b 11 i = (σ.1 (b + 11) i).toInt := pv_in (by rw [inr_11]; exact decide_eq_true h)
theorem pv_12 {σ : Sg} {b i : Nat} (h : i < 23) : pv σ b 12 i = (σ.1 (b + 12) i).toInt := pv_in (by rw [inr_12]; exact decide_eq_true h)
theorem pv_13 {σ : Sg} {b i : Nat} (h : i < 12) : pv σ b 13 i = (σ.1 (b + 13) i).toInt := pv_in (by rw [inr_13]; exact decide_eq_true h)
theorem pv_14 {σ : Sg} {b i : Nat} (h : i < 12) : pv σ b 14 i = (σ.1 (b + 14) i).toInt := pv_in (by rw [inr_14]; exact decide_eq_true h)
theorem pv_15 {σ : Sg} {b i : Nat} (h : i < 12) : pv σ b 15 i = (σ.1 (b + 15) i).toInt := pv_in (by rw [inr_15]; exact decide_eq_true h)
theorem pv_5 {σ : Sg} {b i : Nat} (h : i < 5) : pv σ b 5 i = (σ.1 (b + 5) i).toInt := pv_in (by rw [inr_5]; exact decide_eq_true h)
theorem jm1 : (-1 : Int32).toInt = -1 := rfl
theorem jz0 : (0 : Int32).toInt = 0 := rfl
theorem jz1 : (1 : Int32).toInt = 1 := rfl
theorem n_ge (a : Int32) {m i : Nat} (ha : a.toInt = m) (hi : i < m) (hm : m < 2147483648) : ¬ a ≤ nI i := by
  rw [j_le, j_nI (by omega), ha]
  omega
theorem n_le (a : Int32) {m : Nat} (ha : a.toInt = m) (hm : m < 2147483648) : a ≤ nI m := by
  rw [j_le, j_nI (by omega), ha]
  omega
def v_hd (V : VW) (p : Int) : Bool := decide (ga (V 15) 12 p = 1)
def v_cc (V : VW) (s : Int) : Nat := if s = -1 then 0 else cnt (fun n => decide (V 9 n = s)) 23
def v_ca (V : VW) (s k : Int) : Int := if s = -1 then -1 else fnd (fun n => decide (V 9 n = s) && decide (V 10 n = k)) 23
def v_tc (V : VW) (g : Int) : Nat := cnt (fun p => decide (V 13 p = g)) 12
def v_ta (V : VW) (g k : Int) : Int := if g = -1 then -1 else fnd (fun p => decide (V 13 p = g) && decide (V 14 p = k)) 12
def v_sc (V : VW) (g : Int) : Nat := cnt (fun p => decide (V 13 p = g) && !v_hd V p) 12
/-- at spot k of the group there is a tab that is shown -/
def v_ok (V : VW) (g : Int) (k : Nat) : Bool := decide (v_ta V g k ≠ -1) && !v_hd V (v_ta V g k)
def lst (c : Nat → Bool) : Nat → Int
  | 0 => -1
  | n + 1 => if c n then n else lst c n
def v_ai (V : VW) (g fr : Int) : Int := if fnd (fun k => decide (fr < k) && v_ok V g k) 12 = -1 then (if lst (v_ok V g) fr.toNat = -1 then -1 else v_ta V g (lst (v_ok V g) fr.toNat)) else v_ta V g (fnd (fun k => decide (fr < k) && v_ok V g k) 12)
def v_sta (V : VW) (g k : Int) : Int := if fnd (fun i => v_ok V g i && decide ((cnt (v_ok V g) i : Int) = k)) 12 = -1 then -1 else v_ta V g (fnd (fun i => v_ok V g i && decide ((cnt (v_ok V g) i : Int) = k)) 12)
def v_top (V : VW) : Nat → Int → Int
  | 0, n => n
  | k + 1, n => if ga (V 9) 23 n = -1 then n else v_top V k (ga (V 9) 23 n)
def v_wo (V : VW) (n : Int) : Int := if v_top V 23 n = -1 then -1 else fnd (fun w => decide (V 5 w = v_top V 23 n)) 5
def v_pi (V : VW) (w : Int) : Nat := cnt (fun p => decide (V 13 p ≠ -1) && decide (v_wo V (V 13 p) = w)) 12
def v_we (V : VW) (w : Int) : Bool := decide (w = 0) || decide (ga (V 5) 5 w ≠ -1)
def v_lw (V : VW) : Int := fnd (fun w => decide (1 ≤ w) && decide (V 5 w = -1)) 5
def v_mn (V : VW) : Int := fnd (fun n => decide (V 8 n = 3)) 23
section RD
variable {σ : Sg} {b : Nat}
theorem s_groupOf (p : Int32) : fX1_groupOf σ b p = some (oI (ga (pv σ b 13) 12 p.toInt)) := by
  unfold fX1_groupOf
  rw [s_v13, j_b]
theorem s_spotOf (p : Int32) : fX1_spotOf σ b p = some (oI (ga (pv σ b 14) 12 p.toInt)) := by
  unfold fX1_spotOf
  rw [s_v14, j_b]
theorem s_rootOf (p : Int32) : fX1_rootOf σ b p = some (oI (ga (pv σ b 5) 5 p.toInt)) := by
  unfold fX1_rootOf
  rw [s_v5, j_b]
theorem s_kindOf (p : Int32) : fX1_kindOf σ b p = some (oI (ga (pv σ b 8) 23 p.toInt)) := by
  unfold fX1_kindOf
  rw [s_v8, j_b]
theorem s_parentOf (p : Int32) : fX1_parentOf σ b p = some (oI (ga (pv σ b 9) 23 p.toInt)) := by
  unfold fX1_parentOf
  rw [s_v9, j_b]
theorem s_placeOf (p : Int32) : fX1_placeOf σ b p = some (oI (ga (pv σ b 10) 23 p.toInt)) := by
  unfold fX1_placeOf
  rw [s_v10, j_b]
theorem s_weightOf (p : Int32) : fX1_weightOf σ b p = some (oI (ga (pv σ b 11) 23 p.toInt)) := by
  unfold fX1_weightOf
  rw [s_v11, j_b]
theorem s_activeOf (p : Int32) : fX1_activeOf σ b p = some (oI (ga (pv σ b 12) 23 p.toInt)) := by
  unfold fX1_activeOf
  rw [s_v12, j_b]
theorem s_isHidden (p : Int32) : fX1_isHidden σ b p = some (v_hd (pv σ b) p.toInt) := by
  unfold fX1_isHidden v_hd
  rw [s_v15, j_b]
  by_cases h : ga (pv σ b 15) 12 p.toInt = 1
  · rw [if_pos (by rw [j_eq, t_ga]; exact h), decide_eq_true h]
  · rw [if_neg (by rw [j_eq, t_ga]; exact h), decide_eq_false h]
theorem s_childCount (s : Int32) : fX1_childCount σ b s = some (oI (v_cc (pv σ b) s.toInt)) := by
  unfold fX1_childCount v_cc
  by_cases e : s = -1
  · subst e
    rw [jm1, if_pos rfl, show FU = 5999 + 1 from rfl, fX1_childCount_4, if_neg (by decide), if_pos rfl]
    rfl
  · have e' : ¬ s.toInt = -1 := fun q => e (j_eq.mpr q)
    rw [if_neg e', ← j_nIo _ (by have := cnt_le (fun n => decide (pv σ b 9 n = s.toInt)) 23; omega)]
    refine lp_cnt (F := fun n a l => fX1_childCount_4 σ b n s a l) 23 ?_ ?_ FU (by decide)
    · intro n a i hi
      show fX1_childCount_4 σ b (n + 1) s a (nI i) = _
      rw [fX1_childCount_4, if_neg (n_ge 23 (m := 23) rfl hi (by decide)), if_neg e, s_atn (by decide) hi, j_b]
      unfold fX1_childCount_33
      by_cases q : σ.1 (b + 9) i = s
      · rw [if_pos q, if_pos (by rw [decide_eq_true_eq, pv_9 hi, q]), j_nm, j_s]
      · rw [if_neg q, if_neg (by rw [decide_eq_true_eq, pv_9 hi, ← j_eq]; exact q), j_nm, j_s]
    · intro n a
      show fX1_childCount_4 σ b (n + 1) s a (nI 23) = _
      rw [fX1_childCount_4, if_pos (n_le 23 (m := 23) rfl (by decide))]
theorem s_childAt (s k : Int32) : fX1_childAt σ b s k = some (oI (v_ca (pv σ b) s.toInt k.toInt)) := by
  unfold fX1_childAt v_ca
  by_cases e : s = -1
  · subst e
    rw [jm1, if_pos rfl, show FU = 5999 + 1 from rfl, fX1_childAt_2, if_neg (by decide), if_pos rfl]
    rfl
  · have e' : ¬ s.toInt = -1 := fun q => e (j_eq.mpr q)
    rw [if_neg e']
    refine lp_fnd (F := fun n l => fX1_childAt_2 σ b n s k l) 23 (by decide) ?_ ?_ FU (by decide)
    · intro n i hi
      show fX1_childAt_2 σ b (n + 1) s k (nI i) = _
      rw [fX1_childAt_2, if_neg (n_ge 23 (m := 23) rfl hi (by decide)), if_neg e, s_atn (by decide) hi, j_b]
      unfold fX1_childAt_39
      rw [pv_9 hi, pv_10 hi]
      by_cases q : σ.1 (b + 9) i = s
      · rw [if_pos q, s_atn (by decide) hi, j_b, q, j_s]
        by_cases q2 : σ.1 (b + 10) i = k
        · rw [if_pos q2, q2]
          simp
        · rw [if_neg q2, if_neg (by simp [← j_eq, q2])]
      · rw [if_neg q, if_neg (by simp [← j_eq, q]), j_s]
    · intro n
      show fX1_childAt_2 σ b (n + 1) s k (nI 23) = _
      rw [fX1_childAt_2, if_pos (n_le 23 (m := 23) rfl (by decide))]
theorem s_tabCount (s : Int32) : fX1_tabCount σ b s = some (oI (v_tc (pv σ b) s.toInt)) := by
  unfold fX1_tabCount v_tc
  rw [← j_nIo _ (by have := cnt_le (fun n => decide (pv σ b 13 n = s.toInt)) 12; omega)]
  refine lp_cnt (F := fun n a l => fX1_tabCount_4 σ b n s a l) 12 ?_ ?_ FU (by decide)
  · intro n a i hi
    show fX1_tabCount_4 σ b (n + 1) s a (nI i) = _
    rw [fX1_tabCount_4, if_neg (n_ge 12 (m := 12) rfl hi (by decide)), s_atn (by decide) hi, j_b]
    unfold fX1_tabCount_28
    by_cases q : σ.1 (b + 13) i = s
    · rw [if_pos q, if_pos (by rw [decide_eq_true_eq, pv_13 hi, q]), j_nm, j_s]
    · rw [if_neg q, if_neg (by rw [decide_eq_true_eq, pv_13 hi, ← j_eq]; exact q), j_nm, j_s]
  · intro n a
    show fX1_tabCount_4 σ b (n + 1) s a (nI 12) = _
    rw [fX1_tabCount_4, if_pos (n_le 12 (m := 12) rfl (by decide))]
theorem s_tabAt (s k : Int32) : fX1_tabAt σ b s k = some (oI (v_ta (pv σ b) s.toInt k.toInt)) := by
  unfold fX1_tabAt v_ta
  by_cases e : s = -1
  · subst e
    rw [jm1, if_pos rfl, show FU = 5999 + 1 from rfl, fX1_tabAt_2, if_neg (by decide), if_pos rfl]
    rfl
  · have e' : ¬ s.toInt = -1 := fun q => e (j_eq.mpr q)
    rw [if_neg e']
    refine lp_fnd (F := fun n l => fX1_tabAt_2 σ b n s k l) 12 (by decide) ?_ ?_ FU (by decide)
    · intro n i hi
      show fX1_tabAt_2 σ b (n + 1) s k (nI i) = _
      rw [fX1_tabAt_2, if_neg (n_ge 12 (m := 12) rfl hi (by decide)), if_neg e, s_atn (by decide) hi, j_b]
      unfold fX1_tabAt_39
      rw [pv_13 hi, pv_14 hi]
      by_cases q : σ.1 (b + 13) i = s
      · rw [if_pos q, s_atn (by decide) hi, j_b, q, j_s]
        by_cases q2 : σ.1 (b + 14) i = k
        · rw [if_pos q2, q2]
          simp
        · rw [if_neg q2, if_neg (by simp [← j_eq, q2])]
      · rw [if_neg q, if_neg (by simp [← j_eq, q]), j_s]
    · intro n
      show fX1_tabAt_2 σ b (n + 1) s k (nI 12) = _
      rw [fX1_tabAt_2, if_pos (n_le 12 (m := 12) rfl (by decide))]
end RD
end
section
/-! THE RELATION: a placement of the class, what it answers (2) -/
theorem lst_rg (c : Nat → Bool) : ∀ n, -1 ≤ lst c n ∧ lst c n < n ∧ (lst c n = -1 → ∀ i, i < n → c i = false) ∧ (lst c n ≠ -1 → c (lst c n).toNat = true)
  | 0 => ⟨by show (-1 : Int) ≤ -1; omega, by show (-1 : Int) < 0; omega, fun _ i hi => absurd hi (by omega), fun h => absurd rfl h⟩
  | n + 1 => by
    have h := lst_rg c n
    unfold lst
    cases hc : c n
    · simp only [Bool.false_eq_true, if_false]
      refine ⟨h.1, by omega, fun e i hi => ?_, h.2.2.2⟩
      by_cases q : i = n
      · rw [q]; exact hc
      · exact h.2.2.1 e i (by omega)
    · simp only [if_true]
      exact ⟨by omega, by omega, fun e => absurd e (by omega), fun _ => hc⟩
theorem lst_congr {c d : Nat → Bool} : ∀ {n : Nat}, (∀ i, i < n → c i = d i) → lst c n = lst d n
  | 0, _ => rfl
  | n + 1, h => by
    unfold lst
    rw [lst_congr (fun i hi => h i (by omega)), h n (by omega)]
theorem v_ta_rg (V : VW) (g k : Int) : -1 ≤ v_ta V g k ∧ v_ta V g k < 12 := by
  unfold v_ta
  split
  · omega
  · exact fnd_rg _ 12
theorem v_ca_rg (V : VW) (s k : Int) : -1 ≤ v_ca V s k ∧ v_ca V s k < 23 := by
  unfold v_ca
  split
  · omega
  · exact fnd_rg _ 23
theorem v_cc_rg (V : VW) (s : Int) : v_cc V s ≤ 23 := by
  unfold v_cc
  split
  · omega
  · exact cnt_le _ 23
theorem v_tc_rg (V : VW) (s : Int) : v_tc V s ≤ 12 := cnt_le _ 12
theorem t_ta (V : VW) (g k : Int) : (oI (v_ta V g k)).toInt = v_ta V g k := j_oI (by have := v_ta_rg V g k; omega) (by have := v_ta_rg V g k; omega)
theorem t_ca (V : VW) (g k : Int) : (oI (v_ca V g k)).toInt = v_ca V g k := j_oI (by have := v_ca_rg V g k; omega) (by have := v_ca_rg V g k; omega)
theorem t_cc (V : VW) (s : Int) : (oI (v_cc V s)).toInt = v_cc V s := j_oI (by omega) (by have := v_cc_rg V s; omega)
theorem t_tc (V : VW) (s : Int) : (oI (v_tc V s)).toInt = v_tc V s := j_oI (by omega) (by have := v_tc_rg V s; omega)
theorem t_fnd (c : Nat → Bool) {n : Nat} (h : n < 2147483648) : (oI (fnd c n)).toInt = fnd c n := j_oI (by have := fnd_rg c n; omega) (by have := fnd_rg c n; omega)
theorem v_ai_rg (V : VW) (g fr : Int) : -1 ≤ v_ai V g fr ∧ v_ai V g fr < 12 := by
  unfold v_ai
  split
  · split
    · omega
    · exact v_ta_rg _ _ _
  · exact v_ta_rg _ _ _
theorem v_sta_rg (V : VW) (g fr : Int) : -1 ≤ v_sta V g fr ∧ v_sta V g fr < 12 := by
  unfold v_sta
  split
  · omega
  · exact v_ta_rg _ _ _
theorem v_wo_rg (V : VW) (n : Int) : -1 ≤ v_wo V n ∧ v_wo V n < 5 := by
  unfold v_wo
  split
  · omega
  · exact fnd_rg _ 5
theorem t_wo (V : VW) (n : Int) : (oI (v_wo V n)).toInt = v_wo V n := j_oI (by have := v_wo_rg V n; omega) (by have := v_wo_rg V n; omega)
theorem t_ai (V : VW) (g n : Int) : (oI (v_ai V g n)).toInt = v_ai V g n := j_oI (by have := v_ai_rg V g n; omega) (by have := v_ai_rg V g n; omega)
theorem t_sta (V : VW) (g n : Int) : (oI (v_sta V g n)).toInt = v_sta V g n := j_oI (by have := v_sta_rg V g n; omega) (by have := v_sta_rg V g n; omega)
theorem t_pi (V : VW) (w : Int) : (oI (v_pi V w)).toInt = v_pi V w := j_oI (by omega) (by have : v_pi V w ≤ 12 := cnt_le _ 12; omega)
theorem v_top_rg {σ : Sg} {b : Nat} : ∀ (k : Nat) (n : Int), -2147483648 ≤ n ∧ n < 2147483648 → -2147483648 ≤ v_top (pv σ b) k n ∧ v_top (pv σ b) k n < 2147483648
  | 0, n, h => h
  | k + 1, n, h => by
    unfold v_top
    split
    · exact h
    · exact v_top_rg k _ (ga_rg _)
section RD2
variable {σ : Sg} {b : Nat}
theorem s_ai46 (g : Int32) : ∀ (m fuel : Nat) (l : Int32), l.toInt = (m : Int) - 1 → m ≤ 12 → m < fuel → fX1_activeInstead_46 σ b fuel g l = some (oI (if lst (v_ok (pv σ b) g.toInt) m = -1 then -1 else v_ta (pv σ b) g.toInt (lst (v_ok (pv σ b) g.toInt) m)))
  | m, 0, _, _, _, hf => absurd hf (by omega)
  | 0, f + 1, l, hl, _, _ => by
    rw [fX1_activeInstead_46, if_pos (by rw [j_lt, hl, jz0]; decide), lst, if_pos rfl]
    rfl
  | m + 1, f + 1, l, hl, hm, hf => by
    have hl2 : l.toInt = m := by omega
    have hr := v_ta_rg (pv σ b) g.toInt m
    have ih := s_ai46 g m f (l + (-1)) (by rw [j_add (by rw [jm1]; omega) (by rw [jm1]; omega), jm1]; omega) (by omega) (by omega)
    have L0 : v_ok (pv σ b) g.toInt m = false → lst (v_ok (pv σ b) g.toInt) (m + 1) = lst (v_ok (pv σ b) g.toInt) m := fun h => by rw [lst, h, if_neg (by decide)]
    have L1 : v_ok (pv σ b) g.toInt m = true → lst (v_ok (pv σ b) g.toInt) (m + 1) = m := fun h => by rw [lst, h, if_pos rfl]
    rw [fX1_activeInstead_46, if_neg (by rw [j_lt, hl2, jz0]; omega), s_tabAt, j_b, hl2]
    unfold fX1_activeInstead_76
    by_cases e : v_ta (pv σ b) g.toInt m = -1
    · rw [if_pos (by rw [j_eq, t_ta, jm1]; exact e), L0 (by unfold v_ok; simp [e])]
      exact ih
    · rw [if_neg (by rw [j_eq, t_ta, jm1]; exact e), s_isHidden, j_b, t_ta]
      cases hh : v_hd (pv σ b) (v_ta (pv σ b) g.toInt m)
      · rw [if_neg (by decide), L1 (by unfold v_ok; simp [e, hh]), if_neg (by omega)]
      · rw [if_pos rfl, L0 (by unfold v_ok; simp [hh])]
        exact ih
theorem s_activeInstead (g fr : Int32) (h0 : -1 ≤ fr.toInt) (h1 : fr.toInt ≤ 12) : fX1_activeInstead σ b g fr = some (oI (v_ai (pv σ b) g.toInt fr.toInt)) := by
  unfold fX1_activeInstead
  rw [j_nm]
  obtain ⟨i0, hi0⟩ : ∃ i0 : Nat, fr.toInt + 1 = i0 := ⟨(fr.toInt + 1).toNat, by omega⟩
  have hs : fr + 1 = nI i0 := j_eq.mpr (by rw [j_add (by rw [jz1]; omega) (by rw [jz1]; omega), jz1, hi0, j_nI (by omega)])
  rw [hs]
  refine lpx (F := fun n s => fX1_activeInstead_4 σ b n g fr s) (Q := fun r => r = some (oI (v_ai (pv σ b) g.toInt fr.toInt))) (fun i s => s = nI i ∧ i0 ≤ i ∧ ∀ k : Nat, fr.toInt < k → k < i → v_ok (pv σ b) g.toInt k = false) (max 12 i0) ?_ ?_ (max 12 i0 - i0) i0 FU (nI i0) (by omega) (by show _ < 6000; omega) ⟨rfl, Nat.le_refl _, fun k hk hk2 => absurd hk (by omega)⟩
  · rintro n i _ hi ⟨rfl, hge, hv⟩
    have hi12 : i < 12 := by omega
    show fX1_activeInstead_4 σ b (n + 1) g fr (nI i) = _ ∨ _
    have hr := v_ta_rg (pv σ b) g.toInt i
    by_cases e : v_ok (pv σ b) g.toInt i = true
    · left
      have e2 := e
      unfold v_ok at e2
      simp only [Bool.and_eq_true, decide_eq_true_eq, Bool.not_eq_true'] at e2
      rw [fX1_activeInstead_4, if_neg (n_ge 12 (m := 12) rfl hi12 (by decide)), s_tabAt, j_b, j_nI (by omega), if_neg (by rw [j_eq, t_ta, jm1]; exact e2.1), s_isHidden, j_b, t_ta, e2.2, if_neg (by decide)]
      have hf : fnd (fun k => decide (fr.toInt < k) && v_ok (pv σ b) g.toInt k) 12 = i := fnd_at hi12 (by simp [e]; omega) (fun k hk => by
        by_cases q : fr.toInt < k
        · simp [hv k q hk]
        · simp [q])
      unfold v_ai
      rw [hf, if_neg (by omega)]
    · right
      have e' : v_ok (pv σ b) g.toInt i = false := by simpa using e
      refine ⟨nI (i + 1), ⟨rfl, by omega, fun k hk hk2 => ?_⟩, ?_⟩
      · by_cases q : k = i
        · rw [q]; exact e'
        · exact hv k hk (by omega)
      · show fX1_activeInstead_4 σ b (n + 1) g fr (nI i) = fX1_activeInstead_4 σ b n g fr (nI (i + 1))
        rw [fX1_activeInstead_4, if_neg (n_ge 12 (m := 12) rfl hi12 (by decide)), s_tabAt, j_b, j_nI (by omega)]
        unfold fX1_activeInstead_36
        by_cases e2 : v_ta (pv σ b) g.toInt i = -1
        · rw [if_pos (by rw [j_eq, t_ta, jm1]; exact e2), j_s]
        · rw [if_neg (by rw [j_eq, t_ta, jm1]; exact e2), s_isHidden, j_b, t_ta]
          have : v_hd (pv σ b) (v_ta (pv σ b) g.toInt i) = true := by
            unfold v_ok at e'
            simpa [e2] using e'
          rw [this, if_pos rfl, j_s]
  · rintro n _ ⟨rfl, hge, hv⟩
    show fX1_activeInstead_4 σ b (n + 1) g fr (nI (max 12 i0)) = _
    rw [fX1_activeInstead_4, if_pos (by rw [j_le_nI (by omega)]; show (12 : Int) ≤ _; omega), j_nm]
    have hf : fnd (fun k => decide (fr.toInt < k) && v_ok (pv σ b) g.toInt k) 12 = -1 := fnd_no (fun k hk => by
      by_cases q : fr.toInt < k
      · simp [hv k q (by omega)]
      · simp [q])
    unfold v_ai
    rw [hf, if_pos rfl]
    by_cases q : fr.toInt = -1
    · rw [show FU = 5999 + 1 from rfl, fX1_activeInstead_46, if_pos (by rw [j_lt, j_sub (by rw [jz1]; omega) (by rw [jz1]; omega), jz1, jz0]; omega), q]
      rfl
    · exact s_ai46 g fr.toInt.toNat FU (fr - 1) (by rw [j_sub (by rw [jz1]; omega) (by rw [jz1]; omega), jz1]; omega) (by omega) (by show _ < 6000; omega)
theorem s_wo37 (l : Int32) : fX1_windowOf_37 σ b l = some (oI (if l.toInt = -1 then -1 else fnd (fun w => decide (pv σ b 5 w = l.toInt)) 5)) := by
  unfold fX1_windowOf_37
  by_cases e : l = -1
  · subst e
    rw [jm1, if_pos rfl, show FU = 5999 + 1 from rfl, fX1_windowOf_39, if_neg (by decide), if_pos rfl]
    rfl
  · have e' : ¬ l.toInt = -1 := fun q => e (j_eq.mpr q)
    rw [if_neg e']
    refine lp_fnd (F := fun n i => fX1_windowOf_39 σ b n l i) 5 (by decide) ?_ ?_ FU (by decide)
    · intro n i hi
      show fX1_windowOf_39 σ b (n + 1) l (nI i) = _
      rw [fX1_windowOf_39, if_neg (n_ge 5 (m := 5) rfl hi (by decide)), if_neg e, s_atn (by decide) hi, j_b, j_s]
      by_cases q : σ.1 (b + 5) i = l
      · rw [if_pos q, if_pos (by rw [decide_eq_true_eq, pv_5 hi, q])]
      · rw [if_neg q, if_neg (by rw [decide_eq_true_eq, pv_5 hi, ← j_eq]; exact q)]
    · intro n
      show fX1_windowOf_39 σ b (n + 1) l (nI 5) = _
      rw [fX1_windowOf_39, if_pos (n_le 5 (m := 5) rfl (by decide))]
theorem s_wo4 : ∀ (k i fuel : Nat) (l : Int32), i + k = 23 → k < fuel → fX1_windowOf_4 σ b fuel l (nI i) = some (oI (if v_top (pv σ b) k l.toInt = -1 then -1 else fnd (fun w => decide (pv σ b 5 w = v_top (pv σ b) k l.toInt)) 5))
  | _, _, 0, _, _, hf => absurd hf (by omega)
  | 0, i, f + 1, l, hk, _ => by
    rw [fX1_windowOf_4, if_pos (by rw [j_le_nI (by omega)]; show (23 : Int) ≤ _; omega), s_wo37]
    rfl
  | k + 1, i, f + 1, l, hk, hf => by
    rw [fX1_windowOf_4, if_neg (n_ge 23 (m := 23) rfl (by omega) (by decide)), s_v9, j_b, v_top]
    by_cases e : ga (pv σ b 9) 23 l.toInt = -1
    · rw [if_pos (by rw [j_eq, t_ga, jm1]; exact e), s_wo37, if_pos e]
    · rw [if_neg (by rw [j_eq, t_ga, jm1]; exact e), j_b, j_s, s_wo4 k (i + 1) f _ (by omega) (by omega), if_neg e, t_ga]
theorem s_windowOf (l : Int32) : fX1_windowOf σ b l = some (oI (v_wo (pv σ b) l.toInt)) := by
  unfold fX1_windowOf
  exact s_wo4 23 0 FU l rfl (by decide)
theorem s_panesIn (w : Int32) : fX1_panesIn σ b w = some (oI (v_pi (pv σ b) w.toInt)) := by
  unfold fX1_panesIn v_pi
  rw [← j_nIo _ (by have := cnt_le (fun p => decide (pv σ b 13 p ≠ -1) && decide (v_wo (pv σ b) (pv σ b 13 p) = w.toInt)) 12; omega)]
  refine lp_cnt (F := fun n a l => fX1_panesIn_4 σ b n w a l) 12 ?_ ?_ FU (by decide)
  · intro n a i hi
    show fX1_panesIn_4 σ b (n + 1) w a (nI i) = _
    rw [fX1_panesIn_4, if_neg (n_ge 12 (m := 12) rfl hi (by decide)), s_groupOf, j_b, j_nI (by omega), ga_in hi]
    have t13 : (oI (pv σ b 13 i)).toInt = pv σ b 13 i := j_oI (pv_rg _ _ _ _).1 (pv_rg _ _ _ _).2
    unfold fX1_panesIn_37 fX1_panesIn_38
    by_cases q : pv σ b 13 i = -1
    · rw [if_pos (by rw [j_eq, t13, jm1]; exact q), if_neg (by simp [q]), j_nm, j_s]
    · rw [if_neg (by rw [j_eq, t13, jm1]; exact q), j_b, s_windowOf, j_b, t13]
      by_cases q2 : v_wo (pv σ b) (pv σ b 13 i) = w.toInt
      · rw [if_pos (by rw [j_eq, t_wo]; exact q2), if_pos (by simp [q, q2]), j_nm, j_s]
      · rw [if_neg (by rw [j_eq, t_wo]; exact q2), if_neg (by simp [q2]), j_nm, j_s]
  · intro n a
    show fX1_panesIn_4 σ b (n + 1) w a (nI 12) = _
    rw [fX1_panesIn_4, if_pos (n_le 12 (m := 12) rfl (by decide))]
theorem s_windowExists (w : Int32) : fX1_windowExists σ b w = some (v_we (pv σ b) w.toInt) := by
  unfold fX1_windowExists v_we
  by_cases h : w = 0
  · rw [if_pos h, h]
    rfl
  · have h' : ¬ w.toInt = 0 := fun q => h (j_eq.mpr q)
    rw [if_neg h, s_rootOf, j_b]
    by_cases e : ga (pv σ b 5) 5 w.toInt = -1
    · rw [if_pos (by rw [j_eq, t_ga, jm1]; exact e)]
      simp [h', e]
    · rw [if_neg (by rw [j_eq, t_ga, jm1]; exact e)]
      simp [h', e]
theorem s_lowestFreeWindow : fX1_lowestFreeWindow σ b = some (oI (v_lw (pv σ b))) := by
  unfold fX1_lowestFreeWindow v_lw
  refine lpx (F := fun n s => fX1_lowestFreeWindow_2 σ b n s) (Q := fun r => r = some (oI (fnd (fun w => decide (1 ≤ w) && decide (pv σ b 5 w = -1)) 5))) (fun i s => s = nI i ∧ 1 ≤ i ∧ ∀ k, k < i → (decide (1 ≤ k) && decide (pv σ b 5 k = -1)) = false) 5 ?_ ?_ 4 1 FU 1 rfl (by decide) ⟨rfl, Nat.le_refl _, fun k hk => by simp [show ¬ 1 ≤ k by omega]⟩
  · rintro n i _ hi ⟨rfl, hge, hv⟩
    show fX1_lowestFreeWindow_2 σ b (n + 1) (nI i) = _ ∨ _
    rw [fX1_lowestFreeWindow_2, if_neg (n_ge 5 (m := 5) rfl hi (by decide)), s_rootOf, j_b, j_nI (by omega), ga_in hi]
    have t5 : (oI (pv σ b 5 i)).toInt = pv σ b 5 i := j_oI (pv_rg _ _ _ _).1 (pv_rg _ _ _ _).2
    by_cases q : pv σ b 5 i = -1
    · left
      rw [if_pos (by rw [j_eq, t5, jm1]; exact q), fnd_at hi (by simp [q, hge]) hv, j_nIo _ (by omega)]
    · right
      rw [if_neg (by rw [j_eq, t5, jm1]; exact q)]
      refine ⟨nI (i + 1), ⟨rfl, by omega, fun k hk => ?_⟩, by rw [j_s]⟩
      by_cases e : k = i
      · simp [e, q]
      · exact hv k (by omega)
  · rintro n _ ⟨rfl, hge, hv⟩
    show fX1_lowestFreeWindow_2 σ b (n + 1) (nI 5) = _
    rw [fX1_lowestFreeWindow_2, if_pos (n_le 5 (m := 5) rfl (by decide)), fnd_no hv]
    rfl
theorem s_shownCount (s : Int32) : fX1_shownCount σ b s = some (oI (v_sc (pv σ b) s.toInt)) := by
  unfold fX1_shownCount v_sc
  rw [← j_nIo _ (by have := cnt_le (fun p => decide (pv σ b 13 p = s.toInt) && !v_hd (pv σ b) p) 12; omega)]
  refine lp_cnt (F := fun n a l => fX1_shownCount_4 σ b n s a l) 12 ?_ ?_ FU (by decide)
  · intro n a i hi
    show fX1_shownCount_4 σ b (n + 1) s a (nI i) = _
    rw [fX1_shownCount_4, if_neg (n_ge 12 (m := 12) rfl hi (by decide)), s_atn (by decide) hi, j_b]
    unfold fX1_shownCount_35 fX1_shownCount_36
    by_cases q : σ.1 (b + 13) i = s
    · rw [if_pos q, s_isHidden, j_b, j_nI (by omega)]
      have q' : pv σ b 13 i = s.toInt := by rw [pv_13 hi, q]
      cases hh : v_hd (pv σ b) i
      · rw [if_neg (by decide), if_pos (by simp [q']), j_nm, j_s]
      · rw [if_pos rfl, if_neg (by simp), j_nm, j_s]
    · have q' : ¬ pv σ b 13 i = s.toInt := by rw [pv_13 hi, ← j_eq]; exact q
      rw [if_neg q, if_neg (by simp [q']), j_nm, j_s]
  · intro n a
    show fX1_shownCount_4 σ b (n + 1) s a (nI 12) = _
    rw [fX1_shownCount_4, if_pos (n_le 12 (m := 12) rfl (by decide))]
theorem s_shownTabAt (g k : Int32) : fX1_shownTabAt σ b g k = some (oI (v_sta (pv σ b) g.toInt k.toInt)) := by
  unfold fX1_shownTabAt
  refine lpx (F := fun n (s : Int32 × Int32) => fX1_shownTabAt_5 σ b n g k s.1 s.2) (Q := fun r => r = some (oI (v_sta (pv σ b) g.toInt k.toInt))) (fun i s => s = (nI (cnt (v_ok (pv σ b) g.toInt) i), nI i) ∧ ∀ m, m < i → (v_ok (pv σ b) g.toInt m && decide ((cnt (v_ok (pv σ b) g.toInt) m : Int) = k.toInt)) = false) 12 ?_ ?_ 12 0 FU (0, 0) rfl (by decide) ⟨rfl, fun m hm => absurd hm (by omega)⟩
  · rintro n i _ hi ⟨rfl, hv⟩
    have hc := cnt_le (v_ok (pv σ b) g.toInt) i
    have hr := v_ta_rg (pv σ b) g.toInt i
    show fX1_shownTabAt_5 σ b (n + 1) g k (nI (cnt (v_ok (pv σ b) g.toInt) i)) (nI i) = _ ∨ _
    rw [fX1_shownTabAt_5, if_neg (n_ge 12 (m := 12) rfl hi (by decide)), s_tabAt, j_b, j_nI (n := i) (by omega)]
    unfold fX1_shownTabAt_47
    by_cases e : v_ok (pv σ b) g.toInt i = true
    · have e2 := e
      unfold v_ok at e2
      simp only [Bool.and_eq_true, decide_eq_true_eq, Bool.not_eq_true'] at e2
      rw [if_neg (by rw [j_eq, t_ta, jm1]; exact e2.1), s_isHidden, j_b, t_ta, e2.2, if_neg (by decide)]
      by_cases q : (cnt (v_ok (pv σ b) g.toInt) i : Int) = k.toInt
      · left
        rw [if_pos (by rw [j_eq, j_nI (by omega)]; exact q)]
        unfold v_sta
        rw [fnd_at hi (by simp [e, q]) hv, if_neg (by omega)]
      · right
        rw [if_neg (by rw [j_eq, j_nI (by omega)]; exact q)]
        refine ⟨_, ⟨rfl, fun m hm => ?_⟩, ?_⟩
        · by_cases w : m = i
          · simp [w, q]
          · exact hv m (by omega)
        · show fX1_shownTabAt_5 σ b n g k (nI (cnt (v_ok (pv σ b) g.toInt) i) + 1) (nI i + 1) = fX1_shownTabAt_5 σ b n g k (nI (cnt (v_ok (pv σ b) g.toInt) i + _)) (nI (i + 1))
          rw [j_s, j_s, if_pos e]
    · right
      have e' : v_ok (pv σ b) g.toInt i = false := by simpa using e
      refine ⟨_, ⟨rfl, fun m hm => ?_⟩, ?_⟩
      · by_cases w : m = i
        · simp [w, e']
        · exact hv m (by omega)
      · show _ = fX1_shownTabAt_5 σ b n g k (nI (cnt (v_ok (pv σ b) g.toInt) i + _)) (nI (i + 1))
        rw [if_neg e, Nat.add_zero]
        by_cases e2 : v_ta (pv σ b) g.toInt i = -1
        · rw [if_pos (by rw [j_eq, t_ta, jm1]; exact e2), j_s]
        · rw [if_neg (by rw [j_eq, t_ta, jm1]; exact e2), s_isHidden, j_b, t_ta]
          have : v_hd (pv σ b) (v_ta (pv σ b) g.toInt i) = true := by
            unfold v_ok at e'
            simpa [e2] using e'
          rw [this, if_pos rfl, j_s]
  · rintro n _ ⟨rfl, hv⟩
    show fX1_shownTabAt_5 σ b (n + 1) g k _ (nI 12) = _
    rw [fX1_shownTabAt_5, if_pos (n_le 12 (m := 12) rfl (by decide))]
    unfold v_sta
    rw [fnd_no hv, if_pos rfl]
    rfl
theorem s_windowContains (w x y : Int32) : ∃ r, fX1_windowContains σ b w x y = some r := by
  unfold fX1_windowContains
  rw [s_v1, j_b, s_v2, j_b, s_v3, j_b, s_v4, j_b]
  split
  · exact ⟨_, rfl⟩
  · split
    · exact ⟨_, rfl⟩
    · split
      · exact ⟨_, rfl⟩
      · split <;> exact ⟨_, rfl⟩
end RD2
end
section
/-! THE RELATION: a placement of the class, what it does -/
def up (V : VW) (j : Nat) (p x : Int) : VW := fun j' i => if j' = j ∧ (i : Int) = p ∧ inr j i = true then x else V j' i
theorem up_ne {V : VW} {j j' : Nat} {p x : Int} (h : j' ≠ j) : up V j p x j' = V j' := by
  funext i
  exact if_neg (fun q => h q.1)
theorem up_m1 {V : VW} {j : Nat} {x : Int} : up V j (-1) x = V := by
  funext j' i
  exact if_neg (fun q => by omega)
theorem up_at {V : VW} {j p : Nat} {x : Int} (i : Nat) (h : inr j p = true) : up V j p x j i = if i = p then x else V j i := by
  unfold up
  by_cases q : i = p
  · subst q
    rw [if_pos ⟨rfl, rfl, h⟩, if_pos rfl]
  · rw [if_neg (fun w => q (by omega)), if_neg q]
def wr (x : Int) : Int := (oI x).toInt
theorem wr_id {x : Int} (h0 : -2147483648 ≤ x) (h1 : x < 2147483648) : wr x = x := j_oI h0 h1
theorem wr_add (a b : Int32) : (a + b).toInt = wr (a.toInt + b.toInt) := by
  show _ = (Int32.ofInt (a.toInt + b.toInt)).toInt
  rw [Int32.ofInt_add, Int32.ofInt_toInt, Int32.ofInt_toInt]
theorem wr_sub (a b : Int32) : (a - b).toInt = wr (a.toInt - b.toInt) := by
  show _ = (Int32.ofInt (a.toInt - b.toInt)).toInt
  rw [Int32.ofInt_sub, Int32.ofInt_toInt, Int32.ofInt_toInt]
/-- what put leaves -/
def pt (σ : Sg) (c n : Nat) (p v : Int32) : Sg := if 0 ≤ p.toInt ∧ p.toInt < n then su σ c p.toInt.toNat v else σ
theorem s_pt {σ : Sg} {c n : Nat} (hn : n < 2147483648) (p v : Int32) : fX8_put σ c n p v = some (pt σ c n p v) := s_put hn p v
theorem pt_out {σ : Sg} {c n : Nat} {p v : Int32} : Out σ (pt σ c n p v) c c := by
  unfold pt
  split
  · exact su_out
  · exact Out.rf
theorem pv_def (σ : Sg) (b j i : Nat) : pv σ b j i = if inr j i = true then (σ.1 (b + j) i).toInt else 0 := rfl
theorem up_def (V : VW) (j : Nat) (p x : Int) (j' i : Nat) : up V j p x j' i = if j' = j ∧ (i : Int) = p ∧ inr j i = true then x else V j' i := rfl
theorem pv_su {σ : Sg} {b j i : Nat} {v : Int32} {j' i' : Nat} (h : ¬ (j' = j ∧ i' = i)) : pv (su σ (b + j) i v) b j' i' = pv σ b j' i' := by
  rw [pv_def, pv_def, su_at, if_neg (c := b + j' = b + j ∧ i' = i) (fun z => h ⟨by omega, z.2⟩)]
theorem pv_pt {σ : Sg} {b j n : Nat} {p v : Int32} (h : ∀ i, inr j i = decide (i < n)) : pv (pt σ (b + j) n p v) b = up (pv σ b) j p.toInt v.toInt := by
  funext j' i
  rw [up_def]
  unfold pt
  by_cases q : 0 ≤ p.toInt ∧ p.toInt < n
  · rw [if_pos q]
    by_cases e : j' = j ∧ (i : Int) = p.toInt ∧ inr j i = true
    · obtain ⟨rfl, e1, e2⟩ := e
      rw [pv_def, if_pos e2, if_pos ⟨rfl, e1, e2⟩, su_at, if_pos ⟨rfl, by omega⟩]
    · rw [if_neg e]
      by_cases w : inr j' i = true
      · refine pv_su (fun z => ?_)
        obtain ⟨rfl, h2⟩ := z
        exact e ⟨rfl, by omega, w⟩
      · rw [pv_def, pv_def, if_neg w, if_neg w]
  · rw [if_neg q, if_neg]
    rintro ⟨_, h1, h2⟩
    rw [h, decide_eq_true_eq] at h2
    exact q (by omega)
theorem p_v1 {σ : Sg} {b : Nat} {p v : Int32} : pv (pt σ (b + 1) 5 p v) b = up (pv σ b) 1 p.toInt v.toInt := pv_pt inr_1
theorem p_v2 {σ : Sg} {b : Nat} {p v : Int32} : pv (pt σ (b + 2) 5 p v) b = up (pv σ b) 2 p.toInt v.toInt := pv_pt inr_2
theorem p_v3 {σ : Sg} {b : Nat} {p v : Int32} : pv (pt σ (b + 3) 5 p v) b = up (pv σ b) 3 p.toInt v.toInt := pv_pt inr_3
theorem p_v4 {σ : Sg} {b : Nat} {p v : Int32} : pv (pt σ (b + 4) 5 p v) b = up (pv σ b) 4 p.toInt v.toInt := pv_pt inr_4
theorem p_v5 {σ : Sg} {b : Nat} {p v : Int32} : pv (pt σ (b + 5) 5 p v) b = up (pv σ b) 5 p.toInt v.toInt := pv_pt inr_5
theorem p_v8 {σ : Sg} {b : Nat} {p v : Int32} : pv (pt σ (b + 8) 23 p v) b = up (pv σ b) 8 p.toInt v.toInt := pv_pt inr_8
theorem p_v9 {σ : Sg} {b : Nat} {p v : Int32} : pv (pt σ (b + 9) 23 p v) b = up (pv σ b) 9 p.toInt v.toInt := pv_pt inr_9
theorem p_v10 {σ : Sg} {b : Nat} {p v : Int32} : pv (pt σ (b + 10) 23 p v) b = up (pv σ b) 10 p.toInt v.toInt := pv_pt inr_10
theorem p_v11 {σ : Sg} {b : Nat} {p v : Int32} : pv (pt σ (b + 11) 23 p v) b = up (pv σ b) 11 p.toInt v.toInt := pv_pt inr_11
theorem p_v12 {σ : Sg} {b : Nat} {p v : Int32} : pv (pt σ (b + 12) 23 p v) b = up (pv σ b) 12 p.toInt v.toInt := pv_pt inr_12
theorem p_v13 {σ : Sg} {b : Nat} {p v : Int32} : pv (pt σ (b + 13) 12 p v) b = up (pv σ b) 13 p.toInt v.toInt := pv_pt inr_13
theorem p_v14 {σ : Sg} {b : Nat} {p v : Int32} : pv (pt σ (b + 14) 12 p v) b = up (pv σ b) 14 p.toInt v.toInt := pv_pt inr_14
theorem p_v15 {σ : Sg} {b : Nat} {p v : Int32} : pv (pt σ (b + 15) 12 p v) b = up (pv σ b) 15 p.toInt v.toInt := pv_pt inr_15
theorem pt_o {σ : Sg} {b j n : Nat} {p v : Int32} (h : 1 ≤ j ∧ j ≤ 15) : Out σ (pt σ (b + j) n p v) (b + 1) (b + 15) := pt_out.mo (by omega) (by omega)
/-- it does V' to the placement at b, and nothing else -/
def Do (F : Option Sg) (σ : Sg) (b : Nat) (V' : VW) : Prop := ∃ σ', F = some σ' ∧ Out σ σ' (b + 1) (b + 15) ∧ pv σ' b = V'
def v_shift (V : VW) (s k d : Int) : VW := fun j i => if j = 10 ∧ i < 23 ∧ s ≠ -1 ∧ V 9 i = s ∧ k ≤ V 10 i then wr (V 10 i + d) else V j i
def v_detach (V : VW) (n : Int) : VW := v_shift (up V 9 n (-1)) (ga (V 9) 23 n) (ga (V 10) 23 n) (-1)
def v_free (V : VW) (n : Int) : VW := up V 8 n 3
def v_repl (V : VW) (old fresh : Int) : VW := if ga (V 9) 23 old = -1 then up V 5 (v_wo V old) fresh else up (up (up (up V 9 old (-1)) 9 fresh (ga (V 9) 23 old)) 10 fresh (ga (V 10) 23 old)) 11 fresh (ga (V 11) 23 old)
def v_attach (V : VW) (n s k w : Int) : VW := if n = -1 then V else if s = -1 then V else up (up (up (v_shift V s k 1) 9 n s) 10 n k) 11 n w
def v_hide (V : VW) (p : Int) : VW := if ga (V 12) 23 (ga (V 13) 12 p) = p then up (up V 15 p 1) 12 (ga (V 13) 12 p) (v_ai (up V 15 p 1) (ga (V 13) 12 p) (ga (V 14) 12 p)) else up V 15 p 1
def v_reveal (V : VW) (p : Int) : VW := if ga (V 12) 23 (ga (V 13) 12 p) = -1 then up (up V 15 p 0) 12 (ga (V 13) 12 p) p else up V 15 p 0
def v_step (old k t : Int) : Int := if old < t ∧ t ≤ k then -1 else if t < old ∧ k ≤ t then 1 else 0
def v_move (V : VW) (p k : Int) : VW := up (fun j i => if j = 14 ∧ i < 12 ∧ V 13 i = ga (V 13) 12 p then wr (V 14 i + v_step (ga (V 14) 12 p) k (V 14 i)) else V j i) 14 p k
def v_join (V : VW) (p g : Int) : VW := up (up (up V 14 p (v_tc V g)) 13 p g) 12 g p
def odp (V : VW) : OD := (V 6 1, V 7)
def v_od (V : VW) (o : OD) : VW := fun j i => if j = 6 then (if i = 1 then o.1 else V 6 i) else if j = 7 then o.2 i else V j i
def v_fin (V : VW) (g s : Int) : VW := if v_cc (v_free (v_detach V g) g) s = 1 then v_free (v_repl (v_detach (v_free (v_detach V g) g) (v_ca (v_free (v_detach V g) g) s 0)) s (v_ca (v_free (v_detach V g) g) s 0)) s else v_free (v_detach V g) g
def v_remg (V : VW) (g : Int) : VW := if ga (V 9) 23 g = -1 then v_fin (v_od (up V 5 (v_wo V g) (-1)) (o_lv (odp V) (v_wo V g))) g (-1) else v_fin V g (ga (V 9) 23 g)
def v_out (V : VW) (p : Int) : VW := up (up (up (v_move (v_hide V p) p (wr (v_tc (v_hide V p) (ga (V 13) 12 p) - 1))) 13 p (-1)) 14 p (-1)) 15 p 0
def v_withdraw (V : VW) (p : Int) : VW := if ga (V 13) 12 p = -1 then V else if v_tc (v_out V p) (ga (V 13) 12 p) = 0 then v_remg (v_out V p) (ga (V 13) 12 p) else v_out V p
def v_dir (side : Int) : Int := if side = 0 ∨ side = 1 then 0 else 1
def v_beh (side : Int) : Int := if side = 1 ∨ side = 3 then 1 else 0
def v_bes1 (V : VW) (t side : Int) (f : Int) (V1 : VW) : VW := v_attach (up V1 11 t (max 1 (wr (ga (V 11) 23 t - wr (Int.tdiv (ga (V 11) 23 t) 2))))) f (ga (V 9) 23 t) (wr (ga (V 10) 23 t + v_beh side)) (max 1 (wr (Int.tdiv (ga (V 11) 23 t) 2)))
def v_bes2 (t side : Int) (f : Int) (V1 : VW) : VW := v_attach (v_attach (v_repl (up V1 8 (v_mn V1) (v_dir side)) t (v_mn V1)) t (v_mn V1) 0 1000) f (v_mn V1) (v_beh side) 1000
def v_bes (V : VW) (t side : Int) : VW := if ga (V 9) 23 t = -1 then v_bes2 t side (v_mn V) (up V 8 (v_mn V) 2) else if ga (up V 8 (v_mn V) 2 8) 23 (ga (V 9) 23 t) = v_dir side then v_bes1 V t side (v_mn V) (up V 8 (v_mn V) 2) else v_bes2 t side (v_mn V) (up V 8 (v_mn V) 2)
section WR
variable {σ : Sg} {b : Nat}
theorem s_shift (s k d : Int32) : Do (fX1_shiftChildren σ b s k d) σ b (v_shift (pv σ b) s.toInt k.toInt d.toInt) := by
  unfold Do fX1_shiftChildren
  by_cases e : s = -1
  · subst e
    rw [show FU = 5999 + 1 from rfl, fX1_shiftChildren_3, if_neg (by decide), if_pos rfl]
    exact ⟨σ, rfl, Out.rf, by funext j i; unfold v_shift; rw [jm1, if_neg (by simp)]⟩
  · have e' : ¬ s.toInt = -1 := fun q => e (j_eq.mpr q)
    refine lp (F := fun n (w : Sg × Int32) => fX1_shiftChildren_3 b n w.1 s k d w.2) (Q := fun r => ∃ σ', r = some σ' ∧ Out σ σ' (b + 1) (b + 15) ∧ pv σ' b = v_shift (pv σ b) s.toInt k.toInt d.toInt) (fun i w => w.2 = nI i ∧ Out σ w.1 (b + 1) (b + 15) ∧ pv w.1 b = fun j m => if m < i then v_shift (pv σ b) s.toInt k.toInt d.toInt j m else pv σ b j m) 23 ?_ ?_ 23 0 FU (σ, 0) rfl (by decide) ⟨rfl, Out.rf, by funext j m; rw [if_neg (by omega)]⟩
    · rintro n i ⟨w, l⟩ hi ⟨rfl, ho, hv⟩
      simp only at ho hv
      have h9 : pv w b 9 i = pv σ b 9 i := by rw [hv]; simp only [Nat.lt_irrefl, if_false]
      have h10 : pv w b 10 i = pv σ b 10 i := by rw [hv]; simp only [Nat.lt_irrefl, if_false]
      have ext : ∀ W : VW, (W 10 i = v_shift (pv σ b) s.toInt k.toInt d.toInt 10 i) → (∀ j m, ¬ (j = 10 ∧ m = i) → W j m = pv w b j m) → W = fun j m => if m < i + 1 then v_shift (pv σ b) s.toInt k.toInt d.toInt j m else pv σ b j m := by
        intro W h1 h2
        funext j m
        by_cases q : j = 10 ∧ m = i
        · obtain ⟨rfl, rfl⟩ := q
          rw [h1, if_pos (by omega)]
        · rw [h2 j m q, hv]
          show (if m < i then _ else _) = _
          by_cases q2 : m < i
          · rw [if_pos q2, if_pos (by omega)]
          · rw [if_neg q2]
            by_cases q3 : m = i
            · subst q3
              rw [if_pos (by omega), v_shift, if_neg (fun z => q ⟨z.1, rfl⟩)]
            · rw [if_neg (by omega)]
      by_cases q : pv σ b 9 i = s.toInt ∧ k.toInt ≤ pv σ b 10 i
      · refine ⟨(su w (b + 10) i (w.1 (b + 10) i + d), nI (i + 1)), ⟨rfl, ho.tr (su_out.mo (by omega) (by omega)), ext _ ?_ ?_⟩, ?_⟩
        · show pv (su w (b + 10) i (w.1 (b + 10) i + d)) b 10 i = _
          rw [pv_10 hi, su_at, if_pos ⟨rfl, rfl⟩, wr_add, ← pv_10 hi, h10, v_shift, if_pos ⟨rfl, hi, e', q⟩]
        · intro j m hjm
          exact pv_su hjm
        · show fX1_shiftChildren_3 b (n + 1) w s k d (nI i) = fX1_shiftChildren_3 b n _ s k d (nI (i + 1))
          rw [fX1_shiftChildren_3, if_neg (n_ge 23 (m := 23) rfl hi (by decide)), if_neg e, s_atn (by decide) hi, j_b, if_pos (by rw [j_eq, ← pv_9 hi, h9]; exact q.1), s_atn (by decide) hi, j_b, if_neg (by rw [j_lt, ← pv_10 hi, h10]; omega), j_b, s_putn (by decide) hi, j_b]
          unfold fX1_shiftChildren_61
          rw [j_s]
      · refine ⟨(w, nI (i + 1)), ⟨rfl, ho, ext _ ?_ (fun _ _ _ => rfl)⟩, ?_⟩
        · rw [h10, v_shift, if_neg (fun z => q z.2.2.2)]
        · show fX1_shiftChildren_3 b (n + 1) w s k d (nI i) = fX1_shiftChildren_3 b n w s k d (nI (i + 1))
          rw [fX1_shiftChildren_3, if_neg (n_ge 23 (m := 23) rfl hi (by decide)), if_neg e, s_atn (by decide) hi, j_b]
          unfold fX1_shiftChildren_61
          by_cases q2 : pv σ b 9 i = s.toInt
          · rw [if_pos (by rw [j_eq, ← pv_9 hi, h9]; exact q2), s_atn (by decide) hi, j_b, if_pos (by rw [j_lt, ← pv_10 hi, h10]; omega), j_s]
          · rw [if_neg (by rw [j_eq, ← pv_9 hi, h9]; exact q2), j_s]
    · rintro n ⟨w, l⟩ ⟨rfl, ho, hv⟩
      show ∃ σ', fX1_shiftChildren_3 b (n + 1) w s k d (nI 23) = some σ' ∧ _
      rw [fX1_shiftChildren_3, if_pos (n_le 23 (m := 23) rfl (by decide))]
      refine ⟨w, rfl, ho, ?_⟩
      simp only at hv
      rw [hv]
      funext j m
      by_cases q : m < 23
      · rw [if_pos q]
      · rw [if_neg q, v_shift, if_neg (fun z => q z.2.1)]
theorem s_free (n : Int32) : Do (fX1_freeNode σ b n) σ b (v_free (pv σ b) n.toInt) := by
  unfold Do fX1_freeNode v_free
  rw [s_pt (by decide), j_b]
  exact ⟨_, rfl, pt_o (by omega), by rw [p_v8]; rfl⟩
theorem s_detach (n : Int32) : Do (fX1_detach σ b n) σ b (v_detach (pv σ b) n.toInt) := by
  unfold Do fX1_detach v_detach
  rw [s_v9, j_b, s_pt (by decide), j_b, s_v10, j_b]
  obtain ⟨σ', h1, h2, h3⟩ := s_shift (σ := pt σ (b + 9) 23 n (-1)) (b := b) (oI (ga (pv σ b 9) 23 n.toInt)) (oI (ga (pv (pt σ (b + 9) 23 n (-1)) b 10) 23 n.toInt)) (-1)
  rw [h1, j_b]
  refine ⟨σ', rfl, (pt_o (by omega)).tr h2, ?_⟩
  rw [h3, p_v9, t_ga, jm1]
  congr 1
  rw [← jm1, ← p_v9, t_ga, p_v9, up_ne (by decide)]
theorem s_replace (o f : Int32) : Do (fX1_replace σ b o f) σ b (v_repl (pv σ b) o.toInt f.toInt) := by
  unfold Do fX1_replace v_repl
  rw [s_v9, j_b]
  by_cases e : ga (pv σ b 9) 23 o.toInt = -1
  · rw [if_pos (by rw [j_eq, t_ga, jm1]; exact e), if_pos e, s_windowOf, j_b, s_pt (by decide), j_b]
    exact ⟨_, rfl, pt_o (by omega), by rw [p_v5, t_wo]⟩
  · rw [if_neg (by rw [j_eq, t_ga, jm1]; exact e), if_neg e, s_pt (by decide), j_b, s_pt (by decide), j_b, s_v10, j_b, s_pt (by decide), j_b, s_v11, j_b, s_pt (by decide), j_b]
    refine ⟨_, rfl, (((pt_o (by omega)).tr (pt_o (by omega))).tr (pt_o (by omega))).tr (pt_o (by omega)), ?_⟩
    simp [-Int32.toInt_ofInt, p_v9, p_v10, p_v11, up_ne, t_ga, jm1]
theorem s_attach (n s k w : Int32) : Do (fX1_attach σ b n s k w) σ b (v_attach (pv σ b) n.toInt s.toInt k.toInt w.toInt) := by
  unfold Do fX1_attach v_attach
  by_cases e : n = -1
  · rw [if_pos e, if_pos (by rw [e]; rfl)]
    exact ⟨σ, rfl, Out.rf, rfl⟩
  · have e' : ¬ n.toInt = -1 := fun q => e (j_eq.mpr q)
    rw [if_neg e, if_neg e']
    by_cases e2 : s = -1
    · rw [if_pos e2, if_pos (by rw [e2]; rfl)]
      exact ⟨σ, rfl, Out.rf, rfl⟩
    · have e2' : ¬ s.toInt = -1 := fun q => e2 (j_eq.mpr q)
      rw [if_neg e2, if_neg e2']
      obtain ⟨σ', h1, h2, h3⟩ := s_shift (σ := σ) (b := b) s k 1
      rw [h1, j_b, s_pt (by decide), j_b, s_pt (by decide), j_b, s_pt (by decide), j_b]
      refine ⟨_, rfl, ((h2.tr (pt_o (by omega))).tr (pt_o (by omega))).tr (pt_o (by omega)), ?_⟩
      rw [p_v11, p_v10, p_v9, h3, jz1]
theorem s_hide (p : Int32) (h0 : -1 ≤ ga (pv σ b 14) 12 p.toInt) (h1 : ga (pv σ b 14) 12 p.toInt ≤ 12) : Do (fX1_hide σ b p) σ b (v_hide (pv σ b) p.toInt) := by
  unfold Do fX1_hide v_hide
  rw [s_groupOf, j_b, s_pt (by decide), j_b, s_v12, j_b, p_v15, t_ga, up_ne (j := 15) (j' := 12) (by decide)]
  have h14 : ga (pv (pt σ (b + 15) 12 p 1) b 14) 12 p.toInt = ga (pv σ b 14) 12 p.toInt := by rw [p_v15, up_ne (by decide)]
  by_cases e : ga (pv σ b 12) 23 (ga (pv σ b 13) 12 p.toInt) = p.toInt
  · rw [if_pos (by rw [j_eq, t_ga]; exact e), if_pos e, s_spotOf, j_b, s_activeInstead _ _ (by rw [t_ga, h14]; exact h0) (by rw [t_ga, h14]; exact h1), j_b, s_pt (by decide), j_b]
    refine ⟨_, rfl, (pt_o (by omega)).tr (pt_o (by omega)), ?_⟩
    rw [p_v12, t_ai, t_ga, t_ga, h14, p_v15, jz1]
  · rw [if_neg (by rw [j_eq, t_ga]; exact e), if_neg e]
    exact ⟨_, rfl, pt_o (by omega), by rw [p_v15, jz1]⟩
theorem s_reveal (p : Int32) : Do (fX1_reveal σ b p) σ b (v_reveal (pv σ b) p.toInt) := by
  unfold Do fX1_reveal v_reveal
  rw [s_groupOf, j_b, s_pt (by decide), j_b, s_v12, j_b, p_v15, t_ga, up_ne (j := 15) (j' := 12) (by decide)]
  by_cases e : ga (pv σ b 12) 23 (ga (pv σ b 13) 12 p.toInt) = -1
  · rw [if_pos (by rw [j_eq, t_ga, jm1]; exact e), if_pos e, s_pt (by decide), j_b]
    refine ⟨_, rfl, (pt_o (by omega)).tr (pt_o (by omega)), ?_⟩
    rw [p_v12, t_ga, p_v15, jz0]
  · rw [if_neg (by rw [j_eq, t_ga, jm1]; exact e), if_neg e]
    exact ⟨_, rfl, pt_o (by omega), by rw [p_v15, jz0]⟩
theorem s_join (p g : Int32) : Do (fX1_joinGroup σ b p g) σ b (v_join (pv σ b) p.toInt g.toInt) := by
  unfold Do fX1_joinGroup v_join
  rw [s_tabCount, j_b, s_pt (by decide), j_b, s_pt (by decide), j_b, s_pt (by decide), j_b]
  refine ⟨_, rfl, ((pt_o (by omega)).tr (pt_o (by omega))).tr (pt_o (by omega)), ?_⟩
  rw [p_v12, p_v13, p_v14, t_tc]
theorem s_moveToSpot (p k : Int32) : Do (fX1_moveToSpot σ b p k) σ b (v_move (pv σ b) p.toInt k.toInt) := by
  unfold Do fX1_moveToSpot
  rw [s_spotOf, j_b]
  have H : ∀ (V W : VW), W = (fun j i => if j = 14 ∧ i < 12 ∧ V 13 i = ga (V 13) 12 p.toInt then wr (V 14 i + v_step (ga (V 14) 12 p.toInt) k.toInt (V 14 i)) else V j i) → up W 14 p.toInt k.toInt = v_move V p.toInt k.toInt := fun V W h => by rw [h]; rfl
  refine lp (F := fun n (w : Sg × Int32) => fX1_moveToSpot_9 b n w.1 p k (oI (ga (pv σ b 14) 12 p.toInt)) w.2) (Q := fun r => ∃ σ', r = some σ' ∧ Out σ σ' (b + 1) (b + 15) ∧ pv σ' b = v_move (pv σ b) p.toInt k.toInt) (fun i w => w.2 = nI i ∧ Out σ w.1 (b + 1) (b + 15) ∧ pv w.1 b = fun j m => if j = 14 ∧ m < i ∧ pv σ b 13 m = ga (pv σ b 13) 12 p.toInt then wr (pv σ b 14 m + v_step (ga (pv σ b 14) 12 p.toInt) k.toInt (pv σ b 14 m)) else pv σ b j m) 12 ?_ ?_ 12 0 FU (σ, 0) rfl (by decide) ⟨rfl, Out.rf, by funext j m; rw [if_neg (by omega)]⟩
  · rintro n i ⟨w, l⟩ hi ⟨rfl, ho, hv⟩
    simp only at ho hv
    have h13 : pv w b 13 = pv σ b 13 := by rw [hv]; funext m; exact if_neg (by omega)
    have h14 : pv w b 14 i = pv σ b 14 i := by rw [hv]; exact if_neg (by omega)
    have t13 : (oI (pv σ b 13 i)).toInt = pv σ b 13 i := j_oI (pv_rg _ _ _ _).1 (pv_rg _ _ _ _).2
    have t14 : (oI (pv σ b 14 i)).toInt = pv σ b 14 i := j_oI (pv_rg _ _ _ _).1 (pv_rg _ _ _ _).2
    have ext : ∀ W : VW, (W 14 i = if pv σ b 13 i = ga (pv σ b 13) 12 p.toInt then wr (pv σ b 14 i + v_step (ga (pv σ b 14) 12 p.toInt) k.toInt (pv σ b 14 i)) else pv σ b 14 i) → (∀ j m, ¬ (j = 14 ∧ m = i) → W j m = pv w b j m) → W = fun j m => if j = 14 ∧ m < i + 1 ∧ pv σ b 13 m = ga (pv σ b 13) 12 p.toInt then wr (pv σ b 14 m + v_step (ga (pv σ b 14) 12 p.toInt) k.toInt (pv σ b 14 m)) else pv σ b j m := by
      intro W h1 h2
      funext j m
      by_cases q : j = 14 ∧ m = i
      · obtain ⟨rfl, rfl⟩ := q
        rw [h1]
        by_cases q2 : pv σ b 13 m = ga (pv σ b 13) 12 p.toInt
        · rw [if_pos q2, if_pos ⟨rfl, by omega, q2⟩]
        · rw [if_neg q2, if_neg (fun z => q2 z.2.2)]
      · rw [h2 j m q, hv]
        dsimp only
        by_cases q2 : j = 14 ∧ m < i ∧ pv σ b 13 m = ga (pv σ b 13) 12 p.toInt
        · rw [if_pos q2, if_pos ⟨q2.1, by omega, q2.2.2⟩]
        · rw [if_neg q2, if_neg (fun z => q2 ⟨z.1, by omega, z.2.2⟩)]
    have step : ∀ s0 : Int32, pv σ b 13 i = ga (pv σ b 13) 12 p.toInt → s0.toInt = v_step (ga (pv σ b 14) 12 p.toInt) k.toInt (pv σ b 14 i) → ∃ s' : Sg × Int32, (s'.2 = nI (i + 1) ∧ Out σ s'.1 (b + 1) (b + 15) ∧ pv s'.1 b = fun j m => if j = 14 ∧ m < i + 1 ∧ pv σ b 13 m = ga (pv σ b 13) 12 p.toInt then wr (pv σ b 14 m + v_step (ga (pv σ b 14) 12 p.toInt) k.toInt (pv σ b 14 m)) else pv σ b j m) ∧ fX1_moveToSpot_77 b (fX1_moveToSpot_9 b n) w p k (oI (ga (pv σ b 14) 12 p.toInt)) (nI i) (oI (pv σ b 14 i)) s0 = fX1_moveToSpot_9 b n s'.1 p k (oI (ga (pv σ b 14) 12 p.toInt)) s'.2 := by
      intro s0 hg hs
      refine ⟨(su w (b + 14) i (oI (pv σ b 14 i) + s0), nI (i + 1)), ⟨rfl, ho.tr (su_out.mo (by omega) (by omega)), ext _ ?_ ?_⟩, ?_⟩
      · show pv (su w (b + 14) i (oI (pv σ b 14 i) + s0)) b 14 i = _
        rw [pv_14 hi, su_at, if_pos ⟨rfl, rfl⟩, wr_add, t14, hs, if_pos hg]
      · intro j m hjm
        exact pv_su hjm
      · unfold fX1_moveToSpot_77 fX1_moveToSpot_93
        rw [s_putn (by decide) hi, j_b, j_s]
    show ∃ s' : Sg × Int32, _ ∧ fX1_moveToSpot_9 b (n + 1) w p k (oI (ga (pv σ b 14) 12 p.toInt)) (nI i) = _
    rw [fX1_moveToSpot_9, if_neg (n_ge 12 (m := 12) rfl hi (by decide)), s_spotOf, j_b, s_v13, j_b, s_v13, j_b, j_nI (by omega), ga_in hi, ga_in hi, h14, h13]
    by_cases hg : pv σ b 13 i = ga (pv σ b 13) 12 p.toInt
    · rw [if_pos (by rw [hg])]
      unfold fX1_moveToSpot_60 fX1_moveToSpot_76
      by_cases q1 : pv σ b 14 i ≤ ga (pv σ b 14) 12 p.toInt
      · rw [if_pos (by rw [j_le, t14, t_ga]; exact q1)]
        by_cases q2 : ga (pv σ b 14) 12 p.toInt ≤ pv σ b 14 i
        · rw [if_pos (by rw [j_le, t14, t_ga]; exact q2)]
          exact step 0 hg (by unfold v_step; rw [if_neg (by omega), if_neg (by omega)]; rfl)
        · rw [if_neg (by rw [j_le, t14, t_ga]; exact q2)]
          by_cases q3 : pv σ b 14 i < k.toInt
          · rw [if_pos (by rw [j_lt, t14]; exact q3)]
            exact step 0 hg (by unfold v_step; rw [if_neg (by omega), if_neg (by omega)]; rfl)
          · rw [if_neg (by rw [j_lt, t14]; exact q3)]
            exact step 1 hg (by unfold v_step; rw [if_neg (by omega), if_pos (by omega)]; rfl)
      · rw [if_neg (by rw [j_le, t14, t_ga]; exact q1)]
        by_cases q4 : k.toInt < pv σ b 14 i
        · rw [if_pos (by rw [j_lt, t14]; exact q4), if_pos (by rw [j_le, t14, t_ga]; omega)]
          exact step 0 hg (by unfold v_step; rw [if_neg (by omega), if_neg (by omega)]; rfl)
        · rw [if_neg (by rw [j_lt, t14]; exact q4)]
          exact step (-1) hg (by unfold v_step; rw [if_pos (by omega)]; rfl)
    · have : ¬ oI (pv σ b 13 i) = oI (ga (pv σ b 13) 12 p.toInt) := by rw [j_eq, t13, t_ga]; exact hg
      rw [if_neg this]
      refine ⟨(w, nI (i + 1)), ⟨rfl, ho, ext _ ?_ (fun _ _ _ => rfl)⟩, ?_⟩
      · rw [h14, if_neg hg]
      · unfold fX1_moveToSpot_93
        rw [j_s]
  · rintro n ⟨w, l⟩ ⟨rfl, ho, hv⟩
    show ∃ σ', fX1_moveToSpot_9 b (n + 1) w p k _ (nI 12) = some σ' ∧ _
    simp only at ho hv
    rw [fX1_moveToSpot_9, if_pos (n_le 12 (m := 12) rfl (by decide)), s_pt (by decide), j_b]
    refine ⟨_, rfl, ho.tr (pt_o (by omega)), ?_⟩
    rw [p_v14]
    exact H _ _ hv
end WR
end
section
/-! THE RELATION: a placement of the class, what it does (2) -/
theorem odp_odv (σ : Sg) (b : Nat) : odp (pv σ b) = odv σ (b + 6) := by
  refine Prod.ext ?_ (funext fun i => ?_)
  · exact pv_in (i := 1) (by rw [inr_6]; rfl)
  · show pv σ b 7 i = if i < 12 then _ else 0
    rw [pv_def, inr_7]
    by_cases h : i < 12
    · rw [if_pos (decide_eq_true h), if_pos h]
    · rw [if_neg (by simpa using h), if_neg h]
theorem pv_od {σ σ' : Sg} {b : Nat} (h : Out σ σ' (b + 6) (b + 6 + 1)) : pv σ' b = v_od (pv σ b) (odv σ' (b + 6)) := by
  funext j i
  unfold v_od
  by_cases e : j = 6
  · subst e
    rw [if_pos rfl, ← odp_odv]
    by_cases e1 : i = 1
    · rw [if_pos e1, e1]
      rfl
    · rw [if_neg e1, pv_def, pv_def, inr_6, if_neg (by simpa using e1), if_neg (by simpa using e1)]
  · rw [if_neg e]
    by_cases e7 : j = 7
    · subst e7
      rw [if_pos rfl, ← odp_odv]
      rfl
    · rw [if_neg e7, pv_def, pv_def, h.2 (b + j) (by omega)]
theorem v_od_ne {V : VW} {o : OD} {j : Nat} (h6 : j ≠ 6) (h7 : j ≠ 7) : v_od V o j = V j := by
  funext i
  unfold v_od
  rw [if_neg h6, if_neg h7]
theorem v_od_odp {V : VW} {o : OD} : odp (v_od V o) = o := rfl
theorem odp_up {V : VW} {j : Nat} {p x : Int} (h6 : j ≠ 6) (h7 : j ≠ 7) : odp (up V j p x) = odp V := by
  unfold odp
  rw [up_ne (fun q => h6 q.symm), up_ne (fun q => h7 q.symm)]
section WR2
variable {σ : Sg} {b : Nat}
theorem s_flleave (w : Int32) (h : OkO (odp (pv σ b))) : Do (fX0_leave σ (b + 6) w) σ b (v_od (pv σ b) (o_lv (odp (pv σ b)) w.toInt)) := by
  rw [odp_odv] at *
  obtain ⟨σ', h1, h2, h3⟩ := s_leave h w
  exact ⟨σ', h1, h2.mo (by omega) (by omega), by rw [pv_od h2, h3]⟩
theorem s_flLast (w : Int32) (h : OkO (odp (pv σ b))) : Do (fX0_putLast σ (b + 6) w) σ b (v_od (pv σ b) (o_pl (odp (pv σ b)) w.toInt)) := by
  rw [odp_odv] at *
  obtain ⟨σ', h1, h2, h3⟩ := s_putLast h w
  exact ⟨σ', h1, h2.mo (by omega) (by omega), by rw [pv_od h2, h3]⟩
theorem s_fin (g s : Int32) : Do (fX1_removeGroup_37 b σ g s) σ b (v_fin (pv σ b) g.toInt s.toInt) := by
  unfold Do fX1_removeGroup_37 v_fin
  obtain ⟨σ1, h1, o1, e1⟩ := s_detach (σ := σ) (b := b) g
  obtain ⟨σ2, h2, o2, e2⟩ := s_free (σ := σ1) (b := b) g
  rw [h1, j_b, h2, j_b, s_childCount, j_b]
  have E : pv σ2 b = v_free (v_detach (pv σ b) g.toInt) g.toInt := by rw [e2, e1]
  rw [← E]
  by_cases q : v_cc (pv σ2 b) s.toInt = 1
  · rw [if_pos (by rw [j_eq, t_cc, q]; rfl), if_pos q, s_childAt, j_b]
    obtain ⟨σ3, h3, o3, e3⟩ := s_detach (σ := σ2) (b := b) (oI (v_ca (pv σ2 b) s.toInt (0 : Int32).toInt))
    obtain ⟨σ4, h4, o4, e4⟩ := s_replace (σ := σ3) (b := b) s (oI (v_ca (pv σ2 b) s.toInt (0 : Int32).toInt))
    obtain ⟨σ5, h5, o5, e5⟩ := s_free (σ := σ4) (b := b) s
    rw [h3, j_b, h4, j_b, h5, j_b]
    refine ⟨_, rfl, (((o1.tr o2).tr o3).tr o4).tr o5, ?_⟩
    rw [e5, e4, e3, t_ca, jz0]
  · rw [if_neg (by rw [j_eq, t_cc]; show ¬ (v_cc (pv σ2 b) s.toInt : Int) = 1; omega), if_neg q]
    exact ⟨_, rfl, o1.tr o2, rfl⟩
theorem s_removeGroup (g : Int32) (h : OkO (odp (pv σ b))) : Do (fX1_removeGroup σ b g) σ b (v_remg (pv σ b) g.toInt) := by
  unfold Do fX1_removeGroup v_remg
  rw [s_v9, j_b]
  by_cases e : ga (pv σ b 9) 23 g.toInt = -1
  · rw [if_pos (by rw [j_eq, t_ga, jm1]; exact e), if_pos e, s_windowOf, j_b, s_pt (by decide), j_b]
    have e5 : pv (pt σ (b + 5) 5 (oI (v_wo (pv σ b) g.toInt)) (-1)) b = up (pv σ b) 5 (v_wo (pv σ b) g.toInt) (-1) := by rw [p_v5, t_wo, jm1]
    have hO : odp (pv (pt σ (b + 5) 5 (oI (v_wo (pv σ b) g.toInt)) (-1)) b) = odp (pv σ b) := by rw [e5, odp_up (by decide) (by decide)]
    obtain ⟨σ2, h2, o2, e2⟩ := s_flleave (σ := pt σ (b + 5) 5 (oI (v_wo (pv σ b) g.toInt)) (-1)) (b := b) (oI (v_wo (pv σ b) g.toInt)) (by rw [hO]; exact h)
    obtain ⟨σ3, h3, o3, e3⟩ := s_fin (σ := σ2) (b := b) g (oI (ga (pv σ b 9) 23 g.toInt))
    rw [h2, j_b]
    refine ⟨σ3, h3, ((pt_o (by omega)).tr o2).tr o3, ?_⟩
    rw [e3, e2, hO, e5, t_wo, t_ga, e]
  · rw [if_neg (by rw [j_eq, t_ga, jm1]; exact e), if_neg e]
    obtain ⟨σ3, h3, o3, e3⟩ := s_fin (σ := σ) (b := b) g (oI (ga (pv σ b 9) 23 g.toInt))
    exact ⟨σ3, h3, o3, by rw [e3, t_ga]⟩
theorem v_hide_ne {V : VW} {p : Int} {j : Nat} (h : j ≠ 12) (h2 : j ≠ 15) : v_hide V p j = V j := by
  unfold v_hide
  split
  · rw [up_ne h, up_ne h2]
  · rw [up_ne h2]
theorem v_move_ne {V : VW} {p k : Int} {j : Nat} (h : j ≠ 14) : v_move V p k j = V j := by
  unfold v_move
  rw [up_ne h]
  funext i
  exact if_neg (fun q => h q.1)
theorem v_out_ne {V : VW} {p : Int} {j : Nat} (h : j ≠ 12) (h2 : j ≠ 13) (h3 : j ≠ 14) (h4 : j ≠ 15) : v_out V p j = V j := by
  unfold v_out
  rw [up_ne h4, up_ne h3, up_ne h2, v_move_ne h3, v_hide_ne h h4]
theorem odp_out {V : VW} {p : Int} : odp (v_out V p) = odp V := by
  unfold odp
  rw [v_out_ne (by decide) (by decide) (by decide) (by decide), v_out_ne (by decide) (by decide) (by decide) (by decide)]
theorem s_withdraw (p : Int32) (h0 : -1 ≤ ga (pv σ b 14) 12 p.toInt) (h1 : ga (pv σ b 14) 12 p.toInt ≤ 12) (h : OkO (odp (pv σ b))) : Do (fX1_withdraw σ b p) σ b (v_withdraw (pv σ b) p.toInt) := by
  unfold Do fX1_withdraw v_withdraw
  rw [s_groupOf, j_b]
  by_cases e : ga (pv σ b 13) 12 p.toInt = -1
  · rw [if_pos (by rw [j_eq, t_ga, jm1]; exact e), if_pos e]
    exact ⟨σ, rfl, Out.rf, rfl⟩
  · rw [if_neg (by rw [j_eq, t_ga, jm1]; exact e), if_neg e]
    obtain ⟨σ1, a1, o1, e1⟩ := s_hide (σ := σ) (b := b) p h0 h1
    rw [a1, j_b, s_tabCount, j_b]
    obtain ⟨σ2, a2, o2, e2⟩ := s_moveToSpot (σ := σ1) (b := b) p (oI (v_tc (pv σ1 b) (oI (ga (pv σ b 13) 12 p.toInt)).toInt) - 1)
    rw [a2, j_b, s_pt (by decide), j_b, s_pt (by decide), j_b, s_pt (by decide), j_b, s_tabCount, j_b]
    have E : pv (pt (pt (pt σ2 (b + 13) 12 p (-1)) (b + 14) 12 p (-1)) (b + 15) 12 p 0) b = v_out (pv σ b) p.toInt := by
      rw [p_v15, p_v14, p_v13, e2, jm1, jz0, wr_sub, jz1, t_tc, t_ga, e1]
      rfl
    have O : Out σ (pt (pt (pt σ2 (b + 13) 12 p (-1)) (b + 14) 12 p (-1)) (b + 15) 12 p 0) (b + 1) (b + 15) := (((o1.tr o2).tr (pt_o (by omega))).tr (pt_o (by omega))).tr (pt_o (by omega))
    rw [E, t_ga]
    by_cases q : v_tc (v_out (pv σ b) p.toInt) (ga (pv σ b 13) 12 p.toInt) = 0
    · rw [if_pos (by rw [j_eq, t_tc, q]; rfl), if_pos q]
      obtain ⟨σ3, a3, o3, e3⟩ := s_removeGroup (σ := pt (pt (pt σ2 (b + 13) 12 p (-1)) (b + 14) 12 p (-1)) (b + 15) 12 p 0) (b := b) (oI (ga (pv σ b 13) 12 p.toInt)) (by rw [E, odp_out]; exact h)
      rw [a3, j_b]
      exact ⟨_, rfl, O.tr o3, by rw [e3, E, t_ga]⟩
    · rw [if_neg (by rw [j_eq, t_tc, jz0]; omega), if_neg q]
      exact ⟨_, rfl, O, E⟩
theorem s_makeNode (k : Int32) : ∃ σ', fX1_makeNode σ b k = some (oI (v_mn (pv σ b)), σ') ∧ Out σ σ' (b + 1) (b + 15) ∧ pv σ' b = up (pv σ b) 8 (v_mn (pv σ b)) k.toInt := by
  unfold fX1_makeNode v_mn
  refine lpx (F := fun n s => fX1_makeNode_2 b n σ k s) (Q := fun r => ∃ σ', r = some (oI (fnd (fun n => decide (pv σ b 8 n = 3)) 23), σ') ∧ Out σ σ' (b + 1) (b + 15) ∧ pv σ' b = up (pv σ b) 8 (fnd (fun n => decide (pv σ b 8 n = 3)) 23) k.toInt) (fun i s => s = nI i ∧ ∀ m, m < i → decide (pv σ b 8 m = 3) = false) 23 ?_ ?_ 23 0 FU 0 rfl (by decide) ⟨rfl, fun m hm => absurd hm (by omega)⟩
  · rintro n i _ hi ⟨rfl, hv⟩
    show (∃ σ', fX1_makeNode_2 b (n + 1) σ k (nI i) = _ ∧ _) ∨ _
    rw [fX1_makeNode_2, if_neg (n_ge 23 (m := 23) rfl hi (by decide)), s_atn (by decide) hi, j_b]
    by_cases q : σ.1 (b + 8) i = 3
    · left
      rw [if_pos q, s_pt (by decide), j_b, fnd_at hi (by rw [decide_eq_true_eq, pv_8 hi, q]; rfl) hv, j_nIo _ (by omega)]
      refine ⟨_, rfl, pt_o (by omega), ?_⟩
      rw [p_v8, j_oI (by omega) (by omega)]
    · right
      rw [if_neg q]
      refine ⟨nI (i + 1), ⟨rfl, fun m hm => ?_⟩, ?_⟩
      · by_cases w : m = i
        · rw [w, decide_eq_false_iff_not, pv_8 hi]
          exact fun z => q (j_eq.mpr z)
        · exact hv m (by omega)
      · rw [j_s]
  · rintro n _ ⟨rfl, hv⟩
    show ∃ σ', fX1_makeNode_2 b (n + 1) σ k (nI 23) = _ ∧ _
    rw [fX1_makeNode_2, if_pos (n_le 23 (m := 23) rfl (by decide)), fnd_no hv]
    exact ⟨σ, rfl, Out.rf, by rw [up_m1]⟩
theorem t_mn (V : VW) : (oI (v_mn V)).toInt = v_mn V := t_fnd _ (by decide)
theorem s_dir (s : Int32) : fX8_directionOf σ s = some (oI (v_dir s.toInt)) := by
  unfold fX8_directionOf v_dir
  by_cases h : s = 0
  · rw [if_pos h, if_pos (Or.inl (by rw [h]; rfl))]
    rfl
  · have h' : ¬ s.toInt = 0 := fun q => h (j_eq.mpr q)
    rw [if_neg h]
    by_cases h1 : s = 1
    · rw [if_pos h1, if_pos (Or.inr (by rw [h1]; rfl))]
      rfl
    · have h1' : ¬ s.toInt = 1 := fun q => h1 (j_eq.mpr q)
      rw [if_neg h1, if_neg (by omega)]
      rfl
theorem t_dir (s : Int) : (oI (v_dir s)).toInt = v_dir s := by
  unfold v_dir
  split <;> rfl
theorem s_max (x : Int) (a : Int32) (ha : a.toInt = x) : (if 1 < a then a else 1).toInt = max 1 x := by
  by_cases h : 1 < a
  · rw [if_pos h, ha]
    rw [j_lt, jz1, ha] at h
    omega
  · rw [if_neg h, jz1]
    rw [j_lt, jz1, ha] at h
    omega
theorem wr_div2 (a : Int32) : (a / 2).toInt = wr (Int.tdiv a.toInt 2) := by
  have h0 := j_lo a
  have h1 := j_hi a
  have e2 : (2 : Int32).toInt = 2 := rfl
  have e : (a / 2).toInt = (Int.tdiv a.toInt 2).bmod (2 ^ 32) := by
    rw [Int32.toInt_div, e2]
  rw [e]
  show _ = (Int32.ofInt _).toInt
  rw [Int32.toInt_ofInt]
theorem s_bes121 (t d k f : Int32) (h : ∀ V, pv σ b = V → True) : ∃ σ', fX1_makeGroupBeside_121 b σ t d k f = some (f, σ') ∧ Out σ σ' (b + 1) (b + 15) ∧ pv σ' b = v_attach (v_attach (v_repl (up (pv σ b) 8 (v_mn (pv σ b)) d.toInt) t.toInt (v_mn (pv σ b))) t.toInt (v_mn (pv σ b)) 0 1000) f.toInt (v_mn (pv σ b)) k.toInt 1000 := by
  unfold fX1_makeGroupBeside_121
  obtain ⟨σ1, a1, o1, e1⟩ := s_makeNode (σ := σ) (b := b) d
  rw [a1, j_b]
  dsimp only
  obtain ⟨σ2, a2, o2, e2⟩ := s_replace (σ := σ1) (b := b) t (oI (v_mn (pv σ b)))
  obtain ⟨σ3, a3, o3, e3⟩ := s_attach (σ := σ2) (b := b) t (oI (v_mn (pv σ b))) 0 1000
  obtain ⟨σ4, a4, o4, e4⟩ := s_attach (σ := σ3) (b := b) f (oI (v_mn (pv σ b))) k 1000
  rw [a2, j_b, a3, j_b, a4, j_b]
  refine ⟨_, rfl, ((o1.tr o2).tr o3).tr o4, ?_⟩
  rw [e4, e3, e2, e1, t_mn]
  rfl
theorem s_bes20 (t d k : Int32) (side : Int) (hd : d.toInt = v_dir side) (hk : k.toInt = v_beh side) : ∃ σ', fX1_makeGroupBeside_20 b σ t d k = some (oI (v_mn (pv σ b)), σ') ∧ Out σ σ' (b + 1) (b + 15) ∧ pv σ' b = v_bes (pv σ b) t.toInt side := by
  unfold fX1_makeGroupBeside_20 v_bes
  obtain ⟨σ1, a1, o1, e1⟩ := s_makeNode (σ := σ) (b := b) 2
  have e2 : (2 : Int32).toInt = 2 := rfl
  rw [e2] at e1
  rw [a1, j_b]
  dsimp only
  obtain ⟨σ4, a4, o4, e4⟩ := s_bes121 (σ := σ1) (b := b) t d k (oI (v_mn (pv σ b))) (fun _ _ => trivial)
  have B2 : pv σ4 b = v_bes2 t.toInt side (v_mn (pv σ b)) (pv σ1 b) := by
    rw [e4, t_mn, hd, hk]
    rfl
  have h9 : pv σ1 b 9 = pv σ b 9 := by rw [e1, up_ne (by decide)]
  have h10 : pv σ1 b 10 = pv σ b 10 := by rw [e1, up_ne (by decide)]
  have h11 : pv σ1 b 11 = pv σ b 11 := by rw [e1, up_ne (by decide)]
  rw [s_v9, j_b, ← e1, h9]
  by_cases q : ga (pv σ b 9) 23 t.toInt = -1
  · rw [if_pos (by rw [j_eq, t_ga, jm1]; exact q), if_pos q, a4]
    exact ⟨_, rfl, o1.tr o4, B2⟩
  · rw [if_neg (by rw [j_eq, t_ga, jm1]; exact q), if_neg q, s_v8, j_b, t_ga]
    by_cases q2 : ga (pv σ1 b 8) 23 (ga (pv σ b 9) 23 t.toInt) = v_dir side
    · rw [if_pos (by rw [j_eq, t_ga, hd]; exact q2), if_pos q2, s_v11, j_b, j_nm, j_b, j_nm, s_pt (by decide), j_b, s_v10, j_b, j_nm, h11]
      have m1 : (if 1 < oI (ga (pv σ b 11) 23 t.toInt) / 2 then oI (ga (pv σ b 11) 23 t.toInt) / 2 else 1).toInt = max 1 (wr (Int.tdiv (ga (pv σ b 11) 23 t.toInt) 2)) := s_max _ _ (by rw [wr_div2, t_ga])
      have m2 : (if 1 < oI (ga (pv σ b 11) 23 t.toInt) - oI (ga (pv σ b 11) 23 t.toInt) / 2 then oI (ga (pv σ b 11) 23 t.toInt) - oI (ga (pv σ b 11) 23 t.toInt) / 2 else 1).toInt = max 1 (wr (ga (pv σ b 11) 23 t.toInt - wr (Int.tdiv (ga (pv σ b 11) 23 t.toInt) 2))) := s_max _ _ (by rw [wr_sub, wr_div2, t_ga])
      generalize (if 1 < oI (ga (pv σ b 11) 23 t.toInt) / 2 then oI (ga (pv σ b 11) 23 t.toInt) / 2 else 1) = x1 at m1 ⊢
      generalize (if 1 < oI (ga (pv σ b 11) 23 t.toInt) - oI (ga (pv σ b 11) 23 t.toInt) / 2 then oI (ga (pv σ b 11) 23 t.toInt) - oI (ga (pv σ b 11) 23 t.toInt) / 2 else 1) = x2 at m2 ⊢
      obtain ⟨σ5, a5, o5, e5⟩ := s_attach (σ := pt σ1 (b + 11) 23 t x2) (b := b) (oI (v_mn (pv σ b))) (oI (ga (pv σ b 9) 23 t.toInt)) (oI (ga (pv (pt σ1 (b + 11) 23 t x2) b 10) 23 t.toInt) + k) x1
      rw [a5, j_b]
      refine ⟨_, rfl, (o1.tr (pt_o (by omega))).tr o5, ?_⟩
      rw [e5, t_mn, t_ga, m1, wr_add, t_ga, hk, p_v11, m2, up_ne (j := 11) (j' := 10) (by decide), h10]
      rfl
    · rw [if_neg (by rw [j_eq, t_ga, hd]; exact q2), if_neg q2, a4]
      exact ⟨_, rfl, o1.tr o4, B2⟩
theorem s_makeGroupBeside (t s : Int32) : ∃ σ', fX1_makeGroupBeside σ b t s = some (oI (v_mn (pv σ b)), σ') ∧ Out σ σ' (b + 1) (b + 15) ∧ pv σ' b = v_bes (pv σ b) t.toInt s.toInt := by
  unfold fX1_makeGroupBeside fX1_makeGroupBeside_15
  rw [s_dir, j_b]
  by_cases h : s = 1
  · rw [if_pos h]
    exact s_bes20 t _ 1 s.toInt (t_dir _) (by rw [h]; rfl)
  · have h' : ¬ s.toInt = 1 := fun q => h (j_eq.mpr q)
    rw [if_neg h]
    by_cases h1 : s = 3
    · rw [if_pos h1]
      exact s_bes20 t _ 1 s.toInt (t_dir _) (by rw [h1]; rfl)
    · have h1' : ¬ s.toInt = 3 := fun q => h1 (j_eq.mpr q)
      rw [if_neg h1]
      exact s_bes20 t _ 0 s.toInt (t_dir _) (by unfold v_beh; rw [if_neg (by omega)]; rfl)
theorem s_setRoot (w n : Int32) : Do (fX1_setRoot σ b w n) σ b (up (pv σ b) 5 w.toInt n.toInt) := by
  unfold Do fX1_setRoot
  rw [s_pt (by decide), j_b]
  exact ⟨_, rfl, pt_o (by omega), p_v5⟩
theorem s_setWeight (n w : Int32) : Do (fX1_setWeight σ b n w) σ b (up (pv σ b) 11 n.toInt w.toInt) := by
  unfold Do fX1_setWeight
  rw [s_pt (by decide), j_b]
  exact ⟨_, rfl, pt_o (by omega), p_v11⟩
theorem s_setActive (n p : Int32) : Do (fX1_setActive σ b n p) σ b (up (pv σ b) 12 n.toInt p.toInt) := by
  unfold Do fX1_setActive
  rw [s_pt (by decide), j_b]
  exact ⟨_, rfl, pt_o (by omega), p_v12⟩
theorem s_setCorner (w x y : Int32) : Do (fX1_setCorner σ b w x y) σ b (up (up (pv σ b) 1 w.toInt x.toInt) 2 w.toInt y.toInt) := by
  unfold Do fX1_setCorner
  rw [s_pt (by decide), j_b, s_pt (by decide), j_b]
  exact ⟨_, rfl, (pt_o (by omega)).tr (pt_o (by omega)), by rw [p_v2, p_v1]⟩
theorem s_setSize (w x y : Int32) : Do (fX1_setSize σ b w x y) σ b (up (up (pv σ b) 3 w.toInt x.toInt) 4 w.toInt y.toInt) := by
  unfold Do fX1_setSize
  rw [s_pt (by decide), j_b, s_pt (by decide), j_b]
  exact ⟨_, rfl, (pt_o (by omega)).tr (pt_o (by omega)), by rw [p_v4, p_v3]⟩
theorem s_makeRootGroup (w : Int32) : ∃ σ', fX1_makeRootGroup σ b w = some (oI (v_mn (pv σ b)), σ') ∧ Out σ σ' (b + 1) (b + 15) ∧ pv σ' b = up (up (pv σ b) 8 (v_mn (pv σ b)) 2) 5 w.toInt (v_mn (pv σ b)) := by
  unfold fX1_makeRootGroup
  obtain ⟨σ1, a1, o1, e1⟩ := s_makeNode (σ := σ) (b := b) 2
  obtain ⟨σ2, a2, o2, e2⟩ := s_setRoot (σ := σ1) (b := b) w (oI (v_mn (pv σ b)))
  rw [a1, j_b]
  dsimp only
  rw [a2, j_b]
  exact ⟨_, rfl, o1.tr o2, by rw [e2, e1, t_mn]; rfl⟩
end WR2
end
section
/-! THE RELATION: copies, states, records of the class -/
theorem s_copyRow {σ : Sg} {c0 c1 n : Nat} (hn : n < 2147483648) : ∃ σ', fX8_copyRow σ c0 n c1 n = some σ' ∧ Out σ σ' c1 c1 ∧ ∀ i, i < n → σ'.1 c1 i = σ.1 c0 i := by
  unfold fX8_copyRow
  rw [ite_self, j_nm]
  have hc : (nI n).toNatClampNeg = n := j_cl n hn
  have h0 : (0 : Int32).toNatClampNeg = 0 := rfl
  rw [if_pos (by
    refine ⟨by decide, by decide, by rw [j_lt, j_nI hn, jz0]; omega, ?_, ?_⟩ <;> rw [hc, h0] <;> omega), j_nm, hc, h0]
  refine ⟨_, rfl, ⟨rfl, fun c hq => if_neg (by omega)⟩, fun i hi => ?_⟩
  show (if c1 = c1 then va_cpy (σ.1 c0) (σ.1 c1) 0 0 n else σ.1 c1) i = _
  rw [if_pos rfl]
  unfold va_cpy
  rw [if_pos (by have := hc; have := h0; omega)]
  show σ.1 c0 (0 + (i - 0)) = _
  rw [Nat.zero_add, Nat.sub_zero]
theorem s_odcopy {σ : Sg} {b c : Nat} (h : c + 1 < b ∨ b + 1 < c) : ∃ σ', fX0_copyFrom σ b c = some σ' ∧ Out σ σ' b (b + 1) ∧ odv σ' b = odv σ c := by
  unfold fX0_copyFrom
  obtain ⟨σ1, h1, h2, h3⟩ := s_copyRow (σ := σ) (c0 := c + 1) (c1 := b + 1) (n := 12) (by decide)
  rw [h1, j_b, j_nm]
  refine ⟨_, rfl, (h2.mo (by omega) (by omega)).tr (su_out.mo (by omega) (by omega)), odv_of ?_ ?_ ?_⟩
  · rw [su_at, if_pos ⟨rfl, rfl⟩, h2.2 c (by omega)]
    rfl
  · intro i hi
    rw [su_ne (by omega), h3 i hi, odv_in hi]
  · intro i hi
    exact odv_no hi
/-- the rows that D names are those of c -/
def Dn (D : Nat → Bool) (σ σ' : Sg) (b c : Nat) : Prop := Out σ σ' (b + 1) (b + 15) ∧ ∀ j i, D j = true → inr j i = true → σ'.1 (b + j) i = σ.1 (c + j) i
theorem Dn.row {D : Nat → Bool} {σ σ1 : Sg} {b c : Nat} (h : Dn D σ σ1 b c) (hd : c + 15 < b + 1 ∨ b + 15 < c + 1) (j n : Nat) (hj : 1 ≤ j ∧ j ≤ 15) (hn : wd j = n) : ∃ σ2, fX8_copyRow σ1 (c + j) n (b + j) n = some σ2 ∧ Dn (fun k => D k || k == j) σ σ2 b c := by
  have hw : wd j < 2147483648 := by
    unfold wd
    split <;> decide
  obtain ⟨σ2, h1, h2, h3⟩ := s_copyRow (σ := σ1) (c0 := c + j) (c1 := b + j) (n := n) (by omega)
  refine ⟨σ2, h1, h.1.tr (h2.mo (by omega) (by omega)), fun k i hk hi => ?_⟩
  have hi2 : i < wd k := by
    unfold inr at hi
    simp at hi
    exact hi.1
  by_cases e : k = j
  · subst e
    rw [h3 i (by omega), h.1.2 (c + k) (by omega)]
  · have hk1 : k ≤ 15 := by
      refine Nat.le_of_not_lt (fun q => ?_)
      rw [inr_hi i (Or.inr (by omega))] at hi
      cases hi
    rw [h2.2 (b + k) (by omega)]
    exact h.2 k i (by simpa [e] using hk) hi
theorem Dn.ord {D : Nat → Bool} {σ σ1 : Sg} {b c : Nat} (h : Dn D σ σ1 b c) (hd : c + 15 < b + 1 ∨ b + 15 < c + 1) : ∃ σ2, fX0_copyFrom σ1 (b + 6) (c + 6) = some σ2 ∧ Dn (fun k => D k || k == 6 || k == 7) σ σ2 b c := by
  obtain ⟨σ2, h1, h2, h3⟩ := s_odcopy (σ := σ1) (b := b + 6) (c := c + 6) (by omega)
  refine ⟨σ2, h1, h.1.tr (h2.mo (by omega) (by omega)), fun k i hk hi => ?_⟩
  have hk1 : k ≤ 15 := by
    refine Nat.le_of_not_lt (fun q => ?_)
    rw [inr_hi i (Or.inr (by omega))] at hi
    cases hi
  by_cases e6 : k = 6
  · subst e6
    rw [inr_6, decide_eq_true_eq] at hi
    subst hi
    have := congrArg Prod.fst h3
    have h4 : (σ2.1 (b + 6) 1).toInt = (σ1.1 (c + 6) 1).toInt := this
    rw [j_eq.mpr h4, h.1.2 (c + 6) (by omega)]
  · by_cases e7 : k = 7
    · subst e7
      rw [inr_7, decide_eq_true_eq] at hi
      have := congrFun (congrArg Prod.snd h3) i
      rw [odv_in hi, odv_in hi] at this
      have h4 : σ2.1 (b + 7) i = σ1.1 (c + 7) i := j_eq.mpr this
      rw [h4, h.1.2 (c + 7) (by omega)]
    · rw [h2.2 (b + k) (by omega)]
      exact h.2 k i (by simpa [e6, e7] using hk) hi
theorem s_plcopy {σ : Sg} {b c : Nat} (hd : c + 15 < b + 1 ∨ b + 15 < c + 1) : Do (fX1_copyFrom σ b c) σ b (pv σ c) := by
  unfold Do fX1_copyFrom
  have d0 : Dn (fun _ => false) σ σ b c := ⟨Out.rf, fun j i h => by cases h⟩
  obtain ⟨σ1, a1, d1⟩ := d0.row hd 1 5 (by omega) rfl
  obtain ⟨σ2, a2, d2⟩ := d1.row hd 2 5 (by omega) rfl
  obtain ⟨σ3, a3, d3⟩ := d2.row hd 3 5 (by omega) rfl
  obtain ⟨σ4, a4, d4⟩ := d3.row hd 4 5 (by omega) rfl
  obtain ⟨σ5, a5, d5⟩ := d4.row hd 5 5 (by omega) rfl
  obtain ⟨σ6, a6, d6⟩ := d5.ord hd
  obtain ⟨σ7, a7, d7⟩ := d6.row hd 8 23 (by omega) rfl
  obtain ⟨σ8, a8, d8⟩ := d7.row hd 9 23 (by omega) rfl
  obtain ⟨σ9, a9, d9⟩ := d8.row hd 10 23 (by omega) rfl
  obtain ⟨σ10, a10, d10⟩ := d9.row hd 11 23 (by omega) rfl
  obtain ⟨σ11, a11, d11⟩ := d10.row hd 12 23 (by omega) rfl
  obtain ⟨σ12, a12, d12⟩ := d11.row hd 13 12 (by omega) rfl
  obtain ⟨σ13, a13, d13⟩ := d12.row hd 14 12 (by omega) rfl
  obtain ⟨σ14, a14, d14⟩ := d13.row hd 15 12 (by omega) rfl
  rw [a1, j_b, a2, j_b, a3, j_b, a4, j_b, a5, j_b, a6, j_b, a7, j_b, a8, j_b, a9, j_b, a10, j_b, a11, j_b, a12, j_b, a13, j_b, a14, j_b]
  refine ⟨σ14, rfl, d14.1, ?_⟩
  funext j i
  rw [pv_def, pv_def]
  by_cases hi : inr j i = true
  · rw [if_pos hi, if_pos hi, d14.2 j i ?_ hi]
    have h1 : ¬ (j = 0 ∨ 16 ≤ j) := fun q => by
      rw [inr_hi i q] at hi
      cases hi
    have : j = 1 ∨ j = 2 ∨ j = 3 ∨ j = 4 ∨ j = 5 ∨ j = 6 ∨ j = 7 ∨ j = 8 ∨ j = 9 ∨ j = 10 ∨ j = 11 ∨ j = 12 ∨ j = 13 ∨ j = 14 ∨ j = 15 := by omega
    rcases this with rfl | rfl | rfl | rfl | rfl | rfl | rfl | rfl | rfl | rfl | rfl | rfl | rfl | rfl | rfl <;> rfl
  · rw [if_neg hi, if_neg hi]
theorem pv_out {σ σ' : Sg} {b lo hi : Nat} (h : Out σ σ' lo hi) (h2 : b + 15 < lo ∨ hi < b + 1) : pv σ' b = pv σ b := by
  funext j i
  rw [pv_def, pv_def]
  by_cases hi : inr j i = true
  · have h1 : ¬ (j = 0 ∨ 16 ≤ j) := fun q => by
      rw [inr_hi i q] at hi
      cases hi
    rw [h.2 (b + j) (by omega)]
  · rw [if_neg hi, if_neg hi]
/-! a state: the panes that exist, the slots that are saved; least widths and heights; the order of focus; the placement; the slots' -/
abbrev ST : Type := (Int × Int) × (Nat → Int) × (Nat → Int) × OD × VW × (Nat → VW)
abbrev S_ex (S : ST) : Int := S.1.1
abbrev S_sv (S : ST) : Int := S.1.2
abbrev S_mw (S : ST) : Nat → Int := S.2.1
abbrev S_mh (S : ST) : Nat → Int := S.2.2.1
abbrev S_fo (S : ST) : OD := S.2.2.2.1
abbrev S_pl (S : ST) : VW := S.2.2.2.2.1
abbrev S_sl (S : ST) : Nat → VW := S.2.2.2.2.2
def rw12 (f : Nat → Int32) : Nat → Int := fun i => if i < 12 then (f i).toInt else 0
def slo (s : Nat) : Nat := 22 + 16 * s
def slv (σ : Sg) (b : Nat) : Nat → VW := fun s => if s < 3 then pv σ (b + slo s) else fun _ _ => 0
def stv (σ : Sg) (b : Nat) : ST := (((σ.1 b 0).toInt, (σ.1 b 6).toInt), rw12 (σ.1 (b + 1)), rw12 (σ.1 (b + 2)), odv σ (b + 3), pv σ (b + 5), slv σ b)
theorem rw12_in {f : Nat → Int32} {i : Nat} (h : i < 12) : rw12 f i = (f i).toInt := if_pos h
theorem rw12_eq {f g : Nat → Int32} (h : ∀ i, i < 12 → f i = g i) : rw12 f = rw12 g := by
  funext i
  unfold rw12
  by_cases q : i < 12
  · rw [if_pos q, if_pos q, h i q]
  · rw [if_neg q, if_neg q]
theorem slv_eq {σ σ' : Sg} {b c : Nat} (h : ∀ s, s < 3 → pv σ' (b + slo s) = pv σ (c + slo s)) : slv σ' b = slv σ c := by
  funext s
  unfold slv
  by_cases q : s < 3
  · rw [if_pos q, if_pos q, h s q]
  · rw [if_neg q, if_neg q]
theorem stv_of {σ σ' : Sg} {b c : Nat} (h0 : σ'.1 b 0 = σ.1 c 0) (h6 : σ'.1 b 6 = σ.1 c 6) (h1 : ∀ i, i < 12 → σ'.1 (b + 1) i = σ.1 (c + 1) i) (h2 : ∀ i, i < 12 → σ'.1 (b + 2) i = σ.1 (c + 2) i) (h3 : odv σ' (b + 3) = odv σ (c + 3)) (h5 : pv σ' (b + 5) = pv σ (c + 5)) (hs : ∀ s, s < 3 → pv σ' (b + slo s) = pv σ (c + slo s)) : stv σ' b = stv σ c := by
  unfold stv
  rw [h0, h6, rw12_eq h1, rw12_eq h2, h3, h5, slv_eq hs]
theorem stv_out {σ σ' : Sg} {b lo hi : Nat} (h : Out σ σ' lo hi) (h2 : b + 69 < lo ∨ hi < b) : stv σ' b = stv σ b := by
  refine stv_of ?_ ?_ (fun i _ => ?_) (fun i _ => ?_) (odv_out h (by omega)) (pv_out h (by omega)) (fun s hs => pv_out h (by unfold slo; omega))
  · rw [h.2 b (by omega)]
  · rw [h.2 b (by omega)]
  · rw [h.2 (b + 1) (by omega)]
  · rw [h.2 (b + 2) (by omega)]
theorem rg3 (b : Nat) : rget [b + 22, b + 38, b + 54] (nI 0) = b + slo 0 ∧ rget [b + 22, b + 38, b + 54] (nI 1) = b + slo 1 ∧ rget [b + 22, b + 38, b + 54] (nI 2) = b + slo 2 := ⟨rfl, rfl, rfl⟩
theorem rgs (b : Nat) {s : Nat} (h : s < 3) : rget [b + 22, b + 38, b + 54] (nI s) = b + slo s := by
  have : s = 0 ∨ s = 1 ∨ s = 2 := by omega
  rcases this with rfl | rfl | rfl
  · exact (rg3 b).1
  · exact (rg3 b).2.1
  · exact (rg3 b).2.2
theorem s_stcopy {σ : Sg} {b c : Nat} (hd : c + 69 < b ∨ b + 69 < c) : ∃ σ', fX4_copyFrom σ b c = some σ' ∧ Out σ σ' b (b + 69) ∧ stv σ' b = stv σ c := by
  unfold fX4_copyFrom
  rw [j_nm]
  obtain ⟨σ2, a2, o2, e2⟩ := s_copyRow (σ := su σ b 0 (σ.1 c 0)) (c0 := c + 1) (c1 := b + 1) (n := 12) (by decide)
  obtain ⟨σ3, a3, o3, e3⟩ := s_copyRow (σ := σ2) (c0 := c + 2) (c1 := b + 2) (n := 12) (by decide)
  obtain ⟨σ4, a4, o4, e4⟩ := s_odcopy (σ := σ3) (b := b + 3) (c := c + 3) (by omega)
  obtain ⟨σ5, a5, o5, e5⟩ := s_plcopy (σ := σ4) (b := b + 5) (c := c + 5) (by omega)
  rw [a2, j_b, a3, j_b, a4, j_b, a5, j_b]
  have O1 : Out σ (su σ b 0 (σ.1 c 0)) b (b + 69) := su_out.mo (by omega) (by omega)
  have O2 : Out σ σ2 b (b + 69) := O1.tr (o2.mo (by omega) (by omega))
  have O3 : Out σ σ3 b (b + 69) := O2.tr (o3.mo (by omega) (by omega))
  have O4 : Out σ σ4 b (b + 69) := O3.tr (o4.mo (by omega) (by omega))
  have O5 : Out σ σ5 b (b + 69) := O4.tr (o5.mo (by omega) (by omega))
  have q0 : σ5.1 b 0 = σ.1 c 0 := by
    rw [o5.2 b (by omega), o4.2 b (by omega), o3.2 b (by omega), o2.2 b (by omega), su_at, if_pos ⟨rfl, rfl⟩]
  have q1 : ∀ i, i < 12 → σ5.1 (b + 1) i = σ.1 (c + 1) i := fun i hi => by
    rw [o5.2 (b + 1) (by omega), o4.2 (b + 1) (by omega), o3.2 (b + 1) (by omega), e2 i hi, su_ne (by omega)]
  have q2 : ∀ i, i < 12 → σ5.1 (b + 2) i = σ.1 (c + 2) i := fun i hi => by
    rw [o5.2 (b + 2) (by omega), o4.2 (b + 2) (by omega), e3 i hi, O2.2 (c + 2) (by omega)]
  have q3 : odv σ5 (b + 3) = odv σ (c + 3) := by
    rw [odv_out o5 (by omega), e4, odv_out O3 (by omega)]
  have q5 : pv σ5 (b + 5) = pv σ (c + 5) := by rw [e5, pv_out O4 (by omega)]
  refine lp (F := fun n (s : Sg × Int32) => fX4_copyFrom_54 b c n s.1 s.2) (Q := fun r => ∃ σ', r = some σ' ∧ Out σ σ' b (b + 69) ∧ stv σ' b = stv σ c) (fun i s => s.2 = nI i ∧ Out σ s.1 b (b + 69) ∧ Out σ5 s.1 (b + 22) (b + 69) ∧ ∀ k, k < i → pv s.1 (b + slo k) = pv σ (c + slo k)) 3 ?_ ?_ 3 0 FU (σ5, 0) rfl (by decide) ⟨rfl, O5, Out.rf, fun k hk => absurd hk (by omega)⟩
  · rintro n i ⟨s, l⟩ hi ⟨rfl, ho, ho5, hv⟩
    simp only at ho ho5 hv
    obtain ⟨σ6, a6, o6, e6⟩ := s_plcopy (σ := s) (b := b + slo i) (c := c + slo i) (by unfold slo; omega)
    refine ⟨(σ6, nI (i + 1)), ⟨rfl, ho.tr (o6.mo (by unfold slo; omega) (by unfold slo; omega)), ho5.tr (o6.mo (by unfold slo; omega) (by unfold slo; omega)), fun k hk => ?_⟩, ?_⟩
    · show pv σ6 (b + slo k) = _
      by_cases q : k = i
      · subst q
        rw [e6, pv_out ho (by unfold slo; omega)]
      · rw [pv_out o6 (by unfold slo; omega), hv k (by omega)]
    · show fX4_copyFrom_54 b c (n + 1) s (nI i) = fX4_copyFrom_54 b c n σ6 (nI (i + 1))
      rw [fX4_copyFrom_54, show ([b + 22, b + 38, b + 54] : List Nat).length = 3 from rfl, show ([c + 22, c + 38, c + 54] : List Nat).length = 3 from rfl, if_neg (n_ge (nI 3) (m := 3) rfl hi (by decide)), if_neg (n_ge (nI 3) (m := 3) rfl hi (by decide)), if_pos (j_ckn hi (by decide)), if_pos (j_ckn hi (by decide)), rgs b hi, rgs c hi, a6, j_b, j_s]
  · rintro n ⟨s, l⟩ ⟨rfl, ho, ho5, hv⟩
    simp only at ho ho5 hv
    show ∃ σ', fX4_copyFrom_54 b c (n + 1) s (nI 3) = some σ' ∧ _
    rw [fX4_copyFrom_54, show ([b + 22, b + 38, b + 54] : List Nat).length = 3 from rfl, if_pos (n_le (nI 3) (m := 3) rfl (by decide))]
    unfold fX4_copyFrom_93
    rw [j_nm]
    refine ⟨_, rfl, ho.tr (su_out.mo (by omega) (by omega)), stv_of ?_ ?_ ?_ ?_ ?_ ?_ ?_⟩
    · rw [su_at, if_neg (by omega), ho5.2 b (by omega), q0]
    · rw [su_at, if_pos ⟨rfl, rfl⟩, ho.2 c (by omega)]
    · intro i hi
      rw [su_ne (by omega), ho5.2 (b + 1) (by omega), q1 i hi]
    · intro i hi
      rw [su_ne (by omega), ho5.2 (b + 2) (by omega), q2 i hi]
    · rw [odv_out su_out (by omega), odv_out ho5 (by omega), q3]
    · rw [pv_out su_out (by omega), pv_out ho5 (by omega), q5]
    · intro k hk
      rw [pv_out su_out (by unfold slo; omega), hv k hk]
/-! the ring of records -/
theorem rfm5 (σ : Sg) {h k : Nat} (hh : h < 5) (hk : k < 6) : fJ9_floorMod_7cf53 σ (nI h + nI k) 5 = some (nI ((h + k) % 5)) := by
  have : ∀ h, h < 5 → ∀ k, k < 6 → fJ9_floorMod_7cf53 (fun _ _ => 0, fun _ _ => 0) (nI h + nI k) 5 = some (nI ((h + k) % 5)) := by decide +kernel
  exact this h hh k hk
/-- the record of this age: oldest h, at an age of k -/
def rb (h k : Nat) : Nat := 72 + 70 * ((h + k) % 5)
theorem s_recordAt {σ : Sg} {h k : Nat} (hh : σ.1 0 2 = nI h) (h5 : h < 5) (hk : k < 6) : fX8_recordAt σ (nI k) = some (rb h k) := by
  unfold fX8_recordAt
  rw [hh, rfm5 σ h5 hk, j_b]
  have hm : (h + k) % 5 < 5 := Nat.mod_lt _ (by decide)
  have key : ∀ m, m < 5 → (if nI m < 0 then fX8_recordAt_33 σ else if nI ([72, 142, 212, 282, 352]).length ≤ nI m then fX8_recordAt_33 σ else if ck (nI m) ([72, 142, 212, 282, 352]).length then fX8_recordAt_37 σ (rget [72, 142, 212, 282, 352] (nI m)) else none) = some (72 + 70 * m) := by
    intro m hm
    have : m = 0 ∨ m = 1 ∨ m = 2 ∨ m = 3 ∨ m = 4 := by omega
    rcases this with rfl | rfl | rfl | rfl | rfl <;> rfl
  exact key _ hm
/-- the records of the class are l, the oldest first -/
def Ch (σ : Sg) (l : List ST) : Prop := ∃ h : Nat, h < 5 ∧ σ.1 0 2 = nI h ∧ l.length ≤ 5 ∧ σ.1 0 3 = nI l.length ∧ ∀ k S, l[k]? = some S → stv σ (rb h k) = S
def keep (l : List ST) (S : ST) : List ST := (if l.length = 5 then l.drop 1 else l) ++ [S]
theorem rb_lo (h k : Nat) : 72 ≤ rb h k ∧ rb h k ≤ 352 := by
  unfold rb
  have := Nat.mod_lt (h + k) (show 0 < 5 by decide)
  omega
theorem rb_apart {h k m : Nat} (hk : k < 5) (hm : m < 5) (h5 : h < 5) (hne : k ≠ m) : rb h k + 69 < rb h m ∨ rb h m + 69 < rb h k := by
  unfold rb
  omega
theorem s_keep32 {σ : Sg} {l : List ST} (hl : l.length ≤ 4) (hc : Ch σ l) : ∃ σ', fX8_keepRecord_32 σ = some σ' ∧ σ'.2 = σ.2 ∧ (∀ c, c ≠ 0 → (c < 72 ∨ 421 < c) → σ'.1 c = σ.1 c) ∧ Ch σ' (l ++ [stv σ 1]) := by
  obtain ⟨h, h5, e2, -, e3, hr⟩ := hc
  have r1 := rb_lo h l.length
  unfold fX8_keepRecord_32
  rw [e3, s_recordAt e2 h5 (by omega), j_b]
  obtain ⟨σ5, a5, o5, v5⟩ := s_stcopy (σ := σ) (b := rb h l.length) (c := 1) (by omega)
  rw [a5, j_b, j_nm]
  refine ⟨_, rfl, o5.1, fun c hc1 hc2 => ?_, h, h5, ?_, by simp; omega, ?_, fun k S hk => ?_⟩
  · rw [su_ne hc1, o5.2 c (by omega)]
  · rw [su_at, if_neg (by omega), o5.2 0 (by omega), e2]
  · rw [su_at, if_pos ⟨rfl, rfl⟩, o5.2 0 (by omega), e3, j_s]
    simp
  · have r2 := rb_lo h k
    rw [stv_out su_out (by omega)]
    by_cases q : k < l.length
    · rw [List.getElem?_append_left q] at hk
      rw [stv_out o5 (by have := rb_apart (h := h) (k := k) (m := l.length) (by omega) (by omega) h5 (by omega); omega)]
      exact hr k S hk
    · have hk2 := (List.getElem?_eq_some_iff.mp hk).1
      simp at hk2
      have : k = l.length := by omega
      subst this
      rw [List.getElem?_append_right (by omega)] at hk
      simp at hk
      rw [v5, hk]
theorem s_keepRecord {σ : Sg} {l : List ST} (hc : Ch σ l) : ∃ σ', fX8_keepRecord σ = some σ' ∧ σ'.2 = σ.2 ∧ (∀ c, c ≠ 0 → (c < 72 ∨ 421 < c) → σ'.1 c = σ.1 c) ∧ Ch σ' (keep l (stv σ 1)) := by
  unfold fX8_keepRecord keep
  have hc0 := hc
  obtain ⟨h, h5, e2, hl, e3, hr⟩ := hc
  by_cases q : l.length = 5
  · rw [if_pos (by rw [e3, q]; rfl), if_pos q, e2, show (1 : Int32) = nI 1 from rfl, rfm5 σ h5 (by decide), j_b, j_nm, j_nm]
    have hm : (h + 1) % 5 < 5 := Nat.mod_lt _ (by decide)
    obtain ⟨σ', a, b, c, d⟩ := s_keep32 (σ := su (su σ 0 2 (nI ((h + 1) % 5))) 0 3 ((su σ 0 2 (nI ((h + 1) % 5))).1 0 3 - nI 1)) (l := l.drop 1) (by simp; omega) ⟨(h + 1) % 5, hm, by rw [su_at, if_neg (by omega), su_at, if_pos ⟨rfl, rfl⟩], by simp; omega, by
      rw [su_at, if_pos ⟨rfl, rfl⟩, su_at, if_neg (by omega), e3, q]
      simp [q]
      rfl, fun k S hk => by
      have hk1 : l[k + 1]? = some S := by rw [List.getElem?_drop] at hk; rw [Nat.add_comm] at hk; exact hk
      have := hr (k + 1) S hk1
      have r2 := rb_lo ((h + 1) % 5) k
      rw [stv_out su_out (by omega), stv_out su_out (by omega), ← this]
      congr 1
      unfold rb
      omega⟩
    refine ⟨σ', a, b, fun k hk hk2 => ?_, ?_⟩
    · rw [c k hk hk2, su_ne hk, su_ne hk]
    · rw [stv_out su_out (by omega), stv_out su_out (by omega)] at d
      exact d
  · rw [if_neg (by
      rw [e3]
      show ¬ nI l.length = nI 5
      rw [j_inj (by omega) (by omega)]
      exact q), if_neg q]
    exact s_keep32 (by omega) hc0
end
section
/-! THE RELATION: numberings and orders -/
/-- the members below N are numbered 0, 1, .. -/
def Nmb (N : Nat) (m : Nat → Bool) (p : Nat → Int) : Prop :=
  (∀ i, i < N → m i = true → 0 ≤ p i ∧ p i < cnt m N) ∧ (∀ k : Nat, k < cnt m N → ∃ i, i < N ∧ m i = true ∧ p i = k) ∧ ∀ i k, i < N → k < N → m i = true → m k = true → p i = p k → i = k
theorem Nmb.cg {N : Nat} {m m' : Nat → Bool} {p p' : Nat → Int} (h : Nmb N m p) (hm : ∀ i, i < N → m' i = m i) (hp : ∀ i, i < N → m i = true → p' i = p i) : Nmb N m' p' := by
  have hc : cnt m' N = cnt m N := cnt_congr hm
  obtain ⟨h1, h2, h3⟩ := h
  refine ⟨fun i hi q => ?_, fun k hk => ?_, fun i k hi hk q1 q2 e => ?_⟩
  · rw [hm i hi] at q
    rw [hp i hi q, hc]
    exact h1 i hi q
  · obtain ⟨i, hi, q, e⟩ := h2 k (by omega)
    exact ⟨i, hi, by rw [hm i hi]; exact q, by rw [hp i hi q]; exact e⟩
  · rw [hm i hi] at q1
    rw [hm k hk] at q2
    rw [hp i hi q1, hp k hk q2] at e
    exact h3 i k hi hk q1 q2 e
theorem Nmb.ins {N : Nat} {m m' : Nat → Bool} {p p' : Nat → Int} {i0 : Nat} {k0 : Int} (h : Nmb N m p) (hi0 : i0 < N) (h0 : m i0 = false) (hk0 : 0 ≤ k0 ∧ k0 ≤ cnt m N) (h0' : m' i0 = true) (hm : ∀ i, i < N → i ≠ i0 → m' i = m i) (hp0 : p' i0 = k0) (hp : ∀ i, i < N → i ≠ i0 → m i = true → p' i = if k0 ≤ p i then p i + 1 else p i) : Nmb N m' p' ∧ cnt m' N = cnt m N + 1 := by
  have hc : cnt m' N = cnt m N + 1 := cnt_one_more hi0 (fun i hi q => (hm i hi q).symm) h0 h0'
  obtain ⟨h1, h2, h3⟩ := h
  refine ⟨⟨fun i hi q => ?_, fun k hk => ?_, fun i k hi hk q1 q2 e => ?_⟩, hc⟩
  · by_cases w : i = i0
    · rw [w, hp0]
      omega
    · rw [hm i hi w] at q
      have := h1 i hi q
      rw [hp i hi w q]
      split <;> omega
  · rcases Int.lt_trichotomy k k0 with q | q | q
    · obtain ⟨i, hi, q1, e⟩ := h2 k (by omega)
      have w : i ≠ i0 := fun z => by rw [z, h0] at q1; cases q1
      exact ⟨i, hi, by rw [hm i hi w]; exact q1, by rw [hp i hi w q1, e, if_neg (by omega)]⟩
    · exact ⟨i0, hi0, h0', by rw [hp0, q]⟩
    · obtain ⟨i, hi, q1, e⟩ := h2 (k - 1) (by omega)
      have w : i ≠ i0 := fun z => by rw [z, h0] at q1; cases q1
      exact ⟨i, hi, by rw [hm i hi w]; exact q1, by rw [hp i hi w q1, e, if_pos (by omega)]; omega⟩
  · by_cases w : i = i0
    · by_cases w2 : k = i0
      · omega
      · rw [hm k hk w2] at q2
        rw [w, hp0, hp k hk w2 q2] at e
        exfalso
        revert e
        split <;> intro e <;> omega
    · rw [hm i hi w] at q1
      by_cases w2 : k = i0
      · rw [w2, hp0, hp i hi w q1] at e
        exfalso
        revert e
        split <;> intro e <;> omega
      · rw [hm k hk w2] at q2
        rw [hp i hi w q1, hp k hk w2 q2] at e
        refine h3 i k hi hk q1 q2 ?_
        revert e
        split <;> split <;> intro e <;> omega
theorem Nmb.rem {N : Nat} {m m' : Nat → Bool} {p p' : Nat → Int} {i0 : Nat} (h : Nmb N m p) (hi0 : i0 < N) (h0 : m i0 = true) (h0' : m' i0 = false) (hm : ∀ i, i < N → i ≠ i0 → m' i = m i) (hp : ∀ i, i < N → i ≠ i0 → m i = true → p' i = if p i0 < p i then p i - 1 else p i) : Nmb N m' p' ∧ cnt m N = cnt m' N + 1 := by
  have hc : cnt m N = cnt m' N + 1 := cnt_one_more hi0 (fun i hi q => hm i hi q) h0' h0
  obtain ⟨h1, h2, h3⟩ := h
  have hb := h1 i0 hi0 h0
  refine ⟨⟨fun i hi q => ?_, fun k hk => ?_, fun i k hi hk q1 q2 e => ?_⟩, hc⟩
  · have w : i ≠ i0 := fun z => by rw [z, h0'] at q; cases q
    rw [hm i hi w] at q
    have := h1 i hi q
    have ne : p i ≠ p i0 := fun z => w (h3 i i0 hi hi0 q h0 z)
    rw [hp i hi w q]
    split <;> omega
  · by_cases q : (k : Int) < p i0
    · obtain ⟨i, hi, q1, e⟩ := h2 k (by omega)
      have w : i ≠ i0 := fun z => by rw [z] at e; omega
      exact ⟨i, hi, by rw [hm i hi w]; exact q1, by rw [hp i hi w q1, e, if_neg (by omega)]⟩
    · obtain ⟨i, hi, q1, e⟩ := h2 (k + 1) (by omega)
      have w : i ≠ i0 := fun z => by rw [z] at e; omega
      exact ⟨i, hi, by rw [hm i hi w]; exact q1, by rw [hp i hi w q1, e, if_pos (by omega)]; omega⟩
  · have w : i ≠ i0 := fun z => by rw [z, h0'] at q1; cases q1
    have w2 : k ≠ i0 := fun z => by rw [z, h0'] at q2; cases q2
    rw [hm i hi w] at q1
    rw [hm k hk w2] at q2
    have ne : p i ≠ p i0 := fun z => w (h3 i i0 hi hi0 q1 h0 z)
    have ne2 : p k ≠ p i0 := fun z => w2 (h3 k i0 hk hi0 q2 h0 z)
    rw [hp i hi w q1, hp k hk w2 q2] at e
    refine h3 i k hi hk q1 q2 ?_
    revert e
    split <;> split <;> intro e <;> omega
theorem Nmb.mov {N : Nat} {m : Nat → Bool} {p p' : Nat → Int} {i0 : Nat} {k0 : Int} (h : Nmb N m p) (hi0 : i0 < N) (h0 : m i0 = true) (hk0 : 0 ≤ k0 ∧ k0 < cnt m N) (hp0 : p' i0 = k0) (hp : ∀ i, i < N → i ≠ i0 → m i = true → p' i = p i + v_step (p i0) k0 (p i)) : Nmb N m p' := by
  obtain ⟨h1, h2, h3⟩ := h
  have hb := h1 i0 hi0 h0
  refine ⟨fun i hi q => ?_, fun k hk => ?_, fun i k hi hk q1 q2 e => ?_⟩
  · by_cases w : i = i0
    · rw [w, hp0]
      omega
    · have := h1 i hi q
      rw [hp i hi w q]
      unfold v_step
      split
      · omega
      · split <;> omega
  · by_cases q : (k : Int) = k0
    · exact ⟨i0, hi0, h0, by rw [hp0, q]⟩
    · -- who comes to k
      have key : ∀ t : Nat, t < cnt m N → (t : Int) ≠ p i0 → (t : Int) + v_step (p i0) k0 t = k → ∃ i, i < N ∧ m i = true ∧ p' i = k := by
        intro t ht hne he
        obtain ⟨i, hi, q1, e⟩ := h2 t ht
        have w : i ≠ i0 := fun z => by rw [z] at e; exact hne e.symm
        exact ⟨i, hi, q1, by rw [hp i hi w q1, e]; exact he⟩
      by_cases a : p i0 ≤ (k : Int) ∧ (k : Int) < k0
      · exact key (k + 1) (by omega) (by omega) (by unfold v_step; rw [if_pos (by omega)]; omega)
      · by_cases b : k0 < (k : Int) ∧ (k : Int) ≤ p i0
        · exact key (k - 1) (by omega) (by omega) (by unfold v_step; rw [if_neg (by omega), if_pos (by omega)]; omega)
        · exact key k hk (by omega) (by unfold v_step; rw [if_neg (by omega), if_neg (by omega)]; omega)
  · by_cases w : i = i0
    · by_cases w2 : k = i0
      · omega
      · have ne2 : p k ≠ p i0 := fun z => w2 (h3 k i0 hk hi0 q2 h0 z)
        rw [w, hp0, hp k hk w2 q2] at e
        exfalso
        revert e
        unfold v_step
        split
        · intro e; omega
        · split <;> intro e <;> omega
    · have ne : p i ≠ p i0 := fun z => w (h3 i i0 hi hi0 q1 h0 z)
      by_cases w2 : k = i0
      · rw [w2, hp0, hp i hi w q1] at e
        exfalso
        revert e
        unfold v_step
        split
        · intro e; omega
        · split <;> intro e <;> omega
      · have ne2 : p k ≠ p i0 := fun z => w2 (h3 k i0 hk hi0 q2 h0 z)
        rw [hp i hi w q1, hp k hk w2 q2] at e
        refine h3 i k hi hk q1 q2 ?_
        revert e
        unfold v_step
        split <;> split <;> (try split) <;> (try split) <;> intro e <;> omega
theorem Nmb.rep {N : Nat} {m m' : Nat → Bool} {p p' : Nat → Int} {i0 i1 : Nat} (h : Nmb N m p) (hi0 : i0 < N) (hi1 : i1 < N) (h0 : m i0 = true) (h1 : m i1 = false) (h0' : m' i0 = false) (h1' : m' i1 = true) (hm : ∀ i, i < N → i ≠ i0 → i ≠ i1 → m' i = m i) (hp1 : p' i1 = p i0) (hp : ∀ i, i < N → i ≠ i0 → i ≠ i1 → m i = true → p' i = p i) : Nmb N m' p' ∧ cnt m' N = cnt m N := by
  have ne : i0 ≠ i1 := fun z => by rw [z, h1] at h0; cases h0
  have hc : cnt m' N = cnt m N := by
    have a := cnt_one_more (c := fun i => m i && i != i0) (d := m) (n := N) hi0 (fun i _ q => by simp [q]) (by simp) h0
    have b := cnt_one_more (c := fun i => m i && i != i0) (d := m') (n := N) hi1 (fun i hi q => by
      by_cases z : i = i0
      · rw [z, h0']; simp
      · rw [hm i hi z q]; simp [z]) (by simp [h1]) h1'
    omega
  obtain ⟨a1, a2, a3⟩ := h
  have sp : ∀ i, i < N → m' i = true → (i = i1 ∧ p' i = p i0) ∨ (i ≠ i0 ∧ i ≠ i1 ∧ m i = true ∧ p' i = p i) := by
    intro i hi q
    by_cases z : i = i1
    · exact Or.inl ⟨z, by rw [z]; exact hp1⟩
    · by_cases z2 : i = i0
      · rw [z2, h0'] at q; cases q
      · rw [hm i hi z2 z] at q
        exact Or.inr ⟨z2, z, q, hp i hi z2 z q⟩
  refine ⟨⟨fun i hi q => ?_, fun k hk => ?_, fun i k hi hk q1 q2 e => ?_⟩, hc⟩
  · rw [hc]
    rcases sp i hi q with ⟨_, e⟩ | ⟨_, _, b, e⟩
    · rw [e]; exact a1 i0 hi0 h0
    · rw [e]; exact a1 i hi b
  · rw [hc] at hk
    obtain ⟨i, hi, q, e⟩ := a2 k hk
    by_cases z : i = i0
    · exact ⟨i1, hi1, h1', by rw [hp1, ← z]; exact e⟩
    · have z1 : i ≠ i1 := fun w => by rw [w, h1] at q; cases q
      exact ⟨i, hi, by rw [hm i hi z z1]; exact q, by rw [hp i hi z z1 q]; exact e⟩
  · rcases sp i hi q1 with ⟨w1, e1⟩ | ⟨n1, n2, b1, e1⟩
    · rcases sp k hk q2 with ⟨w2, e2⟩ | ⟨m1, m2, b2, e2⟩
      · omega
      · rw [e1, e2] at e
        exact absurd (a3 i0 k hi0 hk h0 b2 e).symm m1
    · rcases sp k hk q2 with ⟨w2, e2⟩ | ⟨m1, m2, b2, e2⟩
      · rw [e1, e2] at e
        exact absurd (a3 i i0 hi hi0 b1 h0 e) n1
      · rw [e1, e2] at e
        exact a3 i k hi hk b1 b2 e
/-- the order lists the members below N, each once -/
def LO (o : OD) (N : Nat) (m : Nat → Bool) : Prop := o.1 = cnt m N ∧ (∀ k : Nat, k < cnt m N → ∃ x : Nat, x < N ∧ m x = true ∧ o.2 k = x) ∧ (∀ x : Nat, x < N → m x = true → ∃ k : Nat, k < cnt m N ∧ o.2 k = x) ∧ ∀ j k, j < cnt m N → k < cnt m N → o.2 j = o.2 k → j = k
theorem LO.ok {o : OD} {N : Nat} {m : Nat → Bool} (h : LO o N m) (hN : N ≤ 12) : OkO o := by
  have := cnt_le m N
  have := h.1
  unfold OkO
  omega
theorem LO.cg {o : OD} {N : Nat} {m m' : Nat → Bool} (h : LO o N m) (hm : ∀ i, i < N → m' i = m i) : LO o N m' := by
  have hc : cnt m' N = cnt m N := cnt_congr hm
  obtain ⟨h0, h1, h2, h3⟩ := h
  refine ⟨by rw [hc]; exact h0, fun k hk => ?_, fun x hx q => ?_, fun j k hj hk => h3 j k (by omega) (by omega)⟩
  · obtain ⟨x, hx, q, e⟩ := h1 k (by omega)
    exact ⟨x, hx, by rw [hm x hx]; exact q, e⟩
  · rw [hm x hx] at q
    rw [hc]
    exact h2 x hx q
theorem LO.ix_no {o : OD} {N : Nat} {m : Nat → Bool} (h : LO o N m) {x : Nat} (hx : m x = false) : o_ix o x = -1 := by
  obtain ⟨h0, h1, _, _⟩ := h
  refine fnd_no (fun i hi => ?_)
  obtain ⟨y, hy, q, e⟩ := h1 i (by omega)
  rw [decide_eq_false_iff_not, e]
  intro z
  have : y = x := by omega
  rw [this, hx] at q
  cases q
theorem LO.ix {o : OD} {N : Nat} {m : Nat → Bool} (h : LO o N m) {x : Nat} (hx : x < N) (q : m x = true) : ∃ k : Nat, k < cnt m N ∧ o.2 k = x ∧ o_ix o x = k := by
  obtain ⟨h0, h1, h2, h3⟩ := h
  obtain ⟨k, hk, e⟩ := h2 x hx q
  refine ⟨k, hk, e, fnd_un (by omega) (by simp [e]) (fun j hj e2 => ?_)⟩
  rw [decide_eq_true_eq] at e2
  exact h3 j k (by omega) hk (by rw [e2, e])
theorem LO.lv_no {o : OD} {N : Nat} {m : Nat → Bool} (h : LO o N m) {x : Nat} (hx : m x = false) : o_lv o x = o := by
  unfold o_lv
  rw [if_pos (h.ix_no hx)]
theorem LO.lv {o : OD} {N : Nat} {m m' : Nat → Bool} (h : LO o N m) {x : Nat} (hx : x < N) (q : m x = true) (q' : m' x = false) (hm : ∀ i, i < N → i ≠ x → m' i = m i) : LO (o_lv o x) N m' := by
  obtain ⟨k0, hk0, e0, ei⟩ := h.ix hx q
  have hc : cnt m N = cnt m' N + 1 := cnt_one_more hx (fun i hi z => hm i hi z) q' q
  obtain ⟨h0, h1, h2, h3⟩ := h
  unfold o_lv
  rw [if_neg (by omega), ei]
  have val : ∀ k : Nat, k < cnt m' N → (if (k0 : Int) ≤ k ∧ (k : Int) < o.1 - 1 then o.2 (k + 1) else o.2 k) = o.2 (if k0 ≤ k then k + 1 else k) := by
    intro k hk
    by_cases z : k0 ≤ k
    · rw [if_pos z, if_pos (by omega)]
    · rw [if_neg z, if_neg (by omega)]
  refine ⟨by show o.1 - 1 = _; omega, fun k hk => ?_, fun y hy qy => ?_, fun j k hj hk e => ?_⟩
  · show ∃ x, x < N ∧ m' x = true ∧ (if (k0 : Int) ≤ k ∧ (k : Int) < o.1 - 1 then o.2 (k + 1) else o.2 k) = _
    obtain ⟨y, hy, qy, ey⟩ := h1 (if k0 ≤ k then k + 1 else k) (by split <;> omega)
    have ny : y ≠ x := by
      intro z
      have := h3 (if k0 ≤ k then k + 1 else k) k0 (by split <;> omega) hk0 (by rw [ey, e0, z])
      revert this
      split <;> intro this <;> omega
    exact ⟨y, hy, by rw [hm y hy ny]; exact qy, by rw [val k hk, ey]⟩
  · have ny : y ≠ x := fun z => by rw [z, q'] at qy; cases qy
    rw [hm y hy ny] at qy
    obtain ⟨k, hk, e⟩ := h2 y hy qy
    have nk : k ≠ k0 := fun z => by rw [z, e0] at e; omega
    by_cases z : k0 < k
    · refine ⟨k - 1, by omega, ?_⟩
      show (if (k0 : Int) ≤ ((k - 1 : Nat) : Int) ∧ ((k - 1 : Nat) : Int) < o.1 - 1 then o.2 (k - 1 + 1) else o.2 (k - 1)) = _
      rw [val (k - 1) (by omega), if_pos (by omega), Nat.sub_add_cancel (by omega), e]
    · refine ⟨k, by omega, ?_⟩
      show (if (k0 : Int) ≤ k ∧ (k : Int) < o.1 - 1 then o.2 (k + 1) else o.2 k) = _
      rw [val k (by omega), if_neg (by omega), e]
  · have e' : o.2 (if k0 ≤ j then j + 1 else j) = o.2 (if k0 ≤ k then k + 1 else k) := by
      rw [← val j hj, ← val k hk]
      exact e
    have := h3 _ _ (by split <;> omega) (by split <;> omega) e'
    revert this
    split <;> split <;> intro this <;> omega
theorem LO.pl_new {o : OD} {N : Nat} {m m' : Nat → Bool} (h : LO o N m) (hN : N ≤ 12) {x : Nat} (hx : x < N) (q : m x = false) (q' : m' x = true) (hm : ∀ i, i < N → i ≠ x → m' i = m i) : LO (o_pl o x) N m' := by
  have hc : cnt m' N = cnt m N + 1 := cnt_one_more hx (fun i hi z => (hm i hi z).symm) q q'
  have hle := cnt_le m' N
  unfold o_pl
  rw [h.lv_no q]
  obtain ⟨h0, h1, h2, h3⟩ := h
  rw [if_neg (by omega)]
  refine ⟨by show o.1 + 1 = _; omega, fun k hk => ?_, fun y hy qy => ?_, fun j k hj hk e => ?_⟩
  · show ∃ y, y < N ∧ m' y = true ∧ (if (k : Int) = o.1 then (x : Int) else o.2 k) = _
    by_cases z : (k : Int) = o.1
    · exact ⟨x, hx, q', by rw [if_pos z]⟩
    · obtain ⟨y, hy, qy, ey⟩ := h1 k (by omega)
      have ny : y ≠ x := fun w => by rw [w, q] at qy; cases qy
      exact ⟨y, hy, by rw [hm y hy ny]; exact qy, by rw [if_neg z, ey]⟩
  · show ∃ k : Nat, k < _ ∧ (if (k : Int) = o.1 then (x : Int) else o.2 k) = _
    by_cases z : y = x
    · exact ⟨cnt m N, by omega, by rw [if_pos (by omega), z]⟩
    · rw [hm y hy z] at qy
      obtain ⟨k, hk, e⟩ := h2 y hy qy
      exact ⟨k, by omega, by rw [if_neg (by omega), e]⟩
  · revert e
    show (if (j : Int) = o.1 then (x : Int) else o.2 j) = (if (k : Int) = o.1 then (x : Int) else o.2 k) → _
    have no : ∀ k : Nat, k < cnt m N → o.2 k ≠ x := by
      intro k hk z
      obtain ⟨y, hy, qy, ey⟩ := h1 k hk
      have : y = x := by omega
      rw [this, q] at qy
      cases qy
    by_cases z1 : (j : Int) = o.1
    · by_cases z2 : (k : Int) = o.1
      · intro _; omega
      · rw [if_pos z1, if_neg z2]
        intro e
        exact absurd e.symm (no k (by omega))
    · by_cases z2 : (k : Int) = o.1
      · rw [if_neg z1, if_pos z2]
        intro e
        exact absurd e (no j (by omega))
      · rw [if_neg z1, if_neg z2]
        exact h3 j k (by omega) (by omega)
theorem LO.pl_old {o : OD} {N : Nat} {m : Nat → Bool} (h : LO o N m) (hN : N ≤ 12) {x : Nat} (hx : x < N) (q : m x = true) : LO (o_pl o x) N m := by
  have h1 := h.lv (m' := fun i => m i && i != x) hx q (by simp) (fun i _ z => by simp [z])
  have h2 := h1.pl_new (m' := m) hN hx (by simp) q (fun i _ z => by simp [z])
  unfold o_pl at h2 ⊢
  rw [h1.lv_no (x := x) (by simp)] at h2
  exact h2
theorem LO.pl {o : OD} {N : Nat} {m m' : Nat → Bool} (h : LO o N m) (hN : N ≤ 12) {x : Nat} (hx : x < N) (q' : m' x = true) (hm : ∀ i, i < N → i ≠ x → m' i = m i) : LO (o_pl o x) N m' := by
  cases q : m x
  · exact h.pl_new hN hx q q' hm
  · refine (h.pl_old hN hx q).cg (fun i hi => ?_)
    by_cases z : i = x
    · rw [z, q', q]
    · exact hm i hi z
/-- the last of an order that x has been put behind is x -/
theorem o_pl_last {o : OD} (h : OkO o) (x : Int) (h2 : (o_lv o x).1 < 12) : 1 ≤ (o_pl o x).1 ∧ (o_pl o x).2 ((o_pl o x).1.toNat - 1) = x := by
  have h1 := (o_lv_ok h x).1
  unfold OkO at h1
  unfold o_pl
  rw [if_neg (by omega)]
  refine ⟨by show 1 ≤ (o_lv o x).1 + 1; omega, ?_⟩
  show (if (((((o_lv o x).1 + 1).toNat - 1 : Nat)) : Int) = (o_lv o x).1 then x else _) = _
  rw [if_pos (by omega)]
theorem LO.pf {o : OD} {N : Nat} {m m' : Nat → Bool} (h : LO o N m) (hN : N ≤ 12) {x : Nat} (hx : x < N) (q' : m' x = true) (hm : ∀ i, i < N → i ≠ x → m' i = m i) : LO (o_pf o x) N m' := by
  have hl := h.pl hN hx q' hm
  have hlv : (o_lv o x).1 < 12 := by
    cases q : m x
    · have e := h.lv_no q
      have hc : cnt m' N = cnt m N + 1 := cnt_one_more hx (fun i hi z => (hm i hi z).symm) q q'
      have hle := cnt_le m' N
      rw [e]
      have := h.1
      omega
    · have h1 := h.lv (m' := fun i => m i && i != x) hx q (by simp) (fun i _ z => by simp [z])
      have hc : cnt m N = cnt (fun i => m i && i != x) N + 1 := cnt_one_more hx (fun i hi z => by simp [z]) (by simp) q
      have hle := cnt_le m N
      have := h1.1
      omega
  obtain ⟨l1, l2⟩ := o_pl_last (h.ok hN) x hlv
  obtain ⟨h0, h1, h2, h3⟩ := hl
  have n1 : 1 ≤ cnt m' N := by omega
  rw [show (o_pl o ↑x).1.toNat = cnt m' N by omega] at l2
  have val : ∀ k : Nat, k < cnt m' N → (o_pf o x).2 k = (o_pl o x).2 (if k = 0 then cnt m' N - 1 else k - 1) := by
    intro k hk
    show (if k = 0 then (x : Int) else if (k : Int) < (o_pl o x).1 then (o_pl o x).2 (k - 1) else (o_pl o x).2 k) = _
    by_cases z : k = 0
    · rw [if_pos z, if_pos z, l2]
    · rw [if_neg z, if_neg z, if_pos (by omega)]
  refine ⟨h0, fun k hk => ?_, fun y hy qy => ?_, fun j k hj hk e => ?_⟩
  · rw [val k hk]
    exact h1 _ (by split <;> omega)
  · obtain ⟨k, hk, e⟩ := h2 y hy qy
    by_cases z : k = cnt m' N - 1
    · exact ⟨0, by omega, by rw [val 0 (by omega), if_pos rfl, ← z, e]⟩
    · exact ⟨k + 1, by omega, by rw [val (k + 1) (by omega), if_neg (by omega), Nat.add_sub_cancel, e]⟩
  · rw [val j hj, val k hk] at e
    have := h3 _ _ (by split <;> omega) (by split <;> omega) e
    revert this
    split <;> split <;> intro this <;> omega
end
section
/-! THE RELATION: trees -/
/-- d: ranks, wn: the windows of the nodes; the splits of X may have less than two children -/
def Tree (V : VW) (d : Nat → Nat) (wn : Nat → Int) (X : Nat → Bool) : Prop :=
  (∀ n, n < 23 → 0 ≤ V 8 n ∧ V 8 n ≤ 3) ∧
  (∀ n, n < 23 → V 8 n = 3 → V 9 n = -1) ∧
  (∀ n, n < 23 → V 9 n ≠ -1 → ∃ s : Nat, s < 23 ∧ V 9 n = s ∧ V 8 s ≤ 1 ∧ d s < d n ∧ wn n = wn s) ∧
  (∀ n, n < 23 → V 8 n ≠ 3 → V 9 n = -1 → ∃ w : Nat, w < 5 ∧ wn n = w ∧ V 5 w = n) ∧
  (∀ w : Nat, w < 5 → V 5 w = -1 ∨ ∃ n : Nat, n < 23 ∧ V 5 w = n ∧ V 8 n ≠ 3 ∧ V 9 n = -1 ∧ wn n = w) ∧
  (∀ s : Nat, s < 23 → V 8 s ≤ 1 → Nmb 23 (fun n => decide (V 9 n = s)) (V 10) ∧ (X s = false → 2 ≤ cnt (fun n => decide (V 9 n = s)) 23)) ∧
  ∀ n, n < 23 → V 9 n ≠ -1 → 1 ≤ V 11 n ∧ V 11 n ≤ 1000000
section TR
variable {V V' : VW} {d : Nat → Nat} {wn : Nat → Int} {X : Nat → Bool}
theorem Tree.ki (h : Tree V d wn X) {n : Nat} (hn : n < 23) : 0 ≤ V 8 n ∧ V 8 n ≤ 3 := h.1 n hn
theorem Tree.fr (h : Tree V d wn X) {n : Nat} (hn : n < 23) (q : V 8 n = 3) : V 9 n = -1 := h.2.1 n hn q
theorem Tree.pa (h : Tree V d wn X) {n : Nat} (hn : n < 23) (q : V 9 n ≠ -1) : ∃ s : Nat, s < 23 ∧ V 9 n = s ∧ V 8 s ≤ 1 ∧ d s < d n ∧ wn n = wn s := h.2.2.1 n hn q
theorem Tree.ro (h : Tree V d wn X) {n : Nat} (hn : n < 23) (q : V 8 n ≠ 3) (q2 : V 9 n = -1) : ∃ w : Nat, w < 5 ∧ wn n = w ∧ V 5 w = n := h.2.2.2.1 n hn q q2
theorem Tree.wi (h : Tree V d wn X) {w : Nat} (hw : w < 5) : V 5 w = -1 ∨ ∃ n : Nat, n < 23 ∧ V 5 w = n ∧ V 8 n ≠ 3 ∧ V 9 n = -1 ∧ wn n = w := h.2.2.2.2.1 w hw
theorem Tree.sp (h : Tree V d wn X) {s : Nat} (hs : s < 23) (q : V 8 s ≤ 1) : Nmb 23 (fun n => decide (V 9 n = s)) (V 10) ∧ (X s = false → 2 ≤ cnt (fun n => decide (V 9 n = s)) 23) := h.2.2.2.2.2.1 s hs q
theorem Tree.we (h : Tree V d wn X) {n : Nat} (hn : n < 23) (q : V 9 n ≠ -1) : 1 ≤ V 11 n ∧ V 11 n ≤ 1000000 := h.2.2.2.2.2.2 n hn q
theorem Tree.us (h : Tree V d wn X) {n : Nat} (hn : n < 23) (q : V 9 n ≠ -1) : V 8 n ≠ 3 := fun z => q (h.fr hn z)
theorem Tree.par {n s : Nat} (h : Tree V d wn X) (hn : n < 23) (q : V 9 n = s) : s < 23 ∧ V 8 s ≤ 1 ∧ d s < d n ∧ wn n = wn s := by
  obtain ⟨t, h1, h2, h3, h4, h5⟩ := h.pa hn (by omega)
  have : t = s := by omega
  subst this
  exact ⟨h1, h3, h4, h5⟩
theorem Tree.cg (h : Tree V d wn X) (h8 : ∀ n, n < 23 → V' 8 n = V 8 n) (h9 : ∀ n, n < 23 → V' 9 n = V 9 n) (h10 : ∀ n, n < 23 → V' 10 n = V 10 n) (h11 : ∀ n, n < 23 → V 9 n ≠ -1 → 1 ≤ V' 11 n ∧ V' 11 n ≤ 1000000) (h5 : ∀ w, w < 5 → V' 5 w = V 5 w) : Tree V' d wn X := by
  refine ⟨fun n hn => by rw [h8 n hn]; exact h.ki hn, fun n hn q => ?_, fun n hn q => ?_, fun n hn q q2 => ?_, fun w hw => ?_, fun s hs q => ?_, fun n hn q => ?_⟩
  · rw [h9 n hn]
    exact h.fr hn (by rw [← h8 n hn]; exact q)
  · rw [h9 n hn] at q ⊢
    obtain ⟨s, a, b, c⟩ := h.pa hn q
    exact ⟨s, a, b, by rw [h8 s a]; exact c⟩
  · rw [h8 n hn] at q
    rw [h9 n hn] at q2
    obtain ⟨w, a, b, c⟩ := h.ro hn q q2
    exact ⟨w, a, b, by rw [h5 w a]; exact c⟩
  · rw [h5 w hw]
    rcases h.wi hw with a | ⟨n, hn, a, b, c, e⟩
    · exact Or.inl a
    · exact Or.inr ⟨n, hn, a, by rw [h8 n hn]; exact b, by rw [h9 n hn]; exact c, e⟩
  · rw [h8 s hs] at q
    obtain ⟨a, b⟩ := h.sp hs q
    have c : ∀ i, i < 23 → decide (V' 9 i = (s : Int)) = decide (V 9 i = (s : Int)) := fun i hi => by rw [h9 i hi]
    exact ⟨a.cg c (fun i hi _ => h10 i hi), fun q => by rw [cnt_congr c]; exact b q⟩
  · rw [h9 n hn] at q
    exact h11 n hn q
/-- up from node n -/
theorem v_top_nx (V : VW) : ∀ (k : Nat) (n : Int), v_top V (k + 1) n = if ga (V 9) 23 (v_top V k n) = -1 then v_top V k n else ga (V 9) 23 (v_top V k n)
  | 0, n => rfl
  | k + 1, n => by
    show (if ga (V 9) 23 n = -1 then n else v_top V (k + 1) (ga (V 9) 23 n)) = _
    by_cases q : ga (V 9) 23 n = -1
    · rw [if_pos q]
      have : v_top V (k + 1) n = n := by unfold v_top; rw [if_pos q]
      rw [this, if_pos q]
    · rw [if_neg q, v_top_nx V k]
      have : v_top V (k + 1) n = v_top V k (ga (V 9) 23 n) := by
        show (if ga (V 9) 23 n = -1 then n else _) = _
        rw [if_neg q]
      rw [this]
theorem v_top_st (V : VW) {n : Int} {k : Nat} (h : ga (V 9) 23 (v_top V k n) = -1) : ∀ m, v_top V (k + m) n = v_top V k n
  | 0 => rfl
  | m + 1 => by
    show v_top V (k + m + 1) n = _
    rw [v_top_nx, v_top_st V h m, if_pos h]
theorem Tree.nx (h : Tree V d wn X) {n : Nat} (hn : n < 23) (hu : V 8 n ≠ 3) : ∀ k, ∃ m : Nat, m < 23 ∧ v_top V k n = m ∧ V 8 m ≠ 3 ∧ wn m = wn n
  | 0 => ⟨n, hn, rfl, hu, rfl⟩
  | k + 1 => by
    obtain ⟨m, h1, h2, h3, h4⟩ := h.nx hn hu k
    rw [v_top_nx, h2, ga_in h1]
    by_cases q : V 9 m = -1
    · rw [if_pos q]
      exact ⟨m, h1, rfl, h3, h4⟩
    · rw [if_neg q]
      obtain ⟨s, a, b, c, e, f⟩ := h.pa h1 q
      exact ⟨s, a, b, by omega, by rw [← f, h4]⟩
/-- no node lies deeper than 22 -/
theorem Tree.dep (h : Tree V d wn X) {n : Nat} (hn : n < 23) (hu : V 8 n ≠ 3) : ∃ (k m : Nat), k ≤ 22 ∧ m < 23 ∧ v_top V k n = m ∧ V 8 m ≠ 3 ∧ V 9 m = -1 ∧ wn m = wn n := by
  refine Classical.byContradiction (fun no => ?_)
  have up1 : ∀ k, k ≤ 22 → ∀ m : Nat, m < 23 → v_top V k n = m → V 9 m ≠ -1 := by
    intro k hk m hm e q
    obtain ⟨m', a, b, c, e'⟩ := h.nx hn hu k
    have : m' = m := by omega
    subst this
    exact no ⟨k, m', hk, a, b, c, q, e'⟩
  have dec : ∀ k j, k < j → j ≤ 23 → d (v_top V j n).toNat < d (v_top V k n).toNat := by
    intro k j hkj
    induction j with
    | zero => omega
    | succ j ih =>
      intro hj
      obtain ⟨m, a, b, c, e⟩ := h.nx hn hu j
      have q := up1 j (by omega) m a b
      have e2 : v_top V (j + 1) n = V 9 m := by rw [v_top_nx, b, ga_in a, if_neg q]
      obtain ⟨s, s1, s2, s3, s4, s5⟩ := h.pa a q
      have e3 : d (v_top V (j + 1) n).toNat < d (v_top V j n).toNat := by
        rw [e2, s2, b]
        exact s4
      by_cases z : k = j
      · rw [z]; exact e3
      · have := ih (by omega) (by omega)
        omega
  obtain ⟨i, k, h1, h2, h3⟩ := pigeon 23 (fun i => (v_top V i n).toNat) (fun i _ => by
    obtain ⟨m, a, b, c, e⟩ := h.nx hn hu i
    show (v_top V i n).toNat < 23
    omega)
  have := dec i k h1 (by omega)
  have e : (v_top V i n).toNat = (v_top V k n).toNat := h3
  rw [e] at this
  omega
theorem Tree.top (h : Tree V d wn X) {n : Nat} (hn : n < 23) (hu : V 8 n ≠ 3) : ∃ m : Nat, m < 23 ∧ v_top V 23 n = m ∧ V 8 m ≠ 3 ∧ V 9 m = -1 ∧ wn m = wn n := by
  obtain ⟨k, m, h1, h2, h3, h4, h5, h6⟩ := h.dep hn hu
  refine ⟨m, h2, ?_, h4, h5, h6⟩
  have := v_top_st V (n := n) (k := k) (by rw [h3, ga_in h2]; exact h5) (23 - k)
  rw [show k + (23 - k) = 23 by omega] at this
  rw [this, h3]
theorem Tree.un (h : Tree V d wn X) {w w' : Nat} (hw : w < 5) (hw' : w' < 5) {n : Nat} (e : V 5 w = n) (e' : V 5 w' = n) : w = w' := by
  rcases h.wi hw with a | ⟨m, _, a, _, _, a5⟩
  · omega
  · rcases h.wi hw' with b | ⟨m', _, b, _, _, b5⟩
    · omega
    · have : m = m' := by omega
      subst this
      omega
theorem Tree.wo (h : Tree V d wn X) {n : Nat} (hn : n < 23) (hu : V 8 n ≠ 3) : v_wo V n = wn n := by
  obtain ⟨m, h1, h2, h3, h4, h5⟩ := h.top hn hu
  obtain ⟨w, w1, w2, w3⟩ := h.ro h1 h3 h4
  unfold v_wo
  rw [h2, if_neg (by omega), ← h5, w2]
  refine fnd_un w1 (by simp [w3]) (fun k hk e => ?_)
  rw [decide_eq_true_eq] at e
  exact h.un hk w1 e w3
theorem v_wo_m1 (V : VW) : v_wo V (-1) = -1 := by
  have : v_top V 23 (-1) = -1 := by
    show (if ga (V 9) 23 (-1) = -1 then (-1 : Int) else _) = _
    rw [if_pos ga_m1]
  unfold v_wo
  rw [this, if_pos rfl]
theorem Tree.wr5 (h : Tree V d wn X) {n : Nat} (hn : n < 23) (hu : V 8 n ≠ 3) : ∃ w : Nat, w < 5 ∧ wn n = w ∧ V 5 w ≠ -1 := by
  obtain ⟨m, h1, h2, h3, h4, h5⟩ := h.top hn hu
  obtain ⟨w, w1, w2, w3⟩ := h.ro h1 h3 h4
  exact ⟨w, w1, by rw [← h5, w2], by omega⟩
/-! steps between trees -/
/-- a group goes from its split -/
theorem Tree.leave (h : Tree V d wn X) {g s : Nat} (hg : g < 23) (hk : V 8 g = 2) (hs : V 9 g = s) (r8 : ∀ i, i < 23 → V' 8 i = if i = g then 3 else V 8 i) (r9 : ∀ i, i < 23 → V' 9 i = if i = g then -1 else V 9 i) (r10 : ∀ i, i < 23 → i ≠ g → V 9 i ≠ -1 → V' 10 i = if V 9 i = s ∧ V 10 g < V 10 i then V 10 i - 1 else V 10 i) (r11 : ∀ i, i < 23 → V' 11 i = V 11 i) (r5 : ∀ w, w < 5 → V' 5 w = V 5 w) : Tree V' d wn (fun k => X k || k == s) := by
  obtain ⟨s1, s2, s3, s4⟩ := h.par hg hs
  have nog : ∀ i, i < 23 → V 9 i ≠ g := fun i hi q => by
    have := (h.par hi q).2.1
    omega
  refine ⟨fun n hn => ?_, fun n hn q => ?_, fun n hn q => ?_, fun n hn q q2 => ?_, fun w hw => ?_, fun t ht q => ?_, fun n hn q => ?_⟩
  · rw [r8 n hn]
    have := h.ki hn
    split <;> omega
  · rw [r9 n hn]
    rw [r8 n hn] at q
    by_cases e : n = g
    · rw [if_pos e]
    · rw [if_neg e] at q ⊢
      exact h.fr hn q
  · rw [r9 n hn] at q ⊢
    by_cases e : n = g
    · rw [if_pos e] at q
      exact absurd rfl q
    · rw [if_neg e] at q ⊢
      obtain ⟨t, a, b, c, f⟩ := h.pa hn q
      refine ⟨t, a, b, ?_, f⟩
      rw [r8 t a, if_neg (fun z => by rw [z] at b; exact nog n hn b)]
      exact c
  · rw [r8 n hn] at q
    rw [r9 n hn] at q2
    by_cases e : n = g
    · rw [if_pos e] at q
      exact absurd rfl q
    · rw [if_neg e] at q q2
      obtain ⟨w, a, b, c⟩ := h.ro hn q q2
      exact ⟨w, a, b, by rw [r5 w a]; exact c⟩
  · rw [r5 w hw]
    rcases h.wi hw with a | ⟨n, hn, a, b, c, e⟩
    · exact Or.inl a
    · have ne : n ≠ g := fun z => by rw [z] at c; omega
      exact Or.inr ⟨n, hn, a, by rw [r8 n hn, if_neg ne]; exact b, by rw [r9 n hn, if_neg ne]; exact c, e⟩
  · rw [r8 t ht] at q
    by_cases e : t = g
    · rw [if_pos e] at q
      omega
    · rw [if_neg e] at q
      obtain ⟨a, b⟩ := h.sp ht q
      by_cases e2 : t = s
      · subst e2
        have := a.rem (m' := fun n => decide (V' 9 n = (t : Int))) (p' := V' 10) hg (by simp [hs]) (by rw [r9 g hg, if_pos rfl]; simp) (fun i hi ne => by rw [r9 i hi, if_neg ne]) (fun i hi ne mi => by
          rw [decide_eq_true_eq] at mi
          rw [r10 i hi ne (by omega)]
          by_cases z : V 10 g < V 10 i
          · rw [if_pos z, if_pos ⟨mi, z⟩]
          · rw [if_neg z, if_neg (fun y => z y.2)])
        exact ⟨this.1, fun q => by simp at q⟩
      · have c : ∀ i, i < 23 → decide (V' 9 i = (t : Int)) = decide (V 9 i = (t : Int)) := fun i hi => by
          rw [r9 i hi]
          by_cases z : i = g
          · rw [if_pos z, z, hs]
            have h1 : ¬ (-1 : Int) = t := by omega
            have h2 : ¬ (s : Int) = t := by omega
            simp [h1, h2]
          · rw [if_neg z]
        refine ⟨a.cg c (fun i hi mi => ?_), fun q => by rw [cnt_congr c]; exact b (by simpa using (by simp at q; exact q.1))⟩
        rw [decide_eq_true_eq] at mi
        have ne : i ≠ g := fun z => by rw [z, hs] at mi; omega
        rw [r10 i hi ne (by omega), if_neg (fun z => by omega)]
  · rw [r9 n hn] at q
    by_cases e : n = g
    · rw [if_pos e] at q
      exact absurd rfl q
    · rw [if_neg e] at q
      rw [r11 n hn]
      exact h.we hn q
/-- a split with one child gives it its place -/
theorem Tree.collapse (h : Tree V d wn X) {s m : Nat} (hs : s < 23) (hk : V 8 s ≤ 1) (hm : m < 23) (hp : V 9 m = s) (h1 : cnt (fun n => decide (V 9 n = s)) 23 = 1) (r8 : ∀ i, i < 23 → V' 8 i = if i = s then 3 else V 8 i) (r9 : ∀ i, i < 23 → V' 9 i = if i = s then -1 else if i = m then V 9 s else V 9 i) (r10 : ∀ i, i < 23 → V' 9 i ≠ -1 → V' 10 i = if i = m then V 10 s else V 10 i) (r11 : ∀ i, i < 23 → V' 9 i ≠ -1 → V' 11 i = if i = m then V 11 s else V 11 i) (r5 : ∀ w, w < 5 → V' 5 w = if V 9 s = -1 ∧ V 5 w = s then (m : Int) else V 5 w) : Tree V' d wn (fun k => X k && k != s) := by
  obtain ⟨-, -, m3, m4⟩ := h.par hm hp
  have nms : m ≠ s := fun z => by rw [z] at m3; omega
  have mu : V 8 m ≠ 3 := h.us hm (by omega)
  have only : ∀ i, i < 23 → V 9 i = s → i = m := fun i hi q => cnt_uniq (c := fun n => decide (V 9 n = (s : Int))) (n := 23) (by omega) hi hm (by simp [q]) (by simp [hp])
  refine ⟨fun n hn => ?_, fun n hn q => ?_, fun n hn q => ?_, fun n hn q q2 => ?_, fun w hw => ?_, fun t ht q => ?_, fun n hn q => ?_⟩
  · rw [r8 n hn]
    have := h.ki hn
    split <;> omega
  · rw [r9 n hn]
    rw [r8 n hn] at q
    by_cases e : n = s
    · rw [if_pos e]
    · rw [if_neg e] at q ⊢
      rw [if_neg (fun z => by rw [z] at q; exact mu q)]
      exact h.fr hn q
  · rw [r9 n hn] at q ⊢
    by_cases e : n = s
    · rw [if_pos e] at q
      exact absurd rfl q
    · rw [if_neg e] at q ⊢
      by_cases e2 : n = m
      · rw [if_pos e2] at q ⊢
        obtain ⟨t, a, b, c, f, g⟩ := h.pa hs q
        have nts : t ≠ s := fun z => by rw [z] at f; omega
        exact ⟨t, a, b, by rw [r8 t a, if_neg nts]; exact c, by rw [e2]; omega, by rw [e2, m4, g]⟩
      · rw [if_neg e2] at q ⊢
        obtain ⟨t, a, b, c, f, g⟩ := h.pa hn q
        have nts : t ≠ s := fun z => by rw [z] at b; exact e2 (only n hn b)
        exact ⟨t, a, b, by rw [r8 t a, if_neg nts]; exact c, f, g⟩
  · rw [r8 n hn] at q
    rw [r9 n hn] at q2
    by_cases e : n = s
    · rw [if_pos e] at q
      exact absurd rfl q
    · rw [if_neg e] at q q2
      by_cases e2 : n = m
      · rw [if_pos e2] at q2
        obtain ⟨w, a, b, c⟩ := h.ro hs (by omega) q2
        exact ⟨w, a, by rw [e2, m4, b], by rw [r5 w a, if_pos ⟨q2, c⟩, e2]⟩
      · rw [if_neg e2] at q2
        obtain ⟨w, a, b, c⟩ := h.ro hn q q2
        exact ⟨w, a, b, by rw [r5 w a, if_neg (fun z => by omega)]; exact c⟩
  · rw [r5 w hw]
    rcases h.wi hw with a | ⟨n, hn, a, b, c, e⟩
    · exact Or.inl (by rw [if_neg (fun z => by omega)]; exact a)
    · by_cases z : n = s
      · subst z
        rw [if_pos ⟨c, a⟩]
        exact Or.inr ⟨m, hm, rfl, by rw [r8 m hm, if_neg nms]; exact mu, by rw [r9 m hm, if_neg nms, if_pos rfl]; exact c, by rw [m4, e]⟩
      · rw [if_neg (fun y => z (by omega))]
        have nm : n ≠ m := fun y => by rw [y, hp] at c; omega
        exact Or.inr ⟨n, hn, a, by rw [r8 n hn, if_neg z]; exact b, by rw [r9 n hn, if_neg z, if_neg nm]; exact c, e⟩
  · rw [r8 t ht] at q
    by_cases e : t = s
    · rw [if_pos e] at q
      omega
    · rw [if_neg e] at q
      obtain ⟨a, b⟩ := h.sp ht q
      have xs : (X t && t != s) = false → X t = false := fun z => by simpa [e] using z
      by_cases e2 : V 9 s = t
      · have := a.rep (m' := fun n => decide (V' 9 n = (t : Int))) (p' := V' 10) hs hm (by simp [e2]) (by simp [hp]; omega) (by rw [r9 s hs, if_pos rfl]; simp) (by rw [r9 m hm, if_neg nms, if_pos rfl]; simp [e2]) (fun i hi n1 n2 => by rw [r9 i hi, if_neg n1, if_neg n2]) (by rw [r10 m hm (by rw [r9 m hm, if_neg nms, if_pos rfl]; omega), if_pos rfl]) (fun i hi n1 n2 mi => by
          rw [decide_eq_true_eq] at mi
          rw [r10 i hi (by rw [r9 i hi, if_neg n1, if_neg n2]; omega), if_neg n2])
        exact ⟨this.1, fun q => by rw [this.2]; exact b (xs q)⟩
      · have c : ∀ i, i < 23 → decide (V' 9 i = (t : Int)) = decide (V 9 i = (t : Int)) := fun i hi => by
          rw [r9 i hi]
          by_cases z : i = s
          · rw [if_pos z, z]
            have h1 : ¬ (-1 : Int) = t := by omega
            simp [h1, e2]
          · rw [if_neg z]
            by_cases z2 : i = m
            · rw [if_pos z2, z2, hp]
              have h1 : ¬ (s : Int) = t := by omega
              simp [h1, e2]
            · rw [if_neg z2]
        refine ⟨a.cg c (fun i hi mi => ?_), fun q => by rw [cnt_congr c]; exact b (xs q)⟩
        have mi' := mi
        rw [← c i hi, decide_eq_true_eq] at mi'
        rw [decide_eq_true_eq] at mi
        rw [r10 i hi (by omega), if_neg (fun z => by rw [z, hp] at mi; omega)]
  · have q' := q
    rw [r9 n hn] at q
    by_cases e : n = s
    · rw [if_pos e] at q
      exact absurd rfl q
    · rw [if_neg e] at q
      rw [r11 n hn q']
      by_cases e2 : n = m
      · rw [if_pos e2] at q ⊢
        exact h.we hs q
      · rw [if_neg e2] at q ⊢
        exact h.we hn q
/-- a window's only group goes -/
theorem Tree.close (h : Tree V d wn X) {g w : Nat} (hg : g < 23) (hk : V 8 g = 2) (hp : V 9 g = -1) (hw : w < 5) (hr : V 5 w = g) (r8 : ∀ i, i < 23 → V' 8 i = if i = g then 3 else V 8 i) (r9 : ∀ i, i < 23 → V' 9 i = V 9 i) (r10 : ∀ i, i < 23 → V' 10 i = V 10 i) (r11 : ∀ i, i < 23 → V' 11 i = V 11 i) (r5 : ∀ i, i < 5 → V' 5 i = if i = w then -1 else V 5 i) : Tree V' d wn X := by
  have nog : ∀ i, i < 23 → V 9 i ≠ g := fun i hi q => by
    have := (h.par hi q).2.1
    omega
  refine ⟨fun n hn => ?_, fun n hn q => ?_, fun n hn q => ?_, fun n hn q q2 => ?_, fun v hv => ?_, fun t ht q => ?_, fun n hn q => ?_⟩
  · rw [r8 n hn]
    have := h.ki hn
    split <;> omega
  · rw [r9 n hn]
    rw [r8 n hn] at q
    by_cases e : n = g
    · rw [e]; exact hp
    · rw [if_neg e] at q
      exact h.fr hn q
  · rw [r9 n hn] at q ⊢
    obtain ⟨t, a, b, c, f⟩ := h.pa hn q
    refine ⟨t, a, b, ?_, f⟩
    rw [r8 t a, if_neg (fun z => by rw [z] at b; exact nog n hn b)]
    exact c
  · rw [r8 n hn] at q
    rw [r9 n hn] at q2
    by_cases e : n = g
    · rw [if_pos e] at q
      exact absurd rfl q
    · rw [if_neg e] at q
      obtain ⟨v, a, b, c⟩ := h.ro hn q q2
      exact ⟨v, a, b, by rw [r5 v a, if_neg (fun z => by rw [z, hr] at c; omega)]; exact c⟩
  · rw [r5 v hv]
    by_cases e : v = w
    · exact Or.inl (if_pos e)
    · rw [if_neg e]
      rcases h.wi hv with a | ⟨n, hn, a, b, c, f⟩
      · exact Or.inl a
      · have ne : n ≠ g := fun z => by rw [z] at a; exact e (h.un hv hw a hr)
        exact Or.inr ⟨n, hn, a, by rw [r8 n hn, if_neg ne]; exact b, by rw [r9 n hn]; exact c, f⟩
  · rw [r8 t ht] at q
    by_cases e : t = g
    · rw [if_pos e] at q
      omega
    · rw [if_neg e] at q
      obtain ⟨a, b⟩ := h.sp ht q
      have c : ∀ i, i < 23 → decide (V' 9 i = (t : Int)) = decide (V 9 i = (t : Int)) := fun i hi => by rw [r9 i hi]
      exact ⟨a.cg c (fun i hi _ => r10 i hi), fun q => by rw [cnt_congr c]; exact b q⟩
  · rw [r9 n hn] at q
    rw [r11 n hn]
    exact h.we hn q
end TR
end
section
/-! THE RELATION: trees (2): new nodes -/
theorem Nmb.emp {N : Nat} {m : Nat → Bool} {p : Nat → Int} (h : ∀ i, i < N → m i = false) : Nmb N m p ∧ cnt m N = 0 := by
  have hc : cnt m N = 0 := cnt_zero.mpr h
  refine ⟨⟨fun i hi q => ?_, fun k hk => absurd hk (by omega), fun i k hi _ q => ?_⟩, hc⟩
  · rw [h i hi] at q; cases q
  · rw [h i hi] at q; cases q
section TN
variable {V V' : VW} {d : Nat → Nat} {wn : Nat → Int} {X : Nat → Bool}
theorem Tree.nof (h : Tree V d wn X) {f : Nat} (hf : f < 23) (hk : V 8 f = 3 ∨ V 8 f = 2) {i : Nat} (hi : i < 23) : V 9 i ≠ f := fun q => by
  have := (h.par hi q).2.1
  omega
/-- the same tree, judged by other splits -/
theorem Tree.drop {X' : Nat → Bool} (h : Tree V d wn X) (hx : ∀ s, s < 23 → V 8 s ≤ 1 → X s = true → X' s = false → 2 ≤ cnt (fun n => decide (V 9 n = s)) 23) : Tree V d wn X' :=
  ⟨h.1, h.2.1, h.2.2.1, h.2.2.2.1, h.2.2.2.2.1, fun s hs q => ⟨(h.sp hs q).1, fun z => by
    cases e : X s
    · exact (h.sp hs q).2 e
    · exact hx s hs q e z⟩, h.2.2.2.2.2.2⟩
/-- a window gets a root -/
theorem Tree.root {X' : Nat → Bool} {c : Int} (h : Tree V d wn X) {f w : Nat} (hf : f < 23) (hk : V 8 f = 3) (hc : 0 ≤ c ∧ c ≤ 2) (hw : w < 5) (hr : V 5 w = -1) (r8 : ∀ i, i < 23 → V' 8 i = if i = f then c else V 8 i) (r9 : ∀ i, i < 23 → V' 9 i = V 9 i) (r10 : ∀ i, i < 23 → V 9 i ≠ -1 → V' 10 i = V 10 i) (r11 : ∀ i, i < 23 → V 9 i ≠ -1 → V' 11 i = V 11 i) (r5 : ∀ i, i < 5 → V' 5 i = if i = w then (f : Int) else V 5 i) (hx : c ≤ 1 → X' f = true) (hX : ∀ k, k ≠ f → X' k = X k) : Tree V' d (fun n => if n = f then (w : Int) else wn n) X' := by
  have f9 := h.fr hf hk
  refine ⟨fun n hn => ?_, fun n hn q => ?_, fun n hn q => ?_, fun n hn q q2 => ?_, fun v hv => ?_, fun t ht q => ?_, fun n hn q => ?_⟩
  · rw [r8 n hn]
    have := h.ki hn
    split <;> omega
  · rw [r9 n hn]
    rw [r8 n hn] at q
    by_cases e : n = f
    · rw [e]; exact f9
    · rw [if_neg e] at q
      exact h.fr hn q
  · rw [r9 n hn] at q ⊢
    obtain ⟨s, a, b, c1, c2, c3⟩ := h.pa hn q
    have n1 : s ≠ f := fun z => by rw [z] at c1; omega
    have n2 : n ≠ f := fun z => by rw [z] at q; exact q f9
    exact ⟨s, a, b, by rw [r8 s a, if_neg n1]; exact c1, c2, by dsimp only; rw [if_neg n1, if_neg n2]; exact c3⟩
  · rw [r8 n hn] at q
    rw [r9 n hn] at q2
    by_cases e : n = f
    · exact ⟨w, hw, if_pos e, by rw [r5 w hw, if_pos rfl, e]⟩
    · rw [if_neg e] at q
      obtain ⟨v, a, b, c1⟩ := h.ro hn q q2
      exact ⟨v, a, by dsimp only; rw [if_neg e]; exact b, by rw [r5 v a, if_neg (fun z => by rw [z, hr] at c1; omega)]; exact c1⟩
  · rw [r5 v hv]
    by_cases e : v = w
    · rw [if_pos e]
      exact Or.inr ⟨f, hf, rfl, by rw [r8 f hf, if_pos rfl]; omega, by rw [r9 f hf]; exact f9, by dsimp only; rw [if_pos rfl, e]⟩
    · rw [if_neg e]
      rcases h.wi hv with a | ⟨n, hn, a, b, c1, c2⟩
      · exact Or.inl a
      · have ne : n ≠ f := fun z => by rw [z] at b; exact b hk
        exact Or.inr ⟨n, hn, a, by rw [r8 n hn, if_neg ne]; exact b, by rw [r9 n hn]; exact c1, by dsimp only; rw [if_neg ne]; exact c2⟩
  · rw [r8 t ht] at q
    by_cases e : t = f
    · rw [if_pos e] at q
      have z := Nmb.emp (N := 23) (m := fun n => decide (V' 9 n = (t : Int))) (p := V' 10) (fun i hi => by
        rw [decide_eq_false_iff_not, r9 i hi, e]
        exact h.nof hf (Or.inl hk) hi)
      exact ⟨z.1, fun y => by rw [e, hx q] at y; cases y⟩
    · rw [if_neg e] at q
      obtain ⟨a, b⟩ := h.sp ht q
      have c1 : ∀ i, i < 23 → decide (V' 9 i = (t : Int)) = decide (V 9 i = (t : Int)) := fun i hi => by rw [r9 i hi]
      exact ⟨a.cg c1 (fun i hi mi => r10 i hi (by rw [decide_eq_true_eq] at mi; omega)), fun q => by rw [cnt_congr c1]; exact b (by rw [← hX t e]; exact q)⟩
  · rw [r9 n hn] at q
    rw [r11 n hn q]
    exact h.we hn q
/-- a new node enters a split -/
theorem Tree.enter {X' : Nat → Bool} {c k : Int} (h : Tree V d wn X) {f s : Nat} (hf : f < 23) (hk : V 8 f = 3) (hc : 0 ≤ c ∧ c ≤ 2) (hs : s < 23) (hs1 : V 8 s ≤ 1) (hk0 : 0 ≤ k ∧ k ≤ cnt (fun n => decide (V 9 n = s)) 23) (r8 : ∀ i, i < 23 → V' 8 i = if i = f then c else V 8 i) (r9 : ∀ i, i < 23 → V' 9 i = if i = f then (s : Int) else V 9 i) (r10 : ∀ i, i < 23 → V' 9 i ≠ -1 → V' 10 i = if i = f then k else if V 9 i = s ∧ k ≤ V 10 i then V 10 i + 1 else V 10 i) (r11 : ∀ i, i < 23 → V' 9 i ≠ -1 → 1 ≤ V' 11 i ∧ V' 11 i ≤ 1000000) (r5 : ∀ i, i < 5 → V' 5 i = V 5 i) (hx : c ≤ 1 → X' f = true) (hX : ∀ k, k ≠ f → X' k = X k) : Tree V' (fun n => if n = f then d s + 1 else d n) (fun n => if n = f then wn s else wn n) X' := by
  have f9 := h.fr hf hk
  have nsf : s ≠ f := fun z => by rw [z] at hs1; omega
  refine ⟨fun n hn => ?_, fun n hn q => ?_, fun n hn q => ?_, fun n hn q q2 => ?_, fun v hv => ?_, fun t ht q => ?_, r11⟩
  · rw [r8 n hn]
    have := h.ki hn
    split <;> omega
  · rw [r9 n hn]
    rw [r8 n hn] at q
    by_cases e : n = f
    · rw [if_pos e] at q
      omega
    · rw [if_neg e] at q ⊢
      exact h.fr hn q
  · rw [r9 n hn] at q ⊢
    by_cases e : n = f
    · rw [if_pos e] at q ⊢
      exact ⟨s, hs, rfl, by rw [r8 s hs, if_neg nsf]; exact hs1, by dsimp only; rw [if_neg nsf, if_pos e]; omega, by dsimp only; rw [if_neg nsf, if_pos e]⟩
    · rw [if_neg e] at q ⊢
      obtain ⟨t, a, b, c1, c2, c3⟩ := h.pa hn q
      have n1 : t ≠ f := fun z => by rw [z] at c1; omega
      exact ⟨t, a, b, by rw [r8 t a, if_neg n1]; exact c1, by dsimp only; rw [if_neg n1, if_neg e]; exact c2, by dsimp only; rw [if_neg n1, if_neg e]; exact c3⟩
  · rw [r8 n hn] at q
    rw [r9 n hn] at q2
    by_cases e : n = f
    · rw [if_pos e] at q2
      omega
    · rw [if_neg e] at q q2
      obtain ⟨v, a, b, c1⟩ := h.ro hn q q2
      exact ⟨v, a, by dsimp only; rw [if_neg e]; exact b, by rw [r5 v a]; exact c1⟩
  · rw [r5 v hv]
    rcases h.wi hv with a | ⟨n, hn, a, b, c1, c2⟩
    · exact Or.inl a
    · have ne : n ≠ f := fun z => by rw [z] at b; exact b hk
      exact Or.inr ⟨n, hn, a, by rw [r8 n hn, if_neg ne]; exact b, by rw [r9 n hn, if_neg ne]; exact c1, by dsimp only; rw [if_neg ne]; exact c2⟩
  · rw [r8 t ht] at q
    by_cases e : t = f
    · rw [if_pos e] at q
      have z := Nmb.emp (N := 23) (m := fun n => decide (V' 9 n = (t : Int))) (p := V' 10) (fun i hi => by
        rw [decide_eq_false_iff_not, r9 i hi, e]
        by_cases y : i = f
        · rw [if_pos y]; omega
        · rw [if_neg y]
          exact h.nof hf (Or.inl hk) hi)
      exact ⟨z.1, fun y => by rw [e, hx q] at y; cases y⟩
    · rw [if_neg e] at q
      obtain ⟨a, b⟩ := h.sp ht q
      by_cases e2 : t = s
      · subst e2
        have := a.ins (m' := fun n => decide (V' 9 n = (t : Int))) (p' := V' 10) (k0 := k) hf (by rw [decide_eq_false_iff_not, f9]; omega) hk0 (by rw [r9 f hf, if_pos rfl]; simp) (fun i hi ne => by rw [r9 i hi, if_neg ne]) (by rw [r10 f hf (by rw [r9 f hf, if_pos rfl]; omega), if_pos rfl]) (fun i hi ne mi => by
          rw [decide_eq_true_eq] at mi
          rw [r10 i hi (by rw [r9 i hi, if_neg ne]; omega), if_neg ne]
          by_cases z : k ≤ V 10 i
          · rw [if_pos z, if_pos ⟨mi, z⟩]
          · rw [if_neg z, if_neg (fun y => z y.2)])
        exact ⟨this.1, fun q => by
          rw [this.2]
          have := b (by rw [← hX t e]; exact q)
          omega⟩
      · have c1 : ∀ i, i < 23 → decide (V' 9 i = (t : Int)) = decide (V 9 i = (t : Int)) := fun i hi => by
          rw [r9 i hi]
          by_cases z : i = f
          · rw [if_pos z, z, f9]
            have h1 : ¬ (-1 : Int) = t := by omega
            have h2 : ¬ (s : Int) = t := by omega
            simp [h1, h2]
          · rw [if_neg z]
        refine ⟨a.cg c1 (fun i hi mi => ?_), fun q => by rw [cnt_congr c1]; exact b (by rw [← hX t e]; exact q)⟩
        rw [decide_eq_true_eq] at mi
        have ne : i ≠ f := fun z => by rw [z, f9] at mi; omega
        rw [r10 i hi (by rw [r9 i hi, if_neg ne]; omega), if_neg ne, if_neg (fun z => by omega)]
/-- a new split takes the place of a group, and gets it and a new group as its children -/
theorem Tree.between {c kt kf : Int} (h : Tree V d wn X) {t m f : Nat} (ht : t < 23) (hm : m < 23) (hf : f < 23) (kt2 : V 8 t = 2) (km : V 8 m = 3) (hkf : V 8 f = 3) (nmf : m ≠ f) (hc : 0 ≤ c ∧ c ≤ 1) (hk : (kt = 0 ∧ kf = 1) ∨ (kt = 1 ∧ kf = 0)) (r8 : ∀ i, i < 23 → V' 8 i = if i = m then c else if i = f then 2 else V 8 i) (r9 : ∀ i, i < 23 → V' 9 i = if i = m then V 9 t else if i = t ∨ i = f then (m : Int) else V 9 i) (r10 : ∀ i, i < 23 → V' 9 i ≠ -1 → V' 10 i = if i = m then V 10 t else if i = t then kt else if i = f then kf else V 10 i) (r11 : ∀ i, i < 23 → V' 9 i ≠ -1 → V' 11 i = if i = m then V 11 t else if i = t ∨ i = f then 1000 else V 11 i) (r5 : ∀ w, w < 5 → V' 5 w = if V 9 t = -1 ∧ V 5 w = t then (m : Int) else V 5 w) : Tree V' (fun n => if n = m then d t else if n = t ∨ n = f then d t + 1 else d n) (fun n => if n = m ∨ n = f then wn t else wn n) X := by
  have f9 := h.fr hf hkf
  have m9 := h.fr hm km
  have ntm : t ≠ m := fun z => by rw [z] at kt2; omega
  have ntf : t ≠ f := fun z => by rw [z] at kt2; omega
  refine ⟨fun n hn => ?_, fun n hn q => ?_, fun n hn q => ?_, fun n hn q q2 => ?_, fun v hv => ?_, fun s hs q => ?_, fun n hn q => ?_⟩
  · rw [r8 n hn]
    have := h.ki hn
    split
    · omega
    · split <;> omega
  · rw [r9 n hn]
    rw [r8 n hn] at q
    by_cases e : n = m
    · rw [if_pos e] at q
      omega
    · rw [if_neg e] at q ⊢
      by_cases e2 : n = f
      · rw [if_pos e2] at q
        omega
      · rw [if_neg e2] at q
        rw [if_neg (fun z => by
          rcases z with z | z
          · rw [z] at q; omega
          · exact e2 z)]
        exact h.fr hn q
  · rw [r9 n hn] at q ⊢
    by_cases e : n = m
    · rw [if_pos e] at q ⊢
      obtain ⟨s, a, b, c1, c2, c3⟩ := h.pa ht q
      have n1 : s ≠ m := fun z => by rw [z] at c1; omega
      have n2 : s ≠ f := fun z => by rw [z] at c1; omega
      have n3 : s ≠ t := fun z => by rw [z] at c1; omega
      exact ⟨s, a, b, by rw [r8 s a, if_neg n1, if_neg n2]; exact c1, by dsimp only; rw [if_neg n1, if_neg (fun z => z.elim n3 n2), if_pos e]; exact c2, by dsimp only; rw [if_pos (Or.inl e), if_neg (fun z => z.elim n1 n2)]; exact c3⟩
    · rw [if_neg e] at q ⊢
      by_cases e2 : n = t ∨ n = f
      · rw [if_pos e2] at q ⊢
        refine ⟨m, hm, rfl, by rw [r8 m hm, if_pos rfl]; omega, by dsimp only; rw [if_pos rfl, if_neg e, if_pos e2]; omega, ?_⟩
        dsimp only; rw [if_pos (Or.inl rfl)]
        rcases e2 with e2 | e2
        · rw [if_neg (fun z => z.elim e (fun z => ntf (by omega))), e2]
        · rw [if_pos (Or.inr e2)]
      · rw [if_neg e2] at q ⊢
        obtain ⟨s, a, b, c1, c2, c3⟩ := h.pa hn q
        have n1 : s ≠ m := fun z => by rw [z] at c1; omega
        have n2 : s ≠ f := fun z => by rw [z] at c1; omega
        have n3 : s ≠ t := fun z => by rw [z] at c1; omega
        exact ⟨s, a, b, by rw [r8 s a, if_neg n1, if_neg n2]; exact c1, by dsimp only; rw [if_neg n1, if_neg (fun z => z.elim n3 n2), if_neg e, if_neg e2]; exact c2, by dsimp only; rw [if_neg (fun z => z.elim e (fun y => e2 (Or.inr y))), if_neg (fun z => z.elim n1 n2)]; exact c3⟩
  · rw [r8 n hn] at q
    rw [r9 n hn] at q2
    by_cases e : n = m
    · rw [if_pos e] at q2
      obtain ⟨w, a, b, c1⟩ := h.ro ht (by omega) q2
      exact ⟨w, a, by dsimp only; rw [if_pos (Or.inl e)]; exact b, by rw [r5 w a, if_pos ⟨q2, c1⟩, e]⟩
    · rw [if_neg e] at q q2
      by_cases e2 : n = t ∨ n = f
      · rw [if_pos e2] at q2
        omega
      · rw [if_neg e2] at q2
        rw [if_neg (fun z => e2 (Or.inr z))] at q
        obtain ⟨w, a, b, c1⟩ := h.ro hn q q2
        exact ⟨w, a, by dsimp only; rw [if_neg (fun z => z.elim e (fun y => e2 (Or.inr y)))]; exact b, by rw [r5 w a, if_neg (fun z => e2 (Or.inl (by omega)))]; exact c1⟩
  · rw [r5 v hv]
    rcases h.wi hv with a | ⟨n, hn, a, b, c1, c2⟩
    · exact Or.inl (by rw [if_neg (fun z => by omega)]; exact a)
    · by_cases z : n = t
      · subst z
        rw [if_pos ⟨c1, a⟩]
        exact Or.inr ⟨m, hm, rfl, by rw [r8 m hm, if_pos rfl]; omega, by rw [r9 m hm, if_pos rfl]; exact c1, by dsimp only; rw [if_pos (Or.inl rfl)]; exact c2⟩
      · rw [if_neg (fun y => z (by omega))]
        have n1 : n ≠ m := fun y => by rw [y] at b; exact b km
        have n2 : n ≠ f := fun y => by rw [y] at b; exact b hkf
        exact Or.inr ⟨n, hn, a, by rw [r8 n hn, if_neg n1, if_neg n2]; exact b, by rw [r9 n hn, if_neg n1, if_neg (fun y => y.elim z n2)]; exact c1, by dsimp only; rw [if_neg (fun y => y.elim n1 n2)]; exact c2⟩
  · rw [r8 s hs] at q
    by_cases e : s = m
    · have n1 := Nmb.emp (N := 23) (m := fun _ => false) (p := fun _ => (0 : Int)) (fun _ _ => rfl)
      have n2 := n1.1.ins (m' := fun n => decide (n = t)) (p' := fun _ => (0 : Int)) (i0 := t) (k0 := 0) ht rfl (by rw [n1.2]; omega) (by simp) (fun i _ ne => by simp [ne]) rfl (fun i _ _ z => by cases z)
      have z9 : ∀ i, i < 23 → decide (V' 9 i = (s : Int)) = (decide (i = t) || decide (i = f)) := fun i hi => by
        rw [r9 i hi, e]
        by_cases y : i = m
        · rw [if_pos y]
          have h1 := h.nof hm (Or.inl km) ht
          have h2 : ¬ i = t := by omega
          have h3 : ¬ i = f := by omega
          simp [h1, h2, h3]
        · rw [if_neg y]
          by_cases y2 : i = t ∨ i = f
          · rw [if_pos y2]
            rcases y2 with y2 | y2 <;> simp [y2]
          · rw [if_neg y2]
            have h1 := h.nof hm (Or.inl km) hi
            have h2 : ¬ i = t := fun w => y2 (Or.inl w)
            have h3 : ¬ i = f := fun w => y2 (Or.inr w)
            simp [h1, h2, h3]
      have v9 : ∀ i, i < 23 → i = t ∨ i = f → V' 9 i ≠ -1 := fun i hi y => by
        rw [r9 i hi, if_neg (by omega), if_pos y]
        omega
      have n3 := n2.1.ins (m' := fun n => decide (V' 9 n = (s : Int))) (p' := V' 10) (i0 := f) (k0 := kf) hf (by simp; omega) (by rw [n2.2, n1.2]; omega) (by rw [z9 f hf]; simp) (fun i hi ne => by rw [z9 i hi]; simp [ne]) (by rw [r10 f hf (v9 f hf (Or.inr rfl)), if_neg (by omega), if_neg (by omega), if_pos rfl]) (fun i hi ne mi => by
        rw [decide_eq_true_eq] at mi
        subst mi
        rw [r10 i hi (v9 i hi (Or.inl rfl)), if_neg ntm, if_pos rfl]
        split <;> omega)
      exact ⟨n3.1, fun _ => by rw [n3.2, n2.2, n1.2]; omega⟩
    · rw [if_neg e] at q
      have nf : s ≠ f := fun z => by rw [if_pos z] at q; omega
      rw [if_neg nf] at q
      obtain ⟨a, b⟩ := h.sp hs q
      by_cases e2 : V 9 t = s
      · have := a.rep (m' := fun n => decide (V' 9 n = (s : Int))) (p' := V' 10) ht hm (by simp [e2]) (by rw [decide_eq_false_iff_not, m9]; omega) (by rw [r9 t ht, if_neg ntm, if_pos (Or.inl rfl), decide_eq_false_iff_not]; omega) (by rw [r9 m hm, if_pos rfl]; simp [e2]) (fun i hi n1 n2 => by
          rw [r9 i hi, if_neg n2]
          by_cases z : i = f
          · rw [if_pos (Or.inr z), z, f9]
            have h1 : ¬ (m : Int) = s := by omega
            have h2 : ¬ (-1 : Int) = s := by omega
            simp [h1, h2]
          · rw [if_neg (fun y => y.elim n1 z)]) (by rw [r10 m hm (by rw [r9 m hm, if_pos rfl]; omega), if_pos rfl]) (fun i hi n1 n2 mi => by
          rw [decide_eq_true_eq] at mi
          have z : i ≠ f := fun z => by rw [z, f9] at mi; omega
          rw [r10 i hi (by rw [r9 i hi, if_neg n2, if_neg (fun y => y.elim n1 z)]; omega), if_neg n2, if_neg n1, if_neg z])
        exact ⟨this.1, fun q => by rw [this.2]; exact b q⟩
      · have c1 : ∀ i, i < 23 → decide (V' 9 i = (s : Int)) = decide (V 9 i = (s : Int)) := fun i hi => by
          rw [r9 i hi]
          by_cases z : i = m
          · rw [if_pos z, z, m9]
            have h1 : ¬ (-1 : Int) = s := by omega
            simp [h1, e2]
          · rw [if_neg z]
            by_cases z2 : i = t ∨ i = f
            · rw [if_pos z2]
              have h1 : ¬ (m : Int) = s := by omega
              rcases z2 with z2 | z2
              · rw [z2]; simp [h1, e2]
              · rw [z2, f9]
                have h2 : ¬ (-1 : Int) = s := by omega
                simp [h1, h2]
            · rw [if_neg z2]
        refine ⟨a.cg c1 (fun i hi mi => ?_), fun q => by rw [cnt_congr c1]; exact b q⟩
        have mi' := mi
        rw [← c1 i hi, decide_eq_true_eq] at mi'
        rw [decide_eq_true_eq] at mi
        have n1 : i ≠ m := fun z => by rw [z, m9] at mi; omega
        have n2 : i ≠ t := fun z => by rw [z] at mi; exact e2 mi
        have n3 : i ≠ f := fun z => by rw [z, f9] at mi; omega
        rw [r10 i hi (by omega), if_neg n1, if_neg n2, if_neg n3]
  · have q' := q
    rw [r9 n hn] at q
    rw [r11 n hn q']
    by_cases e : n = m
    · rw [if_pos e] at q ⊢
      exact h.we ht q
    · rw [if_neg e] at q ⊢
      by_cases e2 : n = t ∨ n = f
      · rw [if_pos e2]
        omega
      · rw [if_neg e2] at q ⊢
        exact h.we hn q
end TN
end
section
/-! THE RELATION: tabs -/
/-- the active tab: none, where all are hidden; else one that is shown -/
def Act (V : VW) (g : Nat) : Prop := (V 12 g = -1 ∧ ∀ p : Nat, p < 12 → V 13 p = g → V 15 p = 1) ∨ ∃ a : Nat, a < 12 ∧ V 12 g = a ∧ V 13 a = g ∧ V 15 a = 0
/-- the groups of X may be empty, and their active tab is open -/
def Tabs (V : VW) (X : Nat → Bool) : Prop :=
  (∀ p, p < 12 → V 13 p = -1 ∨ ∃ g : Nat, g < 23 ∧ V 13 p = g ∧ V 8 g = 2) ∧
  (∀ p, p < 12 → V 13 p = -1 → V 14 p = -1 ∧ V 15 p = 0) ∧
  (∀ p, p < 12 → V 15 p = 0 ∨ V 15 p = 1) ∧
  ∀ g : Nat, g < 23 → V 8 g = 2 → Nmb 12 (fun p => decide (V 13 p = g)) (V 14) ∧ (X g = false → 1 ≤ cnt (fun p => decide (V 13 p = g)) 12 ∧ Act V g)
section TB
variable {V V' : VW} {X : Nat → Bool}
theorem Tabs.gr (h : Tabs V X) {p : Nat} (hp : p < 12) : V 13 p = -1 ∨ ∃ g : Nat, g < 23 ∧ V 13 p = g ∧ V 8 g = 2 := h.1 p hp
theorem Tabs.no (h : Tabs V X) {p : Nat} (hp : p < 12) (q : V 13 p = -1) : V 14 p = -1 ∧ V 15 p = 0 := h.2.1 p hp q
theorem Tabs.hi (h : Tabs V X) {p : Nat} (hp : p < 12) : V 15 p = 0 ∨ V 15 p = 1 := h.2.2.1 p hp
theorem Tabs.nu (h : Tabs V X) {g : Nat} (hg : g < 23) (q : V 8 g = 2) : Nmb 12 (fun p => decide (V 13 p = g)) (V 14) := (h.2.2.2 g hg q).1
theorem Tabs.fu (h : Tabs V X) {g : Nat} (hg : g < 23) (q : V 8 g = 2) (x : X g = false) : 1 ≤ cnt (fun p => decide (V 13 p = g)) 12 ∧ Act V g := (h.2.2.2 g hg q).2 x
theorem Tabs.g2 (h : Tabs V X) {p g : Nat} (hp : p < 12) (q : V 13 p = g) : g < 23 ∧ V 8 g = 2 := by
  rcases h.gr hp with a | ⟨t, a, b, c⟩
  · omega
  · have : t = g := by omega
    subst this
    exact ⟨a, c⟩
theorem Tabs.sp (h : Tabs V X) {p : Nat} (hp : p < 12) : -1 ≤ V 14 p ∧ V 14 p < 12 := by
  rcases h.gr hp with a | ⟨g, a, b, c⟩
  · have := (h.no hp a).1
    omega
  · have := (h.nu a c).1 p hp (by simp [b])
    have := cnt_le (fun p => decide (V 13 p = (g : Int))) 12
    omega
theorem Tabs.sp2 (h : Tabs V X) (p : Int) : -1 ≤ ga (V 14) 12 p ∧ ga (V 14) 12 p ≤ 12 := by
  unfold ga
  by_cases q : 0 ≤ p ∧ p < (12 : Nat)
  · rw [if_pos q]
    have := h.sp (p := p.toNat) (by omega)
    omega
  · rw [if_neg q]
    omega
theorem v_hd_in {p : Nat} (hp : p < 12) : v_hd V p = decide (V 15 p = 1) := by
  unfold v_hd
  rw [ga_in hp]
theorem Tabs.cg (h : Tabs V X) (h8 : ∀ g, g < 23 → (V' 8 g = 2 ↔ V 8 g = 2)) (h12 : ∀ g, g < 23 → V 8 g = 2 → V' 12 g = V 12 g) (h13 : ∀ p, p < 12 → V' 13 p = V 13 p) (h14 : ∀ p, p < 12 → V' 14 p = V 14 p) (h15 : ∀ p, p < 12 → V' 15 p = V 15 p) : Tabs V' X := by
  refine ⟨fun p hp => ?_, fun p hp q => ?_, fun p hp => by rw [h15 p hp]; exact h.hi hp, fun g hg q => ?_⟩
  · rw [h13 p hp]
    rcases h.gr hp with a | ⟨g, a, b, c⟩
    · exact Or.inl a
    · exact Or.inr ⟨g, a, b, (h8 g a).mpr c⟩
  · rw [h13 p hp] at q
    rw [h14 p hp, h15 p hp]
    exact h.no hp q
  · rw [h8 g hg] at q
    have c : ∀ p, p < 12 → decide (V' 13 p = (g : Int)) = decide (V 13 p = (g : Int)) := fun p hp => by rw [h13 p hp]
    refine ⟨(h.nu hg q).cg c (fun p hp _ => h14 p hp), fun x => ?_⟩
    obtain ⟨a, b⟩ := h.fu hg q x
    refine ⟨by rw [cnt_congr c]; exact a, ?_⟩
    rcases b with ⟨b, b2⟩ | ⟨t, t1, t2, t3, t4⟩
    · exact Or.inl ⟨by rw [h12 g hg q]; exact b, fun p hp w => by rw [h15 p hp]; rw [h13 p hp] at w; exact b2 p hp w⟩
    · exact Or.inr ⟨t, t1, by rw [h12 g hg q]; exact t2, by rw [h13 t t1]; exact t3, by rw [h15 t t1]; exact t4⟩
/-! the tab at a spot -/
theorem v_ta_sp (V : VW) (g k : Int) : v_ta V g k = -1 ∨ ∃ q : Nat, q < 12 ∧ v_ta V g k = q ∧ V 13 q = g ∧ V 14 q = k := by
  unfold v_ta
  by_cases e : g = -1
  · rw [if_pos e]
    exact Or.inl rfl
  · rw [if_neg e]
    rcases fnd_spec (fun p => decide (V 13 p = g) && decide (V 14 p = k)) 12 with ⟨h1, _⟩ | ⟨i, h1, h2, h3, _⟩
    · exact Or.inl h1
    · simp at h3
      exact Or.inr ⟨i, h1, h2, h3.1, h3.2⟩
theorem v_ta_at {g : Nat} (h : Nmb 12 (fun p => decide (V 13 p = g)) (V 14)) {q : Nat} (hq : q < 12) (e : V 13 q = g) : v_ta V g (V 14 q) = q := by
  unfold v_ta
  rw [if_neg (by omega)]
  refine fnd_un hq (by simp [e]) (fun k hk w => ?_)
  simp at w
  exact h.2.2 k q hk hq (by simp [w.1]) (by simp [e]) w.2
theorem v_ok_sp {g k : Nat} (h : v_ok V g k = true) : ∃ q : Nat, q < 12 ∧ v_ta V g k = q ∧ V 13 q = g ∧ V 14 q = k ∧ V 15 q ≠ 1 := by
  unfold v_ok at h
  simp only [Bool.and_eq_true, decide_eq_true_eq, Bool.not_eq_true'] at h
  rcases v_ta_sp V g k with a | ⟨q, a, b, c, e⟩
  · exact absurd a h.1
  · refine ⟨q, a, b, c, e, ?_⟩
    have := h.2
    rw [b, v_hd_in a] at this
    simpa using this
theorem v_ok_at {g : Nat} (h : Nmb 12 (fun p => decide (V 13 p = g)) (V 14)) {q : Nat} (hq : q < 12) (e : V 13 q = g) (e2 : V 15 q ≠ 1) : v_ok V g (V 14 q).toNat = true := by
  have h0 := (h.1 q hq (by simp [e])).1
  unfold v_ok
  rw [show (((V 14 q).toNat : Nat) : Int) = V 14 q by omega, v_ta_at h hq e, v_hd_in hq]
  simp [e2]
/-- who becomes active instead: none, if all are hidden -/
theorem v_ai_sp {g : Nat} {fr : Int} (h : Nmb 12 (fun p => decide (V 13 p = g)) (V 14)) (hh : ∀ q : Nat, q < 12 → V 13 q = g → V 14 q = fr → V 15 q = 1) : (v_ai V g fr = -1 ∧ ∀ q : Nat, q < 12 → V 13 q = g → V 15 q = 1) ∨ ∃ a : Nat, a < 12 ∧ v_ai V g fr = a ∧ V 13 a = g ∧ V 15 a ≠ 1 := by
  unfold v_ai
  rcases fnd_spec (fun k => decide (fr < k) && v_ok V g k) 12 with ⟨h1, h2⟩ | ⟨i, h1, h2, h3, _⟩
  · rw [h1, if_pos rfl]
    have hl := lst_rg (v_ok V g) fr.toNat
    by_cases e : lst (v_ok V g) fr.toNat = -1
    · left
      rw [if_pos e]
      refine ⟨rfl, fun q hq eq => ?_⟩
      refine Classical.byContradiction (fun no => ?_)
      have ok := v_ok_at h hq eq no
      have h0 := h.1 q hq (by simp [eq])
      have hc := cnt_le (fun p => decide (V 13 p = (g : Int))) 12
      rcases Int.lt_trichotomy (V 14 q) fr with w | w | w
      · rw [hl.2.2.1 e (V 14 q).toNat (by omega)] at ok
        cases ok
      · exact no (hh q hq eq w)
      · have := h2 (V 14 q).toNat (by omega)
        rw [ok] at this
        simp at this
        omega
    · right
      rw [if_neg e]
      have ok := hl.2.2.2 e
      obtain ⟨q, a, b, c, _, f⟩ := v_ok_sp ok
      exact ⟨q, a, by rw [← b]; congr 1; omega, c, f⟩
  · right
    rw [h2, if_neg (by omega)]
    simp only [Bool.and_eq_true, decide_eq_true_eq] at h3
    obtain ⟨q, a, b, c, _, f⟩ := v_ok_sp h3.2
    exact ⟨q, a, b, c, f⟩
end TB
end
section
/-! THE RELATION: a pane goes; rows -/
section RW
variable {V : VW}
theorem up5 {w : Nat} {x : Int} (h : w < 5) (i : Nat) : up V 5 w x 5 i = if i = w then x else V 5 i := up_at i (by rw [inr_5]; exact decide_eq_true h)
theorem up1 {w : Nat} {x : Int} (h : w < 5) (i : Nat) : up V 1 w x 1 i = if i = w then x else V 1 i := up_at i (by rw [inr_1]; exact decide_eq_true h)
theorem up2 {w : Nat} {x : Int} (h : w < 5) (i : Nat) : up V 2 w x 2 i = if i = w then x else V 2 i := up_at i (by rw [inr_2]; exact decide_eq_true h)
theorem up3 {w : Nat} {x : Int} (h : w < 5) (i : Nat) : up V 3 w x 3 i = if i = w then x else V 3 i := up_at i (by rw [inr_3]; exact decide_eq_true h)
theorem up4 {w : Nat} {x : Int} (h : w < 5) (i : Nat) : up V 4 w x 4 i = if i = w then x else V 4 i := up_at i (by rw [inr_4]; exact decide_eq_true h)
theorem up8 {n : Nat} {x : Int} (h : n < 23) (i : Nat) : up V 8 n x 8 i = if i = n then x else V 8 i := up_at i (by rw [inr_8]; exact decide_eq_true h)
theorem up9 {n : Nat} {x : Int} (h : n < 23) (i : Nat) : up V 9 n x 9 i = if i = n then x else V 9 i := up_at i (by rw [inr_9]; exact decide_eq_true h)
theorem up10 {n : Nat} {x : Int} (h : n < 23) (i : Nat) : up V 10 n x 10 i = if i = n then x else V 10 i := up_at i (by rw [inr_10]; exact decide_eq_true h)
theorem up11 {n : Nat} {x : Int} (h : n < 23) (i : Nat) : up V 11 n x 11 i = if i = n then x else V 11 i := up_at i (by rw [inr_11]; exact decide_eq_true h)
theorem up12 {n : Nat} {x : Int} (h : n < 23) (i : Nat) : up V 12 n x 12 i = if i = n then x else V 12 i := up_at i (by rw [inr_12]; exact decide_eq_true h)
theorem up13 {p : Nat} {x : Int} (h : p < 12) (i : Nat) : up V 13 p x 13 i = if i = p then x else V 13 i := up_at i (by rw [inr_13]; exact decide_eq_true h)
theorem up14 {p : Nat} {x : Int} (h : p < 12) (i : Nat) : up V 14 p x 14 i = if i = p then x else V 14 i := up_at i (by rw [inr_14]; exact decide_eq_true h)
theorem up15 {p : Nat} {x : Int} (h : p < 12) (i : Nat) : up V 15 p x 15 i = if i = p then x else V 15 i := up_at i (by rw [inr_15]; exact decide_eq_true h)
end RW
/-- p leaves its group g: the rows of tabs -/
theorem out_rows {V : VW} {X : Nat → Bool} (h : Tabs V X) {p g : Nat} (hp : p < 12) (hg : V 13 p = g) :
    (∀ i, i < 12 → v_out V p 13 i = if i = p then -1 else V 13 i) ∧
    (∀ i, i < 12 → v_out V p 14 i = if i = p then -1 else if V 13 i = g ∧ V 14 p < V 14 i then V 14 i - 1 else V 14 i) ∧
    (∀ i, i < 12 → v_out V p 15 i = if i = p then 0 else V 15 i) ∧
    ∀ i, i < 23 → v_out V p 12 i = if i = g ∧ V 12 g = p then v_ai (up V 15 p 1) g (V 14 p) else V 12 i := by
  obtain ⟨g1, g2⟩ := h.g2 hp hg
  have nu := h.nu g1 g2
  have hide13 : v_hide V p 13 = V 13 := v_hide_ne (by decide) (by decide)
  have hide14 : v_hide V p 14 = V 14 := v_hide_ne (by decide) (by decide)
  have tc : v_tc (v_hide V p) g = cnt (fun q => decide (V 13 q = (g : Int))) 12 := by
    unfold v_tc
    rw [hide13]
  have tc1 := cnt_pos (c := fun q => decide (V 13 q = (g : Int))) (n := 12) hp (by simp [hg])
  have tc2 := cnt_le (fun q => decide (V 13 q = (g : Int))) 12
  have spp := nu.1 p hp (by simp [hg])
  refine ⟨fun i hi => ?_, fun i hi => ?_, fun i hi => ?_, fun i hi => ?_⟩
  · unfold v_out
    rw [up_ne (by decide), up_ne (by decide), up13 hp, v_move_ne (by decide), hide13]
  · unfold v_out
    rw [up_ne (by decide), up14 hp, up_ne (by decide)]
    by_cases e : i = p
    · rw [if_pos e, if_pos e]
    · rw [if_neg e, if_neg e]
      unfold v_move
      rw [up14 hp, if_neg e, hide13, hide14, ga_in hp, ga_in hp, hg, tc]
      by_cases q : V 13 i = g
      · have spi := nu.1 i hi (by simp [q])
        have ne : V 14 i ≠ V 14 p := fun z => e (nu.2.2 i p hi hp (by simp [q]) (by simp [hg]) z)
        rw [if_pos ⟨rfl, hi, q⟩, wr_id (x := (cnt (fun q => decide (V 13 q = (g : Int))) 12 : Int) - 1) (by omega) (by omega)]
        unfold v_step
        by_cases w : V 14 p < V 14 i
        · rw [if_pos (by omega), if_pos ⟨q, w⟩, wr_id (by omega) (by omega)]
          omega
        · rw [if_neg (by omega), if_neg (by omega), if_neg (fun z => w z.2), wr_id (by omega) (by omega)]
          omega
      · rw [if_neg (fun z => q z.2.2), if_neg (fun z => q z.1)]
  · unfold v_out
    rw [up15 hp, up_ne (by decide), up_ne (by decide), v_move_ne (by decide)]
    by_cases e : i = p
    · rw [if_pos e, if_pos e]
    · rw [if_neg e, if_neg e]
      unfold v_hide
      split
      · rw [up_ne (by decide), up15 hp, if_neg e]
      · rw [up15 hp, if_neg e]
  · unfold v_out
    rw [up_ne (by decide), up_ne (by decide), up_ne (by decide), v_move_ne (by decide)]
    unfold v_hide
    rw [ga_in hp, hg, ga_in g1, ga_in hp]
    by_cases q : V 12 g = p
    · rw [if_pos q, up12 g1, up_ne (by decide)]
      by_cases e : i = g
      · rw [if_pos e, if_pos ⟨e, q⟩]
      · rw [if_neg e, if_neg (fun z => e z.1)]
    · rw [if_neg q, up_ne (by decide), if_neg (fun z => q z.2)]
theorem out_tabs {V : VW} {X X' : Nat → Bool} (h : Tabs V X) {p g : Nat} (hp : p < 12) (hg : V 13 p = g) (hX : ∀ k, k ≠ g → X' k = X k) (hx : X' g = false → X g = false ∧ v_tc (v_out V p) g ≠ 0) : Tabs (v_out V p) X' := by
  obtain ⟨r13, r14, r15, r12⟩ := out_rows h hp hg
  obtain ⟨g1, g2⟩ := h.g2 hp hg
  have r8 : v_out V p 8 = V 8 := v_out_ne (by decide) (by decide) (by decide) (by decide)
  refine ⟨fun i hi => ?_, fun i hi q => ?_, fun i hi => ?_, fun t ht q => ?_⟩
  · rw [r13 i hi, r8]
    by_cases e : i = p
    · exact Or.inl (if_pos e)
    · rw [if_neg e]
      exact h.gr hi
  · rw [r13 i hi] at q
    rw [r14 i hi, r15 i hi]
    by_cases e : i = p
    · rw [if_pos e, if_pos e]
      exact ⟨rfl, rfl⟩
    · rw [if_neg e] at q ⊢
      rw [if_neg e, if_neg (fun z => by omega)]
      exact h.no hi q
  · rw [r15 i hi]
    by_cases e : i = p
    · rw [if_pos e]
      exact Or.inl rfl
    · rw [if_neg e]
      exact h.hi hi
  · rw [r8] at q
    have a := h.nu ht q
    by_cases e : t = g
    · subst e
      have b := a.rem (m' := fun i => decide (v_out V p 13 i = (t : Int))) (p' := v_out V p 14) hp (by simp [hg]) (by rw [r13 p hp, if_pos rfl, decide_eq_false_iff_not]; omega) (fun i hi ne => by rw [r13 i hi, if_neg ne]) (fun i hi ne mi => by
        rw [decide_eq_true_eq] at mi
        rw [r14 i hi, if_neg ne]
        by_cases w : V 14 p < V 14 i
        · rw [if_pos w, if_pos ⟨mi, w⟩]
        · rw [if_neg w, if_neg (fun z => w z.2)])
      refine ⟨b.1, fun x => ?_⟩
      obtain ⟨x1, x2⟩ := hx x
      refine ⟨by unfold v_tc at x2; omega, ?_⟩
      obtain ⟨_, act⟩ := h.fu ht q x1
      unfold Act
      rw [r12 t ht]
      by_cases w : V 12 t = p
      · rw [if_pos ⟨rfl, w⟩]
        have H13 : (up V 15 p 1) 13 = V 13 := up_ne (by decide)
        have H14 : (up V 15 p 1) 14 = V 14 := up_ne (by decide)
        have nu' : Nmb 12 (fun i => decide ((up V 15 p 1) 13 i = (t : Int))) ((up V 15 p 1) 14) := by rw [H13, H14]; exact a
        rcases v_ai_sp (fr := V 14 p) nu' (fun i hi e1 e2 => by
          rw [H13] at e1
          rw [H14] at e2
          have : i = p := a.2.2 i p hi hp (by simp [e1]) (by simp [hg]) e2
          rw [this, up15 hp, if_pos rfl]) with ⟨z1, z2⟩ | ⟨c, c1, c2, c3, c4⟩
        · left
          refine ⟨z1, fun i hi e1 => ?_⟩
          rw [r13 i hi] at e1
          have ne : i ≠ p := fun z => by rw [if_pos z] at e1; omega
          rw [if_neg ne] at e1
          have := z2 i hi (by rw [H13]; exact e1)
          rw [up15 hp, if_neg ne] at this
          rw [r15 i hi, if_neg ne, this]
        · right
          rw [H13] at c3
          have ne : c ≠ p := fun z => c4 (by rw [z, up15 hp, if_pos rfl])
          rw [up15 hp, if_neg ne] at c4
          refine ⟨c, c1, c2, by rw [r13 c c1, if_neg ne]; exact c3, ?_⟩
          rw [r15 c c1, if_neg ne]
          rcases h.hi c1 with y | y
          · exact y
          · exact absurd y c4
      · rw [if_neg (fun z => w z.2)]
        rcases act with ⟨b1, b2⟩ | ⟨c, c1, c2, c3, c4⟩
        · left
          refine ⟨b1, fun i hi e1 => ?_⟩
          rw [r13 i hi] at e1
          have ne : i ≠ p := fun z => by rw [if_pos z] at e1; omega
          rw [if_neg ne] at e1
          rw [r15 i hi, if_neg ne]
          exact b2 i hi e1
        · right
          have ne : c ≠ p := fun z => w (by rw [c2, z])
          exact ⟨c, c1, c2, by rw [r13 c c1, if_neg ne]; exact c3, by rw [r15 c c1, if_neg ne]; exact c4⟩
    · have c : ∀ i, i < 12 → decide (v_out V p 13 i = (t : Int)) = decide (V 13 i = (t : Int)) := fun i hi => by
        rw [r13 i hi]
        by_cases z : i = p
        · rw [if_pos z, z, hg]
          have h1 : ¬ (-1 : Int) = t := by omega
          have h2 : ¬ (g : Int) = t := by omega
          simp [h1, h2]
        · rw [if_neg z]
      refine ⟨a.cg c (fun i hi mi => ?_), fun x => ?_⟩
      · rw [decide_eq_true_eq] at mi
        have ne : i ≠ p := fun z => by rw [z, hg] at mi; omega
        rw [r14 i hi, if_neg ne, if_neg (fun z => by omega)]
      · obtain ⟨f1, f2⟩ := h.fu ht q (by rw [← hX t e]; exact x)
        refine ⟨by rw [cnt_congr c]; exact f1, ?_⟩
        unfold Act
        rw [r12 t ht, if_neg (fun z => e z.1)]
        rcases f2 with ⟨b1, b2⟩ | ⟨c, c1, c2, c3, c4⟩
        · left
          refine ⟨b1, fun i hi e1 => ?_⟩
          rw [r13 i hi] at e1
          have ne : i ≠ p := fun z => by rw [if_pos z] at e1; omega
          rw [if_neg ne] at e1
          rw [r15 i hi, if_neg ne]
          exact b2 i hi e1
        · right
          have ne : c ≠ p := fun z => by rw [z, hg] at c3; omega
          exact ⟨c, c1, c2, by rw [r13 c c1, if_neg ne]; exact c3, by rw [r15 c c1, if_neg ne]; exact c4⟩
/-- a node that is detached and free -/
theorem fd_rows {V : VW} {g : Nat} (hg : g < 23) :
    (∀ i, v_free (v_detach V g) g 8 i = if i = g then 3 else V 8 i) ∧
    (∀ i, v_free (v_detach V g) g 9 i = if i = g then -1 else V 9 i) ∧
    (∀ i, v_free (v_detach V g) g 10 i = if i < 23 ∧ V 9 g ≠ -1 ∧ i ≠ g ∧ V 9 i = V 9 g ∧ V 10 g ≤ V 10 i then wr (V 10 i - 1) else V 10 i) ∧
    ∀ j, j ≠ 8 → j ≠ 9 → j ≠ 10 → v_free (v_detach V g) g j = V j := by
  have dt : ∀ j, j ≠ 10 → v_detach V g j = up V 9 g (-1) j := fun j hj => by
    funext i
    unfold v_detach v_shift
    rw [if_neg (fun z => hj z.1)]
  refine ⟨fun i => ?_, fun i => ?_, fun i => ?_, fun j h8 h9 h10 => ?_⟩
  · unfold v_free
    rw [up8 hg, dt 8 (by decide), up_ne (by decide)]
  · unfold v_free
    rw [up_ne (by decide), dt 9 (by decide), up9 hg]
  · unfold v_free
    rw [up_ne (by decide)]
    unfold v_detach v_shift
    rw [ga_in hg, ga_in hg, up_ne (j := 9) (j' := 10) (by decide), up9 hg]
    by_cases e : i = g
    · rw [if_pos e, if_neg (fun z => by omega), if_neg (fun z => z.2.2.1 e)]
    · rw [if_neg e]
      by_cases q : i < 23 ∧ V 9 g ≠ -1 ∧ V 9 i = V 9 g ∧ V 10 g ≤ V 10 i
      · rw [if_pos ⟨rfl, q⟩, if_pos ⟨q.1, q.2.1, e, q.2.2⟩]
        rfl
      · rw [if_neg (fun z => q z.2), if_neg (fun z => q ⟨z.1, z.2.1, z.2.2.2⟩)]
  · unfold v_free
    rw [up_ne h8, dt j h10, up_ne h9]
end
section
/-! THE RELATION: a pane goes; what holds behind it -/
theorem dt_rows {V : VW} {g : Nat} (hg : g < 23) :
    (∀ i, v_detach V g 9 i = if i = g then -1 else V 9 i) ∧
    (∀ i, v_detach V g 10 i = if i < 23 ∧ V 9 g ≠ -1 ∧ i ≠ g ∧ V 9 i = V 9 g ∧ V 10 g ≤ V 10 i then wr (V 10 i - 1) else V 10 i) ∧
    ∀ j, j ≠ 9 → j ≠ 10 → v_detach V g j = V j := by
  have dt : ∀ j, j ≠ 10 → v_detach V g j = up V 9 g (-1) j := fun j hj => by
    funext i
    unfold v_detach v_shift
    rw [if_neg (fun z => hj z.1)]
  refine ⟨fun i => ?_, fun i => ?_, fun j h9 h10 => ?_⟩
  · rw [dt 9 (by decide), up9 hg]
  · have := (fd_rows (V := V) hg).2.2.1 i
    unfold v_free at this
    rw [up_ne (by decide)] at this
    exact this
  · rw [dt j h10, up_ne h9]
/-- the only child takes its split's place -/
theorem col_rows {V : VW} {d : Nat → Nat} {wn : Nat → Int} {X : Nat → Bool} (h : Tree V d wn X) {s : Nat} (hs : s < 23) (hk : V 8 s ≤ 1) (h1 : cnt (fun n => decide (V 9 n = s)) 23 = 1) : ∃ m : Nat, m < 23 ∧ V 9 m = s ∧ v_ca V s 0 = m ∧
    (∀ i, i < 23 → v_free (v_repl (v_detach V m) s m) s 8 i = if i = s then 3 else V 8 i) ∧
    (∀ i, i < 23 → v_free (v_repl (v_detach V m) s m) s 9 i = if i = s then -1 else if i = m then V 9 s else V 9 i) ∧
    (∀ i, i < 23 → v_free (v_repl (v_detach V m) s m) s 9 i ≠ -1 → v_free (v_repl (v_detach V m) s m) s 10 i = if i = m then V 10 s else V 10 i) ∧
    (∀ i, i < 23 → v_free (v_repl (v_detach V m) s m) s 9 i ≠ -1 → v_free (v_repl (v_detach V m) s m) s 11 i = if i = m then V 11 s else V 11 i) ∧
    (∀ w, w < 5 → v_free (v_repl (v_detach V m) s m) s 5 w = if V 9 s = -1 ∧ V 5 w = s then (m : Int) else V 5 w) ∧
    ∀ j, j ≠ 5 → j ≠ 8 → j ≠ 9 → j ≠ 10 → j ≠ 11 → v_free (v_repl (v_detach V m) s m) s j = V j := by
  obtain ⟨nu, -⟩ := h.sp hs hk
  obtain ⟨m, hm, mm, m0⟩ := nu.2.1 0 (by omega)
  rw [decide_eq_true_eq] at mm
  have only : ∀ i, i < 23 → V 9 i = s → i = m := fun i hi q => cnt_uniq (c := fun n => decide (V 9 n = (s : Int))) (n := 23) (by omega) hi hm (by simp [q]) (by simp [mm])
  have ca : v_ca V s 0 = m := by
    unfold v_ca
    rw [if_neg (by omega)]
    refine fnd_un hm (by simp [mm, m0]) (fun k hk w => ?_)
    simp at w
    exact only k hk w.1
  have nms : m ≠ s := fun z => by
    have := (h.par hm mm).2.2.1
    rw [z] at this
    omega
  obtain ⟨d9, d10, dj⟩ := dt_rows (V := V) hm
  have d10' : ∀ i, v_detach V m 10 i = V 10 i := fun i => by
    rw [d10 i, if_neg (fun z => z.2.2.1 (only i z.1 (by rw [z.2.2.2.1, mm])))]
  have d9s : v_detach V m 9 s = V 9 s := by rw [d9 s, if_neg (fun z => nms z.symm)]
  refine ⟨m, hm, mm, ca, ?_⟩
  by_cases r : V 9 s = -1
  · have R : v_repl (v_detach V m) s m = up (v_detach V m) 5 (v_wo (v_detach V m) s) m := by
      unfold v_repl
      rw [ga_in hs, d9s, if_pos r]
    obtain ⟨w, w1, w2, w3⟩ := h.ro hs (by omega) r
    have W : v_wo (v_detach V m) s = w := by
      have t : v_top (v_detach V m) 23 s = s := by
        show (if ga (v_detach V m 9) 23 s = -1 then (s : Int) else _) = _
        rw [ga_in hs, d9s, if_pos r]
      unfold v_wo
      rw [t, if_neg (by omega), dj 5 (by decide) (by decide)]
      refine fnd_un w1 (by simp [w3]) (fun k hk e => ?_)
      rw [decide_eq_true_eq] at e
      exact h.un hk w1 e w3
    rw [R, W]
    unfold v_free
    refine ⟨fun i hi => ?_, fun i hi => ?_, fun i hi q => ?_, fun i hi q => ?_, fun v hv => ?_, fun j h5 h8 h9 h10 h11 => ?_⟩
    · rw [up8 hs, up_ne (by decide), dj 8 (by decide) (by decide)]
    · rw [up_ne (by decide), up_ne (by decide), d9 i]
      by_cases e : i = s
      · rw [if_pos e, if_neg (fun z => nms (by omega)), e, r]
      · rw [if_neg e]
        by_cases e2 : i = m
        · rw [if_pos e2, if_pos e2, r]
        · rw [if_neg e2, if_neg e2]
    · rw [up_ne (by decide), up_ne (by decide), d9 i] at q
      have ne : i ≠ m := fun z => by rw [if_pos z] at q; exact q rfl
      rw [up_ne (by decide), up_ne (by decide), d10' i, if_neg ne]
    · rw [up_ne (by decide), up_ne (by decide), d9 i] at q
      have ne : i ≠ m := fun z => by rw [if_pos z] at q; exact q rfl
      rw [up_ne (by decide), up_ne (by decide), dj 11 (by decide) (by decide), if_neg ne]
    · rw [up_ne (by decide), up5 w1, dj 5 (by decide) (by decide)]
      by_cases e : v = w
      · rw [if_pos e, if_pos ⟨r, by rw [e]; exact w3⟩]
      · rw [if_neg e, if_neg (fun z => e (h.un hv w1 z.2 w3))]
    · rw [up_ne h8, up_ne h5, dj j h9 h10]
  · have R : v_repl (v_detach V m) s m = up (up (up (up (v_detach V m) 9 s (-1)) 9 m (V 9 s)) 10 m (V 10 s)) 11 m (V 11 s) := by
      unfold v_repl
      rw [ga_in hs, d9s, if_neg r, ga_in hs, ga_in hs, d10' s, dj 11 (by decide) (by decide)]
    rw [R]
    unfold v_free
    refine ⟨fun i hi => ?_, fun i hi => ?_, fun i hi q => ?_, fun i hi q => ?_, fun v hv => ?_, fun j h5 h8 h9 h10 h11 => ?_⟩
    · rw [up8 hs, up_ne (by decide), up_ne (by decide), up_ne (by decide), up_ne (by decide), dj 8 (by decide) (by decide)]
    · rw [up_ne (by decide), up_ne (by decide), up_ne (by decide), up9 hm, up9 hs, d9 i]
      by_cases e : i = s
      · rw [if_pos e, if_neg (fun z => nms (by omega)), if_pos e]
      · rw [if_neg e, if_neg e]
        by_cases e2 : i = m
        · rw [if_pos e2, if_pos e2]
        · rw [if_neg e2, if_neg e2, if_neg e2]
    · rw [up_ne (by decide), up_ne (by decide), up10 hm, up_ne (by decide), up_ne (by decide), d10' i]
    · rw [up_ne (by decide), up11 hm, up_ne (by decide), up_ne (by decide), up_ne (by decide), dj 11 (by decide) (by decide)]
    · rw [up_ne (by decide), up_ne (by decide), up_ne (by decide), up_ne (by decide), up_ne (by decide), dj 5 (by decide) (by decide), if_neg (fun z => r z.1)]
    · rw [up_ne h8, up_ne h11, up_ne h10, up_ne h9, up_ne h9, dj j h9 h10]
def Geo (V : VW) : Prop := ∀ w, w < 5 → (-400 ≤ V 1 w ∧ V 1 w ≤ 400) ∧ (-400 ≤ V 2 w ∧ V 2 w ≤ 400) ∧ (10 ≤ V 3 w ∧ V 3 w ≤ 400) ∧ 10 ≤ V 4 w ∧ V 4 w ≤ 400
def flw (V : VW) (w : Nat) : Bool := decide (1 ≤ w) && decide (V 5 w ≠ -1)
def Inv (V : VW) (d : Nat → Nat) (wn : Nat → Int) : Prop := Tree V d wn (fun _ => false) ∧ Tabs V (fun _ => false) ∧ LO (odp V) 5 (flw V) ∧ Geo V
theorem Geo.cg {V V' : VW} (h : Geo V) (h1 : V' 1 = V 1) (h2 : V' 2 = V 2) (h3 : V' 3 = V 3) (h4 : V' 4 = V 4) : Geo V' := by
  unfold Geo at *
  rw [h1, h2, h3, h4]
  exact h
/-- what a group's going does: the rows behind it -/
def Gone (V V' : VW) (g : Nat) (wn : Nat → Int) : Prop :=
  (∀ n, n < 23 → V' 8 n = 3 ∨ V' 8 n = V 8 n) ∧
  (∀ n, n < 23 → V 8 n = 3 → V' 8 n = 3) ∧
  (∀ n, n < 23 → V 8 n ≠ 3 → wn n ≠ wn g → V' 8 n = V 8 n ∧ V' 9 n = V 9 n ∧ (V 9 n ≠ -1 → V' 10 n = V 10 n ∧ V' 11 n = V 11 n)) ∧
  (∀ w : Nat, w < 5 → (w : Int) ≠ wn g → V' 5 w = V 5 w) ∧
  (∀ n, n < 23 → V 8 n = 2 → n ≠ g → V' 8 n = 2) ∧ V' 8 g = 3 ∧
  V' 1 = V 1 ∧ V' 2 = V 2 ∧ V' 3 = V 3 ∧ V' 4 = V 4 ∧ V' 12 = V 12 ∧ V' 13 = V 13 ∧ V' 14 = V 14 ∧ V' 15 = V 15
theorem remg_ok {V : VW} {d : Nat → Nat} {wn : Nat → Int} (h : Tree V d wn (fun _ => false)) (ho : LO (odp V) 5 (flw V)) {g : Nat} (hg : g < 23) (hk : V 8 g = 2) : Tree (v_remg V g) d wn (fun _ => false) ∧ LO (odp (v_remg V g)) 5 (flw (v_remg V g)) ∧ Gone V (v_remg V g) g wn := by
  obtain ⟨f8, f9, f10, fj⟩ := fd_rows (V := V) hg
  unfold v_remg
  rw [ga_in hg]
  by_cases r : V 9 g = -1
  · rw [if_pos r]
    obtain ⟨w, w1, w2, w3⟩ := h.ro hg (by omega) r
    have W : v_wo V g = w := by rw [h.wo hg (by omega), w2]
    rw [W]
    obtain ⟨g8, g9, g10, gj⟩ := fd_rows (V := v_od (up V 5 w (-1)) (o_lv (odp V) w)) hg
    have b9 : v_od (up V 5 w (-1)) (o_lv (odp V) w) 9 = V 9 := by rw [v_od_ne (by decide) (by decide), up_ne (by decide)]
    have b8 : v_od (up V 5 w (-1)) (o_lv (odp V) w) 8 = V 8 := by rw [v_od_ne (by decide) (by decide), up_ne (by decide)]
    have b10 : v_od (up V 5 w (-1)) (o_lv (odp V) w) 10 = V 10 := by rw [v_od_ne (by decide) (by decide), up_ne (by decide)]
    have F : v_fin (v_od (up V 5 w (-1)) (o_lv (odp V) w)) g (-1) = v_free (v_detach (v_od (up V 5 w (-1)) (o_lv (odp V) w)) g) g := by
      unfold v_fin
      rw [if_neg]
      unfold v_cc
      rw [if_pos rfl]
      decide
    rw [F]
    have e8 : ∀ i, v_free (v_detach (v_od (up V 5 w (-1)) (o_lv (odp V) w)) g) g 8 i = if i = g then 3 else V 8 i := fun i => by rw [g8, b8]
    have e9 : ∀ i, v_free (v_detach (v_od (up V 5 w (-1)) (o_lv (odp V) w)) g) g 9 i = V 9 i := fun i => by
      rw [g9, b9]
      by_cases e : i = g
      · rw [if_pos e, e, r]
      · rw [if_neg e]
    have e10 : ∀ i, v_free (v_detach (v_od (up V 5 w (-1)) (o_lv (odp V) w)) g) g 10 i = V 10 i := fun i => by rw [g10, b9, b10, if_neg (fun z => z.2.1 r)]
    have ej : ∀ j, j ≠ 5 → j ≠ 6 → j ≠ 7 → j ≠ 8 → j ≠ 9 → j ≠ 10 → v_free (v_detach (v_od (up V 5 w (-1)) (o_lv (odp V) w)) g) g j = V j := fun j h5 h6 h7 h8 h9 h10 => by
      rw [gj j h8 h9 h10, v_od_ne h6 h7, up_ne h5]
    have e5 : ∀ i, v_free (v_detach (v_od (up V 5 w (-1)) (o_lv (odp V) w)) g) g 5 i = if i = w then -1 else V 5 i := fun i => by
      rw [gj 5 (by decide) (by decide) (by decide), v_od_ne (by decide) (by decide), up5 w1]
    have eo : odp (v_free (v_detach (v_od (up V 5 w (-1)) (o_lv (odp V) w)) g) g) = o_lv (odp V) w := by
      refine Prod.ext ?_ ?_
      · show v_free (v_detach (v_od (up V 5 w (-1)) (o_lv (odp V) w)) g) g 6 1 = _
        rw [gj 6 (by decide) (by decide) (by decide)]
        rfl
      · show v_free (v_detach (v_od (up V 5 w (-1)) (o_lv (odp V) w)) g) g 7 = _
        rw [gj 7 (by decide) (by decide) (by decide)]
        rfl
    refine ⟨h.close hg hk r w1 w3 (fun i _ => e8 i) (fun i _ => e9 i) (fun i _ => e10 i) (fun i _ => by rw [ej 11 (by decide) (by decide) (by decide) (by decide) (by decide) (by decide)]) (fun i _ => e5 i), ?_, fun n hn => ?_, fun n hn q => ?_, fun n hn q q2 => ?_, fun v hv q => ?_, fun n hn q ne => ?_, ?_, ej 1 (by decide) (by decide) (by decide) (by decide) (by decide) (by decide), ej 2 (by decide) (by decide) (by decide) (by decide) (by decide) (by decide), ej 3 (by decide) (by decide) (by decide) (by decide) (by decide) (by decide), ej 4 (by decide) (by decide) (by decide) (by decide) (by decide) (by decide), ej 12 (by decide) (by decide) (by decide) (by decide) (by decide) (by decide), ej 13 (by decide) (by decide) (by decide) (by decide) (by decide) (by decide), ej 14 (by decide) (by decide) (by decide) (by decide) (by decide) (by decide), ej 15 (by decide) (by decide) (by decide) (by decide) (by decide) (by decide)⟩
    · rw [eo]
      have q' : flw (v_free (v_detach (v_od (up V 5 w (-1)) (o_lv (odp V) w)) g) g) w = false := by
        unfold flw
        rw [e5 w, if_pos rfl]
        simp
      have hm : ∀ i, i < 5 → i ≠ w → flw (v_free (v_detach (v_od (up V 5 w (-1)) (o_lv (odp V) w)) g) g) i = flw V i := fun i _ ne => by
        unfold flw
        rw [e5 i, if_neg ne]
      generalize flw (v_free (v_detach (v_od (up V 5 w (-1)) (o_lv (odp V) w)) g) g) = F at q' hm ⊢
      cases q : flw V w
      · rw [ho.lv_no q]
        exact ho.cg (fun i hi => by
          by_cases e : i = w
          · rw [e, q', q]
          · exact hm i hi e)
      · exact ho.lv w1 q q' hm
    · rw [e8 n]
      by_cases e : n = g
      · exact Or.inl (if_pos e)
      · exact Or.inr (if_neg e)
    · rw [e8 n]
      split
      · rfl
      · exact q
    · have ne : n ≠ g := fun z => q2 (by rw [z])
      exact ⟨by rw [e8 n, if_neg ne], e9 n, fun _ => ⟨e10 n, by rw [ej 11 (by decide) (by decide) (by decide) (by decide) (by decide) (by decide)]⟩⟩
    · rw [e5 v, if_neg (fun z => q (by rw [w2, z]))]
    · rw [e8 n, if_neg ne, q]
    · rw [e8 g, if_pos rfl]
  · rw [if_neg r]
    obtain ⟨s, s1, s2, s3, s4, s5⟩ := h.pa hg r
    rw [s2]
    have nsg : s ≠ g := fun z => by rw [z] at s3; omega
    obtain ⟨nu, c2⟩ := h.sp s1 s3
    have c2 := c2 rfl
    have b10 : ∀ i, i < 23 → i ≠ g → V 9 i ≠ -1 → v_free (v_detach V g) g 10 i = if V 9 i = s ∧ V 10 g < V 10 i then V 10 i - 1 else V 10 i := fun i hi ne q => by
      rw [f10 i, s2]
      by_cases e : V 9 i = s
      · have p1 := nu.1 i hi (by simp [e])
        have p2 : V 10 i ≠ V 10 g := fun z => ne (nu.2.2 i g hi hg (by simp [e]) (by simp [s2]) z)
        have p3 := nu.1 g hg (by simp [s2])
        have p4 := cnt_le (fun n => decide (V 9 n = (s : Int))) 23
        by_cases w : V 10 g < V 10 i
        · rw [if_pos ⟨hi, by omega, ne, e, by omega⟩, if_pos ⟨e, w⟩, wr_id (by omega) (by omega)]
        · rw [if_neg (fun z => by omega), if_neg (fun z => w z.2)]
      · rw [if_neg (fun z => e z.2.2.2.1), if_neg (fun z => e z.1)]
    have T1 := h.leave (V' := v_free (v_detach V g) g) hg hk s2 (fun i _ => f8 i) (fun i _ => f9 i) b10 (fun i _ => by rw [fj 11 (by decide) (by decide) (by decide)]) (fun w _ => by rw [fj 5 (by decide) (by decide) (by decide)])
    have cs : cnt (fun n => decide (V 9 n = (s : Int))) 23 = cnt (fun n => decide (v_free (v_detach V g) g 9 n = (s : Int))) 23 + 1 := cnt_one_more hg (fun i _ ne => by rw [f9 i, if_neg ne]) (by rw [f9 g, if_pos rfl, decide_eq_false_iff_not]; omega) (by simp [s2])
    have vcc : v_cc (v_free (v_detach V g) g) s = cnt (fun n => decide (v_free (v_detach V g) g 9 n = (s : Int))) 23 := by
      unfold v_cc
      rw [if_neg (by omega)]
    have od1 : odp (v_free (v_detach V g) g) = odp V := by
      unfold odp
      rw [fj 6 (by decide) (by decide) (by decide), fj 7 (by decide) (by decide) (by decide)]
    unfold v_fin
    rw [vcc]
    by_cases one : cnt (fun n => decide (v_free (v_detach V g) g 9 n = (s : Int))) 23 = 1
    · rw [if_pos one]
      have k1 : v_free (v_detach V g) g 8 s ≤ 1 := by rw [f8 s, if_neg nsg]; exact s3
      obtain ⟨m, m1, m2, m3, c8, c9, c10, c11, c5, cj⟩ := col_rows T1 s1 k1 one
      rw [m3]
      have T2 := T1.collapse s1 k1 m1 m2 one c8 c9 c10 c11 c5
      have ms : V 9 m = s := by
        rw [f9 m] at m2
        by_cases e : m = g
        · rw [if_pos e] at m2; omega
        · rw [if_neg e] at m2; exact m2
      have wm := (h.par m1 ms).2.2.2
      have V9s : v_free (v_detach V g) g 9 s = V 9 s := by rw [f9 s, if_neg nsg]
      refine ⟨T2.drop (fun t ht _ x _ => by simp at x), ?_, fun n hn => ?_, fun n hn q => ?_, fun n hn q q2 => ?_, fun v hv q => ?_, fun n hn q ne => ?_, ?_, ?_⟩
      · have od2 : odp (v_free (v_repl (v_detach (v_free (v_detach V g) g) m) s m) s) = odp V := by
          rw [← od1]
          unfold odp
          rw [cj 6 (by decide) (by decide) (by decide) (by decide) (by decide), cj 7 (by decide) (by decide) (by decide) (by decide) (by decide)]
        rw [od2]
        refine ho.cg (fun i hi => ?_)
        unfold flw
        rw [c5 i hi, fj 5 (by decide) (by decide) (by decide)]
        by_cases e : v_free (v_detach V g) g 9 s = -1 ∧ V 5 i = s
        · rw [if_pos e, e.2]
          have h1 : ¬ (m : Int) = -1 := by omega
          have h2 : ¬ (s : Int) = -1 := by omega
          simp [h1, h2]
        · rw [if_neg e]
      · rw [c8 n hn]
        by_cases e : n = s
        · exact Or.inl (if_pos e)
        · rw [if_neg e, f8 n]
          by_cases e2 : n = g
          · exact Or.inl (if_pos e2)
          · exact Or.inr (if_neg e2)
      · rw [c8 n hn, f8 n]
        split
        · rfl
        · split
          · rfl
          · exact q
      · have n1 : n ≠ g := fun z => q2 (by rw [z])
        have n2 : n ≠ s := fun z => q2 (by rw [z, s5])
        have n3 : n ≠ m := fun z => q2 (by rw [z, wm, s5])
        have e9 : v_free (v_repl (v_detach (v_free (v_detach V g) g) m) s m) s 9 n = V 9 n := by rw [c9 n hn, if_neg n2, if_neg n3, f9 n, if_neg n1]
        refine ⟨by rw [c8 n hn, if_neg n2, f8 n, if_neg n1], e9, fun y => ?_⟩
        have ns : V 9 n ≠ s := fun z => q2 (by rw [(h.par hn z).2.2.2, s5])
        exact ⟨by rw [c10 n hn (by rw [e9]; exact y), if_neg n3, b10 n hn n1 y, if_neg (fun z => ns z.1)], by rw [c11 n hn (by rw [e9]; exact y), if_neg n3, fj 11 (by decide) (by decide) (by decide)]⟩
      · rw [c5 v hv, fj 5 (by decide) (by decide) (by decide), if_neg]
        intro z
        rcases h.wi hv with a | ⟨k, k1, k2, k3, k4, k5⟩
        · have := z.2
          omega
        · have : k = s := by have := z.2; omega
          subst this
          exact q (by rw [s5, k5])
      · have n2 : n ≠ s := fun z => by rw [z] at q; omega
        rw [c8 n hn, if_neg n2, f8 n, if_neg ne, q]
      · rw [c8 g hg, if_neg (fun z => nsg z.symm), f8 g, if_pos rfl]
      · refine ⟨?_, ?_, ?_, ?_, ?_, ?_, ?_, ?_⟩ <;> rw [cj _ (by decide) (by decide) (by decide) (by decide) (by decide), fj _ (by decide) (by decide) (by decide)]
    · rw [if_neg one]
      refine ⟨T1.drop (fun t ht q x _ => ?_), ?_, fun n hn => ?_, fun n hn q => ?_, fun n hn q q2 => ?_, fun v hv q => by rw [fj 5 (by decide) (by decide) (by decide)], fun n hn q ne => ?_, ?_, ?_⟩
      · simp at x
        rw [x]
        omega
      · rw [od1]
        refine ho.cg (fun i hi => ?_)
        unfold flw
        rw [fj 5 (by decide) (by decide) (by decide)]
      · rw [f8 n]
        by_cases e2 : n = g
        · exact Or.inl (if_pos e2)
        · exact Or.inr (if_neg e2)
      · rw [f8 n]
        split
        · rfl
        · exact q
      · have n1 : n ≠ g := fun z => q2 (by rw [z])
        refine ⟨by rw [f8 n, if_neg n1], by rw [f9 n, if_neg n1], fun y => ?_⟩
        have ns : V 9 n ≠ s := fun z => q2 (by rw [(h.par hn z).2.2.2, s5])
        exact ⟨by rw [b10 n hn n1 y, if_neg (fun z => ns z.1)], by rw [fj 11 (by decide) (by decide) (by decide)]⟩
      · rw [f8 n, if_neg ne, q]
      · rw [f8 g, if_pos rfl]
      · refine ⟨?_, ?_, ?_, ?_, ?_, ?_, ?_, ?_⟩ <;> rw [fj _ (by decide) (by decide) (by decide)]
end
section
/-! THE RELATION: how many nodes are in use; withdraw, join -/
theorem sm_pick (x : Int) : ∀ m : Nat, sm (fun s => if x = (s : Int) then 1 else 0) m = if 0 ≤ x ∧ x < m then 1 else 0
  | 0 => by
    rw [if_neg (by omega)]
    rfl
  | m + 1 => by
    show sm _ m + (if x = (m : Int) then 1 else 0) = _
    rw [sm_pick x m]
    by_cases h : x = m
    · rw [if_pos h, if_neg (by omega), if_pos (by omega)]
      rfl
    · rw [if_neg h]
      by_cases q : 0 ≤ x ∧ x < m
      · rw [if_pos q, if_pos (by omega)]
        rfl
      · rw [if_neg q, if_neg (by omega)]
        rfl
/-- who points below m, counted at the ends -/
theorem cnt_ends (f : Nat → Int) (m n : Nat) : sm (fun s => (cnt (fun i => decide (f i = s)) n : Int)) m = cnt (fun i => decide (0 ≤ f i ∧ f i < m)) n := by
  have h1 : sm (fun s => (cnt (fun i => decide (f i = s)) n : Int)) m = sm (fun s => sm (fun i => if f i = (s : Int) then 1 else 0) n) m := sm_congr (fun s _ => by
    rw [← sm_cnt]
    exact sm_congr (fun i _ => by simp))
  rw [h1, ← sm_swap (fun i s => if f i = (s : Int) then 1 else 0) m n, ← sm_cnt]
  refine sm_congr (fun i _ => ?_)
  rw [sm_pick]
  simp
theorem sm_two (c : Nat → Bool) : ∀ n, sm (fun i => if c i then 2 else 0) n = 2 * (cnt c n : Int)
  | 0 => rfl
  | n + 1 => by
    show sm _ n + (if c n then 2 else 0) = 2 * ((cnt c n + (if c n then 1 else 0) : Nat) : Int)
    rw [sm_two c n]
    split <;> omega
/-- the splits are less than the groups, by the trees -/
theorem few_nodes {V : VW} {d : Nat → Nat} {wn : Nat → Int} (h : Tree V d wn (fun _ => false)) (ht : Tabs V (fun _ => false)) : cnt (fun n => decide (V 8 n ≠ 3)) 23 + (if cnt (fun p => decide (V 13 p ≠ -1)) 12 = 0 then 0 else 1) ≤ 2 * cnt (fun p => decide (V 13 p ≠ -1)) 12 := by
  have a1 : cnt (fun n => decide (V 8 n ≠ 3)) 23 = cnt (fun n => decide (V 8 n ≤ 1)) 23 + cnt (fun n => decide (V 8 n = 2)) 23 := cnt_split (fun i hi => by
    have := h.ki hi
    by_cases x : V 8 i ≤ 1
    · have y : ¬ V 8 i = 2 := by omega
      have z : ¬ V 8 i = 3 := by omega
      simp [x, y, z]
    · by_cases y : V 8 i = 2
      · simp [y]
      · have z : V 8 i = 3 := by omega
        simp [z])
  have a2 : cnt (fun n => decide (V 8 n ≠ 3)) 23 = cnt (fun n => decide (V 9 n ≠ -1)) 23 + cnt (fun n => decide (V 8 n ≠ 3) && decide (V 9 n = -1)) 23 := cnt_split (fun i hi => by
    by_cases x : V 9 i = -1
    · simp [x]
    · have := h.us hi x
      simp [x, this])
  have a3 : (2 : Int) * (cnt (fun n => decide (V 8 n ≤ 1)) 23 : Int) ≤ cnt (fun n => decide (V 9 n ≠ -1)) 23 := by
    have e1 : (cnt (fun n => decide (V 9 n ≠ -1)) 23 : Int) = sm (fun s => (cnt (fun i => decide (V 9 i = s)) 23 : Int)) 23 := by
      rw [cnt_ends]
      congr 1
      refine cnt_congr (fun i hi => ?_)
      by_cases x : V 9 i = -1
      · simp [x]
      · obtain ⟨s, s1, s2, _⟩ := h.pa hi x
        have : (0 : Int) ≤ s ∧ (s : Int) < 23 := by omega
        rw [s2]
        simp
        omega
    rw [e1, ← sm_two]
    refine sm_le (fun s hs => ?_)
    by_cases x : V 8 s ≤ 1
    · have := (h.sp hs x).2 rfl
      simp only [x, decide_true, if_true]
      omega
    · simp only [x, decide_false, Bool.false_eq_true, if_false]
      omega
  have a4 : (cnt (fun n => decide (V 8 n = 2)) 23 : Int) ≤ cnt (fun p => decide (V 13 p ≠ -1)) 12 := by
    have e1 : (cnt (fun p => decide (V 13 p ≠ -1)) 12 : Int) = sm (fun s => (cnt (fun i => decide (V 13 i = s)) 12 : Int)) 23 := by
      rw [cnt_ends]
      congr 1
      refine cnt_congr (fun i hi => ?_)
      rcases ht.gr hi with x | ⟨g, g1, g2, _⟩
      · simp [x]
      · have : (0 : Int) ≤ g ∧ (g : Int) < 23 := by omega
        rw [g2]
        simp
        omega
    rw [e1, ← sm_cnt]
    refine sm_le (fun s hs => ?_)
    by_cases x : V 8 s = 2
    · have := (ht.fu hs x rfl).1
      simp only [x, decide_true, if_true]
      omega
    · simp only [x, decide_false, Bool.false_eq_true, if_false]
      omega
  by_cases z : cnt (fun p => decide (V 13 p ≠ -1)) 12 = 0
  · rw [if_pos z]
    omega
  · rw [if_neg z]
    have a5 : 1 ≤ cnt (fun n => decide (V 8 n ≠ 3) && decide (V 9 n = -1)) 23 := by
      obtain ⟨p, hp, q⟩ := cnt_ex (c := fun p => decide (V 13 p ≠ -1)) (n := 12) (by omega)
      rw [decide_eq_true_eq] at q
      rcases ht.gr hp with x | ⟨g, g1, g2, g3⟩
      · exact absurd x q
      · obtain ⟨m, m1, m2, m3, m4, m5⟩ := h.top g1 (by omega)
        exact cnt_pos m1 (by simp [m3, m4])
    omega
theorem cnt_free (V : VW) : cnt (fun n => decide (V 8 n = 3)) 23 + cnt (fun n => decide (V 8 n ≠ 3)) 23 = 23 := by
  have h : cnt (fun _ => true) 23 = cnt (fun n => decide (V 8 n = 3)) 23 + cnt (fun n => decide (V 8 n ≠ 3)) 23 := cnt_split (fun i _ => by
    by_cases x : V 8 i = 3 <;> simp [x])
  have : cnt (fun _ => true) 23 = 23 := by decide
  omega
theorem v_mn_sp {V : VW} (h : 1 ≤ cnt (fun n => decide (V 8 n = 3)) 23) : ∃ f : Nat, f < 23 ∧ v_mn V = f ∧ V 8 f = 3 ∧ ∀ k, k < f → V 8 k ≠ 3 := by
  unfold v_mn
  rcases fnd_spec (fun n => decide (V 8 n = 3)) 23 with ⟨_, h2⟩ | ⟨i, h1, h2, h3, h4⟩
  · rw [cnt_zero.mpr h2] at h
    omega
  · rw [decide_eq_true_eq] at h3
    exact ⟨i, h1, h2, h3, fun k hk => by simpa using h4 k hk⟩
/-- a pane is taken away: what is left as it was -/
def Wd (V V' : VW) (p : Nat) (wn : Nat → Int) : Prop :=
  (∀ i, i < 12 → V' 13 i = if i = p then -1 else V 13 i) ∧ (∀ i, i < 12 → V' 15 i = if i = p then 0 else V 15 i) ∧
  (∀ n, n < 23 → V' 8 n = 3 ∨ V' 8 n = V 8 n) ∧ (∀ n, n < 23 → V 8 n = 3 → V' 8 n = 3) ∧
  (∀ n, n < 23 → V 8 n ≠ 3 → (∀ g : Nat, V 13 p = g → wn n ≠ wn g) → V' 8 n = V 8 n ∧ V' 9 n = V 9 n ∧ (V 9 n ≠ -1 → V' 10 n = V 10 n ∧ V' 11 n = V 11 n) ∧ V' 12 n = V 12 n) ∧
  (∀ i, i < 12 → i ≠ p → (∀ g : Nat, V 13 p = g → V 13 i ≠ g) → V' 14 i = V 14 i) ∧
  (∀ w : Nat, w < 5 → (∀ g : Nat, V 13 p = g → (w : Int) ≠ wn g) → V' 5 w = V 5 w) ∧
  V' 1 = V 1 ∧ V' 2 = V 2 ∧ V' 3 = V 3 ∧ V' 4 = V 4
theorem withdraw_ok {V : VW} {d : Nat → Nat} {wn : Nat → Int} (h : Inv V d wn) {p : Nat} (hp : p < 12) : Inv (v_withdraw V p) d wn ∧ Wd V (v_withdraw V p) p wn := by
  obtain ⟨h1, h2, h3, h4⟩ := h
  unfold v_withdraw
  rw [ga_in hp]
  rcases h2.gr hp with q | ⟨g, g1, g2, g3⟩
  · rw [if_pos q]
    obtain ⟨q14, q15⟩ := h2.no hp q
    refine ⟨⟨h1, h2, h3, h4⟩, fun i hi => ?_, fun i hi => ?_, fun n hn => Or.inr rfl, fun n hn z => z, fun n hn _ _ => ⟨rfl, rfl, fun _ => ⟨rfl, rfl⟩, rfl⟩, fun i _ _ _ => rfl, fun w _ _ => rfl, rfl, rfl, rfl, rfl⟩
    · by_cases e : i = p
      · rw [if_pos e, e, q]
      · rw [if_neg e]
    · by_cases e : i = p
      · rw [if_pos e, e, q15]
      · rw [if_neg e]
  · rw [if_neg (by omega), g2]
    obtain ⟨r13, r14, r15, r12⟩ := out_rows h2 hp g2
    have r : ∀ j, j ≠ 12 → j ≠ 13 → j ≠ 14 → j ≠ 15 → v_out V p j = V j := fun j => v_out_ne
    have T : Tree (v_out V p) d wn (fun _ => false) := h1.cg (fun n _ => by rw [r 8 (by decide) (by decide) (by decide) (by decide)]) (fun n _ => by rw [r 9 (by decide) (by decide) (by decide) (by decide)]) (fun n _ => by rw [r 10 (by decide) (by decide) (by decide) (by decide)]) (fun n hn q => by rw [r 11 (by decide) (by decide) (by decide) (by decide)]; exact h1.we hn q) (fun n _ => by rw [r 5 (by decide) (by decide) (by decide) (by decide)])
    have L : LO (odp (v_out V p)) 5 (flw (v_out V p)) := by
      rw [odp_out]
      exact h3.cg (fun i _ => by unfold flw; rw [r 5 (by decide) (by decide) (by decide) (by decide)])
    have G : Geo (v_out V p) := h4.cg (r 1 (by decide) (by decide) (by decide) (by decide)) (r 2 (by decide) (by decide) (by decide) (by decide)) (r 3 (by decide) (by decide) (by decide) (by decide)) (r 4 (by decide) (by decide) (by decide) (by decide))
    have r12' : ∀ n, n < 23 → wn n ≠ wn g → v_out V p 12 n = V 12 n := fun n hn q => by
      rw [r12 n hn, if_neg (fun z => q (by rw [z.1]))]
    by_cases q : v_tc (v_out V p) g = 0
    · rw [if_pos q]
      have T2 := out_tabs h2 hp g2 (X' := fun k => k == g) (fun k hk => by simp [hk]) (fun z => by simp at z)
      have k8 : v_out V p 8 = V 8 := r 8 (by decide) (by decide) (by decide) (by decide)
      obtain ⟨A, B, C⟩ := remg_ok T L g1 (by rw [k8]; exact g3)
      obtain ⟨c1, c2, c3, c4, c5, c6, e1, e2, e3, e4, e12, e13, e14, e15⟩ := C
      rw [k8] at c1 c2 c3 c5
      rw [r 9 (by decide) (by decide) (by decide) (by decide), r 10 (by decide) (by decide) (by decide) (by decide), r 11 (by decide) (by decide) (by decide) (by decide)] at c3
      rw [r 5 (by decide) (by decide) (by decide) (by decide)] at c4
      refine ⟨⟨A, ?_, B, G.cg e1 e2 e3 e4⟩, fun i hi => by rw [e13]; exact r13 i hi, fun i hi => by rw [e15]; exact r15 i hi, c1, c2, fun n hn z z2 => ?_, fun i hi ne z => ?_, fun w hw z => c4 w hw (z g g2), ?_, ?_, ?_, ?_⟩
      · have n0 : ∀ i, i < 12 → v_out V p 13 i ≠ g := fun i hi z => by
          have := cnt_zero.mp q i hi
          simp at this
          exact this z
        refine ⟨fun i hi => ?_, fun i hi z => ?_, fun i hi => by rw [e15]; exact T2.hi hi, fun t ht z => ?_⟩
        · rw [e13]
          rcases T2.gr hi with x | ⟨t, t1, t2, t3⟩
          · exact Or.inl x
          · refine Or.inr ⟨t, t1, t2, c5 t t1 (by rw [← k8]; exact t3) (fun y => ?_)⟩
            rw [y] at t2
            exact n0 i hi t2
        · rw [e13] at z
          rw [e14, e15]
          exact T2.no hi z
        · have nt : t ≠ g := fun y => by rw [y, c6] at z; omega
          have k2 : v_out V p 8 t = 2 := by
            rw [k8]
            rcases c1 t ht with y | y
            · omega
            · omega
          rw [e13, e14]
          refine ⟨T2.nu ht k2, fun _ => ?_⟩
          obtain ⟨f1, f2⟩ := T2.fu ht k2 (by simpa using nt)
          refine ⟨f1, ?_⟩
          unfold Act at f2 ⊢
          rw [e12, e13, e15]
          exact f2
      · obtain ⟨x1, x2, x3⟩ := c3 n hn z (z2 g g2)
        exact ⟨x1, x2, x3, by rw [e12]; exact r12' n hn (z2 g g2)⟩
      · rw [e14, r14 i hi, if_neg ne, if_neg (fun y => z g g2 y.1)]
      · rw [e1]; exact r 1 (by decide) (by decide) (by decide) (by decide)
      · rw [e2]; exact r 2 (by decide) (by decide) (by decide) (by decide)
      · rw [e3]; exact r 3 (by decide) (by decide) (by decide) (by decide)
      · rw [e4]; exact r 4 (by decide) (by decide) (by decide) (by decide)
    · rw [if_neg q]
      have T2 := out_tabs h2 hp g2 (X' := fun _ => false) (fun k hk => rfl) (fun z => ⟨rfl, q⟩)
      refine ⟨⟨T, T2, L, G⟩, r13, r15, fun n hn => Or.inr (by rw [r 8 (by decide) (by decide) (by decide) (by decide)]), fun n hn z => by rw [r 8 (by decide) (by decide) (by decide) (by decide)]; exact z, fun n hn z z2 => ?_, fun i hi ne z => ?_, fun w hw z => by rw [r 5 (by decide) (by decide) (by decide) (by decide)], r 1 (by decide) (by decide) (by decide) (by decide), r 2 (by decide) (by decide) (by decide) (by decide), r 3 (by decide) (by decide) (by decide) (by decide), r 4 (by decide) (by decide) (by decide) (by decide)⟩
      · exact ⟨by rw [r 8 (by decide) (by decide) (by decide) (by decide)], by rw [r 9 (by decide) (by decide) (by decide) (by decide)], fun _ => ⟨by rw [r 10 (by decide) (by decide) (by decide) (by decide)], by rw [r 11 (by decide) (by decide) (by decide) (by decide)]⟩, r12' n hn (z2 g g2)⟩
      · rw [r14 i hi, if_neg ne, if_neg (fun y => z g g2 y.1)]
theorem join_rows {V : VW} {p g : Nat} (hp : p < 12) (hg : g < 23) : (∀ i, v_join V p g 13 i = if i = p then (g : Int) else V 13 i) ∧ (∀ i, v_join V p g 14 i = if i = p then (v_tc V g : Int) else V 14 i) ∧ (∀ i, v_join V p g 12 i = if i = g then (p : Int) else V 12 i) ∧ ∀ j, j ≠ 12 → j ≠ 13 → j ≠ 14 → v_join V p g j = V j := by
  refine ⟨fun i => ?_, fun i => ?_, fun i => ?_, fun j a b c => ?_⟩
  · unfold v_join
    rw [up_ne (by decide), up13 hp, up_ne (by decide)]
  · unfold v_join
    rw [up_ne (by decide), up_ne (by decide), up14 hp]
  · unfold v_join
    rw [up12 hg, up_ne (by decide), up_ne (by decide)]
  · unfold v_join
    rw [up_ne a, up_ne b, up_ne c]
theorem join_tabs {V : VW} {X X' : Nat → Bool} (h : Tabs V X) {p g : Nat} (hp : p < 12) (hu : V 13 p = -1) (hg : g < 23) (hk : V 8 g = 2) (hX : ∀ k, k ≠ g → X' k = X k) : Tabs (v_join V p g) X' := by
  obtain ⟨r13, r14, r12, rj⟩ := join_rows (V := V) hp hg
  have r8 := rj 8 (by decide) (by decide) (by decide)
  have r15 := rj 15 (by decide) (by decide) (by decide)
  obtain ⟨u14, u15⟩ := h.no hp hu
  refine ⟨fun i hi => ?_, fun i hi q => ?_, fun i hi => by rw [r15]; exact h.hi hi, fun t ht q => ?_⟩
  · rw [r13 i, r8]
    by_cases e : i = p
    · exact Or.inr ⟨g, hg, if_pos e, hk⟩
    · rw [if_neg e]
      exact h.gr hi
  · rw [r13 i] at q
    by_cases e : i = p
    · rw [if_pos e] at q
      omega
    · rw [if_neg e] at q
      rw [r14 i, if_neg e, r15]
      exact h.no hi q
  · rw [r8] at q
    have a := h.nu ht q
    by_cases e : t = g
    · subst e
      have b := a.ins (m' := fun i => decide (v_join V p t 13 i = (t : Int))) (p' := v_join V p t 14) (k0 := (v_tc V t : Int)) hp (by rw [decide_eq_false_iff_not, hu]; omega) (by unfold v_tc; omega) (by rw [r13 p, if_pos rfl]; simp) (fun i _ ne => by rw [r13 i, if_neg ne]) (by rw [r14 p, if_pos rfl]) (fun i hi ne mi => by
        have := a.1 i hi mi
        rw [r14 i, if_neg ne, if_neg (by unfold v_tc; omega)])
      refine ⟨b.1, fun _ => ⟨by omega, Or.inr ⟨p, hp, by rw [r12 t, if_pos rfl], by rw [r13 p, if_pos rfl], by rw [r15]; exact u15⟩⟩⟩
    · have c : ∀ i, i < 12 → decide (v_join V p g 13 i = (t : Int)) = decide (V 13 i = (t : Int)) := fun i hi => by
        rw [r13 i]
        by_cases z : i = p
        · rw [if_pos z, z, hu]
          have h1 : ¬ (-1 : Int) = t := by omega
          have h2 : ¬ (g : Int) = t := by omega
          simp [h1, h2]
        · rw [if_neg z]
      refine ⟨a.cg c (fun i hi mi => ?_), fun x => ?_⟩
      · rw [decide_eq_true_eq] at mi
        rw [r14 i, if_neg (fun z => by rw [z, hu] at mi; omega)]
      · obtain ⟨f1, f2⟩ := h.fu ht q (by rw [← hX t e]; exact x)
        refine ⟨by rw [cnt_congr c]; exact f1, ?_⟩
        unfold Act
        rw [r12 t, if_neg e, r15]
        rcases f2 with ⟨b1, b2⟩ | ⟨y, c1, c2, c3, c4⟩
        · refine Or.inl ⟨b1, fun i hi e1 => ?_⟩
          rw [r13 i] at e1
          by_cases z : i = p
          · rw [if_pos z] at e1
            omega
          · rw [if_neg z] at e1
            exact b2 i hi e1
        · refine Or.inr ⟨y, c1, c2, ?_, c4⟩
          rw [r13 y, if_neg (fun z => by rw [z, hu] at c3; omega)]
          exact c3
end
section
/-! THE RELATION: new groups -/
theorem dir_rg (s : Int) : v_dir s = 0 ∨ v_dir s = 1 := by
  unfold v_dir
  split
  · exact Or.inl rfl
  · exact Or.inr rfl
theorem beh_rg (s : Int) : v_beh s = 0 ∨ v_beh s = 1 := by
  unfold v_beh
  split
  · exact Or.inr rfl
  · exact Or.inl rfl
/-- a node that enters a split: the rows -/
theorem at_rows {V : VW} {n s : Nat} {k w : Int} (hn : n < 23) : (∀ i, v_attach V n s k w 9 i = if i = n then (s : Int) else V 9 i) ∧ (∀ i, v_attach V n s k w 10 i = if i = n then k else if i < 23 ∧ V 9 i = s ∧ k ≤ V 10 i then wr (V 10 i + 1) else V 10 i) ∧ (∀ i, v_attach V n s k w 11 i = if i = n then w else V 11 i) ∧ ∀ j, j ≠ 9 → j ≠ 10 → j ≠ 11 → v_attach V n s k w j = V j := by
  have A : v_attach V n s k w = up (up (up (v_shift V s k 1) 9 n s) 10 n k) 11 n w := by
    unfold v_attach
    rw [if_neg (by omega), if_neg (by omega)]
  have S : ∀ j, j ≠ 10 → v_shift V s k 1 j = V j := fun j hj => by
    funext i
    unfold v_shift
    rw [if_neg (fun z => hj z.1)]
  rw [A]
  refine ⟨fun i => ?_, fun i => ?_, fun i => ?_, fun j a b c => ?_⟩
  · rw [up_ne (by decide), up_ne (by decide), up9 hn, S 9 (by decide)]
  · rw [up_ne (by decide), up10 hn, up_ne (by decide)]
    by_cases e : i = n
    · rw [if_pos e, if_pos e]
    · rw [if_neg e, if_neg e]
      unfold v_shift
      by_cases q : i < 23 ∧ V 9 i = s ∧ k ≤ V 10 i
      · rw [if_pos q, if_pos ⟨rfl, q.1, by omega, q.2⟩]
      · rw [if_neg q, if_neg (fun z => q ⟨z.2.1, z.2.2.2⟩)]
  · rw [up11 hn, up_ne (by decide), up_ne (by decide), S 11 (by decide)]
  · rw [up_ne c, up_ne b, up_ne a, S j b]
/-- what the new group g beside t leaves -/
def Bes (V V' : VW) (t f : Nat) (wn wn' : Nat → Int) : Prop :=
  V' 8 f = 2 ∧ V 8 f = 3 ∧ wn' f = wn t ∧ (∀ n, n < 23 → V 8 n ≠ 3 → V' 8 n = V 8 n ∧ wn' n = wn n) ∧ (∀ n, n < 23 → V' 8 n = 2 → n = f ∨ V 8 n = 2) ∧ (∀ w : Nat, w < 5 → (V' 5 w = -1 ↔ V 5 w = -1)) ∧
  ∀ j, j ≠ 5 → j ≠ 8 → j ≠ 9 → j ≠ 10 → j ≠ 11 → V' j = V j
theorem bes2_ok {V : VW} {d : Nat → Nat} {wn : Nat → Int} {X : Nat → Bool} (h : Tree V d wn X) {t f m : Nat} (ht : t < 23) (k2 : V 8 t = 2) (hf : f < 23) (hkf : V 8 f = 3) (hm : m < 23) (hkm : V 8 m = 3) (nmf : m ≠ f) (side : Int) (hmn : v_mn (up V 8 f 2) = m) : ∃ d' wn', Tree (v_bes2 t side f (up V 8 f 2)) d' wn' X ∧ Bes V (v_bes2 t side f (up V 8 f 2)) t f wn wn' ∧
    (∀ i, i < 23 → v_bes2 t side f (up V 8 f 2) 8 i = if i = m then v_dir side else if i = f then 2 else V 8 i) ∧
    (∀ i, i < 23 → v_bes2 t side f (up V 8 f 2) 9 i = if i = m then V 9 t else if i = t ∨ i = f then (m : Int) else V 9 i) ∧
    (∀ i, i < 23 → v_bes2 t side f (up V 8 f 2) 9 i ≠ -1 → v_bes2 t side f (up V 8 f 2) 10 i = if i = m then V 10 t else if i = t then 1 - v_beh side else if i = f then v_beh side else V 10 i) ∧
    (∀ i, i < 23 → v_bes2 t side f (up V 8 f 2) 9 i ≠ -1 → v_bes2 t side f (up V 8 f 2) 11 i = if i = m then V 11 t else if i = t ∨ i = f then 1000 else V 11 i) ∧
    (∀ w, w < 5 → v_bes2 t side f (up V 8 f 2) 5 w = if V 9 t = -1 ∧ V 5 w = t then (m : Int) else V 5 w) := by
  have ntm : t ≠ m := fun z => by rw [z] at k2; omega
  have ntf : t ≠ f := fun z => by rw [z] at k2; omega
  have f9 := h.fr hf hkf
  have m9 := h.fr hm hkm
  have nof : ∀ i, i < 23 → V 9 i ≠ m := fun i hi => h.nof hm (Or.inl hkm) hi
  have bd := dir_rg side
  have bb := beh_rg side
  unfold v_bes2
  rw [hmn]
  -- V2: both nodes made
  obtain ⟨V2, hV2⟩ : ∃ V2, V2 = up (up V 8 f 2) 8 m (v_dir side) := ⟨_, rfl⟩
  rw [← hV2]
  have q8 : ∀ i, V2 8 i = if i = m then v_dir side else if i = f then 2 else V 8 i := fun i => by rw [hV2, up8 hm, up8 hf]
  have qj : ∀ j, j ≠ 8 → V2 j = V j := fun j hj => by rw [hV2, up_ne hj, up_ne hj]
  -- V3: m stands where t stood
  obtain ⟨V3, hV3⟩ : ∃ V3, V3 = v_repl V2 t m := ⟨_, rfl⟩
  rw [← hV3]
  have R : (∀ i, V3 8 i = V2 8 i) ∧ (∀ i, V3 9 i = if i = m then V 9 t else if i = t then -1 else V 9 i) ∧ (∀ i, i < 23 → (i ≠ m ∨ V 9 t ≠ -1) → V3 10 i = if i = m then V 10 t else V 10 i) ∧ (∀ i, i < 23 → (i ≠ m ∨ V 9 t ≠ -1) → V3 11 i = if i = m then V 11 t else V 11 i) ∧ (∀ w, w < 5 → V3 5 w = if V 9 t = -1 ∧ V 5 w = t then (m : Int) else V 5 w) ∧ ∀ j, j ≠ 5 → j ≠ 9 → j ≠ 10 → j ≠ 11 → V3 j = V2 j := by
    by_cases r : V 9 t = -1
    · have E : V3 = up V2 5 (v_wo V2 t) m := by
        rw [hV3]
        unfold v_repl
        rw [ga_in ht, qj 9 (by decide), if_pos r]
      obtain ⟨w, w1, w2, w3⟩ := h.ro ht (by omega) r
      have W : v_wo V2 t = w := by
        have tp : v_top V2 23 t = t := by
          show (if ga (V2 9) 23 t = -1 then (t : Int) else _) = _
          rw [ga_in ht, qj 9 (by decide), if_pos r]
        unfold v_wo
        rw [tp, if_neg (by omega), qj 5 (by decide)]
        refine fnd_un w1 (by simp [w3]) (fun k hk e => ?_)
        rw [decide_eq_true_eq] at e
        exact h.un hk w1 e w3
      rw [E, W]
      refine ⟨fun i => by rw [up_ne (by decide)], fun i => ?_, fun i hi q => ?_, fun i hi q => ?_, fun v hv => ?_, fun j a _ _ _ => up_ne a⟩
      · rw [up_ne (by decide), qj 9 (by decide)]
        by_cases e : i = m
        · rw [if_pos e, e, m9, r]
        · rw [if_neg e]
          by_cases e2 : i = t
          · rw [if_pos e2, e2, r]
          · rw [if_neg e2]
      · rw [up_ne (by decide), qj 10 (by decide), if_neg (by rcases q with q | q; exact q; exact absurd r q)]
      · rw [up_ne (by decide), qj 11 (by decide), if_neg (by rcases q with q | q; exact q; exact absurd r q)]
      · rw [up5 w1, qj 5 (by decide)]
        by_cases e : v = w
        · rw [if_pos e, if_pos ⟨r, by rw [e]; exact w3⟩]
        · rw [if_neg e, if_neg (fun z => e (h.un hv w1 z.2 w3))]
    · have E : V3 = up (up (up (up V2 9 t (-1)) 9 m (V 9 t)) 10 m (V 10 t)) 11 m (V 11 t) := by
        rw [hV3]
        unfold v_repl
        rw [ga_in ht, ga_in ht, ga_in ht, qj 9 (by decide), qj 10 (by decide), qj 11 (by decide), if_neg r]
      rw [E]
      refine ⟨fun i => ?_, fun i => ?_, fun i hi q => ?_, fun i hi q => ?_, fun v hv => ?_, fun j a b c e => by rw [up_ne e, up_ne c, up_ne b, up_ne b]⟩
      · rw [up_ne (by decide), up_ne (by decide), up_ne (by decide), up_ne (by decide)]
      · rw [up_ne (by decide), up_ne (by decide), up9 hm, up9 ht, qj 9 (by decide)]
      · rw [up_ne (by decide), up10 hm, up_ne (by decide), up_ne (by decide), qj 10 (by decide)]
      · rw [up11 hm, up_ne (by decide), up_ne (by decide), up_ne (by decide), qj 11 (by decide)]
      · rw [up_ne (by decide), up_ne (by decide), up_ne (by decide), up_ne (by decide), qj 5 (by decide), if_neg (fun z => r z.1)]
  obtain ⟨R8, R9, R10, R11, R5, Rj⟩ := R
  obtain ⟨A9, A10, A11, Aj⟩ := at_rows (V := V3) (n := t) (s := m) (k := 0) (w := 1000) ht
  obtain ⟨V4, hV4⟩ : ∃ V4, V4 = v_attach V3 t m 0 1000 := ⟨_, rfl⟩
  rw [← hV4] at A9 A10 A11 Aj ⊢
  obtain ⟨B9, B10, B11, Bj⟩ := at_rows (V := V4) (n := f) (s := m) (k := v_beh side) (w := 1000) hf
  obtain ⟨V5, hV5⟩ : ∃ V5, V5 = v_attach V4 f m (v_beh side) 1000 := ⟨_, rfl⟩
  rw [← hV5] at B9 B10 B11 Bj ⊢
  have c8 : ∀ i, i < 23 → V5 8 i = if i = m then v_dir side else if i = f then 2 else V 8 i := fun i hi => by
    rw [Bj 8 (by decide) (by decide) (by decide), Aj 8 (by decide) (by decide) (by decide), R8 i, q8 i]
  have c9 : ∀ i, i < 23 → V5 9 i = if i = m then V 9 t else if i = t ∨ i = f then (m : Int) else V 9 i := fun i hi => by
    rw [B9 i, A9 i, R9 i]
    by_cases e1 : i = f
    · rw [if_pos e1, if_neg (fun z => nmf (by omega)), if_pos (Or.inr e1)]
    · rw [if_neg e1]
      by_cases e2 : i = t
      · rw [if_pos e2, if_neg (fun z => ntm (by omega)), if_pos (Or.inl e2)]
      · rw [if_neg e2]
        by_cases e3 : i = m
        · rw [if_pos e3, if_pos e3]
        · rw [if_neg e3, if_neg e3, if_neg e2, if_neg (fun z => z.elim e2 e1)]
  have s4 : ∀ i, i < 23 → V4 9 i = m → i = t := fun i hi q => by
    rw [A9 i, R9 i] at q
    by_cases e2 : i = t
    · exact e2
    · rw [if_neg e2] at q
      by_cases e3 : i = m
      · rw [if_pos e3] at q
        exact absurd q (nof t ht)
      · rw [if_neg e3, if_neg e2] at q
        exact absurd q (nof i hi)
  have s3 : ∀ i, i < 23 → V3 9 i ≠ m := fun i hi q => by
    rw [R9 i] at q
    by_cases e3 : i = m
    · rw [if_pos e3] at q
      exact nof t ht q
    · rw [if_neg e3] at q
      by_cases e2 : i = t
      · rw [if_pos e2] at q
        omega
      · rw [if_neg e2] at q
        exact nof i hi q
  have c10 : ∀ i, i < 23 → V5 9 i ≠ -1 → V5 10 i = if i = m then V 10 t else if i = t then 1 - v_beh side else if i = f then v_beh side else V 10 i := fun i hi q => by
    rw [B10 i]
    by_cases e1 : i = f
    · rw [if_pos e1, if_neg (fun z => nmf (by omega)), if_neg (fun z => ntf (by omega)), if_pos e1]
    · rw [if_neg e1]
      by_cases e2 : i = t
      · have a9 : V4 9 i = m := by rw [A9 i, if_pos e2]
        have a10 : V4 10 i = 0 := by rw [A10 i, if_pos e2]
        rw [if_neg (c := i = m) (fun z => ntm (by omega)), if_pos (c := i = t) e2, a10]
        rcases bb with b | b
        · rw [b, if_pos ⟨hi, a9, by omega⟩]
          rfl
        · rw [b, if_neg (fun z => by omega)]
          rfl
      · rw [if_neg (fun z => e2 (s4 i hi z.2.1)), A10 i, if_neg e2, if_neg (fun z => s3 i hi z.2.1)]
        rw [c9 i hi] at q
        rw [R10 i hi (by
          by_cases e3 : i = m
          · rw [if_pos e3] at q
            exact Or.inr q
          · exact Or.inl e3)]
        by_cases e3 : i = m
        · rw [if_pos e3, if_pos e3]
        · rw [if_neg e3, if_neg e3, if_neg e2, if_neg e1]
  have c11 : ∀ i, i < 23 → V5 9 i ≠ -1 → V5 11 i = if i = m then V 11 t else if i = t ∨ i = f then 1000 else V 11 i := fun i hi q => by
    rw [B11 i, A11 i]
    by_cases e1 : i = f
    · rw [if_pos e1, if_neg (fun z => nmf (by omega)), if_pos (Or.inr e1)]
    · rw [if_neg e1]
      by_cases e2 : i = t
      · rw [if_pos e2, if_neg (fun z => ntm (by omega)), if_pos (Or.inl e2)]
      · rw [if_neg e2]
        rw [c9 i hi] at q
        rw [R11 i hi (by
          by_cases e3 : i = m
          · rw [if_pos e3] at q
            exact Or.inr q
          · exact Or.inl e3)]
        by_cases e3 : i = m
        · rw [if_pos e3, if_pos e3]
        · rw [if_neg e3, if_neg e3, if_neg (fun z => z.elim e2 e1)]
  have c5 : ∀ w, w < 5 → V5 5 w = if V 9 t = -1 ∧ V 5 w = t then (m : Int) else V 5 w := fun w hw => by
    rw [Bj 5 (by decide) (by decide) (by decide), Aj 5 (by decide) (by decide) (by decide), R5 w hw]
  refine ⟨_, _, h.between ht hm hf k2 hkm hkf nmf (by omega) (by omega) c8 c9 c10 c11 c5, ⟨?_, hkf, ?_, fun n hn q => ?_, fun n hn q => ?_, fun w hw => ?_, fun j a5 a8 a9 a10 a11 => ?_⟩, c8, c9, c10, c11, c5⟩
  · rw [c8 f hf, if_neg (fun z => nmf z.symm), if_pos rfl]
  · dsimp only
    rw [if_pos (Or.inr rfl)]
  · have n1 : n ≠ m := fun z => by rw [z] at q; exact q hkm
    have n2 : n ≠ f := fun z => by rw [z] at q; exact q hkf
    refine ⟨by rw [c8 n hn, if_neg n1, if_neg n2], ?_⟩
    dsimp only
    rw [if_neg (fun z => z.elim n1 n2)]
  · rw [c8 n hn] at q
    by_cases e1 : n = m
    · rw [if_pos e1] at q
      omega
    · rw [if_neg e1] at q
      by_cases e2 : n = f
      · exact Or.inl e2
      · rw [if_neg e2] at q
        exact Or.inr q
  · rw [c5 w hw]
    by_cases e : V 9 t = -1 ∧ V 5 w = t
    · rw [if_pos e, e.2]
      omega
    · rw [if_neg e]
  · rw [Bj j a9 a10 a11, Aj j a9 a10 a11, Rj j a5 a9 a10 a11, qj j a8]
theorem bes1_ok {V : VW} {d : Nat → Nat} {wn : Nat → Int} {X : Nat → Bool} (h : Tree V d wn X) {t f s : Nat} (ht : t < 23) (k2 : V 8 t = 2) (hf : f < 23) (hkf : V 8 f = 3) (hs : V 9 t = s) (side : Int) : ∃ d' wn', Tree (v_bes1 V t side f (up V 8 f 2)) d' wn' X ∧ Bes V (v_bes1 V t side f (up V 8 f 2)) t f wn wn' ∧
    (∀ i, i < 23 → v_bes1 V t side f (up V 8 f 2) 8 i = if i = f then 2 else V 8 i) ∧
    (∀ i, i < 23 → v_bes1 V t side f (up V 8 f 2) 9 i = if i = f then (s : Int) else V 9 i) ∧
    (∀ i, i < 23 → v_bes1 V t side f (up V 8 f 2) 9 i ≠ -1 → v_bes1 V t side f (up V 8 f 2) 10 i = if i = f then V 10 t + v_beh side else if V 9 i = s ∧ V 10 t + v_beh side ≤ V 10 i then V 10 i + 1 else V 10 i) ∧
    (∀ i, i < 23 → v_bes1 V t side f (up V 8 f 2) 11 i = if i = f then max 1 (V 11 t / 2) else if i = t then max 1 (V 11 t - V 11 t / 2) else V 11 i) ∧
    (∀ w, w < 5 → v_bes1 V t side f (up V 8 f 2) 5 w = V 5 w) := by
  obtain ⟨s1, s2, s3, s4⟩ := h.par ht hs
  have ntf : t ≠ f := fun z => by rw [z] at k2; omega
  have f9 := h.fr hf hkf
  have bb := beh_rg side
  obtain ⟨w1, w2⟩ := h.we ht (by omega)
  obtain ⟨nu, -⟩ := h.sp s1 s2
  have pt := nu.1 t ht (by simp [hs])
  have c23 := cnt_le (fun n => decide (V 9 n = (s : Int))) 23
  have dv : Int.tdiv (V 11 t) 2 = V 11 t / 2 := Int.tdiv_eq_ediv_of_nonneg (by omega)
  unfold v_bes1
  rw [ga_in ht, ga_in ht, ga_in ht, hs, dv, wr_id (x := V 11 t / 2) (by omega) (by omega), wr_id (x := V 11 t - V 11 t / 2) (by omega) (by omega), wr_id (x := V 10 t + v_beh side) (by omega) (by omega)]
  obtain ⟨V2, hV2⟩ : ∃ V2, V2 = up (up V 8 f 2) 11 t (max 1 (V 11 t - V 11 t / 2)) := ⟨_, rfl⟩
  rw [← hV2]
  obtain ⟨A9, A10, A11, Aj⟩ := at_rows (V := V2) (n := f) (s := s) (k := V 10 t + v_beh side) (w := max 1 (V 11 t / 2)) hf
  obtain ⟨V3, hV3⟩ : ∃ V3, V3 = v_attach V2 f s (V 10 t + v_beh side) (max 1 (V 11 t / 2)) := ⟨_, rfl⟩
  rw [← hV3] at A9 A10 A11 Aj ⊢
  have c8 : ∀ i, i < 23 → V3 8 i = if i = f then 2 else V 8 i := fun i _ => by
    rw [Aj 8 (by decide) (by decide) (by decide), hV2, up_ne (by decide), up8 hf]
  have q9 : V2 9 = V 9 := by rw [hV2, up_ne (by decide), up_ne (by decide)]
  have q10 : V2 10 = V 10 := by rw [hV2, up_ne (by decide), up_ne (by decide)]
  have c9 : ∀ i, i < 23 → V3 9 i = if i = f then (s : Int) else V 9 i := fun i _ => by rw [A9 i, q9]
  have c10 : ∀ i, i < 23 → V3 9 i ≠ -1 → V3 10 i = if i = f then V 10 t + v_beh side else if V 9 i = s ∧ V 10 t + v_beh side ≤ V 10 i then V 10 i + 1 else V 10 i := fun i hi _ => by
    rw [A10 i, q9, q10]
    by_cases e : i = f
    · rw [if_pos e, if_pos e]
    · rw [if_neg e, if_neg e]
      by_cases q : V 9 i = s ∧ V 10 t + v_beh side ≤ V 10 i
      · have := nu.1 i hi (by simp [q.1])
        rw [if_pos ⟨hi, q⟩, if_pos q, wr_id (by omega) (by omega)]
      · rw [if_neg (fun z => q z.2), if_neg q]
  have c11 : ∀ i, i < 23 → V3 11 i = if i = f then max 1 (V 11 t / 2) else if i = t then max 1 (V 11 t - V 11 t / 2) else V 11 i := fun i _ => by
    rw [A11 i, hV2, up11 ht, up_ne (by decide)]
  have c5 : ∀ w, w < 5 → V3 5 w = V 5 w := fun w _ => by rw [Aj 5 (by decide) (by decide) (by decide), hV2, up_ne (by decide), up_ne (by decide)]
  refine ⟨_, _, h.enter (X' := X) (c := 2) (k := V 10 t + v_beh side) hf hkf (by omega) s1 s2 (by omega) c8 c9 c10 (fun i hi q => ?_) c5 (fun z => absurd z (by decide)) (fun _ _ => rfl), ⟨?_, hkf, ?_, fun n hn q => ?_, fun n hn q => ?_, fun w hw => by rw [c5 w hw], fun j a5 a8 a9 a10 a11 => ?_⟩, c8, c9, c10, c11, c5⟩
  · rw [c11 i hi]
    by_cases e : i = f
    · rw [if_pos e]
      omega
    · rw [if_neg e]
      by_cases e2 : i = t
      · rw [if_pos e2]
        omega
      · rw [if_neg e2]
        rw [c9 i hi, if_neg e] at q
        exact h.we hi q
  · rw [c8 f hf, if_pos rfl]
  · dsimp only
    rw [if_pos rfl, s4]
  · have n2 : n ≠ f := fun z => by rw [z] at q; exact q hkf
    refine ⟨by rw [c8 n hn, if_neg n2], ?_⟩
    dsimp only
    rw [if_neg n2]
  · rw [c8 n hn] at q
    by_cases e2 : n = f
    · exact Or.inl e2
    · rw [if_neg e2] at q
      exact Or.inr q
  · rw [Aj j a9 a10 a11, hV2, up_ne a11, up_ne a8]
end
section
/-! THE RELATION: the reference's row -/
/-- rows: 0 kind, 1 parent, 2 way, 3 weight, 4 place, 5 active; 6 exists, 7 wide, 8 high, 9 in, 10 tab, 11 hidden; 12 exists, 13 x, 14 y, 15 columns, 16 rows, 17 root; 18, 19 floats; 20, 21 focus; 22 to 24 slots -/
def mw (j : Nat) : Nat := if j < 6 then 24 else if j < 12 then 12 else if j < 18 then 5 else if j = 18 then 1 else if j = 19 then 4 else if j = 20 then 1 else if j = 21 then 12 else if j < 25 then 219 else 0
def ma (j i : Nat) : Nat := if j < 6 then 72 + 6 * i + j else if j < 12 then 6 * i + (j - 6) else if j < 18 then 216 + 6 * i + (j - 12) else if j = 18 then 246 else if j = 19 then 247 + i else if j = 20 then 251 else if j = 21 then 252 + i else 264 + 219 * (j - 22) + i
theorem ma_inj {j i j' i' : Nat} (h : i < mw j) (h' : i' < mw j') (e : ma j i = ma j' i') : j = j' ∧ i = i' := by
  unfold mw at h h'
  unfold ma at e
  by_cases a1 : j < 6
  · rw [if_pos a1] at h e
    by_cases b1 : j' < 6
    · rw [if_pos b1] at h' e
      omega
    · rw [if_neg b1] at h' e
      by_cases b2 : j' < 12
      · rw [if_pos b2] at h' e
        omega
      · rw [if_neg b2] at h' e
        by_cases b3 : j' < 18
        · rw [if_pos b3] at h' e
          omega
        · rw [if_neg b3] at h' e
          revert h' e
          split <;> (try split) <;> (try split) <;> (try split) <;> (try split) <;> intro h' e <;> omega
  · rw [if_neg a1] at h e
    by_cases a2 : j < 12
    · rw [if_pos a2] at h e
      by_cases b1 : j' < 6
      · rw [if_pos b1] at h' e
        omega
      · rw [if_neg b1] at h' e
        by_cases b2 : j' < 12
        · rw [if_pos b2] at h' e
          omega
        · rw [if_neg b2] at h' e
          by_cases b3 : j' < 18
          · rw [if_pos b3] at h' e
            omega
          · rw [if_neg b3] at h' e
            revert h' e
            split <;> (try split) <;> (try split) <;> (try split) <;> (try split) <;> intro h' e <;> omega
    · rw [if_neg a2] at h e
      by_cases a3 : j < 18
      · rw [if_pos a3] at h e
        by_cases b1 : j' < 6
        · rw [if_pos b1] at h' e
          omega
        · rw [if_neg b1] at h' e
          by_cases b2 : j' < 12
          · rw [if_pos b2] at h' e
            omega
          · rw [if_neg b2] at h' e
            by_cases b3 : j' < 18
            · rw [if_pos b3] at h' e
              omega
            · rw [if_neg b3] at h' e
              revert h' e
              split <;> (try split) <;> (try split) <;> (try split) <;> (try split) <;> intro h' e <;> omega
      · rw [if_neg a3] at h e
        by_cases b1 : j' < 6
        · rw [if_pos b1] at h' e
          revert h e
          split <;> (try split) <;> (try split) <;> (try split) <;> (try split) <;> intro h e <;> omega
        · rw [if_neg b1] at h' e
          by_cases b2 : j' < 12
          · rw [if_pos b2] at h' e
            revert h e
            split <;> (try split) <;> (try split) <;> (try split) <;> (try split) <;> intro h e <;> omega
          · rw [if_neg b2] at h' e
            by_cases b3 : j' < 18
            · rw [if_pos b3] at h' e
              revert h e
              split <;> (try split) <;> (try split) <;> (try split) <;> (try split) <;> intro h e <;> omega
            · rw [if_neg b3] at h' e
              have c : j = 18 ∨ j = 19 ∨ j = 20 ∨ j = 21 ∨ j = 22 ∨ j = 23 ∨ j = 24 := by
                revert h
                split <;> (try split) <;> (try split) <;> (try split) <;> (try split) <;> intro h <;> omega
              have c' : j' = 18 ∨ j' = 19 ∨ j' = 20 ∨ j' = 21 ∨ j' = 22 ∨ j' = 23 ∨ j' = 24 := by
                revert h'
                split <;> (try split) <;> (try split) <;> (try split) <;> (try split) <;> intro h' <;> omega
              rcases c with rfl | rfl | rfl | rfl | rfl | rfl | rfl <;> rcases c' with rfl | rfl | rfl | rfl | rfl | rfl | rfl <;> simp at h h' e <;> omega
theorem ma_lt {j i : Nat} (h : i < mw j) : ma j i < 921 := by
  unfold mw at h
  unfold ma
  revert h
  split
  · intro h; omega
  · split
    · intro h; omega
    · split
      · intro h; omega
      · split
        · intro h; omega
        · split
          · intro h; omega
          · split
            · intro h; omega
            · split
              · intro h; omega
              · split <;> intro h <;> omega
def mv (f : Nat → Int32) : VW := fun j i => if i < mw j then (f (ma j i)).toInt else 0
def mu (U : VW) (j i : Nat) (x : Int) : VW := fun j' i' => if j' = j ∧ i' = i then x else U j' i'
theorem mu_def (U : VW) (j i : Nat) (x : Int) (j' i' : Nat) : mu U j i x j' i' = if j' = j ∧ i' = i then x else U j' i' := rfl
theorem mu_ne {U : VW} {j i : Nat} {x : Int} {j' : Nat} (h : j' ≠ j) : mu U j i x j' = U j' := by
  funext i'
  exact if_neg (fun q => h q.1)
theorem mu_at {U : VW} {j i : Nat} {x : Int} (i' : Nat) : mu U j i x j i' = if i' = i then x else U j i' := by
  unfold mu
  by_cases h : i' = i
  · rw [if_pos ⟨rfl, h⟩, if_pos h]
  · rw [if_neg (fun q => h q.2), if_neg h]
theorem mv_in {f : Nat → Int32} {j i : Nat} (h : i < mw j) : mv f j i = (f (ma j i)).toInt := if_pos h
theorem mv_rg (f : Nat → Int32) (j i : Nat) : -2147483648 ≤ mv f j i ∧ mv f j i < 2147483648 := by
  unfold mv
  split
  · exact ⟨j_lo _, j_hi _⟩
  · omega
theorem mv_oI {f : Nat → Int32} {j i : Nat} (h : i < mw j) : f (ma j i) = oI (mv f j i) := by rw [mv_in h, j_oIt]
theorem t_mv {f : Nat → Int32} {j i : Nat} : (oI (mv f j i)).toInt = mv f j i := j_oI (mv_rg f j i).1 (mv_rg f j i).2
theorem mv_su {σ : Sg} {c j i : Nat} {v : Int32} (h : i < mw j) : mv ((su σ c (ma j i) v).1 c) = mu (mv (σ.1 c)) j i v.toInt := by
  funext j' i'
  rw [mu_def]
  unfold mv
  by_cases q : i' < mw j'
  · rw [if_pos q, if_pos q, su_at]
    by_cases e : j' = j ∧ i' = i
    · rw [if_pos e, if_pos ⟨rfl, by rw [e.1, e.2]⟩]
    · rw [if_neg e, if_neg (fun z => e (ma_inj q h z.2))]
  · rw [if_neg q, if_neg q, if_neg]
    rintro ⟨rfl, rfl⟩
    exact q h
theorem mw_n {k : Nat} (h : k < 6) : mw k = 24 := if_pos h
theorem mw_p {k : Nat} (h : k < 6) : mw (6 + k) = 12 := by
  unfold mw
  rw [if_neg (by omega), if_pos (by omega)]
theorem mw_w {k : Nat} (h : k < 6) : mw (12 + k) = 5 := by
  unfold mw
  rw [if_neg (by omega), if_neg (by omega), if_pos (by omega)]
theorem ma_n {k : Nat} (h : k < 6) (n : Nat) : ma k n = 72 + 6 * n + k := if_pos h
theorem ma_p {k : Nat} (h : k < 6) (p : Nat) : ma (6 + k) p = 6 * p + k := by
  unfold ma
  rw [if_neg (by omega), if_pos (by omega)]
  omega
theorem ma_w {k : Nat} (h : k < 6) (w : Nat) : ma (12 + k) w = 216 + 6 * w + k := by
  unfold ma
  rw [if_neg (by omega), if_neg (by omega), if_pos (by omega)]
  omega
/-- an index in the row -/
theorem mx (o m : Nat) {a : Int32} {n k : Nat} (ha : a.toInt = n) (hn : n < 1000) (hk : k < 1000) (hm : m ≤ 6) (ho : o < 1000) : ((nI o + nI m * a) + nI k).toInt = ((o + m * n + k : Nat) : Int) := by
  have e : a = nI n := j_eq.mpr (by rw [ha, j_nI (by omega)])
  rw [e, show nI m * nI n = nI (m * n) from (Int32.ofNat_mul m n).symm, j_a, j_a, j_nI]
  have : m * n ≤ 6 * 1000 := Nat.mul_le_mul hm (by omega)
  omega
section MP
variable {σ : Sg}
theorem m_of {a : Int32} {p k : Nat} (ha : a.toInt = p) (hp : p < 12) (hk : k < 6) : fX9_of σ 462 a (nI k) = some (oI (mv (σ.1 463) (6 + k) p)) := by
  have e := mx 0 6 (k := k) ha (by omega) (by omega) (by decide) (by decide)
  have e2 : (nI 0 + nI 6 * a) + nI k = 6 * a + nI k := by rw [show nI 0 + nI 6 * a = nI 6 * a from Int32.zero_add _]; rfl
  rw [e2] at e
  unfold fX9_of
  rw [if_pos (by rw [j_ck, e]; omega), ← mv_oI (by rw [mw_p hk]; exact hp), ma_p hk]
  have e3 : (6 * a + nI k).toNatClampNeg = 6 * p + k := by
    show (6 * a + nI k).toInt.toNat = _
    rw [e]
    omega
  rw [e3]
theorem m_its {a : Int32} {n k : Nat} (ha : a.toInt = n) (hn : n < 24) (hk : k < 6) : fX9_its σ 462 a (nI k) = some (oI (mv (σ.1 463) k n)) := by
  have e := mx 72 6 (k := k) ha (by omega) (by omega) (by decide) (by decide)
  have e2 : (nI 72 + nI 6 * a) + nI k = 72 + 6 * a + nI k := rfl
  rw [e2] at e
  unfold fX9_its
  rw [if_pos (by rw [j_ck, e]; omega), ← mv_oI (by rw [mw_n hk]; exact hn), ma_n hk]
  have e3 : (72 + 6 * a + nI k).toNatClampNeg = 72 + 6 * n + k := by
    show (72 + 6 * a + nI k).toInt.toNat = _
    rw [e]
    omega
  rw [e3]
theorem m_window {a b : Int32} {n k : Nat} (ha : a.toInt = n) (hn : n < 5) (hk : k < 6) : fX9_window σ 462 a (nI k) b = some (oI (mv (σ.1 463) (12 + k) n)) := by
  have e := mx 216 6 (k := k) ha (by omega) (by omega) (by decide) (by decide)
  have e2 : (nI 216 + nI 6 * a) + nI k = 216 + 6 * a + nI k := rfl
  rw [e2] at e
  unfold fX9_window
  rw [if_pos (by rw [j_ck, e]; omega), ← mv_oI (by rw [mw_w hk]; exact hn), ma_w hk]
  have e3 : (216 + 6 * a + nI k).toNatClampNeg = 216 + 6 * n + k := by
    show (216 + 6 * a + nI k).toInt.toNat = _
    rw [e]
    omega
  rw [e3]
/-- it makes the row U', and nothing else -/
def Mo (F : Option Sg) (σ : Sg) (U' : VW) : Prop := ∃ σ', F = some σ' ∧ Out σ σ' 463 463 ∧ mv (σ'.1 463) = U'
theorem m_put {a : Int32} {p k : Nat} (ha : a.toInt = p) (hp : p < 12) (hk : k < 6) (v : Int32) : Mo (fX9_put σ 462 a (nI k) v) σ (mu (mv (σ.1 463)) (6 + k) p v.toInt) := by
  have e := mx 0 6 (k := k) ha (by omega) (by omega) (by decide) (by decide)
  have e2 : (nI 0 + nI 6 * a) + nI k = 6 * a + nI k := by rw [show nI 0 + nI 6 * a = nI 6 * a from Int32.zero_add _]; rfl
  rw [e2] at e
  have e3 : (6 * a + nI k).toNatClampNeg = ma (6 + k) p := by
    rw [ma_p hk]
    show (6 * a + nI k).toInt.toNat = _
    rw [e]
    omega
  unfold Mo fX9_put
  rw [if_pos (by rw [j_ck, e]; omega), j_nm, e3]
  exact ⟨_, rfl, su_out, mv_su (by rw [mw_p hk]; exact hp)⟩
theorem m_lay {a : Int32} {n k : Nat} (ha : a.toInt = n) (hn : n < 24) (hk : k < 6) (v : Int32) : Mo (fX9_lay σ 462 a (nI k) v) σ (mu (mv (σ.1 463)) k n v.toInt) := by
  have e := mx 72 6 (k := k) ha (by omega) (by omega) (by decide) (by decide)
  have e2 : (nI 72 + nI 6 * a) + nI k = 72 + 6 * a + nI k := rfl
  rw [e2] at e
  have e3 : (72 + 6 * a + nI k).toNatClampNeg = ma k n := by
    rw [ma_n hk]
    show (72 + 6 * a + nI k).toInt.toNat = _
    rw [e]
    omega
  unfold Mo fX9_lay
  rw [if_pos (by rw [j_ck, e]; omega), j_nm, e3]
  exact ⟨_, rfl, su_out, mv_su (by rw [mw_n hk]; exact hn)⟩
theorem m_puts {a : Int32} {n k : Nat} (ha : a.toInt = n) (hn : n < 5) (hk : k < 6) (v : Int32) : Mo (fX9_puts σ 462 a (nI k) v) σ (mu (mv (σ.1 463)) (12 + k) n v.toInt) := by
  have e := mx 216 6 (k := k) ha (by omega) (by omega) (by decide) (by decide)
  have e2 : (nI 216 + nI 6 * a) + nI k = 216 + 6 * a + nI k := rfl
  rw [e2] at e
  have e3 : (216 + 6 * a + nI k).toNatClampNeg = ma (12 + k) n := by
    rw [ma_w hk]
    show (216 + 6 * a + nI k).toInt.toNat = _
    rw [e]
    omega
  unfold Mo fX9_puts
  rw [if_pos (by rw [j_ck, e]; omega), j_nm, e3]
  exact ⟨_, rfl, su_out, mv_su (by rw [mw_w hk]; exact hn)⟩
theorem m_within (a l h : Int32) : fX9_within σ a l h = some (decide (l.toInt ≤ a.toInt ∧ a.toInt ≤ h.toInt)) := by
  unfold fX9_within
  by_cases q : a < l
  · rw [if_pos q, decide_eq_false (fun z => by rw [j_lt] at q; omega)]
  · rw [if_neg q]
    rw [j_lt] at q
    by_cases q2 : h < a
    · rw [if_pos q2, decide_eq_false (fun z => by rw [j_lt] at q2; omega)]
    · rw [if_neg q2, decide_eq_true]
      rw [j_lt] at q2
      omega
theorem m_isPane (a : Int32) : fX9_isPane σ 462 a = some (decide (0 ≤ a.toInt ∧ a.toInt < 12) && decide (mv (σ.1 463) 6 a.toInt.toNat = 1)) := by
  unfold fX9_isPane
  rw [m_within, j_b]
  have e11 : (11 : Int32).toInt = 11 := rfl
  by_cases q : 0 ≤ a.toInt ∧ a.toInt < 12
  · have q' : (0 : Int32).toInt ≤ a.toInt ∧ a.toInt ≤ (11 : Int32).toInt := by rw [jz0, e11]; omega
    rw [if_pos (by rw [decide_eq_true q']), show (0 : Int32) = nI 0 from rfl, m_of (p := a.toInt.toNat) (by omega) (by omega) (by decide), j_b]
    by_cases z : mv (σ.1 463) (6 + 0) a.toInt.toNat = 1
    · rw [if_pos (by rw [j_eq, t_mv, z]; rfl), decide_eq_true q, decide_eq_true z]
      rfl
    · rw [if_neg (by rw [j_eq, t_mv]; exact z), decide_eq_true q, decide_eq_false z]
      rfl
  · have q' : ¬ ((0 : Int32).toInt ≤ a.toInt ∧ a.toInt ≤ (11 : Int32).toInt) := by rw [jz0, e11]; omega
    rw [if_neg (by rw [decide_eq_false q']; decide), decide_eq_false q]
    rfl
theorem m_isWindow (a : Int32) : fX9_isWindow σ 462 a = some (decide (0 ≤ a.toInt ∧ a.toInt < 5) && decide (mv (σ.1 463) 12 a.toInt.toNat = 1)) := by
  unfold fX9_isWindow
  rw [m_within, j_b]
  have e4 : (4 : Int32).toInt = 4 := rfl
  by_cases q : 0 ≤ a.toInt ∧ a.toInt < 5
  · have q' : (0 : Int32).toInt ≤ a.toInt ∧ a.toInt ≤ (4 : Int32).toInt := by rw [jz0, e4]; omega
    rw [if_pos (by rw [decide_eq_true q']), show (0 : Int32) = nI 0 from rfl, m_window (n := a.toInt.toNat) (by omega) (by omega) (by decide), j_b]
    by_cases z : mv (σ.1 463) (12 + 0) a.toInt.toNat = 1
    · rw [if_pos (by rw [j_eq, t_mv, z]; rfl), decide_eq_true q, decide_eq_true z]
      rfl
    · rw [if_neg (by rw [j_eq, t_mv]; exact z), decide_eq_true q, decide_eq_false z]
      rfl
  · have q' : ¬ ((0 : Int32).toInt ≤ a.toInt ∧ a.toInt ≤ (4 : Int32).toInt) := by rw [jz0, e4]; omega
    rw [if_neg (by rw [decide_eq_false q']; decide), decide_eq_false q]
    rfl
theorem m_isPlaced {a : Int32} {p : Nat} (ha : a.toInt = p) (hp : p < 12) : fX9_isPlaced σ 462 a = some (decide (mv (σ.1 463) 9 p ≠ -1)) := by
  unfold fX9_isPlaced
  rw [show (3 : Int32) = nI 3 from rfl, m_of ha hp (by decide), j_b]
  by_cases z : mv (σ.1 463) (6 + 3) p = -1
  · rw [if_pos (by rw [j_eq, t_mv, z]; rfl), decide_eq_false (fun q => q z)]
  · rw [if_neg (by rw [j_eq, t_mv, jm1]; exact z), decide_eq_true z]
theorem m_isShown {a : Int32} {p : Nat} (ha : a.toInt = p) (hp : p < 12) : fX9_isShown σ 462 a = some (decide (mv (σ.1 463) 9 p ≠ -1) && decide (mv (σ.1 463) 11 p = 0)) := by
  unfold fX9_isShown
  rw [m_isPlaced ha hp, j_b]
  by_cases z : mv (σ.1 463) 9 p = -1
  · rw [if_neg (by simp [z])]
    simp [z]
  · rw [if_pos (by simp [z]), show (5 : Int32) = nI 5 from rfl, m_of ha hp (by decide), j_b]
    by_cases y : mv (σ.1 463) (6 + 5) p = 0
    · rw [if_pos (by rw [j_eq, t_mv, y]; rfl)]
      have y' : mv (σ.1 463) 11 p = 0 := y
      simp [z, y']
    · rw [if_neg (by rw [j_eq, t_mv, jz0]; exact y)]
      have y' : ¬ mv (σ.1 463) 11 p = 0 := y
      simp [y']
theorem m_isChild {a s : Int32} {n : Nat} (ha : a.toInt = n) (hn : n < 24) : fX9_isChild σ 462 a s = some (decide (mv (σ.1 463) 0 n ≠ 0) && decide (mv (σ.1 463) 1 n = s.toInt)) := by
  unfold fX9_isChild
  rw [show (0 : Int32) = nI 0 from rfl, m_its ha hn (by decide), j_b]
  by_cases z : mv (σ.1 463) 0 n = 0
  · rw [if_pos (by rw [j_eq, t_mv, z]; rfl)]
    simp [z]
  · rw [if_neg (by rw [j_eq, t_mv]; exact z), show (1 : Int32) = nI 1 from rfl, m_its ha hn (by decide), j_b]
    by_cases y : mv (σ.1 463) 1 n = s.toInt
    · rw [if_pos (by rw [j_eq, t_mv]; exact y)]
      simp [z, y]
    · rw [if_neg (by rw [j_eq, t_mv]; exact y)]
      simp [y]
end MP
section MQ
variable {σ : Sg}
theorem m_i0 {a : Int32} {n : Nat} (ha : a.toInt = n) (hn : n < 24) : fX9_its σ 462 a 0 = some (oI (mv (σ.1 463) 0 n)) := m_its (k := 0) ha hn (by decide)
theorem m_o0 {a : Int32} {p : Nat} (ha : a.toInt = p) (hp : p < 12) : fX9_of σ 462 a 0 = some (oI (mv (σ.1 463) 6 p)) := m_of (k := 0) ha hp (by decide)
theorem m_w0 {a b : Int32} {w : Nat} (ha : a.toInt = w) (hw : w < 5) : fX9_window σ 462 a 0 b = some (oI (mv (σ.1 463) 12 w)) := m_window (k := 0) ha hw (by decide)
theorem m_l0 {a : Int32} {n : Nat} (ha : a.toInt = n) (hn : n < 24) (v : Int32) : Mo (fX9_lay σ 462 a 0 v) σ (mu (mv (σ.1 463)) 0 n v.toInt) := m_lay (k := 0) ha hn (by decide) v
theorem m_p0 {a : Int32} {p : Nat} (ha : a.toInt = p) (hp : p < 12) (v : Int32) : Mo (fX9_put σ 462 a 0 v) σ (mu (mv (σ.1 463)) 6 p v.toInt) := m_put (k := 0) ha hp (by decide) v
theorem m_s0 {a : Int32} {w : Nat} (ha : a.toInt = w) (hw : w < 5) (v : Int32) : Mo (fX9_puts σ 462 a 0 v) σ (mu (mv (σ.1 463)) 12 w v.toInt) := m_puts (k := 0) ha hw (by decide) v
theorem m_i1 {a : Int32} {n : Nat} (ha : a.toInt = n) (hn : n < 24) : fX9_its σ 462 a 1 = some (oI (mv (σ.1 463) 1 n)) := m_its (k := 1) ha hn (by decide)
theorem m_o1 {a : Int32} {p : Nat} (ha : a.toInt = p) (hp : p < 12) : fX9_of σ 462 a 1 = some (oI (mv (σ.1 463) 7 p)) := m_of (k := 1) ha hp (by decide)
theorem m_w1 {a b : Int32} {w : Nat} (ha : a.toInt = w) (hw : w < 5) : fX9_window σ 462 a 1 b = some (oI (mv (σ.1 463) 13 w)) := m_window (k := 1) ha hw (by decide)
theorem m_l1 {a : Int32} {n : Nat} (ha : a.toInt = n) (hn : n < 24) (v : Int32) : Mo (fX9_lay σ 462 a 1 v) σ (mu (mv (σ.1 463)) 1 n v.toInt) := m_lay (k := 1) ha hn (by decide) v
theorem m_p1 {a : Int32} {p : Nat} (ha : a.toInt = p) (hp : p < 12) (v : Int32) : Mo (fX9_put σ 462 a 1 v) σ (mu (mv (σ.1 463)) 7 p v.toInt) := m_put (k := 1) ha hp (by decide) v
theorem m_s1 {a : Int32} {w : Nat} (ha : a.toInt = w) (hw : w < 5) (v : Int32) : Mo (fX9_puts σ 462 a 1 v) σ (mu (mv (σ.1 463)) 13 w v.toInt) := m_puts (k := 1) ha hw (by decide) v
theorem m_i2 {a : Int32} {n : Nat} (ha : a.toInt = n) (hn : n < 24) : fX9_its σ 462 a 2 = some (oI (mv (σ.1 463) 2 n)) := m_its (k := 2) ha hn (by decide)
theorem m_o2 {a : Int32} {p : Nat} (ha : a.toInt = p) (hp : p < 12) : fX9_of σ 462 a 2 = some (oI (mv (σ.1 463) 8 p)) := m_of (k := 2) ha hp (by decide)
theorem m_w2 {a b : Int32} {w : Nat} (ha : a.toInt = w) (hw : w < 5) : fX9_window σ 462 a 2 b = some (oI (mv (σ.1 463) 14 w)) := m_window (k := 2) ha hw (by decide)
theorem m_l2 {a : Int32} {n : Nat} (ha : a.toInt = n) (hn : n < 24) (v : Int32) : Mo (fX9_lay σ 462 a 2 v) σ (mu (mv (σ.1 463)) 2 n v.toInt) := m_lay (k := 2) ha hn (by decide) v
theorem m_p2 {a : Int32} {p : Nat} (ha : a.toInt = p) (hp : p < 12) (v : Int32) : Mo (fX9_put σ 462 a 2 v) σ (mu (mv (σ.1 463)) 8 p v.toInt) := m_put (k := 2) ha hp (by decide) v
theorem m_s2 {a : Int32} {w : Nat} (ha : a.toInt = w) (hw : w < 5) (v : Int32) : Mo (fX9_puts σ 462 a 2 v) σ (mu (mv (σ.1 463)) 14 w v.toInt) := m_puts (k := 2) ha hw (by decide) v
theorem m_i3 {a : Int32} {n : Nat} (ha : a.toInt = n) (hn : n < 24) : fX9_its σ 462 a 3 = some (oI (mv (σ.1 463) 3 n)) := m_its (k := 3) ha hn (by decide)
theorem m_o3 {a : Int32} {p : Nat} (ha : a.toInt = p) (hp : p < 12) : fX9_of σ 462 a 3 = some (oI (mv (σ.1 463) 9 p)) := m_of (k := 3) ha hp (by decide)
theorem m_w3 {a b : Int32} {w : Nat} (ha : a.toInt = w) (hw : w < 5) : fX9_window σ 462 a 3 b = some (oI (mv (σ.1 463) 15 w)) := m_window (k := 3) ha hw (by decide)
theorem m_l3 {a : Int32} {n : Nat} (ha : a.toInt = n) (hn : n < 24) (v : Int32) : Mo (fX9_lay σ 462 a 3 v) σ (mu (mv (σ.1 463)) 3 n v.toInt) := m_lay (k := 3) ha hn (by decide) v
theorem m_p3 {a : Int32} {p : Nat} (ha : a.toInt = p) (hp : p < 12) (v : Int32) : Mo (fX9_put σ 462 a 3 v) σ (mu (mv (σ.1 463)) 9 p v.toInt) := m_put (k := 3) ha hp (by decide) v
theorem m_s3 {a : Int32} {w : Nat} (ha : a.toInt = w) (hw : w < 5) (v : Int32) : Mo (fX9_puts σ 462 a 3 v) σ (mu (mv (σ.1 463)) 15 w v.toInt) := m_puts (k := 3) ha hw (by decide) v
theorem m_i4 {a : Int32} {n : Nat} (ha : a.toInt = n) (hn : n < 24) : fX9_its σ 462 a 4 = some (oI (mv (σ.1 463) 4 n)) := m_its (k := 4) ha hn (by decide)
theorem m_o4 {a : Int32} {p : Nat} (ha : a.toInt = p) (hp : p < 12) : fX9_of σ 462 a 4 = some (oI (mv (σ.1 463) 10 p)) := m_of (k := 4) ha hp (by decide)
theorem m_w4 {a b : Int32} {w : Nat} (ha : a.toInt = w) (hw : w < 5) : fX9_window σ 462 a 4 b = some (oI (mv (σ.1 463) 16 w)) := m_window (k := 4) ha hw (by decide)
theorem m_l4 {a : Int32} {n : Nat} (ha : a.toInt = n) (hn : n < 24) (v : Int32) : Mo (fX9_lay σ 462 a 4 v) σ (mu (mv (σ.1 463)) 4 n v.toInt) := m_lay (k := 4) ha hn (by decide) v
theorem m_p4 {a : Int32} {p : Nat} (ha : a.toInt = p) (hp : p < 12) (v : Int32) : Mo (fX9_put σ 462 a 4 v) σ (mu (mv (σ.1 463)) 10 p v.toInt) := m_put (k := 4) ha hp (by decide) v
theorem m_s4 {a : Int32} {w : Nat} (ha : a.toInt = w) (hw : w < 5) (v : Int32) : Mo (fX9_puts σ 462 a 4 v) σ (mu (mv (σ.1 463)) 16 w v.toInt) := m_puts (k := 4) ha hw (by decide) v
theorem m_i5 {a : Int32} {n : Nat} (ha : a.toInt = n) (hn : n < 24) : fX9_its σ 462 a 5 = some (oI (mv (σ.1 463) 5 n)) := m_its (k := 5) ha hn (by decide)
theorem m_o5 {a : Int32} {p : Nat} (ha : a.toInt = p) (hp : p < 12) : fX9_of σ 462 a 5 = some (oI (mv (σ.1 463) 11 p)) := m_of (k := 5) ha hp (by decide)
theorem m_w5 {a b : Int32} {w : Nat} (ha : a.toInt = w) (hw : w < 5) : fX9_window σ 462 a 5 b = some (oI (mv (σ.1 463) 17 w)) := m_window (k := 5) ha hw (by decide)
theorem m_l5 {a : Int32} {n : Nat} (ha : a.toInt = n) (hn : n < 24) (v : Int32) : Mo (fX9_lay σ 462 a 5 v) σ (mu (mv (σ.1 463)) 5 n v.toInt) := m_lay (k := 5) ha hn (by decide) v
theorem m_p5 {a : Int32} {p : Nat} (ha : a.toInt = p) (hp : p < 12) (v : Int32) : Mo (fX9_put σ 462 a 5 v) σ (mu (mv (σ.1 463)) 11 p v.toInt) := m_put (k := 5) ha hp (by decide) v
theorem m_s5 {a : Int32} {w : Nat} (ha : a.toInt = w) (hw : w < 5) (v : Int32) : Mo (fX9_puts σ 462 a 5 v) σ (mu (mv (σ.1 463)) 17 w v.toInt) := m_puts (k := 5) ha hw (by decide) v
end MQ
end
section
/-! THE RELATION: the reference's readers -/
def m_cc (U : VW) (s : Int) : Nat := cnt (fun n => decide (U 0 n ≠ 0) && decide (U 1 n = s)) 24
def m_ca (U : VW) (s k : Int) : Int := fnd (fun n => (decide (U 0 n ≠ 0) && decide (U 1 n = s)) && decide (U 4 n = k)) 24
def m_tc (U : VW) (g : Int) : Nat := cnt (fun p => decide (U 9 p = g)) 12
def m_ta (U : VW) (g k : Int) : Int := fnd (fun p => decide (U 9 p = g) && decide (U 10 p = k)) 12
def m_pm (U : VW) : Nat := cnt (fun p => decide (U 9 p ≠ -1)) 12
/-- the reference's row U tells the class's placement V; the active tabs of X are open -/
def VM (U V : VW) (X : Nat → Bool) : Prop :=
  (∀ n, n < 23 → (V 8 n = 3 → U 0 n = 0) ∧ (V 8 n = 2 → U 0 n = 2) ∧ (V 8 n ≤ 1 → U 0 n = 1 ∧ U 2 n = V 8 n)) ∧
  U 0 23 = 0 ∧
  (∀ n, n < 23 → V 8 n ≠ 3 → U 1 n = V 9 n) ∧
  (∀ n, n < 23 → V 9 n ≠ -1 → U 3 n = V 11 n ∧ U 4 n = V 10 n) ∧
  (∀ n, n < 23 → V 8 n = 2 → X n = false → U 5 n = V 12 n) ∧
  (∀ p, p < 12 → U 9 p = V 13 p ∧ (V 13 p ≠ -1 → U 10 p = V 14 p) ∧ U 11 p = V 15 p) ∧
  (∀ w, w < 5 → U 12 w = (if w = 0 ∨ V 5 w ≠ -1 then 1 else 0) ∧ U 17 w = V 5 w ∧ (w = 0 ∨ V 5 w ≠ -1 → U 13 w = V 1 w ∧ U 14 w = V 2 w ∧ U 15 w = V 3 w ∧ U 16 w = V 4 w)) ∧
  U 18 0 = V 6 1 ∧ (∀ k : Nat, (k : Int) < V 6 1 → U 19 k = V 7 k) ∧ ∀ n, n < 23 → V 8 n ≤ 1 → U 5 n = -1
section VMA
variable {U V : VW} {X : Nat → Bool}
theorem VM.k3 (h : VM U V X) {n : Nat} (hn : n < 23) (q : V 8 n = 3) : U 0 n = 0 := (h.1 n hn).1 q
theorem VM.k2 (h : VM U V X) {n : Nat} (hn : n < 23) (q : V 8 n = 2) : U 0 n = 2 := (h.1 n hn).2.1 q
theorem VM.k1 (h : VM U V X) {n : Nat} (hn : n < 23) (q : V 8 n ≤ 1) : U 0 n = 1 ∧ U 2 n = V 8 n := (h.1 n hn).2.2 q
theorem VM.l (h : VM U V X) : U 0 23 = 0 := h.2.1
theorem VM.pa (h : VM U V X) {n : Nat} (hn : n < 23) (q : V 8 n ≠ 3) : U 1 n = V 9 n := h.2.2.1 n hn q
theorem VM.we (h : VM U V X) {n : Nat} (hn : n < 23) (q : V 9 n ≠ -1) : U 3 n = V 11 n := (h.2.2.2.1 n hn q).1
theorem VM.pl (h : VM U V X) {n : Nat} (hn : n < 23) (q : V 9 n ≠ -1) : U 4 n = V 10 n := (h.2.2.2.1 n hn q).2
theorem VM.ac (h : VM U V X) {n : Nat} (hn : n < 23) (q : V 8 n = 2) (x : X n = false) : U 5 n = V 12 n := h.2.2.2.2.1 n hn q x
theorem VM.gr (h : VM U V X) {p : Nat} (hp : p < 12) : U 9 p = V 13 p := (h.2.2.2.2.2.1 p hp).1
theorem VM.sp (h : VM U V X) {p : Nat} (hp : p < 12) (q : V 13 p ≠ -1) : U 10 p = V 14 p := (h.2.2.2.2.2.1 p hp).2.1 q
theorem VM.hi (h : VM U V X) {p : Nat} (hp : p < 12) : U 11 p = V 15 p := (h.2.2.2.2.2.1 p hp).2.2
theorem VM.ex (h : VM U V X) {w : Nat} (hw : w < 5) : U 12 w = if w = 0 ∨ V 5 w ≠ -1 then 1 else 0 := (h.2.2.2.2.2.2.1 w hw).1
theorem VM.ro (h : VM U V X) {w : Nat} (hw : w < 5) : U 17 w = V 5 w := (h.2.2.2.2.2.2.1 w hw).2.1
theorem VM.geo (h : VM U V X) {w : Nat} (hw : w < 5) (q : w = 0 ∨ V 5 w ≠ -1) : U 13 w = V 1 w ∧ U 14 w = V 2 w ∧ U 15 w = V 3 w ∧ U 16 w = V 4 w := (h.2.2.2.2.2.2.1 w hw).2.2 q
theorem VM.fc (h : VM U V X) : U 18 0 = V 6 1 := h.2.2.2.2.2.2.2.1
theorem VM.fi (h : VM U V X) {k : Nat} (q : (k : Int) < V 6 1) : U 19 k = V 7 k := h.2.2.2.2.2.2.2.2.1 k q
theorem VM.a5 (h : VM U V X) {n : Nat} (hn : n < 23) (q : V 8 n ≤ 1) : U 5 n = -1 := h.2.2.2.2.2.2.2.2.2 n hn q
theorem VM.k0 (h : VM U V X) {n : Nat} (hn : n < 23) (hk : 0 ≤ V 8 n ∧ V 8 n ≤ 3) : U 0 n = 0 ↔ V 8 n = 3 := by
  have a := h.1 n hn
  constructor
  · intro q
    by_cases x : V 8 n = 3
    · exact x
    · by_cases y : V 8 n = 2
      · have := a.2.1 y
        omega
      · have := (a.2.2 (by omega)).1
        omega
  · exact a.1
variable {d : Nat → Nat} {wn : Nat → Int} {Y : Nat → Bool}
/-- a child here is a child there -/
theorem VM.ch (h : VM U V X) (t : Tree V d wn Y) {n : Nat} (hn : n < 23) {s : Int} (hs : s ≠ -1) : (decide (U 0 n ≠ 0) && decide (U 1 n = s)) = decide (V 9 n = s) := by
  by_cases q : V 8 n = 3
  · rw [h.k3 hn q, t.fr hn q]
    have : ¬ (-1 : Int) = s := fun z => hs z.symm
    simp [this]
  · have : ¬ U 0 n = 0 := fun z => q ((h.k0 hn (t.ki hn)).mp z)
    rw [h.pa hn q]
    simp [this]
theorem VM.cc (h : VM U V X) (t : Tree V d wn Y) {s : Int} (hs : s ≠ -1) : m_cc U s = v_cc V s := by
  unfold m_cc v_cc
  rw [if_neg hs]
  show cnt _ (23 + 1) = _
  have : cnt (fun n => decide (U 0 n ≠ 0) && decide (U 1 n = s)) (23 + 1) = cnt (fun n => decide (U 0 n ≠ 0) && decide (U 1 n = s)) 23 + (if (decide (U 0 23 ≠ 0) && decide (U 1 23 = s)) then 1 else 0) := rfl
  rw [this, h.l, cnt_congr (fun i hi => h.ch t hi hs)]
  simp
theorem VM.ca (h : VM U V X) (t : Tree V d wn Y) {s k : Int} (hs : s ≠ -1) : m_ca U s k = v_ca V s k := by
  unfold m_ca v_ca
  rw [if_neg hs]
  have e : ∀ i, i < 23 → ((decide (U 0 i ≠ 0) && decide (U 1 i = s)) && decide (U 4 i = k)) = (decide (V 9 i = s) && decide (V 10 i = k)) := fun i hi => by
    rw [h.ch t hi hs]
    by_cases z : V 9 i = s
    · rw [h.pl hi (by rw [z]; exact hs)]
    · simp [z]
  show (if 0 ≤ fnd _ 23 then fnd _ 23 else if ((decide (U 0 23 ≠ 0) && decide (U 1 23 = s)) && decide (U 4 23 = k)) then _ else -1) = _
  rw [fnd_congr e, h.l]
  have := fnd_rg (fun n => decide (V 9 n = s) && decide (V 10 n = k)) 23
  simp
  omega
theorem VM.tc (h : VM U V X) (g : Int) : m_tc U g = v_tc V g := cnt_congr (fun i hi => by rw [h.gr hi])
theorem VM.ta (h : VM U V X) {g : Int} (hg : g ≠ -1) (k : Int) : m_ta U g k = v_ta V g k := by
  unfold m_ta v_ta
  rw [if_neg hg]
  refine fnd_congr (fun i hi => ?_)
  rw [h.gr hi]
  by_cases z : V 13 i = g
  · rw [h.sp hi (by rw [z]; exact hg)]
  · simp [z]
theorem VM.pm (h : VM U V X) : m_pm U = cnt (fun p => decide (V 13 p ≠ -1)) 12 := cnt_congr (fun i hi => by rw [h.gr hi])
end VMA
section MR
variable {σ : Sg}
theorem t_cnt (c : Nat → Bool) {n : Nat} (h : n < 2147483648) : (oI (cnt c n)).toInt = cnt c n := j_oI (by omega) (by have := cnt_le c n; omega)
theorem m_childMany (s : Int32) : fX9_childMany σ 462 s = some (oI (m_cc (mv (σ.1 463)) s.toInt)) := by
  unfold fX9_childMany m_cc
  rw [← j_nIo _ (by have := cnt_le (fun n => decide (mv (σ.1 463) 0 n ≠ 0) && decide (mv (σ.1 463) 1 n = s.toInt)) 24; omega)]
  refine lp_cnt (F := fun n a l => fX9_childMany_4 σ 462 n s a l) 24 ?_ ?_ FU (by decide)
  · intro n a i hi
    show fX9_childMany_4 σ 462 (n + 1) s a (nI i) = _
    rw [fX9_childMany_4, if_neg (n_ge 24 (m := 24) rfl hi (by decide)), m_isChild (n := i) (j_nI (by omega)) hi, j_b]
    unfold fX9_childMany_25
    cases q : (decide (mv (σ.1 463) 0 i ≠ 0) && decide (mv (σ.1 463) 1 i = s.toInt))
    · rw [if_neg (by decide), if_neg (by decide), j_nm, j_s]
    · rw [if_pos rfl, if_pos rfl, j_nm, j_s]
  · intro n a
    show fX9_childMany_4 σ 462 (n + 1) s a (nI 24) = _
    rw [fX9_childMany_4, if_pos (n_le 24 (m := 24) rfl (by decide))]
theorem m_child (s k : Int32) : fX9_child σ 462 s k = some (oI (m_ca (mv (σ.1 463)) s.toInt k.toInt)) := by
  unfold fX9_child m_ca
  refine lp_fnd (F := fun n l => fX9_child_2 σ 462 n s k l) 24 (by decide) ?_ ?_ FU (by decide)
  · intro n i hi
    show fX9_child_2 σ 462 (n + 1) s k (nI i) = _
    rw [fX9_child_2, if_neg (n_ge 24 (m := 24) rfl hi (by decide)), m_isChild (n := i) (j_nI (by omega)) hi, j_b]
    unfold fX9_child_29
    cases q : (decide (mv (σ.1 463) 0 i ≠ 0) && decide (mv (σ.1 463) 1 i = s.toInt))
    · rw [if_neg (by decide), if_neg (by simp), j_s]
    · rw [if_pos rfl, m_i4 (n := i) (j_nI (by omega)) hi, j_b]
      by_cases z : mv (σ.1 463) 4 i = k.toInt
      · rw [if_pos (by rw [j_eq, t_mv]; exact z), if_pos (by simp [z])]
      · rw [if_neg (by rw [j_eq, t_mv]; exact z), if_neg (by simp [z]), j_s]
  · intro n
    show fX9_child_2 σ 462 (n + 1) s k (nI 24) = _
    rw [fX9_child_2, if_pos (n_le 24 (m := 24) rfl (by decide))]
theorem m_tabMany (g : Int32) : fX9_tabMany σ 462 g = some (oI (m_tc (mv (σ.1 463)) g.toInt)) := by
  unfold fX9_tabMany m_tc
  rw [← j_nIo _ (by have := cnt_le (fun p => decide (mv (σ.1 463) 9 p = g.toInt)) 12; omega)]
  refine lp_cnt (F := fun n a l => fX9_tabMany_4 σ 462 n g a l) 12 ?_ ?_ FU (by decide)
  · intro n a i hi
    show fX9_tabMany_4 σ 462 (n + 1) g a (nI i) = _
    rw [fX9_tabMany_4, if_neg (n_ge 12 (m := 12) rfl hi (by decide)), m_o3 (p := i) (j_nI (by omega)) hi, j_b]
    unfold fX9_tabMany_26
    by_cases q : mv (σ.1 463) 9 i = g.toInt
    · have q' : mv (σ.1 463) 9 i = g.toInt := q
      rw [if_pos (by rw [j_eq, t_mv]; exact q), if_pos (by rw [decide_eq_true q']), j_nm, j_s]
    · have q' : ¬ mv (σ.1 463) 9 i = g.toInt := q
      rw [if_neg (by rw [j_eq, t_mv]; exact q), if_neg (by rw [decide_eq_false q']; decide), j_nm, j_s]
  · intro n a
    show fX9_tabMany_4 σ 462 (n + 1) g a (nI 12) = _
    rw [fX9_tabMany_4, if_pos (n_le 12 (m := 12) rfl (by decide))]
theorem m_tabAt (g k : Int32) : fX9_tabAt σ 462 g k = some (oI (m_ta (mv (σ.1 463)) g.toInt k.toInt)) := by
  unfold fX9_tabAt m_ta
  refine lp_fnd (F := fun n l => fX9_tabAt_2 σ 462 n g k l) 12 (by decide) ?_ ?_ FU (by decide)
  · intro n i hi
    show fX9_tabAt_2 σ 462 (n + 1) g k (nI i) = _
    rw [fX9_tabAt_2, if_neg (n_ge 12 (m := 12) rfl hi (by decide)), m_o3 (p := i) (j_nI (by omega)) hi, j_b]
    unfold fX9_tabAt_30
    by_cases q : mv (σ.1 463) 9 i = g.toInt
    · have q' : mv (σ.1 463) 9 i = g.toInt := q
      rw [if_pos (by rw [j_eq, t_mv]; exact q), m_o4 (p := i) (j_nI (by omega)) hi, j_b]
      by_cases z : mv (σ.1 463) 10 i = k.toInt
      · have z' : mv (σ.1 463) 10 i = k.toInt := z
        rw [if_pos (by rw [j_eq, t_mv]; exact z), if_pos (by simp [q', z'])]
      · have z' : ¬ mv (σ.1 463) 10 i = k.toInt := z
        rw [if_neg (by rw [j_eq, t_mv]; exact z), if_neg (by simp [z']), j_s]
    · have q' : ¬ mv (σ.1 463) 9 i = g.toInt := q
      rw [if_neg (by rw [j_eq, t_mv]; exact q), if_neg (by simp [q']), j_s]
  · intro n
    show fX9_tabAt_2 σ 462 (n + 1) g k (nI 12) = _
    rw [fX9_tabAt_2, if_pos (n_le 12 (m := 12) rfl (by decide))]
theorem m_placedMany : fX9_placedMany σ 462 = some (oI (m_pm (mv (σ.1 463)))) := by
  unfold fX9_placedMany m_pm
  rw [← j_nIo _ (by have := cnt_le (fun p => decide (mv (σ.1 463) 9 p ≠ -1)) 12; omega)]
  refine lp_cnt (F := fun n a l => fX9_placedMany_4 σ 462 n a l) 12 ?_ ?_ FU (by decide)
  · intro n a i hi
    show fX9_placedMany_4 σ 462 (n + 1) a (nI i) = _
    rw [fX9_placedMany_4, if_neg (n_ge 12 (m := 12) rfl hi (by decide)), m_isPlaced (p := i) (j_nI (by omega)) hi, j_b]
    unfold fX9_placedMany_24
    cases q : decide (mv (σ.1 463) 9 i ≠ -1)
    · rw [if_neg (by decide), if_neg (by decide), j_nm, j_s]
    · rw [if_pos rfl, if_pos rfl, j_nm, j_s]
  · intro n a
    show fX9_placedMany_4 σ 462 (n + 1) a (nI 12) = _
    rw [fX9_placedMany_4, if_pos (n_le 12 (m := 12) rfl (by decide))]
variable {V : VW} {X : Nat → Bool} {d : Nat → Nat} {wn : Nat → Int} {Y : Nat → Bool}
theorem m_rootOf2 (h : VM (mv (σ.1 463)) V X) (t : Tree V d wn Y) : ∀ (k fuel n : Nat) (a : Int32), a.toInt = n → n < 23 → V 8 n ≠ 3 → ga (V 9) 23 (v_top V k n) = -1 → k < fuel → fX9_rootOf_2 σ 462 fuel a = some (oI (v_top V k n))
  | _, 0, _, _, _, _, _, _, hf => absurd hf (by omega)
  | k, f + 1, n, a, ha, hn, hu, hk, hf => by
    rw [fX9_rootOf_2, m_i1 ha (by omega), j_b, h.pa hn hu]
    by_cases q : V 9 n = -1
    · have st : v_top V k n = n := by
        have := v_top_st V (n := (n : Int)) (k := 0) (by show ga (V 9) 23 n = -1; rw [ga_in hn]; exact q) k
        rw [Nat.zero_add] at this
        exact this
      rw [q, if_pos (show oI (-1) = (-1 : Int32) from rfl), st, ← ha, j_oIt]
    · obtain ⟨s, s1, s2, s3, _, _⟩ := t.pa hn q
      rw [s2, if_neg (by rw [show (-1 : Int32) = oI (-1) from rfl, j_oe (by omega) (by omega) (by omega) (by omega)]; omega), j_b]
      have nx : v_top V (k - 1 + 1) n = v_top V (k - 1) (V 9 n) := by
        show (if ga (V 9) 23 n = -1 then (n : Int) else v_top V (k - 1) (ga (V 9) 23 n)) = _
        rw [ga_in hn, if_neg q]
      have k1 : 1 ≤ k := by
        refine Nat.one_le_iff_ne_zero.mpr (fun z => ?_)
        rw [z] at hk
        have : ga (V 9) 23 n = -1 := hk
        rw [ga_in hn] at this
        exact q this
      rw [show k - 1 + 1 = k by omega, s2] at nx
      rw [nx] at hk ⊢
      exact m_rootOf2 h t (k - 1) f s _ (j_oI (by omega) (by omega)) s1 (by omega) hk (by omega)
theorem m_rootOf (h : VM (mv (σ.1 463)) V X) (t : Tree V d wn Y) {a : Int32} {n : Nat} (ha : a.toInt = n) (hn : n < 23) (hu : V 8 n ≠ 3) : fX9_rootOf σ 462 a = some (oI (v_top V 23 n)) := by
  obtain ⟨m, m1, m2, m3, m4, _⟩ := t.top hn hu
  unfold fX9_rootOf
  exact m_rootOf2 h t 23 FU n a ha hn hu (by rw [m2, ga_in m1]; exact m4) (by decide)
theorem m_windowOf (h : VM (mv (σ.1 463)) V X) (t : Tree V d wn Y) {a : Int32} {n : Nat} (ha : a.toInt = n) (hn : n < 23) (hu : V 8 n ≠ 3) : fX9_windowOf σ 462 a = some (oI (wn n)) := by
  obtain ⟨m, m1, m2, m3, m4, m5⟩ := t.top hn hu
  obtain ⟨w, w1, w2, w3⟩ := t.ro m1 m3 m4
  unfold fX9_windowOf
  rw [m_rootOf h t ha hn hu, j_b, m2, ← m5, w2]
  refine lp (F := fun n s => fX9_windowOf_8 σ 462 n (oI (m : Int)) s) (Q := fun r => r = some (oI (w : Int))) (fun i s => s = nI i) w ?_ ?_ w 0 FU 0 (by omega) (by show _ < 6000; omega) rfl
  · rintro n i _ hi rfl
    refine ⟨nI (i + 1), rfl, ?_⟩
    show fX9_windowOf_8 σ 462 (n + 1) (oI (m : Int)) (nI i) = fX9_windowOf_8 σ 462 n (oI (m : Int)) (nI (i + 1))
    rw [fX9_windowOf_8, m_w0 (w := i) (j_nI (by omega)) (by omega), j_b]
    unfold fX9_windowOf_29
    by_cases q : mv (σ.1 463) 12 i = 0
    · rw [if_pos (by rw [j_eq, t_mv]; exact q), j_s]
    · rw [if_neg (by rw [j_eq, t_mv]; exact q), m_w5 (w := i) (j_nI (by omega)) (by omega), j_b, if_neg, j_s]
      rw [j_eq, t_mv, j_oI (by omega) (by omega)]
      intro z
      have : V 5 i = m := by rw [← h.ro (by omega)]; exact z
      have := t.un (by omega) w1 this w3
      omega
  · rintro n _ rfl
    show fX9_windowOf_8 σ 462 (n + 1) (oI (m : Int)) (nI w) = _
    have e0 : mv (σ.1 463) 12 w = 1 := by
      rw [h.ex w1, if_pos (Or.inr (by omega))]
    have e5 : mv (σ.1 463) 17 w = m := by
      rw [h.ro w1, w3]
    rw [fX9_windowOf_8, m_w0 (w := w) (j_nI (by omega)) (by omega), j_b, e0, if_neg (by decide), m_w5 (w := w) (j_nI (by omega)) (by omega), j_b, e5, if_pos rfl, j_nIo w (by omega)]
theorem m_placedIn (h : VM (mv (σ.1 463)) V X) (t : Tree V d wn Y) {Z : Nat → Bool} (tb : Tabs V Z) (w : Int32) : fX9_placedIn σ 462 w = some (oI (v_pi V w.toInt)) := by
  unfold fX9_placedIn v_pi
  rw [← j_nIo _ (by have := cnt_le (fun p => decide (V 13 p ≠ -1) && decide (v_wo V (V 13 p) = w.toInt)) 12; omega)]
  refine lp_cnt (F := fun n a l => fX9_placedIn_4 σ 462 n w a l) 12 ?_ ?_ FU (by decide)
  · intro n a i hi
    show fX9_placedIn_4 σ 462 (n + 1) w a (nI i) = _
    rw [fX9_placedIn_4, if_neg (n_ge 12 (m := 12) rfl hi (by decide)), m_isPlaced (p := i) (j_nI (by omega)) hi, j_b, h.gr hi]
    unfold fX9_placedIn_37 fX9_placedIn_38
    rcases tb.gr hi with q | ⟨g, g1, g2, g3⟩
    · rw [q, if_neg (by decide), if_neg (by simp), j_nm, j_s]
    · have e9 : mv (σ.1 463) 9 i = g := by rw [h.gr hi, g2]
      rw [if_pos (by rw [decide_eq_true_eq]; omega), m_o3 (p := i) (j_nI (by omega)) hi, j_b, e9, m_windowOf h t (n := g) (j_oI (by omega) (by omega)) g1 (by omega), j_b, g2, t.wo g1 (by omega)]
      obtain ⟨v, v1, v2, _⟩ := t.wr5 g1 (by omega)
      by_cases z : wn g = w.toInt
      · rw [if_pos (by rw [j_eq, j_oI (by omega) (by omega)]; exact z), if_pos (by simp [z]), j_nm, j_s]
      · rw [if_neg (by rw [j_eq, j_oI (by omega) (by omega)]; exact z), if_neg (by simp [z]), j_nm, j_s]
  · intro n a
    show fX9_placedIn_4 σ 462 (n + 1) w a (nI 12) = _
    rw [fX9_placedIn_4, if_pos (n_le 12 (m := 12) rfl (by decide))]
end MR
end
section
/-! THE RELATION: the reference's orders and new nodes -/
/-- alike below the count -/
def OE (o o' : OD) : Prop := o.1 = o'.1 ∧ ∀ k : Nat, (k : Int) < o.1 → o.2 k = o'.2 k
theorem OE.rf {o : OD} : OE o o := ⟨rfl, fun _ _ => rfl⟩
theorem OE.tr {o o' o'' : OD} (h : OE o o') (h' : OE o' o'') : OE o o'' := ⟨h.1.trans h'.1, fun k hk => (h.2 k hk).trans (h'.2 k (by rw [← h.1]; exact hk))⟩
theorem OE.sy {o o' : OD} (h : OE o o') : OE o' o := ⟨h.1.symm, fun k hk => (h.2 k (by rw [h.1]; exact hk)).symm⟩
theorem OE.ix {o o' : OD} (h : OE o o') (x : Int) : o_ix o x = o_ix o' x := by
  unfold o_ix
  rw [h.1]
  exact fnd_congr (fun i hi => by rw [h.2 i (by have := h.1; omega)])
theorem OE.lv {o o' : OD} (h : OE o o') (x : Int) : OE (o_lv o x) (o_lv o' x) := by
  have e := h.ix x
  have e1 := h.1
  unfold o_lv
  rw [← e]
  by_cases q : o_ix o x = -1
  · rw [if_pos q, if_pos q]
    exact h
  · rw [if_neg q, if_neg q]
    refine ⟨by show o.1 - 1 = o'.1 - 1; omega, fun k hk => ?_⟩
    have hk : (k : Int) < o.1 - 1 := hk
    show (if o_ix o x ≤ k ∧ (k : Int) < o.1 - 1 then o.2 (k + 1) else o.2 k) = if o_ix o x ≤ k ∧ (k : Int) < o'.1 - 1 then o'.2 (k + 1) else o'.2 k
    rw [← e1, h.2 k (by omega), h.2 (k + 1) (by omega)]
theorem OE.pl {o o' : OD} (h : OE o o') (x : Int) : OE (o_pl o x) (o_pl o' x) := by
  have hl := h.lv x
  have e1 := hl.1
  unfold o_pl
  rw [← e1]
  by_cases q : 12 ≤ (o_lv o x).1
  · rw [if_pos q, if_pos q]
    exact hl
  · rw [if_neg q, if_neg q]
    refine ⟨rfl, fun k hk => ?_⟩
    have hk : (k : Int) < (o_lv o x).1 + 1 := hk
    show (if (k : Int) = (o_lv o x).1 then x else (o_lv o x).2 k) = if (k : Int) = (o_lv o x).1 then x else (o_lv o' x).2 k
    by_cases z : (k : Int) = (o_lv o x).1
    · rw [if_pos z, if_pos z]
    · rw [if_neg z, if_neg z, hl.2 k (by omega)]
theorem OE.pf {o o' : OD} (h : OE o o') (x : Int) : OE (o_pf o x) (o_pf o' x) := by
  have hl := h.pl x
  have e1 := hl.1
  refine ⟨e1, fun k hk => ?_⟩
  have hk : (k : Int) < (o_pl o x).1 := hk
  show (if k = 0 then x else if (k : Int) < (o_pl o x).1 then (o_pl o x).2 (k - 1) else (o_pl o x).2 k) = if k = 0 then x else if (k : Int) < (o_pl o' x).1 then (o_pl o' x).2 (k - 1) else (o_pl o' x).2 k
  rw [← e1, hl.2 k hk, hl.2 (k - 1) (by omega)]
theorem OE.it {o o' : OD} (h : OE o o') (p : Int) (h12 : o.1 ≤ 12) : o_it o p = o_it o' p := by
  unfold o_it
  rw [← h.1]
  by_cases q : o.1 ≤ p
  · rw [if_pos q, if_pos q]
  · rw [if_neg q, if_neg q]
    unfold ga
    by_cases z : 0 ≤ p ∧ p < (12 : Nat)
    · rw [if_pos z, if_pos z, h.2 p.toNat (by omega)]
    · rw [if_neg z, if_neg z]
/-- an order in the row, at j: the count, then the items -/
def mo (U : VW) (j : Nat) : OD := (U j 0, U (j + 1))
/-- where the orders are: at j, the cell c, so many items -/
def MJ (j c cap : Nat) : Prop := (j = 18 ∧ c = 246 ∧ cap = 4) ∨ (j = 20 ∧ c = 251 ∧ cap = 12)
theorem MJ.a0 {j c cap : Nat} (h : MJ j c cap) : ma j 0 = c ∧ mw j = 1 ∧ mw (j + 1) = cap ∧ cap ≤ 12 ∧ 1 ≤ cap ∧ c + cap < 264 := by
  rcases h with ⟨rfl, rfl, rfl⟩ | ⟨rfl, rfl, rfl⟩ <;> decide
theorem MJ.a1 {j c cap : Nat} (h : MJ j c cap) (i : Nat) : ma (j + 1) i = c + 1 + i := by
  rcases h with ⟨rfl, rfl, rfl⟩ | ⟨rfl, rfl, rfl⟩ <;> unfold ma <;> simp
/-- it changes the order at j alone, to one that tells o -/
def MOo (F : Option Sg) (σ : Sg) (j : Nat) (o : OD) : Prop := ∃ σ', F = some σ' ∧ Out σ σ' 463 463 ∧ OE (mo (mv (σ'.1 463)) j) o ∧ ∀ k, k ≠ j → k ≠ j + 1 → mv (σ'.1 463) k = mv (σ.1 463) k
section MO
variable {σ : Sg} {j c cap : Nat}
theorem mo_ct (h : MJ j c cap) : ((σ.1 463) c).toInt = (mo (mv (σ.1 463)) j).1 := by
  have := h.a0
  show _ = mv (σ.1 463) j 0
  rw [mv_in (by omega), this.1]
theorem mo_it (h : MJ j c cap) {i : Nat} (hi : i < cap) : ((σ.1 463) (c + 1 + i)).toInt = (mo (mv (σ.1 463)) j).2 i := by
  have := h.a0
  show _ = mv (σ.1 463) (j + 1) i
  rw [mv_in (by omega), h.a1]
theorem m_placeIn (h : MJ j c cap) (hc : 0 ≤ (mo (mv (σ.1 463)) j).1 ∧ (mo (mv (σ.1 463)) j).1 ≤ cap) (x : Int32) : fX9_placeIn σ 462 (nI c) x = some (oI (o_ix (mo (mv (σ.1 463)) j) x.toInt)) := by
  have H := h.a0
  have ct := mo_ct (σ := σ) h
  unfold fX9_placeIn o_ix
  refine lp_fnd (F := fun n l => fX9_placeIn_2 σ 462 n (nI c) x l) (mo (mv (σ.1 463)) j).1.toNat (by omega) ?_ ?_ FU (by show _ < 6000; omega)
  · intro n i hi
    show fX9_placeIn_2 σ 462 (n + 1) (nI c) x (nI i) = _
    rw [fX9_placeIn_2, if_pos (j_ckn (by omega) (by decide)), j_cl c (by omega), if_neg (by rw [j_le, j_nI (by omega)]; show ¬ ((σ.1 463) c).toInt ≤ _; omega), j_s c, j_a, if_pos (j_ckn (by omega) (by decide)), j_cl _ (by omega), j_s]
    have it := mo_it (σ := σ) h (i := i) (by omega)
    by_cases q : σ.1 (462 + 1) (c + 1 + i) = x
    · rw [if_pos q, if_pos (by rw [decide_eq_true_eq, ← it]; exact congrArg Int32.toInt q)]
    · rw [if_neg q, if_neg (by rw [decide_eq_true_eq, ← it, ← j_eq]; exact q)]
  · intro n
    show fX9_placeIn_2 σ 462 (n + 1) (nI c) x _ = _
    rw [fX9_placeIn_2, if_pos (j_ckn (by omega) (by decide)), j_cl c (by omega), if_pos (by rw [j_le, j_nI (by omega)]; show ((σ.1 463) c).toInt ≤ _; omega)]
theorem m_dropsFrom (h : MJ j c cap) (hc : 0 ≤ (mo (mv (σ.1 463)) j).1 ∧ (mo (mv (σ.1 463)) j).1 ≤ cap) (x : Int32) : MOo (fX9_dropsFrom σ 462 (nI c) x) σ j (o_lv (mo (mv (σ.1 463)) j) x.toInt) := by
  have H := h.a0
  have ct := mo_ct (σ := σ) h
  have hr := o_ix_rg (o := mo (mv (σ.1 463)) j) x.toInt
  unfold MOo fX9_dropsFrom
  rw [m_placeIn h hc, j_b]
  by_cases e : o_ix (mo (mv (σ.1 463)) j) x.toInt = -1
  · rw [if_pos (by rw [e]; rfl)]
    exact ⟨σ, rfl, Out.rf, by rw [o_lv, if_pos e]; exact OE.rf, fun _ _ _ => rfl⟩
  · obtain ⟨i0, hi0⟩ : ∃ i0 : Nat, o_ix (mo (mv (σ.1 463)) j) x.toInt = i0 := ⟨(o_ix (mo (mv (σ.1 463)) j) x.toInt).toNat, by omega⟩
    obtain ⟨N, hN⟩ : ∃ N : Nat, (mo (mv (σ.1 463)) j).1 = (N : Int) + 1 := ⟨((mo (mv (σ.1 463)) j).1 - 1).toNat, by omega⟩
    rw [if_neg (by rw [show (-1 : Int32) = oI (-1) from rfl, j_oe (by omega) (by omega) (by omega) (by omega)]; exact e), hi0, ← j_nIo i0 (by omega)]
    refine lp (F := fun n (s : Sg × Int32) => fX9_dropsFrom_16 462 n s.1 (nI c) s.2) (Q := fun r => ∃ σ', r = some σ' ∧ Out σ σ' 463 463 ∧ OE (mo (mv (σ'.1 463)) j) (o_lv (mo (mv (σ.1 463)) j) x.toInt) ∧ ∀ k, k ≠ j → k ≠ j + 1 → mv (σ'.1 463) k = mv (σ.1 463) k) (fun i s => s.2 = nI i ∧ i0 ≤ i ∧ Out σ s.1 463 463 ∧ (∀ k, k ≠ j + 1 → mv (s.1.1 463) k = mv (σ.1 463) k) ∧ ∀ k, k < cap → mv (s.1.1 463) (j + 1) k = if i0 ≤ k ∧ k < i then mv (σ.1 463) (j + 1) (k + 1) else mv (σ.1 463) (j + 1) k) N ?_ ?_ (N - i0) i0 FU (σ, nI i0) (by omega) (by show _ < 6000; omega) ⟨rfl, Nat.le_refl _, Out.rf, fun _ _ => rfl, fun k hk => by rw [if_neg (by omega)]⟩
    · rintro n i ⟨s, l⟩ hi ⟨rfl, hge, ho, hs, hv⟩
      simp only at ho hs hv
      have cts := mo_ct (σ := s) h
      have e0 : (mo (mv (s.1 463)) j).1 = (N : Int) + 1 := by
        rw [← hN]
        show mv (s.1 463) j 0 = mv (σ.1 463) j 0
        rw [hs j (by omega)]
      have e2 : (s.1 (462 + 1) c - 1).toInt = N := by
        have : (s.1 (462 + 1) c).toInt = (N : Int) + 1 := by rw [← e0]; exact cts
        rw [j_sub (by rw [this, jz1]; omega) (by rw [this, jz1]; omega), this, jz1]
        omega
      refine ⟨(su s 463 (c + 1 + i) (s.1 463 (c + 1 + (i + 1))), nI (i + 1)), ⟨rfl, by omega, ho.tr su_out, fun k hk => ?_, fun k hk => ?_⟩, ?_⟩
      · show mv ((su s 463 (c + 1 + i) _).1 463) k = _
        rw [← h.a1 i, mv_su (by omega), mu_ne hk, hs k hk]
      · show mv ((su s 463 (c + 1 + i) _).1 463) (j + 1) k = _
        rw [← h.a1 i, mv_su (by omega), mu_at, ← h.a1 (i + 1), ← mv_in (f := s.1 463) (by omega)]
        by_cases q : k = i
        · subst q
          rw [if_pos rfl, hv (k + 1) (by omega), if_neg (by omega), if_pos (by omega)]
        · rw [if_neg q, hv k hk]
          by_cases q2 : i0 ≤ k ∧ k < i
          · rw [if_pos q2, if_pos (by omega)]
          · rw [if_neg q2, if_neg (by omega)]
      · show fX9_dropsFrom_16 462 (n + 1) s (nI c) (nI i) = fX9_dropsFrom_16 462 n _ (nI c) (nI (i + 1))
        rw [fX9_dropsFrom_16, if_pos (j_ckn (by omega) (by decide)), if_neg (by rw [j_cl c (by omega), j_le, e2, j_nI (by omega)]; omega), show nI c + 2 = nI (c + 2) from j_a c 2, j_s c, j_a, j_a, if_pos (j_ckn (by omega) (by decide)), if_pos (j_ckn (by omega) (by decide)), j_nm, j_cl _ (by omega), j_cl _ (by omega), j_s, show c + 2 + i = c + 1 + (i + 1) by omega]
    · rintro n ⟨s, l⟩ ⟨rfl, hge, ho, hs, hv⟩
      simp only at ho hs hv
      have cts := mo_ct (σ := s) h
      have e0 : (mo (mv (s.1 463)) j).1 = (N : Int) + 1 := by
        rw [← hN]
        show mv (s.1 463) j 0 = mv (σ.1 463) j 0
        rw [hs j (by omega)]
      have e1 : (s.1 (462 + 1) c).toInt = (N : Int) + 1 := by rw [← e0]; exact cts
      have e1' : s.1 (462 + 1) c = nI (N + 1) := j_eq.mpr (by rw [e1, j_nI (by omega)]; omega)
      have e2 : (s.1 (462 + 1) c - 1).toInt = N := by
        rw [j_sub (by rw [e1, jz1]; omega) (by rw [e1, jz1]; omega), e1, jz1]
        omega
      show ∃ σ', fX9_dropsFrom_16 462 (n + 1) s (nI c) (nI N) = some σ' ∧ _
      rw [fX9_dropsFrom_16, if_pos (j_ckn (by omega) (by decide)), if_pos (by rw [j_cl c (by omega), j_le, e2, j_nI (by omega)]; omega), if_pos (j_ckn (by omega) (by decide)), if_pos (by rw [j_cl c (by omega), e1', j_a]; exact j_ckn (by omega) (by decide)), j_nm, if_pos (j_ckn (by omega) (by decide)), if_pos (j_ckn (by omega) (by decide)), j_nm, j_cl c (by omega), e1', j_a, j_cl _ (by omega)]
      have eN : c + (N + 1) = c + 1 + N := by omega
      rw [eN]
      have c1 : (su s (462 + 1) (c + 1 + N) 0).1 (462 + 1) c = nI (N + 1) := by rw [su_at, if_neg (by omega), e1']
      have cN : nI (N + 1) - 1 = nI N := j_eq.mpr (by rw [← e1', e2, j_nI (by omega)])
      rw [c1, cN]
      have a1 : mv ((su (su s (462 + 1) (c + 1 + N) 0) (462 + 1) c (nI N)).1 463) = mu (mu (mv (s.1 463)) (j + 1) N 0) j 0 N := by
        have x1 : mv ((su s (462 + 1) (c + 1 + N) 0).1 463) = mu (mv (s.1 463)) (j + 1) N 0 := by
          rw [← h.a1 N]
          exact mv_su (by omega)
        have x2 : mv ((su (su s (462 + 1) (c + 1 + N) 0) (462 + 1) c (nI N)).1 463) = mu (mv ((su s (462 + 1) (c + 1 + N) 0).1 463)) j 0 (nI N).toInt := by
          rw [← H.1]
          exact mv_su (by omega)
        rw [x2, x1, j_nI (by omega)]
      refine ⟨_, rfl, (ho.tr su_out).tr su_out, ?_, fun k k1 k2 => by rw [a1, mu_ne k1, mu_ne k2, hs k k2]⟩
      rw [o_lv, if_neg e, hi0]
      refine ⟨?_, fun k hk => ?_⟩
      · show mv _ j 0 = (mo (mv (σ.1 463)) j).1 - 1
        rw [a1, mu_at, if_pos rfl, hN]
        omega
      · have hk' : (k : Int) < N := by
          have : (k : Int) < mv ((su (su s (462 + 1) (c + 1 + N) 0) (462 + 1) c (nI N)).1 463) j 0 := hk
          rw [a1, mu_at, if_pos rfl] at this
          exact this
        show mv _ (j + 1) k = if (i0 : Int) ≤ k ∧ (k : Int) < (mo (mv (σ.1 463)) j).1 - 1 then mv (σ.1 463) (j + 1) (k + 1) else mv (σ.1 463) (j + 1) k
        rw [a1, mu_ne (by omega), mu_at, if_neg (by omega), hv k (by omega)]
        by_cases q : i0 ≤ k ∧ k < N
        · rw [if_pos q, if_pos (by omega)]
        · rw [if_neg q, if_neg (by omega)]
theorem m_comesLast (h : MJ j c cap) (hc : 0 ≤ (mo (mv (σ.1 463)) j).1 ∧ (mo (mv (σ.1 463)) j).1 ≤ cap) (x : Int32) (hl : (o_lv (mo (mv (σ.1 463)) j) x.toInt).1 < cap) : MOo (fX9_comesLast σ 462 (nI c) x) σ j (o_pl (mo (mv (σ.1 463)) j) x.toInt) := by
  have H := h.a0
  obtain ⟨σ1, a1, o1, v1, r1⟩ := m_dropsFrom h hc x
  have ok := (o_lv_ok (o := mo (mv (σ.1 463)) j) ⟨hc.1, by omega⟩ x.toInt).1
  obtain ⟨m, hm⟩ : ∃ m : Nat, (o_lv (mo (mv (σ.1 463)) j) x.toInt).1 = m := ⟨(o_lv (mo (mv (σ.1 463)) j) x.toInt).1.toNat, by unfold OkO at ok; omega⟩
  have ct := mo_ct (σ := σ1) h
  have e1 : (σ1.1 (462 + 1) c).toInt = m := by
    rw [← hm, ← v1.1]
    exact ct
  have e1' : σ1.1 (462 + 1) c = nI m := j_eq.mpr (by rw [e1, j_nI (by omega)])
  unfold MOo fX9_comesLast
  rw [a1, j_b, if_pos (j_ckn (by omega) (by decide)), if_pos (by rw [j_cl c (by omega), e1', j_s c, j_a]; exact j_ckn (by omega) (by decide)), j_nm, if_pos (j_ckn (by omega) (by decide)), if_pos (j_ckn (by omega) (by decide)), j_nm, j_cl c (by omega), e1', j_s c, j_a, j_cl _ (by omega)]
  have c1 : (su σ1 (462 + 1) (c + 1 + m) x).1 (462 + 1) c = nI m := by rw [su_at, if_neg (by omega), e1']
  rw [c1, j_s]
  have A : mv ((su (su σ1 (462 + 1) (c + 1 + m) x) (462 + 1) c (nI (m + 1))).1 463) = mu (mu (mv (σ1.1 463)) (j + 1) m x.toInt) j 0 ((m + 1 : Nat) : Int) := by
    have x1 : mv ((su σ1 (462 + 1) (c + 1 + m) x).1 463) = mu (mv (σ1.1 463)) (j + 1) m x.toInt := by
      rw [← h.a1 m]
      exact mv_su (by omega)
    have x2 : mv ((su (su σ1 (462 + 1) (c + 1 + m) x) (462 + 1) c (nI (m + 1))).1 463) = mu (mv ((su σ1 (462 + 1) (c + 1 + m) x).1 463)) j 0 (nI (m + 1)).toInt := by
      rw [← H.1]
      exact mv_su (by omega)
    rw [x2, x1, j_nI (by omega)]
  refine ⟨_, rfl, (o1.tr su_out).tr su_out, ?_, fun k k1 k2 => by rw [A, mu_ne k1, mu_ne k2, r1 k k1 k2]⟩
  rw [o_pl, if_neg (by omega)]
  refine ⟨?_, fun k hk => ?_⟩
  · show mv _ j 0 = (o_lv (mo (mv (σ.1 463)) j) x.toInt).1 + 1
    rw [A, mu_at, if_pos rfl, hm]
    omega
  · have hk' : (k : Int) < m + 1 := by
      have : (k : Int) < mv ((su (su σ1 (462 + 1) (c + 1 + m) x) (462 + 1) c (nI (m + 1))).1 463) j 0 := hk
      rw [A, mu_at, if_pos rfl] at this
      omega
    show mv _ (j + 1) k = if (k : Int) = (o_lv (mo (mv (σ.1 463)) j) x.toInt).1 then x.toInt else (o_lv (mo (mv (σ.1 463)) j) x.toInt).2 k
    rw [A, mu_ne (by omega), mu_at, hm]
    by_cases q : k = m
    · rw [if_pos q, if_pos (by omega)]
    · rw [if_neg q, if_neg (by omega), ← v1.2 k (by rw [v1.1, hm]; omega)]
      rfl
theorem m_comesFirst (h : MJ j c cap) (hc : 0 ≤ (mo (mv (σ.1 463)) j).1 ∧ (mo (mv (σ.1 463)) j).1 ≤ cap) (x : Int32) (hl : (o_lv (mo (mv (σ.1 463)) j) x.toInt).1 < cap) : MOo (fX9_comesFirst σ 462 (nI c) x) σ j (o_pf (mo (mv (σ.1 463)) j) x.toInt) := by
  have H := h.a0
  obtain ⟨σ1, a1, o1, v1, r1⟩ := m_comesLast h hc x hl
  have ok := (o_lv_ok (o := mo (mv (σ.1 463)) j) ⟨hc.1, by omega⟩ x.toInt).1
  unfold OkO at ok
  obtain ⟨m, hm⟩ : ∃ m : Nat, (o_pl (mo (mv (σ.1 463)) j) x.toInt).1 = (m : Int) + 1 ∧ m < cap := ⟨(o_lv (mo (mv (σ.1 463)) j) x.toInt).1.toNat, by
    unfold o_pl
    rw [if_neg (by omega)]
    show (o_lv (mo (mv (σ.1 463)) j) x.toInt).1 + 1 = _ ∧ _
    omega⟩
  have ct := mo_ct (σ := σ1) h
  have e1 : (σ1.1 (462 + 1) c).toInt = (m : Int) + 1 := by
    rw [← hm.1, ← v1.1]
    exact ct
  have es : σ1.1 (462 + 1) c - 1 = nI m := j_eq.mpr (by rw [j_sub (by rw [e1, jz1]; omega) (by rw [e1, jz1]; omega), e1, jz1, j_nI (by omega)]; omega)
  unfold MOo fX9_comesFirst
  rw [a1, j_b, if_pos (j_ckn (by omega) (by decide)), j_cl c (by omega), j_nm, es]
  refine lp (F := fun n (s : Sg × Int32) => fX9_comesFirst_15 462 n s.1 (nI c) x s.2) (Q := fun r => ∃ σ', r = some σ' ∧ Out σ σ' 463 463 ∧ OE (mo (mv (σ'.1 463)) j) (o_pf (mo (mv (σ.1 463)) j) x.toInt) ∧ ∀ k, k ≠ j → k ≠ j + 1 → mv (σ'.1 463) k = mv (σ.1 463) k) (fun i s => s.2.toInt = (m : Int) - i ∧ Out σ s.1 463 463 ∧ (∀ k, k ≠ j + 1 → mv (s.1.1 463) k = mv (σ1.1 463) k) ∧ ∀ k, k < cap → mv (s.1.1 463) (j + 1) k = if (m : Int) - i < k ∧ k ≤ m then mv (σ1.1 463) (j + 1) (k - 1) else mv (σ1.1 463) (j + 1) k) m ?_ ?_ m 0 FU (σ1, nI m) (Nat.zero_add _) (by show _ < 6000; omega) ⟨by rw [j_nI (by omega)]; omega, o1, fun _ _ => rfl, fun k hk => by rw [if_neg (by omega)]⟩
  · rintro n i ⟨s, l⟩ hi ⟨hl2, ho, hs, hv⟩
    simp only at hl2 ho hs hv
    obtain ⟨t, ht⟩ : ∃ t : Nat, (m : Int) - i = (t : Int) + 1 := ⟨m - i - 1, by omega⟩
    have l2 : l = nI (t + 1) := j_eq.mpr (by rw [hl2, j_nI (by omega)]; omega)
    have l3 : nI (t + 1) + (-1) = nI t := j_eq.mpr (by rw [j_add (by rw [j_nI (by omega), jm1]; omega) (by rw [j_nI (by omega), jm1]; omega), j_nI (by omega), j_nI (by omega), jm1]; omega)
    refine ⟨(su s 463 (c + 1 + (t + 1)) (s.1 463 (c + 1 + t)), nI t), ⟨by show (nI t).toInt = _; rw [j_nI (by omega)]; omega, ho.tr su_out, fun k hk => ?_, fun k hk => ?_⟩, ?_⟩
    · show mv ((su s 463 (c + 1 + (t + 1)) _).1 463) k = _
      rw [← h.a1 (t + 1), mv_su (by omega), mu_ne hk, hs k hk]
    · show mv ((su s 463 (c + 1 + (t + 1)) _).1 463) (j + 1) k = _
      rw [← h.a1 (t + 1), mv_su (by omega), mu_at, ← h.a1 t, ← mv_in (f := s.1 463) (by omega)]
      by_cases q : k = t + 1
      · subst q
        rw [if_pos rfl, hv t (by omega), if_neg (by omega), if_pos (by omega), Nat.add_sub_cancel]
      · rw [if_neg q, hv k hk]
        by_cases q2 : (m : Int) - i < k ∧ k ≤ m
        · rw [if_pos q2, if_pos (by omega)]
        · rw [if_neg q2, if_neg (by omega)]
    · show fX9_comesFirst_15 462 (n + 1) s (nI c) x l = fX9_comesFirst_15 462 n _ (nI c) x (nI t)
      rw [fX9_comesFirst_15, l2, if_neg (by rw [j_le, j_nI (by omega), jz0]; omega), j_a, j_s c, j_a, if_pos (j_ckn (by omega) (by decide)), if_pos (j_ckn (by omega) (by decide)), j_nm, j_cl _ (by omega), j_cl _ (by omega), l3, show c + (t + 1) = c + 1 + t by omega]
  · rintro n ⟨s, l⟩ ⟨hl2, ho, hs, hv⟩
    simp only at hl2 ho hs hv
    have l2 : l = nI 0 := j_eq.mpr (by rw [hl2, j_nI (by omega)]; omega)
    show ∃ σ', fX9_comesFirst_15 462 (n + 1) s (nI c) x l = some σ' ∧ _
    rw [fX9_comesFirst_15, l2, if_pos (by decide), j_s c, if_pos (j_ckn (by omega) (by decide)), j_nm, j_cl _ (by omega)]
    have A : mv ((su s (462 + 1) (c + 1) x).1 463) = mu (mv (s.1 463)) (j + 1) 0 x.toInt := by
      rw [show c + 1 = ma (j + 1) 0 by rw [h.a1]]
      exact mv_su (by omega)
    refine ⟨_, rfl, ho.tr su_out, ?_, fun k k1 k2 => by rw [A, mu_ne k2, hs k k2, r1 k k1 k2]⟩
    refine ⟨?_, fun k hk => ?_⟩
    · show mv _ j 0 = (o_pl (mo (mv (σ.1 463)) j) x.toInt).1
      rw [A, mu_ne (by omega), hs j (by omega), ← v1.1]
      rfl
    · have hk' : (k : Int) < (m : Int) + 1 := by
        have : (k : Int) < mv ((su s (462 + 1) (c + 1) x).1 463) j 0 := hk
        rw [A, mu_ne (by omega), hs j (by omega)] at this
        rw [← hm.1, ← v1.1]
        exact this
      show mv _ (j + 1) k = if k = 0 then x.toInt else if (k : Int) < (o_pl (mo (mv (σ.1 463)) j) x.toInt).1 then (o_pl (mo (mv (σ.1 463)) j) x.toInt).2 (k - 1) else (o_pl (mo (mv (σ.1 463)) j) x.toInt).2 k
      rw [A, mu_at]
      by_cases q : k = 0
      · rw [if_pos q, if_pos q]
      · rw [if_neg q, if_neg q, hv k (by omega), if_pos (by omega), if_pos (by rw [hm.1]; omega), ← v1.2 (k - 1) (by rw [v1.1, hm.1]; omega)]
        rfl
end MO
end
section
/-! THE RELATION: a pane goes, in the reference -/
/-- all but trees, tabs, windows and floats stays -/
def FR (U U' : VW) : Prop := ∀ j, (j = 6 ∨ j = 7 ∨ j = 8 ∨ 20 ≤ j) → U' j = U j
theorem FR.rf {U : VW} : FR U U := fun _ _ => rfl
theorem FR.tr {U U' U'' : VW} (h : FR U U') (h' : FR U' U'') : FR U U'' := fun j hj => (h' j hj).trans (h j hj)
theorem FR.mu {U : VW} {j i : Nat} {x : Int} (h : j ≠ 6 ∧ j ≠ 7 ∧ j ≠ 8 ∧ j < 20) : FR U (mu U j i x) := fun k hk => mu_ne (by omega)
def nn (U : VW) (n : Nat) (kind : Int) : VW := mu (mu (mu (mu (mu (mu U 0 n kind) 1 n (-1)) 2 n 0) 3 n 1000) 4 n 0) 5 n (-1)
theorem FR.nn {U : VW} {n : Nat} {k : Int} : FR U (nn U n k) := ((((((FR.mu (by omega)).tr (FR.mu (by omega))).tr (FR.mu (by omega))).tr (FR.mu (by omega))).tr (FR.mu (by omega))).tr (FR.mu (by omega)))
theorem nn_rows {U : VW} {n : Nat} {k : Int} : (∀ i, nn U n k 0 i = if i = n then k else U 0 i) ∧ (∀ i, nn U n k 1 i = if i = n then -1 else U 1 i) ∧ (∀ i, nn U n k 2 i = if i = n then 0 else U 2 i) ∧ (∀ i, nn U n k 3 i = if i = n then 1000 else U 3 i) ∧ (∀ i, nn U n k 4 i = if i = n then 0 else U 4 i) ∧ (∀ i, nn U n k 5 i = if i = n then -1 else U 5 i) ∧ ∀ j, 6 ≤ j → nn U n k j = U j := by
  unfold nn
  refine ⟨fun i => ?_, fun i => ?_, fun i => ?_, fun i => ?_, fun i => ?_, fun i => ?_, fun j hj => ?_⟩
  · rw [mu_ne (by decide), mu_ne (by decide), mu_ne (by decide), mu_ne (by decide), mu_ne (by decide), mu_at]
  · rw [mu_ne (by decide), mu_ne (by decide), mu_ne (by decide), mu_ne (by decide), mu_at, mu_ne (by decide)]
  · rw [mu_ne (by decide), mu_ne (by decide), mu_ne (by decide), mu_at, mu_ne (by decide), mu_ne (by decide)]
  · rw [mu_ne (by decide), mu_ne (by decide), mu_at, mu_ne (by decide), mu_ne (by decide), mu_ne (by decide)]
  · rw [mu_ne (by decide), mu_at, mu_ne (by decide), mu_ne (by decide), mu_ne (by decide), mu_ne (by decide)]
  · rw [mu_at, mu_ne (by decide), mu_ne (by decide), mu_ne (by decide), mu_ne (by decide), mu_ne (by decide)]
  · rw [mu_ne (by omega), mu_ne (by omega), mu_ne (by omega), mu_ne (by omega), mu_ne (by omega), mu_ne (by omega)]
section MG
variable {σ : Sg}
theorem m_newNode {n0 : Nat} (h0 : n0 < 24) (hk : mv (σ.1 463) 0 n0 = 0) (hl : ∀ k, k < n0 → mv (σ.1 463) 0 k ≠ 0) (kind : Int32) : ∃ σ', fX9_newNode σ 462 kind = some (oI (n0 : Int), σ') ∧ Out σ σ' 463 463 ∧ mv (σ'.1 463) = nn (mv (σ.1 463)) n0 kind.toInt := by
  unfold fX9_newNode
  refine lp (F := fun n s => fX9_newNode_2 462 n σ kind s) (Q := fun r => ∃ σ', r = some (oI (n0 : Int), σ') ∧ Out σ σ' 463 463 ∧ mv (σ'.1 463) = nn (mv (σ.1 463)) n0 kind.toInt) (fun i s => s = nI i) n0 ?_ ?_ n0 0 FU 0 (Nat.zero_add _) (by show _ < 6000; omega) rfl
  · rintro n i _ hi rfl
    refine ⟨nI (i + 1), rfl, ?_⟩
    show fX9_newNode_2 462 (n + 1) σ kind (nI i) = fX9_newNode_2 462 n σ kind (nI (i + 1))
    rw [fX9_newNode_2, m_i0 (n := i) (j_nI (by omega)) (by omega), j_b, if_neg (by rw [j_eq, t_mv, jz0]; exact hl i hi), j_s]
  · rintro n _ rfl
    show ∃ σ', fX9_newNode_2 462 (n + 1) σ kind (nI n0) = _ ∧ _
    have e : (nI n0).toInt = n0 := j_nI (by omega)
    obtain ⟨σ1, a1, o1, v1⟩ := m_l0 (σ := σ) e h0 kind
    obtain ⟨σ2, a2, o2, v2⟩ := m_l1 (σ := σ1) e h0 (-1)
    obtain ⟨σ3, a3, o3, v3⟩ := m_l2 (σ := σ2) e h0 0
    obtain ⟨σ4, a4, o4, v4⟩ := m_l3 (σ := σ3) e h0 1000
    obtain ⟨σ5, a5, o5, v5⟩ := m_l4 (σ := σ4) e h0 0
    obtain ⟨σ6, a6, o6, v6⟩ := m_l5 (σ := σ5) e h0 (-1)
    rw [fX9_newNode_2, m_i0 e h0, j_b, if_pos (by rw [j_eq, t_mv, jz0]; exact hk), a1, j_b, a2, j_b, a3, j_b, a4, j_b, a5, j_b, a6, j_b, j_nIo n0 (by omega)]
    exact ⟨σ6, rfl, ((((o1.tr o2).tr o3).tr o4).tr o5).tr o6, by rw [v6, v5, v4, v3, v2, v1]; rfl⟩
/-- the children behind a place move up by one -/
def mlv (U : VW) (n : Nat) : VW := fun j i => if j = 4 ∧ i < 24 ∧ (if i = n then 0 else U 0 i) ≠ 0 ∧ U 1 i = U 1 n ∧ U 4 n < U 4 i then wr (U 4 i - 1) else mu U 0 n 0 j i
theorem m_leaves {a : Int32} {g : Nat} (ha : a.toInt = g) (hg : g < 24) : Mo (fX9_leaves σ 462 a) σ (mlv (mv (σ.1 463)) g) := by
  unfold Mo fX9_leaves
  rw [m_i1 ha hg, j_b, m_i4 ha hg, j_b]
  obtain ⟨σ1, a1, o1, v1⟩ := m_l0 (σ := σ) ha hg 0
  rw [a1, j_b]
  refine lp (F := fun n (s : Sg × Int32) => fX9_leaves_24 462 n s.1 (oI (mv (σ.1 463) 1 g)) (oI (mv (σ.1 463) 4 g)) s.2) (Q := fun r => ∃ σ', r = some σ' ∧ Out σ σ' 463 463 ∧ mv (σ'.1 463) = mlv (mv (σ.1 463)) g) (fun i s => s.2 = nI i ∧ Out σ s.1 463 463 ∧ mv (s.1.1 463) = fun j m => if m < i then mlv (mv (σ.1 463)) g j m else mu (mv (σ.1 463)) 0 g 0 j m) 24 ?_ ?_ 24 0 FU (σ1, 0) rfl (by decide) ⟨rfl, o1, by
    rw [v1]
    funext j m
    rw [if_neg (by omega)]
    rfl⟩
  · rintro n i ⟨s, l⟩ hi ⟨rfl, ho, hv⟩
    simp only at ho hv
    have rd : ∀ j, mv (s.1 463) j i = mu (mv (σ.1 463)) 0 g 0 j i := fun j => by rw [hv]; exact if_neg (by omega)
    have e : (nI i).toInt = i := j_nI (by omega)
    have ext : ∀ W : VW, W 4 i = mlv (mv (σ.1 463)) g 4 i → (∀ j m, ¬ (j = 4 ∧ m = i) → W j m = mv (s.1 463) j m) → W = fun j m => if m < i + 1 then mlv (mv (σ.1 463)) g j m else mu (mv (σ.1 463)) 0 g 0 j m := by
      intro W h1 h2
      funext j m
      by_cases q : j = 4 ∧ m = i
      · obtain ⟨rfl, rfl⟩ := q
        rw [h1, if_pos (by omega)]
      · rw [h2 j m q, hv]
        dsimp only
        by_cases q2 : m < i
        · rw [if_pos q2, if_pos (by omega)]
        · rw [if_neg q2]
          by_cases q3 : m = i
          · subst q3
            rw [if_pos (by omega), mlv, if_neg (fun z => q ⟨z.1, rfl⟩)]
          · rw [if_neg (by omega)]
    have r0 : mu (mv (σ.1 463)) 0 g 0 0 i = if i = g then 0 else mv (σ.1 463) 0 i := mu_at i
    have r1 : mu (mv (σ.1 463)) 0 g 0 1 i = mv (σ.1 463) 1 i := by rw [mu_ne (by decide)]
    have r4 : mu (mv (σ.1 463)) 0 g 0 4 i = mv (σ.1 463) 4 i := by rw [mu_ne (by decide)]
    show ∃ s' : Sg × Int32, _ ∧ fX9_leaves_24 462 (n + 1) s (oI (mv (σ.1 463) 1 g)) (oI (mv (σ.1 463) 4 g)) (nI i) = _
    rw [fX9_leaves_24, if_neg (n_ge 24 (m := 24) rfl hi (by decide)), m_isChild e hi, j_b, t_mv, rd 0, rd 1, r0, r1]
    unfold fX9_leaves_68
    by_cases q : (if i = g then 0 else mv (σ.1 463) 0 i) ≠ 0 ∧ mv (σ.1 463) 1 i = mv (σ.1 463) 1 g
    · rw [if_pos (by simp only [q.1, q.2, ne_eq, not_false_eq_true, decide_true, Bool.and_self]), m_i4 e hi, j_b, rd 4, r4]
      by_cases q2 : mv (σ.1 463) 4 g < mv (σ.1 463) 4 i
      · obtain ⟨σ2, a2, o2, v2⟩ := m_l4 (σ := s) e hi (oI (mv (σ.1 463) 4 i) - 1)
        rw [if_neg (by rw [j_le, t_mv, t_mv]; omega), j_b, a2, j_b]
        refine ⟨(σ2, nI (i + 1)), ⟨rfl, ho.tr o2, ext _ ?_ ?_⟩, by rw [j_s]⟩
        · show mv (σ2.1 463) 4 i = _
          rw [v2, mu_at, if_pos rfl, wr_sub, t_mv, jz1, mlv, if_pos ⟨rfl, hi, q.1, q.2, q2⟩]
        · intro j m hjm
          show mv (σ2.1 463) j m = _
          rw [v2, mu_def, if_neg hjm]
      · rw [if_pos (by rw [j_le, t_mv, t_mv]; omega)]
        refine ⟨(s, nI (i + 1)), ⟨rfl, ho, ext _ ?_ (fun _ _ _ => rfl)⟩, by rw [j_s]⟩
        rw [rd 4, mlv, if_neg (fun z => q2 z.2.2.2.2)]
    · rw [if_neg (by
        intro z
        simp only [Bool.and_eq_true, decide_eq_true_eq] at z
        exact q z)]
      refine ⟨(s, nI (i + 1)), ⟨rfl, ho, ext _ ?_ (fun _ _ _ => rfl)⟩, by rw [j_s]⟩
      rw [rd 4, mlv, if_neg (fun z => q ⟨z.2.2.1, z.2.2.2.1⟩)]
  · rintro n ⟨s, l⟩ ⟨rfl, ho, hv⟩
    show ∃ σ', fX9_leaves_24 462 (n + 1) s _ _ (nI 24) = some σ' ∧ _
    rw [fX9_leaves_24, if_pos (n_le 24 (m := 24) rfl (by decide))]
    refine ⟨s, rfl, ho, ?_⟩
    simp only at hv
    rw [hv]
    funext j m
    by_cases q : m < 24
    · rw [if_pos q]
    · rw [if_neg q, mlv, if_neg (fun z => q z.2.1)]
theorem FR.ofl {U : VW} {n : Nat} : FR U (mlv U n) := fun j hj => by
  funext i
  unfold mlv
  rw [if_neg (fun z => by omega), mu_ne (by omega)]
end MG
end
section
/-! THE RELATION: a pane goes, in the reference (2) -/
section MY
variable {σ : Sg} {V : VW} {d : Nat → Nat} {wn : Nat → Int}
theorem v_ta_m1 {V : VW} {g : Nat} (h : Nmb 12 (fun p => decide (V 13 p = g)) (V 14)) {k : Nat} (hk : v_tc V g ≤ k) : v_ta V g k = -1 := by
  rcases v_ta_sp V g k with a | ⟨q, a, b, c, e⟩
  · exact a
  · have := h.1 q a (by simp [c])
    unfold v_tc at hk
    omega
theorem v_ta_ex {V : VW} {g : Nat} (h : Nmb 12 (fun p => decide (V 13 p = g)) (V 14)) {k : Nat} (hk : k < v_tc V g) : ∃ q : Nat, q < 12 ∧ v_ta V g k = q ∧ V 13 q = g ∧ V 14 q = k := by
  obtain ⟨q, a, b, c⟩ := h.2.1 k hk
  rw [decide_eq_true_eq] at b
  exact ⟨q, a, by rw [← c]; exact v_ta_at h a b, b, c⟩
/-- shown, with p taken as hidden -/
theorem ok_hid {V : VW} {p : Nat} (hp : p < 12) {g k q : Nat} (ht : v_ta V g k = q) (hq : q < 12) : v_ok (up V 15 p 1) g k = (decide (q ≠ p) && decide (V 15 q ≠ 1)) := by
  have e : v_ta (up V 15 p 1) g k = q := by
    have h13 : (up V 15 p 1) 13 = V 13 := up_ne (by decide)
    have h14 : (up V 15 p 1) 14 = V 14 := up_ne (by decide)
    rw [← ht]
    unfold v_ta
    rw [h13, h14]
  unfold v_ok
  rw [e, v_hd_in hq, up15 hp]
  have : ¬ (q : Int) = -1 := by omega
  by_cases z : q = p
  · simp [z]
  · simp [z, this]
theorem m_yields (h : VM (mv (σ.1 463)) V (fun _ => false)) (tb : Tabs V (fun _ => false)) {a : Int32} {p g : Nat} (ha : a.toInt = p) (hp : p < 12) (hg : V 13 p = g) : Mo (fX9_yields σ 462 a) σ (if V 12 g = p then mu (mv (σ.1 463)) 5 g (v_ai (up V 15 p 1) g (V 14 p)) else mv (σ.1 463)) := by
  obtain ⟨g1, g2⟩ := tb.g2 hp hg
  have nu := tb.nu g1 g2
  have spp := nu.1 p hp (by simp [hg])
  have tc12 : v_tc V g ≤ 12 := cnt_le _ 12
  have tcp : (V 14 p) < v_tc V g := spp.2
  have eg : (oI (g : Int)).toInt = g := j_oI (by omega) (by omega)
  unfold Mo fX9_yields
  rw [m_o3 ha hp, j_b, h.gr hp, hg, m_i5 eg (by omega), j_b, h.ac g1 g2 rfl]
  have a12 : -1 ≤ V 12 g ∧ V 12 g < 12 := by
    rcases (tb.fu g1 g2 rfl).2 with ⟨x, _⟩ | ⟨c, c1, c2, _⟩ <;> omega
  by_cases q : V 12 g = p
  · rw [if_pos (by rw [j_eq, j_oI (by omega) (by omega), ha]; exact q), if_pos q, m_tabMany, j_b, eg, h.tc]
    have e10 : mv (σ.1 463) 10 p = V 14 p := h.sp hp (by omega)
    -- what next is before spot k
    have N0 : ∀ k : Nat, k ≤ v_tc V g → ((v_tc V g : Nat) : Int) = (oI (v_tc V g)).toInt := fun k _ => (t_tc V g).symm
    obtain ⟨ok, hok⟩ : ∃ f : Nat → Bool, f = v_ok (up V 15 p 1) g := ⟨_, rfl⟩
    obtain ⟨nx, hnx⟩ : ∃ f : Nat → Int, ∀ k, f k = if lst ok k = -1 then -1 else v_ta V g (lst ok k) := ⟨_, fun _ => rfl⟩
    have okv : ∀ k, k < v_tc V g → ∃ q : Nat, q < 12 ∧ v_ta V g k = q ∧ V 13 q = g ∧ V 14 q = k ∧ ok k = (decide (q ≠ p) && decide (V 15 q ≠ 1)) := fun k hk => by
      obtain ⟨q, q1, q2, q3, q4⟩ := v_ta_ex nu hk
      exact ⟨q, q1, q2, q3, q4, by rw [hok]; exact ok_hid hp q2 q1⟩
    have okno : ∀ k, v_tc V g ≤ k → ok k = false := fun k hk => by
      have h13 : (up V 15 p 1) 13 = V 13 := up_ne (by decide)
      have h14 : (up V 15 p 1) 14 = V 14 := up_ne (by decide)
      have e : v_ta (up V 15 p 1) g k = -1 := by
        have := v_ta_m1 nu hk
        unfold v_ta at this ⊢
        rw [h13, h14]
        exact this
      rw [hok]
      unfold v_ok
      rw [e]
      simp
    have taV : ∀ k : Int, v_ta (up V 15 p 1) g k = v_ta V g k := fun k => by
      have h13 : (up V 15 p 1) 13 = V 13 := up_ne (by decide)
      have h14 : (up V 15 p 1) 14 = V 14 := up_ne (by decide)
      unfold v_ta
      rw [h13, h14]
    obtain ⟨s, hs⟩ : ∃ s : Nat, V 14 p = s := ⟨(V 14 p).toNat, by omega⟩
    rw [hs] at e10
    obtain ⟨cur, hcur⟩ : ∃ f : Nat → Int, ∀ i, f i = if i ≤ s then nx i else nx s := ⟨_, fun _ => rfl⟩
    have AI : ∀ r : Int, ((fnd (fun k => decide ((s : Int) < k) && ok k) 12 = -1 ∧ r = nx s) ∨ ∃ k : Nat, k < 12 ∧ fnd (fun k => decide ((s : Int) < k) && ok k) 12 = k ∧ r = v_ta V g k) → r = v_ai (up V 15 p 1) g (V 14 p) := fun r hr => by
      rw [hs]
      unfold v_ai
      rw [← hok]
      rcases hr with ⟨x, y⟩ | ⟨k, k1, x, y⟩
      · rw [x, if_pos rfl, y, hnx, Int.toNat_natCast, taV]
      · rw [x, if_neg (by omega), y, taV]
    have LS : ∀ k, lst ok (k + 1) = if ok k then (k : Int) else lst ok k := fun k => rfl
    have fin : ∀ r : Int, -1 ≤ r ∧ r < 12 → r = v_ai (up V 15 p 1) g (V 14 p) → ∃ σ', fX9_yields_108 462 σ (oI (g : Int)) (oI r) = some σ' ∧ Out σ σ' 463 463 ∧ mv (σ'.1 463) = mu (mv (σ.1 463)) 5 g (v_ai (up V 15 p 1) g (V 14 p)) := fun r hr er => by
      obtain ⟨σ1, a1, o1, v1⟩ := m_l5 (σ := σ) eg (by omega : g < 24) (oI r)
      unfold fX9_yields_108
      rw [a1, j_b]
      exact ⟨σ1, rfl, o1, by rw [v1, j_oI (by omega) (by omega), er]⟩
    have nxr : ∀ k, -1 ≤ nx k ∧ nx k < 12 := fun k => by
      rw [hnx]
      split
      · omega
      · exact v_ta_rg _ _ _
    refine lpx (F := fun n (t : Int32 × Int32) => fX9_yields_30 462 n σ a (oI (g : Int)) t.1 (oI (v_tc V g)) t.2) (Q := fun r => ∃ σ', r = some σ' ∧ Out σ σ' 463 463 ∧ mv (σ'.1 463) = mu (mv (σ.1 463)) 5 g (v_ai (up V 15 p 1) g (V 14 p))) (fun i t => t = (oI (cur i), nI i) ∧ ∀ k, s < k → k < i → ok k = false) (v_tc V g) ?_ ?_ (v_tc V g) 0 FU (-1, 0) (Nat.zero_add _) (by show _ < 6000; omega) ⟨by
        rw [hcur, if_pos (Nat.zero_le _), hnx]
        rfl, fun k _ hk => absurd hk (by omega)⟩
    · rintro n i _ hi ⟨rfl, hno⟩
      obtain ⟨q, q1, q2, q3, q4, q5⟩ := okv i hi
      have eq : (oI (q : Int)).toInt = q := j_oI (by omega) (by omega)
      show (∃ σ', fX9_yields_30 462 (n + 1) σ a (oI (g : Int)) (oI (cur i)) (oI (v_tc V g)) (nI i) = some σ' ∧ _) ∨ _
      rw [fX9_yields_30, if_neg (by rw [j_le, t_tc, j_nI (by omega)]; omega), m_tabAt, j_b, eg, j_nI (by omega), h.ta (by omega), q2]
      unfold fX9_yields_66 fX9_yields_67 fX9_yields_91 fX9_yields_102
      have e11 : mv (σ.1 463) 11 q = V 15 q := h.hi q1
      have hq01 := tb.hi q1
      by_cases z : q = p
      · -- the pane itself
        have is : i = s := by rw [z] at q4; omega
        right
        rw [if_pos (by rw [j_eq, eq, ha, z]), if_pos rfl, if_pos rfl]
        have oki : ok i = false := by rw [q5]; simp [z]
        refine ⟨_, ⟨rfl, fun k k1 k2 => ?_⟩, ?_⟩
        · omega
        · show fX9_yields_30 462 n σ a (oI (g : Int)) _ (oI (v_tc V g)) (nI i + 1) = fX9_yields_30 462 n σ a (oI (g : Int)) (oI (cur (i + 1))) (oI (v_tc V g)) (nI (i + 1))
          rw [j_s, hcur, hcur, if_pos (by omega), if_neg (by omega), is]
      · rw [if_neg (by rw [j_eq, eq, ha]; omega), m_o5 eq q1, j_b, e11]
        by_cases y : V 15 q = 0
        · have oki : ok i = true := by rw [q5]; simp [z, y]
          rw [if_pos (by rw [y]; rfl), if_neg (by decide), m_o4 ha hp, j_b, e10]
          by_cases w : (s : Int) ≤ i
          · -- the first one behind
            left
            rw [if_pos (by rw [j_le, j_oI (by omega) (by omega), j_nI (by omega)]; exact w), if_neg (by decide)]
            have ns : s ≠ i := fun x => z (by
              have := nu.2.2 q p q1 hp (by simp [q3]) (by simp [hg]) (by omega)
              exact this)
            refine fin q (by omega) (AI q (Or.inr ⟨i, by omega, fnd_at (by omega) (by simp [oki]; omega) (fun k hk => ?_), q2.symm⟩))
            by_cases x : (s : Int) < k
            · simp [hno k (by omega) hk]
            · simp [x]
          · -- one before
            right
            rw [if_neg (by rw [j_le, j_oI (by omega) (by omega), j_nI (by omega)]; exact w)]
            refine ⟨_, ⟨rfl, fun k k1 k2 => by omega⟩, ?_⟩
            show fX9_yields_30 462 n σ a (oI (g : Int)) _ (oI (v_tc V g)) (nI i + 1) = fX9_yields_30 462 n σ a (oI (g : Int)) (oI (cur (i + 1))) (oI (v_tc V g)) (nI (i + 1))
            have : nx (i + 1) = q := by
              rw [hnx, LS, oki, if_pos rfl, if_neg (by omega), q2]
            rw [j_s, hcur, if_pos (by omega), this]
        · have y1 : V 15 q = 1 := by omega
          have oki : ok i = false := by rw [q5]; simp [y1]
          right
          rw [if_neg (by rw [y1]; decide), if_pos rfl, if_pos rfl]
          refine ⟨_, ⟨rfl, fun k k1 k2 => ?_⟩, ?_⟩
          · by_cases x : k = i
            · rw [x]; exact oki
            · exact hno k k1 (by omega)
          · show fX9_yields_30 462 n σ a (oI (g : Int)) _ (oI (v_tc V g)) (nI i + 1) = fX9_yields_30 462 n σ a (oI (g : Int)) (oI (cur (i + 1))) (oI (v_tc V g)) (nI (i + 1))
            rw [j_s, hcur, hcur]
            by_cases w : i + 1 ≤ s
            · have : nx (i + 1) = nx i := by
                rw [hnx, hnx, LS, oki, if_neg (show ¬ (false = true) by decide)]
              rw [if_pos (by omega), if_pos w, this]
            · by_cases w2 : i ≤ s
              · have : i = s := by omega
                rw [if_pos w2, if_neg w, this]
              · rw [if_neg w2, if_neg w]
    · rintro n _ ⟨rfl, hno⟩
      show ∃ σ', fX9_yields_30 462 (n + 1) σ a (oI (g : Int)) (oI (cur (v_tc V g))) (oI (v_tc V g)) (nI (v_tc V g)) = some σ' ∧ _
      rw [fX9_yields_30, if_pos (by rw [j_le, t_tc, j_nI (by omega)]; omega), hcur, if_neg (by omega)]
      refine fin _ (nxr s) (AI _ (Or.inl ⟨fnd_no (fun k hk => ?_), rfl⟩))
      by_cases x : (s : Int) < k
      · by_cases x2 : k < v_tc V g
        · simp [hno k (by omega) x2]
        · simp [okno k (by omega)]
      · simp [x]
  · rw [if_neg (by rw [j_eq, j_oI (by omega) (by omega), ha]; exact q), if_neg q]
    exact ⟨σ, rfl, Out.rf, rfl⟩
end MY
end
