/-! THE RELATION: ints, counts, first finds, loops -/
theorem j_b {α β : Type} (a : α) (f : α → Option β) : Option.bind (some a) f = f a := Eq.trans rfl rfl
theorem j_xl {α β : Type} (v : α) (h : Nat → Option β) (f : α → Option β) : xcat (.inl v) h f = f v := Eq.trans rfl rfl
theorem j_xr {α β : Type} (e : Nat) (h : Nat → Option β) (f : α → Option β) : xcat (.inr e) h f = h e := Eq.trans rfl rfl
theorem j_nm {α β : Type} (x : α) (f : α → β) : nm x f = f x := Eq.trans rfl rfl
theorem j_le {a b : Int32} : a ≤ b ↔ a.toInt ≤ b.toInt := Int32.le_iff_toInt_le
theorem j_lt {a b : Int32} : a < b ↔ a.toInt < b.toInt := Int32.lt_iff_toInt_lt
theorem j_eq {a b : Int32} : a = b ↔ a.toInt = b.toInt := Int32.toInt_inj.symm
theorem j_lo (a : Int32) : -2147483648 ≤ a.toInt := Int32.le_toInt a
theorem j_hi (a : Int32) : a.toInt < 2147483648 := Int32.toInt_lt a
theorem j_add {a b : Int32} (h0 : -2147483648 ≤ a.toInt + b.toInt) (h1 : a.toInt + b.toInt < 2147483648) : (a + b).toInt = a.toInt + b.toInt := by
  rw [Int32.toInt_add, Int.bmod_def]
  split <;> omega
theorem j_sub {a b : Int32} (h0 : -2147483648 ≤ a.toInt - b.toInt) (h1 : a.toInt - b.toInt < 2147483648) : (a - b).toInt = a.toInt - b.toInt := by
  rw [Int32.toInt_sub, Int.bmod_def]
  split <;> omega
theorem j_mul {a b : Int32} (h0 : -2147483648 ≤ a.toInt * b.toInt) (h1 : a.toInt * b.toInt < 2147483648) : (a * b).toInt = a.toInt * b.toInt := by
  rw [Int32.toInt_mul, Int.bmod_def]
  split <;> omega
theorem j_nI {n : Nat} (h : n < 2147483648) : (nI n).toInt = n := by
  have e : ((Int32.size : Nat) : Int) = 4294967296 := rfl
  rw [show nI n = Int32.ofNat n from rfl, Int32.toInt_ofNat', Int.bmod_def, e]
  split <;> omega
theorem j_s (i : Nat) : nI i + 1 = nI (i + 1) := (Int32.ofNat_add i 1).symm
theorem j_a (i k : Nat) : nI i + nI k = nI (i + k) := (Int32.ofNat_add i k).symm
theorem j_0 : (0 : Int32) = nI 0 := rfl
theorem j_of {l : Int32} (h0 : 0 ≤ l.toInt) : l = nI l.toInt.toNat := by
  have := j_hi l
  refine j_eq.mpr ?_
  rw [j_nI (by omega)]
  omega
/-- an int of a whole number -/
abbrev oI (x : Int) : Int32 := Int32.ofInt x
theorem j_oI {x : Int} (h0 : -2147483648 ≤ x) (h1 : x < 2147483648) : (oI x).toInt = x := by
  rw [show oI x = Int32.ofInt x from rfl, Int32.toInt_ofInt, Int.bmod_def]
  have e : ((Int32.size : Nat) : Int) = 4294967296 := rfl
  rw [e]
  split <;> omega
theorem j_oIt (a : Int32) : oI a.toInt = a := j_eq.mpr (j_oI (j_lo a) (j_hi a))
theorem j_nIo (n : Nat) (h : n < 2147483648) : nI n = oI n := by
  refine j_eq.mpr ?_
  rw [j_nI h, j_oI (by omega) (by omega)]
theorem j_oe {x y : Int} (h0 : -2147483648 ≤ x) (h1 : x < 2147483648) (h2 : -2147483648 ≤ y) (h3 : y < 2147483648) : oI x = oI y ↔ x = y := by
  rw [j_eq, j_oI h0 h1, j_oI h2 h3]
theorem j_le_nI {a : Int32} {i : Nat} (h : i < 2147483648) : a ≤ nI i ↔ a.toInt ≤ i := by rw [j_le, j_nI h]
theorem j_lt_nI {a : Int32} {i : Nat} (h : i < 2147483648) : a < nI i ↔ a.toInt < i := by rw [j_lt, j_nI h]
theorem j_nI_le {a : Int32} {i : Nat} (h : i < 2147483648) : nI i ≤ a ↔ (i : Int) ≤ a.toInt := by rw [j_le, j_nI h]
theorem j_nI_lt {a : Int32} {i : Nat} (h : i < 2147483648) : nI i < a ↔ (i : Int) < a.toInt := by rw [j_lt, j_nI h]
theorem j_inj {i k : Nat} (hi : i < 2147483648) (hk : k < 2147483648) : nI i = nI k ↔ i = k := by
  rw [j_eq, j_nI hi, j_nI hk]
  omega
theorem j_cl (n : Nat) (h : n < 2147483648) : (nI n).toNatClampNeg = n := by
  show (nI n).toInt.toNat = n
  rw [j_nI h]
  omega
theorem j_ck {i : Int32} {n : Nat} : ck i n ↔ 0 ≤ i.toInt ∧ i.toInt < n := by
  have e : i.toNatClampNeg = i.toInt.toNat := rfl
  have z : (0 : Int32).toInt = 0 := rfl
  unfold ck
  rw [j_lt, e, z]
  omega
theorem j_ckn {i n : Nat} (hi : i < n) (h : n < 2147483648) : ck (nI i) n := by
  rw [j_ck, j_nI (by omega)]
  omega
/-! how many below n -/
def cnt (c : Nat → Bool) : Nat → Nat
  | 0 => 0
  | n + 1 => cnt c n + (if c n then 1 else 0)
theorem cnt_le (c : Nat → Bool) : ∀ n, cnt c n ≤ n
  | 0 => Nat.le_refl 0
  | n + 1 => by
    have := cnt_le c n
    show cnt c n + (if c n then 1 else 0) ≤ n + 1
    split <;> omega
theorem cnt_congr {c d : Nat → Bool} : ∀ {n : Nat}, (∀ i, i < n → c i = d i) → cnt c n = cnt d n
  | 0, _ => rfl
  | n + 1, h => by
    show cnt c n + _ = cnt d n + _
    rw [cnt_congr (fun i hi => h i (by omega)), h n (by omega)]
theorem cnt_mono {c d : Nat → Bool} : ∀ {n : Nat}, (∀ i, i < n → c i = true → d i = true) → cnt c n ≤ cnt d n
  | 0, _ => Nat.le_refl 0
  | n + 1, h => by
    have h1 := cnt_mono (c := c) (d := d) (n := n) (fun i hi => h i (by omega))
    have h2 := h n (by omega)
    show cnt c n + _ ≤ cnt d n + _
    cases hc : c n
    · simp; omega
    · rw [h2 hc]; simp; omega
theorem cnt_zero {c : Nat → Bool} : ∀ {n : Nat}, cnt c n = 0 ↔ ∀ i, i < n → c i = false
  | 0 => ⟨fun _ i hi => absurd hi (by omega), fun _ => rfl⟩
  | n + 1 => by
    have h1 := cnt_zero (c := c) (n := n)
    show cnt c n + (if c n then 1 else 0) = 0 ↔ _
    constructor
    · intro h i hi
      cases hc : c n
      · rw [hc] at h
        by_cases e : i = n
        · rw [e]; exact hc
        · exact h1.mp (by simpa using h) i (by omega)
      · rw [hc] at h; simp at h
    · intro h
      rw [h n (by omega), h1.mpr (fun i hi => h i (by omega))]
      rfl
theorem cnt_pos {c : Nat → Bool} {n i : Nat} (hi : i < n) (h : c i = true) : 1 ≤ cnt c n := by
  rcases Nat.eq_zero_or_pos (cnt c n) with e | e
  · rw [cnt_zero.mp e i hi] at h; cases h
  · exact e
theorem cnt_ex {c : Nat → Bool} {n : Nat} (h : 1 ≤ cnt c n) : ∃ i, i < n ∧ c i = true := by
  refine Classical.byContradiction (fun q => ?_)
  have : cnt c n = 0 := cnt_zero.mpr (fun i hi => by
    cases hc : c i
    · rfl
    · exact absurd ⟨i, hi, hc⟩ q)
  omega
/-- one place more -/
theorem cnt_one_more {c d : Nat → Bool} {i0 : Nat} : ∀ {n : Nat}, i0 < n → (∀ i, i < n → i ≠ i0 → c i = d i) → c i0 = false → d i0 = true → cnt d n = cnt c n + 1
  | 0, hi, _, _, _ => absurd hi (by omega)
  | n + 1, hi, h, hc, hd => by
    show cnt d n + (if d n then 1 else 0) = cnt c n + (if c n then 1 else 0) + 1
    by_cases e : i0 = n
    · subst e
      rw [hc, hd, cnt_congr (c := c) (d := d) (fun i hi => h i (by omega) (by omega))]
      simp
    · rw [cnt_one_more (n := n) (by omega) (fun i hi => h i (by omega)) hc hd, h n (by omega) (fun q => e q.symm)]
      omega
theorem cnt_two {c : Nat → Bool} {n i : Nat} (h : 2 ≤ cnt c n) (hi : i < n) (hc : c i = true) : ∃ k, k < n ∧ k ≠ i ∧ c k = true := by
  have h1 := cnt_one_more (c := fun k => c k && k != i) (d := c) (n := n) hi (fun k _ hk => by simp [hk]) (by simp) hc
  obtain ⟨k, hk, hk2⟩ := cnt_ex (c := fun k => c k && k != i) (n := n) (by omega)
  simp at hk2
  exact ⟨k, hk, hk2.2, hk2.1⟩
theorem cnt_uniq {c : Nat → Bool} {n i k : Nat} (h : cnt c n ≤ 1) (hi : i < n) (hk : k < n) (hc : c i = true) (hd : c k = true) : i = k := by
  refine Classical.byContradiction (fun q => ?_)
  have h1 := cnt_one_more (c := fun m => c m && m != i) (d := c) (n := n) hi (fun m _ hm => by simp [hm]) (by simp) hc
  have h2 := cnt_pos (c := fun m => c m && m != i) (n := n) hk (by simp [hd]; exact fun e => q e.symm)
  omega
theorem cnt_ext {c d : Nat → Bool} {n : Nat} : ∀ (k : Nat), (∀ i, i < n → c i = d i) → (∀ i, n ≤ i → d i = false) → cnt d (n + k) = cnt c n
  | 0, h, _ => (cnt_congr h).symm
  | k + 1, h, h2 => by
    show cnt d (n + k) + (if d (n + k) then 1 else 0) = _
    rw [h2 (n + k) (by omega), cnt_ext k h h2]
    rfl
theorem cnt_split {c d e : Nat → Bool} : ∀ {n : Nat}, (∀ i, i < n → c i = (d i || e i) ∧ (d i && e i) = false) → cnt c n = cnt d n + cnt e n
  | 0, _ => rfl
  | n + 1, h => by
    have h1 := cnt_split (c := c) (d := d) (e := e) (n := n) (fun i hi => h i (by omega))
    obtain ⟨h2, h3⟩ := h n (by omega)
    show cnt c n + _ = cnt d n + _ + (cnt e n + _)
    rw [h1, h2]
    cases hd : d n <;> cases he : e n <;> simp [hd, he] at h3 ⊢ <;> omega
/-! sums below n -/
def sm (g : Nat → Int) : Nat → Int
  | 0 => 0
  | n + 1 => sm g n + g n
theorem sm_congr {g h : Nat → Int} : ∀ {n : Nat}, (∀ i, i < n → g i = h i) → sm g n = sm h n
  | 0, _ => rfl
  | n + 1, e => by
    show sm g n + _ = sm h n + _
    rw [sm_congr (fun i hi => e i (by omega)), e n (by omega)]
theorem sm_one {g h : Nat → Int} {i0 : Nat} : ∀ {n : Nat}, i0 < n → (∀ i, i < n → i ≠ i0 → g i = h i) → sm h n = sm g n + (h i0 - g i0)
  | 0, hi, _ => absurd hi (by omega)
  | n + 1, hi, e => by
    show sm h n + h n = sm g n + g n + _
    by_cases q : i0 = n
    · subst q
      rw [sm_congr (g := g) (h := h) (fun i hi => e i (by omega) (by omega))]
      omega
    · rw [sm_one (n := n) (by omega) (fun i hi => e i (by omega)), e n (by omega) (fun r => q r.symm)]
      omega
theorem sm_le {g h : Nat → Int} : ∀ {n : Nat}, (∀ i, i < n → g i ≤ h i) → sm g n ≤ sm h n
  | 0, _ => Int.le_refl 0
  | n + 1, e => by
    have h1 := sm_le (g := g) (h := h) (n := n) (fun i hi => e i (by omega))
    have h2 := e n (by omega)
    show sm g n + g n ≤ sm h n + h n
    omega
theorem sm_0 : ∀ (n : Nat), sm (fun _ => 0) n = 0
  | 0 => rfl
  | n + 1 => by
    show sm (fun _ => 0) n + 0 = 0
    rw [sm_0 n]
    rfl
theorem sm_add (g h : Nat → Int) : ∀ (n : Nat), sm (fun i => g i + h i) n = sm g n + sm h n
  | 0 => rfl
  | n + 1 => by
    show sm _ n + (g n + h n) = (sm g n + g n) + (sm h n + h n)
    rw [sm_add g h n]
    omega
theorem sm_cnt (c : Nat → Bool) : ∀ (n : Nat), sm (fun i => if c i then 1 else 0) n = cnt c n
  | 0 => rfl
  | n + 1 => by
    show sm _ n + (if c n then 1 else 0) = ((cnt c n + (if c n then 1 else 0) : Nat) : Int)
    rw [sm_cnt c n]
    split <;> omega
theorem sm_swap (g : Nat → Nat → Int) (m : Nat) : ∀ (n : Nat), sm (fun i => sm (g i) m) n = sm (fun k => sm (fun i => g i k) n) m
  | 0 => (sm_0 m).symm
  | n + 1 => by
    show sm (fun i => sm (g i) m) n + sm (g n) m = sm (fun k => sm (fun i => g i k) n + g n k) m
    rw [sm_add, sm_swap g m n]
theorem sm_ext {g h : Nat → Int} {n : Nat} : ∀ (k : Nat), (∀ i, i < n → g i = h i) → (∀ i, n ≤ i → h i = 0) → sm h (n + k) = sm g n
  | 0, e, _ => (sm_congr e).symm
  | k + 1, e, e2 => by
    show sm h (n + k) + h (n + k) = _
    rw [e2 (n + k) (by omega), sm_ext k e e2]
    omega
/-! the first below n; -1 -/
def fnd (c : Nat → Bool) : Nat → Int
  | 0 => -1
  | n + 1 => if 0 ≤ fnd c n then fnd c n else if c n then n else -1
theorem fnd_spec (c : Nat → Bool) : ∀ (n : Nat), (fnd c n = -1 ∧ ∀ i, i < n → c i = false) ∨ ∃ i : Nat, i < n ∧ fnd c n = i ∧ c i = true ∧ ∀ k, k < i → c k = false
  | 0 => Or.inl ⟨rfl, fun i hi => absurd hi (by omega)⟩
  | n + 1 => by
    unfold fnd
    rcases fnd_spec c n with ⟨h1, h2⟩ | ⟨i, h1, h2, h3, h4⟩
    · rw [h1, if_neg (by omega)]
      cases hc : c n
      · left
        refine ⟨by simp, fun i hi => ?_⟩
        by_cases e : i = n
        · rw [e]; exact hc
        · exact h2 i (by omega)
      · right
        exact ⟨n, by omega, by simp, hc, h2⟩
    · right
      rw [h2, if_pos (by omega)]
      exact ⟨i, by omega, rfl, h3, h4⟩
theorem fnd_rg (c : Nat → Bool) (n : Nat) : -1 ≤ fnd c n ∧ fnd c n < n := by
  rcases fnd_spec c n with ⟨h1, _⟩ | ⟨i, h1, h2, _⟩ <;> omega
theorem fnd_congr {c d : Nat → Bool} : ∀ {n : Nat}, (∀ i, i < n → c i = d i) → fnd c n = fnd d n
  | 0, _ => rfl
  | n + 1, h => by
    unfold fnd
    rw [fnd_congr (fun i hi => h i (by omega)), h n (by omega)]
theorem fnd_at {c : Nat → Bool} {n i : Nat} (hi : i < n) (hc : c i = true) (hl : ∀ k, k < i → c k = false) : fnd c n = i := by
  rcases fnd_spec c n with ⟨_, h2⟩ | ⟨k, h1, h2, h3, h4⟩
  · rw [h2 i hi] at hc; cases hc
  · rw [h2]
    have : k = i := by
      rcases Nat.lt_trichotomy k i with q | q | q
      · rw [hl k q] at h3; cases h3
      · exact q
      · rw [h4 i q] at hc; cases hc
    rw [this]
theorem fnd_un {c : Nat → Bool} {n i : Nat} (hi : i < n) (hc : c i = true) (hl : ∀ k, k < n → c k = true → k = i) : fnd c n = i :=
  fnd_at hi hc (fun k hk => by
    cases h : c k
    · rfl
    · exact absurd (hl k (by omega) h) (by omega))
theorem fnd_no {c : Nat → Bool} {n : Nat} (h : ∀ i, i < n → c i = false) : fnd c n = -1 := by
  rcases fnd_spec c n with ⟨h1, _⟩ | ⟨k, h1, _, h3, _⟩
  · exact h1
  · rw [h k h1] at h3; cases h3
theorem fnd_ext {c d : Nat → Bool} {n : Nat} : ∀ (k : Nat), (∀ i, i < n → c i = d i) → (∀ i, n ≤ i → d i = false) → fnd d (n + k) = fnd c n
  | 0, h, _ => (fnd_congr h).symm
  | k + 1, h, h2 => by
    show (if 0 ≤ fnd d (n + k) then fnd d (n + k) else if d (n + k) then _ else -1) = _
    rw [h2 (n + k) (by omega), fnd_ext k h h2]
    have := fnd_rg c n
    simp
    omega
/-! pigeons -/
theorem pigeon : ∀ (m : Nat) (f : Nat → Nat), (∀ i, i < m + 1 → f i < m) → ∃ i k, i < k ∧ k < m + 1 ∧ f i = f k
  | 0, f, h => absurd (h 0 (by omega)) (by omega)
  | m + 1, f, h => by
    by_cases e : ∃ i, i < m + 1 ∧ f i = f (m + 1)
    · obtain ⟨i, h1, h2⟩ := e
      exact ⟨i, m + 1, h1, by omega, h2⟩
    · obtain ⟨i, k, h1, h2, h3⟩ := pigeon m (fun i => if f i = m then f (m + 1) else f i) (fun i hi => by
        have h1 := h i (by omega)
        have h2 := h (m + 1) (by omega)
        have h3 : f i ≠ f (m + 1) := fun q => e ⟨i, hi, q⟩
        show (if f i = m then f (m + 1) else f i) < m
        split <;> omega)
      refine ⟨i, k, h1, by omega, ?_⟩
      have a := h i (by omega)
      have b := h k (by omega)
      have c1 : f i ≠ f (m + 1) := fun q => e ⟨i, by omega, q⟩
      have c2 : f k ≠ f (m + 1) := fun q => e ⟨k, by omega, q⟩
      revert h3
      show (if f i = m then f (m + 1) else f i) = (if f k = m then f (m + 1) else f k) → _
      split <;> split <;> intro h3 <;> omega
/-! loops -/
theorem lp {S R : Type} {F : Nat → S → Option R} {Q : Option R → Prop} (P : Nat → S → Prop) (N : Nat) (hs : ∀ n i s, i < N → P i s → ∃ s', P (i + 1) s' ∧ F (n + 1) s = F n s') (he : ∀ n s, P N s → Q (F (n + 1) s)) : ∀ (k i fuel : Nat) (s : S), i + k = N → k < fuel → P i s → Q (F fuel s)
  | 0, i, 0, _, _, hf, _ => absurd hf (by omega)
  | 0, i, f + 1, s, hk, _, hp => he f s (by rw [← hk]; exact hp)
  | k + 1, i, 0, _, _, hf, _ => absurd hf (by omega)
  | k + 1, i, f + 1, s, hk, hf, hp => by
    obtain ⟨s', h1, h2⟩ := hs f i s (by omega) hp
    rw [h2]
    exact lp P N hs he k (i + 1) f s' (by omega) (by omega) h1
/-- a loop that may end earlier -/
theorem lpx {S R : Type} {F : Nat → S → Option R} {Q : Option R → Prop} (P : Nat → S → Prop) (N : Nat) (hs : ∀ n i s, i < N → P i s → Q (F (n + 1) s) ∨ ∃ s', P (i + 1) s' ∧ F (n + 1) s = F n s') (he : ∀ n s, P N s → Q (F (n + 1) s)) : ∀ (k i fuel : Nat) (s : S), i + k = N → k < fuel → P i s → Q (F fuel s)
  | 0, i, 0, _, _, hf, _ => absurd hf (by omega)
  | 0, i, f + 1, s, hk, _, hp => he f s (by rw [← hk]; exact hp)
  | k + 1, i, 0, _, _, hf, _ => absurd hf (by omega)
  | k + 1, i, f + 1, s, hk, hf, hp => by
    rcases hs f i s (by omega) hp with h | ⟨s', h1, h2⟩
    · exact h
    · rw [h2]
      exact lpx P N hs he k (i + 1) f s' (by omega) (by omega) h1
theorem lp_cnt {F : Nat → Int32 → Int32 → Option Int32} {c : Nat → Bool} (N : Nat) (hs : ∀ n a i, i < N → F (n + 1) a (nI i) = F n (a + (if c i then 1 else 0)) (nI (i + 1))) (he : ∀ n a, F (n + 1) a (nI N) = some a) (fuel : Nat) (hf : N < fuel) : F fuel 0 0 = some (nI (cnt c N)) := by
  refine lp (F := fun n (s : Int32 × Int32) => F n s.1 s.2) (Q := fun r => r = some (nI (cnt c N))) (fun i s => s = (nI (cnt c i), nI i)) N ?_ ?_ N 0 fuel (0, 0) (by omega) hf rfl
  · rintro n i _ hi rfl
    refine ⟨_, rfl, ?_⟩
    show F (n + 1) (nI (cnt c i)) (nI i) = F n (nI (cnt c (i + 1))) (nI (i + 1))
    rw [hs n _ i hi]
    congr 1
    show nI (cnt c i) + _ = nI (cnt c i + _)
    split
    · exact j_s _
    · exact Int32.add_zero _
  · rintro n _ rfl
    exact he n _
theorem lp_fnd {F : Nat → Int32 → Option Int32} {c : Nat → Bool} (N : Nat) (hN : N < 2147483648) (hs : ∀ n i, i < N → F (n + 1) (nI i) = if c i then some (nI i) else F n (nI (i + 1))) (he : ∀ n, F (n + 1) (nI N) = some (-1)) (fuel : Nat) (hf : N < fuel) : F fuel 0 = some (oI (fnd c N)) := by
  refine lpx (F := fun n (s : Int32) => F n s) (Q := fun r => r = some (oI (fnd c N))) (fun i s => s = nI i ∧ ∀ k, k < i → c k = false) N ?_ ?_ N 0 fuel 0 (by omega) hf ⟨rfl, fun k hk => absurd hk (by omega)⟩
  · rintro n i _ hi ⟨rfl, hl⟩
    have h := hs n i hi
    cases hc : c i
    · right
      rw [hc] at h
      refine ⟨_, ⟨rfl, fun k hk => ?_⟩, h⟩
      by_cases e : k = i
      · rw [e]; exact hc
      · exact hl k (by omega)
    · left
      rw [hc] at h
      show F (n + 1) (nI i) = _
      rw [h, fnd_at hi hc hl, j_nIo i (by omega)]
      rfl
  · rintro n _ ⟨rfl, hl⟩
    show F (n + 1) (nI N) = _
    rw [he n, fnd_no hl]
    rfl
