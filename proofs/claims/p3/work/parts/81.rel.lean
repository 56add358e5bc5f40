/-! THE RELATION: the set of panes -/
theorem nb (m : Nat) : (nI m).toBitVec = BitVec.ofNat 32 m := rfl
theorem ni_and (a b : Nat) : nI a &&& nI b = nI (a &&& b) := Int32.toBitVec_inj.1 (by
  rw [Int32.toBitVec_and, nb, nb, nb, BitVec.ofNat_and])
theorem ni_or (a b : Nat) : nI a ||| nI b = nI (a ||| b) := Int32.toBitVec_inj.1 (by
  rw [Int32.toBitVec_or, nb, nb, nb, BitVec.ofNat_or])
theorem sh_amt : ∀ p, p < 32 → ((nI p &&& 31).toBitVec.smod 32) = BitVec.ofNat 32 p := by decide +kernel
theorem ni_shr {m p : Nat} (hm : m < 2147483648) (hp : p < 32) : nI m >>> (nI p &&& 31) = nI (m >>> p) := Int32.toBitVec_inj.1 (by
  rw [Int32.toBitVec_shiftRight, sh_amt p hp, nb, nb]
  have hmsb : (BitVec.ofNat 32 m).msb = false := by
    rw [BitVec.msb_eq_decide, decide_eq_false_iff_not, BitVec.toNat_ofNat]
    omega
  show (BitVec.ofNat 32 m).sshiftRight (BitVec.ofNat 32 p).toNat = _
  rw [BitVec.sshiftRight_eq_of_msb_false hmsb, BitVec.toNat_ofNat, Nat.mod_eq_of_lt (by omega)]
  refine BitVec.eq_of_toNat_eq ?_
  rw [BitVec.toNat_ushiftRight, BitVec.toNat_ofNat, BitVec.toNat_ofNat, Nat.mod_eq_of_lt (by omega), Nat.mod_eq_of_lt]
  have := Nat.shiftRight_le m p
  omega)
theorem ni_bit : ∀ p, p < 12 → (1 : Int32) <<< (nI p &&& 31) = nI (2 ^ p) := by decide +kernel
theorem ni_not : ∀ p, p < 12 → (nI (2 ^ p) ^^^ (-1)) = nI (4294967295 - 2 ^ p) := by decide +kernel
theorem and_low : ∀ p, p < 12 → ∀ j, j < 12 → Nat.testBit (4294967295 - 2 ^ p) j = decide (j ≠ p) := by decide +kernel
theorem and_low2 : ∀ p, p < 12 → ∀ j, j < 12 → Nat.testBit (4095 - 2 ^ p) j = decide (j ≠ p) := by decide +kernel
theorem tb_hi {m j : Nat} (hm : m < 4096) (hj : 12 ≤ j) : Nat.testBit m j = false := Nat.testBit_lt_two_pow (by
  have : (2 : Nat) ^ 12 ≤ 2 ^ j := Nat.pow_le_pow_right (by decide) hj
  have e : (2 : Nat) ^ 12 = 4096 := by decide
  omega)
theorem bt_one {m p : Nat} (hm : m < 4096) (hp : p < 12) : ((nI m >>> (nI p &&& 31)) &&& 1) = nI (if Nat.testBit m p then 1 else 0) := by
  rw [ni_shr (by omega) (by omega), show (1 : Int32) = nI 1 from rfl, ni_and]
  congr 1
  unfold Nat.testBit
  rw [Nat.and_comm]
  have : 1 &&& m >>> p = 0 ∨ 1 &&& m >>> p = 1 := by
    rw [Nat.one_and_eq_mod_two]
    omega
  rcases this with h | h <;> rw [h] <;> decide
theorem bt_get {m p : Nat} (hm : m < 4096) (hp : p < 12) : decide (((nI m >>> (nI p &&& 31)) &&& 1) = 1) = Nat.testBit m p := by
  rw [bt_one hm hp]
  cases Nat.testBit m p <;> decide
theorem bt_or {m p : Nat} (hp : p < 12) : (nI m ||| (1 <<< (nI p &&& 31))) = nI (m ||| 2 ^ p) := by
  rw [ni_bit p hp, ni_or]
theorem bt_and {m p : Nat} (hm : m < 4096) (hp : p < 12) : (nI m &&& ((1 <<< (nI p &&& 31)) ^^^ (-1))) = nI (m &&& (4095 - 2 ^ p)) := by
  rw [ni_bit p hp, ni_not p hp, ni_and]
  congr 1
  refine Nat.eq_of_testBit_eq (fun j => ?_)
  rw [Nat.testBit_and, Nat.testBit_and]
  by_cases hj : j < 12
  · rw [and_low p hp j hj, and_low2 p hp j hj]
  · rw [tb_hi hm (by omega)]
    rfl
theorem mk4 : ∀ a, a < 64 → ∀ b, b < 64 → fJ6_bitCount_0f7a4 (fun _ _ => 0, fun _ _ => 0) (nI (64 * a + b)) = some (nI (cnt (fun p => Nat.testBit (64 * a + b) p) 12)) := by decide +kernel
theorem bt_cnt (σ : Sg) {m : Nat} (hm : m < 4096) : fJ6_bitCount_0f7a4 σ (nI m) = some (nI (cnt (fun p => Nat.testBit m p) 12)) := by
  have := mk4 (m / 64) (by omega) (m % 64) (by omega)
  rwa [show 64 * (m / 64) + m % 64 = m by omega] at this
theorem or_lt {m p : Nat} (hm : m < 4096) (hp : p < 12) : m ||| 2 ^ p < 4096 := by
  have e : (4096 : Nat) = 2 ^ 12 := by decide
  rw [e]
  exact Nat.or_lt_two_pow (by omega) (Nat.pow_lt_pow_right (by decide) hp)
theorem and_lt {m k : Nat} (hm : m < 4096) : m &&& k < 4096 := Nat.lt_of_le_of_lt Nat.and_le_left hm
theorem or_bit {m p j : Nat} : Nat.testBit (m ||| 2 ^ p) j = (Nat.testBit m j || decide (j = p)) := by
  rw [Nat.testBit_or, Nat.testBit_two_pow]
  congr 1
  exact decide_eq_decide.mpr ⟨fun h => h.symm, fun h => h.symm⟩
theorem and_bit {m p j : Nat} (hm : m < 4096) (hp : p < 12) : Nat.testBit (m &&& (4095 - 2 ^ p)) j = (Nat.testBit m j && decide (j ≠ p)) := by
  rw [Nat.testBit_and]
  by_cases hj : j < 12
  · rw [and_low2 p hp j hj]
  · rw [tb_hi hm (by omega)]
    rfl
/-- the set of the panes that c names -/
def setn (c : Nat → Bool) : Nat → Nat
  | 0 => 0
  | n + 1 => if c n then setn c n ||| 2 ^ n else setn c n
theorem setn_bit (c : Nat → Bool) (j : Nat) : ∀ n, Nat.testBit (setn c n) j = (decide (j < n) && c j)
  | 0 => by
    show Nat.testBit 0 j = _
    rw [Nat.zero_testBit]
    rfl
  | n + 1 => by
    have h := setn_bit c j n
    unfold setn
    by_cases q : c n
    · rw [if_pos q, or_bit, h]
      by_cases e : j = n
      · subst e
        simp [q]
      · have : decide (j < n + 1) = decide (j < n) := decide_eq_decide.mpr (by omega)
        rw [this]
        simp [e]
    · rw [if_neg q, h]
      by_cases e : j = n
      · subst e
        simp [q]
      · have : decide (j < n + 1) = decide (j < n) := decide_eq_decide.mpr (by omega)
        rw [this]
theorem setn_eq {c : Nat → Bool} {m : Nat} (hm : m < 4096) (h : ∀ j, j < 12 → c j = Nat.testBit m j) : setn c 12 = m := by
  refine Nat.eq_of_testBit_eq (fun j => ?_)
  rw [setn_bit]
  by_cases hj : j < 12
  · simp [hj, h j hj]
  · rw [tb_hi hm (by omega)]
    simp [hj]
