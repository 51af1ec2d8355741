/-! ===== longs as numbers without sign ===== -/
def un_ (x : Int64) : Nat := x.toBitVec.toNat
theorem un_lt (x : Int64) : un_ x < 2 ^ 64 := x.toBitVec.isLt
theorem un_inj {x y : Int64} (h : un_ x = un_ y) : x = y := by
  have h1 : x.toBitVec = y.toBitVec := BitVec.eq_of_toNat_eq h
  exact Int64.toBitVec_inj.mp h1
theorem un_and (x y : Int64) : un_ (x &&& y) = un_ x &&& un_ y := by simp [un_]
theorem un_or (x y : Int64) : un_ (x ||| y) = un_ x ||| un_ y := by simp [un_]
theorem un_xor (x y : Int64) : un_ (x ^^^ y) = un_ x ^^^ un_ y := by simp [un_]
theorem un_add (x y : Int64) : un_ (x + y) = (un_ x + un_ y) % 2 ^ 64 := by simp [un_]
theorem un_sub (x y : Int64) : un_ (x - y) = (2 ^ 64 - un_ y + un_ x) % 2 ^ 64 := by simp [un_, BitVec.toNat_sub]
theorem un_mul (x y : Int64) : un_ (x * y) = (un_ x * un_ y) % 2 ^ 64 := by simp [un_]
theorem un_0 : un_ 0 = 0 := by decide
theorem un_1 : un_ 1 = 1 := by decide
theorem un_m1 : un_ (-1) = 2 ^ 64 - 1 := by decide
theorem un_eq0 (x : Int64) : x = 0 ↔ un_ x = 0 := ⟨fun h => by rw [h, un_0], fun h => un_inj (by rw [h, un_0])⟩
theorem un_lN (n : Nat) : un_ (lN n) = n % 2 ^ 64 := by
  show (BitVec.ofNat 64 n).toNat = _
  rw [BitVec.toNat_ofNat]
theorem un_of (x : Int64) : lN (un_ x) = x := un_inj (by rw [un_lN, Nat.mod_eq_of_lt (un_lt x)])
theorem un_not (x : Int64) : un_ (x ^^^ (-1)) = 2 ^ 64 - 1 - un_ x := by
  rw [un_xor, un_m1]
  have h := un_lt x
  apply Nat.eq_of_testBit_eq
  intro i
  rw [Nat.testBit_xor, Nat.testBit_two_pow_sub_one]
  by_cases hi : i < 64
  · rw [show 2 ^ 64 - 1 - un_ x = 2 ^ 64 - (un_ x + 1) by omega, Nat.testBit_two_pow_sub_succ h]
    simp [hi]
  · rw [Nat.testBit_lt_two_pow (Nat.lt_of_lt_of_le h (Nat.pow_le_pow_right (by decide) (by omega))), Nat.testBit_lt_two_pow (show 2 ^ 64 - 1 - un_ x < 2 ^ i from Nat.lt_of_lt_of_le (by omega) (Nat.pow_le_pow_right (by decide) (show 64 ≤ i by omega)))]
    simp [hi]
theorem un_sc : ∀ k, k < 64 → ((nI k).toInt64.toUInt64 &&& Int64.toUInt64 63) = UInt64.ofNat k := by decide +kernel
theorem un_sl : ∀ k, k < 64 → ((nI k).toInt64 &&& 63) = lN k := by decide +kernel
theorem un_ushr (x : Int64) {i : Nat} (hi : i < 64) : un_ ((x.toUInt64 >>> ((nI i).toInt64.toUInt64 &&& Int64.toUInt64 63)).toInt64) = un_ x / 2 ^ i := by
  rw [un_sc i hi]
  have h1 : (x.toUInt64 >>> UInt64.ofNat i).toNat = x.toUInt64.toNat / 2 ^ i := by
    rw [UInt64.toNat_shiftRight, Nat.shiftRight_eq_div_pow]
    congr 2
    simp
    omega
  exact h1
theorem un_sm : ∀ k, k < 64 → (BitVec.ofNat 64 k).smod 64 = BitVec.ofNat 64 k := by decide +kernel
theorem un_shll (x : Int64) {i : Nat} (hi : i < 64) : un_ (x <<< ((nI i).toInt64 &&& 63)) = un_ x * 2 ^ i % 2 ^ 64 := by
  rw [un_sl i hi]
  show (x <<< lN i).toBitVec.toNat = _
  rw [Int64.toBitVec_shiftLeft, show (lN i).toBitVec = BitVec.ofNat 64 i from rfl, un_sm i hi, BitVec.shiftLeft_eq', BitVec.toNat_shiftLeft, BitVec.toNat_ofNat, Nat.mod_eq_of_lt (show i < 2 ^ 64 by omega), Nat.shiftLeft_eq]
  rfl
