/-! ===== moved rows as numbers ===== -/
theorem limb_pos {g : Nat → Int64} {n k : Nat} (hk : k < 2 ^ 31) (hn : n < 2 ^ 31) : km_limb g n (nI k) = if k < n then g k else 0 := by
  unfold km_limb
  rw [if_neg (nI_pos hk), nI_clamp hk]
  by_cases h : k < n
  · rw [if_pos h, if_neg ((nI_not hk hn).mpr h)]
  · rw [if_neg h, if_pos (nI_le (by omega) hk)]
theorem un_limb {g : Nat → Int64} {n V k : Nat} (h : rw_ g n V) (hk : k < 2 ^ 31) (hn : n < 2 ^ 31) : un_ (km_limb g n (nI k)) = V / 2 ^ (64 * k) % 2 ^ 64 := by
  rw [limb_pos hk hn]
  by_cases hkn : k < n
  · rw [if_pos hkn]; exact h.2 k hkn
  · rw [if_neg hkn, un_0, Nat.div_eq_of_lt (Nat.lt_of_lt_of_le h.1 (Nat.pow_le_pow_right (by decide) (by omega)))]
theorem limb_neg {g : Nat → Int64} {n : Nat} {x : Int32} (h : x < 0) : km_limb g n x = 0 := by unfold km_limb; rw [if_pos h]
theorem un_kush (x : Int64) {i : Nat} (hi : i < 64) : un_ (km_ush x (nI i)) = un_ x / 2 ^ i := un_ushr x hi
theorem un_kshl (x : Int64) {i : Nat} (hi : i < 64) : un_ (km_shl x (nI i)) = un_ x * 2 ^ i % 2 ^ 64 := un_shll x hi
theorem nI_sh6 {m : Nat} (hm : m < 2 ^ 31) : nI m >>> ((6 : Int32) &&& 31) = nI (m / 64) := pk_shrN hm _ 6 (by decide)
theorem nI_an6 {m : Nat} (hm : m < 2 ^ 32) : nI m &&& 63 = nI (m % 64) := pk_andN hm 6 (by decide)
theorem bits_pos {g : Nat → Int64} {n V m : Nat} (h : rw_ g n V) (hm : m < 2 ^ 24) (hn : n < 2 ^ 14) : un_ (km_bits g n (nI m)) = V / 2 ^ m % 2 ^ 64 := by
  unfold km_bits
  rw [nI_sh6 (by omega), nI_an6 (by omega)]
  have hz : nI (m % 64) = 0 ↔ m % 64 = 0 := by
    rw [← nI_0, nI_eq (by omega) (by omega)]
  by_cases c : m % 64 = 0
  · rw [if_pos (hz.mpr c), un_kush _ (by omega), un_limb h (by omega) (by omega), c, Nat.pow_zero, Nat.div_one, show 64 * (m / 64) = m by omega]
  · rw [if_neg (fun q => c (hz.mp q)), un_or, un_kush _ (by omega), un_limb h (by omega) (by omega), nI_1, show (64 : Int32) = nI 64 from rfl, pk_sub (by omega), un_kshl _ (by omega), un_limb h (by omega) (by omega)]
    apply Nat.eq_of_testBit_eq
    intro i
    rw [Nat.testBit_or, Nat.testBit_div_two_pow, Nat.testBit_mod_two_pow, Nat.testBit_div_two_pow, Nat.testBit_mod_two_pow, Nat.testBit_mul_two_pow, Nat.testBit_mod_two_pow, Nat.testBit_div_two_pow, Nat.testBit_mod_two_pow, Nat.testBit_div_two_pow]
    by_cases hi : i < 64
    · by_cases hl : i + m % 64 < 64
      · have e1 : decide (64 - m % 64 ≤ i) = false := decide_eq_false (by omega)
        rw [decide_eq_true hl, e1, decide_eq_true hi, show i + m % 64 + 64 * (m / 64) = i + m by omega]
        simp
      · have e1 : decide (64 - m % 64 ≤ i) = true := decide_eq_true (by omega)
        rw [decide_eq_false hl, e1, decide_eq_true hi, decide_eq_true (show i - (64 - m % 64) < 64 by omega), show i - (64 - m % 64) + 64 * (m / 64 + 1) = i + m by omega]
        simp
    · rw [decide_eq_false hi, decide_eq_false (show ¬ i + m % 64 < 64 by omega)]
      simp
theorem neg_toInt {m : Nat} (hm : m < 2 ^ 30) : (-nI m).toInt = -(m : Int) := sb_negT (by omega)
theorem i32_eq {x y : Int32} (h : x.toInt = y.toInt) : x = y := Int32.toInt_inj.mp h
theorem sh6_neg {m : Nat} (hm : m < 2 ^ 30) : ((-nI m) >>> ((6 : Int32) &&& 31)).toInt = -(((m + 63) / 64 : Nat) : Int) := by
  rw [pk_shr _ _ 6 (by decide), neg_toInt hm, Int.shiftRight_eq_div_pow]
  omega
theorem an6_neg {m : Nat} (hm : m < 2 ^ 30) : (-nI m) &&& 63 = nI ((64 - m % 64) % 64) := by
  rw [pk_and _ 6 (by decide)]
  have h1 : (-nI m).toInt = -(m : Int) := neg_toInt hm
  have h2 : (-nI m).toBitVec.toNat % 2 ^ 6 = (64 - m % 64) % 64 := by
    have h3 : (-nI m).toInt = (-nI m).toBitVec.toInt := rfl
    rw [h3, BitVec.toInt_eq_toNat_cond] at h1
    have h4 := (-nI m).toBitVec.isLt
    split at h1 <;> omega
  rw [h2]
theorem bits_neg {g : Nat → Int64} {n V m : Nat} (h : rw_ g n V) (h0 : 0 < n) (hm0 : 1 ≤ m) (hm : m < 2 ^ 24) (hn : n < 2 ^ 14) : un_ (km_bits g n (-nI m)) = V * 2 ^ m % 2 ^ 64 := by
  unfold km_bits
  rw [an6_neg (by omega)]
  have hq := sh6_neg (show m < 2 ^ 30 by omega)
  have hz : nI ((64 - m % 64) % 64) = 0 ↔ m % 64 = 0 := by
    rw [← nI_0, nI_eq (by omega) (by omega)]; omega
  have hneg : (-nI m) >>> ((6 : Int32) &&& 31) < 0 := by
    rw [Int32.lt_iff_toInt_lt, hq, Int32.toInt_zero]; omega
  have big : 64 ≤ m → V * 2 ^ m % 2 ^ 64 = 0 := fun hb => by
    rw [show m = 64 + (m - 64) by omega, Nat.pow_add, ← Nat.mul_assoc, Nat.mul_right_comm]
    exact Nat.mul_mod_left _ _
  by_cases c : m % 64 = 0
  · rw [if_pos (hz.mpr c), limb_neg hneg, un_kush _ (by omega), un_0, Nat.zero_div, big (by omega)]
  · rw [if_neg (fun q => c (hz.mp q)), un_or, limb_neg hneg, un_kush _ (by omega), un_0, Nat.zero_div, Nat.zero_or, show (64 : Int32) = nI 64 from rfl, pk_sub (by omega), un_kshl _ (by omega)]
    by_cases hs : m < 64
    · have e : (-nI m) >>> ((6 : Int32) &&& 31) + 1 = nI 0 := by
        have e1 : (-nI m) >>> ((6 : Int32) &&& 31) = -1 := i32_eq (by rw [hq, show (m + 63) / 64 = 1 by omega]; rfl)
        rw [e1]; rfl
      rw [e, un_limb h (by omega) (by omega), show 64 - (64 - m % 64) % 64 = m by omega]
      simp only [Nat.mul_zero, Nat.pow_zero, Nat.div_one]
      rw [Nat.mod_mul_mod]
    · have e : (-nI m) >>> ((6 : Int32) &&& 31) + 1 < 0 := by
        have e1 : (-nI m) >>> ((6 : Int32) &&& 31) = -nI ((m + 63) / 64) := i32_eq (by rw [hq, neg_toInt (by omega)])
        have e2 : -nI ((m + 63) / 64) + 1 = -nI ((m + 63) / 64 - 1) := by
          have e3 : nI ((m + 63) / 64) = nI ((m + 63) / 64 - 1) + 1 := by rw [nI_1]; congr 1; omega
          rw [e3, Int32.neg_add, Int32.sub_eq_add_neg, Int32.add_assoc]
          simp
        rw [e1, e2, Int32.lt_iff_toInt_lt, neg_toInt (by omega), Int32.toInt_zero]
        omega
      rw [limb_neg e, un_0, Nat.zero_mul, Nat.zero_mod, big (by omega)]
/-- a row moved up, in a row of no limbs -/
theorem rw_up {g g0 : Nat → Int64} {n no V s : Nat} (h : rw_ g n V) (h0 : 0 < n) (hn : n < 2 ^ 14) (hno : no < 2 ^ 14) (hs : s < 2 ^ 20) : rw_ (fun k => if k < no then km_bits g n (nI k * 64 - nI s) else g0 k) no (V * 2 ^ s % 2 ^ (64 * no)) := by
  refine ⟨Nat.mod_lt _ (Nat.two_pow_pos _), fun k hk => ?_⟩
  simp only [if_pos hk]
  have hV : V * 2 ^ s % 2 ^ (64 * no) / 2 ^ (64 * k) % 2 ^ 64 = V * 2 ^ s / 2 ^ (64 * k) % 2 ^ 64 := by
    apply Nat.eq_of_testBit_eq
    intro i
    rw [Nat.testBit_mod_two_pow, Nat.testBit_mod_two_pow, Nat.testBit_div_two_pow, Nat.testBit_div_two_pow, Nat.testBit_mod_two_pow]
    by_cases hi : i < 64
    · rw [decide_eq_true hi, decide_eq_true (show i + 64 * k < 64 * no by omega)]; simp
    · rw [decide_eq_false hi]; simp
  rw [hV, show (64 : Int32) = nI 64 from rfl, pk_mul]
  by_cases c : s ≤ k * 64
  · rw [pk_sub c, bits_pos h (by omega) hn]
    congr 1
    rw [show 64 * k = s + (k * 64 - s) by omega, Nat.pow_add, ← Nat.div_div_eq_div_mul, Nat.mul_div_cancel _ (Nat.two_pow_pos _)]
  · have e : nI (k * 64) - nI s = -nI (s - k * 64) := i32_eq (by rw [int_sub (by omega) (by omega), neg_toInt (by omega)]; omega)
    rw [e, bits_neg h h0 (by omega) (by omega) hn]
    congr 1
    have e2 : 2 ^ s = 2 ^ (s - k * 64) * 2 ^ (64 * k) := by rw [← Nat.pow_add]; congr 1; omega
    rw [e2, ← Nat.mul_assoc, Nat.mul_div_cancel _ (Nat.two_pow_pos _)]
/-- .. and down -/
theorem rw_down {g g0 : Nat → Int64} {n no V s : Nat} (h : rw_ g n V) (hn : n < 2 ^ 14) (hno : no < 2 ^ 14) (hs : s < 2 ^ 20) : rw_ (fun k => if k < no then km_bits g n (nI k * 64 - (-nI s)) else g0 k) no (V / 2 ^ s % 2 ^ (64 * no)) := by
  refine ⟨Nat.mod_lt _ (Nat.two_pow_pos _), fun k hk => ?_⟩
  simp only [if_pos hk]
  have hV : V / 2 ^ s % 2 ^ (64 * no) / 2 ^ (64 * k) % 2 ^ 64 = V / 2 ^ s / 2 ^ (64 * k) % 2 ^ 64 := by
    apply Nat.eq_of_testBit_eq
    intro i
    rw [Nat.testBit_mod_two_pow, Nat.testBit_mod_two_pow, Nat.testBit_div_two_pow, Nat.testBit_div_two_pow, Nat.testBit_mod_two_pow]
    by_cases hi : i < 64
    · rw [decide_eq_true hi, decide_eq_true (show i + 64 * k < 64 * no by omega)]; simp
    · rw [decide_eq_false hi]; simp
  rw [hV, show (64 : Int32) = nI 64 from rfl, pk_mul, Int32.sub_neg, nI_add, bits_pos h (by omega) hn, Nat.div_div_eq_div_mul, ← Nat.pow_add, show s + 64 * k = k * 64 + s by omega]
