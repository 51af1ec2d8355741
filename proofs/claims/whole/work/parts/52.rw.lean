/-! ===== a row of longs as one number ===== -/
/-- the first n limbs of g are those of V -/
def rw_ (g : Nat → Int64) (n V : Nat) : Prop := V < 2 ^ (64 * n) ∧ ∀ k, k < n → un_ (g k) = V / 2 ^ (64 * k) % 2 ^ 64
theorem rw_get {g : Nat → Int64} {n V k : Nat} (h : rw_ g n V) (hk : k < n) : g k = lN (V / 2 ^ (64 * k) % 2 ^ 64) := by
  rw [← h.2 k hk, un_of]
theorem rw_congr {g g' : Nat → Int64} {n V : Nat} (h : rw_ g n V) (e : ∀ k, k < n → g' k = g k) : rw_ g' n V := ⟨h.1, fun k hk => by rw [e k hk]; exact h.2 k hk⟩
theorem rw_bit {g : Nat → Int64} {n V k i : Nat} (h : rw_ g n V) (hk : k < n) (hi : i < 64) : (un_ (g k)).testBit i = V.testBit (64 * k + i) := by
  rw [h.2 k hk, Nat.testBit_mod_two_pow, Nat.testBit_div_two_pow, Nat.add_comm]
  simp [hi]
theorem rw_ofbits {g : Nat → Int64} {n V : Nat} (hV : V < 2 ^ (64 * n)) (h : ∀ k, k < n → ∀ i, i < 64 → (un_ (g k)).testBit i = V.testBit (64 * k + i)) : rw_ g n V := by
  refine ⟨hV, fun k hk => ?_⟩
  apply Nat.eq_of_testBit_eq
  intro i
  rw [Nat.testBit_mod_two_pow, Nat.testBit_div_two_pow, Nat.add_comm i]
  by_cases hi : i < 64
  · rw [h k hk i hi]; simp [hi]
  · rw [Nat.testBit_lt_two_pow (Nat.lt_of_lt_of_le (un_lt _) (Nat.pow_le_pow_right (by decide) (by omega)))]
    simp [hi]
theorem rw_uniq {g : Nat → Int64} {n V V' : Nat} (h : rw_ g n V) (h' : rw_ g n V') : V = V' := by
  apply Nat.eq_of_testBit_eq
  intro j
  by_cases hj : j < 64 * n
  · have e : j = 64 * (j / 64) + j % 64 := by omega
    rw [e, ← rw_bit h (show j / 64 < n by omega) (by omega), ← rw_bit h' (show j / 64 < n by omega) (by omega)]
  · rw [Nat.testBit_lt_two_pow (Nat.lt_of_lt_of_le h.1 (Nat.pow_le_pow_right (by decide) (by omega))), Nat.testBit_lt_two_pow (Nat.lt_of_lt_of_le h'.1 (Nat.pow_le_pow_right (by decide) (by omega)))]
theorem rw_zero {g : Nat → Int64} {n : Nat} (h : ∀ k, k < n → g k = 0) : rw_ g n 0 := ⟨Nat.two_pow_pos _, fun k hk => by rw [h k hk, un_0]; simp⟩
/-- a row of fewer limbs -/
theorem rw_less {g : Nat → Int64} {n m V : Nat} (h : rw_ g n V) (hm : m ≤ n) : rw_ g m (V % 2 ^ (64 * m)) := by
  refine rw_ofbits (Nat.mod_lt _ (Nat.two_pow_pos _)) (fun k hk i hi => ?_)
  rw [rw_bit h (by omega) hi, Nat.testBit_mod_two_pow]
  simp [show 64 * k + i < 64 * m by omega]
/-- .. and of more: those above are 0 -/
theorem rw_more {g : Nat → Int64} {n m V : Nat} (h : rw_ g n V) (hm : n ≤ m) (h0 : ∀ k, n ≤ k → k < m → g k = 0) : rw_ g m V := by
  have hlt : V < 2 ^ (64 * m) := Nat.lt_of_lt_of_le h.1 (Nat.pow_le_pow_right (by decide) (by omega))
  refine ⟨hlt, fun k hk => ?_⟩
  by_cases hkn : k < n
  · exact h.2 k hkn
  · rw [h0 k (by omega) hk, un_0, Nat.div_eq_of_lt (Nat.lt_of_lt_of_le h.1 (Nat.pow_le_pow_right (by decide) (by omega)))]
theorem int_sub {a b : Nat} (ha : a < 2 ^ 30) (hb : b < 2 ^ 30) : (nI a - nI b).toInt = (a : Int) - b := pk_sub_toInt ha hb
theorem un_mask {w k : Nat} (hw : w < 2 ^ 20) (hk : k < 2 ^ 20) : un_ (km_mask (nI w) (nI k)) = 2 ^ (min 64 (w - 64 * k)) - 1 := by
  have e64 : (64 : Int32) = nI 64 := rfl
  have em : nI k * 64 = nI (k * 64) := by rw [e64, pk_mul]
  have hi : (nI w - nI (k * 64)).toInt = (w : Int) - (k * 64 : Nat) := int_sub (by omega) (by omega)
  unfold km_mask
  rw [em]
  by_cases c1 : w < k * 64 + 64
  · have c1' : nI w - nI (k * 64) < 64 := by
      rw [Int32.lt_iff_toInt_lt, hi, e64, nI_toInt (by decide)]; omega
    rw [if_pos c1']
    by_cases c2 : k * 64 < w
    · have c2' : 0 < nI w - nI (k * 64) := by
        rw [Int32.lt_iff_toInt_lt, hi, Int32.toInt_zero]; omega
      rw [if_pos c2', pk_sub (by omega), un_sub, un_1]
      have hb : w - k * 64 < 64 := by omega
      have hs := un_shll 1 hb
      rw [un_1, Nat.one_mul, Nat.mod_eq_of_lt (Nat.pow_lt_pow_right (by decide) hb)] at hs
      rw [hs, show min 64 (w - 64 * k) = w - k * 64 by omega]
      have h1 : 2 ^ (w - k * 64) < 2 ^ 64 := Nat.pow_lt_pow_right (by decide) hb
      have h2 : 0 < 2 ^ (w - k * 64) := Nat.two_pow_pos _
      omega
    · have c2' : ¬ 0 < nI w - nI (k * 64) := by
        rw [Int32.lt_iff_toInt_lt, hi, Int32.toInt_zero]; omega
      rw [if_neg c2', un_0, show min 64 (w - 64 * k) = 0 by omega]
  · have c1' : ¬ nI w - nI (k * 64) < 64 := by
      rw [Int32.lt_iff_toInt_lt, hi, e64, nI_toInt (by decide)]; omega
    rw [if_neg c1', un_m1, show min 64 (w - 64 * k) = 64 by omega]
theorem rw_cut {g : Nat → Int64} {n V w : Nat} (h : rw_ g n V) (hw : w < 2 ^ 20) (hn : n < 2 ^ 14) : rw_ (fun k => if k < n then g k &&& km_mask (nI w) (nI k) else g k) n (V % 2 ^ w) := by
  refine rw_ofbits (Nat.lt_of_le_of_lt (Nat.mod_le _ _) h.1) (fun k hk i hi => ?_)
  simp only [if_pos hk]
  rw [un_and, Nat.testBit_and, rw_bit h hk hi, un_mask hw (by omega), Nat.testBit_two_pow_sub_one, Nat.testBit_mod_two_pow]
  rw [Bool.and_comm]
  congr 1
  apply decide_eq_decide.mpr
  omega
theorem rw_fill {g : Nat → Int64} {n V w : Nat} (h : rw_ g n V) (hw : w ≤ 64 * n) (hn : n < 2 ^ 14) : rw_ (fun k => if k < n then g k ||| (km_mask (nI w) (nI k) ^^^ (-1)) else g k) n (V ||| (2 ^ (64 * n) - 2 ^ w)) := by
  have hp : (2 : Nat) ^ w ≤ 2 ^ (64 * n) := Nat.pow_le_pow_right (by decide) hw
  have h0 := Nat.two_pow_pos w
  refine rw_ofbits (Nat.or_lt_two_pow h.1 (by omega)) (fun k hk i hi => ?_)
  simp only [if_pos hk]
  have hb : (2 ^ (64 * n) - 2 ^ w).testBit (64 * k + i) = (decide (64 * k + i < 64 * n) && !(decide (64 * k + i < w))) := by
    rw [show 2 ^ (64 * n) - 2 ^ w = 2 ^ (64 * n) - ((2 ^ w - 1) + 1) by omega, Nat.testBit_two_pow_sub_succ (by omega), Nat.testBit_two_pow_sub_one]
  rw [un_or, Nat.testBit_or, Nat.testBit_or, rw_bit h hk hi, hb]
  congr 1
  rw [un_xor, Nat.testBit_xor, un_mask (by omega) (by omega), un_m1, Nat.testBit_two_pow_sub_one, Nat.testBit_two_pow_sub_one]
  have e1 : decide (i < 64) = true := decide_eq_true hi
  have e2 : decide (64 * k + i < 64 * n) = true := decide_eq_true (by omega)
  have e3 : decide (i < min 64 (w - 64 * k)) = decide (64 * k + i < w) := decide_eq_decide.mpr (by omega)
  rw [e1, e2, e3]
  cases decide (64 * k + i < w) <;> rfl
