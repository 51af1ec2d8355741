/-! ===== sums and differences of rows as numbers ===== -/
theorem tb63 {X : Nat} (h : X < 2 ^ 64) : X.testBit 63 = decide (2 ^ 63 ≤ X) := by
  rw [Nat.testBit_eq_decide_div_mod_eq]
  apply decide_eq_decide.mpr
  omega
theorem top63 {X : Nat} (h : X < 2 ^ 64) : X / 2 ^ 63 = if X.testBit 63 then 1 else 0 := by
  rw [tb63 h]
  by_cases c : 2 ^ 63 ≤ X
  · simp [c]; omega
  · simp [c]; omega
theorem un_add3 (x y c : Int64) : un_ (x + y + c) = (un_ x + un_ y + un_ c) % 2 ^ 64 := by
  rw [un_add, un_add]; omega
theorem un_addc {x y c : Int64} (hc : un_ c ≤ 1) : un_ (km_addc x y c) = (un_ x + un_ y + un_ c) / 2 ^ 64 := by
  unfold km_addc
  have hx := un_lt x
  have hy := un_lt y
  rw [show (63 : Int32) = nI 63 from rfl, un_kush _ (by decide), top63 (un_lt _), un_or, un_and, un_and, un_or, un_xor, un_m1, un_add3]
  have hs : (un_ x + un_ y + un_ c) % 2 ^ 64 < 2 ^ 64 := Nat.mod_lt _ (by decide)
  rw [Nat.testBit_or, Nat.testBit_and, Nat.testBit_and, Nat.testBit_or, Nat.testBit_xor, Nat.testBit_two_pow_sub_one, tb63 hx, tb63 hy, tb63 hs]
  by_cases c1 : 2 ^ 63 ≤ un_ x <;> by_cases c2 : 2 ^ 63 ≤ un_ y <;> by_cases c3 : 2 ^ 63 ≤ (un_ x + un_ y + un_ c) % 2 ^ 64 <;> simp [c1, c2, c3] <;> omega
theorem limb_split (A k : Nat) : A % 2 ^ (64 * (k + 1)) = A % 2 ^ (64 * k) + 2 ^ (64 * k) * (A / 2 ^ (64 * k) % 2 ^ 64) := by
  rw [show 64 * (k + 1) = 64 * k + 64 by omega, Nat.pow_add, Nat.mod_mul]
theorem carry_le (A B k : Nat) : (A % 2 ^ (64 * k) + B % 2 ^ (64 * k)) / 2 ^ (64 * k) ≤ 1 := by
  have h0 := Nat.two_pow_pos (64 * k)
  have h1 := Nat.mod_lt A h0
  have h2 := Nat.mod_lt B h0
  have h3 : (A % 2 ^ (64 * k) + B % 2 ^ (64 * k)) / 2 ^ (64 * k) < 2 := Nat.div_lt_of_lt_mul (by omega)
  omega
theorem un_cA {g1 g2 : Nat → Int64} {n A B : Nat} (h1 : rw_ g1 n A) (h2 : rw_ g2 n B) : ∀ k, k ≤ n → un_ (km_cA g1 g2 k) = (A % 2 ^ (64 * k) + B % 2 ^ (64 * k)) / 2 ^ (64 * k)
  | 0, _ => by simp [km_cA, un_0, Nat.mod_one]
  | k + 1, hk => by
    have ih := un_cA h1 h2 k (by omega)
    have hc := carry_le A B k
    rw [km_cA, un_addc (by rw [ih]; exact hc), ih, h1.2 k (by omega), h2.2 k (by omega), limb_split A k, limb_split B k]
    generalize A / 2 ^ (64 * k) % 2 ^ 64 = a
    generalize B / 2 ^ (64 * k) % 2 ^ 64 = b
    have e : A % 2 ^ (64 * k) + 2 ^ (64 * k) * a + (B % 2 ^ (64 * k) + 2 ^ (64 * k) * b) = (A % 2 ^ (64 * k) + B % 2 ^ (64 * k)) + 2 ^ (64 * k) * (a + b) := by rw [Nat.mul_add]; omega
    rw [e, show 64 * (k + 1) = 64 * k + 64 by omega, Nat.pow_add, ← Nat.div_div_eq_div_mul, Nat.add_mul_div_left _ _ (Nat.two_pow_pos _)]
    congr 1
    omega
theorem rw_add {g1 g2 g0 : Nat → Int64} {n A B : Nat} (h1 : rw_ g1 n A) (h2 : rw_ g2 n B) : rw_ (fun k => if k < n then g1 k + g2 k + km_cA g1 g2 k else g0 k) n ((A + B) % 2 ^ (64 * n)) := by
  refine ⟨Nat.mod_lt _ (Nat.two_pow_pos _), fun k hk => ?_⟩
  simp only [if_pos hk]
  rw [un_add3, un_cA h1 h2 k (by omega), h1.2 k hk, h2.2 k hk]
  have e1 : (A + B) % 2 ^ (64 * n) / 2 ^ (64 * k) % 2 ^ 64 = (A + B) / 2 ^ (64 * k) % 2 ^ 64 := by
    apply Nat.eq_of_testBit_eq
    intro i
    rw [Nat.testBit_mod_two_pow, Nat.testBit_mod_two_pow, Nat.testBit_div_two_pow, Nat.testBit_div_two_pow, Nat.testBit_mod_two_pow]
    by_cases hi : i < 64
    · rw [decide_eq_true hi, decide_eq_true (show i + 64 * k < 64 * n by omega)]; simp
    · rw [decide_eq_false hi]; simp
  rw [e1]
  have hM := Nat.two_pow_pos (64 * k)
  have eA := Nat.div_add_mod A (2 ^ (64 * k))
  have eB := Nat.div_add_mod B (2 ^ (64 * k))
  have e2 : (A + B) / 2 ^ (64 * k) = A / 2 ^ (64 * k) + B / 2 ^ (64 * k) + (A % 2 ^ (64 * k) + B % 2 ^ (64 * k)) / 2 ^ (64 * k) := by
    have e3 : A + B = (A % 2 ^ (64 * k) + B % 2 ^ (64 * k)) + 2 ^ (64 * k) * (A / 2 ^ (64 * k) + B / 2 ^ (64 * k)) := by rw [Nat.mul_add]; omega
    rw [e3, Nat.add_mul_div_left _ _ hM]
    rw [Nat.add_comm]
  rw [e2]
  omega
theorem un_sub3 (x y c : Int64) (hc : un_ c ≤ 1) : un_ (x - y - c) = (2 ^ 65 + un_ x - un_ y - un_ c) % 2 ^ 64 := by
  have hx := un_lt x
  have hy := un_lt y
  rw [un_sub, un_sub]; omega
theorem un_subc {x y c : Int64} (hc : un_ c ≤ 1) : un_ (km_subc x y c) = if un_ x < un_ y + un_ c then 1 else 0 := by
  unfold km_subc
  have hx := un_lt x
  have hy := un_lt y
  rw [show (63 : Int32) = nI 63 from rfl, un_kush _ (by decide), top63 (un_lt _), un_or, un_and, un_and, un_or, un_xor, un_m1, un_sub3 _ _ _ hc]
  have hs : (2 ^ 65 + un_ x - un_ y - un_ c) % 2 ^ 64 < 2 ^ 64 := Nat.mod_lt _ (by decide)
  rw [Nat.testBit_or, Nat.testBit_and, Nat.testBit_and, Nat.testBit_or, Nat.testBit_xor, Nat.testBit_two_pow_sub_one, tb63 hx, tb63 hy, tb63 hs]
  by_cases c1 : 2 ^ 63 ≤ un_ x <;> by_cases c2 : 2 ^ 63 ≤ un_ y <;> by_cases c3 : 2 ^ 63 ≤ (2 ^ 65 + un_ x - un_ y - un_ c) % 2 ^ 64 <;> simp [c1, c2, c3] <;> omega
theorem un_cS {g1 g2 : Nat → Int64} {n A B : Nat} (h1 : rw_ g1 n A) (h2 : rw_ g2 n B) : ∀ k, k ≤ n → un_ (km_cS g1 g2 k) = if A % 2 ^ (64 * k) < B % 2 ^ (64 * k) then 1 else 0
  | 0, _ => by simp [km_cS, un_0, Nat.mod_one]
  | k + 1, hk => by
    have ih := un_cS h1 h2 k (by omega)
    rw [km_cS, un_subc (by rw [ih]; split <;> omega), ih, h1.2 k (by omega), h2.2 k (by omega), limb_split A k, limb_split B k]
    have hM := Nat.two_pow_pos (64 * k)
    have l1 := Nat.mod_lt A hM
    have l2 := Nat.mod_lt B hM
    generalize A / 2 ^ (64 * k) % 2 ^ 64 = a
    generalize B / 2 ^ (64 * k) % 2 ^ 64 = b
    generalize A % 2 ^ (64 * k) = x at l1 ⊢
    generalize B % 2 ^ (64 * k) = y at l2 ⊢
    generalize 2 ^ (64 * k) = m at hM l1 l2 ⊢
    congr 1
    apply propext
    constructor
    · intro h
      by_cases c : x < y
      · rw [if_pos c] at h
        have : m * a ≤ m * b := Nat.mul_le_mul_left _ (by omega)
        omega
      · rw [if_neg c] at h
        have : m * (a + 1) ≤ m * b := Nat.mul_le_mul_left _ (by omega)
        rw [Nat.mul_add] at this
        omega
    · intro h
      by_cases c : x < y
      · rw [if_pos c]
        by_cases d : a ≤ b
        · omega
        · have : m * (b + 1) ≤ m * a := Nat.mul_le_mul_left _ (by omega)
          rw [Nat.mul_add] at this
          omega
      · rw [if_neg c]
        by_cases d : a < b
        · omega
        · have : m * b ≤ m * a := Nat.mul_le_mul_left _ (by omega)
          omega
/-- the difference, told by what it adds up to -/
theorem rw_sub {g1 g2 g0 : Nat → Int64} {n A B : Nat} (h1 : rw_ g1 n A) (h2 : rw_ g2 n B) : rw_ (fun k => if k < n then g1 k - g2 k - km_cS g1 g2 k else g0 k) n ((2 ^ (64 * n) + A - B) % 2 ^ (64 * n)) := by
  refine ⟨Nat.mod_lt _ (Nat.two_pow_pos _), fun k hk => ?_⟩
  simp only [if_pos hk]
  have hcs := un_cS h1 h2 k (by omega)
  rw [un_sub3 _ _ _ (by rw [hcs]; split <;> omega), hcs, h1.2 k hk, h2.2 k hk]
  have e1 : (2 ^ (64 * n) + A - B) % 2 ^ (64 * n) / 2 ^ (64 * k) % 2 ^ 64 = (2 ^ (64 * n) + A - B) / 2 ^ (64 * k) % 2 ^ 64 := by
    apply Nat.eq_of_testBit_eq
    intro i
    rw [Nat.testBit_mod_two_pow, Nat.testBit_mod_two_pow, Nat.testBit_div_two_pow, Nat.testBit_div_two_pow, Nat.testBit_mod_two_pow]
    by_cases hi : i < 64
    · rw [decide_eq_true hi, decide_eq_true (show i + 64 * k < 64 * n by omega)]; simp
    · rw [decide_eq_false hi]; simp
  rw [e1]
  have hM := Nat.two_pow_pos (64 * k)
  have eN : 2 ^ (64 * n) = 2 ^ (64 * k) * (2 ^ 64 * 2 ^ (64 * (n - k - 1))) := by rw [← Nat.pow_add, ← Nat.pow_add]; congr 1; omega
  have hT := Nat.two_pow_pos (64 * (n - k - 1))
  have eA := Nat.div_add_mod A (2 ^ (64 * k))
  have eB := Nat.div_add_mod B (2 ^ (64 * k))
  have l1 := Nat.mod_lt A hM
  have l2 := Nat.mod_lt B hM
  have hB : B < 2 ^ (64 * n) := h2.1
  have hq : B / 2 ^ (64 * k) < 2 ^ 64 * 2 ^ (64 * (n - k - 1)) := Nat.div_lt_of_lt_mul (by rw [← eN]; exact hB)
  rw [eN]
  generalize 2 ^ (64 * (n - k - 1)) = t at hT hq eN
  generalize A / 2 ^ (64 * k) = a at eA ⊢
  generalize B / 2 ^ (64 * k) = b at eB hq ⊢
  generalize A % 2 ^ (64 * k) = x at eA l1 ⊢
  generalize B % 2 ^ (64 * k) = y at eB l2 ⊢
  generalize 2 ^ (64 * k) = m at hM eA eB l1 l2 eN ⊢
  subst eA
  subst eB
  by_cases c : x < y
  · rw [if_pos c]
    have e2 : m * (2 ^ 64 * t) + (m * a + x) - (m * b + y) = (m + x - y) + m * (2 ^ 64 * t + a - b - 1) := by
      have e3 : m * (2 ^ 64 * t + a - b - 1) = m * (2 ^ 64 * t) + m * a - m * b - m := by
        rw [Nat.mul_sub, Nat.mul_sub, Nat.mul_add, Nat.mul_one]
      have e4 : m * b + m ≤ m * (2 ^ 64 * t) := by
        have := Nat.mul_le_mul_left m (show b + 1 ≤ 2 ^ 64 * t by omega)
        rw [Nat.mul_add] at this
        omega
      rw [e3]; omega
    rw [e2, Nat.add_mul_div_left _ _ hM, Nat.div_eq_of_lt (show m + x - y < m by omega)]
    omega
  · rw [if_neg c]
    have e2 : m * (2 ^ 64 * t) + (m * a + x) - (m * b + y) = (x - y) + m * (2 ^ 64 * t + a - b) := by
      have e3 : m * (2 ^ 64 * t + a - b) = m * (2 ^ 64 * t) + m * a - m * b := by
        rw [Nat.mul_sub, Nat.mul_add]
      have e4 : m * b ≤ m * (2 ^ 64 * t) := Nat.mul_le_mul_left m (by omega)
      rw [e3]; omega
    rw [e2, Nat.add_mul_div_left _ _ hM, Nat.div_eq_of_lt (show x - y < m by omega)]
    omega
