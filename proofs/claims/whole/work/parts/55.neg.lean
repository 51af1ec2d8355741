/-! ===== the negative of a row, rows of noughts, or of rows, as numbers ===== -/
theorem un_cN {g : Nat → Int64} {n V : Nat} (h : rw_ g n V) : ∀ k, k ≤ n → un_ (km_cN g k) = if V % 2 ^ (64 * k) = 0 then 1 else 0
  | 0, _ => by simp [km_cN, un_1, Nat.mod_one]
  | k + 1, hk => by
    have ih := un_cN h k (by omega)
    have hv := h.2 k (by omega)
    have hlt := un_lt (g k)
    have hM := Nat.two_pow_pos (64 * k)
    have key : (km_cN g k = 1 ∧ (g k ^^^ (-1)) + km_cN g k = 0) ↔ V % 2 ^ (64 * (k + 1)) = 0 := by
      rw [limb_split V k, ← hv]
      have e1 : km_cN g k = 1 ↔ V % 2 ^ (64 * k) = 0 := by
        constructor
        · intro e
          rw [e, un_1] at ih
          by_cases c : V % 2 ^ (64 * k) = 0
          · exact c
          · rw [if_neg c] at ih; omega
        · intro e
          rw [if_pos e] at ih
          exact un_inj (by rw [ih, un_1])
      constructor
      · rintro ⟨a, b⟩
        have a' := e1.mp a
        rw [un_eq0, un_add, un_not, a, un_1] at b
        rw [a']
        have : un_ (g k) = 0 := by omega
        rw [this, Nat.mul_zero]
      · intro e
        have a : V % 2 ^ (64 * k) = 0 := by omega
        have b : un_ (g k) = 0 := by
          have b1 : 2 ^ (64 * k) * un_ (g k) = 0 := by omega
          rcases Nat.mul_eq_zero.mp b1 with z | z
          · omega
          · exact z
        refine ⟨e1.mpr a, ?_⟩
        rw [un_eq0, un_add, un_not, e1.mpr a, un_1, b]
    rw [km_cN]
    by_cases c : V % 2 ^ (64 * (k + 1)) = 0
    · rw [if_pos (key.mpr c), if_pos c, un_1]
    · rw [if_neg (fun z => c (key.mp z)), if_neg c, un_0]
theorem rw_neg {g g0 : Nat → Int64} {n V : Nat} (h : rw_ g n V) : rw_ (fun k => if k < n then (g k ^^^ (-1)) + km_cN g k else g0 k) n ((2 ^ (64 * n) - V) % 2 ^ (64 * n)) := by
  refine ⟨Nat.mod_lt _ (Nat.two_pow_pos _), fun k hk => ?_⟩
  simp only [if_pos hk]
  rw [un_add, un_not, un_cN h k (by omega), h.2 k hk]
  have e1 : (2 ^ (64 * n) - V) % 2 ^ (64 * n) / 2 ^ (64 * k) % 2 ^ 64 = (2 ^ (64 * n) - V) / 2 ^ (64 * k) % 2 ^ 64 := by
    apply Nat.eq_of_testBit_eq
    intro i
    rw [Nat.testBit_mod_two_pow, Nat.testBit_mod_two_pow, Nat.testBit_div_two_pow, Nat.testBit_div_two_pow, Nat.testBit_mod_two_pow]
    by_cases hi : i < 64
    · rw [decide_eq_true hi, decide_eq_true (show i + 64 * k < 64 * n by omega)]; simp
    · rw [decide_eq_false hi]; simp
  rw [e1]
  have hM := Nat.two_pow_pos (64 * k)
  have eN : 2 ^ (64 * n) = 2 ^ (64 * k) * (2 ^ 64 * 2 ^ (64 * (n - k - 1))) := by rw [← Nat.pow_add, ← Nat.pow_add]; congr 1; omega
  have hT := Nat.two_pow_pos (64 * (n - k - 1))
  have eV := Nat.div_add_mod V (2 ^ (64 * k))
  have l1 := Nat.mod_lt V hM
  have hq : V / 2 ^ (64 * k) < 2 ^ 64 * 2 ^ (64 * (n - k - 1)) := Nat.div_lt_of_lt_mul (by rw [← eN]; exact h.1)
  rw [eN]
  generalize 2 ^ (64 * (n - k - 1)) = t at hT hq eN
  generalize V / 2 ^ (64 * k) = a at eV hq ⊢
  generalize V % 2 ^ (64 * k) = x at eV l1 ⊢
  generalize 2 ^ (64 * k) = m at hM eV l1 eN ⊢
  subst eV
  have e4 : m * a + m ≤ m * (2 ^ 64 * t) := by
    have := Nat.mul_le_mul_left m (show a + 1 ≤ 2 ^ 64 * t by omega)
    rw [Nat.mul_add] at this
    omega
  by_cases c : x = 0
  · rw [if_pos c]
    have e2 : m * (2 ^ 64 * t) - (m * a + x) = m * (2 ^ 64 * t - a) := by rw [Nat.mul_sub]; omega
    rw [e2, Nat.mul_div_cancel_left _ hM]
    omega
  · rw [if_neg c]
    have e2 : m * (2 ^ 64 * t) - (m * a + x) = (m - x) + m * (2 ^ 64 * t - a - 1) := by
      have e3 : m * (2 ^ 64 * t - a - 1) = m * (2 ^ 64 * t) - m * a - m := by rw [Nat.mul_sub, Nat.mul_sub, Nat.mul_one]
      rw [e3]; omega
    rw [e2, Nat.add_mul_div_left _ _ hM, Nat.div_eq_of_lt (show m - x < m by omega)]
    omega
/-- negate, as it is called: cut to w bits -/
theorem rw_negate {g : Nat → Int64} {n V w : Nat} (h : rw_ g n V) (hw : w ≤ 64 * n) (hn : n < 2 ^ 14) : rw_ (fun k => if k < n then ((g k ^^^ (-1)) + km_cN g k) &&& km_mask (nI w) (nI k) else g k) n ((2 ^ w - V % 2 ^ w) % 2 ^ w) := by
  have h1 := rw_cut (w := w) (rw_neg (g0 := g) h) (by omega) hn
  have e : (2 ^ (64 * n) - V) % 2 ^ (64 * n) % 2 ^ w = (2 ^ w - V % 2 ^ w) % 2 ^ w := by
    have hd : 2 ^ (64 * n) = 2 ^ w * 2 ^ (64 * n - w) := by rw [← Nat.pow_add]; congr 1; omega
    rw [Nat.mod_mod_of_dvd _ ⟨_, hd⟩]
    have hV := h.1
    have h0 := Nat.two_pow_pos w
    have eV := Nat.div_add_mod V (2 ^ w)
    have l1 := Nat.mod_lt V h0
    have hq : V / 2 ^ w < 2 ^ (64 * n - w) := Nat.div_lt_of_lt_mul (by rw [← hd]; exact hV)
    rw [hd]
    generalize 2 ^ (64 * n - w) = t at hq ⊢
    generalize V / 2 ^ w = a at eV hq ⊢
    generalize V % 2 ^ w = x at eV l1 ⊢
    generalize 2 ^ w = m at h0 eV l1 ⊢
    subst eV
    have e3 : m * t - (m * a + x) = (m - x) + m * (t - a - 1) := by
      have e4 : m * (t - a - 1) = m * t - m * a - m := by rw [Nat.mul_sub, Nat.mul_sub, Nat.mul_one]
      have e5 : m * a + m ≤ m * t := by
        have := Nat.mul_le_mul_left m (show a + 1 ≤ t by omega)
        rw [Nat.mul_add] at this
        omega
      rw [e4]; omega
    rw [e3, Nat.add_mul_mod_self_left]
  rw [e] at h1
  refine rw_congr h1 (fun k hk => ?_)
  simp [hk]
/-- a row whose limbs are all 0 -/
theorem or_zero {g : Nat → Int64} : ∀ n, km_or g n = 0 ↔ ∀ k, k < n → g k = 0
  | 0 => by simp [km_or]
  | n + 1 => by
    have ih := or_zero (g := g) n
    have e : km_or g n ||| g n = 0 ↔ km_or g n = 0 ∧ g n = 0 := by
      rw [un_eq0, un_or, un_eq0 (km_or g n), un_eq0 (g n)]
      constructor
      · intro z
        have h1 : ∀ i, (un_ (km_or g n)).testBit i = false ∧ (un_ (g n)).testBit i = false := fun i => by
          have := congrArg (fun q => q.testBit i) z
          simp only [Nat.testBit_or, Nat.zero_testBit, Bool.or_eq_false_iff] at this
          exact this
        exact ⟨Nat.eq_of_testBit_eq (fun i => by rw [(h1 i).1, Nat.zero_testBit]), Nat.eq_of_testBit_eq (fun i => by rw [(h1 i).2, Nat.zero_testBit])⟩
      · rintro ⟨a, b⟩
        rw [a, b]
        rfl
    rw [km_or, e, ih]
    constructor
    · rintro ⟨a, b⟩ k hk
      by_cases c : k = n
      · subst c; exact b
      · exact a k (by omega)
    · intro a
      exact ⟨fun k hk => a k (by omega), a n (by omega)⟩
theorem rw_nought {g : Nat → Int64} {n V : Nat} (h : rw_ g n V) : km_or g n = 0 ↔ V = 0 := by
  rw [or_zero]
  constructor
  · intro z; exact rw_uniq h (rw_zero z)
  · intro z k hk
    subst z
    rw [rw_get h hk]
    simp
    rfl
theorem rw_or {g1 g2 g0 : Nat → Int64} {n A B : Nat} (h1 : rw_ g1 n A) (h2 : rw_ g2 n B) : rw_ (fun k => if k < n then g1 k ||| g2 k else g0 k) n (A ||| B) := by
  refine rw_ofbits (Nat.or_lt_two_pow h1.1 h2.1) (fun k hk i hi => ?_)
  simp only [if_pos hk]
  rw [un_or, Nat.testBit_or, Nat.testBit_or, rw_bit h1 hk hi, rw_bit h2 hk hi]
/-- bit k of a row -/
theorem bit_row {g : Nat → Int64} {n V k : Nat} (h : rw_ g n V) (hk : k < 2 ^ 24) (hn : n < 2 ^ 14) : km_bit g n (nI k) = if V.testBit k then 1 else 0 := by
  unfold km_bit
  rw [nI_sh6 (by omega), nI_an6 (by omega)]
  have e1 := un_kush (km_limb g n (nI (k / 64))) (show k % 64 < 64 by omega)
  rw [un_limb h (by omega) (by omega)] at e1
  have hlt := un_lt (km_ush (km_limb g n (nI (k / 64))) (nI (k % 64)))
  have e2 : V.testBit k = (un_ (km_ush (km_limb g n (nI (k / 64))) (nI (k % 64)))).testBit 0 := by
    rw [e1, Nat.testBit_div_two_pow, Nat.testBit_mod_two_pow, Nat.testBit_div_two_pow]
    simp only [Nat.zero_add]
    rw [decide_eq_true (show k % 64 < 64 by omega), Bool.true_and, show k % 64 + 64 * (k / 64) = k by omega]
  rw [e2]
  generalize km_ush (km_limb g n (nI (k / 64))) (nI (k % 64)) = x
  have e3 : x.toInt32 = nI (un_ x) := by
    rw [← lN_i, un_of]
  rw [e3, show (1 : Int32) = nI 1 from rfl]
  have e4 : nI (un_ x) &&& nI 1 = nI (un_ x % 2) := by
    have := pk_and (nI (un_ x)) (m := nI 1) 1 (by decide)
    rw [this]
    congr 1
    show (BitVec.ofNat 32 (un_ x)).toNat % 2 ^ 1 = _
    rw [BitVec.toNat_ofNat]
    omega
  rw [e4, Nat.testBit_zero]
  by_cases c : un_ x % 2 = 1
  · simp [c]
  · rw [show un_ x % 2 = 0 by omega]
    simp [nI_0]
