section
/-! ===== numbers with a point: their form, and what the class reads of them ===== -/
theorem unl {n : Nat} (h : n < 2 ^ 64) : un_ (lN n) = n := by rw [un_lN, Nat.mod_eq_of_lt h]
theorem lN_un {x : Int64} {n : Nat} (h : un_ x = n) : x = lN n := by rw [← h, un_of]
theorem lN_shl {a i : Nat} (hi : i < 64) (h : a * 2 ^ i < 2 ^ 64) : lN a <<< ((nI i).toInt64 &&& 63) = lN (a * 2 ^ i) := by
  have ha : a < 2 ^ 64 := Nat.lt_of_le_of_lt (Nat.le_mul_of_pos_right _ (Nat.two_pow_pos i)) h
  apply lN_un
  rw [un_shll _ hi, unl ha, Nat.mod_eq_of_lt h]
theorem lN_one {i : Nat} (hi : i < 64) : (1 : Int64) <<< ((nI i).toInt64 &&& 63) = lN (2 ^ i) := by
  have h : 1 * 2 ^ i < 2 ^ 64 := by rw [Nat.one_mul]; exact Nat.pow_lt_pow_right (by decide) hi
  have := lN_shl hi h
  rw [Nat.one_mul] at this
  exact this
theorem lN_shr {a i : Nat} (hi : i < 64) (ha : a < 2 ^ 64) : ((lN a).toUInt64 >>> ((nI i).toInt64.toUInt64 &&& Int64.toUInt64 63)).toInt64 = lN (a / 2 ^ i) := by
  apply lN_un
  rw [un_ushr _ hi, unl ha]
theorem lN_and {a b : Nat} (ha : a < 2 ^ 64) (hb : b < 2 ^ 64) : lN a &&& lN b = lN (a &&& b) := by
  apply lN_un
  rw [un_and, unl ha, unl hb]
theorem lN_or {a b : Nat} (ha : a < 2 ^ 64) (hb : b < 2 ^ 64) : lN a ||| lN b = lN (a ||| b) := by
  apply lN_un
  rw [un_or, unl ha, unl hb]
theorem or_pow {v n : Nat} (h : v < 2 ^ n) : v ||| 2 ^ n = v + 2 ^ n := by
  have := Nat.two_pow_add_eq_or_of_lt h 1
  rw [Nat.mul_one] at this
  rw [Nat.or_comm, ← this, Nat.add_comm]
def fmt_ (f e : Nat) : Prop := (f = 3 ∧ e = 4) ∨ (f = 10 ∧ e = 5) ∨ (f = 23 ∧ e = 8)
/-- the lowest power, 1000 added -/
def lq_ (f e : Nat) : Nat := 1002 - 2 ^ (e - 1) - f
def pw_ (p : Nat) : Int32 := nI p - nI 1000
theorem pw_int {p : Nat} (h : p < 2 ^ 30) : (pw_ p).toInt = (p : Int) - 1000 := pk_sub_toInt h (by decide)
theorem pw_le {p q : Nat} (hp : p < 2 ^ 30) (hq : q < 2 ^ 30) : pw_ p ≤ pw_ q ↔ p ≤ q := by rw [Int32.le_iff_toInt_le, pw_int hp, pw_int hq]; omega
theorem pw_lt {p q : Nat} (hp : p < 2 ^ 30) (hq : q < 2 ^ 30) : pw_ p < pw_ q ↔ p < q := by rw [Int32.lt_iff_toInt_lt, pw_int hp, pw_int hq]; omega
theorem pw_add (p k : Nat) : pw_ p + nI k = pw_ (p + k) := by unfold pw_; rw [← nI_add]; grind
theorem pw_sub {p k : Nat} (h : k ≤ p) : pw_ p - nI k = pw_ (p - k) := by unfold pw_; rw [← pk_sub h]; grind
theorem pw_pw {p q : Nat} (h : q ≤ p) : pw_ p - pw_ q = nI (p - q) := by unfold pw_; rw [← pk_sub h]; grind
theorem and_pow0 {X n : Nat} : X &&& 2 ^ n = 0 ↔ X.testBit n = false := by
  constructor
  · intro h
    have := congrArg (fun z => z.testBit n) h
    simpa [Nat.testBit_and, Nat.testBit_two_pow] using this
  · intro h
    apply Nat.eq_of_testBit_eq
    intro k
    rw [Nat.testBit_and, Nat.testBit_two_pow, Nat.zero_testBit]
    by_cases c : n = k
    · subst c; rw [h]; rfl
    · simp [c]
theorem fmt_b {f e : Nat} (h : fmt_ f e) : (3 ≤ f ∧ f ≤ 23) ∧ (4 ≤ e ∧ e ≤ 8) ∧ f + e ≤ 31 ∧ (851 ≤ lq_ f e ∧ lq_ f e ≤ 991) ∧ (16 ≤ 2 ^ e ∧ 2 ^ e ≤ 256) := by
  rcases h with ⟨rfl, rfl⟩ | ⟨rfl, rfl⟩ | ⟨rfl, rfl⟩ <;> decide
/-- exponent, fraction, sign, the whole number and its power -/
def dE (f e X : Nat) : Nat := X / 2 ^ f % 2 ^ e
def dF (f X : Nat) : Nat := X % 2 ^ f
def dS (f e X : Nat) : Bool := X.testBit (f + e)
def dW (f e X : Nat) : Nat := if dE f e X = 0 then dF f X else dF f X + 2 ^ f
def dP (f e X : Nat) : Nat := lq_ f e + max (dE f e X) 1 - 1
theorem dF_lt (f X : Nat) : dF f X < 2 ^ f := Nat.mod_lt _ (Nat.two_pow_pos f)
theorem dE_lt (f e X : Nat) : dE f e X < 2 ^ e := Nat.mod_lt _ (Nat.two_pow_pos e)
theorem dW_lt (f e X : Nat) : dW f e X < 2 ^ (f + 1) := by
  have := dF_lt f X
  unfold dW
  rw [Nat.pow_succ]
  split <;> omega
def PN_ (f e y : Nat) (σ : ks_St) : Prop := fmt_ f e ∧ y ≤ 4 ∧ si_ σ 8 = nI y ∧ si_ σ 9 = nI f ∧ si_ σ 10 = nI (2 ^ e - 1) ∧ si_ σ 11 = pw_ (lq_ f e) ∧ sj_ σ 0 = lN (2 ^ (f + e))
theorem PN_fr {f e y : Nat} {σ σ' : ks_St} {I J F G : List Nat} (h : PN_ f e y σ) (fr : fr_ I J F G σ σ') (h0 : ∀ k ∈ [8, 9, 10, 11], k ∉ I) (h1 : 0 ∉ J) : PN_ f e y σ' := by
  obtain ⟨a, b, c, d, g, i, j⟩ := h
  exact ⟨a, b, (fr.1 8 (h0 8 (by decide))).trans c, (fr.1 9 (h0 9 (by decide))).trans d, (fr.1 10 (h0 10 (by decide))).trans g, (fr.1 11 (h0 11 (by decide))).trans i, (fr.2.1 0 h1).trans j⟩
theorem and_cl {X n : Nat} (hX : X < 2 ^ (n + 1)) (hn : n < 63) : X &&& (2 ^ 64 - 1 - 2 ^ n) = X % 2 ^ n := by
  apply Nat.eq_of_testBit_eq
  intro k
  have hp : 2 ^ n < 2 ^ 64 := Nat.pow_lt_pow_right (by decide) (by omega)
  rw [Nat.testBit_and, show 2 ^ 64 - 1 - 2 ^ n = 2 ^ 64 - (2 ^ n + 1) by omega, Nat.testBit_two_pow_sub_succ hp, Nat.testBit_two_pow, Nat.testBit_mod_two_pow]
  by_cases c : k < n
  · simp [c, show k < 64 by omega, show ¬ n = k by omega]
  · by_cases d : k = n
    · subst d; simp
    · rw [tb_hi hX (by omega)]; simp
section
variable {L : Nat} {xs : Nat → Int32} {σ : ks_St} {A : wa_} {f e y X : Nat}
theorem c_choose (hf : fmt_ f e) (hy : y ≤ 4) : ks_M L xs mX2_choose rm_X2_choose [.ref 16, .int (nI (f + e + 1)), .int (nI y)] σ (pv_ fun σ' => PN_ f e y σ' ∧ fr_ [8, 9, 10, 11] [0] [] [] σ σ') := by
  refine ks_body (by decide) (Nat.le_of_ble_eq_true rfl) ?_
  have fr : ∀ (s : ks_St) (a b c d : Int32) (g : Int64), fr_ [8, 9, 10, 11] [0] [] [] s (uj_ (ui_ (ui_ (ui_ (ui_ s 8 a) 9 b) 10 c) 11 d) 0 g) := fun s a b c d g => fr_trans (fr_trans (fr_trans (fr_trans (fr_ui _ _ (by decide)) (fr_ui _ _ (by decide))) (fr_ui _ _ (by decide))) (fr_ui _ _ (by decide))) (fr_uj _ _ (by decide))
  rcases hf with ⟨rfl, rfl⟩ | ⟨rfl, rfl⟩ | ⟨rfl, rfl⟩
  · refine sg_X2_choose_0 (fun c => absurd (by decide) c) (fun c => absurd (by decide) c) (fun _ => sg_X2_choose_29 ⟨rfl, ⟨Or.inl ⟨rfl, rfl⟩, hy, rfl, rfl, ?_, ?_, ?_⟩, fr _ _ _ _ _ _⟩)
    · exact (show ((1 : Int32) <<< (((nI (3 + 4 + 1) - 1) - 3) &&& 31)) - 1 = nI (2 ^ 4 - 1) by decide)
    · exact (show (1 - (((1 : Int32) <<< ((((nI (3 + 4 + 1) - 1) - 3) - 1) &&& 31)) - 1)) - 3 = pw_ (lq_ 3 4) by decide)
    · exact (show (1 : Int64) <<< ((nI (3 + 4 + 1) - 1).toInt64 &&& 63) = lN (2 ^ (3 + 4)) by decide)
  · refine sg_X2_choose_0 (fun _ c => absurd (by decide) c) (fun _ _ => sg_X2_choose_29 ⟨rfl, ⟨Or.inr (Or.inl ⟨rfl, rfl⟩), hy, rfl, rfl, ?_, ?_, ?_⟩, fr _ _ _ _ _ _⟩) (fun c => absurd c (by decide))
    · exact (show ((1 : Int32) <<< (((nI (10 + 5 + 1) - 1) - 10) &&& 31)) - 1 = nI (2 ^ 5 - 1) by decide)
    · exact (show (1 - (((1 : Int32) <<< ((((nI (10 + 5 + 1) - 1) - 10) - 1) &&& 31)) - 1)) - 10 = pw_ (lq_ 10 5) by decide)
    · exact (show (1 : Int64) <<< ((nI (10 + 5 + 1) - 1).toInt64 &&& 63) = lN (2 ^ (10 + 5)) by decide)
  · refine sg_X2_choose_0 (fun _ _ => sg_X2_choose_29 ⟨rfl, ⟨Or.inr (Or.inr ⟨rfl, rfl⟩), hy, rfl, rfl, ?_, ?_, ?_⟩, fr _ _ _ _ _ _⟩) (fun _ c => absurd c (by decide)) (fun c => absurd c (by decide))
    · exact (show ((1 : Int32) <<< (((nI (23 + 8 + 1) - 1) - 23) &&& 31)) - 1 = nI (2 ^ 8 - 1) by decide)
    · exact (show (1 - (((1 : Int32) <<< ((((nI (23 + 8 + 1) - 1) - 23) - 1) &&& 31)) - 1)) - 23 = pw_ (lq_ 23 8) by decide)
    · exact (show (1 : Int64) <<< ((nI (23 + 8 + 1) - 1).toInt64 &&& 63) = lN (2 ^ (23 + 8)) by decide)
theorem pn_bd (h : PN_ f e y σ) (hX : X < 2 ^ (f + e + 1)) : X < 2 ^ 32 := by
  have := (fmt_b h.1).2.2.1
  exact Nat.lt_of_lt_of_le hX (Nat.pow_le_pow_right (by decide) (by omega))
theorem c_signOf (h : PN_ f e y σ) (hX : X < 2 ^ (f + e + 1)) : ks_M L xs mX2_signOf rm_X2_signOf [.ref 16, .long (lN X)] σ (pi_ fun r σ' => r = b1_ (dS f e X) ∧ σ' = σ) := by
  refine ks_body (by decide) (Nat.le_of_ble_eq_true rfl) ?_
  have hb := fmt_b h.1
  have h32 := pn_bd h hX
  have hp : 2 ^ (f + e) < 2 ^ 64 := Nat.pow_lt_pow_right (by decide) (by omega)
  have key : lg_cmp (lN X &&& sj_ σ 0) 0 = 0 ↔ dS f e X = false := by
    rw [lg_cmp_eq, h.2.2.2.2.2.2, lN_and (by omega) hp, un_eq0, unl (Nat.lt_of_le_of_lt Nat.and_le_right hp), and_pow0]
    rfl
  refine sg_X2_signOf_0 (fun c => ?_) (fun c => ?_)
  · exact sg_X2_signOf_16 rfl ⟨_, rfl, by rw [key.mp c]; rfl, rfl⟩
  · exact sg_X2_signOf_16 rfl ⟨_, rfl, by rw [eq_true_of_ne_false (fun z => c (key.mpr z))]; rfl, rfl⟩
theorem an_eo (hf : fmt_ f e) {m : Nat} (hm : m < 2 ^ 32) : nI m &&& nI (2 ^ e - 1) = nI (m % 2 ^ e) := by
  rcases hf with ⟨rfl, rfl⟩ | ⟨rfl, rfl⟩ | ⟨rfl, rfl⟩
  · exact pk_andN hm 4 (by decide)
  · exact pk_andN hm 5 (by decide)
  · exact pk_andN hm 8 (by decide)
theorem c_exponentOf (h : PN_ f e y σ) (hX : X < 2 ^ (f + e + 1)) : ks_M L xs mX2_exponentOf rm_X2_exponentOf [.ref 16, .long (lN X)] σ (pi_ fun r σ' => r = nI (dE f e X) ∧ σ' = σ) := by
  refine ks_body (by decide) (Nat.le_of_ble_eq_true rfl) ?_
  have hb := fmt_b h.1
  have h32 := pn_bd h hX
  refine sg_X2_exponentOf_0 ⟨_, rfl, ?_, rfl⟩
  rw [h.2.2.2.1, h.2.2.2.2.1, lN_shr (by omega) (by omega), lN_i, an_eo h.1 (Nat.lt_of_le_of_lt (Nat.div_le_self _ _) h32)]
  rfl
theorem c_fractionOf (h : PN_ f e y σ) (hX : X < 2 ^ (f + e + 1)) : ks_M L xs mX2_fractionOf rm_X2_fractionOf [.ref 16, .long (lN X)] σ (pl_ fun r σ' => r = lN (dF f X) ∧ σ' = σ) := by
  refine ks_body (by decide) (Nat.le_of_ble_eq_true rfl) ?_
  have hb := fmt_b h.1
  have h32 := pn_bd h hX
  refine sg_X2_fractionOf_0 ⟨_, rfl, ?_, rfl⟩
  have hp : 2 ^ f < 2 ^ 64 := Nat.pow_lt_pow_right (by decide) (by omega)
  have h0 := Nat.two_pow_pos f
  rw [h.2.2.2.1, lN_one (by omega), show lN (2 ^ f) - 1 = lN (2 ^ f - 1) from lN_sub (b := 1) h0, lN_and (by omega) (by omega), Nat.and_two_pow_sub_one_eq_mod]
  rfl
theorem eo_eq (hf : fmt_ f e) {m : Nat} (hm : m < 2 ^ e) : nI m = nI (2 ^ e - 1) ↔ m = 2 ^ e - 1 := by
  have hb := fmt_b hf
  exact nI_eq (by omega) (by omega)
theorem c_isNone (h : PN_ f e y σ) (hX : X < 2 ^ (f + e + 1)) : ks_M L xs mX2_isNone rm_X2_isNone [.ref 16, .long (lN X)] σ (pi_ fun r σ' => r = b1_ (decide (dE f e X = 2 ^ e - 1 ∧ dF f X ≠ 0)) ∧ σ' = σ) := by
  refine ks_body (by decide) (Nat.le_of_ble_eq_true rfl) ?_
  have hb := fmt_b h.1
  have hF := dF_lt f X
  have hp : 2 ^ f < 2 ^ 64 := Nat.pow_lt_pow_right (by decide) (by omega)
  refine sg_X2_isNone_0 (cs_X2_isNone_2 (c_exponentOf h hX) (fun r σ1 hr => ?_))
  obtain ⟨rfl, rfl⟩ := hr
  have e1 := eo_eq h.1 (dE_lt f e X)
  rw [← h.2.2.2.2.1] at e1
  refine sg_X2_isNone_5 (fun c => sg_X2_isNone_26 (sg_X2_isNone_27 rfl ⟨_, rfl, ?_, rfl⟩)) (fun c => ?_)
  · rw [decide_eq_false (fun z : dE f e X = 2 ^ e - 1 ∧ dF f X ≠ 0 => c (e1.mpr z.1))]; rfl
  · refine cs_X2_isNone_14 (c_fractionOf h hX) (fun r σ2 hr => ?_)
    obtain ⟨rfl, rfl⟩ := hr
    have e2 : lg_cmp (lN (dF f X)) 0 = 0 ↔ dF f X = 0 := by rw [lg_cmp_eq, un_eq0, unl (by omega)]
    refine sg_X2_isNone_17 (fun d => sg_X2_isNone_26 (sg_X2_isNone_27 rfl ⟨_, rfl, ?_, rfl⟩)) (fun d => sg_X2_isNone_27 rfl ⟨_, rfl, ?_, rfl⟩)
    · rw [decide_eq_false (fun z : dE f e X = 2 ^ e - 1 ∧ dF f X ≠ 0 => z.2 (e2.mp d))]; rfl
    · rw [decide_eq_true (show dE f e X = 2 ^ e - 1 ∧ dF f X ≠ 0 from ⟨e1.mp c, fun z => d (e2.mpr z)⟩)]; rfl
theorem c_isInfinite (h : PN_ f e y σ) (hX : X < 2 ^ (f + e + 1)) : ks_M L xs mX2_isInfinite rm_X2_isInfinite [.ref 16, .long (lN X)] σ (pi_ fun r σ' => r = b1_ (decide (dE f e X = 2 ^ e - 1 ∧ dF f X = 0)) ∧ σ' = σ) := by
  refine ks_body (by decide) (Nat.le_of_ble_eq_true rfl) ?_
  have hb := fmt_b h.1
  have hF := dF_lt f X
  have hp : 2 ^ f < 2 ^ 64 := Nat.pow_lt_pow_right (by decide) (by omega)
  refine sg_X2_isInfinite_0 (cs_X2_isInfinite_2 (c_exponentOf h hX) (fun r σ1 hr => ?_))
  obtain ⟨rfl, rfl⟩ := hr
  have e1 := eo_eq h.1 (dE_lt f e X)
  rw [← h.2.2.2.2.1] at e1
  refine sg_X2_isInfinite_5 (fun c => sg_X2_isInfinite_26 (sg_X2_isInfinite_27 rfl ⟨_, rfl, ?_, rfl⟩)) (fun c => ?_)
  · rw [decide_eq_false (fun z : dE f e X = 2 ^ e - 1 ∧ dF f X = 0 => c (e1.mpr z.1))]; rfl
  · refine cs_X2_isInfinite_14 (c_fractionOf h hX) (fun r σ2 hr => ?_)
    obtain ⟨rfl, rfl⟩ := hr
    have e2 : lg_cmp (lN (dF f X)) 0 = 0 ↔ dF f X = 0 := by rw [lg_cmp_eq, un_eq0, unl (by omega)]
    refine sg_X2_isInfinite_17 (fun d => sg_X2_isInfinite_26 (sg_X2_isInfinite_27 rfl ⟨_, rfl, ?_, rfl⟩)) (fun d => sg_X2_isInfinite_27 rfl ⟨_, rfl, ?_, rfl⟩)
    · rw [decide_eq_false (fun z : dE f e X = 2 ^ e - 1 ∧ dF f X = 0 => d (e2.mpr z.2))]; rfl
    · rw [decide_eq_true (show dE f e X = 2 ^ e - 1 ∧ dF f X = 0 from ⟨e1.mp c, e2.mp d⟩)]; rfl
theorem c_isNoughtP (h : PN_ f e y σ) (hX : X < 2 ^ (f + e + 1)) : ks_M L xs mX2_isNought rm_X2_isNought [.ref 16, .long (lN X)] σ (pi_ fun r σ' => r = b1_ (decide (X % 2 ^ (f + e) = 0)) ∧ σ' = σ) := by
  refine ks_body (by decide) (Nat.le_of_ble_eq_true rfl) ?_
  have hb := fmt_b h.1
  have h32 := pn_bd h hX
  have hp : 2 ^ (f + e) < 2 ^ 64 := Nat.pow_lt_pow_right (by decide) (by omega)
  have key : lg_cmp (lN X &&& (sj_ σ 0 ^^^ (-1))) 0 = 0 ↔ X % 2 ^ (f + e) = 0 := by
    rw [lg_cmp_eq, un_eq0, un_and, un_not, h.2.2.2.2.2.2, unl hp, unl (by omega), and_cl hX (by omega)]
  refine sg_X2_isNought_0 (fun c => sg_X2_isNought_20 rfl ⟨_, rfl, ?_, rfl⟩) (fun c => sg_X2_isNought_20 rfl ⟨_, rfl, ?_, rfl⟩)
  · rw [decide_eq_false (fun z => c (key.mpr z))]; rfl
  · rw [decide_eq_true (key.mp c)]; rfl
theorem c_wholeOf (h : PN_ f e y σ) (hX : X < 2 ^ (f + e + 1)) : ks_M L xs mX2_wholeOf rm_X2_wholeOf [.ref 16, .long (lN X)] σ (pl_ fun r σ' => r = lN (dW f e X) ∧ σ' = σ) := by
  refine ks_body (by decide) (Nat.le_of_ble_eq_true rfl) ?_
  have hb := fmt_b h.1
  have hE := dE_lt f e X
  refine sg_X2_wholeOf_0 (cs_X2_wholeOf_2 (c_exponentOf h hX) (fun r σ1 hr => ?_))
  obtain ⟨rfl, rfl⟩ := hr
  have e1 : nI (dE f e X) = 0 ↔ dE f e X = 0 := nI_eq (b := 0) (by omega) (by decide)
  refine sg_X2_wholeOf_5 (fun c => ?_) (fun c => ?_)
  · refine cs_X2_wholeOf_18 (c_fractionOf h hX) (fun r σ2 hr => ?_)
    obtain ⟨rfl, rfl⟩ := hr
    refine sg_X2_wholeOf_21 (sg_X2_wholeOf_28 ⟨_, rfl, ?_, rfl⟩)
    rw [h.2.2.2.1, lN_one (by omega), lN_add, dW, if_neg (fun z => c (e1.mpr z))]
  · refine cs_X2_wholeOf_10 (c_fractionOf h hX) (fun r σ2 hr => ?_)
    obtain ⟨rfl, rfl⟩ := hr
    refine sg_X2_wholeOf_13 (sg_X2_wholeOf_28 ⟨_, rfl, ?_, rfl⟩)
    rw [dW, if_pos (e1.mp c)]
theorem max_nI {a b : Nat} (ha : a < 2 ^ 31) (hb : b < 2 ^ 31) : (if nI a < nI b then nI b else nI a) = nI (max a b) := by
  by_cases c : a < b
  · rw [if_pos ((nI_ltI ha hb).mpr c), show max a b = b by omega]
  · rw [if_neg (fun z => c ((nI_ltI ha hb).mp z)), show max a b = a by omega]
theorem min_nI {a b : Nat} (ha : a < 2 ^ 31) (hb : b < 2 ^ 31) : (if nI b < nI a then nI b else nI a) = nI (min a b) := by
  by_cases c : b < a
  · rw [if_pos ((nI_ltI hb ha).mpr c), show min a b = b by omega]
  · rw [if_neg (fun z => c ((nI_ltI hb ha).mp z)), show min a b = a by omega]
theorem c_powerOf (h : PN_ f e y σ) (hX : X < 2 ^ (f + e + 1)) : ks_M L xs mX2_powerOf rm_X2_powerOf [.ref 16, .long (lN X)] σ (pi_ fun r σ' => r = pw_ (dP f e X) ∧ σ' = σ) := by
  refine ks_body (by decide) (Nat.le_of_ble_eq_true rfl) ?_
  have hb := fmt_b h.1
  have hE := dE_lt f e X
  refine sg_X2_powerOf_0 (cs_X2_powerOf_6 (c_exponentOf h hX) (fun r σ1 hr => ?_))
  obtain ⟨rfl, rfl⟩ := hr
  refine sg_X2_powerOf_9 (cs_X2_powerOf_10 c_max (fun r σ2 hr => ?_))
  obtain ⟨rfl, rfl⟩ := hr
  refine sg_X2_powerOf_13 ⟨_, rfl, ?_, rfl⟩
  rw [h.2.2.2.2.2.1, show (1 : Int32) = nI 1 from rfl, max_nI (by omega) (by decide), pw_add, pw_sub (by omega)]
  rfl
theorem c_withSign {v : Nat} {s : Bool} (h : PN_ f e y σ) (hv : v < 2 ^ (f + e)) : ks_M L xs mX2_withSign rm_X2_withSign [.ref 16, .int (b1_ s), .long (lN v)] σ (pl_ fun r σ' => r = lN (v + 2 ^ (f + e) * s.toNat) ∧ σ' = σ) := by
  refine ks_body (by decide) (Nat.le_of_ble_eq_true rfl) ?_
  have hb := fmt_b h.1
  have hp : 2 ^ (f + e) < 2 ^ 64 := Nat.pow_lt_pow_right (by decide) (by omega)
  refine sg_X2_withSign_0 (fun c => sg_X2_withSign_14 ⟨_, rfl, ?_, rfl⟩) (fun c => sg_X2_withSign_14 ⟨_, rfl, ?_, rfl⟩)
  · rw [b1_0] at c
    rw [c]; simp
  · rw [b1_0] at c
    rw [eq_true_of_ne_false c, h.2.2.2.2.2.2, lN_or (by omega) hp, or_pow hv]; simp
/-- the infinite one, and none -/
def vI (f e : Nat) (s : Bool) : Nat := (2 ^ e - 1) * 2 ^ f + 2 ^ (f + e) * s.toNat
def vN (f e : Nat) : Nat := (2 ^ e - 1) * 2 ^ f + 2 ^ (f - 1)
theorem eo_lt (f e : Nat) : (2 ^ e - 1) * 2 ^ f < 2 ^ (f + e) := by
  have h0 := Nat.two_pow_pos e
  rw [Nat.add_comm, Nat.pow_add]
  exact Nat.mul_lt_mul_of_pos_right (by omega) (Nat.two_pow_pos f)
theorem c_infinite {s : Bool} (h : PN_ f e y σ) : ks_M L xs mX2_infinite rm_X2_infinite [.ref 16, .int (b1_ s)] σ (pl_ fun r σ' => r = lN (vI f e s) ∧ σ' = σ) := by
  refine ks_body (by decide) (Nat.le_of_ble_eq_true rfl) ?_
  have hb := fmt_b h.1
  have hp : 2 ^ (f + e) < 2 ^ 64 := Nat.pow_lt_pow_right (by decide) (by omega)
  have hlt := eo_lt f e
  refine sg_X2_infinite_0 ?_
  rw [h.2.2.2.2.1, h.2.2.2.1, nI_l (by omega), lN_shl (by omega) (by omega)]
  refine cs_X2_infinite_12 (c_withSign h hlt) (fun r σ1 hr => ?_)
  obtain ⟨rfl, rfl⟩ := hr
  exact sg_X2_infinite_15 ⟨_, rfl, rfl, rfl⟩
theorem c_none (h : PN_ f e y σ) : ks_M L xs mX2_none rm_X2_none [.ref 16] σ (pl_ fun r σ' => r = lN (vN f e) ∧ σ' = σ) := by
  refine ks_body (by decide) (Nat.le_of_ble_eq_true rfl) ?_
  have hb := fmt_b h.1
  refine sg_X2_none_0 (cs_X2_none_2 (c_infinite (s := false) h) (fun r σ1 hr => ?_))
  obtain ⟨rfl, rfl⟩ := hr
  refine sg_X2_none_5 ⟨_, rfl, ?_, rfl⟩
  rw [h.2.2.2.1, show nI f - 1 = nI (f - 1) from pk_sub (b := 1) (by omega), lN_one (by omega)]
  rcases h.1 with ⟨rfl, rfl⟩ | ⟨rfl, rfl⟩ | ⟨rfl, rfl⟩ <;> decide
theorem c_notValid (h : PN_ f e y σ) : ks_M L xs mX2_notValid rm_X2_notValid [.ref 16] σ (pl_ fun r σ' => r = lN (vN f e) ∧ σ' = ui_ σ 7 1) := by
  refine ks_body (by decide) (Nat.le_of_ble_eq_true rfl) ?_
  have h' : PN_ f e y (ui_ σ 7 1) := PN_fr h (show fr_ [7] [] [] [] σ (ui_ σ 7 1) from fr_ui _ _ (by decide)) (by decide) (by decide)
  refine sg_X2_notValid_0 (cs_X2_notValid_6 (c_none h') (fun r σ1 hr => ?_))
  obtain ⟨rfl, rfl⟩ := hr
  exact sg_X2_notValid_9 ⟨_, rfl, rfl, rfl⟩
end
end
