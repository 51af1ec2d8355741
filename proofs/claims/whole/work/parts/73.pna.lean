section
/-! ===== numbers with a point in the class: sums, products, quotients ===== -/
theorem lN_or1 {q : Nat} (hq : q < 2 ^ 63) : lN q ||| 1 = lN (q + (1 - q % 2)) := by
  rw [show (1 : Int64) = lN 1 from rfl, lN_or (by omega) (by decide)]
  congr 1
  apply Nat.eq_of_testBit_eq
  intro k
  rw [Nat.testBit_or]
  rcases Nat.mod_two_eq_zero_or_one q with h | h
  · rw [h, show q + (1 - 0) = 2 ^ 1 * (q / 2) + 1 by omega, Nat.testBit_two_pow_mul_add _ (by decide)]
    cases k with
    | zero => simp [Nat.testBit_zero]
    | succ k => simp [Nat.testBit_succ]
  · rw [h, show q + (1 - 1) = q by omega]
    cases k with
    | zero => simp [Nat.testBit_zero, h]
    | succ k => simp [Nat.testBit_succ]
theorem dP_b {f e : Nat} (h : fmt_ f e) (X : Nat) : 851 ≤ dP f e X ∧ dP f e X ≤ 1105 ∧ lq_ f e ≤ dP f e X := by
  have hE := dE_lt f e X
  unfold dP
  rcases h with ⟨rfl, rfl⟩ | ⟨rfl, rfl⟩ | ⟨rfl, rfl⟩
  · have : lq_ 3 4 = 991 := by decide
    rw [this]
    have : dE 3 4 X < 16 := hE
    omega
  · have : lq_ 10 5 = 976 := by decide
    rw [this]
    have : dE 10 5 X < 32 := hE
    omega
  · have : lq_ 23 8 = 851 := by decide
    rw [this]
    have : dE 23 8 X < 256 := hE
    omega
theorem dW_24 {f e : Nat} (h : fmt_ f e) (X : Nat) : dW f e X < 2 ^ 24 := by
  have hb := fmt_b h
  exact Nat.lt_of_lt_of_le (dW_lt f e X) (Nat.pow_le_pow_right (by decide) (by omega))
theorem dZ_iff (f e X : Nat) : X % 2 ^ (f + e) = 0 ↔ dW f e X = 0 := by
  rw [Nat.pow_add, Nat.mod_mul]
  have h0 := Nat.two_pow_pos f
  unfold dW dF dE
  generalize X / 2 ^ f % 2 ^ e = E
  by_cases c : E = 0
  · rw [if_pos c, c]; simp
  · rw [if_neg c]
    have : 2 ^ f * 1 ≤ 2 ^ f * E := Nat.mul_le_mul_left _ (by omega)
    omega
/-- high and low -/
def hl_ (f e X Y : Nat) : Nat × Nat := if dP f e Y ≤ dP f e X then (X, Y) else (Y, X)
def aH (f e X Y : Nat) : Nat := dW f e (hl_ f e X Y).1 * 2 ^ (min (dP f e (hl_ f e X Y).1 - dP f e (hl_ f e X Y).2) 36)
def aL (f e X Y : Nat) : Nat := st_ (dW f e (hl_ f e X Y).2) (dP f e (hl_ f e X Y).1 - dP f e (hl_ f e X Y).2 - min (dP f e (hl_ f e X Y).1 - dP f e (hl_ f e X Y).2) 36)
def aM (f e X Y : Nat) : Nat := if dS f e X = dS f e Y then aH f e X Y + aL f e X Y else if aL f e X Y ≤ aH f e X Y then aH f e X Y - aL f e X Y else aL f e X Y - aH f e X Y
def aK (f e X Y : Nat) : Nat := dP f e (hl_ f e X Y).1 - min (dP f e (hl_ f e X Y).1 - dP f e (hl_ f e X Y).2) 36
def aS (f e y X Y : Nat) : Bool := if aM f e X Y = 0 then (if dS f e X = dS f e Y then dS f e X else decide (y = 3)) else (dS f e (hl_ f e X Y).1 != (decide (dS f e X ≠ dS f e Y) && decide (aH f e X Y < aL f e X Y)))
theorem a_bd {f e : Nat} (h : fmt_ f e) (X Y : Nat) : aH f e X Y < 2 ^ 60 ∧ aL f e X Y ≤ 2 ^ 24 ∧ aM f e X Y < 2 ^ 61 ∧ 100 ≤ aK f e X Y ∧ aK f e X Y < 5000 := by
  have h1 : aH f e X Y < 2 ^ 60 := by
    unfold aH
    have a := dW_24 h (hl_ f e X Y).1
    have b : 2 ^ (min (dP f e (hl_ f e X Y).1 - dP f e (hl_ f e X Y).2) 36) ≤ 2 ^ 36 := Nat.pow_le_pow_right (by decide) (by omega)
    exact Nat.lt_of_le_of_lt (Nat.mul_le_mul_left _ b) (by omega)
  have h2 : aL f e X Y ≤ 2 ^ 24 := by
    unfold aL
    have a := dW_24 h (hl_ f e X Y).2
    have b := @st_le (dW f e (hl_ f e X Y).2) (dP f e (hl_ f e X Y).1 - dP f e (hl_ f e X Y).2 - min (dP f e (hl_ f e X Y).1 - dP f e (hl_ f e X Y).2) 36)
    omega
  have h3 := dP_b h (hl_ f e X Y).1
  refine ⟨h1, h2, ?_, ?_, ?_⟩
  · unfold aM; split
    · omega
    · split <;> omega
  · unfold aK; omega
  · unfold aK; omega
def dv (f e X : Nat) : Nat := f + 37 - (if dW f e X = 0 then 0 else Nat.log2 (dW f e X) + 1)
def qM (f e X Y : Nat) : Nat := if dW f e X * 2 ^ dv f e X % dW f e Y = 0 then dW f e X * 2 ^ dv f e X / dW f e Y else dW f e X * 2 ^ dv f e X / dW f e Y + (1 - dW f e X * 2 ^ dv f e X / dW f e Y % 2)
def qK (f e X Y : Nat) : Nat := dP f e X + 1000 - dv f e X - dP f e Y
theorem dv_bd {f e : Nat} (h : fmt_ f e) (X : Nat) : dv f e X ≤ 60 ∧ dW f e X * 2 ^ dv f e X < 2 ^ 60 ∧ (dW f e X ≠ 0 → 2 ^ (f + 36) ≤ dW f e X * 2 ^ dv f e X) := by
  have hb := fmt_b h
  have hW := dW_lt f e X
  unfold dv
  by_cases c : dW f e X = 0
  · rw [if_pos c, c]
    refine ⟨by omega, by rw [Nat.zero_mul]; decide, fun z => absurd rfl z⟩
  · rw [if_neg c]
    have l1 := Nat.log2_self_le c
    have l2 := @Nat.lt_log2_self (dW f e X)
    have hl : Nat.log2 (dW f e X) < f + 1 := by
      rw [Nat.log2_lt c]; exact hW
    generalize Nat.log2 (dW f e X) = l at *
    refine ⟨by omega, ?_, fun _ => ?_⟩
    · have h1 : dW f e X * 2 ^ (f + 37 - (l + 1)) < 2 ^ (l + 1) * 2 ^ (f + 37 - (l + 1)) := Nat.mul_lt_mul_of_pos_right l2 (Nat.two_pow_pos _)
      rw [← Nat.pow_add] at h1
      exact Nat.lt_of_lt_of_le h1 (Nat.pow_le_pow_right (by decide) (by omega))
    · have h1 : 2 ^ l * 2 ^ (f + 37 - (l + 1)) ≤ dW f e X * 2 ^ (f + 37 - (l + 1)) := Nat.mul_le_mul_right _ l1
      rw [← Nat.pow_add] at h1
      exact Nat.le_trans (Nat.pow_le_pow_right (by decide) (by omega)) h1
section
variable {L : Nat} {xs : Nat → Int32} {σ : ks_St} {f e y X Y : Nat}
theorem PN_12 (h : PN_ f e y σ) {v : Int32} : PN_ f e y (ui_ σ 12 v) := PN_fr h (show fr_ [12] [] [] [] σ _ from fr_ui _ _ (by decide)) (by decide) (by decide)
theorem PN_13 (h : PN_ f e y σ) {v : Int32} : PN_ f e y (ui_ σ 13 v) := PN_fr h (show fr_ [13] [] [] [] σ _ from fr_ui _ _ (by decide)) (by decide) (by decide)
theorem PN_j (h : PN_ f e y σ) {v : Int64} : PN_ f e y (uj_ σ 1 v) := PN_fr h (show fr_ [] [1] [] [] σ _ from fr_uj _ _ (by decide)) (by decide) (by decide)
theorem b1_01 (b : Bool) : b1_ b = 0 ∨ b1_ b = 1 := by cases b <;> decide
theorem c_multiplyP (h : PN_ f e y σ) (hX : X < 2 ^ (f + e + 1)) (hY : Y < 2 ^ (f + e + 1)) : ks_M L xs mX2_multiply rm_X2_multiply [.ref 16, .long (lN X), .long (lN Y)] σ (pv_ fun σ' => si_ σ' 12 = b1_ (dS f e X != dS f e Y) ∧ sj_ σ' 1 = lN (dW f e X * dW f e Y) ∧ si_ σ' 13 = pw_ (dP f e X + dP f e Y - 1000) ∧ fr_ [12, 13] [1] [] [] σ σ') := by
  refine ks_body (by decide) (Nat.le_of_ble_eq_true rfl) ?_
  refine sg_X2_multiply_0 (cs_X2_multiply_3 (c_signOf h hX) (fun r σ1 hr => ?_))
  obtain ⟨rfl, rfl⟩ := hr
  refine sg_X2_multiply_6 (cs_X2_multiply_8 (c_signOf h hY) (fun r σ1 hr => ?_))
  obtain ⟨rfl, rfl⟩ := hr
  have go : ∀ b : Bool, b = (dS f e X != dS f e Y) → ks_W L xs mX2_multiply rm_X2_multiply 19 [(0, .ref 16), (1, .long (lN X)), (3, .long (lN Y))] [.int (b1_ b), .ref 16] σ1 0 0 (pv_ fun σ' => si_ σ' 12 = b1_ (dS f e X != dS f e Y) ∧ sj_ σ' 1 = lN (dW f e X * dW f e Y) ∧ si_ σ' 13 = pw_ (dP f e X + dP f e Y - 1000) ∧ fr_ [12, 13] [1] [] [] σ1 σ') := by
    intro b hb
    refine sg_X2_multiply_19 (b1_01 b) ?_
    have h2 := PN_12 h (v := b1_ b)
    have f2 : fr_ [12, 13] [1] [] [] σ1 (ui_ σ1 12 (b1_ b)) := fr_ui _ _ (by decide)
    have e2 : si_ (ui_ σ1 12 (b1_ b)) 12 = b1_ b := by rw [si_ui, if_pos rfl]
    generalize ui_ σ1 12 (b1_ b) = σ2 at h2 f2 e2 ⊢
    refine cs_X2_multiply_25 (c_wholeOf h2 hX) (fun r σ3 hr => ?_)
    obtain ⟨rfl, rfl⟩ := hr
    refine sg_X2_multiply_28 (cs_X2_multiply_30 (c_wholeOf h2 hY) (fun r σ3 hr => ?_))
    obtain ⟨rfl, rfl⟩ := hr
    refine sg_X2_multiply_33 ?_
    rw [lN_mul]
    have h3 := PN_j h2 (v := lN (dW f e X * dW f e Y))
    have f3 : fr_ [12, 13] [1] [] [] σ1 (uj_ σ3 1 (lN (dW f e X * dW f e Y))) := fr_trans f2 (fr_uj _ _ (by decide))
    have e3 : si_ (uj_ σ3 1 (lN (dW f e X * dW f e Y))) 12 = b1_ b := e2
    have e3' : sj_ (uj_ σ3 1 (lN (dW f e X * dW f e Y))) 1 = lN (dW f e X * dW f e Y) := by rw [sj_uj, if_pos rfl]
    generalize uj_ σ3 1 (lN (dW f e X * dW f e Y)) = σ4 at h3 f3 e3 e3' ⊢
    refine cs_X2_multiply_40 (c_powerOf h3 hX) (fun r σ5 hr => ?_)
    obtain ⟨rfl, rfl⟩ := hr
    refine sg_X2_multiply_43 (cs_X2_multiply_45 (c_powerOf h3 hY) (fun r σ5 hr => ?_))
    obtain ⟨rfl, rfl⟩ := hr
    refine sg_X2_multiply_48 ⟨rfl, ?_, ?_, ?_, fr_trans f3 (fr_ui _ _ (by decide))⟩
    · rw [si_ui, if_neg (by decide), e3, hb]
    · exact e3'
    · rw [si_ui, if_pos rfl]
      have b1 := dP_b h.1 X
      have b2 := dP_b h.1 Y
      unfold pw_
      rw [← pk_sub (show 1000 ≤ dP f e X + dP f e Y by omega), ← nI_add]
      grind
  refine sg_X2_multiply_11 (fun c => ?_) (fun c => ?_)
  · rw [b1_inj] at c
    exact go false (by rw [c]; simp)
  · rw [b1_inj] at c
    exact go true (by simp [c])
theorem c_divideP (h : PN_ f e y σ) (hX : X < 2 ^ (f + e + 1)) (hY : Y < 2 ^ (f + e + 1)) (hY0 : dW f e Y ≠ 0) : ks_M L xs mX2_divide rm_X2_divide [.ref 16, .long (lN X), .long (lN Y)] σ (pv_ fun σ' => si_ σ' 12 = b1_ (dS f e X != dS f e Y) ∧ sj_ σ' 1 = lN (qM f e X Y) ∧ si_ σ' 13 = pw_ (qK f e X Y) ∧ fr_ [12, 13] [1] [] [] σ σ') := by
  refine ks_body (by decide) (Nat.le_of_ble_eq_true rfl) ?_
  have hb := fmt_b h.1
  have w1 := dW_24 h.1 X
  have w2 := dW_24 h.1 Y
  have hdv := dv_bd h.1 X
  refine sg_X2_divide_0 (cs_X2_divide_8 (c_wholeOf h hX) (fun r σ1 hr => ?_))
  obtain ⟨rfl, rfl⟩ := hr
  refine cs_X2_divide_11 c_lengthOfLimb (fun r σ1 hr => ?_)
  obtain ⟨⟨n, hn, rfl, hln⟩, rfl⟩ := hr
  rw [unl (by omega)] at hln
  have hnv : n = if dW f e X = 0 then 0 else Nat.log2 (dW f e X) + 1 := by
    by_cases c : dW f e X = 0
    · rw [if_pos c]
      rcases hln.2 with z | z
      · exact z
      · have := Nat.two_pow_pos (n - 1); omega
    · rw [if_neg c]
      have hn0 : n ≠ 0 := fun z => by rw [z] at hln; have := hln.1; simp at this; exact c this
      have : Nat.log2 (dW f e X) = n - 1 := (Nat.log2_eq_iff c).mpr ⟨hln.2.resolve_left hn0, by rw [show n - 1 + 1 = n by omega]; exact hln.1⟩
      omega
  have hn2 : n ≤ f + 1 := by
    rw [hnv]
    by_cases c : dW f e X = 0
    · rw [if_pos c]; omega
    · rw [if_neg c]
      have : Nat.log2 (dW f e X) < f + 1 := by rw [Nat.log2_lt c]; exact dW_lt f e X
      omega
  have hdvn : dv f e X = f + 37 - n := by unfold dv; rw [← hnv]
  refine sg_X2_divide_14 ?_
  have eup : si_ σ1 9 + 1 - nI n + 36 = nI (dv f e X) := by
    rw [h.2.2.2.1, nI_1, pk_sub hn2, show (36 : Int32) = nI 36 from rfl, nI_add, hdvn]; congr 1; omega
  rw [eup]
  refine cs_X2_divide_22 (c_wholeOf h hX) (fun r σ1 hr => ?_)
  obtain ⟨rfl, rfl⟩ := hr
  refine sg_X2_divide_25 ?_
  rw [lN_shl (by omega) (by omega)]
  refine cs_X2_divide_32 (c_wholeOf h hY) (fun r σ1 hr => ?_)
  obtain ⟨rfl, rfl⟩ := hr
  have kz : lg_cmp (lN (dW f e Y)) 0 ≤ 0 ↔ dW f e Y = 0 := by
    rw [lg_cmp_le, show (0 : Int64) = lN 0 from rfl, pk_lLE (by omega) (by decide)]; omega
  generalize hD : dW f e X * 2 ^ dv f e X = D at *
  refine sg_X2_divide_35 (fun c => absurd (kz.mp c) hY0) (fun _ => by rw [un_eq0, unl (by omega)]; exact hY0) (fun _ => ?_)
  rw [pk_lDiv (by omega) (by omega) (by omega)]
  have hq : D / dW f e Y ≤ D := Nat.div_le_self _ _
  refine sg_X2_divide_53 (cs_X2_divide_58 (c_signOf h hX) (fun r σ1 hr => ?_))
  obtain ⟨rfl, rfl⟩ := hr
  refine sg_X2_divide_61 (cs_X2_divide_63 (c_signOf h hY) (fun r σ1 hr => ?_))
  obtain ⟨rfl, rfl⟩ := hr
  have hqm : qM f e X Y = if D % dW f e Y = 0 then D / dW f e Y else D / dW f e Y + (1 - D / dW f e Y % 2) := by unfold qM; rw [hD]
  have hdm := Nat.div_add_mod D (dW f e Y)
  have hcm : dW f e Y * (D / dW f e Y) = D / dW f e Y * dW f e Y := Nat.mul_comm _ _
  have last : ∀ (σ2 : ks_St) (b : Bool), b = (dS f e X != dS f e Y) → PN_ f e y σ2 → si_ σ2 12 = b1_ b → fr_ [12, 13] [1] [] [] σ1 σ2 → ks_W L xs mX2_divide rm_X2_divide 98 [(0, .ref 16), (1, .long (lN X)), (3, .long (lN Y)), (5, .int (nI (dv f e X)))] [.long (lN (qM f e X Y)), .ref 16] σ2 0 0 (pv_ fun σ' => si_ σ' 12 = b1_ (dS f e X != dS f e Y) ∧ sj_ σ' 1 = lN (qM f e X Y) ∧ si_ σ' 13 = pw_ (qK f e X Y) ∧ fr_ [12, 13] [1] [] [] σ1 σ') := by
    intro σ2 b hb' h2 e2 f2
    refine sg_X2_divide_98 ?_
    have h3 := PN_j h2 (v := lN (qM f e X Y))
    have f3 : fr_ [12, 13] [1] [] [] σ1 (uj_ σ2 1 (lN (qM f e X Y))) := fr_trans f2 (fr_uj _ _ (by decide))
    have e3 : si_ (uj_ σ2 1 (lN (qM f e X Y))) 12 = b1_ b := e2
    have e3' : sj_ (uj_ σ2 1 (lN (qM f e X Y))) 1 = lN (qM f e X Y) := by rw [sj_uj, if_pos rfl]
    generalize uj_ σ2 1 (lN (qM f e X Y)) = σ4 at h3 f3 e3 e3' ⊢
    refine cs_X2_divide_104 (c_powerOf h3 hX) (fun r σ5 hr => ?_)
    obtain ⟨rfl, rfl⟩ := hr
    refine sg_X2_divide_107 (cs_X2_divide_112 (c_powerOf h3 hY) (fun r σ5 hr => ?_))
    obtain ⟨rfl, rfl⟩ := hr
    refine sg_X2_divide_115 ⟨rfl, ?_, e3', ?_, fr_trans f3 (fr_ui _ _ (by decide))⟩
    · rw [si_ui, if_neg (by decide), e3, hb']
    · rw [si_ui, if_pos rfl]
      have b1 := dP_b h.1 X
      have b2 := dP_b h.1 Y
      unfold pw_ qK
      rw [← pk_sub (show dP f e Y ≤ dP f e X + 1000 - dv f e X by omega), ← pk_sub (show dv f e X ≤ dP f e X + 1000 by omega), ← nI_add]
      grind
  have go : ∀ b : Bool, b = (dS f e X != dS f e Y) → ks_W L xs mX2_divide rm_X2_divide 74 [(0, .ref 16), (1, .long (lN X)), (3, .long (lN Y)), (5, .int (nI (dv f e X))), (6, .long (lN D)), (8, .long (lN (dW f e Y))), (10, .long (lN (D / dW f e Y)))] [.int (b1_ b), .ref 16] σ1 0 0 (pv_ fun σ' => si_ σ' 12 = b1_ (dS f e X != dS f e Y) ∧ sj_ σ' 1 = lN (qM f e X Y) ∧ si_ σ' 13 = pw_ (qK f e X Y) ∧ fr_ [12, 13] [1] [] [] σ1 σ') := by
    intro b hb'
    have L2 := last (ui_ σ1 12 (b1_ b)) b hb' (PN_12 h) (by rw [si_ui, if_pos rfl]) (fr_ui _ _ (by decide))
    have kq : lg_cmp (lN (D / dW f e Y) * lN (dW f e Y)) (lN D) = 0 ↔ D % dW f e Y = 0 := by
      rw [lN_mul, lg_cmp_eq, pk_lEQ (by omega) (by omega)]; omega
    refine sg_X2_divide_74 (b1_01 b) (fun c => ?_) (fun c => ?_)
    · rw [kq] at c
      rw [hqm, if_neg c] at L2
      rw [lN_or1 (by omega), hqm, if_neg c]
      exact L2
    · rw [kq] at c
      rw [hqm, if_pos c] at L2
      rw [hqm, if_pos c]
      exact L2
  refine sg_X2_divide_66 (fun c => ?_) (fun c => ?_)
  · rw [b1_inj] at c
    exact go false (by rw [c]; simp)
  · rw [b1_inj] at c
    exact go true (by simp [c])
theorem lN_neg0 {m : Nat} (h : m < 2 ^ 62) : (0 ≤ lg_cmp (lN m) 0) := by
  rw [lg_cmp_ge, show (0 : Int64) = lN 0 from rfl, pk_lLE (by decide) (by omega)]; omega
theorem lN_diff {a b : Nat} (ha : a < 2 ^ 62) (hb : b < 2 ^ 62) (h : a < b) : ¬ (0 ≤ lg_cmp (lN a - lN b) 0) ∧ -(lN a - lN b) = lN (b - a) ∧ ¬ lg_cmp (lN a - lN b) 0 = 0 := by
  have e : -(lN a - lN b) = lN (b - a) := by rw [← lN_sub (Nat.le_of_lt h)]; grind
  have hne : lN (b - a) ≠ 0 := by rw [Ne, un_eq0, unl (by omega)]; omega
  have e2 : lN a - lN b = -lN (b - a) := by rw [← e]; grind
  have hu : un_ (lN a - lN b) = 2 ^ 64 - (b - a) := by
    rw [un_sub, unl (by omega), unl (by omega)]; omega
  refine ⟨?_, e, ?_⟩
  · rw [lg_cmp_ge, un_nneg, hu]; omega
  · rw [lg_cmp_eq, un_eq0, hu]; omega
theorem c_addP (h : PN_ f e y σ) (hX : X < 2 ^ (f + e + 1)) (hY : Y < 2 ^ (f + e + 1)) : ks_M L xs mX2_add rm_X2_add [.ref 16, .long (lN X), .long (lN Y)] σ (pv_ fun σ' => si_ σ' 12 = b1_ (aS f e y X Y) ∧ sj_ σ' 1 = lN (aM f e X Y) ∧ si_ σ' 13 = pw_ (aK f e X Y) ∧ fr_ [12, 13] [1] [] [] σ σ') := by
  refine ks_body (by decide) (Nat.le_of_ble_eq_true rfl) ?_
  have hb := fmt_b h.1
  have pX := dP_b h.1 X
  have pY := dP_b h.1 Y
  obtain ⟨bH, bL, bM, bK1, bK2⟩ := a_bd h.1 X Y
  refine sg_X2_add_0 (cs_X2_add_2 (c_signOf h hX) (fun r σ1 hr => ?_))
  obtain ⟨rfl, rfl⟩ := hr
  refine sg_X2_add_5 (cs_X2_add_7 (c_signOf h hY) (fun r σ1 hr => ?_))
  obtain ⟨rfl, rfl⟩ := hr
  generalize hQ : (pv_ fun σ' => si_ σ' 12 = b1_ (aS f e y X Y) ∧ sj_ σ' 1 = lN (aM f e X Y) ∧ si_ σ' 13 = pw_ (aK f e X Y) ∧ fr_ [12, 13] [1] [] [] σ1 σ') = Q
  -- from 62 on: the high one and the low one
  have at62 : ∀ ot : Bool, ot = (dS f e X != dS f e Y) → ks_W L xs mX2_add rm_X2_add 62 [(0, .ref 16), (1, .long (lN X)), (5, .int (b1_ ot)), (7, .long (lN (hl_ f e X Y).1))] [.long (lN (hl_ f e X Y).2)] σ1 0 0 Q := by
    intro ot hot
    have h1lt : (hl_ f e X Y).1 < 2 ^ (f + e + 1) := by unfold hl_; split <;> assumption
    have h2lt : (hl_ f e X Y).2 < 2 ^ (f + e + 1) := by unfold hl_; split <;> assumption
    have hple : dP f e (hl_ f e X Y).2 ≤ dP f e (hl_ f e X Y).1 := by
      unfold hl_
      by_cases z : dP f e Y ≤ dP f e X
      · rw [if_pos z]; exact z
      · rw [if_neg z]; show dP f e X ≤ dP f e Y; omega
    have pH := dP_b h.1 (hl_ f e X Y).1
    have pL := dP_b h.1 (hl_ f e X Y).2
    have wH := dW_24 h.1 (hl_ f e X Y).1
    have wL := dW_24 h.1 (hl_ f e X Y).2
    have hHv : aH f e X Y = dW f e (hl_ f e X Y).1 * 2 ^ (min (dP f e (hl_ f e X Y).1 - dP f e (hl_ f e X Y).2) 36) := rfl
    have hLv : aL f e X Y = st_ (dW f e (hl_ f e X Y).2) (dP f e (hl_ f e X Y).1 - dP f e (hl_ f e X Y).2 - min (dP f e (hl_ f e X Y).1 - dP f e (hl_ f e X Y).2) 36) := rfl
    have hKv : aK f e X Y = dP f e (hl_ f e X Y).1 - min (dP f e (hl_ f e X Y).1 - dP f e (hl_ f e X Y).2) 36 := rfl
    have hSv : aS f e y X Y = if aM f e X Y = 0 then (if dS f e X = dS f e Y then dS f e X else decide (y = 3)) else (dS f e (hl_ f e X Y).1 != (decide (dS f e X ≠ dS f e Y) && decide (aH f e X Y < aL f e X Y))) := rfl
    generalize (hl_ f e X Y).1 = hi at *
    generalize (hl_ f e X Y).2 = lo at *
    refine sg_X2_add_62 (cs_X2_add_67 (c_powerOf h h1lt) (fun r σ1 hr => ?_))
    obtain ⟨rfl, rfl⟩ := hr
    refine sg_X2_add_70 (cs_X2_add_73 (c_powerOf h h2lt) (fun r σ1 hr => ?_))
    obtain ⟨rfl, rfl⟩ := hr
    refine sg_X2_add_76 ?_
    rw [pw_pw hple]
    refine cs_X2_add_83 c_min (fun r σ1 hr => ?_)
    obtain ⟨rfl, rfl⟩ := hr
    rw [show (36 : Int32) = nI 36 from rfl, min_nI (by omega) (by decide)]
    refine sg_X2_add_86 (cs_X2_add_91 (c_wholeOf h h1lt) (fun r σ1 hr => ?_))
    obtain ⟨rfl, rfl⟩ := hr
    refine sg_X2_add_94 ?_
    rw [lN_shl (by omega) (by rw [← hHv]; omega), ← hHv]
    refine cs_X2_add_102 (c_wholeOf h h2lt) (fun r σ1 hr => ?_)
    obtain ⟨rfl, rfl⟩ := hr
    refine sg_X2_add_105 ?_
    rw [pk_sub (Nat.min_le_left _ _)]
    refine cs_X2_add_110 (c_movedDown (by omega) (by omega)) (fun r σ1 hr => ?_)
    obtain ⟨rfl, rfl⟩ := hr
    rw [← hLv]
    generalize hup : min (dP f e hi - dP f e lo) 36 = up at *
    -- the sum T, as a long: neg tells whether it is below 0
    have at151 : ∀ (T : Int64) (neg : Bool), (0 ≤ lg_cmp T 0 ↔ neg = false) → (lg_cmp T 0 = 0 ↔ aM f e X Y = 0) → neg = (decide (dS f e X ≠ dS f e Y) && decide (aH f e X Y < aL f e X Y)) → ks_W L xs mX2_add rm_X2_add 151 [(0, .ref 16), (1, .long (lN X)), (5, .int (b1_ ot)), (7, .long (lN hi)), (12, .int (nI up)), (17, .long T)] [.long (lN (aM f e X Y)), .ref 16] σ1 0 0 Q := by
      intro T neg hT1 hT2 hneg
      refine sg_X2_add_151 ?_
      have h2 := PN_j h (v := lN (aM f e X Y))
      have f2 : fr_ [12, 13] [1] [] [] σ1 (uj_ σ1 1 (lN (aM f e X Y))) := fr_uj _ _ (by decide)
      have j2 : sj_ (uj_ σ1 1 (lN (aM f e X Y))) 1 = lN (aM f e X Y) := by rw [sj_uj, if_pos rfl]
      generalize uj_ σ1 1 (lN (aM f e X Y)) = σ2 at h2 f2 j2 ⊢
      refine cs_X2_add_158 (c_powerOf h2 h1lt) (fun r σ2 hr => ?_)
      obtain ⟨rfl, rfl⟩ := hr
      refine sg_X2_add_161 ?_
      rw [pw_sub (by omega), ← hKv]
      have h3 := PN_13 h2 (v := pw_ (aK f e X Y))
      have f3 : fr_ [12, 13] [1] [] [] σ1 (ui_ σ2 13 (pw_ (aK f e X Y))) := fr_trans f2 (fr_ui _ _ (by decide))
      have j3 : sj_ (ui_ σ2 13 (pw_ (aK f e X Y))) 1 = lN (aM f e X Y) := j2
      have k3 : si_ (ui_ σ2 13 (pw_ (aK f e X Y))) 13 = pw_ (aK f e X Y) := by rw [si_ui, if_pos rfl]
      generalize ui_ σ2 13 (pw_ (aK f e X Y)) = σ3 at h3 f3 j3 k3 ⊢
      refine cs_X2_add_171 (c_signOf h3 h1lt) (fun r σ3 hr => ?_)
      obtain ⟨rfl, rfl⟩ := hr
      have fin : ∀ b : Bool, b = aS f e y X Y → ks_W L xs mX2_add rm_X2_add 234 [] [] (ui_ σ3 12 (b1_ b)) 0 0 Q := by
        intro b hbs
        refine sg_X2_add_234 ?_
        rw [← hQ]
        refine ⟨rfl, by rw [si_ui, if_pos rfl, hbs], j3, ?_, fr_trans f3 (fr_ui _ _ (by decide))⟩
        rw [si_ui, if_neg (by decide)]; exact k3
      have ui2 : ∀ a b : Int32, ui_ (ui_ σ3 12 a) 12 b = ui_ σ3 12 b := fun a b => by
        unfold ui_
        congr 1
        funext k
        by_cases e : k = 12 <;> simp [va_up, e]
      have at194 : ∀ b : Bool, b = (dS f e hi != neg) → ks_W L xs mX2_add rm_X2_add 194 [(0, .ref 16), (1, .long (lN X)), (5, .int (b1_ ot)), (17, .long T)] [.int (b1_ b), .ref 16] σ3 0 0 Q := by
        intro b hbv
        have h4 := PN_12 h3 (v := b1_ b)
        refine sg_X2_add_194 (b1_01 b) (fun c => ?_) (fun c d => ?_) (fun c d g => ?_) (fun c d g => ?_)
        · rw [hT2] at c
          exact fin b (by rw [hSv, if_neg c, hbv, hneg])
        · rw [hT2] at c
          rw [b1_0, hot] at d
          have d' : dS f e X = dS f e Y := by simpa using d
          refine cs_X2_add_228 (c_signOf h4 hX) (fun r σ4 hr => ?_)
          obtain ⟨rfl, rfl⟩ := hr
          refine sg_X2_add_231 (b1_01 _) ?_
          rw [ui2]
          exact fin _ (by rw [hSv, if_pos c, if_pos d'])
        · rw [hT2] at c
          rw [b1_0, hot] at d
          have d' : dS f e X ≠ dS f e Y := fun z => d (by rw [z]; simp)
          have g' : y ≠ 3 := fun z => g ((y_eq h4 (by decide)).mpr z)
          refine sg_X2_add_231 (Or.inl rfl) ?_
          rw [ui2]
          exact fin false (by rw [hSv, if_pos c, if_neg d', decide_eq_false g'])
        · rw [hT2] at c
          rw [b1_0, hot] at d
          have d' : dS f e X ≠ dS f e Y := fun z => d (by rw [z]; simp)
          have g' : y = 3 := (y_eq h4 (by decide)).mp g
          refine sg_X2_add_231 (Or.inr rfl) ?_
          rw [ui2]
          exact fin true (by rw [hSv, if_pos c, if_neg d', decide_eq_true g'])
      have at186 : ks_W L xs mX2_add rm_X2_add 186 [(0, .ref 16), (1, .long (lN X)), (5, .int (b1_ ot)), (17, .long T)] [.int (b1_ neg), .int (b1_ (dS f e hi)), .ref 16] σ3 0 0 Q := by
        refine sg_X2_add_186 (fun c => at194 false ?_) (fun c => at194 true ?_)
        · rw [b1_inj] at c; rw [c]; simp
        · rw [b1_inj] at c; simp [c]
      refine sg_X2_add_174 (fun c => ?_) (fun c => ?_)
      · rw [hT1.mp c] at at186; exact at186
      · rw [eq_true_of_ne_false (fun z => c (hT1.mpr z))] at at186; exact at186
    refine sg_X2_add_113 (fun c => ?_) (fun c => ?_)
    · rw [b1_0, hot] at c
      have c' : dS f e X = dS f e Y := by simpa using c
      have hMv : aM f e X Y = aH f e X Y + aL f e X Y := by unfold aM; rw [if_pos c']
      rw [lN_add]
      have p0 : 0 ≤ lg_cmp (lN (aH f e X Y + aL f e X Y)) 0 := lN_neg0 (by omega)
      refine sg_X2_add_133 (fun _ => ?_) (fun d => absurd p0 d)
      have A := at151 (lN (aH f e X Y + aL f e X Y)) false ⟨fun _ => rfl, fun _ => p0⟩ (by rw [lg_cmp_eq, un_eq0, unl (by omega), hMv]) (by simp [c'])
      rw [hMv] at A
      exact A
    · rw [b1_0, hot] at c
      have c' : dS f e X ≠ dS f e Y := fun z => c (by rw [z]; simp)
      by_cases d : aL f e X Y ≤ aH f e X Y
      · have hMv : aM f e X Y = aH f e X Y - aL f e X Y := by unfold aM; rw [if_neg c', if_pos d]
        rw [lN_sub d]
        have p0 : 0 ≤ lg_cmp (lN (aH f e X Y - aL f e X Y)) 0 := lN_neg0 (by omega)
        refine sg_X2_add_133 (fun _ => ?_) (fun d => absurd p0 d)
        have A := at151 (lN (aH f e X Y - aL f e X Y)) false ⟨fun _ => rfl, fun _ => p0⟩ (by rw [lg_cmp_eq, un_eq0, unl (by omega), hMv]) (by simp [show ¬ aH f e X Y < aL f e X Y by omega])
        rw [hMv] at A
        exact A
      · have hMv : aM f e X Y = aL f e X Y - aH f e X Y := by unfold aM; rw [if_neg c', if_neg d]
        obtain ⟨n1, n2, n3⟩ := lN_diff (a := aH f e X Y) (b := aL f e X Y) (by omega) (by omega) (by omega)
        refine sg_X2_add_133 (fun d => absurd d n1) (fun _ => ?_)
        rw [n2]
        have A := at151 (lN (aH f e X Y) - lN (aL f e X Y)) true ⟨fun z => absurd z n1, fun z => absurd z (by decide)⟩ ⟨fun z => absurd z n3, fun z => by omega⟩ (by simp [c', show aH f e X Y < aL f e X Y by omega])
        rw [hMv] at A
        exact A
  have at18 : ∀ ot : Bool, ot = (dS f e X != dS f e Y) → ks_W L xs mX2_add rm_X2_add 18 [(0, .ref 16), (1, .long (lN X)), (3, .long (lN Y))] [.int (b1_ ot)] σ1 0 0 Q := by
    intro ot hot
    have A := at62 ot hot
    refine sg_X2_add_18 (cs_X2_add_22 (c_powerOf h hX) (fun r σ1 hr => ?_))
    obtain ⟨rfl, rfl⟩ := hr
    refine sg_X2_add_25 (cs_X2_add_27 (c_powerOf h hY) (fun r σ1 hr => ?_))
    obtain ⟨rfl, rfl⟩ := hr
    refine sg_X2_add_30 (fun c => ?_) (fun c => ?_)
    · rw [pw_lt (by omega) (by omega)] at c
      have e1 : hl_ f e X Y = (Y, X) := by unfold hl_; rw [if_neg (by omega)]
      rw [e1] at A
      exact sg_X2_add_38 (fun _ => sg_X2_add_50 (fun _ => A) (fun z => absurd rfl z)) (fun z => absurd rfl z)
    · rw [pw_lt (by omega) (by omega)] at c
      have e1 : hl_ f e X Y = (X, Y) := by unfold hl_; rw [if_pos (by omega)]
      rw [e1] at A
      exact sg_X2_add_38 (fun z => absurd z (by decide)) (fun _ => sg_X2_add_50 (fun z => absurd z (by decide)) (fun _ => A))
  refine sg_X2_add_10 (fun c => ?_) (fun c => ?_)
  · rw [b1_inj] at c
    exact at18 false (by rw [c]; simp)
  · rw [b1_inj] at c
    exact at18 true (by simp [c])
end
end
