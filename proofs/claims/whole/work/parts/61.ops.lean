/-! ===== Operations: difference, product ===== -/
theorem dif_facts {A B w n : Nat} (hn : w < n) (hA : A < 2 ^ w) (hB : B < 2 ^ w) : (2 ^ n + A - B) % 2 ^ n % 2 ^ w = (2 ^ w + A - B) % 2 ^ w ∧ ((2 ^ n + A - B) % 2 ^ n).testBit w = decide (A < B) := by
  have hp : 2 ^ n = 2 ^ w * 2 ^ (n - w) := by rw [← Nat.pow_add]; congr 1; omega
  have h0 := Nat.two_pow_pos w
  have hlt : 2 ^ w < 2 ^ n := Nat.pow_lt_pow_right (by decide) hn
  by_cases c : A < B
  · have e1 : (2 ^ n + A - B) % 2 ^ n = 2 ^ n - ((B - A - 1) + 1) := by rw [Nat.mod_eq_of_lt (by omega)]; omega
    rw [e1]
    constructor
    · have h1 : 0 < 2 ^ (n - w) := Nat.two_pow_pos _
      have e2 : 2 ^ n - ((B - A - 1) + 1) = 2 ^ w * (2 ^ (n - w) - 1) + (2 ^ w + A - B) := by
        rw [Nat.mul_sub, ← hp]; omega
      rw [e2, Nat.mul_add_mod]
    · rw [Nat.testBit_two_pow_sub_succ (by omega), Nat.testBit_lt_two_pow (show B - A - 1 < 2 ^ w by omega)]
      simp [hn, c]
  · have e1 : (2 ^ n + A - B) % 2 ^ n = A - B := by
      rw [show 2 ^ n + A - B = (A - B) + 2 ^ n by omega, Nat.add_mod_right, Nat.mod_eq_of_lt (by omega)]
    have e2 : (2 ^ w + A - B) % 2 ^ w = A - B := by
      rw [show 2 ^ w + A - B = (A - B) + 2 ^ w by omega, Nat.add_mod_right, Nat.mod_eq_of_lt (by omega)]
    rw [e1, e2]
    constructor
    · exact Nat.mod_eq_of_lt (by omega)
    · rw [Nat.testBit_lt_two_pow (show A - B < 2 ^ w by omega)]
      simp [c]
theorem ng_mod {w A : Nat} (hw : 1 ≤ w) : ng_ w (A % 2 ^ w) = ng_ w A := by
  unfold ng_
  rw [Nat.testBit_mod_two_pow]
  simp [show w - 1 < w by omega]
theorem sn_bd {w A : Nat} (hw : 1 ≤ w) (hA : A < 2 ^ w) : -((2 ^ (w - 1) : Nat) : Int) ≤ sn_ w A ∧ sn_ w A < ((2 ^ (w - 1) : Nat) : Int) := by
  have hp : 2 ^ w = 2 * 2 ^ (w - 1) := by rw [Nat.mul_comm, ← Nat.pow_succ]; congr 1; omega
  unfold sn_
  rw [ng_iff hw hA]
  by_cases c : 2 ^ (w - 1) ≤ A
  · rw [decide_eq_true c, if_pos rfl]; omega
  · rw [decide_eq_false c]; simp only [Bool.false_eq_true, if_false]; omega
/-- the product with sign, from its halves -/
theorem fit_T {w A B : Nat} (hw : 1 ≤ w) (hA : A < 2 ^ w) (hB : B < 2 ^ w) {Y : Nat} (hY : Y < 2 ^ w) {t : Int}
    (ht : (Y : Int) = ((A * B / 2 ^ w : Nat) : Int) - (if ng_ w A then (B : Int) else 0) - (if ng_ w B then (A : Int) else 0) + ((2 ^ w : Nat) : Int) * t) :
    (2 ^ (w - 1) ≤ A * B % 2 ^ w → (Y = 2 ^ w - 1 ↔ sw_ 2 w A B = false)) ∧ (A * B % 2 ^ w < 2 ^ (w - 1) → (Y = 0 ↔ sw_ 2 w A B = false)) := by
  have hp : 2 ^ w = 2 * 2 ^ (w - 1) := by rw [Nat.mul_comm, ← Nat.pow_succ]; congr 1; omega
  have hH : 0 < 2 ^ (w - 1) := Nat.two_pow_pos _
  obtain ⟨a1, a2⟩ := sn_bd hw hA
  obtain ⟨b1, b2⟩ := sn_bd hw hB
  have hU : (A : Int) * B = ((2 ^ w : Nat) : Int) * ((A * B / 2 ^ w : Nat) : Int) + ((A * B % 2 ^ w : Nat) : Int) := by
    have h2 : ((2 ^ w * (A * B / 2 ^ w) + A * B % 2 ^ w : Nat) : Int) = ((A * B : Nat) : Int) := congrArg (fun z : Nat => (z : Int)) (Nat.div_add_mod (A * B) (2 ^ w))
    rw [Int.natCast_add, Int.natCast_mul, Int.natCast_mul A B] at h2
    exact h2.symm
  have hLo := Nat.mod_lt (A * B) (Nat.two_pow_pos w)
  have hsw : sw_ 2 w A B = false ↔ (-((2 ^ (w - 1) : Nat) : Int) ≤ sn_ w A * sn_ w B ∧ sn_ w A * sn_ w B < (2 ^ (w - 1) : Nat)) := by
    show (!decide _) = false ↔ _
    simp
  have hT : ∃ T t' : Int, sn_ w A * sn_ w B = ((2 ^ w : Nat) : Int) * T + ((A * B % 2 ^ w : Nat) : Int) ∧ (Y : Int) = T + ((2 ^ w : Nat) : Int) * t' := by
    unfold sn_
    generalize A * B / 2 ^ w = U at *
    generalize A * B % 2 ^ w = l at *
    generalize ((2 ^ w : Nat) : Int) = M at *
    by_cases ca : ng_ w A <;> by_cases cb : ng_ w B <;> simp only [ca, cb, if_true, if_false, Bool.false_eq_true] at ht ⊢
    · exact ⟨(U : Int) - B - A + M, t - 1, by grind, by grind⟩
    · exact ⟨(U : Int) - B, t, by grind, by grind⟩
    · exact ⟨(U : Int) - A, t, by grind, by grind⟩
    · exact ⟨(U : Int), t, by grind, by grind⟩
  obtain ⟨T, t', hS, hYT⟩ := hT
  rw [hsw]
  generalize sn_ w A = x at *
  generalize sn_ w B = y at *
  generalize A * B % 2 ^ w = l at *
  rw [hp] at hLo hY hS hYT ⊢
  generalize 2 ^ (w - 1) = H at *
  have p1 : 0 ≤ ((H : Int) - x) * ((H : Int) - y) := Int.mul_nonneg (by omega) (by omega)
  have p2 : 0 ≤ ((H : Int) + x) * ((H : Int) + y) := Int.mul_nonneg (by omega) (by omega)
  have p3 : 0 ≤ ((H : Int) - x) * ((H : Int) + y) := Int.mul_nonneg (by omega) (by omega)
  have p4 : 0 ≤ ((H : Int) + x) * ((H : Int) - y) := Int.mul_nonneg (by omega) (by omega)
  have q1 : -((H : Int) * H) ≤ x * y := by
    have e1 : ((H : Int) - x) * ((H : Int) - y) + ((H : Int) + x) * ((H : Int) + y) = 2 * ((H : Int) * H) + 2 * (x * y) := by grind
    omega
  have q2 : x * y ≤ (H : Int) * H := by
    have e1 : ((H : Int) - x) * ((H : Int) + y) + ((H : Int) + x) * ((H : Int) - y) = 2 * ((H : Int) * H) - 2 * (x * y) := by grind
    omega
  generalize x * y = S at *
  have hM : ((2 * H : Nat) : Int) = 2 * (H : Int) := by omega
  rw [hM] at hS hYT
  have hT1 : 2 * T ≤ H := by
    apply Int.not_lt.mp
    intro c
    have h1 : ((H : Int) + 1) * H ≤ (2 * T) * H := Int.mul_le_mul_of_nonneg_right (by omega) (by omega)
    have h2 : ((H : Int) + 1) * H = (H : Int) * H + H := by grind
    have h3 : (2 * T) * H = 2 * (H : Int) * T := by grind
    omega
  have hT2 : -(H : Int) - 2 < 2 * T := by
    apply Int.not_le.mp
    intro c
    have h1 : (2 * T) * H ≤ (-(H : Int) - 2) * H := Int.mul_le_mul_of_nonneg_right (by omega) (by omega)
    have h2 : (-(H : Int) - 2) * H = -((H : Int) * H) - 2 * H := by grind
    have h3 : (2 * T) * H = 2 * (H : Int) * T := by grind
    omega
  have hmul : ∀ z : Int, (1 ≤ z → 2 * (H : Int) ≤ 2 * (H : Int) * z) ∧ (z ≤ -1 → 2 * (H : Int) * z ≤ -(2 * (H : Int))) ∧ (z ≤ -2 → 2 * (H : Int) * z ≤ -(4 * (H : Int))) ∧ (2 ≤ z → 4 * (H : Int) ≤ 2 * (H : Int) * z) := fun z => by
    refine ⟨fun h => ?_, fun h => ?_, fun h => ?_, fun h => ?_⟩
    · have := Int.mul_le_mul_of_nonneg_left h (show 0 ≤ 2 * (H : Int) by omega); omega
    · have := Int.mul_le_mul_of_nonneg_left h (show 0 ≤ 2 * (H : Int) by omega); omega
    · have := Int.mul_le_mul_of_nonneg_left h (show 0 ≤ 2 * (H : Int) by omega); omega
    · have := Int.mul_le_mul_of_nonneg_left h (show 0 ≤ 2 * (H : Int) by omega); omega
  have hz0 : 2 * (H : Int) * 0 = 0 := by omega
  have hz1 : 2 * (H : Int) * 1 = 2 * H := by omega
  have hzm : 2 * (H : Int) * (-1) = -(2 * H) := by omega
  have mT := hmul T
  have mt := hmul t'
  have ct : t' = 0 ∨ t' = 1 := by omega
  have hcT : T = 0 ∨ T = -1 ∨ 1 ≤ T ∨ T ≤ -2 := by omega
  constructor
  · intro hl
    rcases ct with rfl | rfl <;> rcases hcT with rfl | rfl | c | c <;> constructor <;> intro h <;> omega
  · intro hl
    rcases ct with rfl | rfl <;> rcases hcT with rfl | rfl | c | c <;> constructor <;> intro h <;> omega
section
variable {L : Nat} {xs : Nat → Int32} {σ : ks_St}
theorem c_difference {A B w : Nat} (hA : rw_ (sg_ σ 3) 9 A) (hB : rw_ (sg_ σ 4) 9 B) (hs : si_ σ 6 = nI w) (h1 : 1 ≤ w) (hw : w ≤ 512) (hAw : A < 2 ^ w) (hBw : B < 2 ^ w) :
    ks_M L xs mX1_difference rm_X1_difference [.ref 6, .ref 3, .ref 4, .ref 5] σ (pv_ fun σ' => ∃ O, O % 2 ^ w = sp_ 1 w A B ∧ op_ w σ (sc_ 1 w A B) (sw_ 1 w A B) O σ') := by
  have hO := rw_sub (g0 := sg_ σ 5) hA hB
  obtain ⟨d1, d2⟩ := dif_facts (n := 64 * 9) (by omega) hAw hBw
  generalize (2 ^ (64 * 9) + A - B) % 2 ^ (64 * 9) = O at *
  refine ks_body (by decide) (Nat.le_of_ble_eq_true rfl) ?_
  refine sg_X1_difference_0 row_3 row_4 row_5 (cs_X1_difference_3 (c_subtract row_3 row_4 row_5 (by decide) (by decide) (by decide)) (fun σ1 h => ?_))
  subst h
  refine sg_X1_difference_6 row_3 row_4 row_5 (cs_X1_difference_12 (c_bitOrNought row_5) (fun r σ2 h => ?_))
  obtain ⟨rfl, rfl⟩ := h
  rw [sg_self, si_ug, hs, bit_row hO (by omega) (by omega)]
  refine sg_X1_difference_15 row_3 row_4 row_5 ?_
  generalize hσ3 : ui_ (ug_ σ 5 _) 2 _ = σ3
  have g3 : sg_ σ3 3 = sg_ σ 3 := by rw [← hσ3, sg_ui, sg_ne _ _ (by decide)]
  have g4 : sg_ σ3 4 = sg_ σ 4 := by rw [← hσ3, sg_ui, sg_ne _ _ (by decide)]
  have g5 : rw_ (sg_ σ3 5) 9 O := by rw [← hσ3, sg_ui, sg_self]; exact hO
  have s6 : si_ σ3 6 = nI w := by rw [← hσ3, si_ui, if_neg (by decide), si_ug]; exact hs
  have s2 : si_ σ3 2 = b1_ (sc_ 1 w A B) := by rw [← hσ3, si_ui, if_pos rfl, d2]; rfl
  have hf : fo_ σ σ3 := by rw [← hσ3]; exact fr_trans (fr_ug _ _ (by decide)) (fr_ui _ _ (by decide))
  rw [← g3] at hA
  rw [← g4] at hB
  clear hσ3
  have fin : ∀ b, b = sw_ 1 w A B → pv_ (fun σ' => ∃ O, O % 2 ^ w = sp_ 1 w A B ∧ op_ w σ (sc_ 1 w A B) (sw_ 1 w A B) O σ') (.inl none) (ui_ σ3 3 (b1_ b)) := by
    intro b hb
    refine ⟨rfl, O, d1, ?_, ?_, ?_, ?_, ?_⟩
    · rw [sg_ui]; exact g5
    · rw [si_ui, if_neg (by decide)]; exact s2
    · rw [si_ui, if_pos rfl, hb]
    · rw [si_ui, if_neg (by decide)]; exact s6
    · exact fr_trans hf (fr_ui _ _ (by decide))
  refine cs_X1_difference_21 (c_highest row_3 hA s6 h1 hw) (fun r σ4 h => ?_)
  obtain ⟨rfl, rfl⟩ := h
  refine sg_X1_difference_24 row_3 row_4 row_5 (cs_X1_difference_26 (c_highest row_4 hB s6 h1 hw) (fun r σ5 h => ?_))
  obtain ⟨rfl, rfl⟩ := h
  have hsw : sw_ 1 w A B = ((ng_ w A != ng_ w B) && (ng_ w O != ng_ w A)) := by
    rw [← ng_mod h1 (A := O), d1]; rfl
  refine sg_X1_difference_29 row_3 row_5 (fun c => ?_) (fun c => ?_)
  · refine sg_X1_difference_49 (sg_X1_difference_50 (fin false ?_))
    rw [b1_inj] at c
    rw [hsw]; simp [c]
  · refine cs_X1_difference_34 (c_highest row_5 g5 s6 h1 hw) (fun r σ6 h => ?_)
    obtain ⟨rfl, rfl⟩ := h
    refine sg_X1_difference_37 row_3 (cs_X1_difference_39 (c_highest row_3 hA s6 h1 hw) (fun r σ7 h => ?_))
    obtain ⟨rfl, rfl⟩ := h
    rw [b1_inj] at c
    refine sg_X1_difference_42 (fun c2 => ?_) (fun c2 => ?_)
    · refine sg_X1_difference_49 (sg_X1_difference_50 (fin false ?_))
      rw [b1_inj] at c2
      rw [hsw]; simp [c2]
    · refine sg_X1_difference_50 (fin true ?_)
      rw [b1_inj] at c2
      rw [hsw]
      have c' : (ng_ w A != ng_ w B) = true := by simp [c]
      have c2' : (ng_ w O != ng_ w A) = true := by simp [c2]
      rw [c', c2']; rfl
/-- the difference of rows, as an integer -/
theorem sub_int {X B n w : Nat} (hw : w ≤ n) (hX : X < 2 ^ n) (hB : B < 2 ^ n) : ∃ t : Int, (((2 ^ n + X - B) % 2 ^ n : Nat) : Int) = (X : Int) - B + ((2 ^ w : Nat) : Int) * t := by
  have hp : 2 ^ n = 2 ^ w * 2 ^ (n - w) := by rw [← Nat.pow_add]; congr 1; omega
  by_cases c : X < B
  · refine ⟨((2 ^ (n - w) : Nat) : Int), ?_⟩
    rw [Nat.mod_eq_of_lt (by omega)]
    have h2 : ((2 ^ n : Nat) : Int) = ((2 ^ w : Nat) : Int) * ((2 ^ (n - w) : Nat) : Int) := by rw [hp, Int.natCast_mul]
    omega
  · refine ⟨0, ?_⟩
    rw [show 2 ^ n + X - B = (X - B) + 2 ^ n by omega, Nat.add_mod_right, Nat.mod_eq_of_lt (by omega)]
    omega
theorem c_fitsWithSign {A B w : Nat} (hA : rw_ (sg_ σ 3) 9 A) (hB : rw_ (sg_ σ 4) 9 B) (hU : rw_ (sg_ σ 5) 9 (A * B / 2 ^ w)) (hP : rw_ (sg_ σ 8) 16 (A * B)) (hs : si_ σ 6 = nI w) (h1 : 1 ≤ w) (hw : w ≤ 512) (hAw : A < 2 ^ w) (hBw : B < 2 ^ w) :
    ks_M L xs mX1_fitsWithSign rm_X1_fitsWithSign [.ref 6, .ref 3, .ref 4, .ref 5] σ (pi_ fun r σ' => r = b1_ (!sw_ 2 w A B) ∧ ∃ g, σ' = ug_ σ 5 g) := by
  refine ks_body (by decide) (Nat.le_of_ble_eq_true rfl) ?_
  refine sg_X1_fitsWithSign_0 row_3 row_4 row_5 (cs_X1_fitsWithSign_13 (c_bitOrNought row_8) (fun r σ1 h => ?_))
  obtain ⟨rfl, rfl⟩ := h
  have e1 : si_ σ1 6 - 1 = nI (w - 1) := by
    rw [hs]
    obtain ⟨v, rfl⟩ : ∃ v, w = v + 1 := ⟨w - 1, by omega⟩
    exact nI_pred v
  rw [e1, bit_row hP (by omega) (by omega)]
  refine sg_X1_fitsWithSign_16 row_3 row_4 row_5 (cs_X1_fitsWithSign_20 (c_highest row_3 hA hs h1 hw) (fun r σ2 h => ?_))
  obtain ⟨rfl, rfl⟩ := h
  have hA9 : A < 2 ^ 576 := hA.1
  have hB9 : B < 2 ^ 576 := hB.1
  -- behind both differences
  have step3 : ∀ g X, rw_ g 9 X → (∃ t : Int, (X : Int) = ((A * B / 2 ^ w : Nat) : Int) - (if ng_ w A then (B : Int) else 0) - (if ng_ w B then (A : Int) else 0) + ((2 ^ w : Nat) : Int) * t) →
      ks_W L xs mX1_fitsWithSign rm_X1_fitsWithSign 48 [(0, .ref 6), (3, .ref 5), (4, .int (if (A * B).testBit (w - 1) = true then 1 else 0))] [] (ug_ σ2 5 g) 0 0 (pi_ fun r σ' => r = b1_ (!sw_ 2 w A B) ∧ ∃ g, σ' = ug_ σ2 5 g) := by
    intro g X hX hXt
    refine sg_X1_fitsWithSign_48 row_5 ?_
    rw [si_ug, hs]
    refine cs_X1_fitsWithSign_53 (c_cut row_5) (fun σ4 h => ?_)
    subst h
    rw [ug_ug, sg_self]
    have hc := rw_cut (w := w) hX (by omega) (by omega)
    have hYlt : X % 2 ^ w < 2 ^ w := Nat.mod_lt _ (Nat.two_pow_pos _)
    obtain ⟨t, ht⟩ := hXt
    have hYt : ((X % 2 ^ w : Nat) : Int) = ((A * B / 2 ^ w : Nat) : Int) - (if ng_ w A then (B : Int) else 0) - (if ng_ w B then (A : Int) else 0) + ((2 ^ w : Nat) : Int) * (t - ((X / 2 ^ w : Nat) : Int)) := by
      have h2 : ((2 ^ w * (X / 2 ^ w) + X % 2 ^ w : Nat) : Int) = (X : Int) := congrArg (fun z : Nat => (z : Int)) (Nat.div_add_mod X (2 ^ w))
      rw [Int.natCast_add, Int.natCast_mul] at h2
      rw [Int.mul_sub]
      omega
    obtain ⟨f1, f2⟩ := fit_T h1 hAw hBw hYlt hYt
    have hbit : (A * B).testBit (w - 1) = decide (2 ^ (w - 1) ≤ A * B % 2 ^ w) := by
      have := ng_iff h1 (Nat.mod_lt (A * B) (Nat.two_pow_pos w))
      rw [ng_mod h1] at this
      exact this
    generalize X % 2 ^ w = Y at *
    refine sg_X1_fitsWithSign_56 row_5 (fun c => ?_) (fun c => ?_)
    · have c' : A * B % 2 ^ w < 2 ^ (w - 1) := by
        rw [hbit] at c
        apply Nat.lt_of_not_le
        intro h
        rw [decide_eq_true h] at c
        exact c rfl
      have f := f2 c'
      refine cs_X1_fitsWithSign_86 (c_isNought row_5) (fun r σ5 h => ?_)
      obtain ⟨rfl, rfl⟩ := h
      rw [sg_self]
      by_cases z : Y = 0
      · rw [if_pos ((rw_nought hc).mpr z)]
        exact sg_X1_fitsWithSign_89 rfl ⟨_, rfl, by rw [f.mp z]; rfl, _, rfl⟩
      · rw [if_neg (fun q => z ((rw_nought hc).mp q))]
        refine sg_X1_fitsWithSign_89 rfl ⟨_, rfl, ?_, _, rfl⟩
        have : sw_ 2 w A B = true := by
          cases q : sw_ 2 w A B
          · exact absurd (f.mpr q) z
          · rfl
        rw [this]; rfl
    · have c' : 2 ^ (w - 1) ≤ A * B % 2 ^ w := by
        rw [hbit] at c
        apply Nat.le_of_not_lt
        intro h
        rw [decide_eq_false (by omega)] at c
        exact absurd c (by decide)
      have f := f1 c'
      rw [si_ug, hs]
      refine cs_X1_fitsWithSign_67 (c_negate row_5) (fun σ5 h => ?_)
      subst h
      rw [ug_ug, sg_self]
      have hn := rw_negate (w := w) hc (by omega) (by omega)
      refine sg_X1_fitsWithSign_70 row_5 (cs_X1_fitsWithSign_72 (c_atMost (most := 2) row_5 (by omega) (by rw [sg_self]; exact hn) (by omega)) (fun r σ6 h => ?_))
      obtain ⟨rfl, rfl⟩ := h
      have hp : 2 ≤ 2 ^ w := by
        have := Nat.pow_le_pow_right (show 0 < 2 by decide) h1
        omega
      have hz : nI (min ((2 ^ w - Y % 2 ^ w) % 2 ^ w) 2) = 1 ↔ Y = 2 ^ w - 1 := by
        rw [show (1 : Int32) = nI 1 from rfl, nI_eq (by omega) (by omega), Nat.mod_eq_of_lt hYlt]
        by_cases z : Y = 0
        · subst z; rw [Nat.sub_zero, Nat.mod_self]; omega
        · rw [Nat.mod_eq_of_lt (show 2 ^ w - Y < 2 ^ w by omega)]; omega
      refine sg_X1_fitsWithSign_75 (fun c2 => ?_) (fun c2 => ?_)
      · refine sg_X1_fitsWithSign_84 rfl ⟨_, rfl, ?_, _, rfl⟩
        have : sw_ 2 w A B = true := by
          cases q : sw_ 2 w A B
          · exact absurd (hz.mpr (f.mpr q)) c2
          · rfl
        rw [this]; rfl
      · refine sg_X1_fitsWithSign_84 rfl ⟨_, rfl, ?_, _, rfl⟩
        rw [f.mp (hz.mp c2)]; rfl
  have step2 : ∀ g X, rw_ g 9 X → (∃ t : Int, (X : Int) = ((A * B / 2 ^ w : Nat) : Int) - (if ng_ w A then (B : Int) else 0) + ((2 ^ w : Nat) : Int) * t) →
      ks_W L xs mX1_fitsWithSign rm_X1_fitsWithSign 33 [(0, .ref 6), (1, .ref 3), (2, .ref 4), (3, .ref 5), (4, .int (if (A * B).testBit (w - 1) = true then 1 else 0))] [] (ug_ σ2 5 g) 0 0 (pi_ fun r σ' => r = b1_ (!sw_ 2 w A B) ∧ ∃ g, σ' = ug_ σ2 5 g) := by
    intro g X hX hXt
    obtain ⟨t, ht⟩ := hXt
    refine sg_X1_fitsWithSign_33 row_3 row_4 row_5 (cs_X1_fitsWithSign_35 (c_highest row_4 (by rw [sg_ne _ _ (by decide)]; exact hB) (by rw [si_ug]; exact hs) h1 hw) (fun r σ4 h => ?_))
    obtain ⟨rfl, rfl⟩ := h
    refine sg_X1_fitsWithSign_38 row_3 row_5 (fun c => ?_) (fun c => ?_)
    · rw [b1_1] at c
      exact step3 g X hX ⟨t, by rw [if_neg c, ht]; omega⟩
    · rw [b1_1] at c
      refine cs_X1_fitsWithSign_45 (c_subtract row_5 row_3 row_5 (by decide) (by decide) (by decide)) (fun σ5 h => ?_)
      subst h
      rw [ug_ug, sg_self, sg_ne _ _ (show 3 ≠ 5 by decide)]
      obtain ⟨t2, ht2⟩ := sub_int (X := X) (B := A) (n := 64 * 9) (w := w) (by omega) hX.1 hA.1
      refine step3 _ _ (rw_sub hX hA) ⟨t + t2, ?_⟩
      rw [ht2, ht, if_pos c, Int.mul_add]
      omega
  refine sg_X1_fitsWithSign_23 row_3 row_4 row_5 (fun c => ?_) (fun c => ?_)
  · rw [b1_1] at c
    have := step2 _ _ hU ⟨0, by rw [if_neg c]; omega⟩
    rw [ug_id] at this
    exact this
  · rw [b1_1] at c
    refine cs_X1_fitsWithSign_30 (c_subtract row_5 row_4 row_5 (by decide) (by decide) (by decide)) (fun σ5 h => ?_)
    subst h
    obtain ⟨t2, ht2⟩ := sub_int (X := A * B / 2 ^ w) (B := B) (n := 64 * 9) (w := w) (by omega) hU.1 hB.1
    refine step2 _ _ (rw_sub hU hB) ⟨t2, ?_⟩
    rw [ht2, if_pos c]
theorem c_product {A B w k : Nat} (hk : k = 2 ∨ k = 3) (hA : rw_ (sg_ σ 3) 9 A) (hB : rw_ (sg_ σ 4) 9 B) (hs : si_ σ 6 = nI w) (hs2 : si_ σ 2 = 0) (hs3 : si_ σ 3 = 0) (h1 : 1 ≤ w) (hw : w ≤ 512) (hAw : A < 2 ^ w) (hBw : B < 2 ^ w) :
    ks_M L xs mX1_product rm_X1_product [.ref 6, .int (nI k), .ref 3, .ref 4, .ref 5] σ (pv_ fun σ' => ∃ O, O % 2 ^ w = sp_ k w A B ∧ op_ w σ (sc_ k w A B) (sw_ k w A B) O σ') := by
  have hABlt : A * B < 2 ^ w * 2 ^ w := Nat.mul_lt_mul'' hAw hBw
  have hUlt : A * B / 2 ^ w < 2 ^ w := Nat.div_lt_of_lt_mul hABlt
  have h512 : 2 ^ w ≤ 2 ^ 512 := Nat.pow_le_pow_right (by decide) hw
  have hU576 : A * B / 2 ^ w % 2 ^ (64 * 9) = A * B / 2 ^ w := Nat.mod_eq_of_lt (by omega)
  refine ks_body (by decide) (Nat.le_of_ble_eq_true rfl) ?_
  refine sg_X1_product_0 row_3 row_4 row_5 ?_
  rw [hs]
  refine cs_X1_product_10 (c_multiply row_3 row_4 (by decide) (by decide) (by decide) hA hB hw hAw hBw) (fun σ1 h => ?_)
  obtain ⟨hP, hf1⟩ := h
  have i1 : ∀ j, si_ σ1 j = si_ σ j := fun j => hf1.1 j (by simp)
  have g3 : sg_ σ1 3 = sg_ σ 3 := hf1.2.2.2 3 (by decide)
  have g4 : sg_ σ1 4 = sg_ σ 4 := hf1.2.2.2 4 (by decide)
  refine sg_X1_product_13 row_3 row_4 row_5 ?_
  rw [i1, hs]
  refine cs_X1_product_27 (c_moveUp row_8 row_5 (by decide)) (fun σ2 h => ?_)
  subst h
  have hU := rw_down (g0 := sg_ σ1 5) (no := 9) (s := w) hP (by omega) (by omega) (by omega)
  rw [hU576] at hU
  have hf2 : fo_ σ σ1 := fr_mono hf1 (by decide) (by decide) (by decide) (by decide)
  generalize hg : (fun k => if k < 9 then km_bits (sg_ σ1 8) 16 (nI k * 64 - -nI w) else sg_ σ1 5 k) = g at *
  refine sg_X1_product_30 row_3 row_4 row_5 (fun c => ?_) (fun c => ?_)
  · have k2 : k = 2 := by
      rcases hk with h | h
      · exact h
      · subst h; exact absurd rfl c
    subst k2
    refine cs_X1_product_39 (c_isNought row_5) (fun r σ3 h => ?_)
    obtain ⟨rfl, rfl⟩ := h
    rw [sg_self]
    have fin : ∀ b, b = sc_ 2 w A B → ks_W L xs mX1_product rm_X1_product 50 [(0, .ref 6), (2, .ref 3), (3, .ref 4), (4, .ref 5)] [.int (b1_ b), .ref 6] (ug_ σ1 5 g) 0 0 (pv_ fun σ' => ∃ O, O % 2 ^ w = sp_ 2 w A B ∧ op_ w σ (sc_ 2 w A B) (sw_ 2 w A B) O σ') := by
      intro b hb
      refine sg_X1_product_50 row_3 row_4 row_5 ?_
      refine cs_X1_product_58 (c_fitsWithSign (A := A) (B := B) (w := w) (by rw [sg_ui, sg_ne _ _ (by decide), g3]; exact hA) (by rw [sg_ui, sg_ne _ _ (by decide), g4]; exact hB) (by rw [sg_ui, sg_self]; exact hU) (by rw [sg_ui, sg_ne _ _ (by decide)]; exact hP) (by rw [si_ui, if_neg (by decide), si_ug, i1]; exact hs) h1 hw hAw hBw) (fun r σ4 h => ?_)
      obtain ⟨rfl, g', rfl⟩ := h
      refine sg_X1_product_61 row_5 (cs_X1_product_73 (c_moveUp row_8 row_5 (by decide)) (fun σ5 h => ?_))
      have hO := fun g0 => rw_up (g0 := g0) (no := 9) (s := 0) hP (by omega) (by omega) (by omega) (by omega)
      rw [Nat.pow_zero, Nat.mul_one] at hO
      have g8 : sg_ (ug_ (ui_ (ug_ σ1 5 g) 2 (b1_ b)) 5 g') 8 = sg_ σ1 8 := by rw [sg_ne _ _ (by decide), sg_ui, sg_ne _ _ (by decide)]
      rw [g8] at h
      have q5 : rw_ (sg_ σ5 5) 9 (A * B % 2 ^ (64 * 9)) := by rw [h, sg_self]; exact hO _
      have q2 : si_ σ5 2 = b1_ (sc_ 2 w A B) := by rw [h, si_ug, si_ug, si_ui, if_pos rfl, hb]
      have q6 : si_ σ5 6 = nI w := by rw [h, si_ug, si_ug, si_ui, if_neg (by decide), si_ug, i1]; exact hs
      have qf : fo_ σ σ5 := by
        rw [h]
        exact fr_trans hf2 (fr_trans (fr_trans (fr_trans (fr_ug _ _ (by decide)) (fr_ui _ _ (by decide))) (fr_ug _ _ (by decide))) (fr_ug _ _ (by decide)))
      have fin2 : ∀ v, v = sw_ 2 w A B → pv_ (fun σ' => ∃ O, O % 2 ^ w = sp_ 2 w A B ∧ op_ w σ (sc_ 2 w A B) (sw_ 2 w A B) O σ') (.inl none) (ui_ σ5 3 (b1_ v)) := by
        intro v hv
        refine ⟨rfl, A * B % 2 ^ (64 * 9), ?_, ?_, ?_, ?_, ?_, ?_⟩
        · have hd : (2 ^ w) ∣ 2 ^ (64 * 9) := Nat.pow_dvd_pow 2 (by omega)
          rw [Nat.mod_mod_of_dvd _ hd]; rfl
        · rw [sg_ui]; exact q5
        · rw [si_ui, if_neg (by decide)]; exact q2
        · rw [si_ui, if_pos rfl, hv]
        · rw [si_ui, if_neg (by decide)]; exact q6
        · exact fr_trans qf (fr_ui _ _ (by decide))
      refine sg_X1_product_76 (fun c => ?_) (fun c => ?_)
      · rw [b1_0] at c
        exact sg_X1_product_87 (fin2 true (by simpa using c.symm))
      · rw [b1_0] at c
        exact sg_X1_product_87 (fin2 false (by simpa using c))
    have hsc : sc_ 2 w A B = decide (A * B / 2 ^ w ≠ 0) := rfl
    refine sg_X1_product_42 row_3 row_4 row_5 (fun c => ?_) (fun c => ?_)
    · refine fin true ?_
      rw [hsc]
      have : ¬ A * B / 2 ^ w = 0 := fun z => by
        rw [if_pos ((rw_nought hU).mpr z)] at c
        exact absurd c (by decide)
      simp only [ne_eq, this, not_false_eq_true, decide_true]
    · refine fin false ?_
      rw [hsc]
      have : A * B / 2 ^ w = 0 := by
        apply (rw_nought hU).mp
        apply Classical.byContradiction
        intro z
        rw [if_neg z] at c
        exact c rfl
      simp only [this, ne_eq, not_true_eq_false, decide_false]
  · have k3 : k = 3 := by
      rcases hk with h | h
      · subst h; exact absurd c (by decide)
      · exact h
    subst k3
    refine ⟨rfl, A * B / 2 ^ w, Nat.mod_eq_of_lt hUlt, ?_, ?_, ?_, ?_, ?_⟩
    · rw [sg_self]; exact hU
    · rw [si_ug, i1, hs2]; rfl
    · rw [si_ug, i1, hs3]; rfl
    · rw [si_ug, i1]; exact hs
    · exact fr_trans hf2 (fr_ug _ _ (by decide))
end
