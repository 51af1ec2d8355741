/-! ===== what the operations answer, in numbers ===== -/
def b1_ (b : Bool) : Int32 := if b then 1 else 0
theorem b1_t : b1_ true = 1 := rfl
theorem b1_f : b1_ false = 0 := rfl
theorem b1_1 {b : Bool} : b1_ b = 1 ↔ b = true := by cases b <;> decide
theorem b1_0 {b : Bool} : b1_ b = 0 ↔ b = false := by cases b <;> decide
theorem b1_inj {a b : Bool} : b1_ a = b1_ b ↔ a = b := by cases a <;> cases b <;> decide
theorem b1_b (b : Bool) : narrow .boolean (.int (b1_ b)) = .int (b1_ b) := by cases b <;> rfl
theorem b1_nI (b : Bool) : b1_ b = nI (if b then 1 else 0) := by cases b <;> rfl
/-- the number whose bits below n are f's -/
def bo_ (f : Nat → Bool) : Nat → Nat
  | 0 => 0
  | n + 1 => bo_ f n + (if f n then 2 ^ n else 0)
theorem bo_lt (f : Nat → Bool) : ∀ n, bo_ f n < 2 ^ n
  | 0 => by simp [bo_]
  | n + 1 => by
    have ih := bo_lt f n
    rw [bo_, Nat.pow_succ]
    split <;> omega
theorem bo_bit (f : Nat → Bool) : ∀ n k, (bo_ f n).testBit k = (decide (k < n) && f k)
  | 0, k => by simp [bo_]
  | n + 1, k => by
    have ih := bo_bit f n k
    have hl := bo_lt f n
    rw [bo_]
    by_cases hf : f n
    · rw [if_pos hf, Nat.add_comm]
      by_cases e : k = n
      · subst e
        rw [Nat.testBit_two_pow_add_eq, ih]
        simp [hf]
      · by_cases h : k < n
        · rw [Nat.testBit_two_pow_add_gt h, ih]
          simp [h, Nat.lt_succ_of_lt h]
        · rw [Nat.testBit_lt_two_pow (show 2 ^ n + bo_ f n < 2 ^ k from Nat.lt_of_lt_of_le (show 2 ^ n + bo_ f n < 2 ^ (n + 1) by rw [Nat.pow_succ]; omega) (Nat.pow_le_pow_right (by decide) (by omega)))]
          simp [show ¬ k < n + 1 by omega]
    · rw [if_neg hf, Nat.add_zero, ih]
      by_cases e : k = n
      · subst e; simp [hf]
      · by_cases h : k < n
        · simp [h, Nat.lt_succ_of_lt h]
        · simp [h, show ¬ k < n + 1 by omega]
theorem nat_ext {A B w : Nat} (hA : A < 2 ^ w) (hB : B < 2 ^ w) (h : ∀ k, k < w → A.testBit k = B.testBit k) : A = B := by
  apply Nat.eq_of_testBit_eq
  intro k
  by_cases c : k < w
  · exact h k c
  · rw [Nat.testBit_lt_two_pow (Nat.lt_of_lt_of_le hA (Nat.pow_le_pow_right (by decide) (by omega))), Nat.testBit_lt_two_pow (Nat.lt_of_lt_of_le hB (Nat.pow_le_pow_right (by decide) (by omega)))]
theorem bo_eq {f : Nat → Bool} {w V : Nat} (hV : V < 2 ^ w) (h : ∀ k, k < w → f k = V.testBit k) : bo_ f w = V :=
  nat_ext (bo_lt f w) hV (fun k hk => by rw [bo_bit, h k hk]; simp [hk])
/-- the highest bit of a word of w bits -/
def ng_ (w A : Nat) : Bool := A.testBit (w - 1)
theorem ng_iff {w A : Nat} (hw : 1 ≤ w) (hA : A < 2 ^ w) : ng_ w A = decide (2 ^ (w - 1) ≤ A) := by
  unfold ng_
  obtain ⟨v, rfl⟩ : ∃ v, w = v + 1 := ⟨w - 1, by omega⟩
  rw [Nat.add_sub_cancel, Nat.testBit_eq_decide_div_mod_eq]
  rw [Nat.pow_succ] at hA
  have h0 := Nat.two_pow_pos v
  apply decide_eq_decide.mpr
  constructor
  · intro h
    apply Nat.le_of_not_lt
    intro c
    rw [Nat.div_eq_of_lt c] at h
    omega
  · intro h
    have h1 : A / 2 ^ v = 1 := Nat.div_eq_of_lt_le (by omega) (by omega)
    rw [h1]
def am_ (w A : Nat) : Nat := if ng_ w A then 2 ^ w - A else A
def nt_ (w A : Nat) : Nat := (2 ^ w - A % 2 ^ w) % 2 ^ w
def sn_ (w A : Nat) : Int := if ng_ w A then (A : Int) - (2 ^ w : Nat) else A
def rt_ (w A n : Nat) : Nat := (A * 2 ^ n % 2 ^ w) ||| (A / 2 ^ (w - n))
def sp_ (k w A B : Nat) : Nat := match k with
  | 0 => (A + B) % 2 ^ w
  | 1 => (2 ^ w + A - B) % 2 ^ w
  | 2 => A * B % 2 ^ w
  | 3 => A * B / 2 ^ w
  | 4 => A / B
  | 5 => A % B
  | 6 => if ng_ w A = ng_ w B then am_ w A / am_ w B else nt_ w (am_ w A / am_ w B)
  | 7 => if ng_ w A then nt_ w (am_ w A % am_ w B) else am_ w A % am_ w B
  | 8 => A * 2 ^ (min B (w + 1)) % 2 ^ w
  | 9 => A / 2 ^ (min B (w + 1))
  | 10 => if ng_ w A then (A / 2 ^ (min B (w + 1))) ||| (2 ^ w - 2 ^ (w - min B (w + 1))) else A / 2 ^ (min B (w + 1))
  | 11 => rt_ w A (B % w)
  | 12 => rt_ w A (w - B % w)
  | 13 => A &&& B
  | 14 => A ||| B
  | 15 => A ^^^ B
  | 16 => 2 ^ w - 1 - A
  | 17 => bo_ (fun k => A.testBit (w - 1 - k)) w
  | _ => bo_ (fun k => A.testBit (w - 8 - k / 8 * 8 + k % 8)) w
/-- the carry .. -/
def sc_ (k w A B : Nat) : Bool := match k with
  | 0 => (A + B).testBit w
  | 1 => decide (A < B)
  | 2 => decide (A * B / 2 ^ w ≠ 0)
  | 8 => decide (1 ≤ min B (w + 1) ∧ min B (w + 1) ≤ w) && A.testBit (w - min B (w + 1))
  | 9 => decide (1 ≤ min B (w + 1) ∧ min B (w + 1) ≤ w) && A.testBit (min B (w + 1) - 1)
  | 10 => if w < min B (w + 1) then ng_ w A else decide (1 ≤ min B (w + 1)) && A.testBit (min B (w + 1) - 1)
  | _ => false
/-- .. and the overflow -/
def sw_ (k w A B : Nat) : Bool := match k with
  | 0 => (ng_ w A == ng_ w B) && ((A + B).testBit (w - 1) != ng_ w A)
  | 1 => (ng_ w A != ng_ w B) && (((2 ^ w + A - B) % 2 ^ w).testBit (w - 1) != ng_ w A)
  | 2 => !decide (-((2 ^ (w - 1) : Nat) : Int) ≤ sn_ w A * sn_ w B ∧ sn_ w A * sn_ w B < (2 ^ (w - 1) : Nat))
  | 6 => (ng_ w A == ng_ w B) && (am_ w A / am_ w B).testBit (w - 1)
  | _ => false
theorem nt_lt (w A : Nat) : nt_ w A < 2 ^ w := Nat.mod_lt _ (Nat.two_pow_pos w)
theorem am_le {w A : Nat} (hw : 1 ≤ w) (hA : A < 2 ^ w) : am_ w A ≤ 2 ^ (w - 1) := by
  unfold am_
  have hp : 2 ^ w = 2 ^ (w - 1) * 2 := by rw [← Nat.pow_succ]; congr 1; omega
  rw [ng_iff hw hA]
  by_cases c : 2 ^ (w - 1) ≤ A
  · rw [decide_eq_true c, if_pos rfl]; omega
  · rw [decide_eq_false c]; simp; omega
theorem am_pos {w A : Nat} (hA : A < 2 ^ w) (h0 : A ≠ 0) : am_ w A ≠ 0 := by
  unfold am_
  split <;> omega
theorem am_lt {w A : Nat} (hw : 1 ≤ w) (hA : A < 2 ^ w) : am_ w A < 2 ^ w := by
  have h := am_le hw hA
  have : 2 ^ (w - 1) < 2 ^ w := Nat.pow_lt_pow_right (by decide) (by omega)
  omega
theorem nt_am {w A : Nat} (hA : A < 2 ^ w) (h : ng_ w A = true) : nt_ w A = am_ w A := by
  unfold nt_ am_
  rw [if_pos h, Nat.mod_eq_of_lt hA]
  apply Nat.mod_eq_of_lt
  have h0 : A ≠ 0 := fun z => by rw [z] at h; simp [ng_] at h
  omega
theorem rt_lt {w A n : Nat} (hA : A < 2 ^ w) : rt_ w A n < 2 ^ w := Nat.or_lt_two_pow (Nat.mod_lt _ (Nat.two_pow_pos _)) (Nat.lt_of_le_of_lt (Nat.div_le_self _ _) hA)
/-- the answer is a word -/
theorem sp_lt {k w A B : Nat} (hw : 1 ≤ w) (hA : A < 2 ^ w) (hB : B < 2 ^ w) : sp_ k w A B < 2 ^ w := by
  have h0 := Nat.two_pow_pos w
  have hd : ∀ x, A / x < 2 ^ w := fun x => Nat.lt_of_le_of_lt (Nat.div_le_self _ _) hA
  have ha := am_lt hw hA
  unfold sp_
  split
  · exact Nat.mod_lt _ h0
  · exact Nat.mod_lt _ h0
  · exact Nat.mod_lt _ h0
  · exact Nat.div_lt_of_lt_mul (Nat.mul_lt_mul'' hA hB)
  · exact hd _
  · exact Nat.lt_of_le_of_lt (Nat.mod_le _ _) hA
  · split
    · exact Nat.lt_of_le_of_lt (Nat.div_le_self _ _) ha
    · exact nt_lt _ _
  · split
    · exact nt_lt _ _
    · exact Nat.lt_of_le_of_lt (Nat.mod_le _ _) ha
  · exact Nat.mod_lt _ h0
  · exact hd _
  · split
    · have := Nat.two_pow_pos (w - min B (w + 1))
      exact Nat.or_lt_two_pow (hd _) (by omega)
    · exact hd _
  · exact rt_lt hA
  · exact rt_lt hA
  · exact Nat.and_lt_two_pow _ hB
  · exact Nat.or_lt_two_pow hA hB
  · exact Nat.xor_lt_two_pow hA hB
  · omega
  · exact bo_lt _ _
  · exact bo_lt _ _
section
variable {L : Nat} {xs : Nat → Int32} {σ : ks_St}
theorem un_cat {x y : Int64} (hx : un_ x < 2 ^ 32) (hy : un_ y < 2 ^ 32) : (x <<< ((32 : Int32).toInt64 &&& 63)) ||| y = lN (un_ x * 2 ^ 32 + un_ y) := by
  apply un_inj
  rw [un_lN, un_or, Nat.or_comm, ← un_or, un_join hy hx]
  omega
theorem c_restBy {a n V d : Nat} (ha : rl_ a n) (hV : rw_ (sg_ σ a) n V) (h0 : 0 < d) (hd : d < 2 ^ 20) : ks_M L xs mX3_restBy rm_X3_restBy [.ref a, .int (nI d)] σ (pi_ fun r σ' => r = nI (V % d) ∧ σ' = σ) := by
  have hn := rl_n ha
  refine ks_body (by decide) (Nat.le_of_ble_eq_true rfl) ?_
  have hc : (0 : Int32) < nI d := nI_lt (a := 0) h0 (by omega)
  refine sg_X3_restBy_0 ha (fun _ => ?_) (fun c => absurd hc c)
  have hdl : (nI d).toInt64 = lN d := nI_l (by omega)
  have key : ∀ i s x, (s = σ ∧ i ≤ n ∧ x = lN (V / 2 ^ (64 * i) % d)) → ks_W L xs mX3_restBy rm_X3_restBy 14 [(0, .ref a), (1, .int (nI d)), (2, .long x), (4, .int (nI i - 1))] [] s 0 0 (pi_ fun r σ' => r = nI (V % d) ∧ σ' = σ) := by
    refine lpd2_ (fun i s x => ks_W L xs mX3_restBy rm_X3_restBy 14 [(0, .ref a), (1, .int (nI d)), (2, .long x), (4, .int (nI i - 1))] [] s 0 0 _) (fun i s x => s = σ ∧ i ≤ n ∧ x = lN (V / 2 ^ (64 * i) % d)) ?_ ?_
    · intro i s x e kk
      obtain ⟨rfl, hi, rfl⟩ := e
      have hin : vp_in (nI i) n := vp_in_nI (by omega) (by omega)
      have hz : ¬ (nI d).toInt64 = 0 := by
        rw [hdl, show (0 : Int64) = lN 0 from rfl, pk_lEQ (by omega) (by omega)]; omega
      rw [nI_pred]
      refine sg_X3_restBy_14 ha (fun c => absurd c (nI_pos (by omega))) (fun _ => hin) (fun _ => hz) (fun _ => hin) (fun _ => hz) (fun _ => ?_)
      rw [show nI i + (-1) = nI i - 1 by rw [Int32.sub_eq_add_neg], nI_clamp (by omega), hdl]
      have hv := hV.2 i (by omega)
      generalize sg_ s a i = X at hv
      have hX := un_lt X
      have hhi := un_hi X
      have hlo := un_lo X
      have e1 : V / 2 ^ (64 * i) = V / 2 ^ (64 * (i + 1)) * 2 ^ 64 + un_ X := by
        rw [hv, show 64 * (i + 1) = 64 * i + 64 by omega, Nat.pow_add, ← Nat.div_div_eq_div_mul]; omega
      generalize V / 2 ^ (64 * (i + 1)) = Y at e1
      have hr := Nat.mod_lt Y h0
      have hnr : ∀ z, z < d → un_ (lN z) = z := fun z hz => by rw [un_lN]; omega
      have f1 := un_cat (x := lN (Y % d)) (y := (X.toUInt64 >>> ((32 : Int32).toInt64.toUInt64 &&& Int64.toUInt64 63)).toInt64) (by rw [hnr _ hr]; omega) (by rw [hhi]; omega)
      rw [hnr _ hr, hhi] at f1
      rw [f1, pk_lRem (by omega) h0 (by omega)]
      have hr2 := Nat.mod_lt (Y % d * 2 ^ 32 + un_ X / 2 ^ 32) h0
      have f2 := un_cat (x := lN ((Y % d * 2 ^ 32 + un_ X / 2 ^ 32) % d)) (y := X &&& 4294967295) (by rw [hnr _ hr2]; omega) (by rw [hlo]; omega)
      rw [hnr _ hr2, hlo] at f2
      rw [f2, pk_lRem (by omega) h0 (by omega)]
      refine kk _ _ ⟨rfl, by omega, ?_⟩
      rw [e1]
      have f3 : ∀ p q : Nat, (p % d * 2 ^ 32 + q) % d = (p * 2 ^ 32 + q) % d := fun p q => by
        rw [Nat.add_mod, Nat.mod_mul_mod, ← Nat.add_mod]
      have f4 : (Y * 2 ^ 32 + un_ X / 2 ^ 32) * 2 ^ 32 + un_ X % 2 ^ 32 = Y * 2 ^ 64 + un_ X := by omega
      rw [f3 Y, f3, f4]
    · intro s x e
      obtain ⟨rfl, hi, rfl⟩ := e
      have hneg : nI 0 - 1 < (0 : Int32) := by decide
      refine sg_X3_restBy_14 ha (fun _ => ⟨_, rfl, ?_, rfl⟩) (fun c => absurd hneg c) (fun c => absurd hneg c) (fun c => absurd hneg c) (fun c => absurd hneg c) (fun c => absurd hneg c)
      rw [lN_i, Nat.mul_zero, Nat.pow_zero, Nat.div_one]
  have hV0 : V / 2 ^ (64 * n) % d = 0 := by rw [Nat.div_eq_of_lt hV.1, Nat.zero_mod]
  exact key n σ 0 ⟨rfl, Nat.le_refl _, by rw [hV0]; rfl⟩
/-! the operations -/
def fo_ (σ σ' : ks_St) : Prop := fr_ [2, 3, 4, 5, 6] [] [] [3, 4, 5, 8, 9, 10, 11, 12, 13, 14, 15] σ σ'
/-- what one of them leaves: its row, uncut, and two flags -/
def op_ (w : Nat) (σ : ks_St) (c v : Bool) (O : Nat) (σ' : ks_St) : Prop := rw_ (sg_ σ' 5) 9 O ∧ si_ σ' 2 = b1_ c ∧ si_ σ' 3 = b1_ v ∧ si_ σ' 6 = nI w ∧ fo_ σ σ'
theorem c_highest {a n V w : Nat} (ha : rl_ a n) (hV : rw_ (sg_ σ a) n V) (hs : si_ σ 6 = nI w) (h1 : 1 ≤ w) (hw : w ≤ 512) : ks_M L xs mX1_highest rm_X1_highest [.ref 6, .ref a] σ (pi_ fun r σ' => r = b1_ (ng_ w V) ∧ σ' = σ) := by
  have hn := rl_n ha
  refine ks_body (by decide) (Nat.le_of_ble_eq_true rfl) ?_
  refine sg_X1_highest_0 ha (cs_X1_highest_7 (c_bitOrNought ha) (fun r σ1 h => ?_))
  obtain ⟨rfl, rfl⟩ := h
  refine sg_X1_highest_10 ⟨_, rfl, ?_, rfl⟩
  obtain ⟨v, rfl⟩ : ∃ v, w = v + 1 := ⟨w - 1, by omega⟩
  rw [hs, nI_pred, bit_row hV (by omega) (by omega)]
  rfl
theorem c_sum {A B w : Nat} (hA : rw_ (sg_ σ 3) 9 A) (hB : rw_ (sg_ σ 4) 9 B) (hs : si_ σ 6 = nI w) (h1 : 1 ≤ w) (hw : w ≤ 512) (hAw : A < 2 ^ w) (hBw : B < 2 ^ w) :
    ks_M L xs mX1_sum rm_X1_sum [.ref 6, .ref 3, .ref 4, .ref 5] σ (pv_ fun σ' => op_ w σ (sc_ 0 w A B) (sw_ 0 w A B) (A + B) σ') := by
  have hAB : (A + B) % 2 ^ (64 * 9) = A + B := Nat.mod_eq_of_lt (by
    have : 2 ^ w ≤ 2 ^ 512 := Nat.pow_le_pow_right (by decide) hw
    omega)
  have hO := rw_add (g0 := sg_ σ 5) hA hB
  rw [hAB] at hO
  refine ks_body (by decide) (Nat.le_of_ble_eq_true rfl) ?_
  refine sg_X1_sum_0 row_3 row_4 row_5 (cs_X1_sum_3 (c_add row_3 row_4 row_5 (by decide) (by decide) (by decide)) (fun σ1 h => ?_))
  subst h
  refine sg_X1_sum_6 row_3 row_4 row_5 (cs_X1_sum_12 (c_bitOrNought row_5) (fun r σ2 h => ?_))
  obtain ⟨rfl, rfl⟩ := h
  rw [sg_self, si_ug, hs, bit_row hO (by omega) (by omega)]
  refine sg_X1_sum_15 row_3 row_4 row_5 ?_
  generalize hσ3 : ui_ (ug_ σ 5 _) 2 _ = σ3
  have g3 : sg_ σ3 3 = sg_ σ 3 := by rw [← hσ3, sg_ui, sg_ne _ _ (by decide)]
  have g4 : sg_ σ3 4 = sg_ σ 4 := by rw [← hσ3, sg_ui, sg_ne _ _ (by decide)]
  have g5 : rw_ (sg_ σ3 5) 9 (A + B) := by rw [← hσ3, sg_ui, sg_self]; exact hO
  have s6 : si_ σ3 6 = nI w := by rw [← hσ3, si_ui, if_neg (by decide), si_ug]; exact hs
  have s2 : si_ σ3 2 = b1_ (sc_ 0 w A B) := by rw [← hσ3, si_ui, if_pos rfl]; rfl
  have hf : fo_ σ σ3 := by rw [← hσ3]; exact fr_trans (fr_ug _ _ (by decide)) (fr_ui _ _ (by decide))
  rw [← g3] at hA
  rw [← g4] at hB
  clear hσ3
  have fin : ∀ b, b = sw_ 0 w A B → pv_ (fun σ' => op_ w σ (sc_ 0 w A B) (sw_ 0 w A B) (A + B) σ') (.inl none) (ui_ σ3 3 (b1_ b)) := by
    intro b hb
    refine ⟨rfl, ?_, ?_, ?_, ?_, ?_⟩
    · rw [sg_ui]; exact g5
    · rw [si_ui, if_neg (by decide)]; exact s2
    · rw [si_ui, if_pos rfl, hb]
    · rw [si_ui, if_neg (by decide)]; exact s6
    · exact fr_trans hf (fr_ui _ _ (by decide))
  refine cs_X1_sum_21 (c_highest row_3 hA s6 h1 hw) (fun r σ4 h => ?_)
  obtain ⟨rfl, rfl⟩ := h
  refine sg_X1_sum_24 row_3 row_4 row_5 (cs_X1_sum_26 (c_highest row_4 hB s6 h1 hw) (fun r σ5 h => ?_))
  obtain ⟨rfl, rfl⟩ := h
  have hsw : sw_ 0 w A B = ((ng_ w A == ng_ w B) && (ng_ w (A + B) != ng_ w A)) := rfl
  refine sg_X1_sum_29 row_3 row_5 (fun c => ?_) (fun c => ?_)
  · refine sg_X1_sum_49 (sg_X1_sum_50 (fin false ?_))
    rw [b1_inj] at c
    rw [hsw]; simp [c]
  · refine cs_X1_sum_34 (c_highest row_5 g5 s6 h1 hw) (fun r σ6 h => ?_)
    obtain ⟨rfl, rfl⟩ := h
    refine sg_X1_sum_37 row_3 (cs_X1_sum_39 (c_highest row_3 hA s6 h1 hw) (fun r σ7 h => ?_))
    obtain ⟨rfl, rfl⟩ := h
    rw [b1_inj] at c
    refine sg_X1_sum_42 (fun c2 => ?_) (fun c2 => ?_)
    · refine sg_X1_sum_49 (sg_X1_sum_50 (fin false ?_))
      rw [b1_inj] at c2
      rw [hsw, ← c]; simp [c2]
    · refine sg_X1_sum_50 (fin true ?_)
      rw [b1_inj] at c2
      rw [hsw, ← c]; simp [c2]
end
