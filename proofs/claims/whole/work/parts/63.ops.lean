/-! ===== Operations: turns, bit by bit, reversed, run ===== -/
theorem rw_ex (g : Nat → Int64) : ∀ n, ∃ V, rw_ g n V
  | 0 => ⟨0, by decide, fun k hk => by omega⟩
  | n + 1 => by
    obtain ⟨V, h⟩ := rw_ex g n
    have hl := un_lt (g n)
    have hp : 2 ^ (64 * (n + 1)) = 2 ^ (64 * n) * 2 ^ 64 := by rw [← Nat.pow_add]; congr 1
    refine ⟨V + 2 ^ (64 * n) * un_ (g n), ?_, fun k hk => ?_⟩
    · have h1 := h.1
      have h2 : 2 ^ (64 * n) * (un_ (g n) + 1) ≤ 2 ^ (64 * n) * 2 ^ 64 := Nat.mul_le_mul_left _ hl
      rw [Nat.mul_add] at h2
      omega
    · by_cases c : k = n
      · subst c
        rw [Nat.add_mul_div_left _ _ (Nat.two_pow_pos _), Nat.div_eq_of_lt h.1, Nat.zero_add, Nat.mod_eq_of_lt hl]
      · have hkn : k < n := by omega
        have e64 : 2 ^ (64 * n) = 2 ^ (64 * k) * (2 ^ 64 * 2 ^ (64 * (n - k - 1))) := by
          rw [← Nat.pow_add, ← Nat.pow_add]; exact congrArg (fun e => 2 ^ e) (by omega)
        rw [h.2 k hkn, e64, Nat.mul_assoc, Nat.mul_assoc, Nat.add_mul_div_left _ _ (Nat.two_pow_pos _), Nat.add_mul_mod_self_left]
theorem or_mod {X Y w : Nat} : (X ||| Y) % 2 ^ w = (X % 2 ^ w) ||| (Y % 2 ^ w) := by
  apply Nat.eq_of_testBit_eq
  intro i
  rw [Nat.testBit_mod_two_pow, Nat.testBit_or, Nat.testBit_or, Nat.testBit_mod_two_pow, Nat.testBit_mod_two_pow]
  cases decide (i < w) <;> simp
/-! bits swapped in a limb: place i gets place i ^^^ n -/
def sx_ (m n : Nat) : Prop := ∀ i, i < 64 → (m.testBit i = true → i + n = i ^^^ n ∧ i + n < 64) ∧ (m.testBit i = false → n ≤ i ∧ m.testBit (i - n) = true ∧ i - n = i ^^^ n)
theorem un_sw {x m : Int64} {n : Nat} (hn : n < 64) (hn0 : 0 < n) (hm : sx_ (un_ m) n) {i : Nat} (hi : i < 64) : (un_ (km_sw x m (nI n))).testBit i = (un_ x).testBit (i ^^^ n) := by
  unfold km_sw
  rw [un_or, un_and, un_kush _ hn, un_kshl _ hn, un_and, Nat.testBit_or, Nat.testBit_and, Nat.testBit_div_two_pow, Nat.testBit_mod_two_pow, Nat.testBit_mul_two_pow, Nat.testBit_and]
  obtain ⟨h1, h2⟩ := hm i hi
  cases c : (un_ m).testBit i
  · obtain ⟨a1, a2, a3⟩ := h2 c
    rw [a2, a3]
    simp [hi, a1]
  · obtain ⟨a1, a2⟩ := h1 c
    rw [a1]
    by_cases z : n ≤ i
    · have hx : (un_ m).testBit (i - n) = false ∨ (i - n) + n = i := Or.inr (by omega)
      -- the lower place would go up to i, but i's own bit of the mask is 1
      cases c2 : (un_ m).testBit (i - n)
      · simp
      · exfalso
        obtain ⟨b1, b2⟩ := (hm (i - n) (by omega)).1 c2
        have b3 : (i - n) ^^^ n = i := by rw [← b1]; omega
        have b4 : i ^^^ n = i - n := by
          have := congrArg (· ^^^ n) b3
          simp only [Nat.xor_assoc, Nat.xor_self, Nat.xor_zero] at this
          exact this.symm
        omega
    · simp [z]
theorem sx_8 : sx_ (un_ 71777214294589695) 8 := by unfold sx_; decide +kernel
theorem sx_16 : sx_ (un_ 281470681808895) 16 := by unfold sx_; decide +kernel
theorem sx_32 : sx_ (un_ 4294967295) 32 := by unfold sx_; decide +kernel
theorem sx_1 : sx_ (un_ 6148914691236517205) 1 := by unfold sx_; decide +kernel
theorem sx_2 : sx_ (un_ 3689348814741910323) 2 := by unfold sx_; decide +kernel
theorem sx_4 : sx_ (un_ 1085102592571150095) 4 := by unfold sx_; decide +kernel
theorem xo_lt : ∀ n i, n < 64 → i < 64 → i ^^^ n < 64 := fun n i hn hi => Nat.xor_lt_two_pow (n := 6) hi hn
theorem un_byR {x : Int64} {i : Nat} (hi : i < 64) : (un_ (km_byR x)).testBit i = (un_ x).testBit (56 - i / 8 * 8 + i % 8) := by
  unfold km_byR
  rw [show (32 : Int32) = nI 32 from rfl, show (16 : Int32) = nI 16 from rfl, show (8 : Int32) = nI 8 from rfl, un_sw (by decide) (by decide) sx_32 hi, un_sw (by decide) (by decide) sx_16 (xo_lt _ _ (by decide) hi), un_sw (by decide) (by decide) sx_8 (xo_lt _ _ (by decide) (xo_lt _ _ (by decide) hi))]
  have : ∀ i, i < 64 → i ^^^ 32 ^^^ 16 ^^^ 8 = 56 - i / 8 * 8 + i % 8 := by decide +kernel
  rw [this i hi]
theorem un_biR {x : Int64} {i : Nat} (hi : i < 64) : (un_ (km_biR x)).testBit i = (un_ x).testBit (63 - i) := by
  unfold km_biR
  have h1 : 56 - i / 8 * 8 + i % 8 < 64 := by omega
  rw [un_byR hi, show (4 : Int32) = nI 4 from rfl, show (2 : Int32) = nI 2 from rfl, show (1 : Int32) = nI 1 from rfl, un_sw (by decide) (by decide) sx_4 h1, un_sw (by decide) (by decide) sx_2 (xo_lt _ _ (by decide) h1), un_sw (by decide) (by decide) sx_1 (xo_lt _ _ (by decide) (xo_lt _ _ (by decide) h1))]
  have : ∀ i, i < 64 → (56 - i / 8 * 8 + i % 8) ^^^ 4 ^^^ 2 ^^^ 1 = 63 - i := by decide +kernel
  rw [this i hi]
section
variable {L : Nat} {xs : Nat → Int32} {σ : ks_St}
theorem c_turned {A B w k : Nat} (hk : k = 11 ∨ k = 12) (hA : rw_ (sg_ σ 3) 9 A) (hB : rw_ (sg_ σ 4) 9 B) (hs : si_ σ 6 = nI w) (hs2 : si_ σ 2 = 0) (hs3 : si_ σ 3 = 0) (h1 : 1 ≤ w) (hw : w ≤ 512) (hAw : A < 2 ^ w) :
    ks_M L xs mX1_turned rm_X1_turned [.ref 6, .int (nI k), .ref 3, .ref 4, .ref 5] σ (pv_ fun σ' => ∃ O, O % 2 ^ w = sp_ k w A B ∧ op_ w σ (sc_ k w A B) (sw_ k w A B) O σ') := by
  have hsw : sw_ k w A B = false := by rcases hk with rfl | rfl <;> rfl
  have hsc : sc_ k w A B = false := by rcases hk with rfl | rfl <;> rfl
  rw [hsw, hsc]
  have n12 : nI k = 12 ↔ k = 12 := nI_eq (a := k) (b := 12) (by omega) (by omega)
  have hm := Nat.mod_lt B (show 0 < w by omega)
  refine ks_body (by decide) (Nat.le_of_ble_eq_true rfl) ?_
  refine sg_X1_turned_0 row_3 row_4 row_5 ?_
  rw [hs]
  refine cs_X1_turned_5 (c_restBy row_4 hB (by omega) (by omega)) (fun r σ1 h => ?_)
  obtain ⟨rfl, rfl⟩ := h
  have go : ∀ up, up ≤ w → sp_ k w A B = rt_ w A up → ks_W L xs mX1_turned rm_X1_turned 28 [(0, .ref 6), (2, .ref 3), (4, .ref 5)] [.int (nI up)] σ1 0 0 (pv_ fun σ' => ∃ O, O % 2 ^ w = sp_ k w A B ∧ op_ w σ1 false false O σ') := by
    intro up hup e
    refine sg_X1_turned_28 row_3 row_5 (cs_X1_turned_35 (c_moveUp row_3 row_5 (by decide)) (fun σ2 h => ?_))
    subst h
    refine sg_X1_turned_38 row_3 row_5 ?_
    rw [si_ug, hs]
    have en : nI up - nI w = -nI (w - up) := i32_eq (by rw [int_sub (by omega) (by omega), neg_toInt (by omega)]; omega)
    rw [en]
    refine cs_X1_turned_48 (c_orMovedUp row_3 row_5 (by decide)) (fun σ3 h => ?_)
    rw [sg_self, sg_ne _ _ (show 3 ≠ 5 by decide), ug_ug] at h
    have hO1 := rw_up (g0 := sg_ σ1 5) (no := 9) (s := up) hA (by omega) (by omega) (by omega) (by omega)
    have hO2 : rw_ (fun k => km_bits (sg_ σ1 3) 9 (nI k * 64 - -nI (w - up))) 9 (A / 2 ^ (w - up) % 2 ^ (64 * 9)) := rw_congr (rw_down (g0 := sg_ σ1 5) (no := 9) (s := w - up) hA (by omega) (by omega) (by omega)) (fun k hk => by simp [hk])
    have hO := rw_or (g0 := fun k => if k < 9 then km_bits (sg_ σ1 3) 9 (nI k * 64 - nI up) else sg_ σ1 5 k) hO1 hO2
    refine sg_X1_turned_51 ⟨rfl, _, ?_, (by rw [h, sg_self]; exact hO), ?_, ?_, ?_, ?_⟩
    · rw [or_mod, mod_576 (by omega), mod_576 (by omega), e]
      unfold rt_
      rw [Nat.mod_eq_of_lt (show A / 2 ^ (w - up) < 2 ^ w from Nat.lt_of_le_of_lt (Nat.div_le_self _ _) hAw)]
    · rw [h, si_ug, hs2]; rfl
    · rw [h, si_ug, hs3]; rfl
    · rw [h, si_ug]; exact hs
    · rw [h]; exact fr_ug _ _ (by decide)
  refine sg_X1_turned_8 row_3 row_5 (fun c => ?_) (fun c => ?_)
  · have k11 : k = 11 := by rw [n12] at c; omega
    subst k11
    exact go _ (by omega) rfl
  · have k12 : k = 12 := n12.mp c
    subst k12
    rw [hs, pk_sub (by omega)]
    exact go _ (by omega) rfl
theorem c_bitByBit {A B w k : Nat} (hk : k = 13 ∨ k = 14 ∨ k = 15 ∨ k = 16) (hA : rw_ (sg_ σ 3) 9 A) (hB : rw_ (sg_ σ 4) 9 B) (hs : si_ σ 6 = nI w) (hs2 : si_ σ 2 = 0) (hs3 : si_ σ 3 = 0) (h1 : 1 ≤ w) (hw : w ≤ 512) (hAw : A < 2 ^ w) (hBw : B < 2 ^ w) :
    ks_M L xs mX1_bitByBit rm_X1_bitByBit [.ref 6, .int (nI k), .ref 3, .ref 4, .ref 5] σ (pv_ fun σ' => ∃ O, O % 2 ^ w = sp_ k w A B ∧ op_ w σ (sc_ k w A B) (sw_ k w A B) O σ') := by
  have hsw : sw_ k w A B = false := by rcases hk with rfl | rfl | rfl | rfl <;> rfl
  have hsc : sc_ k w A B = false := by rcases hk with rfl | rfl | rfl | rfl <;> rfl
  rw [hsw, hsc]
  have n13 : nI k = 13 ↔ k = 13 := nI_eq (a := k) (b := 13) (by omega) (by omega)
  have n14 : nI k = 14 ↔ k = 14 := nI_eq (a := k) (b := 14) (by omega) (by omega)
  have n15 : nI k = 15 ↔ k = 15 := nI_eq (a := k) (b := 15) (by omega) (by omega)
  have hp : 2 ^ w ≤ 2 ^ 512 := Nat.pow_le_pow_right (by decide) hw
  have fin : ∀ s, (∃ g, s = ug_ σ 5 g ∧ ∀ j, j < 8 → ∀ i, i < 64 → (un_ (g j)).testBit i = ((k == 13 && (A.testBit (64 * j + i) && B.testBit (64 * j + i))) || (k == 14 && (A.testBit (64 * j + i) || B.testBit (64 * j + i))) || (k == 15 && (A.testBit (64 * j + i) ^^ B.testBit (64 * j + i))) || (k == 16 && !A.testBit (64 * j + i)))) →
      pv_ (fun σ' => ∃ O, O % 2 ^ w = sp_ k w A B ∧ op_ w σ false false O σ') (.inl none) s := by
    rintro s ⟨g, rfl, hg⟩
    obtain ⟨V, hV⟩ := rw_ex g 9
    refine ⟨rfl, V, ?_, (by rw [sg_self]; exact hV), ?_, ?_, ?_, ?_⟩
    · refine nat_ext (Nat.mod_lt _ (Nat.two_pow_pos w)) (sp_lt h1 hAw hBw) (fun j hj => ?_)
      rw [Nat.testBit_mod_two_pow, decide_eq_true hj, Bool.true_and]
      have e : j = 64 * (j / 64) + j % 64 := by omega
      have h2 := rw_bit hV (show j / 64 < 9 by omega) (show j % 64 < 64 by omega)
      rw [← e] at h2
      have h3 := hg (j / 64) (by omega) (j % 64) (by omega)
      rw [← e] at h3
      rw [← h2, h3]
      rcases hk with rfl | rfl | rfl | rfl
      · show _ = (A &&& B).testBit j
        rw [Nat.testBit_and]; simp
      · show _ = (A ||| B).testBit j
        rw [Nat.testBit_or]; simp
      · show _ = (A ^^^ B).testBit j
        rw [Nat.testBit_xor]; simp
      · show _ = (2 ^ w - 1 - A).testBit j
        rw [show 2 ^ w - 1 - A = 2 ^ w - (A + 1) by omega, Nat.testBit_two_pow_sub_succ hAw]; simp [hj]
    · rw [si_ug, hs2]; rfl
    · rw [si_ug, hs3]; rfl
    · rw [si_ug]; exact hs
    · exact fr_ug _ _ (by decide)
  refine ks_body (by decide) (Nat.le_of_ble_eq_true rfl) ?_
  refine ka_sub [1, 2, 3, 4] rfl (sg_X1_bitByBit_0 row_3 row_4 row_5 ?_)
  refine lp_ 8 (fun i s => ks_W L xs mX1_bitByBit rm_X1_bitByBit 3 [(1, .int (nI k)), (2, .ref 3), (3, .ref 4), (4, .ref 5), (5, .int (nI i))] [] s 0 0 _) (fun n s => ∃ g, s = ug_ σ 5 g ∧ ∀ j, j < n → ∀ i, i < 64 → (un_ (g j)).testBit i = ((k == 13 && (A.testBit (64 * j + i) && B.testBit (64 * j + i))) || (k == 14 && (A.testBit (64 * j + i) || B.testBit (64 * j + i))) || (k == 15 && (A.testBit (64 * j + i) ^^ B.testBit (64 * j + i))) || (k == 16 && !A.testBit (64 * j + i)))) ?_ ?_ 0 σ (by omega) ⟨_, (ug_id σ 5).symm, fun j hj => by omega⟩
  · intro n s hn e kk
    obtain ⟨g, rfl, hg⟩ := e
    have c1 : ¬ (8 : Int32) ≤ nI n := (nI_not (a := n) (b := 8) (by omega) (by omega)).mpr hn
    have hin : vp_in (nI n) 9 := vp_in_nI (by omega) (by omega)
    have go : ∀ x, (∀ i, i < 64 → (un_ x).testBit i = ((k == 13 && (A.testBit (64 * n + i) && B.testBit (64 * n + i))) || (k == 14 && (A.testBit (64 * n + i) || B.testBit (64 * n + i))) || (k == 15 && (A.testBit (64 * n + i) ^^ B.testBit (64 * n + i))) || (k == 16 && !A.testBit (64 * n + i)))) →
        ks_W L xs mX1_bitByBit rm_X1_bitByBit 100 [(1, .int (nI k)), (2, .ref 3), (3, .ref 4), (4, .ref 5), (5, .int (nI n))] [] (ug_ (ug_ σ 5 g) 5 (vp_updL (sg_ (ug_ σ 5 g) 5) n x)) 0 0 (pv_ fun σ' => ∃ O, O % 2 ^ w = sp_ k w A B ∧ op_ w σ false false O σ') := by
      intro x hx
      refine sg_X1_bitByBit_100 row_3 row_4 row_5 ?_
      rw [nI_1, ug_ug, sg_self]
      refine kk _ ⟨_, rfl, fun j hj i hi => ?_⟩
      simp only [vp_updL]
      by_cases z : j = n
      · subst z; rw [if_pos rfl]; exact hx i hi
      · rw [if_neg z]; exact hg j (by omega) i hi
    have s3 : sg_ (ug_ σ 5 g) 3 = sg_ σ 3 := sg_ne _ _ (by decide)
    have s4 : sg_ (ug_ σ 5 g) 4 = sg_ σ 4 := sg_ne _ _ (by decide)
    have a3 : ∀ i, i < 64 → (un_ (sg_ σ 3 n)).testBit i = A.testBit (64 * n + i) := fun i hi => rw_bit hA (by omega) hi
    have a4 : ∀ i, i < 64 → (un_ (sg_ σ 4 n)).testBit i = B.testBit (64 * n + i) := fun i hi => rw_bit hB (by omega) hi
    refine sg_X1_bitByBit_3 row_3 row_4 row_5 (fun c => absurd c c1) (fun _ _ => hin) (fun _ _ => hin) (fun _ _ => hin) (fun _ c => ?_) (fun _ _ _ => hin) (fun _ _ _ => hin) (fun _ _ _ => hin) (fun _ _ c => ?_) (fun _ _ _ _ => hin) (fun _ _ _ _ => hin) (fun _ _ _ _ => hin) (fun _ _ _ c => ?_) (fun _ _ _ _ => hin) (fun _ _ _ _ => hin) (fun _ d1 d2 d3 => ?_)
    · rw [nI_clamp (by omega), s3, s4]
      refine go _ (fun i hi => ?_)
      rw [un_and, Nat.testBit_and, a3 i hi, a4 i hi, n13.mp c]; simp
    · rw [nI_clamp (by omega), s3, s4]
      refine go _ (fun i hi => ?_)
      rw [un_or, Nat.testBit_or, a3 i hi, a4 i hi, n14.mp c]; simp
    · rw [nI_clamp (by omega), s3, s4]
      refine go _ (fun i hi => ?_)
      rw [un_xor, Nat.testBit_xor, a3 i hi, a4 i hi, n15.mp c]; simp
    · rw [nI_clamp (by omega), s3]
      have k16 : k = 16 := by rw [n13] at d1; rw [n14] at d2; rw [n15] at d3; omega
      refine go _ (fun i hi => ?_)
      rw [un_xor, un_m1, Nat.testBit_xor, Nat.testBit_two_pow_sub_one, a3 i hi, k16]; simp [hi]
  · intro s e
    have c1 : (8 : Int32) ≤ nI 8 := nI_le (a := 8) (Nat.le_refl 8) (by omega)
    exact sg_X1_bitByBit_3 row_3 row_4 row_5 (fun _ => fin s e) (fun c => absurd c1 c) (fun c => absurd c1 c) (fun c => absurd c1 c) (fun c => absurd c1 c) (fun c => absurd c1 c) (fun c => absurd c1 c) (fun c => absurd c1 c) (fun c => absurd c1 c) (fun c => absurd c1 c) (fun c => absurd c1 c) (fun c => absurd c1 c) (fun c => absurd c1 c) (fun c => absurd c1 c) (fun c => absurd c1 c) (fun c => absurd c1 c)
theorem c_reversed {A B w k : Nat} (hk : k = 17 ∨ (k = 18 ∧ w % 8 = 0)) (hA : rw_ (sg_ σ 3) 9 A) (hs : si_ σ 6 = nI w) (hs2 : si_ σ 2 = 0) (hs3 : si_ σ 3 = 0) (h1 : 1 ≤ w) (hw : w ≤ 512) (hAw : A < 2 ^ w) :
    ks_M L xs mX1_reversed rm_X1_reversed [.ref 6, .int (nI k), .ref 3, .ref 5] σ (pv_ fun σ' => ∃ O, O % 2 ^ w = sp_ k w A B ∧ op_ w σ (sc_ k w A B) (sw_ k w A B) O σ') := by
  have hsw : sw_ k w A B = false := by rcases hk with rfl | ⟨rfl, -⟩ <;> rfl
  have hsc : sc_ k w A B = false := by rcases hk with rfl | ⟨rfl, -⟩ <;> rfl
  rw [hsw, hsc]
  have n17 : nI k = 17 ↔ k = 17 := nI_eq (a := k) (b := 17) (by omega) (by omega)
  refine ks_body (by decide) (Nat.le_of_ble_eq_true rfl) ?_
  refine sg_X1_reversed_0 row_3 row_5 ?_
  refine lp_ 8 (fun i s => ks_W L xs mX1_reversed rm_X1_reversed 3 [(0, .ref 6), (1, .int (nI k)), (2, .ref 3), (3, .ref 5), (4, .int (nI i))] [] s 0 0 _) (fun n s => ∃ g, s = ug_ σ 15 g ∧ ∀ j, j < n → ∀ i, i < 64 → (un_ (g j)).testBit i = if k = 17 then A.testBit (511 - (64 * j + i)) else A.testBit (504 - (64 * j + i) / 8 * 8 + (64 * j + i) % 8)) ?_ ?_ 0 σ (by omega) ⟨_, (ug_id σ 15).symm, fun j hj => by omega⟩
  · intro n s hn e kk
    obtain ⟨g, rfl, hg⟩ := e
    have c1 : ¬ (8 : Int32) ≤ nI n := (nI_not (a := n) (b := 8) (by omega) (by omega)).mpr hn
    have e7 : 7 - nI n = nI (7 - n) := pk_sub (a := 7) (by omega)
    have s3 : sg_ (ug_ σ 15 g) 3 = sg_ σ 3 := sg_ne _ _ (by decide)
    have a3 : ∀ i, i < 64 → (un_ (sg_ σ 3 (7 - n))).testBit i = A.testBit (64 * (7 - n) + i) := fun i hi => rw_bit hA (by omega) hi
    have go : ∀ x, (∀ i, i < 64 → (un_ x).testBit i = if k = 17 then A.testBit (511 - (64 * n + i)) else A.testBit (504 - (64 * n + i) / 8 * 8 + (64 * n + i) % 8)) → ks_W L xs mX1_reversed rm_X1_reversed 44 [(0, .ref 6), (1, .int (nI k)), (2, .ref 3), (3, .ref 5), (4, .int (nI n))] [.long x, .int (nI n), .ref 15] (ug_ σ 15 g) 0 0 (pv_ fun σ' => ∃ O, O % 2 ^ w = sp_ k w A B ∧ op_ w σ false false O σ') := by
      intro x hx
      refine sg_X1_reversed_44 row_3 row_5 (vp_in_nI (by omega) (by omega)) ?_
      rw [nI_1, ug_ug, sg_self, nI_clamp (by omega)]
      refine kk _ ⟨_, rfl, fun j hj i hi => ?_⟩
      simp only [vp_updL]
      by_cases z : j = n
      · subst z; rw [if_pos rfl]; exact hx i hi
      · rw [if_neg z]; exact hg j (by omega) i hi
    refine sg_X1_reversed_3 row_3 row_5 (fun c => absurd c c1) (fun _ => by rw [e7]; exact vp_in_nI (by omega) (by omega)) (fun _ c => ?_) (fun _ c => ?_)
    · rw [e7, nI_clamp (by omega), s3]
      rw [n17] at c
      refine cs_X1_reversed_41 c_bytesReversed (fun r σ1 h => ?_)
      obtain ⟨rfl, rfl⟩ := h
      refine go _ (fun i hi => ?_)
      rw [un_byR hi, a3 _ (by omega), if_neg c]
      congr 1
      omega
    · rw [e7, nI_clamp (by omega), s3]
      rw [n17] at c
      refine cs_X1_reversed_33 c_bitsReversed (fun r σ1 h => ?_)
      obtain ⟨rfl, rfl⟩ := h
      refine sg_X1_reversed_36 row_3 row_5 (go _ (fun i hi => ?_))
      rw [un_biR hi, a3 _ (by omega), if_pos c]
      congr 1
      omega
  · intro s e
    obtain ⟨g, rfl, hg⟩ := e
    have c1 : (8 : Int32) ≤ nI 8 := nI_le (a := 8) (Nat.le_refl 8) (by omega)
    obtain ⟨V, hV⟩ := rw_ex g 8
    refine sg_X1_reversed_3 row_3 row_5 (fun _ => ?_) (fun c => absurd c1 c) (fun c => absurd c1 c) (fun c => absurd c1 c)
    rw [si_ug, hs]
    have en : nI w - 512 = -nI (512 - w) := i32_eq (by rw [show (512 : Int32) = nI 512 from rfl, int_sub (by omega) (by omega), neg_toInt (by omega)]; omega)
    rw [en]
    refine cs_X1_reversed_64 (c_moveUp row_15 row_5 (by decide)) (fun σ1 h => ?_)
    rw [sg_self] at h
    have hO := fun g0 => rw_down (g0 := g0) (no := 9) (s := 512 - w) hV (by omega) (by omega) (by omega)
    refine sg_X1_reversed_67 ⟨rfl, _, ?_, (by rw [h, sg_self]; exact hO _), ?_, ?_, ?_, ?_⟩
    · rw [mod_576 (by omega)]
      have hsp : sp_ k w A B < 2 ^ w := by rcases hk with rfl | ⟨rfl, -⟩ <;> exact bo_lt _ _
      refine nat_ext (Nat.mod_lt _ (Nat.two_pow_pos w)) hsp (fun j hj => ?_)
      rw [Nat.testBit_mod_two_pow, decide_eq_true hj, Bool.true_and, Nat.testBit_div_two_pow]
      have e : j + (512 - w) = 64 * ((j + (512 - w)) / 64) + (j + (512 - w)) % 64 := by omega
      have h2 := rw_bit hV (show (j + (512 - w)) / 64 < 8 by omega) (show (j + (512 - w)) % 64 < 64 by omega)
      have h3 := hg ((j + (512 - w)) / 64) (by omega) ((j + (512 - w)) % 64) (by omega)
      rw [← e] at h2 h3
      rw [← h2, h3]
      rcases hk with rfl | ⟨rfl, h8⟩
      · show _ = (bo_ _ w).testBit j
        rw [bo_bit, decide_eq_true hj, Bool.true_and, if_pos rfl]
        congr 1; omega
      · show _ = (bo_ _ w).testBit j
        rw [bo_bit, decide_eq_true hj, Bool.true_and, if_neg (by decide)]
        congr 1; omega
    · rw [h, si_ug, si_ug, hs2]; rfl
    · rw [h, si_ug, si_ug, hs3]; rfl
    · rw [h, si_ug, si_ug]; exact hs
    · rw [h]; exact fr_trans (fr_ug _ _ (by decide)) (fr_ug _ _ (by decide))
/-- what run leaves -/
def ro_ (k w A B : Nat) (σ σ' : ks_St) : Prop := rw_ (sg_ σ' 5) 9 (sp_ k w A B) ∧ si_ σ' 2 = b1_ (sc_ k w A B) ∧ si_ σ' 3 = b1_ (sw_ k w A B) ∧ si_ σ' 4 = b1_ (decide (sp_ k w A B = 0)) ∧ si_ σ' 5 = b1_ (ng_ w (sp_ k w A B)) ∧ fo_ σ σ'
theorem c_run {A B w k : Nat} (hk : k ≤ 18) (hA : rw_ (sg_ σ 3) 9 A) (hB : rw_ (sg_ σ 4) 9 B) (h1 : 1 ≤ w) (hw : w ≤ 512) (hAw : A < 2 ^ w) (hBw : B < 2 ^ w) (hB0 : 4 ≤ k → k ≤ 7 → B ≠ 0) (h8 : k = 18 → w % 8 = 0) :
    ks_M L xs mX1_run rm_X1_run [.ref 6, .int (nI k), .int (nI w), .ref 3, .ref 4, .ref 5] σ (pv_ fun σ' => ro_ k w A B σ σ') := by
  refine ks_body (by decide) (Nat.le_of_ble_eq_true rfl) ?_
  generalize hσ1 : ui_ (ui_ (ui_ σ 6 (nI w)) 2 0) 3 0 = σ1
  have hA1 : rw_ (sg_ σ1 3) 9 A := by rw [← hσ1, sg_ui, sg_ui, sg_ui]; exact hA
  have hB1 : rw_ (sg_ σ1 4) 9 B := by rw [← hσ1, sg_ui, sg_ui, sg_ui]; exact hB
  have s6 : si_ σ1 6 = nI w := by rw [← hσ1, si_ui, if_neg (by decide), si_ui, if_neg (by decide), si_ui, if_pos rfl]
  have s2 : si_ σ1 2 = 0 := by rw [← hσ1, si_ui, if_neg (by decide), si_ui, if_pos rfl]
  have s3 : si_ σ1 3 = 0 := by rw [← hσ1, si_ui, if_pos rfl]
  have hf1 : fo_ σ σ1 := by rw [← hσ1]; exact fr_trans (fr_trans (fr_ui _ _ (by decide)) (fr_ui _ _ (by decide))) (fr_ui _ _ (by decide))
  have tail : ∀ σ2, (∃ O, O % 2 ^ w = sp_ k w A B ∧ op_ w σ1 (sc_ k w A B) (sw_ k w A B) O σ2) → ks_W L xs mX1_run rm_X1_run 197 [(0, .ref 6), (5, .ref 5)] [] σ2 0 0 (pv_ fun σ' => ro_ k w A B σ σ') := by
    rintro σ2 ⟨O, hO, o5, o2, o3, o6, of⟩
    refine sg_X1_run_197 row_5 ?_
    rw [o6]
    refine cs_X1_run_203 (c_cut row_5) (fun σ3 h => ?_)
    have hc := rw_cut (w := w) o5 (by omega) (by omega)
    rw [hO] at hc
    have p5 : rw_ (sg_ σ3 5) 9 (sp_ k w A B) := by rw [h, sg_self]; exact hc
    have pi : ∀ j, si_ σ3 j = si_ σ2 j := fun j => by rw [h, si_ug]
    have pf : fo_ σ σ3 := by rw [h]; exact fr_trans hf1 (fr_trans of (fr_ug _ _ (by decide)))
    clear h
    refine sg_X1_run_206 row_5 (cs_X1_run_209 (c_isNought row_5) (fun r σ4 h => ?_))
    obtain ⟨rfl, rfl⟩ := h
    have fin : ∀ z, z = decide (sp_ k w A B = 0) → ks_W L xs mX1_run rm_X1_run 220 [(0, .ref 6), (5, .ref 5)] [.int (b1_ z), .ref 6] σ4 0 0 (pv_ fun σ' => ro_ k w A B σ σ') := by
      intro z hz
      refine sg_X1_run_220 row_5 (cs_X1_run_227 (c_highest row_5 (w := w) (by rw [sg_ui]; exact p5) (by rw [si_ui, if_neg (by decide), pi]; exact o6) h1 hw) (fun r σ5 h => ?_))
      obtain ⟨rfl, rfl⟩ := h
      refine sg_X1_run_230 ⟨rfl, ?_, ?_, ?_, ?_, ?_, ?_⟩
      · rw [sg_ui, sg_ui]; exact p5
      · rw [si_ui, if_neg (by decide), si_ui, if_neg (by decide), pi]; exact o2
      · rw [si_ui, if_neg (by decide), si_ui, if_neg (by decide), pi]; exact o3
      · rw [si_ui, if_neg (by decide), si_ui, if_pos rfl, hz]
      · rw [si_ui, if_pos rfl]
      · exact fr_trans pf (fr_trans (fr_ui _ _ (by decide)) (fr_ui _ _ (by decide)))
    have hz := rw_nought p5
    refine sg_X1_run_212 row_5 (fun c => ?_) (fun c => ?_)
    · refine fin false ?_
      have : ¬ sp_ k w A B = 0 := fun z => by rw [if_pos (hz.mpr z)] at c; exact absurd c (by decide)
      rw [decide_eq_false this]
    · refine fin true ?_
      have : sp_ k w A B = 0 := hz.mp (Classical.byContradiction fun z => by rw [if_neg z] at c; exact c rfl)
      rw [decide_eq_true this]
  have nk : ∀ j, j < 2 ^ 31 → (nI k = nI j ↔ k = j) := fun j hj => nI_eq (by omega) hj
  have kprod : k = 2 ∨ k = 3 → ks_W L xs mX1_run rm_X1_run 131 [(0, .ref 6), (5, .ref 5)] [.ref 5, .ref 4, .ref 3, .int (nI k), .ref 6] σ1 0 0 (pv_ fun σ' => ro_ k w A B σ σ') := fun h => cs_X1_run_131 (c_product h hA1 hB1 s6 s2 s3 h1 hw hAw hBw) (fun σ2 h2 => sg_X1_run_134 row_5 (tail σ2 h2))
  have kquot : k = 4 ∨ k = 5 ∨ k = 6 ∨ k = 7 → ks_W L xs mX1_run rm_X1_run 144 [(0, .ref 6), (5, .ref 5)] [.ref 5, .ref 4, .ref 3, .int (nI k), .ref 6] σ1 0 0 (pv_ fun σ' => ro_ k w A B σ σ') := fun h => cs_X1_run_144 (c_quotientOrRest h hA1 hB1 s6 s2 s3 h1 hw hAw hBw (hB0 (by omega) (by omega))) (fun σ2 h2 => sg_X1_run_147 row_5 (tail σ2 h2))
  have kmov : k = 8 ∨ k = 9 ∨ k = 10 → ks_W L xs mX1_run rm_X1_run 157 [(0, .ref 6), (5, .ref 5)] [.ref 5, .ref 4, .ref 3, .int (nI k), .ref 6] σ1 0 0 (pv_ fun σ' => ro_ k w A B σ σ') := fun h => cs_X1_run_157 (c_moved h hA1 hB1 s6 s2 s3 h1 hw hAw) (fun σ2 h2 => sg_X1_run_160 row_5 (tail σ2 h2))
  have ktur : k = 11 ∨ k = 12 → ks_W L xs mX1_run rm_X1_run 170 [(0, .ref 6), (5, .ref 5)] [.ref 5, .ref 4, .ref 3, .int (nI k), .ref 6] σ1 0 0 (pv_ fun σ' => ro_ k w A B σ σ') := fun h => cs_X1_run_170 (c_turned h hA1 hB1 s6 s2 s3 h1 hw hAw) (fun σ2 h2 => sg_X1_run_173 row_5 (tail σ2 h2))
  have kbit : k = 13 ∨ k = 14 ∨ k = 15 ∨ k = 16 → ks_W L xs mX1_run rm_X1_run 183 [(0, .ref 6), (5, .ref 5)] [.ref 5, .ref 4, .ref 3, .int (nI k), .ref 6] σ1 0 0 (pv_ fun σ' => ro_ k w A B σ σ') := fun h => cs_X1_run_183 (c_bitByBit h hA1 hB1 s6 s2 s3 h1 hw hAw hBw) (fun σ2 h2 => sg_X1_run_186 row_5 (tail σ2 h2))
  refine sg_X1_run_0 row_3 row_4 row_5 ?_ ?_ ?_ ?_ ?_ ?_ ?_ ?_ ?_ ?_ ?_ ?_ ?_ ?_ ?_ ?_ ?_ ?_ <;> intros <;> rw [hσ1]
  · rename_i c
    have k0 : k = 0 := (nk 0 (by omega)).mp c
    subst k0
    exact cs_X1_run_106 (c_sum hA1 hB1 s6 h1 hw hAw hBw) (fun σ2 h2 => sg_X1_run_109 row_5 (tail σ2 ⟨_, rfl, h2⟩))
  · rename_i c
    have k1 : k = 1 := (nk 1 (by omega)).mp c
    subst k1
    exact cs_X1_run_118 (c_difference hA1 hB1 s6 h1 hw hAw hBw) (fun σ2 h2 => sg_X1_run_121 row_5 (tail σ2 h2))
  · rename_i c
    exact kprod (Or.inl ((nk 2 (by omega)).mp c))
  · rename_i c
    exact kprod (Or.inr ((nk 3 (by omega)).mp c))
  · rename_i c
    have := (nk 4 (by omega)).mp c
    exact kquot (by omega)
  · rename_i c
    have := (nk 5 (by omega)).mp c
    exact kquot (by omega)
  · rename_i c
    have := (nk 6 (by omega)).mp c
    exact kquot (by omega)
  · rename_i c
    have := (nk 7 (by omega)).mp c
    exact kquot (by omega)
  · rename_i c
    have := (nk 8 (by omega)).mp c
    exact kmov (by omega)
  · rename_i c
    have := (nk 9 (by omega)).mp c
    exact kmov (by omega)
  · rename_i c
    have := (nk 10 (by omega)).mp c
    exact kmov (by omega)
  · rename_i c
    have := (nk 11 (by omega)).mp c
    exact ktur (by omega)
  · rename_i c
    have := (nk 12 (by omega)).mp c
    exact ktur (by omega)
  · rename_i c
    have := (nk 13 (by omega)).mp c
    exact kbit (by omega)
  · rename_i c
    have := (nk 14 (by omega)).mp c
    exact kbit (by omega)
  · rename_i c
    have := (nk 15 (by omega)).mp c
    exact kbit (by omega)
  · rename_i c
    have := (nk 16 (by omega)).mp c
    exact kbit (by omega)
  · rename_i a0 a1 a2 a3 a4 a5 a6 a7 a8 a9 a10 a11 a12 a13 a14 a15 a16
    have hn : ∀ j, j < 2 ^ 31 → ¬ nI k = nI j → k ≠ j := fun j hj h e => h (by rw [e])
    have b0 := hn 0 (by omega) a0
    have b1 := hn 1 (by omega) a1
    have b2 := hn 2 (by omega) a2
    have b3 := hn 3 (by omega) a3
    have b4 := hn 4 (by omega) a4
    have b5 := hn 5 (by omega) a5
    have b6 := hn 6 (by omega) a6
    have b7 := hn 7 (by omega) a7
    have b8 := hn 8 (by omega) a8
    have b9 := hn 9 (by omega) a9
    have b10 := hn 10 (by omega) a10
    have b11 := hn 11 (by omega) a11
    have b12 := hn 12 (by omega) a12
    have b13 := hn 13 (by omega) a13
    have b14 := hn 14 (by omega) a14
    have b15 := hn 15 (by omega) a15
    have b16 := hn 16 (by omega) a16
    have hk2 : k = 17 ∨ (k = 18 ∧ w % 8 = 0) := by
      by_cases z : k = 17
      · exact Or.inl z
      · have : k = 18 := by omega
        exact Or.inr ⟨this, h8 this⟩
    exact cs_X1_run_194 (c_reversed hk2 hA1 s6 s2 s3 h1 hw hAw) (fun σ2 h2 => tail σ2 h2)
end
