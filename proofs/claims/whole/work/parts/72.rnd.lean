section
/-! ===== rounding, in the class ===== -/
/-- one more? -/
def mr_ (y : Nat) (s : Bool) (m c : Nat) : Bool := match y with
  | 0 => decide (c = 3 ∨ (c = 2 ∧ m % 2 = 1))
  | 1 => false
  | 2 => decide (c ≠ 0) && !s
  | 3 => decide (c ≠ 0) && s
  | _ => decide (2 ≤ c)
/-- beyond the greatest -/
def tg_ (f e y : Nat) (s : Bool) : Nat := if y = 0 ∨ y = 4 ∨ y = (if s then 3 else 2) then vI f e s else vI f e s - 1
/-- the word of a rounded number -/
def fn_ (f e y : Nat) (s : Bool) (u m : Nat) : Nat × Bool :=
  if m < 2 ^ f then (m + 2 ^ (f + e) * s.toNat, false)
  else if u - lq_ f e + (if m = 2 ^ (f + 1) then 2 else 1) < 2 ^ e - 1 then ((u - lq_ f e + (if m = 2 ^ (f + 1) then 2 else 1)) * 2 ^ f + (if m = 2 ^ (f + 1) then 0 else m - 2 ^ f) + 2 ^ (f + e) * s.toNat, false)
  else (tg_ f e y s, true)
def rv_ (f e y : Nat) (s : Bool) (u m c : Nat) : Nat × Nat :=
  ((fn_ f e y s u (m + (mr_ y s m c).toNat)).1, (if c = 0 then 0 else if m < 2 ^ f then 24 else 16) ||| (if (fn_ f e y s u (m + (mr_ y s m c).toNat)).2 then 20 else 0))
/-- a number M at place k, rounded -/
def rr_ (f e y : Nat) (s : Bool) (M k : Nat) : Nat × Nat := if M = 0 then (2 ^ (f + e) * s.toNat, 0) else rv_ f e y s (ru_ f (lq_ f e) M k) (rm_ M k (ru_ f (lq_ f e) M k)) (rk_ M k (ru_ f (lq_ f e) M k))
theorem rr_same {f e y M k M' k' : Nat} {s : Bool} (h0 : M ≠ 0) (h0' : M' ≠ 0) (h : rs_ f (lq_ f e) M k M' k') : rr_ f e y s M k = rr_ f e y s M' k' := by
  unfold rr_
  rw [if_neg h0, if_neg h0', h.2.1, h.2.2, h.1]
theorem sm_lt {f lp M k : Nat} (hM : M ≠ 0) : rm_ M k (ru_ f lp M k) < 2 ^ f ↔ Nat.log2 M + k < lp + f := by
  have h1 := Nat.log2_self_le hM
  have h2 := @Nat.lt_log2_self M
  unfold ru_
  generalize Nat.log2 M = l at *
  by_cases c : lp + f ≤ l + k
  · rw [if_pos c]
    refine ⟨fun z => absurd z ?_, fun z => by omega⟩
    rw [Nat.not_lt]
    unfold rm_
    by_cases d : l + k - f ≤ k
    · rw [if_pos d]
      have : 2 ^ l * 2 ^ (k - (l + k - f)) ≤ M * 2 ^ (k - (l + k - f)) := Nat.mul_le_mul_right _ h1
      rw [← Nat.pow_add] at this
      exact Nat.le_trans (Nat.pow_le_pow_right (by decide) (by omega)) this
    · rw [if_neg d, Nat.le_div_iff_mul_le (Nat.two_pow_pos _), ← Nat.pow_add]
      exact Nat.le_trans (Nat.pow_le_pow_right (by decide) (by omega)) h1
  · rw [if_neg c]
    refine ⟨fun _ => by omega, fun _ => ?_⟩
    unfold rm_
    by_cases d : lp ≤ k
    · rw [if_pos d]
      have : M * 2 ^ (k - lp) < 2 ^ (l + 1) * 2 ^ (k - lp) := Nat.mul_lt_mul_of_pos_right h2 (Nat.two_pow_pos _)
      rw [← Nat.pow_add] at this
      exact Nat.lt_of_lt_of_le this (Nat.pow_le_pow_right (by decide) (by omega))
    · rw [if_neg d, Nat.div_lt_iff_lt_mul (Nat.two_pow_pos _), ← Nat.pow_add]
      exact Nat.lt_of_lt_of_le h2 (Nat.pow_le_pow_right (by decide) (by omega))
theorem rm_lt {f lp M k : Nat} (hM : M ≠ 0) : rm_ M k (ru_ f lp M k) < 2 ^ (f + 1) := by
  have hx : ap_ M k (M * (1 * 2 ^ k)) 1 := Or.inl rfl
  exact (rc_main (f := f) (lp := lp) hx (by decide) (Nat.log2_self_le hM) Nat.lt_log2_self rfl (Or.inl rfl)).2.1
theorem ru_ge (f lp M k : Nat) : lp ≤ ru_ f lp M k := by unfold ru_; split <;> omega
theorem cu_le (a b : Nat) : cu_ a b ≤ 3 := by unfold cu_; split; omega; split; omega; split <;> omega
theorem cu_0 {a b : Nat} : cu_ a b = 0 ↔ a = 0 := by
  unfold cu_
  by_cases h : a = 0
  · simp [h]
  · rw [if_neg h]
    split
    · simp [h]
    · split <;> simp [h]
/-- far down it is all the same how far -/
theorem pl_same {M d : Nat} (hM : M < 2 ^ 61) : M / 2 ^ (min d 62) = M / 2 ^ d ∧ cu_ (2 * (M % 2 ^ (min d 62))) (2 ^ (min d 62)) = cu_ (2 * (M % 2 ^ d)) (2 ^ d) := by
  by_cases c : d ≤ 62
  · rw [Nat.min_eq_left c]; exact ⟨rfl, rfl⟩
  · rw [Nat.min_eq_right (by omega)]
    have hp : 2 ^ 62 < 2 ^ d := Nat.pow_lt_pow_right (by decide) (by omega)
    refine ⟨?_, ?_⟩
    · rw [Nat.div_eq_of_lt (by omega), Nat.div_eq_of_lt (by omega)]
    · rw [Nat.mod_eq_of_lt (show M < 2 ^ 62 by omega), Nat.mod_eq_of_lt (show M < 2 ^ d by omega)]
      unfold cu_
      by_cases z : 2 * M = 0
      · rw [if_pos z, if_pos z]
      · rw [if_neg z, if_neg z, if_pos (by omega), if_pos (by omega)]
theorem lN_mod2 {m : Nat} (h : m < 2 ^ 64) : lg_cmp (lN m &&& 1) 1 = 0 ↔ m % 2 = 1 := by
  rw [lg_cmp_eq, show (1 : Int64) = lN 1 from rfl, lN_and h (by decide), Nat.and_one_is_mod, pk_lEQ (by omega) (by decide)]
section
variable {L : Nat} {xs : Nat → Int32} {σ : ks_St} {f e y : Nat} {s : Bool}
theorem c_movedDown {v n : Nat} (hv : v < 2 ^ 61) (hn : n < 2 ^ 30) : ks_M L xs mX2_movedDown rm_X2_movedDown [.long (lN v), .int (nI n)] σ (pl_ fun r σ' => r = lN (st_ v n) ∧ σ' = σ) := by
  refine ks_body (by decide) (Nat.le_of_ble_eq_true rfl) ?_
  refine sg_X2_movedDown_0 (cs_X2_movedDown_3 c_min (fun r σ1 hr => ?_))
  obtain ⟨rfl, rfl⟩ := hr
  rw [show (62 : Int32) = nI 62 from rfl, min_nI (by omega) (by decide)]
  have hj : min n 62 < 64 := by omega
  have hq : v / 2 ^ (min n 62) ≤ v := Nat.div_le_self _ _
  have hd := Nat.div_add_mod v (2 ^ (min n 62))
  have hq2 : v / 2 ^ (min n 62) * 2 ^ (min n 62) ≤ v := Nat.div_mul_le_self _ _
  have hs : st_ v n = st_ v (min n 62) := by
    by_cases c : n ≤ 62
    · rw [Nat.min_eq_left c]
    · rw [Nat.min_eq_right (by omega)]
      have hp : 2 ^ 62 < 2 ^ n := Nat.pow_lt_pow_right (by decide) (by omega)
      unfold st_
      rw [Nat.mod_eq_of_lt (show v < 2 ^ n by omega), Nat.mod_eq_of_lt (show v < 2 ^ 62 by omega), Nat.div_eq_of_lt (show v < 2 ^ n by omega), Nat.div_eq_of_lt (show v < 2 ^ 62 by omega)]
  have key : lg_cmp ((((lN v).toUInt64 >>> ((nI (min n 62)).toInt64.toUInt64 &&& Int64.toUInt64 63)).toInt64) <<< ((nI (min n 62)).toInt64 &&& 63)) (lN v) = 0 ↔ v % 2 ^ (min n 62) = 0 := by
    rw [lN_shr hj (by omega), lN_shl hj (by omega), lg_cmp_eq, pk_lEQ (by omega) (by omega)]
    have : 2 ^ (min n 62) * (v / 2 ^ (min n 62)) = v / 2 ^ (min n 62) * 2 ^ (min n 62) := Nat.mul_comm _ _
    omega
  refine sg_X2_movedDown_6 (fun c => sg_X2_movedDown_30 ⟨_, rfl, ?_, rfl⟩) (fun c => sg_X2_movedDown_30 ⟨_, rfl, ?_, rfl⟩)
  · rw [hs, lN_shr hj (by omega), show (1 : Int64) = lN 1 from rfl, lN_or (by omega) (by decide)]
    unfold st_
    rw [if_neg (fun z => c (key.mpr z))]
    congr 1
    generalize v / 2 ^ (min n 62) = q
    apply Nat.eq_of_testBit_eq
    intro k
    rw [Nat.testBit_or]
    rcases Nat.mod_two_eq_zero_or_one q with h | h
    · rw [h, show q + (1 - 0) = 2 ^ 1 * (q / 2) + 1 by omega, Nat.testBit_two_pow_mul_add _ (by decide)]
      cases k with
      | zero => simp [Nat.testBit_zero]
      | succ k => simp [Nat.testBit_succ]
    · rw [h, show q + (1 - 1) = q by omega]
      cases k with
      | zero => simp [Nat.testBit_zero, h]
      | succ k => simp [Nat.testBit_succ]
  · rw [hs, lN_shr hj (by omega)]
    unfold st_
    rw [if_pos (key.mp c)]
theorem y_eq (h : PN_ f e y σ) {j : Nat} (hj : j < 2 ^ 31) : si_ σ 8 = nI j ↔ y = j := by rw [h.2.2.1]; have := h.2.1; exact nI_eq (by omega) hj
theorem c_goesAway {m g hf : Nat} (h : PN_ f e y σ) (hs : si_ σ 12 = b1_ s) (hm : m < 2 ^ 62) (hg : g < 2 ^ 62) (hh : hf < 2 ^ 62) (hh0 : 0 < hf) : ks_M L xs mX2_goesAway rm_X2_goesAway [.ref 16, .long (lN m), .long (lN g), .long (lN hf)] σ (pi_ fun r σ' => r = b1_ (mr_ y s m (cu_ (2 * g) (2 * hf))) ∧ σ' = σ) := by
  refine ks_body (by decide) (Nat.le_of_ble_eq_true rfl) ?_
  have ey : ∀ j, j < 2 ^ 31 → (si_ σ 8 = nI j ↔ y = j) := fun j hj => y_eq h hj
  have k1 : 0 < lg_cmp (lN g) (lN hf) ↔ hf < g := by rw [lg_cmp_gt, pk_lLT (by omega) (by omega)]
  have k2 : lg_cmp (lN g) (lN hf) = 0 ↔ g = hf := by rw [lg_cmp_eq, pk_lEQ (by omega) (by omega)]
  have k3 : lg_cmp (lN g) (lN hf) < 0 ↔ g < hf := by rw [lg_cmp_lt, pk_lLT (by omega) (by omega)]
  have k4 : lg_cmp (lN g) 0 = 0 ↔ g = 0 := by rw [lg_cmp_eq, un_eq0, unl (by omega)]
  have k5 := lN_mod2 (m := m) (by omega)
  have hcu : (cu_ (2 * g) (2 * hf) = 3 ↔ hf < g) ∧ (cu_ (2 * g) (2 * hf) = 2 ↔ g = hf) ∧ (cu_ (2 * g) (2 * hf) ≠ 0 ↔ g ≠ 0) ∧ (2 ≤ cu_ (2 * g) (2 * hf) ↔ hf ≤ g) := by
    unfold cu_
    by_cases z : 2 * g = 0
    · rw [if_pos z]; omega
    · rw [if_neg z]
      by_cases z2 : 2 * g < 2 * hf
      · rw [if_pos z2]; omega
      · rw [if_neg z2]
        by_cases z3 : 2 * g = 2 * hf
        · rw [if_pos z3]; omega
        · rw [if_neg z3]; omega
  generalize cu_ (2 * g) (2 * hf) = c at *
  obtain ⟨q3, q2, q0, qa⟩ := hcu
  have E : ∀ (b b' : Bool), b = b' → b1_ b = b1_ b' := fun b b' z => by rw [z]
  refine sg_X2_goesAway_0 (fun a b => ?_) (fun a b d => ?_) (fun a b d i => ?_) (fun a b d i => ?_) (fun _ a => ?_) (fun _ _ a b => ?_) (fun _ _ a b d => ?_) (fun _ _ a b d => ?_) (fun _ _ _ a b => ?_) (fun _ _ _ a b d => ?_) (fun _ _ _ a b d => ?_) (fun _ _ _ _ a b => ?_) (fun _ _ _ _ a b => ?_) (fun a0 a1 a2 a3 a4 => ?_)
  · have a' := (ey 0 (by decide)).mp a; subst a'
    refine sg_X2_goesAway_62 (sg_X2_goesAway_67 rfl ⟨_, rfl, E true _ ?_, rfl⟩)
    exact (decide_eq_true (Or.inl (q3.mpr (k1.mp b)))).symm
  · have a' := (ey 0 (by decide)).mp a; subst a'
    refine sg_X2_goesAway_66 (sg_X2_goesAway_67 rfl ⟨_, rfl, E false _ ?_, rfl⟩)
    rw [k1] at b
    rw [k2] at d
    exact (decide_eq_false (by rw [q3, q2]; omega)).symm
  · have a' := (ey 0 (by decide)).mp a; subst a'
    refine sg_X2_goesAway_66 (sg_X2_goesAway_67 rfl ⟨_, rfl, E false _ ?_, rfl⟩)
    rw [k1] at b
    rw [k5] at i
    exact (decide_eq_false (by rw [q3, q2]; omega)).symm
  · have a' := (ey 0 (by decide)).mp a; subst a'
    refine sg_X2_goesAway_62 (sg_X2_goesAway_67 rfl ⟨_, rfl, E true _ ?_, rfl⟩)
    rw [k2] at d
    rw [k5] at i
    exact (decide_eq_true (Or.inr ⟨q2.mpr d, i⟩)).symm
  · have a' := (ey 1 (by decide)).mp a; subst a'
    exact ⟨_, rfl, rfl, rfl⟩
  · have a' := (ey 2 (by decide)).mp a; subst a'
    refine sg_X2_goesAway_85 (sg_X2_goesAway_86 rfl ⟨_, rfl, E false _ ?_, rfl⟩)
    show false = (decide (c ≠ 0) && !s)
    rw [decide_eq_false (by rw [q0]; exact fun z => z (k4.mp b))]; rfl
  · have a' := (ey 2 (by decide)).mp a; subst a'
    refine sg_X2_goesAway_85 (sg_X2_goesAway_86 rfl ⟨_, rfl, E false _ ?_, rfl⟩)
    rw [hs, b1_0] at d
    show false = (decide (c ≠ 0) && !s)
    rw [eq_true_of_ne_false d]; simp
  · have a' := (ey 2 (by decide)).mp a; subst a'
    refine sg_X2_goesAway_86 rfl ⟨_, rfl, E true _ ?_, rfl⟩
    rw [hs, b1_0] at d
    show true = (decide (c ≠ 0) && !s)
    rw [decide_eq_true (q0.mpr (fun z => b (k4.mpr z))), d]; rfl
  · have a' := (ey 3 (by decide)).mp a; subst a'
    refine sg_X2_goesAway_104 (sg_X2_goesAway_105 rfl ⟨_, rfl, E false _ ?_, rfl⟩)
    show false = (decide (c ≠ 0) && s)
    rw [decide_eq_false (by rw [q0]; exact fun z => z (k4.mp b))]; rfl
  · have a' := (ey 3 (by decide)).mp a; subst a'
    refine sg_X2_goesAway_104 (sg_X2_goesAway_105 rfl ⟨_, rfl, E false _ ?_, rfl⟩)
    rw [hs, b1_0] at d
    show false = (decide (c ≠ 0) && s)
    rw [d]; simp
  · have a' := (ey 3 (by decide)).mp a; subst a'
    refine sg_X2_goesAway_105 rfl ⟨_, rfl, E true _ ?_, rfl⟩
    rw [hs, b1_0] at d
    show true = (decide (c ≠ 0) && s)
    rw [decide_eq_true (q0.mpr (fun z => b (k4.mpr z))), eq_true_of_ne_false d]; rfl
  · have a' := (ey 4 (by decide)).mp a; subst a'
    refine sg_X2_goesAway_118 rfl ⟨_, rfl, E false _ ?_, rfl⟩
    rw [k3] at b
    exact (decide_eq_false (by rw [qa]; omega)).symm
  · have a' := (ey 4 (by decide)).mp a; subst a'
    refine sg_X2_goesAway_118 rfl ⟨_, rfl, E true _ ?_, rfl⟩
    rw [k3] at b
    exact (decide_eq_true (by rw [qa]; omega)).symm
  · have hy := h.2.1
    have b0 := fun z => a0 ((ey 0 (by decide)).mpr z)
    have b1 := fun z => a1 ((ey 1 (by decide)).mpr z)
    have b2 := fun z => a2 ((ey 2 (by decide)).mpr z)
    have b3 := fun z => a3 ((ey 3 (by decide)).mpr z)
    have b4 := fun z => a4 ((ey 4 (by decide)).mpr z)
    exfalso
    have : y = 0 ∨ y = 1 ∨ y = 2 ∨ y = 3 ∨ y = 4 := by omega
    rcases this with z | z | z | z | z
    · exact b0 z
    · exact b1 z
    · exact b2 z
    · exact b3 z
    · exact b4 z
theorem c_tooGreat (h : PN_ f e y σ) (hs : si_ σ 12 = b1_ s) : ks_M L xs mX2_tooGreat rm_X2_tooGreat [.ref 16] σ (pl_ fun r σ' => r = lN (tg_ f e y s) ∧ σ' = ui_ σ 7 (si_ σ 7 ||| 20)) := by
  refine ks_body (by decide) (Nat.le_of_ble_eq_true rfl) ?_
  have h' : PN_ f e y (ui_ σ 7 (si_ σ 7 ||| 20)) := PN_fr h (show fr_ [7] [] [] [] σ _ from fr_ui _ _ (by decide)) (by decide) (by decide)
  have hs' : si_ (ui_ σ 7 (si_ σ 7 ||| 20)) 12 = b1_ s := hs
  generalize hσ1 : ui_ σ 7 (si_ σ 7 ||| 20) = σ1 at h' hs' ⊢
  have ey : ∀ j, j < 2 ^ 31 → (si_ σ1 8 = nI j ↔ y = j) := fun j hj => y_eq h' hj
  have hb := fmt_b h.1
  have at56 : ∀ p q : Bool, (p = true ↔ y = 0 ∨ y = 4) → (q = true ↔ y = (if s then 3 else 2)) → ks_W L xs mX2_tooGreat rm_X2_tooGreat 56 [(0, .ref 16), (1, .int (b1_ p))] [.int (b1_ q)] σ1 0 0 (pl_ fun r σ' => r = lN (tg_ f e y s) ∧ σ' = σ1) := by
    intro p q hp hq
    have yes : (y = 0 ∨ y = 4 ∨ y = (if s then 3 else 2)) → ks_W L xs mX2_tooGreat rm_X2_tooGreat 65 [(0, .ref 16)] [] σ1 0 0 (pl_ fun r σ' => r = lN (tg_ f e y s) ∧ σ' = σ1) := by
      intro z
      refine sg_X2_tooGreat_65 ?_
      rw [hs']
      refine cs_X2_tooGreat_70 (c_infinite h') (fun r σ2 hr => ?_)
      obtain ⟨rfl, rfl⟩ := hr
      exact sg_X2_tooGreat_73 (sg_X2_tooGreat_86 ⟨_, rfl, by rw [tg_, if_pos z], rfl⟩)
    refine sg_X2_tooGreat_56 (fun c => yes ?_) (fun c d => ?_) (fun c d => yes ?_)
    · rw [b1_0] at c
      rcases hp.mp (eq_true_of_ne_false c) with z | z
      · exact Or.inl z
      · exact Or.inr (Or.inl z)
    · rw [b1_0] at c d
      rw [hs']
      refine cs_X2_tooGreat_81 (c_infinite h') (fun r σ2 hr => ?_)
      obtain ⟨rfl, rfl⟩ := hr
      refine sg_X2_tooGreat_84 (sg_X2_tooGreat_86 ⟨_, rfl, ?_, rfl⟩)
      have no : ¬ (y = 0 ∨ y = 4 ∨ y = (if s then 3 else 2)) := by
        rintro (z | z | z)
        · rw [hp.mpr (Or.inl z)] at c; exact absurd c (by decide)
        · rw [hp.mpr (Or.inr z)] at c; exact absurd c (by decide)
        · rw [hq.mpr z] at d; exact absurd d (by decide)
      rw [tg_, if_neg no]
      have : 1 ≤ vI f e s := by
        unfold vI
        have h1 : 1 * 1 ≤ (2 ^ e - 1) * 2 ^ f := Nat.mul_le_mul (by omega) (Nat.two_pow_pos f)
        omega
      exact lN_sub (b := 1) this
    · rw [b1_0] at d
      exact Or.inr (Or.inr (hq.mp (eq_true_of_ne_false d)))
  have at31 : ∀ p : Bool, (p = true ↔ y = 0 ∨ y = 4) → ks_W L xs mX2_tooGreat rm_X2_tooGreat 31 [(0, .ref 16)] [.int (b1_ p)] σ1 0 0 (pl_ fun r σ' => r = lN (tg_ f e y s) ∧ σ' = σ1) := by
    intro p hp
    have at48 : ∀ j, j < 2 ^ 31 → j = (if s then 3 else 2) → ks_W L xs mX2_tooGreat rm_X2_tooGreat 48 [(0, .ref 16), (1, .int (b1_ p))] [.int (nI j), .int (si_ σ1 8)] σ1 0 0 (pl_ fun r σ' => r = lN (tg_ f e y s) ∧ σ' = σ1) := by
      intro j hj ej
      refine sg_X2_tooGreat_48 (fun c => at56 p false hp ?_) (fun c => at56 p true hp ?_)
      · rw [ey j hj, ej] at c
        exact ⟨fun z => absurd z (by decide), fun z => absurd z c⟩
      · rw [ey j hj, ej] at c
        exact ⟨fun _ => c, fun _ => rfl⟩
    refine sg_X2_tooGreat_31 (fun c => at48 2 (by decide) ?_) (fun c => at48 3 (by decide) ?_)
    · rw [hs', b1_0] at c; rw [c]; rfl
    · rw [hs', b1_0] at c; rw [eq_true_of_ne_false c]; rfl
  refine sg_X2_tooGreat_0 (fun c => ?_) (fun c d => ?_) (fun c d => ?_)
  · rw [hσ1] at c ⊢
    exact sg_X2_tooGreat_26 (at31 true ⟨fun _ => Or.inl ((ey 0 (by decide)).mp c), fun _ => rfl⟩)
  · rw [hσ1] at c d ⊢
    refine at31 false ⟨fun z => absurd z (by decide), fun z => ?_⟩
    rcases z with z | z
    · exact absurd ((ey 0 (by decide)).mpr z) c
    · exact absurd ((ey 4 (by decide)).mpr z) d
  · rw [hσ1] at c d ⊢
    exact sg_X2_tooGreat_26 (at31 true ⟨fun _ => Or.inr ((ey 4 (by decide)).mp d), fun _ => rfl⟩)
theorem c_finite {u m : Nat} (h : PN_ f e y σ) (hs : si_ σ 12 = b1_ s) (hm : m ≤ 2 ^ (f + 1)) (hu : lq_ f e ≤ u) (hu2 : u < 2 ^ 20) : ks_M L xs mX2_finite rm_X2_finite [.ref 16, .long (lN m), .int (pw_ u)] σ (pl_ fun r σ' => r = lN (fn_ f e y s u m).1 ∧ σ' = if (fn_ f e y s u m).2 then ui_ σ 7 (si_ σ 7 ||| 20) else σ) := by
  refine ks_body (by decide) (Nat.le_of_ble_eq_true rfl) ?_
  have hb := fmt_b h.1
  have hf1 : 2 ^ (f + 1) = 2 ^ f * 2 := Nat.pow_succ ..
  have hpf : 2 ^ f ≤ 2 ^ 23 := Nat.pow_le_pow_right (by decide) (by omega)
  have h9 : si_ σ 9 = nI f := h.2.2.2.1
  have e1 : (1 : Int64) <<< ((si_ σ 9).toInt64 &&& 63) = lN (2 ^ f) := by rw [h9]; exact lN_one (by omega)
  have e2 : lN (2 ^ f) <<< ((1 : Int32).toInt64 &&& 63) = lN (2 ^ (f + 1)) := by
    rw [show (1 : Int32) = nI 1 from rfl, lN_shl (by decide) (by omega), hf1]
  have k1 : 0 ≤ lg_cmp (lN m) (lN (2 ^ f)) ↔ 2 ^ f ≤ m := by rw [lg_cmp_ge, pk_lLE (by omega) (by omega)]
  have k2 : lg_cmp (lN m) (lN (2 ^ (f + 1))) = 0 ↔ m = 2 ^ (f + 1) := by rw [lg_cmp_eq, pk_lEQ (by omega) (by omega)]
  have at72 : 2 ^ f ≤ m → ks_W L xs mX2_finite rm_X2_finite 72 [(0, .ref 16), (7, .long (lN (if m = 2 ^ (f + 1) then 0 else m - 2 ^ f)))] [.int (nI (if m = 2 ^ (f + 1) then 2 else 1)), .int (pw_ u - si_ σ 11)] σ 0 0 (pl_ fun r σ' => r = lN (fn_ f e y s u m).1 ∧ σ' = if (fn_ f e y s u m).2 then ui_ σ 7 (si_ σ 7 ||| 20) else σ) := by
    intro hge
    have nlt : ¬ m < 2 ^ f := by omega
    have hfr : (if m = 2 ^ (f + 1) then 0 else m - 2 ^ f) < 2 ^ f := by
      have := Nat.two_pow_pos f
      split <;> omega
    have hE : pw_ u - si_ σ 11 + nI (if m = 2 ^ (f + 1) then 2 else 1) = nI (u - lq_ f e + (if m = 2 ^ (f + 1) then 2 else 1)) := by
      rw [h.2.2.2.2.2.1, pw_pw hu, nI_add]
    have hE2 : (if m = 2 ^ (f + 1) then 2 else 1) ≤ 2 := by split <;> omega
    generalize hfrv : (if m = 2 ^ (f + 1) then 0 else m - 2 ^ f) = fr at *
    generalize hEv : (if m = 2 ^ (f + 1) then 2 else 1) = ev at *
    have hfn : fn_ f e y s u m = if u - lq_ f e + ev < 2 ^ e - 1 then ((u - lq_ f e + ev) * 2 ^ f + fr + 2 ^ (f + e) * s.toNat, false) else (tg_ f e y s, true) := by
      rw [fn_, if_neg nlt, hfrv, hEv]
    have kE : nI (u - lq_ f e + ev) < si_ σ 10 ↔ u - lq_ f e + ev < 2 ^ e - 1 := by rw [h.2.2.2.2.1]; exact nI_ltI (by omega) (by omega)
    refine sg_X2_finite_72 (fun c => ?_) (fun c => ?_)
    · rw [hE] at c ⊢
      rw [kE] at c
      rw [hfn, if_pos c]
      have hlt : (u - lq_ f e + ev) * 2 ^ f + fr < 2 ^ (f + e) := by
        have h1 : (u - lq_ f e + ev + 1) * 2 ^ f ≤ 2 ^ e * 2 ^ f := Nat.mul_le_mul_right _ (by omega)
        rw [Nat.add_mul, Nat.one_mul, ← Nat.pow_add, Nat.add_comm e f] at h1
        omega
      have hp31 : 2 ^ (f + e) ≤ 2 ^ 31 := Nat.pow_le_pow_right (by decide) (by omega)
      have ev2 : (nI (u - lq_ f e + ev)).toInt64 <<< ((si_ σ 9).toInt64 &&& 63) ||| lN fr = lN ((u - lq_ f e + ev) * 2 ^ f + fr) := by
        rw [h9, nI_l (by omega), lN_shl (by omega) (by omega), lN_or (by omega) (by omega)]
        congr 1
        rw [Nat.mul_comm]
        exact (Nat.two_pow_add_eq_or_of_lt hfr _).symm
      rw [ev2, hs]
      refine cs_X2_finite_105 (c_withSign h hlt) (fun r σ1 hr => ?_)
      obtain ⟨rfl, rfl⟩ := hr
      exact sg_X2_finite_108 ⟨_, rfl, rfl, rfl⟩
    · rw [hE, kE] at c
      rw [hfn, if_neg c]
      refine cs_X2_finite_85 (c_tooGreat h hs) (fun r σ1 hr => ?_)
      obtain ⟨rfl, rfl⟩ := hr
      exact sg_X2_finite_88 ⟨_, rfl, rfl, rfl⟩
  have at39 : 2 ^ f ≤ m → ∀ b : Bool, (b = true ↔ m = 2 ^ (f + 1)) → ks_W L xs mX2_finite rm_X2_finite 39 [(0, .ref 16), (1, .long (lN m)), (3, .int (pw_ u)), (4, .long (lN (2 ^ f)))] [.int (b1_ b)] σ 0 0 (pl_ fun r σ' => r = lN (fn_ f e y s u m).1 ∧ σ' = if (fn_ f e y s u m).2 then ui_ σ 7 (si_ σ 7 ||| 20) else σ) := by
    intro hge b hbm
    have a72 := at72 hge
    refine sg_X2_finite_39 (fun c => ?_) (fun c => ?_)
    · have hb0 : b = false := b1_0.mp c
      have hne : ¬ m = 2 ^ (f + 1) := fun z => by rw [hbm.mpr z] at hb0; exact absurd hb0 (by decide)
      rw [if_neg hne, if_neg hne] at a72
      rw [lN_sub hge]
      exact sg_X2_finite_54 (fun _ => a72) (fun d => absurd c d)
    · have hb1 : b = true := eq_true_of_ne_false (fun z => c (b1_0.mpr z))
      have he := hbm.mp hb1
      rw [if_pos he, if_pos he] at a72
      exact sg_X2_finite_54 (fun d => absurd d c) (fun _ => a72)
  refine sg_X2_finite_0 (fun c d => ?_) (fun c d => ?_) (fun c => ?_)
  · rw [e1] at c d ⊢
    rw [e2] at d
    rw [k1] at c
    rw [k2] at d
    exact at39 c false ⟨fun z => absurd z (by decide), fun z => absurd z d⟩
  · rw [e1] at c d ⊢
    rw [e2] at d
    rw [k1] at c
    rw [k2] at d
    exact at39 c true ⟨fun _ => d, fun _ => rfl⟩
  · rw [e1, k1] at c
    have hlt : m < 2 ^ f := by omega
    have hlt2 : m < 2 ^ (f + e) := Nat.lt_of_lt_of_le hlt (Nat.pow_le_pow_right (by decide) (by omega))
    rw [fn_, if_pos hlt, hs]
    refine cs_X2_finite_21 (c_withSign h hlt2) (fun r σ1 hr => ?_)
    obtain ⟨rfl, rfl⟩ := hr
    exact sg_X2_finite_24 ⟨_, rfl, rfl, rfl⟩
theorem c_rounded {M k : Nat} (h : PN_ f e y σ) (hs : si_ σ 12 = b1_ s) (hM : sj_ σ 1 = lN M) (hMb : M < 2 ^ 61) (hk : si_ σ 13 = pw_ k) (hk1 : 100 ≤ k) (hk2 : k < 5000) (h7 : si_ σ 7 = 0) : ks_M L xs mX2_rounded rm_X2_rounded [.ref 16] σ (pl_ fun r σ' => r = lN (rr_ f e y s M k).1 ∧ si_ σ' 7 = nI (rr_ f e y s M k).2 ∧ fr_ [7] [] [] [] σ σ') := by
  refine ks_body (by decide) (Nat.le_of_ble_eq_true rfl) ?_
  have hb := fmt_b h.1
  have k0 : lg_cmp (sj_ σ 1) 0 = 0 ↔ M = 0 := by rw [hM, lg_cmp_eq, un_eq0, unl (by omega)]
  have h9 : si_ σ 9 = nI f := h.2.2.2.1
  refine sg_X2_rounded_0 (fun c => ?_) (fun c => ?_)
  · rw [k0] at c
    rw [hM, hk]
    refine cs_X2_rounded_27 c_lengthOfLimb (fun r σ1 hr => ?_)
    obtain ⟨⟨n, hn, rfl, hln⟩, rfl⟩ := hr
    rw [unl (by omega)] at hln
    have hn0 : n ≠ 0 := fun z => by rw [z] at hln; have := hln.1; simp at this; exact c this
    have hlog : Nat.log2 M = n - 1 := (Nat.log2_eq_iff c).mpr ⟨hln.2.resolve_left hn0, by rw [show n - 1 + 1 = n by omega]; exact hln.1⟩
    have hrr : rr_ f e y s M k = rv_ f e y s (ru_ f (lq_ f e) M k) (rm_ M k (ru_ f (lq_ f e) M k)) (rk_ M k (ru_ f (lq_ f e) M k)) := by rw [rr_, if_neg c]
    have hsm := sm_lt (f := f) (lp := lq_ f e) (k := k) c
    have hrm := rm_lt (f := f) (lp := lq_ f e) (k := k) c
    have hru := ru_ge f (lq_ f e) M k
    have huv : ru_ f (lq_ f e) M k = max (n - 1 + k - f) (lq_ f e) := by
      unfold ru_; rw [hlog]; split <;> omega
    rw [hlog] at hsm
    generalize hu : ru_ f (lq_ f e) M k = u at *
    rw [hrr]
    refine sg_X2_rounded_30 ?_
    have ehp : pw_ k + nI n - 1 = pw_ (n - 1 + k) := by
      rw [pw_add, show (1 : Int32) = nI 1 from rfl, pw_sub (by omega)]; congr 1; omega
    rw [ehp, h9, pw_sub (by omega), h.2.2.2.2.2.1]
    refine cs_X2_rounded_44 c_max (fun r σ2 hr => ?_)
    obtain ⟨er, rfl⟩ := hr
    have er' : r = pw_ u := by
      rw [er, huv]
      by_cases z : n - 1 + k - f < lq_ f e
      · rw [if_pos ((pw_lt (by omega) (by omega)).mpr z), show max (n - 1 + k - f) (lq_ f e) = lq_ f e by omega]
      · rw [if_neg (fun q => z ((pw_lt (by omega) (by omega)).mp q)), show max (n - 1 + k - f) (lq_ f e) = n - 1 + k - f by omega]
    subst er'
    have hu2 : u < 2 ^ 20 := by omega
    refine sg_X2_rounded_47 (fun d => ?_) (fun d => ?_)
    · rw [hk, pw_lt (by omega) (by omega)] at d
      rw [hk, pw_pw (by omega)]
      refine cs_X2_rounded_81 c_min (fun r σ3 hr => ?_)
      obtain ⟨rfl, rfl⟩ := hr
      rw [show (62 : Int32) = nI 62 from rfl, min_nI (by omega) (by decide)]
      obtain ⟨p1, p2⟩ := pl_same (d := u - k) hMb
      have hj : min (u - k) 62 < 64 := by omega
      have hj1 : 1 ≤ min (u - k) 62 := by omega
      generalize hjv : min (u - k) 62 = j at *
      have hrmv : rm_ M k u = M / 2 ^ j := by rw [rm_, if_neg (by omega), p1]
      have hrkv : rk_ M k u = cu_ (2 * (M % 2 ^ j)) (2 ^ j) := by rw [rk_, if_neg (by omega), p2]
      have hq2 : M / 2 ^ j * 2 ^ j ≤ M := Nat.div_mul_le_self _ _
      have hdm := Nat.div_add_mod M (2 ^ j)
      have hcm : 2 ^ j * (M / 2 ^ j) = M / 2 ^ j * 2 ^ j := Nat.mul_comm _ _
      have eK : ((sj_ σ3 1).toUInt64 >>> ((nI j).toInt64.toUInt64 &&& Int64.toUInt64 63)).toInt64 = lN (M / 2 ^ j) := by rw [hM]; exact lN_shr hj (by omega)
      have eG : sj_ σ3 1 - (lN (M / 2 ^ j) <<< ((nI j).toInt64 &&& 63)) = lN (M % 2 ^ j) := by
        rw [hM, lN_shl hj (by omega), lN_sub hq2]; congr 1; omega
      have hle : M % 2 ^ j ≤ M := Nat.mod_le _ _
      have hle2 : M / 2 ^ j ≤ M := Nat.div_le_self _ _
      have hhalf : 2 ^ j = 2 * 2 ^ (j - 1) := by rw [Nat.mul_comm, ← Nat.pow_succ]; congr 1; omega
      have hh62 : 2 ^ (j - 1) < 2 ^ 62 := Nat.pow_lt_pow_right (by decide) (by omega)
      have kG : lg_cmp (lN (M % 2 ^ j)) 0 = 0 ↔ M % 2 ^ j = 0 := by rw [lg_cmp_eq, un_eq0, unl (by omega)]
      rw [hrmv, hrkv]
      rw [hrmv] at hsm hrm
      have c0 : cu_ (2 * (M % 2 ^ j)) (2 * 2 ^ (j - 1)) = 0 ↔ M % 2 ^ j = 0 := by rw [cu_0]; omega
      have hcu : cu_ (2 * (M % 2 ^ j)) (2 ^ j) = cu_ (2 * (M % 2 ^ j)) (2 * 2 ^ (j - 1)) := by rw [← hhalf]
      rw [hcu]
      -- once the flags are set
      have fin : ∀ (σ4 : ks_St) (g : Nat), PN_ f e y σ4 → si_ σ4 12 = b1_ s → si_ σ4 7 = nI g → (g = 0 ∨ g = 16 ∨ g = 24) → g = (if cu_ (2 * (M % 2 ^ j)) (2 * 2 ^ (j - 1)) = 0 then 0 else if M / 2 ^ j < 2 ^ f then 24 else 16) → fr_ [7] [] [] [] σ3 σ4 →
          ks_W L xs mX2_rounded rm_X2_rounded 150 [(0, .ref 16), (2, .int (pw_ u)), (3, .int (nI j)), (4, .long (lN (M / 2 ^ j))), (6, .long (lN (M % 2 ^ j)))] [] σ4 0 0 (pl_ fun r σ' => r = lN (rv_ f e y s u (M / 2 ^ j) (cu_ (2 * (M % 2 ^ j)) (2 * 2 ^ (j - 1)))).1 ∧ si_ σ' 7 = nI (rv_ f e y s u (M / 2 ^ j) (cu_ (2 * (M % 2 ^ j)) (2 * 2 ^ (j - 1)))).2 ∧ fr_ [7] [] [] [] σ3 σ') := by
        intro σ4 g h4 hs4 hg7 hg3 hg f4
        refine sg_X2_rounded_150 ?_
        rw [show nI j - 1 = nI (j - 1) from pk_sub (b := 1) hj1, lN_one (by omega)]
        refine cs_X2_rounded_160 (c_goesAway h4 hs4 (by omega) (by omega) hh62 (Nat.two_pow_pos _)) (fun r σ5 hr => ?_)
        obtain ⟨rfl, rfl⟩ := hr
        have go : ks_W L xs mX2_rounded rm_X2_rounded 181 [] [.int (pw_ u), .long (lN (M / 2 ^ j + (mr_ y s (M / 2 ^ j) (cu_ (2 * (M % 2 ^ j)) (2 * 2 ^ (j - 1)))).toNat)), .ref 16] σ5 0 0 (pl_ fun r σ' => r = lN (rv_ f e y s u (M / 2 ^ j) (cu_ (2 * (M % 2 ^ j)) (2 * 2 ^ (j - 1)))).1 ∧ si_ σ' 7 = nI (rv_ f e y s u (M / 2 ^ j) (cu_ (2 * (M % 2 ^ j)) (2 * 2 ^ (j - 1)))).2 ∧ fr_ [7] [] [] [] σ3 σ') := by
          have hb1 : (mr_ y s (M / 2 ^ j) (cu_ (2 * (M % 2 ^ j)) (2 * 2 ^ (j - 1)))).toNat ≤ 1 := by
            cases mr_ y s (M / 2 ^ j) (cu_ (2 * (M % 2 ^ j)) (2 * 2 ^ (j - 1))) <;> decide
          refine cs_X2_rounded_181 (c_finite h4 hs4 (by omega) hru hu2) (fun r σ6 hr => ?_)
          obtain ⟨rfl, e6⟩ := hr
          refine sg_X2_rounded_184 ⟨_, rfl, rfl, ?_, ?_⟩
          · show si_ σ6 7 = nI ((if cu_ (2 * (M % 2 ^ j)) (2 * 2 ^ (j - 1)) = 0 then 0 else if M / 2 ^ j < 2 ^ f then 24 else 16) ||| (if (fn_ f e y s u (M / 2 ^ j + (mr_ y s (M / 2 ^ j) (cu_ (2 * (M % 2 ^ j)) (2 * 2 ^ (j - 1)))).toNat)).2 then 20 else 0))
            rw [e6, ← hg]
            cases (fn_ f e y s u (M / 2 ^ j + (mr_ y s (M / 2 ^ j) (cu_ (2 * (M % 2 ^ j)) (2 * 2 ^ (j - 1)))).toNat)).2
            · simp only [Bool.false_eq_true, if_false, Nat.or_zero]; exact hg7
            · simp only [if_true]
              rw [si_ui, if_pos rfl, hg7]
              rcases hg3 with rfl | rfl | rfl <;> decide
          · rw [e6]
            split
            · exact fr_trans f4 (fr_ui _ _ (by decide))
            · exact f4
        refine sg_X2_rounded_163 (fun z => ?_) (fun z => ?_)
        · rw [b1_0] at z
          rw [z] at go
          exact sg_X2_rounded_180 go
        · rw [b1_0] at z
          rw [eq_true_of_ne_false z] at go
          refine sg_X2_rounded_180 ?_
          rw [lN_1]
          exact go
      have f16 : fr_ [7] [] [] [] σ3 (ui_ σ3 7 (si_ σ3 7 ||| 16)) := fr_ui _ _ (by decide)
      have e16 : si_ (ui_ σ3 7 (si_ σ3 7 ||| 16)) 7 = nI 16 := by rw [si_ui, if_pos rfl, h7]; decide
      have kS : si_ (ui_ σ3 7 (si_ σ3 7 ||| 16)) 11 + si_ (ui_ σ3 7 (si_ σ3 7 ||| 16)) 9 ≤ pw_ (n - 1 + k) ↔ lq_ f e + f ≤ n - 1 + k := by
        rw [show si_ (ui_ σ3 7 (si_ σ3 7 ||| 16)) 11 = si_ σ3 11 from rfl, show si_ (ui_ σ3 7 (si_ σ3 7 ||| 16)) 9 = si_ σ3 9 from rfl, h.2.2.2.2.2.1, h9, pw_add, pw_le (by omega) (by omega)]
      have h16 : PN_ f e y (ui_ σ3 7 (si_ σ3 7 ||| 16)) := PN_fr h f16 (by decide) (by decide)
      have hs16 : si_ (ui_ σ3 7 (si_ σ3 7 ||| 16)) 12 = b1_ s := hs
      refine sg_X2_rounded_84 (fun z => ?_) (fun z q => ?_) (fun z q => ?_)
      · rw [eK, eG] at z ⊢
        rw [kG] at z
        exact fin σ3 0 h hs h7 (Or.inl rfl) (by rw [if_pos (c0.mpr z)]) (fr_refl _)
      · rw [eK, eG] at z ⊢
        rw [kG] at z
        rw [kS] at q
        refine sg_X2_rounded_146 (fin _ 16 ?_ ?_ ?_ (Or.inr (Or.inl rfl)) ?_ ?_)
        · exact PN_fr h16 (show fr_ [7] [] [] [] _ _ from fr_ui _ _ (by decide)) (by decide) (by decide)
        · exact hs
        · rw [si_ui, if_pos rfl, e16]; decide
        · rw [if_neg (fun y => z (c0.mp y)), if_neg (by omega)]
        · exact fr_trans f16 (fr_ui _ _ (by decide))
      · rw [eK, eG] at z ⊢
        rw [kG] at z
        rw [kS] at q
        refine sg_X2_rounded_146 (fin _ 24 ?_ ?_ ?_ (Or.inr (Or.inr rfl)) ?_ ?_)
        · exact PN_fr h16 (show fr_ [7] [] [] [] _ _ from fr_ui _ _ (by decide)) (by decide) (by decide)
        · exact hs
        · rw [si_ui, if_pos rfl, e16]; decide
        · rw [if_neg (fun y => z (c0.mp y)), if_pos (by omega)]
        · exact fr_trans f16 (fr_ui _ _ (by decide))
    · rw [hk, pw_lt (by omega) (by omega)] at d
      have hrmv : rm_ M k u = M * 2 ^ (k - u) := by rw [rm_, if_pos (by omega)]
      have hrkv : rk_ M k u = 0 := by rw [rk_, if_pos (by omega)]
      rw [hrmv, hrkv]
      rw [hrmv] at hrm
      have hp25 : 2 ^ (f + 1) ≤ 2 ^ 24 := Nat.pow_le_pow_right (by decide) (by omega)
      have hku : k - u < 64 := by
        have h1 : 1 * 2 ^ (k - u) ≤ M * 2 ^ (k - u) := Nat.mul_le_mul_right _ (by omega)
        rw [Nat.one_mul] at h1
        have h2 : 2 ^ (k - u) < 2 ^ 24 := by omega
        have := (Nat.pow_lt_pow_iff_right (a := 2) (by decide)).mp h2
        omega
      rw [hk, pw_pw (by omega), hM, lN_shl hku (by omega)]
      have hmr : mr_ y s (M * 2 ^ (k - u)) 0 = false := by
        have hy := h.2.1
        have : y = 0 ∨ y = 1 ∨ y = 2 ∨ y = 3 ∨ y = 4 := by omega
        rcases this with rfl | rfl | rfl | rfl | rfl <;> simp [mr_]
      refine cs_X2_rounded_69 (c_finite h hs (Nat.le_of_lt hrm) hru hu2) (fun r σ3 hr => ?_)
      obtain ⟨rfl, e3⟩ := hr
      refine sg_X2_rounded_72 ⟨_, rfl, ?_, ?_, ?_⟩
      · rw [rv_, hmr]; rfl
      · rw [rv_, hmr, e3]
        show si_ (if (fn_ f e y s u (M * 2 ^ (k - u))).2 = true then _ else _) 7 = nI (0 ||| if (fn_ f e y s u (M * 2 ^ (k - u))).2 then 20 else 0)
        cases (fn_ f e y s u (M * 2 ^ (k - u))).2
        · exact h7
        · simp only [if_true]
          rw [si_ui, if_pos rfl, h7]; decide
      · rw [e3]
        split
        · exact fr_ui _ _ (by decide)
        · exact fr_refl _
  · rw [k0] at c
    rw [hs]
    refine cs_X2_rounded_15 (c_withSign (v := 0) h (Nat.two_pow_pos _)) (fun r σ1 hr => ?_)
    obtain ⟨rfl, rfl⟩ := hr
    refine sg_X2_rounded_18 ⟨_, rfl, ?_, ?_, fr_refl _⟩
    · rw [rr_, if_pos c, Nat.zero_add]
    · rw [rr_, if_pos c]; exact h7
end
end
