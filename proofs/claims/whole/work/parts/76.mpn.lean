section
/-! ===== numbers with a point in the reference: reading, packing, rounding ===== -/
theorem lN_sar {a i : Nat} (hi : i < 64) (ha : a < 2 ^ 63) : lN a >>> ((nI i).toInt64 &&& 63) = lN (a / 2 ^ i) := by
  have hq : a / 2 ^ i ≤ a := Nat.div_le_self _ _
  apply Int64.toInt_inj.mp
  rw [pk_lT (by omega), un_sl i hi]
  show ((lN a >>> lN i).toBitVec).toInt = _
  rw [Int64.toBitVec_shiftRight, BitVec.toInt_sshiftRight', show (lN i).toBitVec = BitVec.ofNat 64 i from rfl, un_sm i hi, BitVec.toNat_ofNat, Nat.mod_eq_of_lt (show i < 2 ^ 64 by omega), show (lN a).toBitVec.toInt = (lN a).toInt from rfl, pk_lT ha, Int.shiftRight_eq_div_pow]
  simp
theorem b1_l (b : Bool) : (b1_ b).toInt64 = lN b.toNat := by cases b <;> rfl
/-- finite, infinite, none -/
def kd_ (f e X : Nat) : Nat := if dE f e X < 2 ^ e - 1 then 0 else if dF f X = 0 then 1 else 2
theorem pow_sh {f e : Nat} (hf : fmt_ f e) : ((1 : Int32) <<< (nI e &&& 31)) - 1 = nI (2 ^ e - 1) ∧ ((1 : Int32) <<< ((nI e - 1) &&& 31)) - 1 = nI (2 ^ (e - 1) - 1) := by
  rcases hf with ⟨rfl, rfl⟩ | ⟨rfl, rfl⟩ | ⟨rfl, rfl⟩ <;> decide
section
variable {L : Nat} {xs : Nat → Int32} {σ : ks_St} {A : wa_} {f e y : Nat} {s : Bool}
theorem m_fractionBits (hf : fmt_ f e) : ks_M L xs mX5_fractionBits rm_X5_fractionBits [.int (nI (f + e + 1))] σ (pi_ fun r σ' => r = nI f ∧ σ' = σ) := by
  refine ks_body (by decide) (Nat.le_of_ble_eq_true rfl) ?_
  rcases hf with ⟨rfl, rfl⟩ | ⟨rfl, rfl⟩ | ⟨rfl, rfl⟩
  · exact sg_X5_fractionBits_0 (fun c => absurd (by decide) c) (fun c => absurd (by decide) c) (fun _ => sg_X5_fractionBits_23 ⟨_, rfl, rfl, rfl⟩)
  · exact sg_X5_fractionBits_0 (fun _ c => absurd (by decide) c) (fun _ _ => sg_X5_fractionBits_23 ⟨_, rfl, rfl, rfl⟩) (fun c => absurd c (by decide))
  · exact sg_X5_fractionBits_0 (fun _ _ => sg_X5_fractionBits_23 ⟨_, rfl, rfl, rfl⟩) (fun _ c => absurd c (by decide)) (fun c => absurd c (by decide))
theorem m_exponentBits (hf : fmt_ f e) : ks_M L xs mX5_exponentBits rm_X5_exponentBits [.int (nI (f + e + 1))] σ (pi_ fun r σ' => r = nI e ∧ σ' = σ) := by
  refine ks_body (by decide) (Nat.le_of_ble_eq_true rfl) ?_
  rcases hf with ⟨rfl, rfl⟩ | ⟨rfl, rfl⟩ | ⟨rfl, rfl⟩
  · exact sg_X5_exponentBits_0 (fun c => absurd (by decide) c) (fun c => absurd (by decide) c) (fun _ => sg_X5_exponentBits_22 ⟨_, rfl, rfl, rfl⟩)
  · exact sg_X5_exponentBits_0 (fun _ c => absurd (by decide) c) (fun _ _ => sg_X5_exponentBits_22 ⟨_, rfl, rfl, rfl⟩) (fun c => absurd c (by decide))
  · exact sg_X5_exponentBits_0 (fun _ _ => sg_X5_exponentBits_22 ⟨_, rfl, rfl, rfl⟩) (fun _ c => absurd c (by decide)) (fun c => absurd c (by decide))
theorem m_bias (hf : fmt_ f e) : ks_M L xs mX5_bias rm_X5_bias [.int (nI (f + e + 1))] σ (pi_ fun r σ' => r = nI (2 ^ (e - 1) - 1) ∧ σ' = σ) := by
  refine ks_body (by decide) (Nat.le_of_ble_eq_true rfl) ?_
  refine sg_X5_bias_0 (cs_X5_bias_2 (m_exponentBits hf) (fun r σ1 hr => ?_))
  obtain ⟨rfl, rfl⟩ := hr
  exact sg_X5_bias_5 ⟨_, rfl, (pow_sh hf).2, rfl⟩
theorem m_packed {E F : Nat} (hf : fmt_ f e) (hE : E < 2 ^ e) (hF : F < 2 ^ f) : ks_M L xs mX5_packed rm_X5_packed [.int (nI (f + e + 1)), .int (b1_ s), .int (nI E), .long (lN F)] σ (pl_ fun r σ' => r = lN (E * 2 ^ f + F + 2 ^ (f + e) * s.toNat) ∧ σ' = σ) := by
  refine ks_body (by decide) (Nat.le_of_ble_eq_true rfl) ?_
  have hb := fmt_b hf
  refine sg_X5_packed_0 (cs_X5_packed_9 (m_fractionBits hf) (fun r σ1 hr => ?_))
  obtain ⟨rfl, rfl⟩ := hr
  refine sg_X5_packed_12 ⟨_, rfl, ?_, rfl⟩
  have hs1 : s.toNat ≤ 1 := by cases s <;> decide
  have hp31 : 2 ^ (f + e) ≤ 2 ^ 31 := Nat.pow_le_pow_right (by decide) (by omega)
  have hp23 : 2 ^ f ≤ 2 ^ 23 := Nat.pow_le_pow_right (by decide) (by omega)
  have h1 : s.toNat * 2 ^ (f + e) ≤ 1 * 2 ^ (f + e) := Nat.mul_le_mul_right _ hs1
  have h2 : E * 2 ^ f + F < 2 ^ (f + e) := by
    have h3 : (E + 1) * 2 ^ f ≤ 2 ^ e * 2 ^ f := Nat.mul_le_mul_right _ hE
    rw [Nat.add_mul, Nat.one_mul, ← Nat.pow_add, Nat.add_comm e f] at h3
    omega
  rw [show nI (f + e + 1) - 1 = nI (f + e) from nI_pred _, b1_l, lN_shl (by omega) (by omega), nI_l (by omega), lN_shl (by omega) (by omega), lN_or (by omega) (by omega), lN_or (Nat.or_lt_two_pow (by omega) (by omega)) (by omega)]
  congr 1
  rw [Nat.or_assoc, Nat.mul_comm E, Nat.mul_comm s.toNat, ← Nat.two_pow_add_eq_or_of_lt hF, ← Nat.two_pow_add_eq_or_of_lt (by rw [Nat.mul_comm]; exact h2)]
  omega
theorem m_infinite (hf : fmt_ f e) : ks_M L xs mX5_infinite rm_X5_infinite [.int (nI (f + e + 1)), .int (b1_ s)] σ (pl_ fun r σ' => r = lN (vI f e s) ∧ σ' = σ) := by
  refine ks_body (by decide) (Nat.le_of_ble_eq_true rfl) ?_
  have hb := fmt_b hf
  refine sg_X5_infinite_0 (cs_X5_infinite_4 (m_exponentBits hf) (fun r σ1 hr => ?_))
  obtain ⟨rfl, rfl⟩ := hr
  refine sg_X5_infinite_7 ?_
  rw [(pow_sh hf).1]
  refine cs_X5_infinite_11 (m_packed (F := 0) hf (by omega) (Nat.two_pow_pos f)) (fun r σ1 hr => ?_)
  obtain ⟨rfl, rfl⟩ := hr
  exact sg_X5_infinite_14 ⟨_, rfl, by rw [Nat.add_zero]; rfl, rfl⟩
theorem m_none (hf : fmt_ f e) : ks_M L xs mX5_none rm_X5_none [.int (nI (f + e + 1))] σ (pl_ fun r σ' => r = lN (vN f e) ∧ σ' = σ) := by
  refine ks_body (by decide) (Nat.le_of_ble_eq_true rfl) ?_
  have hb := fmt_b hf
  refine sg_X5_none_0 (cs_X5_none_4 (m_exponentBits hf) (fun r σ1 hr => ?_))
  obtain ⟨rfl, rfl⟩ := hr
  refine sg_X5_none_7 ?_
  rw [(pow_sh hf).1]
  refine cs_X5_none_12 (m_fractionBits hf) (fun r σ1 hr => ?_)
  obtain ⟨rfl, rfl⟩ := hr
  refine sg_X5_none_15 ?_
  rw [show nI f - 1 = nI (f - 1) from pk_sub (b := 1) (by omega), lN_one (by omega)]
  refine cs_X5_none_18 (m_packed (s := false) hf (by omega) (Nat.pow_lt_pow_right (by decide) (by omega))) (fun r σ1 hr => ?_)
  obtain ⟨rfl, rfl⟩ := hr
  exact sg_X5_none_21 ⟨_, rfl, rfl, rfl⟩
theorem m_notValid (hf : fmt_ f e) : ks_M L xs mX5_notValid rm_X5_notValid [.ref 17, .int (nI (f + e + 1))] σ (pl_ fun r σ' => r = lN (vN f e) ∧ σ' = ui_ σ 17 1) := by
  refine ks_body (by decide) (Nat.le_of_ble_eq_true rfl) ?_
  refine sg_X5_notValid_0 (cs_X5_notValid_6 (m_none hf) (fun r σ1 hr => ?_))
  obtain ⟨rfl, rfl⟩ := hr
  exact sg_X5_notValid_9 ⟨_, rfl, rfl, rfl⟩
theorem m_highest {M : Nat} (hM : M < 2 ^ 63) : ks_M L xs mX5_highest rm_X5_highest [.long (lN M)] σ (pi_ fun r σ' => r = nI (Nat.log2 M) ∧ σ' = σ) := by
  refine ks_body (by decide) (Nat.le_of_ble_eq_true rfl) ?_
  refine sg_X5_highest_0 ?_
  have hl : Nat.log2 M < 63 := by
    by_cases c : M = 0
    · rw [c]; decide
    · rw [Nat.log2_lt c]; exact hM
  have key : ∀ k, k < 64 → (lg_cmp (lN M >>> ((nI k).toInt64 &&& 63)) 1 ≤ 0 ↔ Nat.log2 M ≤ k) := by
    intro k hk
    have hq : M / 2 ^ k ≤ M := Nat.div_le_self _ _
    rw [lN_sar hk hM, lg_cmp_le, show (1 : Int64) = lN 1 from rfl, pk_lLE (by omega) (by decide)]
    have h1 : M / 2 ^ k ≤ 1 ↔ M < 2 ^ (k + 1) := by
      rw [Nat.pow_succ, Nat.mul_comm, show M / 2 ^ k ≤ 1 ↔ M / 2 ^ k < 2 by omega, Nat.div_lt_iff_lt_mul (Nat.two_pow_pos k)]
    rw [h1]
    by_cases c : M = 0
    · rw [c]
      exact ⟨fun _ => Nat.zero_le _, fun _ => Nat.two_pow_pos (k + 1)⟩
    · rw [← Nat.log2_lt c]; omega
  have loop : ∀ d k, k + d = Nat.log2 M → ks_W L xs mX5_highest rm_X5_highest 2 [(0, .long (lN M)), (2, .int (nI k))] [] σ 0 0 (pi_ fun r σ' => r = nI (Nat.log2 M) ∧ σ' = σ) := by
    intro d
    induction d with
    | zero =>
      intro k hk
      have : k = Nat.log2 M := by omega
      subst this
      exact sg_X5_highest_2 (fun _ => ⟨_, rfl, rfl, rfl⟩) (fun c => absurd ((key _ (by omega)).mpr (Nat.le_refl _)) c)
    | succ d ih =>
      intro k hk
      refine sg_X5_highest_2 (fun c => ?_) (fun _ => ?_)
      · have := (key k (by omega)).mp c; omega
      · rw [nI_1]; exact ih (k + 1) (by omega)
  exact loop (Nat.log2 M) 0 (by omega)
theorem m_isMore {m c : Nat} (hy : y ≤ 4) (hm : m < 2 ^ 63) (hc : c ≤ 3) : ks_M L xs mX5_isMore rm_X5_isMore [.int (nI y), .int (b1_ s), .long (lN m), .int (nI c)] σ (pi_ fun r σ' => r = b1_ (mr_ y s m c) ∧ σ' = σ) := by
  refine ks_body (by decide) (Nat.le_of_ble_eq_true rfl) ?_
  have ny : ∀ j, j < 2 ^ 31 → (nI y = nI j ↔ y = j) := fun j hj => nI_eq (by omega) hj
  have nc : ∀ j, j < 2 ^ 31 → (nI c = nI j ↔ c = j) := fun j hj => nI_eq (by omega) hj
  have c0 : nI c ≤ 0 ↔ c = 0 := by rw [show (0 : Int32) = nI 0 from rfl, nI_leI (by omega) (by decide)]; omega
  have c1 : nI c ≤ 1 ↔ c ≤ 1 := by rw [show (1 : Int32) = nI 1 from rfl, nI_leI (by omega) (by decide)]
  have k5 := lN_mod2 (m := m) (by omega)
  have E : ∀ (b b' : Bool), b = b' → b1_ b = b1_ b' := fun b b' z => by rw [z]
  have h23 : ¬ nI y = 0 → ¬ nI y = 1 → ¬ nI y = 4 → y = 2 ∨ y = 3 := fun a b d => by
    have a' := fun z => a ((ny 0 (by decide)).mpr z)
    have b' := fun z => b ((ny 1 (by decide)).mpr z)
    have d' := fun z => d ((ny 4 (by decide)).mpr z)
    have : y = 0 ∨ y = 1 ∨ y = 2 ∨ y = 3 ∨ y = 4 := by omega
    rcases this with z | z | z | z | z
    · exact absurd z a'
    · exact absurd z b'
    · exact Or.inl z
    · exact Or.inr z
    · exact absurd z d'
  have sg2 : ∀ z : y = 2 ∨ y = 3, (b1_ s = nI y - 2 ↔ s = decide (y = 3)) := by
    rintro (rfl | rfl)
    · rw [show nI 2 - 2 = b1_ false by decide, b1_inj]; simp
    · rw [show nI 3 - 2 = b1_ true by decide, b1_inj]; simp
  have mr23 : ∀ z : y = 2 ∨ y = 3, mr_ y s m c = (decide (c ≠ 0) && decide (s = decide (y = 3))) := by
    rintro (rfl | rfl)
    · show (decide (c ≠ 0) && !s) = _
      cases s <;> simp
    · show (decide (c ≠ 0) && s) = _
      cases s <;> simp
  refine sg_X5_isMore_0 (fun a b d q => ?_) (fun a b d q i => ?_) (fun a b d q i => ?_) (fun a b d q => ?_) (fun a b d q => ?_) (fun a b => ?_) (fun a b => ?_) (fun a b d => ?_) (fun a b d i => ?_) (fun a b d i => ?_)
  · have z := h23 a b d
    refine sg_X5_isMore_70 (sg_X5_isMore_71 rfl ⟨_, rfl, E false _ ?_, rfl⟩)
    rw [mr23 z, c0.mp q]; rfl
  · have z := h23 a b d
    refine sg_X5_isMore_70 (sg_X5_isMore_71 rfl ⟨_, rfl, E false _ ?_, rfl⟩)
    rw [sg2 z] at i
    rw [mr23 z, decide_eq_false i]; simp
  · have z := h23 a b d
    refine sg_X5_isMore_71 rfl ⟨_, rfl, E true _ ?_, rfl⟩
    rw [sg2 z] at i
    rw [c0] at q
    rw [mr23 z, decide_eq_true i, decide_eq_true q]; rfl
  · have z := (ny 4 (by decide)).mp d; subst z
    refine sg_X5_isMore_53 rfl ⟨_, rfl, E false _ ?_, rfl⟩
    rw [c1] at q
    exact (decide_eq_false (by omega)).symm
  · have z := (ny 4 (by decide)).mp d; subst z
    refine sg_X5_isMore_53 rfl ⟨_, rfl, E true _ ?_, rfl⟩
    rw [c1] at q
    exact (decide_eq_true (by omega)).symm
  · have z := (ny 1 (by decide)).mp b; subst z
    exact ⟨_, rfl, rfl, rfl⟩
  · have z := (ny 0 (by decide)).mp a; subst z
    refine sg_X5_isMore_24 (sg_X5_isMore_29 rfl ⟨_, rfl, E true _ ?_, rfl⟩)
    exact (decide_eq_true (Or.inl ((nc 3 (by decide)).mp b))).symm
  · have z := (ny 0 (by decide)).mp a; subst z
    refine sg_X5_isMore_28 (sg_X5_isMore_29 rfl ⟨_, rfl, E false _ ?_, rfl⟩)
    have b' := fun z => b ((nc 3 (by decide)).mpr z)
    have d' := fun z => d ((nc 2 (by decide)).mpr z)
    exact (decide_eq_false (by rintro (x | x); exact b' x; exact d' x.1)).symm
  · have z := (ny 0 (by decide)).mp a; subst z
    refine sg_X5_isMore_28 (sg_X5_isMore_29 rfl ⟨_, rfl, E false _ ?_, rfl⟩)
    have b' := fun z => b ((nc 3 (by decide)).mpr z)
    rw [k5] at i
    exact (decide_eq_false (by rintro (x | x); exact b' x; exact i x.2)).symm
  · have z := (ny 0 (by decide)).mp a; subst z
    refine sg_X5_isMore_24 (sg_X5_isMore_29 rfl ⟨_, rfl, E true _ ?_, rfl⟩)
    rw [k5] at i
    exact (decide_eq_true (Or.inr ⟨(nc 2 (by decide)).mp d, i⟩)).symm
theorem pw_bias (hf : fmt_ f e) : (1 : Int32) - nI (2 ^ (e - 1) - 1) = pw_ (lq_ f e + f) := by
  rcases hf with ⟨rfl, rfl⟩ | ⟨rfl, rfl⟩ | ⟨rfl, rfl⟩ <;> decide
theorem lq_bias (hf : fmt_ f e) : 2 ^ (e - 1) - 1 + lq_ f e + f = 1001 := by
  rcases hf with ⟨rfl, rfl⟩ | ⟨rfl, rfl⟩ | ⟨rfl, rfl⟩ <;> decide
/-- from the whole number on: packed, or too great -/
theorem m_rnd_end {u m g : Nat} {Q : ka_O → ks_St → Prop} (hf : fmt_ f e) (hy : y ≤ 4) (hu : lq_ f e ≤ u) (hu2 : u < 2 ^ 20) (hm : m ≤ 2 ^ (f + 1)) (hg : si_ σ 17 = nI g) (hg3 : g = 0 ∨ g = 16 ∨ g = 24)
    (K : ∀ σ', si_ σ' 17 = nI (g ||| (if (fn_ f e y s u m).2 then 20 else 0)) → fr_ [17] [] [] [] σ σ' → Q (.inl (some (.long (lN (fn_ f e y s u m).1)))) σ') :
    ks_W L xs mX5_rounded rm_X5_rounded 213 [(0, .ref 17), (1, .int (nI (f + e + 1))), (2, .int (b1_ s)), (6, .int (nI y)), (7, .int (nI f)), (10, .int (pw_ u)), (12, .long (lN m))] [] σ 0 0 Q := by
  have hb := fmt_b hf
  have hlb := lq_bias hf
  have hf1 : 2 ^ (f + 1) = 2 ^ f * 2 := Nat.pow_succ ..
  have hpf : 2 ^ f ≤ 2 ^ 23 := Nat.pow_le_pow_right (by decide) (by omega)
  have h0f := Nat.two_pow_pos f
  have e1 : (1 : Int64) <<< ((nI f).toInt64 &&& 63) = lN (2 ^ f) := lN_one (by omega)
  have e2 : (2 : Int64) <<< ((nI f).toInt64 &&& 63) = lN (2 ^ (f + 1)) := by
    rw [show (2 : Int64) = lN 2 from rfl, lN_shl (by omega) (by omega), hf1, Nat.mul_comm]
  have k2 : lg_cmp (lN m) (lN (2 ^ (f + 1))) = 0 ↔ m = 2 ^ (f + 1) := by rw [lg_cmp_eq, pk_lEQ (by omega) (by omega)]
  -- after the halving: u', m'
  have go : ∀ u' m', (m = 2 ^ (f + 1) ∧ u' = u + 1 ∧ m' = 2 ^ f ∨ m ≠ 2 ^ (f + 1) ∧ u' = u ∧ m' = m) → ks_W L xs mX5_rounded rm_X5_rounded 234 [(0, .ref 17), (1, .int (nI (f + e + 1))), (2, .int (b1_ s)), (6, .int (nI y)), (7, .int (nI f)), (10, .int (pw_ u')), (12, .long (lN m'))] [] σ 0 0 Q := by
    intro u' m' hum
    have hm' : m' < 2 ^ (f + 1) := by omega
    have k1 : 0 ≤ lg_cmp (lN m') (lN (2 ^ f)) ↔ 2 ^ f ≤ m' := by rw [lg_cmp_ge, pk_lLE (by omega) (by omega)]
    refine sg_X5_rounded_234 (cs_X5_rounded_236 (m_exponentBits hf) (fun r σ1 hr => ?_))
    obtain ⟨rfl, rfl⟩ := hr
    refine sg_X5_rounded_239 (fun c => ?_) (fun c => ?_)
    · rw [e1, k1] at c
      rw [(pow_sh hf).1]
      have hmf : ¬ m < 2 ^ f := by omega
      refine cs_X5_rounded_269 (m_bias hf) (fun r σ1 hr => ?_)
      obtain ⟨rfl, rfl⟩ := hr
      have eE : pw_ u' + nI f + nI (2 ^ (e - 1) - 1) = nI (u' - lq_ f e + 1) := by
        rw [pw_add, pw_add]
        have : u' + f + (2 ^ (e - 1) - 1) = (u' - lq_ f e + 1) + 1000 := by omega
        rw [this]
        unfold pw_
        rw [← nI_add]; grind
      have hEv : u' - lq_ f e + 1 = u - lq_ f e + (if m = 2 ^ (f + 1) then 2 else 1) := by
        rcases hum with ⟨z, rfl, -⟩ | ⟨z, rfl, -⟩
        · rw [if_pos z]; omega
        · rw [if_neg z]
      have hFv : m' - 2 ^ f = (if m = 2 ^ (f + 1) then 0 else m - 2 ^ f) := by
        rcases hum with ⟨z, -, rfl⟩ | ⟨z, -, rfl⟩
        · rw [if_pos z]; omega
        · rw [if_neg z]
      have hfn : fn_ f e y s u m = if u' - lq_ f e + 1 < 2 ^ e - 1 then ((u' - lq_ f e + 1) * 2 ^ f + (m' - 2 ^ f) + 2 ^ (f + e) * s.toNat, false) else (tg_ f e y s, true) := by
        rw [fn_, if_neg hmf, hEv, hFv]
      have kE : nI (2 ^ e - 1) ≤ nI (u' - lq_ f e + 1) ↔ 2 ^ e - 1 ≤ u' - lq_ f e + 1 := nI_leI (by omega) (by omega)
      have f20 : fr_ [17] [] [] [] σ1 (ui_ σ1 17 (si_ σ1 17 ||| 20)) := fr_ui _ _ (by decide)
      have g20 : si_ (ui_ σ1 17 (si_ σ1 17 ||| 20)) 17 = nI (g ||| 20) := by
        rw [si_ui, if_pos rfl, hg]
        rcases hg3 with rfl | rfl | rfl <;> decide
      have ny : ∀ j, j < 2 ^ 31 → (nI y = nI j ↔ y = j) := fun j hj => nI_eq (by omega) hj
      have y1 : nI y ≤ 1 ↔ y ≤ 1 := by rw [show (1 : Int32) = nI 1 from rfl, nI_leI (by omega) (by decide)]
      -- beyond the greatest
      have far : 2 ^ e - 1 ≤ u' - lq_ f e + 1 → ∀ b : Bool, (b = true ↔ y = 0 ∨ y = 4 ∨ y = (if s then 3 else 2)) → ks_W L xs mX5_rounded rm_X5_rounded 338 [(1, .int (nI (f + e + 1))), (2, .int (b1_ s)), (7, .int (nI f)), (15, .int (nI (2 ^ e - 1)))] [.int (b1_ b)] (ui_ σ1 17 (si_ σ1 17 ||| 20)) 0 0 Q := by
        intro hge b hbv
        rw [if_neg (by omega)] at hfn
        have K2 := fun σ' (z : σ' = ui_ σ1 17 (si_ σ1 17 ||| 20)) => K σ' (by rw [hfn, z]; exact g20) (by rw [z]; exact f20)
        rw [hfn] at K2
        refine sg_X5_rounded_338 (fun z => ?_) (fun z => ?_)
        · rw [b1_0] at z
          have nz : ¬ (y = 0 ∨ y = 4 ∨ y = (if s then 3 else 2)) := fun i => by rw [hbv.mpr i] at z; exact absurd z (by decide)
          rw [e1, show lN (2 ^ f) - 1 = lN (2 ^ f - 1) from lN_sub (b := 1) h0f, show nI (2 ^ e - 1) - 1 = nI (2 ^ e - 1 - 1) from pk_sub (b := 1) (by omega)]
          refine cs_X5_rounded_365 (m_packed hf (by omega) (by omega)) (fun r σ2 hr => ?_)
          obtain ⟨rfl, rfl⟩ := hr
          refine sg_X5_rounded_368 ?_
          have : (2 ^ e - 1 - 1) * 2 ^ f + (2 ^ f - 1) + 2 ^ (f + e) * s.toNat = tg_ f e y s := by
            rw [tg_, if_neg nz, vI]
            have h3 : (2 ^ e - 1) * 2 ^ f = (2 ^ e - 1 - 1) * 2 ^ f + 2 ^ f := by
              conv => lhs; rw [show 2 ^ e - 1 = 2 ^ e - 1 - 1 + 1 by omega]
              rw [Nat.add_mul, Nat.one_mul]
            omega
          rw [this]
          exact K2 _ rfl
        · rw [b1_0] at z
          have yz := hbv.mp (eq_true_of_ne_false z)
          refine cs_X5_rounded_347 (m_infinite hf) (fun r σ2 hr => ?_)
          obtain ⟨rfl, rfl⟩ := hr
          refine sg_X5_rounded_350 (sg_X5_rounded_368 ?_)
          have : vI f e s = tg_ f e y s := by rw [tg_, if_pos yz]
          rw [this]
          exact K2 _ rfl
      have s23 : ¬ y = 0 → ¬ y = 4 → ¬ y ≤ 1 → (b1_ s = nI y - 2 ↔ y = (if s then 3 else 2)) := fun a b d => by
        have : y = 2 ∨ y = 3 := by omega
        rcases this with rfl | rfl
        · rw [show nI 2 - 2 = b1_ false by decide, b1_inj]; cases s <;> simp
        · rw [show nI 3 - 2 = b1_ true by decide, b1_inj]; cases s <;> simp
      refine sg_X5_rounded_272 (fun q z => ?_) (fun q z i => ?_) (fun q z i j => ?_) (fun q z i j l => ?_) (fun q z i j l => ?_) (fun q => ?_)
      · rw [eE, kE] at q
        exact sg_X5_rounded_333 (far q true ⟨fun _ => Or.inl ((ny 0 (by decide)).mp z), fun _ => rfl⟩)
      · rw [eE, kE] at q
        exact sg_X5_rounded_333 (far q true ⟨fun _ => Or.inr (Or.inl ((ny 4 (by decide)).mp i)), fun _ => rfl⟩)
      · rw [eE, kE] at q
        rw [y1] at j
        have z' : y ≠ 0 := fun x => z ((ny 0 (by decide)).mpr x)
        refine sg_X5_rounded_337 (far q false ⟨fun x => absurd x (by decide), fun x => ?_⟩)
        have : (if s then 3 else 2) ≥ 2 := by split <;> omega
        omega
      · rw [eE, kE] at q
        rw [y1] at j
        have z' : y ≠ 0 := fun x => z ((ny 0 (by decide)).mpr x)
        have i' : y ≠ 4 := fun x => i ((ny 4 (by decide)).mpr x)
        rw [s23 z' i' j] at l
        refine sg_X5_rounded_337 (far q false ⟨fun x => absurd x (by decide), fun x => ?_⟩)
        rcases x with x | x | x
        · exact absurd x z'
        · exact absurd x i'
        · exact absurd x l
      · rw [eE, kE] at q
        rw [y1] at j
        have z' : y ≠ 0 := fun x => z ((ny 0 (by decide)).mpr x)
        have i' : y ≠ 4 := fun x => i ((ny 4 (by decide)).mpr x)
        rw [s23 z' i' j] at l
        exact sg_X5_rounded_333 (far q true ⟨fun _ => Or.inr (Or.inr l), fun _ => rfl⟩)
      · rw [eE] at q ⊢
        rw [kE] at q
        rw [if_pos (by omega)] at hfn
        rw [e1, lN_sub c]
        refine cs_X5_rounded_293 (m_packed hf (by omega) (by omega)) (fun r σ2 hr => ?_)
        obtain ⟨rfl, rfl⟩ := hr
        refine sg_X5_rounded_296 ?_
        have K2 := K σ2 (by rw [hfn]; simpa using hg) (fr_refl _)
        rw [hfn] at K2
        exact K2
    · rw [e1, k1] at c
      have hlt : m < 2 ^ f := by omega
      have hmm : m' = m := by omega
      subst hmm
      have hfn : fn_ f e y s u m' = (m' + 2 ^ (f + e) * s.toNat, false) := by rw [fn_, if_pos hlt]
      refine cs_X5_rounded_259 (m_packed (E := 0) hf (Nat.two_pow_pos e) hlt) (fun r σ2 hr => ?_)
      obtain ⟨rfl, rfl⟩ := hr
      refine sg_X5_rounded_262 ?_
      have K2 := K σ2 (by rw [hfn]; simpa using hg) (fr_refl _)
      rw [hfn] at K2
      rw [Nat.zero_mul, Nat.zero_add]
      exact K2
  refine sg_X5_rounded_213 (fun c => ?_) (fun c => ?_)
  · rw [e2, k2] at c
    exact go u m (Or.inr ⟨c, rfl, rfl⟩)
  · rw [e2, k2] at c
    rw [show (1 : Int32) = nI 1 from rfl, lN_sar (by decide) (by omega), pw_add, c, hf1]
    have : 2 ^ f * 2 / 2 ^ 1 = 2 ^ f := by omega
    rw [this]
    exact go (u + 1) (2 ^ f) (Or.inl ⟨c, rfl, rfl⟩)
theorem m_rounded {M k : Nat} (hf : fmt_ f e) (hy : y ≤ 4) (hM0 : M ≠ 0) (hMb : M < 2 ^ 63) (hsh : M < 2 ^ 62 ∨ lq_ f e ≤ k) (hk1 : 100 ≤ k) (hk2 : k < 5000) (h7 : si_ σ 17 = 0) : ks_M L xs mX5_rounded rm_X5_rounded [.ref 17, .int (nI (f + e + 1)), .int (b1_ s), .long (lN M), .int (pw_ k), .int (nI y)] σ (pl_ fun r σ' => r = lN (rr_ f e y s M k).1 ∧ si_ σ' 17 = nI (rr_ f e y s M k).2 ∧ fr_ [17] [] [] [] σ σ') := by
  refine ks_body (by decide) (Nat.le_of_ble_eq_true rfl) ?_
  have hb := fmt_b hf
  refine sg_X5_rounded_0 (cs_X5_rounded_1 (m_fractionBits hf) (fun r σ1 hr => ?_))
  obtain ⟨rfl, rfl⟩ := hr
  refine sg_X5_rounded_4 (cs_X5_rounded_8 (m_bias hf) (fun r σ1 hr => ?_))
  obtain ⟨rfl, rfl⟩ := hr
  refine sg_X5_rounded_11 ?_
  rw [pw_bias hf]
  refine cs_X5_rounded_15 (m_highest hMb) (fun r σ1 hr => ?_)
  obtain ⟨rfl, rfl⟩ := hr
  have hl : Nat.log2 M < 63 := by rw [Nat.log2_lt hM0]; exact hMb
  have hrr : rr_ f e y s M k = rv_ f e y s (ru_ f (lq_ f e) M k) (rm_ M k (ru_ f (lq_ f e) M k)) (rk_ M k (ru_ f (lq_ f e) M k)) := by rw [rr_, if_neg hM0]
  have hsm := sm_lt (f := f) (lp := lq_ f e) (k := k) hM0
  have hrm := rm_lt (f := f) (lp := lq_ f e) (k := k) hM0
  have hru := ru_ge f (lq_ f e) M k
  have huv : ru_ f (lq_ f e) M k = if lq_ f e + f ≤ Nat.log2 M + k then Nat.log2 M + k - f else lq_ f e := rfl
  have hlM := Nat.log2_self_le hM0
  generalize Nat.log2 M = l at *
  generalize hu : ru_ f (lq_ f e) M k = u at *
  rw [hrr]
  have hu2 : u < 2 ^ 20 := by rw [huv]; split <;> omega
  have hrk : rk_ M k u ≤ 3 := by unfold rk_; split; omega; exact cu_le _ _
  generalize hQ : (pl_ fun r σ' => r = lN (rv_ f e y s u (rm_ M k u) (rk_ M k u)).1 ∧ si_ σ' 17 = nI (rv_ f e y s u (rm_ M k u) (rk_ M k u)).2 ∧ fr_ [17] [] [] [] σ1 σ') = Q
  have ele : nI l + pw_ k = pw_ (l + k) := by
    unfold pw_; rw [← nI_add]; grind
  have kle : pw_ (lq_ f e + f) ≤ pw_ (l + k) ↔ lq_ f e + f ≤ l + k := pw_le (by omega) (by omega)
  -- from 155 on: the cut is known
  have at155 : ks_W L xs mX5_rounded rm_X5_rounded 155 [(0, .ref 17), (1, .int (nI (f + e + 1))), (2, .int (b1_ s)), (6, .int (nI y)), (7, .int (nI f)), (8, .int (pw_ (lq_ f e + f))), (9, .int (pw_ (l + k))), (10, .int (pw_ u)), (12, .long (lN (rm_ M k u))), (14, .int (nI (rk_ M k u)))] [] σ1 0 0 Q := by
    have c0 : nI (rk_ M k u) ≤ 0 ↔ rk_ M k u = 0 := by rw [show (0 : Int32) = nI 0 from rfl, nI_leI (by omega) (by decide)]; omega
    have hp24 : 2 ^ (f + 1) ≤ 2 ^ 24 := Nat.pow_le_pow_right (by decide) (by omega)
    have at194 : ∀ (σ2 : ks_St) (g : Nat), si_ σ2 17 = nI g → g = (if rk_ M k u = 0 then 0 else if rm_ M k u < 2 ^ f then 24 else 16) → fr_ [17] [] [] [] σ1 σ2 → ks_W L xs mX5_rounded rm_X5_rounded 194 [(0, .ref 17), (1, .int (nI (f + e + 1))), (2, .int (b1_ s)), (6, .int (nI y)), (7, .int (nI f)), (10, .int (pw_ u)), (12, .long (lN (rm_ M k u))), (14, .int (nI (rk_ M k u)))] [] σ2 0 0 Q := by
      intro σ2 g hg hgv f2
      have hg3 : g = 0 ∨ g = 16 ∨ g = 24 := by rw [hgv]; split; exact Or.inl rfl; split; exact Or.inr (Or.inr rfl); exact Or.inr (Or.inl rfl)
      refine sg_X5_rounded_194 (cs_X5_rounded_201 (m_isMore hy (by omega) hrk) (fun r σ3 hr => ?_))
      obtain ⟨rfl, rfl⟩ := hr
      have A := m_rnd_end (L := L) (xs := xs) (σ := σ3) (s := s) (u := u) (m := rm_ M k u + (mr_ y s (rm_ M k u) (rk_ M k u)).toNat) (g := g) (Q := Q) hf hy hru hu2 (by
        have : (mr_ y s (rm_ M k u) (rk_ M k u)).toNat ≤ 1 := by cases mr_ y s (rm_ M k u) (rk_ M k u) <;> decide
        omega) hg hg3 (fun σ' z1 z2 => by
          rw [← hQ]
          refine ⟨_, rfl, rfl, ?_, fr_trans f2 z2⟩
          rw [z1, hgv]; rfl)
      refine sg_X5_rounded_204 (fun z => ?_) (fun z => ?_)
      · rw [b1_0] at z
        rw [z] at A
        exact A
      · rw [b1_0] at z
        rw [eq_true_of_ne_false z] at A
        rw [lN_1]
        exact A
    have f16 : fr_ [17] [] [] [] σ1 (ui_ σ1 17 (si_ σ1 17 ||| 16)) := fr_ui _ _ (by decide)
    have g16 : si_ (ui_ σ1 17 (si_ σ1 17 ||| 16)) 17 = nI 16 := by rw [si_ui, if_pos rfl, h7]; decide
    refine sg_X5_rounded_155 (fun c => ?_) (fun c => ?_)
    · refine sg_X5_rounded_171 (fun d => ?_) (fun d => absurd c d) (fun d => absurd c d)
      exact at194 σ1 0 h7 (by rw [if_pos (c0.mp c)]) (fr_refl _)
    · refine sg_X5_rounded_171 (fun d => absurd d c) (fun _ d => ?_) (fun _ d => ?_)
      · rw [kle] at d
        exact at194 _ 16 g16 (by rw [if_neg (fun z => c (c0.mpr z)), if_neg (by omega)]) f16
      · rw [kle] at d
        refine at194 _ 24 ?_ (by rw [if_neg (fun z => c (c0.mpr z)), if_pos (by omega)]) (fr_trans f16 (fr_ui _ _ (by decide)))
        rw [si_ui, if_pos rfl, g16]; decide
  -- from 37 on
  have at37 : ks_W L xs mX5_rounded rm_X5_rounded 37 [(0, .ref 17), (1, .int (nI (f + e + 1))), (2, .int (b1_ s)), (3, .long (lN M)), (5, .int (pw_ k)), (6, .int (nI y)), (7, .int (nI f)), (8, .int (pw_ (lq_ f e + f))), (9, .int (pw_ (l + k)))] [.int (pw_ (u + f))] σ1 0 0 Q := by
    have eu : pw_ (u + f) - nI f = pw_ u := by rw [pw_sub (by omega), Nat.add_sub_cancel]
    have hti : (pw_ u - pw_ k).toInt = (u : Int) - k := by
      have : pw_ u - pw_ k = nI u - nI k := by unfold pw_; grind
      rw [this]; exact pk_sub_toInt (by omega) (by omega)
    have p0 : (0 : Int32) < pw_ u - pw_ k ↔ k < u := by rw [Int32.lt_iff_toInt_lt, hti, Int32.toInt_zero]; omega
    have p0' : pw_ u - pw_ k ≤ 0 ↔ u ≤ k := by rw [Int32.le_iff_toInt_le, hti, Int32.toInt_zero]; omega
    have p62 : pw_ u - pw_ k ≤ 62 ↔ u ≤ k + 62 := by rw [Int32.le_iff_toInt_le, hti, show (62 : Int32).toInt = 62 from rfl]; omega
    have at77 : ks_W L xs mX5_rounded rm_X5_rounded 77 [(0, .ref 17), (1, .int (nI (f + e + 1))), (2, .int (b1_ s)), (3, .long (lN M)), (6, .int (nI y)), (7, .int (nI f)), (8, .int (pw_ (lq_ f e + f))), (9, .int (pw_ (l + k))), (10, .int (pw_ u)), (11, .int (pw_ u - pw_ k))] [.long (lN (rm_ M k u))] σ1 0 0 Q := by
      have B := at155
      by_cases c : u ≤ k
      · have hrkv : rk_ M k u = 0 := by rw [rk_, if_pos c]
        rw [hrkv] at B
        have q0 := p0'.mpr c
        have q62 := p62.mpr (by omega)
        exact sg_X5_rounded_77 (fun _ _ => B) (fun _ d => absurd q0 d) (fun _ d => absurd q0 d) (fun _ d => absurd q0 d) (fun _ d => absurd q0 d) (fun d => absurd q62 d)
      · have n0 : ¬ pw_ u - pw_ k ≤ 0 := fun z => c (p0'.mp z)
        have ej : pw_ u - pw_ k = nI (u - k) := pw_pw (by omega)
        have hrkv : rk_ M k u = cu_ (2 * (M % 2 ^ (u - k))) (2 ^ (u - k)) := by rw [rk_, if_neg c]
        have hrmv : rm_ M k u = M / 2 ^ (u - k) := by rw [rm_, if_neg c]
        by_cases d : u ≤ k + 62
        · have q62 := p62.mpr d
          have hq2 : M / 2 ^ (u - k) * 2 ^ (u - k) ≤ M := Nat.div_mul_le_self _ _
          have hdm := Nat.div_add_mod M (2 ^ (u - k))
          have hcm : 2 ^ (u - k) * (M / 2 ^ (u - k)) = M / 2 ^ (u - k) * 2 ^ (u - k) := Nat.mul_comm _ _
          have eG : lN M - (lN (rm_ M k u) <<< ((pw_ u - pw_ k).toInt64 &&& 63)) = lN (M % 2 ^ (u - k)) := by
            rw [hrmv, ej, lN_shl (by omega) (by omega), lN_sub hq2]; congr 1; omega
          have eH : (1 : Int64) <<< ((pw_ u - pw_ k - 1).toInt64 &&& 63) = lN (2 ^ (u - k - 1)) := by
            rw [ej, show nI (u - k) - 1 = nI (u - k - 1) from pk_sub (b := 1) (by omega), lN_one (by omega)]
          have hle : M % 2 ^ (u - k) ≤ M := Nat.mod_le _ _
          have hhalf : 2 ^ (u - k) = 2 * 2 ^ (u - k - 1) := by rw [Nat.mul_comm, ← Nat.pow_succ]; congr 1; omega
          have hh62 : 2 ^ (u - k - 1) < 2 ^ 62 := Nat.pow_lt_pow_right (by decide) (by omega)
          have kG : lg_cmp (lN (M % 2 ^ (u - k))) 0 = 0 ↔ M % 2 ^ (u - k) = 0 := by rw [lg_cmp_eq, un_eq0, unl (by omega)]
          have kL : 0 ≤ lg_cmp (lN (M % 2 ^ (u - k))) (lN (2 ^ (u - k - 1))) ↔ 2 ^ (u - k - 1) ≤ M % 2 ^ (u - k) := by rw [lg_cmp_ge, pk_lLE (by omega) (by omega)]
          have kE : lg_cmp (lN (M % 2 ^ (u - k))) (lN (2 ^ (u - k - 1))) = 0 ↔ M % 2 ^ (u - k) = 2 ^ (u - k - 1) := by rw [lg_cmp_eq, pk_lEQ (by omega) (by omega)]
          have cv : ∀ c', c' = rk_ M k u → ks_W L xs mX5_rounded rm_X5_rounded 153 [(0, .ref 17), (1, .int (nI (f + e + 1))), (2, .int (b1_ s)), (6, .int (nI y)), (7, .int (nI f)), (8, .int (pw_ (lq_ f e + f))), (9, .int (pw_ (l + k))), (10, .int (pw_ u)), (12, .long (lN (rm_ M k u)))] [.int (nI c')] σ1 0 0 Q := by
            intro c' hc'
            rw [← hc'] at B
            exact sg_X5_rounded_153 B
          refine sg_X5_rounded_77 (fun _ z => absurd z n0) (fun _ _ z i j => ?_) (fun _ _ z i j => ?_) (fun _ _ z i => ?_) (fun _ _ z => ?_) (fun z => absurd q62 z)
          · rw [eG] at z i j
            rw [eH] at i j
            rw [kG] at z
            rw [kL] at i
            rw [kE] at j
            refine cv 3 ?_
            rw [hrkv, cu_, if_neg (by omega), if_neg (by omega), if_neg (by omega)]
          · rw [eG] at z i j
            rw [eH] at i j
            rw [kG] at z
            rw [kE] at j
            refine cv 2 ?_
            rw [hrkv, cu_, if_neg (by omega), if_neg (by omega), if_pos (by omega)]
          · rw [eG] at z i
            rw [eH] at i
            rw [kG] at z
            rw [kL] at i
            refine cv 1 ?_
            rw [hrkv, cu_, if_neg (by omega), if_pos (by omega)]
          · rw [eG] at z
            rw [kG] at z
            refine cv 0 ?_
            rw [hrkv, cu_, if_pos (by omega)]
        · have n62 : ¬ pw_ u - pw_ k ≤ 62 := fun z => d (p62.mp z)
          have hM62 : M < 2 ^ 62 := by
            rcases hsh with z | z
            · exact z
            · exfalso
              rw [huv] at d
              split at d <;> omega
          have hp : 2 ^ 63 ≤ 2 ^ (u - k) := Nat.pow_le_pow_right (by decide) (by omega)
          have hrk1 : rk_ M k u = 1 := by
            rw [hrkv, Nat.mod_eq_of_lt (by omega), cu_, if_neg (by omega), if_pos (by omega)]
          rw [hrk1] at B
          exact sg_X5_rounded_77 (fun z => absurd z n62) (fun z => absurd z n62) (fun z => absurd z n62) (fun z => absurd z n62) (fun z => absurd z n62) (fun _ => B)
    refine sg_X5_rounded_37 (fun c d => ?_) (fun c d => ?_) (fun c => ?_)
    · rw [eu] at c d ⊢
      rw [p0] at c
      rw [p62] at d
      have : lN M >>> ((pw_ u - pw_ k).toInt64 &&& 63) = lN (rm_ M k u) := by
        rw [pw_pw (by omega), lN_sar (by omega) hMb, rm_, if_neg (by omega)]
      rw [this]
      exact at77
    · rw [eu] at c d ⊢
      rw [p0] at c
      rw [p62] at d
      have : (0 : Int64) = lN (rm_ M k u) := by
        have hp : 2 ^ 63 ≤ 2 ^ (u - k) := Nat.pow_le_pow_right (by decide) (by omega)
        rw [rm_, if_neg (by omega), Nat.div_eq_of_lt (by omega)]; rfl
      rw [this]
      exact at77
    · rw [eu] at c ⊢
      rw [p0] at c
      have hrmv : rm_ M k u = M * 2 ^ (k - u) := by rw [rm_, if_pos (by omega)]
      have hp24 : 2 ^ (f + 1) ≤ 2 ^ 24 := Nat.pow_le_pow_right (by decide) (by omega)
      have hku : k - u < 64 := by
        rw [hrmv] at hrm
        have h1 : 1 * 2 ^ (k - u) ≤ M * 2 ^ (k - u) := Nat.mul_le_mul_right _ (by omega)
        rw [Nat.one_mul] at h1
        have h2 : 2 ^ (k - u) < 2 ^ 24 := by omega
        have := (Nat.pow_lt_pow_iff_right (a := 2) (by decide)).mp h2
        omega
      have : lN M <<< ((-(pw_ u - pw_ k)).toInt64 &&& 63) = lN (rm_ M k u) := by
        rw [show -(pw_ u - pw_ k) = pw_ k - pw_ u by grind, pw_pw (by omega), lN_shl hku (by rw [← hrmv]; omega), hrmv]
      rw [this]
      exact at77
  refine sg_X5_rounded_18 (fun c => ?_) (fun c => ?_)
  · rw [ele] at c ⊢
    have hl2 : l + k ≤ lq_ f e + f := (pw_le (by omega) (by omega)).mp c
    have : u = lq_ f e := by rw [huv]; split <;> omega
    rw [show lq_ f e + f = u + f by rw [this]] at at37 ⊢
    exact at37
  · rw [ele] at c ⊢
    have hl2 : ¬ l + k ≤ lq_ f e + f := fun z => c ((pw_le (by omega) (by omega)).mpr z)
    have : u = l + k - f := by rw [huv, if_pos (by omega)]
    rw [show u + f = l + k by omega] at at37
    exact at37
end
end
