/-! ===== lengths, amounts, rests of rows ===== -/
/-- n is how many bits V has up to its highest 1 -/
def ln_ (V n : Nat) : Prop := V < 2 ^ n ∧ (n = 0 ∨ 2 ^ (n - 1) ≤ V)
theorem ln_uniq {V n m : Nat} (h : ln_ V n) (h' : ln_ V m) : n = m := by
  rcases Nat.lt_trichotomy n m with c | c | c
  · have h1 : m ≠ 0 := by omega
    have h2 : 2 ^ (m - 1) ≤ V := h'.2.resolve_left h1
    have h3 : 2 ^ n ≤ 2 ^ (m - 1) := Nat.pow_le_pow_right (by decide) (by omega)
    have := h.1; omega
  · exact c
  · have h1 : n ≠ 0 := by omega
    have h2 : 2 ^ (n - 1) ≤ V := h.2.resolve_left h1
    have h3 : 2 ^ m ≤ 2 ^ (n - 1) := Nat.pow_le_pow_right (by decide) (by omega)
    have := h'.1; omega
section
variable {L : Nat} {xs : Nat → Int32} {σ : ks_St}
theorem c_lengthOfLimb {x : Int64} : ks_M L xs mX3_lengthOfLimb rm_X3_lengthOfLimb [.long x] σ (pi_ fun r σ' => (∃ n, n ≤ 64 ∧ r = nI n ∧ ln_ (un_ x) n) ∧ σ' = σ) := by
  refine ks_body (by decide) (Nat.le_of_ble_eq_true rfl) ?_
  refine sg_X3_lengthOfLimb_0 ?_
  refine lp_ 64 (fun i s => ks_W L xs mX3_lengthOfLimb rm_X3_lengthOfLimb 2 [(0, .long x), (2, .int (nI i))] [] s 0 0 _) (fun i s => s = σ ∧ (i = 0 ∨ 2 ^ (i - 1) ≤ un_ x)) ?_ ?_ 0 σ (Nat.zero_le _) ⟨rfl, Or.inl rfl⟩
  · intro i s hi e kk
    obtain ⟨rfl, hI⟩ := e
    have hz : (lg_cmp (((x).toUInt64 >>> ((nI i).toInt64.toUInt64 &&& Int64.toUInt64 63)).toInt64) 0) = 0 ↔ un_ x < 2 ^ i := by
      rw [lg_cmp_eq, un_eq0, un_ushr x hi, Nat.div_eq_zero_iff]
      have := Nat.two_pow_pos i
      constructor
      · rintro (h | h)
        · omega
        · exact h
      · exact Or.inr
    refine sg_X3_lengthOfLimb_2 (fun c => absurd (show nI 64 ≤ nI i from c) ((nI_not (by omega) (by omega)).mpr hi)) (fun _ c => ?_) (fun _ c => ?_)
    · exact sg_X3_lengthOfLimb_22 ⟨_, rfl, ⟨i, by omega, rfl, hz.mp c, hI⟩, rfl⟩
    · rw [nI_1]
      exact kk _ ⟨rfl, Or.inr (by rw [Nat.add_sub_cancel]; exact Nat.le_of_not_lt (fun h => c (hz.mpr h)))⟩
  · intro s e
    obtain ⟨rfl, hI⟩ := e
    exact sg_X3_lengthOfLimb_2 (fun _ => sg_X3_lengthOfLimb_22 ⟨_, rfl, ⟨64, by omega, rfl, un_lt x, hI⟩, rfl⟩) (fun c => absurd (show nI 64 ≤ nI 64 from nI_le (Nat.le_refl 64) (by omega)) c) (fun c => absurd (show nI 64 ≤ nI 64 from nI_le (Nat.le_refl 64) (by omega)) c)
theorem c_lengthOf {a n V : Nat} (ha : rl_ a n) (hV : rw_ (sg_ σ a) n V) : ks_M L xs mX3_lengthOf rm_X3_lengthOf [.ref a] σ (pi_ fun r σ' => (∃ m, m ≤ 64 * n ∧ r = nI m ∧ ln_ V m) ∧ σ' = σ) := by
  have hn := rl_n ha
  refine ks_body (by decide) (Nat.le_of_ble_eq_true rfl) ?_
  refine sg_X3_lengthOf_0 ha ?_
  have key : ∀ i s, (s = σ ∧ i ≤ n ∧ V < 2 ^ (64 * i)) → ks_W L xs mX3_lengthOf rm_X3_lengthOf 5 [(0, .ref a), (1, .int (nI i - 1))] [] s 0 0 (pi_ fun r σ' => (∃ m, m ≤ 64 * n ∧ r = nI m ∧ ln_ V m) ∧ σ' = σ) := by
    refine lpd_ (fun i s => ks_W L xs mX3_lengthOf rm_X3_lengthOf 5 [(0, .ref a), (1, .int (nI i - 1))] [] s 0 0 _) (fun i s => s = σ ∧ i ≤ n ∧ V < 2 ^ (64 * i)) ?_ ?_
    · intro i s e kk
      obtain ⟨rfl, hi, hlt⟩ := e
      have hin : vp_in (nI i) n := vp_in_nI (by omega) (by omega)
      rw [nI_pred]
      have hg := hV.2 i (by omega)
      have hp : (2 : Nat) ^ (64 * (i + 1)) = 2 ^ (64 * i) * 2 ^ 64 := by rw [← Nat.pow_add]; congr 1
      have hq : V / 2 ^ (64 * i) < 2 ^ 64 := Nat.div_lt_of_lt_mul (by rw [← hp]; exact hlt)
      rw [Nat.mod_eq_of_lt hq] at hg
      refine sg_X3_lengthOf_5 ha (fun c => absurd c (nI_pos (by omega))) (fun _ => hin) (fun _ c => ?_) (fun _ _ => hin) (fun _ c => ?_)
      · rw [lg_cmp_eq, nI_clamp (by omega), un_eq0, hg, Nat.div_eq_zero_iff] at c
        have := Nat.two_pow_pos (64 * i)
        have e2 : nI i + (-1) = nI i - 1 := by rw [Int32.sub_eq_add_neg]
        rw [e2]
        refine kk _ ⟨rfl, by omega, ?_⟩
        rcases c with c | c
        · omega
        · exact c
      · refine cs_X3_lengthOf_24 c_lengthOfLimb (fun r σ' hf => ?_)
        obtain ⟨⟨m, hm, rfl, hl⟩, rfl⟩ := hf
        rw [nI_clamp (by omega), hg] at hl
        refine sg_X3_lengthOf_27 ⟨_, rfl, ⟨64 * i + m, by omega, ?_, ?_⟩, rfl⟩
        · rw [show (64 : Int32) = nI 64 from rfl, pk_mul, nI_add, Nat.mul_comm i 64]
        · have c' : ¬ V / 2 ^ (64 * i) = 0 := fun z => c (by rw [lg_cmp_eq, nI_clamp (by omega), un_eq0, hg]; exact z)
          have hm0 : m ≠ 0 := fun z => by subst z; have := hl.1; omega
          have h1 := Nat.div_add_mod V (2 ^ (64 * i))
          have h2 := Nat.mod_lt V (Nat.two_pow_pos (64 * i))
          refine ⟨?_, Or.inr ?_⟩
          · rw [Nat.pow_add]
            have h3 : 2 ^ (64 * i) * (V / 2 ^ (64 * i) + 1) ≤ 2 ^ (64 * i) * 2 ^ m := Nat.mul_le_mul_left _ hl.1
            rw [Nat.mul_add] at h3
            omega
          · have h3 : 2 ^ (64 * i) * 2 ^ (m - 1) ≤ 2 ^ (64 * i) * (V / 2 ^ (64 * i)) := Nat.mul_le_mul_left _ (hl.2.resolve_left hm0)
            rw [← Nat.pow_add] at h3
            rw [show 64 * i + m - 1 = 64 * i + (m - 1) by omega]
            omega
    · intro s e
      obtain ⟨rfl, hi, hlt⟩ := e
      have hv0 : V = 0 := by simpa using hlt
      have hneg : nI 0 - 1 < (0 : Int32) := by decide
      refine sg_X3_lengthOf_5 ha (fun _ => ⟨_, rfl, ⟨0, by omega, nI_0.symm, by rw [hv0]; exact ⟨by decide, Or.inl rfl⟩⟩, rfl⟩) (fun c => absurd hneg c) (fun c => absurd hneg c) (fun c => absurd hneg c) (fun c => absurd hneg c)
  exact key n σ ⟨rfl, Nat.le_refl _, hV.1⟩
theorem c_atMost {a n V most : Nat} (ha : rl_ a n) (h1 : 1 ≤ n) (hV : rw_ (sg_ σ a) n V) (hm : most < 2 ^ 31) : ks_M L xs mX3_atMost rm_X3_atMost [.ref a, .int (nI most)] σ (pi_ fun r σ' => r = nI (min V most) ∧ σ' = σ) := by
  have hn := rl_n ha
  refine ks_body (by decide) (Nat.le_of_ble_eq_true rfl) ?_
  refine sg_X3_atMost_0 ha ?_
  refine lp_ n (fun i s => ks_W L xs mX3_atMost rm_X3_atMost 2 [(0, .ref a), (1, .int (nI most)), (2, .int (nI i))] [] s 0 0 _) (fun i s => s = σ ∧ 1 ≤ i ∧ ∀ k, 1 ≤ k → k < i → sg_ σ a k = 0) ?_ ?_ 1 σ h1 ⟨rfl, Nat.le_refl _, fun k h2 h3 => by omega⟩
  · intro i s hi e kk
    obtain ⟨rfl, hi1, hz⟩ := e
    have hin : vp_in (nI i) n := vp_in_nI hi (by omega)
    have nc : ¬ nI n ≤ nI i := (nI_not (by omega) (by omega)).mpr hi
    refine sg_X3_atMost_2 ha (fun c => absurd c nc) (fun c => absurd c nc) (fun c => absurd c nc) (fun c => absurd c nc) (fun c => absurd c nc) (fun c => absurd c nc) (fun _ => hin) (fun _ c => ?_) (fun _ c => ?_)
    · rw [lg_cmp_eq, nI_clamp (by omega)] at c
      rw [nI_1]
      refine kk _ ⟨rfl, by omega, fun k h2 h3 => ?_⟩
      by_cases e : k = i
      · subst e; exact c
      · exact hz k h2 (by omega)
    · rw [lg_cmp_eq, nI_clamp (by omega), un_eq0, hV.2 i hi] at c
      refine ⟨_, rfl, ?_, rfl⟩
      have hV1 : 2 ^ (64 * i) ≤ V := by
        rcases Nat.lt_or_ge V (2 ^ (64 * i)) with q | q
        · rw [Nat.div_eq_of_lt q] at c; exact absurd rfl c
        · exact q
      have h64 : 2 ^ 64 ≤ 2 ^ (64 * i) := Nat.pow_le_pow_right (by decide) (by omega)
      rw [show min V most = most by omega]
  · intro s e
    obtain ⟨rfl, -, hz⟩ := e
    have hin : vp_in 0 n := vp_in_nI (n := 0) (by omega) (by omega)
    have hc : nI n ≤ nI n := nI_le (Nat.le_refl n) (by omega)
    have hlo : V < 2 ^ 64 := by
      have hr : rw_ (fun k => if k = 0 then sg_ s a 0 else 0) n (un_ (sg_ s a 0)) := by
        refine rw_more (n := 1) ⟨un_lt _, fun k hk => ?_⟩ h1 (fun k h2 h3 => if_neg (by omega))
        rw [show k = 0 by omega]
        simp only [if_pos, Nat.mul_zero, Nat.pow_zero, Nat.div_one]
        rw [Nat.mod_eq_of_lt (un_lt _)]
      have hr2 := rw_congr hr (g' := sg_ s a) (fun k hk => by
        by_cases e : k = 0
        · subst e; simp
        · simp only [if_neg e]; exact hz k (by omega) hk)
      rw [rw_uniq hV hr2]
      exact un_lt _
    have hg : un_ (sg_ s a 0) = V := by rw [hV.2 0 (by omega)]; simp only [Nat.mul_zero, Nat.pow_zero, Nat.div_one]; exact Nat.mod_eq_of_lt hlo
    have hg2 : sg_ s a (0 : Int32).toNatClampNeg = lN V := by rw [show (0 : Int32).toNatClampNeg = 0 from rfl, ← un_of (sg_ s a 0), hg]
    have hsgn : lN V < 0 ↔ 2 ^ 63 ≤ V := by
      rw [Int64.lt_iff_toInt_lt, Int64.toInt_zero]
      show (BitVec.ofNat 64 V).toInt < 0 ↔ _
      rw [BitVec.toInt_eq_toNat_cond, BitVec.toNat_ofNat, Nat.mod_eq_of_lt hlo]
      split <;> omega
    refine sg_X3_atMost_2 ha (fun _ => hin) (fun _ c => ?_) (fun _ _ => hin) (fun _ _ _ => hin) (fun _ c1 c2 => ?_) (fun _ c1 c2 => ?_) (fun c => absurd hc c) (fun c => absurd hc c) (fun c => absurd hc c)
    · rw [lg_cmp_lt, hg2, hsgn] at c
      exact sg_X3_atMost_41 (sg_X3_atMost_49 ⟨_, rfl, by rw [show min V most = most by omega], rfl⟩)
    · rw [lg_cmp_lt, hg2, hsgn] at c1
      rw [lg_cmp_le, hg2, nI_l hm, pk_lLE (by omega) (by omega)] at c2
      refine sg_X3_atMost_49 ⟨_, rfl, ?_, rfl⟩
      rw [hg2, lN_i, show min V most = V by omega]
    · rw [lg_cmp_lt, hg2, hsgn] at c1
      rw [lg_cmp_le, hg2, nI_l hm, pk_lLE (by omega) (by omega)] at c2
      exact sg_X3_atMost_41 (sg_X3_atMost_49 ⟨_, rfl, by rw [show min V most = most by omega], rfl⟩)
end
