/-! ===== quotients in digits ===== -/
theorem un_neg (x : Int64) : x < 0 ↔ 2 ^ 63 ≤ un_ x := by
  rw [Int64.lt_iff_toInt_lt, Int64.toInt_zero]
  show x.toBitVec.toInt < 0 ↔ _
  have h := un_lt x
  show x.toBitVec.toInt < 0 ↔ 2 ^ 63 ≤ x.toBitVec.toNat
  have h' : x.toBitVec.toNat < 2 ^ 64 := h
  rw [BitVec.toInt_eq_toNat_cond]
  split <;> omega
theorem un_nneg (x : Int64) : 0 ≤ x ↔ un_ x < 2 ^ 63 := by
  have h := un_neg x
  have h2 : 0 ≤ x ↔ ¬ x < 0 := by rw [Int64.not_lt]
  rw [h2, h]; omega
/-- a guess of a digit out of the two highest -/
theorem kd_guess {R D v P l o : Nat} (hD : D = v * P + l) (hl : l < P) (hv : 2 ^ 31 ≤ v) (hR : R < D * 2 ^ 32) (ho : o = min (R / P / v) (2 ^ 32 - 1)) : R / D ≤ o ∧ o ≤ R / D + 2 := by
  have hP : 0 < P := by omega
  have hD0 : 0 < D := by
    have : 1 * P ≤ v * P := Nat.mul_le_mul_right _ (by omega)
    omega
  have e1 := Nat.div_add_mod R D
  have e2 := Nat.mod_lt R hD0
  have hq : R / D < 2 ^ 32 := Nat.div_lt_of_lt_mul hR
  generalize R / D = q at e1 hq ⊢
  constructor
  · have h1 : q * v * P ≤ R := by
      have h2 : q * D ≤ R := by rw [Nat.mul_comm]; omega
      have h3 : q * (v * P) ≤ q * D := Nat.mul_le_mul_left _ (by omega)
      rw [Nat.mul_assoc]; omega
    have h4 : q * v ≤ R / P := (Nat.le_div_iff_mul_le hP).mpr h1
    have h5 : q ≤ R / P / v := (Nat.le_div_iff_mul_le (by omega)).mpr h4
    omega
  · apply Nat.le_of_not_lt
    intro hc
    have h1 : o ≤ R / P / v := by omega
    have h2 : o * v ≤ R / P := (Nat.le_div_iff_mul_le (by omega)).mp h1
    have h3 : o * v * P ≤ R := (Nat.le_div_iff_mul_le hP).mp h2
    obtain ⟨m, rfl⟩ : ∃ m, o = q + 3 + m := ⟨o - (q + 3), by omega⟩
    have h4 : (q + 3 + m) * P ≤ (2 ^ 32 - 1) * P := Nat.mul_le_mul_right _ (by omega)
    have h5 : 2 ^ 31 * P ≤ v * P := Nat.mul_le_mul_right _ hv
    have h6 : (q + 3 + m) * l ≤ (q + 3 + m) * P := Nat.mul_le_mul_left _ (by omega)
    have h7 : (q + 3 + m) * D = (q + 3 + m) * v * P + (q + 3 + m) * l := by rw [hD]; grind
    have h8 : (q + 3 + m) * D = D * q + 3 * D + m * D := by grind
    have h9 : 0 ≤ m * D := Nat.zero_le _
    omega
section
variable {L : Nat} {xs : Nat → Int32} {σ : ks_St}
theorem c_minl {x y : Int64} : ks_M L xs mM_minl rm_M_minl [.long x, .long y] σ (pl_ fun r σ' => r = (if y < x then y else x) ∧ σ' = σ) := by
  refine ks_bodyF pf_minl rfl (Nat.le_of_ble_eq_true rfl) ?_
  refine sg_M_minl_0 (fun c => sg_M_minl_11 ⟨_, rfl, ?_, rfl⟩) (fun c => sg_M_minl_11 ⟨_, rfl, ?_, rfl⟩)
  · rw [if_pos ((lg_cmp_gt _ _).mp c)]
  · rw [if_neg (fun h => c ((lg_cmp_gt _ _).mpr h))]
theorem c_min {x y : Int32} : ks_M L xs mM_min rm_M_min [.int x, .int y] σ (pi_ fun r σ' => r = (if y < x then y else x) ∧ σ' = σ) := by
  refine ks_bodyF pf_min rfl (Nat.le_of_ble_eq_true rfl) ?_
  refine sg_M_min_0 (fun c => sg_M_min_10 ⟨_, rfl, ?_, rfl⟩) (fun c => sg_M_min_10 ⟨_, rfl, ?_, rfl⟩)
  · rw [if_pos c]
  · rw [if_neg c]
theorem c_max {x y : Int32} : ks_M L xs mM_max rm_M_max [.int x, .int y] σ (pi_ fun r σ' => r = (if x < y then y else x) ∧ σ' = σ) := by
  refine ks_bodyF pf_max rfl (Nat.le_of_ble_eq_true rfl) ?_
  refine sg_M_max_0 (fun c => sg_M_max_10 ⟨_, rfl, ?_, rfl⟩) (fun c => sg_M_max_10 ⟨_, rfl, ?_, rfl⟩)
  · rw [if_pos c]
  · rw [if_neg c]
theorem c_quotientOf {x y : Int64} {v : Nat} (hy : y = lN v) (h0 : 0 < v) (h1 : v < 2 ^ 32) : ks_M L xs mX0_quotientOf rm_X0_quotientOf [.long x, .long y] σ (pl_ fun r σ' => r = lN (un_ x / v) ∧ σ' = σ) := by
  subst hy
  have hX := un_lt x
  have ex : x = lN (un_ x) := (un_of x).symm
  generalize un_ x = X at hX ex
  subst ex
  have hpos : (0 : Int64) < lN v := by
    rw [show (0 : Int64) = lN 0 from rfl, pk_lLT (by omega) (by omega)]; exact h0
  have e1 : ((lN X).toUInt64 >>> (((1 : Int32)).toInt64.toUInt64 &&& Int64.toUInt64 63)).toInt64 = lN (X / 2) := by
    apply un_inj
    refine (un_ushr (lN X) (i := 1) (by decide)).trans ?_
    rw [un_lN, un_lN]
    omega
  have hq1 : X / 2 / v * v ≤ X / 2 := Nat.div_mul_le_self _ _
  have hq2 : X / 2 / v ≤ X / 2 := Nat.div_le_self _ _
  have e2 : (lN (X / 2) / lN v) <<< (((1 : Int32)).toInt64 &&& 63) = lN (2 * (X / 2 / v)) := by
    rw [pk_lDiv (by omega) h0 (by omega)]
    apply un_inj
    refine (un_shll _ (i := 1) (by decide)).trans ?_
    rw [un_lN, un_lN]
    omega
  have e3 : lN X - lN (2 * (X / 2 / v)) * lN v = lN (X - 2 * (X / 2 / v) * v) := by
    rw [lN_mul, lN_sub (by rw [Nat.mul_assoc]; omega)]
  have e4 := Nat.div_add_mod (X / 2) v
  have e5 := Nat.mod_lt (X / 2) h0
  have hR : X - 2 * (X / 2 / v) * v = 2 * (X / 2 % v) + X % 2 := by
    rw [Nat.mul_assoc, Nat.mul_comm (X / 2 / v) v]; omega
  have hd := Nat.div_add_mod X v
  have hm := Nat.mod_lt X h0
  refine ks_body (by decide) (Nat.le_of_ble_eq_true rfl) ?_
  refine sg_X0_quotientOf_0 (fun _ h => ?_) (fun _ c => ?_) (fun _ c => ?_) (fun c => absurd ((lg_cmp_gt _ _).mpr hpos) c)
  · rw [h] at hpos; exact absurd hpos (by decide)
  · rw [e1, e2, e3, hR, lg_cmp_lt, pk_lLT (by omega) (by omega)] at c
    refine sg_X0_quotientOf_37 ⟨_, rfl, ?_, rfl⟩
    rw [e1, e2]
    have : X / v = 2 * (X / 2 / v) := by
      apply Nat.div_eq_of_lt_le
      · rw [Nat.mul_assoc, Nat.mul_comm (X / 2 / v) v]; omega
      · rw [Nat.add_mul, Nat.mul_assoc, Nat.mul_comm (X / 2 / v) v]; omega
    rw [this]
  · rw [e1, e2, e3, hR, lg_cmp_lt, pk_lLT (by omega) (by omega)] at c
    refine sg_X0_quotientOf_37 ⟨_, rfl, ?_, rfl⟩
    rw [e1, e2, lN_1]
    have : X / v = 2 * (X / 2 / v) + 1 := by
      apply Nat.div_eq_of_lt_le
      · rw [Nat.add_mul, Nat.mul_assoc, Nat.mul_comm (X / 2 / v) v]; omega
      · rw [Nat.add_mul, Nat.add_mul, Nat.mul_assoc, Nat.mul_comm (X / 2 / v) v]; omega
    rw [this]
theorem un_top (x : Int64) : un_ ((x.toUInt64 >>> ((63 : Int32).toInt64.toUInt64 &&& Int64.toUInt64 63)).toInt64) = un_ x / 2 ^ 63 := un_ushr x (i := 63) (by decide)
theorem c_subtractMultiple {x : Int64} {p d : Nat} (hx : un_ x < 2 ^ 32) (hp : p + d < 18) (hl : ∀ k, k < d → un_ (sg_ σ 13 k) < 2 ^ 32) (hg : ∀ k, k < d + 1 → un_ (sg_ σ 12 (p + k)) < 2 ^ 32) :
    ks_M L xs mX0_subtractMultiple rm_X0_subtractMultiple [.ref 7, .long x, .int (nI p), .int (nI d)] σ (pi_ fun r σ' => ∃ g, σ' = ug_ σ 12 g ∧ (∀ k, k < p ∨ p + d < k → g k = sg_ σ 12 k) ∧ (∀ k, k < d + 1 → un_ (g (p + k)) < 2 ^ 32) ∧
      ((r = 0 ∧ dv_ g p (d + 1) + un_ x * dv_ (sg_ σ 13) 0 d = dv_ (sg_ σ 12) p (d + 1)) ∨ (r = 1 ∧ dv_ (sg_ σ 12) p (d + 1) < un_ x * dv_ (sg_ σ 13) 0 d ∧ dv_ g p (d + 1) + un_ x * dv_ (sg_ σ 13) 0 d = dv_ (sg_ σ 12) p (d + 1) + 2 ^ (32 * (d + 1))))) := by
  refine ks_body (by decide) (Nat.le_of_ble_eq_true rfl) ?_
  refine sg_X0_subtractMultiple_0 ?_
  refine lp2_ d (fun i s c => ks_W L xs mX0_subtractMultiple rm_X0_subtractMultiple 6 [(0, .ref 7), (1, .long x), (3, .int (nI p)), (4, .int (nI d)), (5, .long c), (7, .int (nI i))] [] s 0 0 _)
    (fun j s c => ∃ g, s = ug_ σ 12 g ∧ (∀ k, k < p ∨ p + j ≤ k → g k = sg_ σ 12 k) ∧ (∀ k, k < j → un_ (g (p + k)) < 2 ^ 32) ∧ un_ c < 2 ^ 32 ∧ dv_ g p j + un_ x * dv_ (sg_ σ 13) 0 j = dv_ (sg_ σ 12) p j + un_ c * 2 ^ (32 * j)) ?_ ?_ 0 σ 0 (Nat.zero_le _) ⟨_, (ug_id σ 12).symm, fun _ _ => rfl, fun k hk => by omega, (by rw [un_0]; decide), by simp [dv_, un_0]⟩
  · intro i s c hi e kk
    obtain ⟨g, rfl, h1, h2, h3, h4⟩ := e
    have c1 : ¬ nI d ≤ nI i := (nI_not (by omega) (by omega)).mpr hi
    have i1 : vp_in (nI i) 18 := vp_in_nI (by omega) (by omega)
    have i2 : vp_in (nI p + nI i) 18 := by rw [nI_add]; exact vp_in_nI (by omega) (by omega)
    refine sg_X0_subtractMultiple_6 (fun c => absurd c c1) (fun c => absurd c c1) (fun c => absurd c c1) (fun c => absurd c c1) (fun _ => i1) (fun _ => i2) (fun _ => i2) (fun _ => ?_)
    rw [nI_1, nI_add, nI_clamp (by omega), nI_clamp (by omega), sg_self, sg_ne _ _ (show 13 ≠ 12 by decide), ug_ug]
    have hgi : un_ (g (p + i)) < 2 ^ 32 := by rw [h1 _ (Or.inr (Nat.le_refl _))]; exact hg i (by omega)
    have hX : un_ (x * sg_ σ 13 i + c) = un_ x * un_ (sg_ σ 13 i) + un_ c := by
      have h1 : un_ x * un_ (sg_ σ 13 i) ≤ (2 ^ 32 - 1) * (2 ^ 32 - 1) := Nat.mul_le_mul (by omega) (by have := hl i hi; omega)
      rw [un_add, un_mul]; omega
    have hX2 : un_ (x * sg_ σ 13 i + c) ≤ (2 ^ 32 - 1) * 2 ^ 32 := by
      have h1 : un_ x * un_ (sg_ σ 13 i) ≤ (2 ^ 32 - 1) * (2 ^ 32 - 1) := Nat.mul_le_mul (by omega) (by have := hl i hi; omega)
      rw [hX]; omega
    generalize x * sg_ σ 13 i + c = X at hX hX2 ⊢
    have hdf : un_ (g (p + i) - (X &&& 4294967295)) = (2 ^ 64 - un_ X % 2 ^ 32 + un_ (g (p + i))) % 2 ^ 64 := by rw [un_sub, un_lo]
    generalize g (p + i) - (X &&& 4294967295) = Y at hdf ⊢
    have hY1 : un_ Y % 2 ^ 32 + un_ X % 2 ^ 32 = un_ (g (p + i)) + 2 ^ 32 * (un_ Y / 2 ^ 63) := by omega
    have hY2 : un_ X / 2 ^ 32 + un_ Y / 2 ^ 63 < 2 ^ 32 := by omega
    refine kk _ _ ⟨_, rfl, fun k hk => ?_, fun k hk => ?_, ?_, ?_⟩
    · simp only [vp_updL]; rw [if_neg (by omega)]; exact h1 k (by omega)
    · simp only [vp_updL]
      by_cases q : k = i
      · subst q; rw [if_pos rfl, un_lo]; omega
      · rw [if_neg (by omega)]; exact h2 k (by omega)
    · rw [un_add, un_hi, un_top]; omega
    · have e1 : dv_ (vp_updL g (p + i) (Y &&& 4294967295)) p i = dv_ g p i := dv_congr i (fun k hk => by simp only [vp_updL]; rw [if_neg (by omega)])
      have e2 : vp_updL g (p + i) (Y &&& 4294967295) (p + i) = Y &&& 4294967295 := by simp [vp_updL]
      have e4 : un_ ((X.toUInt64 >>> ((32 : Int32).toInt64.toUInt64 &&& Int64.toUInt64 63)).toInt64 + (Y.toUInt64 >>> ((63 : Int32).toInt64.toUInt64 &&& Int64.toUInt64 63)).toInt64) = un_ X / 2 ^ 32 + un_ Y / 2 ^ 63 := by
        rw [un_add, un_hi, un_top]; omega
      rw [dv_, e1, e2, un_lo, e4, dv_, dv_, p32, Nat.zero_add, ← h1 (p + i) (Or.inr (Nat.le_refl _))]
      have e3 := Nat.div_add_mod (un_ X) (2 ^ 32)
      generalize un_ X / 2 ^ 32 = q at e3 ⊢
      generalize un_ X % 2 ^ 32 = r at e3 hY1 ⊢
      generalize un_ Y / 2 ^ 63 = bo at hY1 ⊢
      generalize un_ Y % 2 ^ 32 = y at hY1 ⊢
      generalize un_ (g (p + i)) = u at hY1 ⊢
      generalize un_ X = Xv at hX e3
      generalize 2 ^ (32 * i) = P at h4 ⊢
      generalize un_ (sg_ σ 13 i) = li at hX ⊢
      generalize un_ x = xv at hX h4 ⊢
      generalize un_ c = cv at hX h4 ⊢
      have e5 : xv * li + cv = 2 ^ 32 * q + r := by rw [← hX, e3]
      have e6 : (y + r) * P = (u + 2 ^ 32 * bo) * P := by rw [hY1]
      have e7 : (xv * li + cv) * P = (2 ^ 32 * q + r) * P := by rw [e5]
      grind
  · intro s c e
    obtain ⟨g, rfl, h1, h2, h3, h4⟩ := e
    have c1 : nI d ≤ nI d := nI_le (Nat.le_refl d) (by omega)
    have i2 : vp_in (nI p + nI d) 18 := by rw [nI_add]; exact vp_in_nI (by omega) (by omega)
    have hgd : un_ (g (p + d)) < 2 ^ 32 := by rw [h1 _ (Or.inr (Nat.le_refl _))]; exact hg d (by omega)
    have hdf : un_ (g (p + d) - c) = (2 ^ 64 - un_ c + un_ (g (p + d))) % 2 ^ 64 := by rw [un_sub]
    have fin : ∀ r : Int32, ((r = 0 ∧ un_ c ≤ un_ (g (p + d))) ∨ (r = 1 ∧ un_ (g (p + d)) < un_ c)) → pi_ (fun r σ' => ∃ g, σ' = ug_ σ 12 g ∧ (∀ k, k < p ∨ p + d < k → g k = sg_ σ 12 k) ∧ (∀ k, k < d + 1 → un_ (g (p + k)) < 2 ^ 32) ∧
      ((r = 0 ∧ dv_ g p (d + 1) + un_ x * dv_ (sg_ σ 13) 0 d = dv_ (sg_ σ 12) p (d + 1)) ∨ (r = 1 ∧ dv_ (sg_ σ 12) p (d + 1) < un_ x * dv_ (sg_ σ 13) 0 d ∧ dv_ g p (d + 1) + un_ x * dv_ (sg_ σ 13) 0 d = dv_ (sg_ σ 12) p (d + 1) + 2 ^ (32 * (d + 1))))) (.inl (some (.int r))) (ug_ σ 12 (vp_updL g (p + d) ((g (p + d) - c) &&& 4294967295))) := by
      intro r hr
      have e1 : dv_ (vp_updL g (p + d) ((g (p + d) - c) &&& 4294967295)) p d = dv_ g p d := dv_congr d (fun k hk => by simp only [vp_updL]; rw [if_neg (by omega)])
      have e2 : vp_updL g (p + d) ((g (p + d) - c) &&& 4294967295) (p + d) = (g (p + d) - c) &&& 4294967295 := by simp [vp_updL]
      refine ⟨_, rfl, _, rfl, fun k hk => ?_, fun k hk => ?_, ?_⟩
      · simp only [vp_updL]; rw [if_neg (by omega)]; exact h1 k (by omega)
      · simp only [vp_updL]
        by_cases q : k = d
        · subst q; rw [if_pos rfl, un_lo]; omega
        · rw [if_neg (by omega)]; exact h2 k (by omega)
      · have hlt := dv_lt (g := g) (p := p) d h2
        rw [dv_, dv_, e1, e2, un_lo, hdf, p32, ← h1 (p + d) (Or.inr (Nat.le_refl _))]
        rcases hr with ⟨rfl, hr⟩ | ⟨rfl, hr⟩
        · left
          refine ⟨rfl, ?_⟩
          have e3 : (2 ^ 64 - un_ c + un_ (g (p + d))) % 2 ^ 64 % 2 ^ 32 + un_ c = un_ (g (p + d)) := by omega
          generalize (2 ^ 64 - un_ c + un_ (g (p + d))) % 2 ^ 64 % 2 ^ 32 = z at e3 ⊢
          rw [← e3]
          generalize 2 ^ (32 * d) = P at h4 ⊢
          grind
        · right
          have e3 : (2 ^ 64 - un_ c + un_ (g (p + d))) % 2 ^ 64 % 2 ^ 32 + un_ c = un_ (g (p + d)) + 2 ^ 32 := by omega
          generalize (2 ^ 64 - un_ c + un_ (g (p + d))) % 2 ^ 64 % 2 ^ 32 = z at e3 ⊢
          have e4 : (un_ (g (p + d)) + 1) * 2 ^ (32 * d) ≤ un_ c * 2 ^ (32 * d) := Nat.mul_le_mul_right _ hr
          generalize un_ (g (p + d)) = u at e3 e4 ⊢
          generalize 2 ^ (32 * d) = P at h4 e4 hlt ⊢
          refine ⟨rfl, ?_, ?_⟩
          · rw [Nat.add_mul] at e4
            omega
          · have e5 : (z + un_ c) * P = (u + 2 ^ 32) * P := by rw [e3]
            grind
    have hfin := fin
    refine sg_X0_subtractMultiple_6 (fun _ => i2) (fun _ => i2) (fun _ c2 => ?_) (fun _ c2 => ?_) (fun c => absurd c1 c) (fun c => absurd c1 c) (fun c => absurd c1 c) (fun c => absurd c1 c)
    · rw [nI_add, nI_clamp (by omega), sg_self] at c2 ⊢
      rw [ug_ug]
      rw [lg_cmp_ge, un_nneg, hdf] at c2
      exact sg_X0_subtractMultiple_120 rfl (fin 0 (Or.inl ⟨rfl, by omega⟩))
    · rw [nI_add, nI_clamp (by omega), sg_self] at c2 ⊢
      rw [ug_ug]
      rw [lg_cmp_ge, un_nneg, hdf] at c2
      exact sg_X0_subtractMultiple_120 rfl (fin 1 (Or.inr ⟨rfl, by omega⟩))
theorem c_addBack {p d : Nat} (hp : p + d < 18) (hl : ∀ k, k < d → un_ (sg_ σ 13 k) < 2 ^ 32) (hg : ∀ k, k < d + 1 → un_ (sg_ σ 12 (p + k)) < 2 ^ 32) :
    ks_M L xs mX0_addBack rm_X0_addBack [.ref 7, .int (nI p), .int (nI d)] σ (pi_ fun r σ' => ∃ g, σ' = ug_ σ 12 g ∧ (∀ k, k < p ∨ p + d < k → g k = sg_ σ 12 k) ∧ (∀ k, k < d + 1 → un_ (g (p + k)) < 2 ^ 32) ∧
      ((r = 0 ∧ dv_ g p (d + 1) = dv_ (sg_ σ 12) p (d + 1) + dv_ (sg_ σ 13) 0 d) ∨ (r = 1 ∧ dv_ g p (d + 1) + 2 ^ (32 * (d + 1)) = dv_ (sg_ σ 12) p (d + 1) + dv_ (sg_ σ 13) 0 d))) := by
  refine ks_body (by decide) (Nat.le_of_ble_eq_true rfl) ?_
  refine sg_X0_addBack_0 ?_
  refine lp2_ d (fun i s c => ks_W L xs mX0_addBack rm_X0_addBack 5 [(0, .ref 7), (1, .int (nI p)), (2, .int (nI d)), (3, .long c), (5, .int (nI i))] [] s 0 0 _)
    (fun j s c => ∃ g, s = ug_ σ 12 g ∧ (∀ k, k < p ∨ p + j ≤ k → g k = sg_ σ 12 k) ∧ (∀ k, k < j → un_ (g (p + k)) < 2 ^ 32) ∧ un_ c ≤ 1 ∧ dv_ g p j + un_ c * 2 ^ (32 * j) = dv_ (sg_ σ 12) p j + dv_ (sg_ σ 13) 0 j) ?_ ?_ 0 σ 0 (Nat.zero_le _) ⟨_, (ug_id σ 12).symm, fun _ _ => rfl, fun k hk => by omega, (by rw [un_0]; decide), by simp [dv_, un_0]⟩
  · intro i s c hi e kk
    obtain ⟨g, rfl, h1, h2, h3, h4⟩ := e
    have c1 : ¬ nI d ≤ nI i := (nI_not (by omega) (by omega)).mpr hi
    have i1 : vp_in (nI i) 18 := vp_in_nI (by omega) (by omega)
    have i2 : vp_in (nI p + nI i) 18 := by rw [nI_add]; exact vp_in_nI (by omega) (by omega)
    refine sg_X0_addBack_5 (fun c => absurd c c1) (fun c => absurd c c1) (fun c => absurd c c1) (fun c => absurd c c1) (fun _ => i2) (fun _ => i1) (fun _ => i2) (fun _ => ?_)
    rw [nI_1, nI_add, nI_clamp (by omega), nI_clamp (by omega), sg_self, sg_ne _ _ (show 13 ≠ 12 by decide), ug_ug]
    have hgi : un_ (g (p + i)) < 2 ^ 32 := by rw [h1 _ (Or.inr (Nat.le_refl _))]; exact hg i (by omega)
    have hli := hl i hi
    have hX : un_ (g (p + i) + sg_ σ 13 i + c) = un_ (g (p + i)) + un_ (sg_ σ 13 i) + un_ c := by rw [un_add3]; omega
    generalize g (p + i) + sg_ σ 13 i + c = X at hX ⊢
    refine kk _ _ ⟨_, rfl, fun k hk => ?_, fun k hk => ?_, ?_, ?_⟩
    · simp only [vp_updL]; rw [if_neg (by omega)]; exact h1 k (by omega)
    · simp only [vp_updL]
      by_cases q : k = i
      · subst q; rw [if_pos rfl, un_lo]; omega
      · rw [if_neg (by omega)]; exact h2 k (by omega)
    · rw [un_hi]; omega
    · have e1 : dv_ (vp_updL g (p + i) (X &&& 4294967295)) p i = dv_ g p i := dv_congr i (fun k hk => by simp only [vp_updL]; rw [if_neg (by omega)])
      have e2 : vp_updL g (p + i) (X &&& 4294967295) (p + i) = X &&& 4294967295 := by simp [vp_updL]
      rw [dv_, e1, e2, un_lo, un_hi, dv_, dv_, p32, Nat.zero_add, ← h1 (p + i) (Or.inr (Nat.le_refl _))]
      have e3 := Nat.div_add_mod (un_ X) (2 ^ 32)
      generalize un_ X / 2 ^ 32 = q at e3 ⊢
      generalize un_ X % 2 ^ 32 = r at e3 ⊢
      generalize 2 ^ (32 * i) = P at h4 ⊢
      grind
  · intro s c e
    obtain ⟨g, rfl, h1, h2, h3, h4⟩ := e
    have c1 : nI d ≤ nI d := nI_le (Nat.le_refl d) (by omega)
    have i2 : vp_in (nI p + nI d) 18 := by rw [nI_add]; exact vp_in_nI (by omega) (by omega)
    have hgd : un_ (g (p + d)) < 2 ^ 32 := by rw [h1 _ (Or.inr (Nat.le_refl _))]; exact hg d (by omega)
    have hs : un_ (g (p + d) + c) = un_ (g (p + d)) + un_ c := by rw [un_add]; omega
    have hcm : (lg_cmp (g (p + d) + c) 4294967295 ≤ 0) ↔ un_ (g (p + d)) + un_ c < 2 ^ 32 := by
      rw [lg_cmp_le, ← un_of (g (p + d) + c), hs, show (4294967295 : Int64) = lN (2 ^ 32 - 1) from rfl, pk_lLE (by omega) (by omega)]; omega
    have fin : ∀ r : Int32, ((r = 0 ∧ un_ (g (p + d)) + un_ c < 2 ^ 32) ∨ (r = 1 ∧ 2 ^ 32 ≤ un_ (g (p + d)) + un_ c)) → pi_ (fun r σ' => ∃ g, σ' = ug_ σ 12 g ∧ (∀ k, k < p ∨ p + d < k → g k = sg_ σ 12 k) ∧ (∀ k, k < d + 1 → un_ (g (p + k)) < 2 ^ 32) ∧
      ((r = 0 ∧ dv_ g p (d + 1) = dv_ (sg_ σ 12) p (d + 1) + dv_ (sg_ σ 13) 0 d) ∨ (r = 1 ∧ dv_ g p (d + 1) + 2 ^ (32 * (d + 1)) = dv_ (sg_ σ 12) p (d + 1) + dv_ (sg_ σ 13) 0 d))) (.inl (some (.int r))) (ug_ σ 12 (vp_updL g (p + d) ((g (p + d) + c) &&& 4294967295))) := by
      intro r hr
      have e1 : dv_ (vp_updL g (p + d) ((g (p + d) + c) &&& 4294967295)) p d = dv_ g p d := dv_congr d (fun k hk => by simp only [vp_updL]; rw [if_neg (by omega)])
      have e2 : vp_updL g (p + d) ((g (p + d) + c) &&& 4294967295) (p + d) = (g (p + d) + c) &&& 4294967295 := by simp [vp_updL]
      refine ⟨_, rfl, _, rfl, fun k hk => ?_, fun k hk => ?_, ?_⟩
      · simp only [vp_updL]; rw [if_neg (by omega)]; exact h1 k (by omega)
      · simp only [vp_updL]
        by_cases q : k = d
        · subst q; rw [if_pos rfl, un_lo]; omega
        · rw [if_neg (by omega)]; exact h2 k (by omega)
      · rw [dv_, dv_, e1, e2, un_lo, hs, p32, ← h1 (p + d) (Or.inr (Nat.le_refl _))]
        rcases hr with ⟨rfl, hr⟩ | ⟨rfl, hr⟩
        · left
          refine ⟨rfl, ?_⟩
          rw [Nat.mod_eq_of_lt hr, Nat.add_mul]
          omega
        · right
          refine ⟨rfl, ?_⟩
          have e3 : (un_ (g (p + d)) + un_ c) % 2 ^ 32 + 2 ^ 32 = un_ (g (p + d)) + un_ c := by omega
          generalize (un_ (g (p + d)) + un_ c) % 2 ^ 32 = z at e3 ⊢
          have e5 : (z + 2 ^ 32) * 2 ^ (32 * d) = (un_ (g (p + d)) + un_ c) * 2 ^ (32 * d) := by rw [e3]
          generalize 2 ^ (32 * d) = P at h4 e5 ⊢
          grind
    refine sg_X0_addBack_5 (fun _ => i2) (fun _ => i2) (fun _ c2 => ?_) (fun _ c2 => ?_) (fun c => absurd c1 c) (fun c => absurd c1 c) (fun c => absurd c1 c) (fun c => absurd c1 c)
    · rw [nI_add, nI_clamp (by omega), sg_self] at c2 ⊢
      rw [ug_ug]
      exact sg_X0_addBack_99 rfl (fin 0 (Or.inl ⟨rfl, hcm.mp c2⟩))
    · rw [nI_add, nI_clamp (by omega), sg_self] at c2 ⊢
      rw [ug_ug]
      exact sg_X0_addBack_99 rfl (fin 1 (Or.inr ⟨rfl, by rw [hcm] at c2; omega⟩))
end
