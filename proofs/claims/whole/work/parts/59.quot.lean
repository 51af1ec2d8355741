/-! ===== quotient and rest of rows ===== -/
theorem dv_upd {g : Nat → Int64} {k n : Nat} {v : Int64} (hk : k < n) (h0 : g k = 0) : dv_ (vp_updL g k v) 0 n = dv_ g 0 n + un_ v * 2 ^ (32 * k) := by
  have e : ∀ f : Nat → Int64, dv_ f 0 n = dv_ f 0 k + 2 ^ (32 * k) * (un_ (f k) + 2 ^ 32 * dv_ f (k + 1) (n - k - 1)) := fun f => by
    have e1 := dv_add f 0 k (n - k)
    have e2 := dv_add f k 1 (n - k - 1)
    rw [show k + (n - k) = n by omega, Nat.zero_add] at e1
    rw [show 1 + (n - k - 1) = n - k by omega] at e2
    rw [e1, e2]
    simp only [dv_, Nat.add_zero, Nat.mul_zero, Nat.pow_zero, Nat.mul_one, Nat.zero_add]
  rw [e, e, h0, un_0]
  have e3 : dv_ (vp_updL g k v) 0 k = dv_ g 0 k := dv_congr k (fun j hj => by simp only [vp_updL]; rw [if_neg (by omega)])
  have e4 : dv_ (vp_updL g k v) (k + 1) (n - k - 1) = dv_ g (k + 1) (n - k - 1) := dv_congr _ (fun j hj => by simp only [vp_updL]; rw [if_neg (by omega)])
  have e5 : vp_updL g k v k = v := by simp [vp_updL]
  rw [e3, e4, e5]
  grind
theorem an5_neg {m : Nat} (hm : m < 2 ^ 30) : (-nI m) &&& 31 = nI ((32 - m % 32) % 32) := by
  rw [pk_and _ 5 (by decide)]
  have h1 : (-nI m).toInt = -(m : Int) := neg_toInt hm
  have h2 : (-nI m).toBitVec.toNat % 2 ^ 5 = (32 - m % 32) % 32 := by
    have h3 : (-nI m).toInt = (-nI m).toBitVec.toInt := rfl
    rw [h3, BitVec.toInt_eq_toNat_cond] at h1
    have h4 := (-nI m).toBitVec.isLt
    split at h1 <;> omega
  rw [h2]
section
variable {L : Nat} {xs : Nat → Int32} {σ : ks_St}
theorem c_takeMultiple {p e D R : Nat} (hp : p + e + 1 < 18) (hl : ∀ k, k < e + 1 → un_ (sg_ σ 13 k) < 2 ^ 32) (hg : ∀ k, k < e + 2 → un_ (sg_ σ 12 (p + k)) < 2 ^ 32) (hD : dv_ (sg_ σ 13) 0 (e + 1) = D) (hR : dv_ (sg_ σ 12) p (e + 2) = R) (hv : 2 ^ 31 ≤ un_ (sg_ σ 13 e)) (hRD : R < D * 2 ^ 32) :
    ks_M L xs mX0_takeMultiple rm_X0_takeMultiple [.ref 7, .int (nI p), .int (nI (e + 1))] σ (pl_ fun r σ' => un_ r = R / D ∧ ∃ g, σ' = ug_ σ 12 g ∧ (∀ k, k < p ∨ p + e + 1 < k → g k = sg_ σ 12 k) ∧ (∀ k, k < e + 2 → un_ (g (p + k)) < 2 ^ 32) ∧ dv_ g p (e + 2) = R % D) := by
  have hD' : D = un_ (sg_ σ 13 e) * 2 ^ (32 * e) + dv_ (sg_ σ 13) 0 e := by rw [← hD, dv_, Nat.zero_add]; omega
  have hlo : dv_ (sg_ σ 13) 0 e < 2 ^ (32 * e) := dv_lt e (fun k hk => by rw [Nat.zero_add]; exact hl k (by omega))
  have hve := hl e (by omega)
  have hD0 : 0 < D := by
    have h1 := Nat.two_pow_pos (32 * e)
    have : 1 * 2 ^ (32 * e) ≤ un_ (sg_ σ 13 e) * 2 ^ (32 * e) := Nat.mul_le_mul_right _ (by omega)
    omega
  have htop : un_ (sg_ σ 12 (p + e)) + 2 ^ 32 * un_ (sg_ σ 12 (p + e + 1)) = R / 2 ^ (32 * e) := by
    have e1 := dv_add (sg_ σ 12) p e 2
    rw [hR] at e1
    have hlt : dv_ (sg_ σ 12) p e < 2 ^ (32 * e) := dv_lt e (fun k hk => hg k (by omega))
    rw [e1, Nat.add_mul_div_left _ _ (Nat.two_pow_pos _), Nat.div_eq_of_lt hlt]
    simp only [dv_, Nat.add_zero, Nat.mul_zero, Nat.pow_zero, Nat.mul_one, Nat.zero_add]
    omega
  have hgs := fun o ho => kd_guess (R := R) (o := o) hD' hlo hv hRD ho
  have hRlt : R < 2 ^ (32 * (e + 2)) := by rw [← hR]; exact dv_lt (e + 2) hg
  have em := Nat.div_add_mod R D
  have el := Nat.mod_lt R hD0
  refine ks_body (by decide) (Nat.le_of_ble_eq_true rfl) ?_
  have x1 : nI p + nI (e + 1) = nI (p + e + 1) := nI_add _ _
  have x2 : nI p + nI (e + 1) - 1 = nI (p + e) := by rw [x1, nI_pred]
  have x3 : nI (e + 1) - 1 = nI e := nI_pred e
  refine sg_X0_takeMultiple_0 (by rw [x1]; exact vp_in_nI (by omega) (by omega)) (by rw [x2]; exact vp_in_nI (by omega) (by omega)) (by rw [x3]; exact vp_in_nI (by omega) (by omega)) ?_
  rw [x1, show nI (p + e + 1) - 1 = nI (p + e) from nI_pred _, x3, nI_clamp (by omega), nI_clamp (by omega), nI_clamp (by omega)]
  refine cs_X0_takeMultiple_32 (c_quotientOf (v := un_ (sg_ σ 13 e)) (un_of _).symm (by omega) hve) (fun r σ1 h1 => ?_)
  obtain ⟨rfl, rfl⟩ := h1
  have hj := un_join (hg e (by omega)) (hg (e + 1) (by omega))
  have hj2 : un_ ((sg_ σ1 12 (p + e + 1) <<< ((32 : Int32).toInt64 &&& 63)) ||| sg_ σ1 12 (p + e)) = R / 2 ^ (32 * e) := by
    rw [un_or, Nat.or_comm, ← un_or, ← htop]; exact hj
  rw [hj2]
  refine sg_X0_takeMultiple_35 (cs_X0_takeMultiple_38 c_minl (fun r σ2 h2 => ?_))
  obtain ⟨rfl, rfl⟩ := h2
  have hRq : R / 2 ^ (32 * e) / un_ (sg_ σ2 13 e) < 2 ^ 63 := by
    have h1 : R / 2 ^ (32 * e) < 2 ^ 64 := by rw [← htop]; have := hg e (by omega); have := hg (e + 1) (by omega); rw [← Nat.add_assoc] at this; omega
    exact Nat.div_lt_of_lt_mul (Nat.lt_of_lt_of_le h1 (by have := Nat.mul_le_mul_right (2 ^ 63) hv; omega))
  have hmin : (if (4294967295 : Int64) < lN (R / 2 ^ (32 * e) / un_ (sg_ σ2 13 e)) then (4294967295 : Int64) else lN (R / 2 ^ (32 * e) / un_ (sg_ σ2 13 e))) = lN (min (R / 2 ^ (32 * e) / un_ (sg_ σ2 13 e)) (2 ^ 32 - 1)) := by
    rw [show (4294967295 : Int64) = lN (2 ^ 32 - 1) from rfl]
    by_cases c : 2 ^ 32 - 1 < R / 2 ^ (32 * e) / un_ (sg_ σ2 13 e)
    · rw [if_pos ((pk_lLT (by omega) hRq).mpr c), Nat.min_eq_right (by omega)]
    · rw [if_neg (fun h => c ((pk_lLT (by omega) hRq).mp h)), Nat.min_eq_left (by omega)]
  rw [hmin]
  generalize ho : min (R / 2 ^ (32 * e) / un_ (sg_ σ2 13 e)) (2 ^ 32 - 1) = o
  have hgo := hgs o ho.symm
  have ho32 : o < 2 ^ 32 := by omega
  have hno : un_ (lN o) = o := by rw [un_lN]; omega
  refine sg_X0_takeMultiple_41 (cs_X0_takeMultiple_48 (c_subtractMultiple (p := p) (d := e + 1) (by rw [hno]; exact ho32) (by omega) hl hg) (fun b σ3 h3 => ?_))
  obtain ⟨g, rfl, q1, q2, q3⟩ := h3
  rw [hno, hD, hR] at q3
  refine sg_X0_takeMultiple_51 ?_
  refine lp3_ 2 (fun i s x5 x7 => ks_W L xs mX0_takeMultiple rm_X0_takeMultiple 56 [(0, .ref 7), (1, .int (nI p)), (2, .int (nI (e + 1))), (5, .long x5), (7, .int x7), (8, .int (nI i))] [] s 0 0 _)
    (fun i s x5 x7 => ∃ g o, s = ug_ σ2 12 g ∧ x5 = lN o ∧ o < 2 ^ 32 ∧ (∀ k, k < p ∨ p + e + 1 < k → g k = sg_ σ2 12 k) ∧ (∀ k, k < e + 2 → un_ (g (p + k)) < 2 ^ 32) ∧ R / D ≤ o ∧ o + i ≤ R / D + 2 ∧ ((x7 = 0 ∧ dv_ g p (e + 2) + o * D = R) ∨ (x7 = 1 ∧ R < o * D ∧ dv_ g p (e + 2) + o * D = R + 2 ^ (32 * (e + 2))))) ?_ ?_ 0 _ (lN o) b (by omega) ⟨g, o, rfl, rfl, ho32, q1, q2, hgo.1, by omega, q3⟩
  · intro i s x5 x7 hi I kk
    obtain ⟨g, o, rfl, rfl, ho, q1, q2, q3, q4, q5⟩ := I
    have c1 : ¬ (2 : Int32) ≤ nI i := (nI_not (a := i) (b := 2) (by omega) (by omega)).mpr hi
    have hno : un_ (lN o) = o := by rw [un_lN]; omega
    refine sg_X0_takeMultiple_56 (fun c => absurd c c1) (fun _ c => ?_) (fun _ c => ?_)
    · have q5' := q5.resolve_right (fun h => by rw [c] at h; exact absurd h.1 (by decide))
      have ho' : o ≤ R / D := (Nat.le_div_iff_mul_le hD0).mpr (by omega)
      have hoe : o = R / D := by omega
      refine sg_X0_takeMultiple_95 ⟨_, rfl, ?_, g, rfl, q1, q2, ?_⟩
      · rw [hno, hoe]
      · have e8 := q5'.2
        rw [hoe, Nat.mul_comm] at e8
        omega
    · obtain ⟨hx7, q6, q7⟩ := q5.resolve_left (fun h => c h.1)
      have ho1 : 1 ≤ o := by
        rcases Nat.eq_zero_or_pos o with z | z
        · rw [z] at q6; omega
        · exact z
      have hle : R / D + 1 ≤ o := by
        apply Nat.le_of_not_lt
        intro h
        have h1 : o * D ≤ R / D * D := Nat.mul_le_mul_right _ (by omega)
        have h2 := Nat.div_mul_le_self R D
        omega
      have e12 : sg_ (ug_ σ2 12 g) 12 = g := sg_self _ _ _
      have e13 : sg_ (ug_ σ2 12 g) 13 = sg_ σ2 13 := sg_ne _ _ (by decide)
      have eo : lN o - 1 = lN (o - 1) := by rw [show (1 : Int64) = lN 1 from rfl, lN_sub ho1]
      rw [eo]
      refine cs_X0_takeMultiple_76 (c_addBack (p := p) (d := e + 1) (by omega) (by rw [e13]; exact hl) (by rw [e12]; exact q2)) (fun r σ4 h4 => ?_)
      obtain ⟨g', rfl, r1, r2, r3⟩ := h4
      rw [e12] at r1 r3
      rw [e13, hD] at r3
      rw [ug_ug]
      have eoD : (o - 1) * D + D = o * D := by
        obtain ⟨o', rfl⟩ : ∃ o', o = o' + 1 := ⟨o - 1, by omega⟩
        rw [Nat.add_sub_cancel, Nat.add_mul, Nat.one_mul]
      have hlt' : dv_ g' p (e + 2) < 2 ^ (32 * (e + 2)) := dv_lt (e + 2) r2
      have r3' : (r = 0 ∧ dv_ g' p (e + 2) = dv_ g p (e + 2) + D) ∨ (r = 1 ∧ dv_ g' p (e + 2) + 2 ^ (32 * (e + 2)) = dv_ g p (e + 2) + D) := r3
      refine sg_X0_takeMultiple_79 (fun c => ?_) (fun c => ?_)
      · have r4 := r3'.resolve_left (fun h => c h.1)
        refine sg_X0_takeMultiple_87 ?_
        rw [nI_1]
        refine kk _ _ _ ⟨g', o - 1, rfl, rfl, by omega, fun k hk => (r1 k hk).trans (q1 k hk), r2, by omega, by omega, Or.inl ⟨rfl, by omega⟩⟩
      · have r4 := r3'.resolve_right (fun h => by rw [c] at h; exact absurd h.1 (by decide))
        refine sg_X0_takeMultiple_87 ?_
        rw [nI_1]
        refine kk _ _ _ ⟨g', o - 1, rfl, rfl, by omega, fun k hk => (r1 k hk).trans (q1 k hk), r2, by omega, by omega, Or.inr ⟨rfl, by omega, by omega⟩⟩
  · intro s x5 x7 I
    obtain ⟨g, o, rfl, rfl, ho, q1, q2, q3, q4, q5⟩ := I
    have hno : un_ (lN o) = o := by rw [un_lN]; omega
    have c1 : (2 : Int32) ≤ nI 2 := nI_le (a := 2) (b := 2) (Nat.le_refl 2) (by omega)
    have hoe : o = R / D := by omega
    have hod : o * D ≤ R := by rw [hoe]; exact Nat.div_mul_le_self R D
    have q5' := q5.resolve_right (fun h => by omega)
    refine sg_X0_takeMultiple_56 (fun _ => ?_) (fun c => absurd c1 c) (fun c => absurd c1 c)
    refine sg_X0_takeMultiple_95 ⟨_, rfl, ?_, g, rfl, q1, q2, ?_⟩
    · rw [hno, hoe]
    · have e8 := q5'.2
      rw [hoe, Nat.mul_comm] at e8
      omega
set_option maxHeartbeats 1000000 in
theorem c_divide {a b A B w : Nat} (ha : rl_ a 9) (hb : rl_ b 9) (ha1 : a ≠ 11) (hb1 : b ≠ 11) (hb2 : b ≠ 12) (hA : rw_ (sg_ σ a) 9 A) (hB : rw_ (sg_ σ b) 9 B) (hw : w ≤ 512) (hAw : A < 2 ^ w) (hBw : B < 2 ^ w) (hB0 : B ≠ 0) :
    ks_M L xs mX0_divide rm_X0_divide [.ref 7, .ref a, .ref b, .int (nI w)] σ (pv_ fun σ' => rw_ (sg_ σ' 9) 9 (A / B) ∧ rw_ (sg_ σ' 10) 9 (A % B) ∧ fr_ [] [] [] [9, 10, 11, 12, 13, 14] σ σ') := by
  refine ks_body (by decide) (Nat.le_of_ble_eq_true rfl) ?_
  refine sg_X0_divide_0 ha hb (cs_X0_divide_1 (c_lengthOf hb hB) (fun r σ1 h1 => ?_))
  obtain ⟨⟨n, hn, rfl, hln⟩, rfl⟩ := h1
  have hn0 : n ≠ 0 := fun z => by subst z; have := hln.1; omega
  have hBn : 2 ^ (n - 1) ≤ B := hln.2.resolve_left hn0
  have hnw : n ≤ w := by
    apply Nat.le_of_not_lt
    intro h
    have : 2 ^ w ≤ 2 ^ (n - 1) := Nat.pow_le_pow_right (by decide) (by omega)
    omega
  refine sg_X0_divide_4 ha hb (cs_X0_divide_8 (c_digitsOf (by omega)) (fun r σ2 h2 => ?_))
  obtain ⟨rfl, rfl⟩ := h2
  obtain ⟨e, he⟩ : ∃ e, (n + 31) / 32 = e + 1 := ⟨(n + 31) / 32 - 1, by omega⟩
  rw [he]
  refine sg_X0_divide_11 ha hb ?_
  rw [an5_neg (by omega)]
  obtain ⟨up, hup⟩ : ∃ up, (32 - n % 32) % 32 = up := ⟨_, rfl⟩
  rw [hup]
  have hnu : n + up = 32 * (e + 1) := by omega
  have hup31 : up ≤ 31 := by omega
  have hA576 : A * 2 ^ up < 2 ^ (w + up) := by rw [Nat.pow_add]; exact Nat.mul_lt_mul_of_pos_right hAw (Nat.two_pow_pos _)
  have hDlt : B * 2 ^ up < 2 ^ (32 * (e + 1)) := by rw [← hnu, Nat.pow_add]; exact Nat.mul_lt_mul_of_pos_right hln.1 (Nat.two_pow_pos _)
  have hDge : 2 ^ 31 * 2 ^ (32 * e) ≤ B * 2 ^ up := by
    have h1 : 2 ^ (n - 1) * 2 ^ up ≤ B * 2 ^ up := Nat.mul_le_mul_right _ hBn
    rw [← Nat.pow_add] at h1 ⊢
    rw [show n - 1 + up = 31 + 32 * e by omega] at h1
    exact h1
  refine cs_X0_divide_28 (c_moveUp ha row_11 ha1) (fun σ3 h3 => ?_)
  subst h3
  have hm1 := rw_up (g0 := sg_ σ2 11) (no := 9) (s := up) hA (by omega) (by omega) (by omega) (by omega)
  rw [Nat.mod_eq_of_lt (Nat.lt_of_lt_of_le hA576 (Nat.pow_le_pow_right (by decide) (by omega)))] at hm1
  refine sg_X0_divide_31 hb (cs_X0_divide_39 (c_split (V := A * 2 ^ up) row_11 row_12 (by decide) (by rw [sg_self]; exact hm1)) (fun σ4 h4 => ?_))
  obtain ⟨u, rfl, hu⟩ := h4
  refine sg_X0_divide_42 hb (cs_X0_divide_49 (c_moveUp hb row_11 hb1) (fun σ5 h5 => ?_))
  subst h5
  rw [sg_ne _ _ hb2, sg_ne _ _ hb1]
  have hm2 := fun g0 => rw_up (g0 := g0) (no := 9) (s := up) hB (by omega) (by omega) (by omega) (by omega)
  have hD576 : B * 2 ^ up % 2 ^ (64 * 9) = B * 2 ^ up := Nat.mod_eq_of_lt (Nat.lt_of_lt_of_le hDlt (Nat.pow_le_pow_right (by decide) (by omega)))
  rw [hD576] at hm2
  refine sg_X0_divide_52 (cs_X0_divide_60 (c_split (V := B * 2 ^ up) row_11 row_13 (by decide) (by rw [sg_self]; exact hm2 _)) (fun σ6 h6 => ?_))
  obtain ⟨l, rfl, hl⟩ := h6
  refine sg_X0_divide_63 (cs_X0_divide_67 (c_clear row_14) (fun σ7 h7 => ?_))
  have hfr0 : fr_ [] [] [] [9, 10, 11, 12, 13, 14] σ2 σ7 := by
    rw [h7]
    exact fr_trans (fr_trans (fr_trans (fr_trans (fr_ug _ _ (by decide)) (fr_ug _ _ (by decide))) (fr_ug _ _ (by decide))) (fr_ug _ _ (by decide))) (fr_ug _ _ (by decide))
  have h12 : sg_ σ7 12 = u := by rw [h7, sg_ne _ _ (by decide), sg_ne _ _ (by decide), sg_ne _ _ (by decide), sg_self]
  have h13 : sg_ σ7 13 = l := by rw [h7, sg_ne _ _ (by decide), sg_self]
  have h14 : ∀ k, k < 32 → sg_ σ7 14 k = 0 := fun k hk => by rw [h7, sg_self]; exact if_pos hk
  clear h7
  have hc0 : ¬ nI (e + 1) ≤ 0 := nI_nle (by omega) (by omega)
  refine sg_X0_divide_70 (fun c => absurd c hc0) (fun _ => cs_X0_divide_76 (c_digitsOf (by omega)) (fun r σ8 h8 => ?_))
  obtain ⟨rfl, rfl⟩ := h8
  refine sg_X0_divide_79 ?_
  have hpl : nI ((w + 31) / 32) - nI (e + 1) = nI ((w + 31) / 32 - e) - 1 := by
    rw [pk_sub (by omega), show (w + 31) / 32 - e = ((w + 31) / 32 - (e + 1)) + 1 by omega, nI_pred]
  rw [hpl]
  have hu32 : ∀ k, k < 18 → un_ (u k) < 2 ^ 32 := fun k hk => by rw [hu k hk]; omega
  have hl32 : ∀ k, k < 18 → un_ (l k) < 2 ^ 32 := fun k hk => by rw [hl k hk]; omega
  have hU : dv_ u 0 18 = A * 2 ^ up := by
    rw [dv_of (V := A * 2 ^ up) 18 (fun k hk => by rw [Nat.zero_add]; exact hu k hk)]
    exact Nat.mod_eq_of_lt (Nat.lt_of_lt_of_le hA576 (Nat.pow_le_pow_right (by decide) (by omega)))
  have hD : dv_ l 0 (e + 1) = B * 2 ^ up := by
    rw [dv_of (V := B * 2 ^ up) (e + 1) (fun k hk => by rw [Nat.zero_add]; exact hl k (by omega))]
    exact Nat.mod_eq_of_lt hDlt
  have hle : 2 ^ 31 ≤ un_ (l e) := by
    have h1 : dv_ l 0 e < 2 ^ (32 * e) := dv_lt e (fun k hk => by rw [Nat.zero_add]; exact hl32 k (by omega))
    rw [dv_, Nat.zero_add] at hD
    apply Nat.le_of_not_lt
    intro h
    have h2 : (un_ (l e) + 1) * 2 ^ (32 * e) ≤ 2 ^ 31 * 2 ^ (32 * e) := Nat.mul_le_mul_right _ h
    rw [Nat.add_mul] at h2
    omega
  have hstart : A * 2 ^ up < B * 2 ^ up * 2 ^ (32 * ((w + 31) / 32 - e)) := by
    have h1 : 2 ^ 31 * 2 ^ (32 * e) * 2 ^ (32 * ((w + 31) / 32 - e)) ≤ B * 2 ^ up * 2 ^ (32 * ((w + 31) / 32 - e)) := Nat.mul_le_mul_right _ hDge
    rw [← Nat.pow_add, ← Nat.pow_add] at h1
    have h2 : 2 ^ (w + up) ≤ 2 ^ (31 + 32 * e + 32 * ((w + 31) / 32 - e)) := Nat.pow_le_pow_right (by decide) (by omega)
    omega
  have hm0 : (w + 31) / 32 - e ≤ 16 - e := by omega
  have hme : (w + 31) / 32 - e + e ≤ 16 := by omega
  have hQB : A * 2 ^ up / (B * 2 ^ up) = A / B := Nat.mul_div_mul_right _ _ (Nat.two_pow_pos _)
  have hRB : A * 2 ^ up % (B * 2 ^ up) = A % B * 2 ^ up := Nat.mul_mod_mul_right _ _ _
  have hD0 : 0 < B * 2 ^ up := Nat.mul_pos (by omega) (Nat.two_pow_pos _)
  generalize B * 2 ^ up = D at *
  have hAB : A / B ≤ A := Nat.div_le_self _ _
  have hABm : A % B ≤ A := Nat.mod_le _ _
  generalize (w + 31) / 32 - e = m0 at *
  have key : ∀ i s, (fr_ [] [] [] [12, 14] σ8 s ∧ i + e ≤ 16 ∧ (∀ k, k < 18 → un_ (sg_ s 12 k) < 2 ^ 32) ∧ (∀ k, k < 18 → un_ (sg_ s 14 k) < 2 ^ 32) ∧ (∀ k, k < i → sg_ s 14 k = 0) ∧ dv_ (sg_ s 12) 0 18 < D * 2 ^ (32 * i) ∧ A * 2 ^ up = dv_ (sg_ s 14) 0 18 * D + dv_ (sg_ s 12) 0 18) →
      ks_W L xs mX0_divide rm_X0_divide 84 [(0, .ref 7), (5, .int (nI (e + 1))), (6, .int (nI up)), (7, .int (nI i - 1))] [] s 0 0 (pv_ fun σ' => rw_ (sg_ σ' 9) 9 (A / B) ∧ rw_ (sg_ σ' 10) 9 (A % B) ∧ fr_ [] [] [] [9, 10, 11, 12, 13, 14] σ2 σ') := by
    refine lpd_ (fun i s => ks_W L xs mX0_divide rm_X0_divide 84 [(0, .ref 7), (5, .int (nI (e + 1))), (6, .int (nI up)), (7, .int (nI i - 1))] [] s 0 0 _) (fun i s => fr_ [] [] [] [12, 14] σ8 s ∧ i + e ≤ 16 ∧ (∀ k, k < 18 → un_ (sg_ s 12 k) < 2 ^ 32) ∧ (∀ k, k < 18 → un_ (sg_ s 14 k) < 2 ^ 32) ∧ (∀ k, k < i → sg_ s 14 k = 0) ∧ dv_ (sg_ s 12) 0 18 < D * 2 ^ (32 * i) ∧ A * 2 ^ up = dv_ (sg_ s 14) 0 18 * D + dv_ (sg_ s 12) 0 18) ?_ ?_
    · intro p s I kk
      obtain ⟨f1, f2, f3, f4, f5, f6, f7⟩ := I
      rw [nI_pred]
      refine sg_X0_divide_84 (fun c => absurd c (nI_pos (by omega))) (fun _ => ?_)
      have s13 : sg_ s 13 = l := by rw [f1.2.2.2 13 (by decide), h13]
      have a1 := dv_add (sg_ s 12) 0 p (18 - p)
      have a2 := dv_add (sg_ s 12) p (e + 2) (18 - p - (e + 2))
      rw [show p + (18 - p) = 18 by omega, Nat.zero_add] at a1
      rw [show e + 2 + (18 - p - (e + 2)) = 18 - p by omega] at a2
      have hlow : dv_ (sg_ s 12) 0 p < 2 ^ (32 * p) := dv_lt p (fun k hk => by rw [Nat.zero_add]; exact f3 k (by omega))
      have hP := Nat.two_pow_pos (32 * p)
      have hDp : D * 2 ^ (32 * (p + 1)) = 2 ^ (32 * p) * (D * 2 ^ 32) := by rw [p32]; grind
      have htop0 : dv_ (sg_ s 12) (p + (e + 2)) (18 - p - (e + 2)) = 0 := by
        rcases Nat.eq_zero_or_pos (dv_ (sg_ s 12) (p + (e + 2)) (18 - p - (e + 2))) with z | z
        · exact z
        · exfalso
          have h1 : 2 ^ (32 * p) * (D * 2 ^ 32) ≤ 2 ^ (32 * p) * (2 ^ (32 * (e + 2)) * dv_ (sg_ s 12) (p + (e + 2)) (18 - p - (e + 2))) := by
            apply Nat.mul_le_mul_left
            have h2 : D * 2 ^ 32 ≤ 2 ^ (32 * (e + 2)) := by
              have h4 : D * 2 ^ 32 ≤ 2 ^ (32 * (e + 1)) * 2 ^ 32 := Nat.mul_le_mul_right _ (Nat.le_of_lt hDlt)
              rw [← p32] at h4
              exact h4
            have h3 : 2 ^ (32 * (e + 2)) * 1 ≤ 2 ^ (32 * (e + 2)) * dv_ (sg_ s 12) (p + (e + 2)) (18 - p - (e + 2)) := Nat.mul_le_mul_left _ z
            omega
          rw [a2, Nat.mul_add] at a1
          rw [hDp] at f6
          omega
      rw [htop0, Nat.mul_zero, Nat.add_zero] at a2
      rw [a2] at a1
      have hRD : dv_ (sg_ s 12) p (e + 2) < D * 2 ^ 32 := by
        rw [a1, hDp] at f6
        exact Nat.lt_of_mul_lt_mul_left (Nat.lt_of_le_of_lt (Nat.le_add_left _ _) f6)
      refine cs_X0_divide_100 (c_takeMultiple (p := p) (e := e) (D := D) (R := dv_ (sg_ s 12) p (e + 2)) (by omega) (by rw [s13]; exact fun k hk => hl32 k (by omega)) (fun k hk => f3 _ (by omega)) (by rw [s13]; exact hD) rfl (by rw [s13]; exact hle) hRD) (fun q σ9 h9 => ?_)
      obtain ⟨hq, g, rfl, g1, g2, g3⟩ := h9
      refine sg_X0_divide_103 (vp_in_nI (by omega) (by omega)) ?_
      rw [nI_clamp (by omega), sg_ne _ _ (show 14 ≠ 12 by decide)]
      rw [show nI p + (-1) = nI p - 1 by rw [Int32.sub_eq_add_neg]]
      have hq32 : un_ q < 2 ^ 32 := by rw [hq]; exact Nat.div_lt_of_lt_mul hRD
      have n12 : sg_ (ug_ (ug_ s 12 g) 14 (vp_updL (sg_ s 14) p q)) 12 = g := by rw [sg_ne _ _ (by decide), sg_self]
      have n14 : sg_ (ug_ (ug_ s 12 g) 14 (vp_updL (sg_ s 14) p q)) 14 = vp_updL (sg_ s 14) p q := sg_self _ _ _
      have b1 := dv_add g 0 p (18 - p)
      have b2 := dv_add g p (e + 2) (18 - p - (e + 2))
      rw [show p + (18 - p) = 18 by omega, Nat.zero_add] at b1
      rw [show e + 2 + (18 - p - (e + 2)) = 18 - p by omega] at b2
      have b3 : dv_ g 0 p = dv_ (sg_ s 12) 0 p := dv_congr p (fun k hk => by rw [Nat.zero_add, g1 k (Or.inl hk)])
      have b4 : dv_ g (p + (e + 2)) (18 - p - (e + 2)) = dv_ (sg_ s 12) (p + (e + 2)) (18 - p - (e + 2)) := dv_congr _ (fun k hk => by rw [g1 _ (Or.inr (by omega))])
      rw [b4, htop0, Nat.mul_zero, Nat.add_zero, g3] at b2
      rw [b2, b3] at b1
      refine kk _ ⟨?_, by omega, ?_, ?_, ?_, ?_, ?_⟩
      · exact fr_trans f1 (fr_trans (fr_ug _ _ (by decide)) (fr_ug _ _ (by decide)))
      · rw [n12]
        intro k hk
        by_cases z : k < p ∨ p + e + 1 < k
        · rw [g1 k z]; exact f3 k hk
        · have := g2 (k - p) (by omega)
          rw [show p + (k - p) = k by omega] at this
          exact this
      · rw [n14]
        intro k hk
        simp only [vp_updL]
        by_cases z : k = p
        · rw [if_pos z]; exact hq32
        · rw [if_neg z]; exact f4 k hk
      · rw [n14]
        intro k hk
        simp only [vp_updL]
        rw [if_neg (by omega)]; exact f5 k (by omega)
      · rw [n12, b1]
        have h1 := Nat.mod_lt (dv_ (sg_ s 12) p (e + 2)) hD0
        have h2 : 2 ^ (32 * p) * (dv_ (sg_ s 12) p (e + 2) % D + 1) ≤ 2 ^ (32 * p) * D := Nat.mul_le_mul_left _ h1
        rw [Nat.mul_add, Nat.mul_one] at h2
        rw [Nat.mul_comm D]
        omega
      · rw [n12, n14, dv_upd (by omega) (f5 p (by omega)), b1, hq, f7, a1]
        have h1 := Nat.div_add_mod (dv_ (sg_ s 12) p (e + 2)) D
        generalize dv_ (sg_ s 12) p (e + 2) / D = q0 at h1 ⊢
        generalize dv_ (sg_ s 12) p (e + 2) % D = r0 at h1 ⊢
        rw [← h1]
        grind
    · intro s I
      obtain ⟨f1, f2, f3, f4, f5, f6, f7⟩ := I
      have hneg : nI 0 - 1 < (0 : Int32) := by decide
      rw [Nat.mul_zero, Nat.pow_zero, Nat.mul_one] at f6
      have hQ : dv_ (sg_ s 14) 0 18 = A / B := by
        rw [← hQB, f7, Nat.mul_comm, Nat.mul_add_div hD0, Nat.div_eq_of_lt f6, Nat.add_zero]
      have hRr : dv_ (sg_ s 12) 0 18 = A % B * 2 ^ up := by
        rw [← hRB, f7, Nat.mul_comm, Nat.mul_add_mod, Nat.mod_eq_of_lt f6]
      refine sg_X0_divide_84 (fun _ => ?_) (fun c => absurd hneg c)
      refine sg_X0_divide_110 (cs_X0_divide_118 (c_merge (nr := 9) row_14 row_9 (by decide) (by omega) (fun k hk => f4 k hk)) (fun σ9 h9 => ?_))
      obtain ⟨g9, rfl, q9⟩ := h9
      rw [hQ] at q9
      refine sg_X0_divide_121 (cs_X0_divide_129 (c_merge (nr := 9) row_12 row_11 (by decide) (by omega) (by rw [sg_ne _ _ (by decide)]; exact fun k hk => f3 k hk)) (fun σ10 h10 => ?_))
      obtain ⟨g11, rfl, q11⟩ := h10
      rw [sg_ne _ _ (show 12 ≠ 9 by decide), hRr] at q11
      refine sg_X0_divide_132 (cs_X0_divide_143 (c_moveUp row_11 row_10 (by decide)) (fun σ11 h11 => ?_))
      subst h11
      have hdn := fun g0 => rw_down (g0 := g0) (no := 9) (s := up) q11 (by omega) (by omega) (by omega)
      rw [Nat.mul_div_cancel _ (Nat.two_pow_pos _), Nat.mod_eq_of_lt (Nat.lt_of_le_of_lt hABm (Nat.lt_of_lt_of_le hAw (Nat.pow_le_pow_right (by decide) (by omega))))] at hdn
      refine sg_X0_divide_146 ⟨rfl, ?_, ?_, ?_⟩
      · rw [sg_ne _ _ (by decide), sg_ne _ _ (by decide), sg_self]; exact q9
      · rw [sg_self, sg_self]; exact hdn _
      · exact fr_trans hfr0 (fr_trans (fr_mono f1 (by decide) (by decide) (by decide) (by decide)) (fr_trans (fr_trans (fr_ug _ _ (by decide)) (fr_ug _ _ (by decide))) (fr_ug _ _ (by decide))))
  refine key m0 σ8 ⟨fr_refl _, hme, by rw [h12]; exact hu32, fun k hk => by rw [h14 k (by omega), un_0]; decide, fun k hk => h14 k (by omega), by rw [h12, hU]; exact hstart, ?_⟩
  rw [h12, hU, dv_zero 18 (fun k hk => by rw [Nat.zero_add]; exact h14 k (by omega))]
  omega
end
