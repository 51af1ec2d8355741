section
/-! ===== numbers with a point in the reference: sum ===== -/
section
variable {L : Nat} {xs : Nat → Int32} {σ : ks_St} {A : wa_} {f e y X T : Nat}
/-- two numbers, neither 0: the high one at place p -/
theorem m_sum_both {p h l : Nat} {Q : ka_O → ks_St → Prop} (hf : fmt_ f e) (hy : y ≤ 4) (hX : TK_ f e 0 X σ) (hT : TK_ f e 1 T σ) (h7 : si_ σ 17 = 0) (hp : (p = 0 ∧ h = X ∧ l = T) ∨ (p = 1 ∧ h = T ∧ l = X)) (hhl : hl_ f e X T = (h, l)) (hh : dW f e h ≠ 0) (hl : dW f e l ≠ 0)
    (K : ∀ σ' v, v = rr_ f e y (aS f e y X T) (aM f e X T) (aK f e X T) → si_ σ' 17 = nI v.2 → fr_ [17] [] [] [] σ σ' → Q (.inl (some (.long (lN v.1)))) σ') :
    ks_W L xs mX5_sum rm_X5_sum 238 [(0, .ref 17), (1, .int (nI (f + e + 1))), (2, .int (nI y))] [.int (nI p)] σ 0 0 Q := by
  have hb := fmt_b hf
  have B := sum_both (y := y) hf hhl hh hl
  have wh := dW_24 hf h
  have wl := dW_24 hf l
  have p1 := dP_b hf h
  have p2 := dP_b hf l
  have hpl : dP f e l ≤ dP f e h := by
    rcases hl_or f e X T with ⟨z, q⟩ | ⟨z, q⟩
    · rw [hhl] at z
      obtain ⟨rfl, rfl⟩ := Prod.mk.inj z
      exact q
    · rw [hhl] at z
      obtain ⟨rfl, rfl⟩ := Prod.mk.inj z
      omega
  have hp2 : p < 2 := by omega
  have Th : TK_ f e p h σ := by rcases hp with ⟨rfl, rfl, rfl⟩ | ⟨rfl, rfl, rfl⟩ <;> assumption
  have Tl : TK_ f e (1 - p) l σ := by rcases hp with ⟨rfl, rfl, rfl⟩ | ⟨rfl, rfl, rfl⟩ <;> assumption
  have e1p : (1 : Int32) - nI p = nI (1 - p) := pk_sub (a := 1) (by omega)
  have ip : vp_in (nI p) 2 := vp_in_nI hp2 (by decide)
  have iq : vp_in (nI (1 - p)) 2 := vp_in_nI (by omega) (by decide)
  have cp : (nI p).toNatClampNeg = p := nI_clamp (by omega)
  have cq : (nI (1 - p)).toNatClampNeg = 1 - p := nI_clamp (by omega)
  have h27 : sf_ σ 27 (nI p).toNatClampNeg = pw_ (dP f e h) := by rw [cp]; exact Th.2.2.1
  have l27 : sf_ σ 27 (nI (1 - p)).toNatClampNeg = pw_ (dP f e l) := by rw [cq]; exact Tl.2.2.1
  have h28 : sg_ σ 28 (nI p).toNatClampNeg = lN (dW f e h) := by rw [cp]; exact Th.2.2.2
  have l28 : sg_ σ 28 (nI (1 - p)).toNatClampNeg = lN (dW f e l) := by rw [cq]; exact Tl.2.2.2
  have h26 : sf_ σ 26 (nI p).toNatClampNeg = b1_ (dS f e h) := by rw [cp]; exact Th.2.1
  have l26 : sf_ σ 26 (nI (1 - p)).toNatClampNeg = b1_ (dS f e l) := by rw [cq]; exact Tl.2.1
  have a26 : sf_ σ 26 (0 : Int32).toNatClampNeg = b1_ (dS f e X) := hX.2.1
  have b26 : sf_ σ 26 (1 : Int32).toNatClampNeg = b1_ (dS f e T) := hT.2.1
  have bHb : bH f e h l < 2 ^ 62 := by
    unfold bH
    have : 2 ^ (if 38 < dP f e h - dP f e l then 15 else dP f e h - dP f e l) ≤ 2 ^ 38 := Nat.pow_le_pow_right (by decide) (by split <;> omega)
    exact Nat.lt_of_le_of_lt (Nat.mul_le_mul_left _ this) (by omega)
  have bHpos : 0 < bH f e h l := Nat.mul_pos (by omega) (Nat.two_pow_pos _)
  have bLb : bL f e h l < 2 ^ 24 ∧ 0 < bL f e h l := by unfold bL; split <;> omega
  have bKb : lq_ f e ≤ bK f e h l ∧ bK f e h l < 5000 ∧ 100 ≤ bK f e h l := by unfold bK; split <;> omega
  have ny3 : nI y = 3 ↔ y = 3 := nI_eq (b := 3) (by omega) (by decide)
  -- from 337
  have at337 : ks_W L xs mX5_sum rm_X5_sum 337 [(0, .ref 17), (1, .int (nI (f + e + 1))), (2, .int (nI y)), (3, .int (nI p)), (4, .int (nI (1 - p))), (7, .long (lN (bH f e h l))), (9, .long (lN (bL f e h l)))] [.int (pw_ (bK f e h l))] σ 0 0 Q := by
    have ks : sf_ σ 26 (0 : Int32).toNatClampNeg = sf_ σ 26 (1 : Int32).toNatClampNeg ↔ dS f e X = dS f e T := by rw [a26, b26, b1_inj]
    have k0 : lg_cmp (lN (bH f e h l)) (lN (bL f e h l)) = 0 ↔ bH f e h l = bL f e h l := by rw [lg_cmp_eq, pk_lEQ (by omega) (by omega)]
    have kle : lg_cmp (lN (bH f e h l)) (lN (bL f e h l)) ≤ 0 ↔ bH f e h l ≤ bL f e h l := by rw [lg_cmp_le, pk_lLE (by omega) (by omega)]
    have zero : ∀ b : Bool, b = decide (y = 3) → dS f e X ≠ dS f e T → bH f e h l = bL f e h l → ks_W L xs mX5_sum rm_X5_sum 393 [] [.int (b1_ b), .int (nI (f + e + 1))] σ 0 0 Q := by
      intro b hb3 hs hz
      refine sg_X5_sum_393 (cs_X5_sum_395 (m_packed (E := 0) (F := 0) hf (Nat.two_pow_pos e) (Nat.two_pow_pos f)) (fun r σ1 hr => ?_))
      obtain ⟨rfl, rfl⟩ := hr
      refine sg_X5_sum_398 ?_
      have := K σ1 _ ((B.2 hs).1 hz).symm h7 (fr_refl _)
      rw [hb3, Nat.zero_mul, Nat.zero_add]
      exact this
    refine sg_X5_sum_337 (fun _ _ _ => iq) (fun c d g => ?_) (fun _ _ _ => ip) (fun c d g => ?_) (fun c d g => ?_) (fun c d g => ?_) (fun c => ?_)
    · rw [ks] at c
      rw [k0] at d
      rw [kle] at g
      have hlt : bH f e h l < bL f e h l := by omega
      rw [l26, lN_sub (by omega)]
      refine cs_X5_sum_446 (m_rounded hf hy (by omega) (by omega) (Or.inr bKb.1) bKb.2.2 bKb.2.1 h7) (fun r σ1 hr => ?_)
      obtain ⟨rfl, g7, g⟩ := hr
      rw [← (B.2 c).2.2 hlt] at g7 ⊢
      exact sg_X5_sum_449 (K σ1 _ rfl g7 g)
    · rw [ks] at c
      rw [k0] at d
      rw [kle] at g
      have hlt : bL f e h l < bH f e h l := by omega
      rw [h26, lN_sub (by omega)]
      refine cs_X5_sum_423 (m_rounded hf hy (by omega) (by omega) (Or.inr bKb.1) bKb.2.2 bKb.2.1 h7) (fun r σ1 hr => ?_)
      obtain ⟨rfl, g7, g⟩ := hr
      rw [← (B.2 c).2.1 hlt] at g7 ⊢
      exact sg_X5_sum_426 (sg_X5_sum_449 (K σ1 _ rfl g7 g))
    · rw [ks] at c
      rw [k0] at d
      exact zero false (decide_eq_false (fun z => g (ny3.mpr z))).symm c d
    · rw [ks] at c
      rw [k0] at d
      exact zero true (decide_eq_true (ny3.mp g)).symm c d
    · rw [ks] at c
      rw [a26, lN_add]
      refine cs_X5_sum_370 (m_rounded hf hy (by omega) (by omega) (Or.inr bKb.1) bKb.2.2 bKb.2.1 h7) (fun r σ1 hr => ?_)
      obtain ⟨rfl, g7, g⟩ := hr
      rw [← B.1 c] at g7 ⊢
      exact sg_X5_sum_373 (K σ1 _ rfl g7 g)
  -- far or not
  have at272 : ∀ fa : Bool, fa = decide (38 < dP f e h - dP f e l) → ks_W L xs mX5_sum rm_X5_sum 272 [(0, .ref 17), (1, .int (nI (f + e + 1))), (2, .int (nI y)), (3, .int (nI p)), (4, .int (nI (1 - p))), (5, .int (nI (dP f e h - dP f e l)))] [.int (b1_ fa)] σ 0 0 Q := by
    intro fa hfa
    have bHv : bH f e h l = dW f e h * 2 ^ (if 38 < dP f e h - dP f e l then 15 else dP f e h - dP f e l) := rfl
    have bLv : bL f e h l = if 38 < dP f e h - dP f e l then 1 else dW f e l := rfl
    have bKv : bK f e h l = if 38 < dP f e h - dP f e l then dP f e h - 15 else dP f e l := rfl
    by_cases c : 38 < dP f e h - dP f e l
    · rw [decide_eq_true c] at hfa
      rw [if_pos c] at bHv bLv bKv
      subst hfa
      refine sg_X5_sum_272 ip (fun z => absurd z (by decide)) (fun _ => ?_)
      refine sg_X5_sum_292 (fun z => absurd z (by decide)) (fun z => absurd z (by decide)) (fun _ => ?_)
      rw [h28, show (15 : Int32) = nI 15 from rfl, lN_shl (by decide) (by rw [← bHv]; omega), ← bHv]
      refine sg_X5_sum_311 (fun z => absurd z (by decide)) (fun z => absurd z (by decide)) (fun _ => ip) (fun _ => ?_)
      rw [h27, show (15 : Int32) = nI 15 from rfl, pw_sub (by omega), ← bKv]
      rw [bLv] at at337
      exact at337
    · rw [decide_eq_false c] at hfa
      rw [if_neg c] at bHv bLv bKv
      subst hfa
      refine sg_X5_sum_272 ip (fun _ => ?_) (fun z => absurd rfl z)
      refine sg_X5_sum_292 (fun _ => iq) (fun _ => ?_) (fun z => absurd rfl z)
      rw [h28, l28, lN_shl (by omega) (by rw [← bHv]; omega), ← bHv, ← bLv]
      refine sg_X5_sum_311 (fun _ => iq) (fun _ => ?_) (fun z => absurd rfl z) (fun z => absurd rfl z)
      rw [l27, ← bKv]
      exact at337
  have k38 : sf_ σ 27 (nI p).toNatClampNeg - sf_ σ 27 (1 - nI p).toNatClampNeg = nI (dP f e h - dP f e l) := by
    rw [e1p, h27, l27, pw_pw hpl]
  have k38' : nI (dP f e h - dP f e l) ≤ 38 ↔ dP f e h - dP f e l ≤ 38 := nI_leI (b := 38) (by omega) (by decide)
  refine sg_X5_sum_238 ip (by rw [e1p]; exact iq) (fun c => ?_) (fun c => ?_)
  · rw [k38] at c ⊢
    rw [k38'] at c
    rw [e1p]
    exact at272 false (decide_eq_false (by omega)).symm
  · rw [k38] at c ⊢
    rw [k38'] at c
    rw [e1p]
    exact at272 true (decide_eq_true (by omega)).symm
theorem m_sum (hf : fmt_ f e) (hy : y ≤ 4) (hX : TK_ f e 0 X σ) (hT : TK_ f e 1 T σ) (lX : X < 2 ^ (f + e + 1)) (lT : T < 2 ^ (f + e + 1)) (nX : ¬ no_ f e X) (nT : ¬ no_ f e T) (h7 : si_ σ 17 = 0) : ks_M L xs mX5_sum rm_X5_sum [.ref 17, .int (nI (f + e + 1)), .int (nI y)] σ (pl_ fun r σ' => r = lN (if nf_ f e X ∨ nf_ f e T then wn_ f e 0 X T else rr_ f e y (aS f e y X T) (aM f e X T) (aK f e X T)).1 ∧ si_ σ' 17 = nI (if nf_ f e X ∨ nf_ f e T then wn_ f e 0 X T else rr_ f e y (aS f e y X T) (aM f e X T) (aK f e X T)).2 ∧ fr_ [17] [] [] [] σ σ') := by
  refine ks_body (by decide) (Nat.le_of_ble_eq_true rfl) ?_
  have hb := fmt_b hf
  have w1 := dW_24 hf X
  have w2 := dW_24 hf T
  have p1 := dP_b hf X
  have p2 := dP_b hf T
  have a25 : sf_ σ 25 (0 : Int32).toNatClampNeg = nI (kd_ f e X) := hX.1
  have a26 : sf_ σ 26 (0 : Int32).toNatClampNeg = b1_ (dS f e X) := hX.2.1
  have a27 : sf_ σ 27 (0 : Int32).toNatClampNeg = pw_ (dP f e X) := hX.2.2.1
  have a28 : sg_ σ 28 (0 : Int32).toNatClampNeg = lN (dW f e X) := hX.2.2.2
  have b25 : sf_ σ 25 (1 : Int32).toNatClampNeg = nI (kd_ f e T) := hT.1
  have b26 : sf_ σ 26 (1 : Int32).toNatClampNeg = b1_ (dS f e T) := hT.2.1
  have b27 : sf_ σ 27 (1 : Int32).toNatClampNeg = pw_ (dP f e T) := hT.2.2.1
  have b28 : sg_ σ 28 (1 : Int32).toNatClampNeg = lN (dW f e T) := hT.2.2.2
  have kX := kd_le f e X
  have kT := kd_le f e T
  have qX1 : sf_ σ 25 (0 : Int32).toNatClampNeg = 1 ↔ nf_ f e X := by rw [a25, ← kd_1]; exact nI_eq (b := 1) (by omega) (by decide)
  have qT1 : sf_ σ 25 (1 : Int32).toNatClampNeg = 1 ↔ nf_ f e T := by rw [b25, ← kd_1]; exact nI_eq (b := 1) (by omega) (by decide)
  have zX : lg_cmp (sg_ σ 28 (0 : Int32).toNatClampNeg) 0 = 0 ↔ dW f e X = 0 := by rw [a28, lg_cmp_eq, un_eq0, unl (by omega)]
  have zT : lg_cmp (sg_ σ 28 (1 : Int32).toNatClampNeg) 0 = 0 ↔ dW f e T = 0 := by rw [b28, lg_cmp_eq, un_eq0, unl (by omega)]
  have ks : sf_ σ 26 (0 : Int32).toNatClampNeg = sf_ σ 26 (1 : Int32).toNatClampNeg ↔ dS f e X = dS f e T := by rw [a26, b26, b1_inj]
  have ny3 : nI y = 3 ↔ y = 3 := nI_eq (b := 3) (by omega) (by decide)
  generalize hv : (if nf_ f e X ∨ nf_ f e T then wn_ f e 0 X T else rr_ f e y (aS f e y X T) (aM f e X T) (aK f e X T)) = v
  generalize hQ : (pl_ fun r σ' => r = lN v.1 ∧ si_ σ' 17 = nI v.2 ∧ fr_ [17] [] [] [] σ σ') = Q
  have hwn : wn_ f e 0 X T = if nf_ f e X ∧ nf_ f e T ∧ dS f e X ≠ dS f e T then (vN f e, 1) else (if nf_ f e X then X else T, 0) := by rw [wn_, if_pos (by decide)]
  -- one of them infinite
  have at20 : (nf_ f e X ∨ nf_ f e T) → ks_W L xs mX5_sum rm_X5_sum 20 [(0, .ref 17), (1, .int (nI (f + e + 1)))] [] σ 0 0 Q := by
    intro hi
    rw [if_pos hi, hwn] at hv
    have at61 : ¬ (nf_ f e X ∧ nf_ f e T ∧ dS f e X ≠ dS f e T) → ks_W L xs mX5_sum rm_X5_sum 61 [(0, .ref 17), (1, .int (nI (f + e + 1)))] [] σ 0 0 Q := by
      intro nn
      rw [if_neg nn] at hv
      refine sg_X5_sum_61 (fun c => ?_) (fun c => ?_)
      · rw [qX1] at c
        rw [b26, if_neg c] at *
        have hT' := hi.resolve_left c
        refine cs_X5_sum_87 (m_infinite hf) (fun r σ1 hr => ?_)
        obtain ⟨rfl, rfl⟩ := hr
        refine sg_X5_sum_90 ?_
        rw [← hQ, ← hv]
        exact ⟨_, rfl, by rw [← nf_val hT' lT], h7, fr_refl _⟩
      · rw [qX1] at c
        rw [if_pos c] at hv
        rw [a26]
        refine cs_X5_sum_87 (m_infinite hf) (fun r σ1 hr => ?_)
        obtain ⟨rfl, rfl⟩ := hr
        refine sg_X5_sum_90 ?_
        rw [← hQ, ← hv]
        exact ⟨_, rfl, by rw [← nf_val c lX], h7, fr_refl _⟩
    refine sg_X5_sum_20 (fun c => at61 (fun z => c (qX1.mpr z.1))) (fun c d => at61 (fun z => d (qT1.mpr z.2.1))) (fun c d g => at61 (fun z => z.2.2 (ks.mp g))) (fun c d g => ?_)
    rw [if_pos ⟨qX1.mp c, qT1.mp d, fun z => g (ks.mpr z)⟩] at hv
    refine cs_X5_sum_57 (m_notValid hf) (fun r σ1 hr => ?_)
    obtain ⟨rfl, rfl⟩ := hr
    refine sg_X5_sum_60 ?_
    rw [← hQ, ← hv]
    exact ⟨_, rfl, rfl, by rw [si_ui, if_pos rfl]; rfl, fr_ui _ _ (by decide)⟩
  -- both finite
  have zero : ¬ (nf_ f e X ∨ nf_ f e T) → dW f e X = 0 → dW f e T = 0 → ∀ b : Bool, b = (if dS f e X = dS f e T then dS f e X else decide (y = 3)) → ks_W L xs mX5_sum rm_X5_sum 148 [] [.int (b1_ b), .int (nI (f + e + 1))] σ 0 0 Q := by
    intro ni d1 d2 b hbv
    rw [if_neg ni, sum_none d1 d2, ← hbv] at hv
    refine sg_X5_sum_148 (cs_X5_sum_150 (m_packed (E := 0) (F := 0) hf (Nat.two_pow_pos e) (Nat.two_pow_pos f)) (fun r σ1 hr => ?_))
    obtain ⟨rfl, rfl⟩ := hr
    refine sg_X5_sum_153 ?_
    rw [← hQ, ← hv]
    exact ⟨_, rfl, by rw [Nat.zero_mul, Nat.zero_add], h7, fr_refl _⟩
  have at154 : ¬ (nf_ f e X ∨ nf_ f e T) → ¬ (dW f e X = 0 ∧ dW f e T = 0) → ks_W L xs mX5_sum rm_X5_sum 154 [(0, .ref 17), (1, .int (nI (f + e + 1))), (2, .int (nI y))] [] σ 0 0 Q := by
    intro ni nz
    rw [if_neg ni] at hv
    have one : ∀ p i o, (p = 0 ∧ i = X ∧ o = T) ∨ (p = 1 ∧ i = T ∧ o = X) → dW f e i ≠ 0 → dW f e o = 0 → ks_W L xs mX5_sum rm_X5_sum 192 [(0, .ref 17), (1, .int (nI (f + e + 1))), (2, .int (nI y))] [.int (nI p)] σ 0 0 Q := by
      intro p i o hp h1 h2
      have Ti : TK_ f e p i σ := by rcases hp with ⟨rfl, rfl, rfl⟩ | ⟨rfl, rfl, rfl⟩ <;> assumption
      have hp2 : p < 2 := by omega
      have ip : vp_in (nI p) 2 := vp_in_nI hp2 (by decide)
      have cp : (nI p).toNatClampNeg = p := nI_clamp (by omega)
      have pi := dP_b hf i
      have wi := dW_24 hf i
      refine sg_X5_sum_192 ip ip ip ?_
      rw [cp, Ti.2.1, Ti.2.2.1, Ti.2.2.2]
      refine cs_X5_sum_214 (m_rounded hf hy h1 (by omega) (Or.inr pi.2.2) (by omega) (by omega) h7) (fun r σ1 hr => ?_)
      obtain ⟨rfl, g7, g⟩ := hr
      refine sg_X5_sum_217 ?_
      have es : rr_ f e y (dS f e i) (dW f e i) (dP f e i) = v := by
        rw [← hv]
        refine (sum_one hf (i := i) (o := o) ?_ h1 h2).symm
        rcases hp with ⟨-, rfl, rfl⟩ | ⟨-, rfl, rfl⟩
        · exact Or.inl ⟨rfl, rfl⟩
        · exact Or.inr ⟨rfl, rfl⟩
      rw [es] at g7 ⊢
      rw [← hQ]
      exact ⟨_, rfl, rfl, g7, g⟩
    have fin : ∀ σ' v', v' = rr_ f e y (aS f e y X T) (aM f e X T) (aK f e X T) → si_ σ' 17 = nI v'.2 → fr_ [17] [] [] [] σ σ' → Q (.inl (some (.long (lN v'.1)))) σ' := by
      intro σ' v' e1 e2 e3
      rw [← hQ, ← hv, ← e1]
      exact ⟨_, rfl, rfl, e2, e3⟩
    have kp : sf_ σ 27 (0 : Int32).toNatClampNeg < sf_ σ 27 (1 : Int32).toNatClampNeg ↔ dP f e X < dP f e T := by rw [a27, b27]; exact pw_lt (by omega) (by omega)
    have at176 : (dW f e X = 0 ∨ dW f e T = 0) → ks_W L xs mX5_sum rm_X5_sum 176 [(0, .ref 17), (1, .int (nI (f + e + 1))), (2, .int (nI y))] [] σ 0 0 Q := by
      intro h0
      refine sg_X5_sum_176 (fun c => ?_) (fun c => ?_)
      · rw [zX] at c
        exact one 0 X T (Or.inl ⟨rfl, rfl, rfl⟩) c (h0.resolve_left c)
      · rw [zX] at c
        exact one 1 T X (Or.inr ⟨rfl, rfl, rfl⟩) (fun z => nz ⟨c, z⟩) c
    refine sg_X5_sum_154 (fun c => at176 (Or.inl (zX.mp c))) (fun c d g => ?_) (fun c d g => ?_) (fun c d => at176 (Or.inr (zT.mp d)))
    · rw [zX] at c
      rw [zT] at d
      rw [kp] at g
      exact m_sum_both (p := 1) hf hy hX hT h7 (Or.inr ⟨rfl, rfl, rfl⟩) (by unfold hl_; rw [if_neg (by omega)]) d c fin
    · rw [zX] at c
      rw [zT] at d
      rw [kp] at g
      exact m_sum_both (p := 0) hf hy hX hT h7 (Or.inl ⟨rfl, rfl, rfl⟩) (by unfold hl_; rw [if_pos (by omega)]) c d fin
  refine sg_X5_sum_0 (fun c => at20 (Or.inl (qX1.mp c))) (fun c d g => ?_) (fun c d g i => ?_) (fun c d g i j k => ?_) (fun c d g i j k => ?_) (fun c d g i j => ?_) (fun c d => at20 (Or.inr (qT1.mp d)))
  · exact at154 (fun z => z.elim (fun q => c (qX1.mpr q)) (fun q => d (qT1.mpr q))) (fun z => g (zX.mpr z.1))
  · exact at154 (fun z => z.elim (fun q => c (qX1.mpr q)) (fun q => d (qT1.mpr q))) (fun z => i (zT.mpr z.2))
  · exact zero (fun z => z.elim (fun q => c (qX1.mpr q)) (fun q => d (qT1.mpr q))) (zX.mp g) (zT.mp i) false (by rw [if_neg (fun z => j (ks.mpr z)), decide_eq_false (fun z => k (ny3.mpr z))])
  · exact zero (fun z => z.elim (fun q => c (qX1.mpr q)) (fun q => d (qT1.mpr q))) (zX.mp g) (zT.mp i) true (by rw [if_neg (fun z => j (ks.mpr z)), decide_eq_true (ny3.mp k)])
  · rw [a26]
    exact zero (fun z => z.elim (fun q => c (qX1.mpr q)) (fun q => d (qT1.mpr q))) (zX.mp g) (zT.mp i) _ (by rw [if_pos (ks.mp j)])
end
end
