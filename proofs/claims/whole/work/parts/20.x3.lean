theorem d_X3_clear_0 : decode cX3_clear 0 = .ok (.iconst 0, 1) := by decide +kernel
theorem d_X3_clear_1 : decode cX3_clear 1 = .ok (.istore_n 1, 1) := by decide +kernel
theorem d_X3_clear_2 : decode cX3_clear 2 = .ok (.iload_n 1, 1) := by decide +kernel
theorem d_X3_clear_3 : decode cX3_clear 3 = .ok (.aload_n 0, 1) := by decide +kernel
theorem d_X3_clear_4 : decode cX3_clear 4 = .ok (.arraylength, 1) := by decide +kernel
theorem d_X3_clear_5 : decode cX3_clear 5 = .ok (.if_icmp .ge 13, 3) := by decide +kernel
theorem d_X3_clear_8 : decode cX3_clear 8 = .ok (.aload_n 0, 1) := by decide +kernel
theorem d_X3_clear_9 : decode cX3_clear 9 = .ok (.iload_n 1, 1) := by decide +kernel
theorem d_X3_clear_10 : decode cX3_clear 10 = .ok (.lconst 0, 1) := by decide +kernel
theorem d_X3_clear_11 : decode cX3_clear 11 = .ok (.lastore, 1) := by decide +kernel
theorem d_X3_clear_12 : decode cX3_clear 12 = .ok (.iinc 1 1, 3) := by decide +kernel
theorem d_X3_clear_15 : decode cX3_clear 15 = .ok (.goto (-13), 3) := by decide +kernel
theorem d_X3_clear_18 : decode cX3_clear 18 = .ok (.return_, 1) := by decide +kernel
theorem sg_X3_clear_0 {L : Nat} {xs : Nat → Int32} {σ : ks_St} {mc ms : Nat} {P : ka_O → ks_St → Prop} {a0 na0 : Nat} (ha0 : rl_ a0 na0) (k1 : ks_W L xs mX3_clear rm_X3_clear 2 [(0, .ref a0), (1, .int 0)] [] σ mc ms P) : ks_W L xs mX3_clear rm_X3_clear 0 [(0, .ref a0)] [] σ mc ms P := by
  refine ka_iconst (v := 0) d_X3_clear_0 rfl (by decide) ?_
  refine ka_istore_n (ls' := [(1, .int 0), (0, .ref a0)]) d_X3_clear_1 rfl rfl (by decide) rfl ?_
  refine ka_sub [1, 0] rfl ?_
  exact k1
theorem sg_X3_clear_2 {L : Nat} {xs : Nat → Int32} {σ : ks_St} {mc ms : Nat} {P : ka_O → ks_St → Prop} {a0 na0 : Nat} {x1 : Int32} (ha0 : rl_ a0 na0) (r2 : ((nI na0) ≤ x1) → P (.inl none) σ) (v3 : (¬ ((nI na0) ≤ x1)) → vp_in x1 na0) (k4 : (¬ ((nI na0) ≤ x1)) → ks_W L xs mX3_clear rm_X3_clear 2 [(0, .ref a0), (1, .int (x1 + 1))] [] (ug_ σ a0 (vp_updL (sg_ σ a0) x1.toNatClampNeg 0)) mc ms P) : ks_W L xs mX3_clear rm_X3_clear 2 [(0, .ref a0), (1, .int x1)] [] σ mc ms P := by
  refine ka_iload_n d_X3_clear_2 rfl rfl 1 rfl ?_
  refine ka_aload_n d_X3_clear_3 rfl rfl 0 rfl ?_
  refine ks_llen ha0 d_X3_clear_4 rfl ?_
  refine ka_icmp_ge (tgt := 18) d_X3_clear_5 (by decide) rfl (fun c1 => ?_) (fun c1 => ?_)
  · exact ks_vret d_X3_clear_18 rfl (r2 c1)
  · refine ka_aload_n d_X3_clear_8 rfl rfl 0 rfl ?_
    refine ka_iload_n d_X3_clear_9 rfl rfl 1 rfl ?_
    refine ka_lconst (v := 0) d_X3_clear_10 rfl (by decide) ?_
    refine ks_last ha0 d_X3_clear_11 rfl (v3 c1) ?_
    refine ka_iinc (g := 1) (v := x1 + 1) (ls' := [(1, .int (x1 + 1)), (0, .ref a0)]) d_X3_clear_12 rfl rfl rfl (by decide) rfl ?_
    refine ka_goto (q := 2) d_X3_clear_15 (by decide) ?_
    refine ka_sub [1, 0] rfl ?_
    exact (k4 c1)
theorem d_X3_lengthOfLimb_0 : decode cX3_lengthOfLimb 0 = .ok (.iconst 0, 1) := by decide +kernel
theorem d_X3_lengthOfLimb_1 : decode cX3_lengthOfLimb 1 = .ok (.istore_n 2, 1) := by decide +kernel
theorem d_X3_lengthOfLimb_2 : decode cX3_lengthOfLimb 2 = .ok (.iload_n 2, 1) := by decide +kernel
theorem d_X3_lengthOfLimb_3 : decode cX3_lengthOfLimb 3 = .ok (.bipush 64, 2) := by decide +kernel
theorem d_X3_lengthOfLimb_5 : decode cX3_lengthOfLimb 5 = .ok (.if_icmp .ge 17, 3) := by decide +kernel
theorem d_X3_lengthOfLimb_8 : decode cX3_lengthOfLimb 8 = .ok (.lload_n 0, 1) := by decide +kernel
theorem d_X3_lengthOfLimb_9 : decode cX3_lengthOfLimb 9 = .ok (.iload_n 2, 1) := by decide +kernel
theorem d_X3_lengthOfLimb_10 : decode cX3_lengthOfLimb 10 = .ok (.lushr, 1) := by decide +kernel
theorem d_X3_lengthOfLimb_11 : decode cX3_lengthOfLimb 11 = .ok (.lconst 0, 1) := by decide +kernel
theorem d_X3_lengthOfLimb_12 : decode cX3_lengthOfLimb 12 = .ok (.lcmp, 1) := by decide +kernel
theorem d_X3_lengthOfLimb_13 : decode cX3_lengthOfLimb 13 = .ok (.ifCond .eq 9, 3) := by decide +kernel
theorem d_X3_lengthOfLimb_16 : decode cX3_lengthOfLimb 16 = .ok (.iinc 2 1, 3) := by decide +kernel
theorem d_X3_lengthOfLimb_19 : decode cX3_lengthOfLimb 19 = .ok (.goto (-17), 3) := by decide +kernel
theorem d_X3_lengthOfLimb_22 : decode cX3_lengthOfLimb 22 = .ok (.iload_n 2, 1) := by decide +kernel
theorem d_X3_lengthOfLimb_23 : decode cX3_lengthOfLimb 23 = .ok (.ireturn, 1) := by decide +kernel
theorem sg_X3_lengthOfLimb_0 {L : Nat} {xs : Nat → Int32} {σ : ks_St} {mc ms : Nat} {P : ka_O → ks_St → Prop} {x0 : Int64}  (k1 : ks_W L xs mX3_lengthOfLimb rm_X3_lengthOfLimb 2 [(0, .long x0), (2, .int 0)] [] σ mc ms P) : ks_W L xs mX3_lengthOfLimb rm_X3_lengthOfLimb 0 [(0, .long x0)] [] σ mc ms P := by
  refine ka_iconst (v := 0) d_X3_lengthOfLimb_0 rfl (by decide) ?_
  refine ka_istore_n (ls' := [(2, .int 0), (0, .long x0)]) d_X3_lengthOfLimb_1 rfl rfl (by decide) rfl ?_
  refine ka_sub [1, 0] rfl ?_
  exact k1
theorem sg_X3_lengthOfLimb_2 {L : Nat} {xs : Nat → Int32} {σ : ks_St} {mc ms : Nat} {P : ka_O → ks_St → Prop} {x0 : Int64} {x2 : Int32}  (k2 : (64 ≤ x2) → ks_W L xs mX3_lengthOfLimb rm_X3_lengthOfLimb 22 [(2, .int x2)] [] σ mc ms P) (k4 : (¬ (64 ≤ x2)) → ((lg_cmp (((x0).toUInt64 >>> ((x2).toInt64.toUInt64 &&& Int64.toUInt64 63)).toInt64) 0) = 0) → ks_W L xs mX3_lengthOfLimb rm_X3_lengthOfLimb 22 [(2, .int x2)] [] σ mc ms P) (k5 : (¬ (64 ≤ x2)) → (¬ ((lg_cmp (((x0).toUInt64 >>> ((x2).toInt64.toUInt64 &&& Int64.toUInt64 63)).toInt64) 0) = 0)) → ks_W L xs mX3_lengthOfLimb rm_X3_lengthOfLimb 2 [(0, .long x0), (2, .int (x2 + 1))] [] σ mc ms P) : ks_W L xs mX3_lengthOfLimb rm_X3_lengthOfLimb 2 [(0, .long x0), (2, .int x2)] [] σ mc ms P := by
  refine ka_iload_n d_X3_lengthOfLimb_2 rfl rfl 1 rfl ?_
  refine ka_bipush (v := 64) d_X3_lengthOfLimb_3 rfl (by decide) ?_
  refine ka_icmp_ge (tgt := 22) d_X3_lengthOfLimb_5 (by decide) rfl (fun c1 => ?_) (fun c1 => ?_)
  · refine ka_sub [1] rfl ?_
    exact (k2 c1)
  · refine ka_lload_n d_X3_lengthOfLimb_8 rfl rfl 0 rfl ?_
    refine ka_iload_n d_X3_lengthOfLimb_9 rfl rfl 1 rfl ?_
    refine ka_lushr d_X3_lengthOfLimb_10 rfl ?_
    refine ka_lconst (v := 0) d_X3_lengthOfLimb_11 rfl (by decide) ?_
    refine ka_lcmp d_X3_lengthOfLimb_12 rfl ?_
    refine ka_if_eq (tgt := 22) d_X3_lengthOfLimb_13 (by decide) rfl (fun c3 => ?_) (fun c3 => ?_)
    · refine ka_sub [1] rfl ?_
      exact (k4 c1 c3)
    · refine ka_iinc (g := 1) (v := x2 + 1) (ls' := [(2, .int (x2 + 1)), (0, .long x0)]) d_X3_lengthOfLimb_16 rfl rfl rfl (by decide) rfl ?_
      refine ka_goto (q := 2) d_X3_lengthOfLimb_19 (by decide) ?_
      refine ka_sub [1, 0] rfl ?_
      exact (k5 c1 c3)
theorem sg_X3_lengthOfLimb_22 {L : Nat} {xs : Nat → Int32} {σ : ks_St} {mc ms : Nat} {P : ka_O → ks_St → Prop} {x2 : Int32}  (r1 : P (.inl (some (.int x2))) σ) : ks_W L xs mX3_lengthOfLimb rm_X3_lengthOfLimb 22 [(2, .int x2)] [] σ mc ms P := by
  refine ka_iload_n d_X3_lengthOfLimb_22 rfl rfl 0 rfl ?_
  exact ks_iret (ty := .int) d_X3_lengthOfLimb_23 rfl rfl r1
theorem d_X3_lengthOf_0 : decode cX3_lengthOf 0 = .ok (.aload_n 0, 1) := by decide +kernel
theorem d_X3_lengthOf_1 : decode cX3_lengthOf 1 = .ok (.arraylength, 1) := by decide +kernel
theorem d_X3_lengthOf_2 : decode cX3_lengthOf 2 = .ok (.iconst 1, 1) := by decide +kernel
theorem d_X3_lengthOf_3 : decode cX3_lengthOf 3 = .ok (.isub, 1) := by decide +kernel
theorem d_X3_lengthOf_4 : decode cX3_lengthOf 4 = .ok (.istore_n 1, 1) := by decide +kernel
theorem d_X3_lengthOf_5 : decode cX3_lengthOf 5 = .ok (.iload_n 1, 1) := by decide +kernel
theorem d_X3_lengthOf_6 : decode cX3_lengthOf 6 = .ok (.ifCond .lt 29, 3) := by decide +kernel
theorem d_X3_lengthOf_9 : decode cX3_lengthOf 9 = .ok (.aload_n 0, 1) := by decide +kernel
theorem d_X3_lengthOf_10 : decode cX3_lengthOf 10 = .ok (.iload_n 1, 1) := by decide +kernel
theorem d_X3_lengthOf_11 : decode cX3_lengthOf 11 = .ok (.laload, 1) := by decide +kernel
theorem d_X3_lengthOf_12 : decode cX3_lengthOf 12 = .ok (.lconst 0, 1) := by decide +kernel
theorem d_X3_lengthOf_13 : decode cX3_lengthOf 13 = .ok (.lcmp, 1) := by decide +kernel
theorem d_X3_lengthOf_14 : decode cX3_lengthOf 14 = .ok (.ifCond .eq 15, 3) := by decide +kernel
theorem d_X3_lengthOf_17 : decode cX3_lengthOf 17 = .ok (.iload_n 1, 1) := by decide +kernel
theorem d_X3_lengthOf_18 : decode cX3_lengthOf 18 = .ok (.bipush 64, 2) := by decide +kernel
theorem d_X3_lengthOf_20 : decode cX3_lengthOf 20 = .ok (.imul, 1) := by decide +kernel
theorem d_X3_lengthOf_21 : decode cX3_lengthOf 21 = .ok (.aload_n 0, 1) := by decide +kernel
theorem d_X3_lengthOf_22 : decode cX3_lengthOf 22 = .ok (.iload_n 1, 1) := by decide +kernel
theorem d_X3_lengthOf_23 : decode cX3_lengthOf 23 = .ok (.laload, 1) := by decide +kernel
theorem d_X3_lengthOf_24 : decode cX3_lengthOf 24 = .ok (.invokestatic 30, 3) := by decide +kernel
theorem d_X3_lengthOf_27 : decode cX3_lengthOf 27 = .ok (.iadd, 1) := by decide +kernel
theorem d_X3_lengthOf_28 : decode cX3_lengthOf 28 = .ok (.ireturn, 1) := by decide +kernel
theorem d_X3_lengthOf_29 : decode cX3_lengthOf 29 = .ok (.iinc 1 (-1), 3) := by decide +kernel
theorem d_X3_lengthOf_32 : decode cX3_lengthOf 32 = .ok (.goto (-27), 3) := by decide +kernel
theorem d_X3_lengthOf_35 : decode cX3_lengthOf 35 = .ok (.iconst 0, 1) := by decide +kernel
theorem d_X3_lengthOf_36 : decode cX3_lengthOf 36 = .ok (.ireturn, 1) := by decide +kernel
theorem sg_X3_lengthOf_0 {L : Nat} {xs : Nat → Int32} {σ : ks_St} {mc ms : Nat} {P : ka_O → ks_St → Prop} {a0 na0 : Nat} (ha0 : rl_ a0 na0) (k1 : ks_W L xs mX3_lengthOf rm_X3_lengthOf 5 [(0, .ref a0), (1, .int ((nI na0) - 1))] [] σ mc ms P) : ks_W L xs mX3_lengthOf rm_X3_lengthOf 0 [(0, .ref a0)] [] σ mc ms P := by
  refine ka_aload_n d_X3_lengthOf_0 rfl rfl 0 rfl ?_
  refine ks_llen ha0 d_X3_lengthOf_1 rfl ?_
  refine ka_iconst (v := 1) d_X3_lengthOf_2 rfl (by decide) ?_
  refine ka_isub d_X3_lengthOf_3 rfl ?_
  refine ka_istore_n (ls' := [(1, .int ((nI na0) - 1)), (0, .ref a0)]) d_X3_lengthOf_4 rfl rfl (by decide) rfl ?_
  refine ka_sub [1, 0] rfl ?_
  exact k1
theorem sg_X3_lengthOf_5 {L : Nat} {xs : Nat → Int32} {σ : ks_St} {mc ms : Nat} {P : ka_O → ks_St → Prop} {a0 na0 : Nat} {x1 : Int32} (ha0 : rl_ a0 na0) (r2 : (x1 < 0) → P (.inl (some (.int 0))) σ) (v3 : (¬ (x1 < 0)) → vp_in x1 na0) (k5 : (¬ (x1 < 0)) → ((lg_cmp (sg_ σ a0 x1.toNatClampNeg) 0) = 0) → ks_W L xs mX3_lengthOf rm_X3_lengthOf 5 [(0, .ref a0), (1, .int (x1 + (-1)))] [] σ mc ms P) (v6 : (¬ (x1 < 0)) → (¬ ((lg_cmp (sg_ σ a0 x1.toNatClampNeg) 0) = 0)) → vp_in x1 na0) (k7 : (¬ (x1 < 0)) → (¬ ((lg_cmp (sg_ σ a0 x1.toNatClampNeg) 0) = 0)) → ks_W L xs mX3_lengthOf rm_X3_lengthOf 24 [] [.long (sg_ σ a0 x1.toNatClampNeg), .int (x1 * 64)] σ mc ms P) : ks_W L xs mX3_lengthOf rm_X3_lengthOf 5 [(0, .ref a0), (1, .int x1)] [] σ mc ms P := by
  refine ka_iload_n d_X3_lengthOf_5 rfl rfl 1 rfl ?_
  refine ka_if_lt (tgt := 35) d_X3_lengthOf_6 (by decide) rfl (fun c1 => ?_) (fun c1 => ?_)
  · refine ka_iconst (v := 0) d_X3_lengthOf_35 rfl (by decide) ?_
    exact ks_iret (ty := .int) d_X3_lengthOf_36 rfl rfl (r2 c1)
  · refine ka_aload_n d_X3_lengthOf_9 rfl rfl 0 rfl ?_
    refine ka_iload_n d_X3_lengthOf_10 rfl rfl 1 rfl ?_
    refine ks_lald ha0 d_X3_lengthOf_11 rfl (v3 c1) ?_
    refine ka_lconst (v := 0) d_X3_lengthOf_12 rfl (by decide) ?_
    refine ka_lcmp d_X3_lengthOf_13 rfl ?_
    refine ka_if_eq (tgt := 29) d_X3_lengthOf_14 (by decide) rfl (fun c4 => ?_) (fun c4 => ?_)
    · refine ka_iinc (g := 1) (v := x1 + (-1)) (ls' := [(1, .int (x1 + (-1))), (0, .ref a0)]) d_X3_lengthOf_29 rfl rfl rfl (by decide) rfl ?_
      refine ka_goto (q := 5) d_X3_lengthOf_32 (by decide) ?_
      refine ka_sub [1, 0] rfl ?_
      exact (k5 c1 c4)
    · refine ka_iload_n d_X3_lengthOf_17 rfl rfl 1 rfl ?_
      refine ka_bipush (v := 64) d_X3_lengthOf_18 rfl (by decide) ?_
      refine ka_imul d_X3_lengthOf_20 rfl ?_
      refine ka_aload_n d_X3_lengthOf_21 rfl rfl 0 rfl ?_
      refine ka_iload_n d_X3_lengthOf_22 rfl rfl 1 rfl ?_
      refine ks_lald ha0 d_X3_lengthOf_23 rfl (v6 c1 c4) ?_
      refine ka_sub [] rfl ?_
      exact (k7 c1 c4)
theorem cs_X3_lengthOf_24 {L : Nat} {xs : Nat → Int32} {σ : ks_St} {mc ms : Nat} {P : ka_O → ks_St → Prop} {f : Int32 → ks_St → Prop} {s0 : Int32} {s1 : Int64} (hK : ks_M L xs mX3_lengthOfLimb rm_X3_lengthOfLimb [.long s1] σ (pi_ f)) (kr : ∀ r σ', f r σ' → ks_W L xs mX3_lengthOf rm_X3_lengthOf 27 [] [.int r, .int s0] σ' mc ms P) : ks_W L xs mX3_lengthOf rm_X3_lengthOf 24 [] [.long s1, .int s0] σ mc ms P := by
  refine ks_callS (q := 27) (As := [.long s1]) (st := [.int s0]) d_X3_lengthOf_24 rfl rfl lk_X3_30 ⟨by decide, by decide⟩ (Nat.le_of_ble_eq_true rfl) ⟨Nat.le_refl _, Nat.le_refl _⟩ hK (fun v σ' hq => ?_) (fun E σ' hq => ?_)
  · obtain ⟨r, e, hf⟩ := hq; cases e; exact kr r σ' hf
  · obtain ⟨r, e, hf⟩ := hq; cases e
theorem sg_X3_lengthOf_27 {L : Nat} {xs : Nat → Int32} {σ : ks_St} {mc ms : Nat} {P : ka_O → ks_St → Prop} {s0 : Int32} {s1 : Int32}  (r1 : P (.inl (some (.int (s0 + s1)))) σ) : ks_W L xs mX3_lengthOf rm_X3_lengthOf 27 [] [.int s1, .int s0] σ mc ms P := by
  refine ka_iadd d_X3_lengthOf_27 rfl ?_
  exact ks_iret (ty := .int) d_X3_lengthOf_28 rfl rfl r1
theorem d_X3_limbOrNought_0 : decode cX3_limbOrNought 0 = .ok (.iload_n 1, 1) := by decide +kernel
theorem d_X3_limbOrNought_1 : decode cX3_limbOrNought 1 = .ok (.ifCond .lt 15, 3) := by decide +kernel
theorem d_X3_limbOrNought_4 : decode cX3_limbOrNought 4 = .ok (.iload_n 1, 1) := by decide +kernel
theorem d_X3_limbOrNought_5 : decode cX3_limbOrNought 5 = .ok (.aload_n 0, 1) := by decide +kernel
theorem d_X3_limbOrNought_6 : decode cX3_limbOrNought 6 = .ok (.arraylength, 1) := by decide +kernel
theorem d_X3_limbOrNought_7 : decode cX3_limbOrNought 7 = .ok (.if_icmp .ge 9, 3) := by decide +kernel
theorem d_X3_limbOrNought_10 : decode cX3_limbOrNought 10 = .ok (.aload_n 0, 1) := by decide +kernel
theorem d_X3_limbOrNought_11 : decode cX3_limbOrNought 11 = .ok (.iload_n 1, 1) := by decide +kernel
theorem d_X3_limbOrNought_12 : decode cX3_limbOrNought 12 = .ok (.laload, 1) := by decide +kernel
theorem d_X3_limbOrNought_13 : decode cX3_limbOrNought 13 = .ok (.goto 4, 3) := by decide +kernel
theorem d_X3_limbOrNought_16 : decode cX3_limbOrNought 16 = .ok (.lconst 0, 1) := by decide +kernel
theorem d_X3_limbOrNought_17 : decode cX3_limbOrNought 17 = .ok (.lreturn, 1) := by decide +kernel
theorem sg_X3_limbOrNought_0 {L : Nat} {xs : Nat → Int32} {σ : ks_St} {mc ms : Nat} {P : ka_O → ks_St → Prop} {a0 na0 : Nat} {x1 : Int32} (ha0 : rl_ a0 na0) (k2 : (x1 < 0) → ks_W L xs mX3_limbOrNought rm_X3_limbOrNought 16 [] [] σ mc ms P) (k4 : (¬ (x1 < 0)) → ((nI na0) ≤ x1) → ks_W L xs mX3_limbOrNought rm_X3_limbOrNought 16 [] [] σ mc ms P) (v5 : (¬ (x1 < 0)) → (¬ ((nI na0) ≤ x1)) → vp_in x1 na0) (k6 : (¬ (x1 < 0)) → (¬ ((nI na0) ≤ x1)) → ks_W L xs mX3_limbOrNought rm_X3_limbOrNought 17 [] [.long (sg_ σ a0 x1.toNatClampNeg)] σ mc ms P) : ks_W L xs mX3_limbOrNought rm_X3_limbOrNought 0 [(0, .ref a0), (1, .int x1)] [] σ mc ms P := by
  refine ka_iload_n d_X3_limbOrNought_0 rfl rfl 1 rfl ?_
  refine ka_if_lt (tgt := 16) d_X3_limbOrNought_1 (by decide) rfl (fun c1 => ?_) (fun c1 => ?_)
  · refine ka_sub [] rfl ?_
    exact (k2 c1)
  · refine ka_iload_n d_X3_limbOrNought_4 rfl rfl 1 rfl ?_
    refine ka_aload_n d_X3_limbOrNought_5 rfl rfl 0 rfl ?_
    refine ks_llen ha0 d_X3_limbOrNought_6 rfl ?_
    refine ka_icmp_ge (tgt := 16) d_X3_limbOrNought_7 (by decide) rfl (fun c3 => ?_) (fun c3 => ?_)
    · refine ka_sub [] rfl ?_
      exact (k4 c1 c3)
    · refine ka_aload_n d_X3_limbOrNought_10 rfl rfl 0 rfl ?_
      refine ka_iload_n d_X3_limbOrNought_11 rfl rfl 1 rfl ?_
      refine ks_lald ha0 d_X3_limbOrNought_12 rfl (v5 c1 c3) ?_
      refine ka_goto (q := 17) d_X3_limbOrNought_13 (by decide) ?_
      refine ka_sub [] rfl ?_
      exact (k6 c1 c3)
theorem sg_X3_limbOrNought_16 {L : Nat} {xs : Nat → Int32} {σ : ks_St} {mc ms : Nat} {P : ka_O → ks_St → Prop}   (k1 : ks_W L xs mX3_limbOrNought rm_X3_limbOrNought 17 [] [.long 0] σ mc ms P) : ks_W L xs mX3_limbOrNought rm_X3_limbOrNought 16 [] [] σ mc ms P := by
  refine ka_lconst (v := 0) d_X3_limbOrNought_16 rfl (by decide) ?_
  exact k1
theorem sg_X3_limbOrNought_17 {L : Nat} {xs : Nat → Int32} {σ : ks_St} {mc ms : Nat} {P : ka_O → ks_St → Prop} {s0 : Int64}  (r1 : P (.inl (some (.long s0))) σ) : ks_W L xs mX3_limbOrNought rm_X3_limbOrNought 17 [] [.long s0] σ mc ms P := by
  exact ks_lret d_X3_limbOrNought_17 rfl r1
theorem d_X3_bitsFrom_0 : decode cX3_bitsFrom 0 = .ok (.iload_n 1, 1) := by decide +kernel
theorem d_X3_bitsFrom_1 : decode cX3_bitsFrom 1 = .ok (.bipush 6, 2) := by decide +kernel
theorem d_X3_bitsFrom_3 : decode cX3_bitsFrom 3 = .ok (.ishr, 1) := by decide +kernel
theorem d_X3_bitsFrom_4 : decode cX3_bitsFrom 4 = .ok (.istore_n 2, 1) := by decide +kernel
theorem d_X3_bitsFrom_5 : decode cX3_bitsFrom 5 = .ok (.iload_n 1, 1) := by decide +kernel
theorem d_X3_bitsFrom_6 : decode cX3_bitsFrom 6 = .ok (.bipush 63, 2) := by decide +kernel
theorem d_X3_bitsFrom_8 : decode cX3_bitsFrom 8 = .ok (.iand, 1) := by decide +kernel
theorem d_X3_bitsFrom_9 : decode cX3_bitsFrom 9 = .ok (.istore_n 3, 1) := by decide +kernel
theorem d_X3_bitsFrom_10 : decode cX3_bitsFrom 10 = .ok (.aload_n 0, 1) := by decide +kernel
theorem d_X3_bitsFrom_11 : decode cX3_bitsFrom 11 = .ok (.iload_n 2, 1) := by decide +kernel
theorem d_X3_bitsFrom_12 : decode cX3_bitsFrom 12 = .ok (.invokestatic 17, 3) := by decide +kernel
theorem d_X3_bitsFrom_15 : decode cX3_bitsFrom 15 = .ok (.iload_n 3, 1) := by decide +kernel
theorem d_X3_bitsFrom_16 : decode cX3_bitsFrom 16 = .ok (.lushr, 1) := by decide +kernel
theorem d_X3_bitsFrom_17 : decode cX3_bitsFrom 17 = .ok (.lstore 4, 2) := by decide +kernel
theorem d_X3_bitsFrom_19 : decode cX3_bitsFrom 19 = .ok (.iload_n 3, 1) := by decide +kernel
theorem d_X3_bitsFrom_20 : decode cX3_bitsFrom 20 = .ok (.ifCond .ne 8, 3) := by decide +kernel
theorem d_X3_bitsFrom_23 : decode cX3_bitsFrom 23 = .ok (.lload 4, 2) := by decide +kernel
theorem d_X3_bitsFrom_25 : decode cX3_bitsFrom 25 = .ok (.goto 18, 3) := by decide +kernel
theorem d_X3_bitsFrom_28 : decode cX3_bitsFrom 28 = .ok (.lload 4, 2) := by decide +kernel
theorem d_X3_bitsFrom_30 : decode cX3_bitsFrom 30 = .ok (.aload_n 0, 1) := by decide +kernel
theorem d_X3_bitsFrom_31 : decode cX3_bitsFrom 31 = .ok (.iload_n 2, 1) := by decide +kernel
theorem d_X3_bitsFrom_32 : decode cX3_bitsFrom 32 = .ok (.iconst 1, 1) := by decide +kernel
theorem d_X3_bitsFrom_33 : decode cX3_bitsFrom 33 = .ok (.iadd, 1) := by decide +kernel
theorem d_X3_bitsFrom_34 : decode cX3_bitsFrom 34 = .ok (.invokestatic 17, 3) := by decide +kernel
theorem d_X3_bitsFrom_37 : decode cX3_bitsFrom 37 = .ok (.bipush 64, 2) := by decide +kernel
theorem d_X3_bitsFrom_39 : decode cX3_bitsFrom 39 = .ok (.iload_n 3, 1) := by decide +kernel
theorem d_X3_bitsFrom_40 : decode cX3_bitsFrom 40 = .ok (.isub, 1) := by decide +kernel
theorem d_X3_bitsFrom_41 : decode cX3_bitsFrom 41 = .ok (.lshl, 1) := by decide +kernel
theorem d_X3_bitsFrom_42 : decode cX3_bitsFrom 42 = .ok (.lor, 1) := by decide +kernel
theorem d_X3_bitsFrom_43 : decode cX3_bitsFrom 43 = .ok (.lreturn, 1) := by decide +kernel
theorem sg_X3_bitsFrom_0 {L : Nat} {xs : Nat → Int32} {σ : ks_St} {mc ms : Nat} {P : ka_O → ks_St → Prop} {a0 na0 : Nat} {x1 : Int32} (ha0 : rl_ a0 na0) (k1 : ks_W L xs mX3_bitsFrom rm_X3_bitsFrom 12 [(0, .ref a0), (2, .int (x1 >>> ((6 : Int32) &&& 31))), (3, .int (x1 &&& 63))] [.int (x1 >>> ((6 : Int32) &&& 31)), .ref a0] σ mc ms P) : ks_W L xs mX3_bitsFrom rm_X3_bitsFrom 0 [(0, .ref a0), (1, .int x1)] [] σ mc ms P := by
  refine ka_iload_n d_X3_bitsFrom_0 rfl rfl 1 rfl ?_
  refine ka_bipush (v := 6) d_X3_bitsFrom_1 rfl (by decide) ?_
  refine ka_ishr d_X3_bitsFrom_3 rfl ?_
  refine ka_istore_n (ls' := [(2, .int (x1 >>> ((6 : Int32) &&& 31))), (0, .ref a0), (1, .int x1)]) d_X3_bitsFrom_4 rfl rfl (by decide) rfl ?_
  refine ka_iload_n d_X3_bitsFrom_5 rfl rfl 2 rfl ?_
  refine ka_bipush (v := 63) d_X3_bitsFrom_6 rfl (by decide) ?_
  refine ka_iand d_X3_bitsFrom_8 rfl ?_
  refine ka_istore_n (ls' := [(3, .int (x1 &&& 63)), (2, .int (x1 >>> ((6 : Int32) &&& 31))), (0, .ref a0), (1, .int x1)]) d_X3_bitsFrom_9 rfl rfl (by decide) rfl ?_
  refine ka_aload_n d_X3_bitsFrom_10 rfl rfl 2 rfl ?_
  refine ka_iload_n d_X3_bitsFrom_11 rfl rfl 1 rfl ?_
  refine ka_sub [2, 1, 0] rfl ?_
  exact k1
theorem cs_X3_bitsFrom_12 {L : Nat} {xs : Nat → Int32} {σ : ks_St} {mc ms : Nat} {P : ka_O → ks_St → Prop} {f : Int64 → ks_St → Prop} {a0 : Nat} {x2 : Int32} {x3 : Int32} {s1 : Int32} (hK : ks_M L xs mX3_limbOrNought rm_X3_limbOrNought [.ref a0, .int s1] σ (pl_ f)) (kr : ∀ r σ', f r σ' → ks_W L xs mX3_bitsFrom rm_X3_bitsFrom 15 [(0, .ref a0), (2, .int x2), (3, .int x3)] [.long r] σ' mc ms P) : ks_W L xs mX3_bitsFrom rm_X3_bitsFrom 12 [(0, .ref a0), (2, .int x2), (3, .int x3)] [.int s1, .ref a0] σ mc ms P := by
  refine ks_callS (q := 15) (As := [.ref a0, .int s1]) (st := []) d_X3_bitsFrom_12 rfl rfl lk_X3_17 ⟨by decide, by decide⟩ (Nat.le_of_ble_eq_true rfl) ⟨Nat.le_refl _, Nat.le_refl _⟩ hK (fun v σ' hq => ?_) (fun E σ' hq => ?_)
  · obtain ⟨r, e, hf⟩ := hq; cases e; exact kr r σ' hf
  · obtain ⟨r, e, hf⟩ := hq; cases e
theorem sg_X3_bitsFrom_15 {L : Nat} {xs : Nat → Int32} {σ : ks_St} {mc ms : Nat} {P : ka_O → ks_St → Prop} {a0 na0 : Nat} {x2 : Int32} {x3 : Int32} {s0 : Int64} (ha0 : rl_ a0 na0) (k2 : (¬ x3 = 0) → ks_W L xs mX3_bitsFrom rm_X3_bitsFrom 34 [(3, .int x3)] [.int (x2 + 1), .ref a0, .long (((s0).toUInt64 >>> ((x3).toInt64.toUInt64 &&& Int64.toUInt64 63)).toInt64)] σ mc ms P) (k3 : (x3 = 0) → ks_W L xs mX3_bitsFrom rm_X3_bitsFrom 43 [] [.long (((s0).toUInt64 >>> ((x3).toInt64.toUInt64 &&& Int64.toUInt64 63)).toInt64)] σ mc ms P) : ks_W L xs mX3_bitsFrom rm_X3_bitsFrom 15 [(0, .ref a0), (2, .int x2), (3, .int x3)] [.long s0] σ mc ms P := by
  refine ka_iload_n d_X3_bitsFrom_15 rfl rfl 2 rfl ?_
  refine ka_lushr d_X3_bitsFrom_16 rfl ?_
  refine ka_lstore (ls' := [(4, .long (((s0).toUInt64 >>> ((x3).toInt64.toUInt64 &&& Int64.toUInt64 63)).toInt64)), (0, .ref a0), (2, .int x2), (3, .int x3)]) d_X3_bitsFrom_17 rfl (by decide) rfl ?_
  refine ka_iload_n d_X3_bitsFrom_19 rfl rfl 3 rfl ?_
  refine ka_if_ne (tgt := 28) d_X3_bitsFrom_20 (by decide) rfl (fun c1 => ?_) (fun c1 => ?_)
  · refine ka_lload d_X3_bitsFrom_28 rfl 0 rfl ?_
    refine ka_aload_n d_X3_bitsFrom_30 rfl rfl 1 rfl ?_
    refine ka_iload_n d_X3_bitsFrom_31 rfl rfl 2 rfl ?_
    refine ka_iconst (v := 1) d_X3_bitsFrom_32 rfl (by decide) ?_
    refine ka_iadd d_X3_bitsFrom_33 rfl ?_
    refine ka_sub [3] rfl ?_
    exact (k2 c1)
  · refine ka_lload d_X3_bitsFrom_23 rfl 0 rfl ?_
    refine ka_goto (q := 43) d_X3_bitsFrom_25 (by decide) ?_
    refine ka_sub [] rfl ?_
    exact (k3 c1)
theorem cs_X3_bitsFrom_34 {L : Nat} {xs : Nat → Int32} {σ : ks_St} {mc ms : Nat} {P : ka_O → ks_St → Prop} {f : Int64 → ks_St → Prop} {x3 : Int32} {s0 : Int64} {a0 : Nat} {s2 : Int32} (hK : ks_M L xs mX3_limbOrNought rm_X3_limbOrNought [.ref a0, .int s2] σ (pl_ f)) (kr : ∀ r σ', f r σ' → ks_W L xs mX3_bitsFrom rm_X3_bitsFrom 37 [(3, .int x3)] [.long r, .long s0] σ' mc ms P) : ks_W L xs mX3_bitsFrom rm_X3_bitsFrom 34 [(3, .int x3)] [.int s2, .ref a0, .long s0] σ mc ms P := by
  refine ks_callS (q := 37) (As := [.ref a0, .int s2]) (st := [.long s0]) d_X3_bitsFrom_34 rfl rfl lk_X3_17 ⟨by decide, by decide⟩ (Nat.le_of_ble_eq_true rfl) ⟨Nat.le_refl _, Nat.le_refl _⟩ hK (fun v σ' hq => ?_) (fun E σ' hq => ?_)
  · obtain ⟨r, e, hf⟩ := hq; cases e; exact kr r σ' hf
  · obtain ⟨r, e, hf⟩ := hq; cases e
theorem sg_X3_bitsFrom_37 {L : Nat} {xs : Nat → Int32} {σ : ks_St} {mc ms : Nat} {P : ka_O → ks_St → Prop} {x3 : Int32} {s0 : Int64} {s1 : Int64}  (k1 : ks_W L xs mX3_bitsFrom rm_X3_bitsFrom 43 [] [.long (s0 ||| (s1 <<< (((64 - x3)).toInt64 &&& 63)))] σ mc ms P) : ks_W L xs mX3_bitsFrom rm_X3_bitsFrom 37 [(3, .int x3)] [.long s1, .long s0] σ mc ms P := by
  refine ka_bipush (v := 64) d_X3_bitsFrom_37 rfl (by decide) ?_
  refine ka_iload_n d_X3_bitsFrom_39 rfl rfl 0 rfl ?_
  refine ka_isub d_X3_bitsFrom_40 rfl ?_
  refine ka_lshl d_X3_bitsFrom_41 rfl ?_
  refine ka_lor d_X3_bitsFrom_42 rfl ?_
  refine ka_sub [] rfl ?_
  exact k1
theorem sg_X3_bitsFrom_43 {L : Nat} {xs : Nat → Int32} {σ : ks_St} {mc ms : Nat} {P : ka_O → ks_St → Prop} {s0 : Int64}  (r1 : P (.inl (some (.long s0))) σ) : ks_W L xs mX3_bitsFrom rm_X3_bitsFrom 43 [] [.long s0] σ mc ms P := by
  exact ks_lret d_X3_bitsFrom_43 rfl r1
theorem d_X3_moveUp_0 : decode cX3_moveUp 0 = .ok (.iconst 0, 1) := by decide +kernel
theorem d_X3_moveUp_1 : decode cX3_moveUp 1 = .ok (.istore_n 3, 1) := by decide +kernel
theorem d_X3_moveUp_2 : decode cX3_moveUp 2 = .ok (.iload_n 3, 1) := by decide +kernel
theorem d_X3_moveUp_3 : decode cX3_moveUp 3 = .ok (.aload_n 2, 1) := by decide +kernel
theorem d_X3_moveUp_4 : decode cX3_moveUp 4 = .ok (.arraylength, 1) := by decide +kernel
theorem d_X3_moveUp_5 : decode cX3_moveUp 5 = .ok (.if_icmp .ge 22, 3) := by decide +kernel
theorem d_X3_moveUp_8 : decode cX3_moveUp 8 = .ok (.aload_n 2, 1) := by decide +kernel
theorem d_X3_moveUp_9 : decode cX3_moveUp 9 = .ok (.iload_n 3, 1) := by decide +kernel
theorem d_X3_moveUp_10 : decode cX3_moveUp 10 = .ok (.aload_n 0, 1) := by decide +kernel
theorem d_X3_moveUp_11 : decode cX3_moveUp 11 = .ok (.iload_n 3, 1) := by decide +kernel
theorem d_X3_moveUp_12 : decode cX3_moveUp 12 = .ok (.bipush 64, 2) := by decide +kernel
theorem d_X3_moveUp_14 : decode cX3_moveUp 14 = .ok (.imul, 1) := by decide +kernel
theorem d_X3_moveUp_15 : decode cX3_moveUp 15 = .ok (.iload_n 1, 1) := by decide +kernel
theorem d_X3_moveUp_16 : decode cX3_moveUp 16 = .ok (.isub, 1) := by decide +kernel
theorem d_X3_moveUp_17 : decode cX3_moveUp 17 = .ok (.invokestatic 21, 3) := by decide +kernel
theorem d_X3_moveUp_20 : decode cX3_moveUp 20 = .ok (.lastore, 1) := by decide +kernel
theorem d_X3_moveUp_21 : decode cX3_moveUp 21 = .ok (.iinc 3 1, 3) := by decide +kernel
theorem d_X3_moveUp_24 : decode cX3_moveUp 24 = .ok (.goto (-22), 3) := by decide +kernel
theorem d_X3_moveUp_27 : decode cX3_moveUp 27 = .ok (.return_, 1) := by decide +kernel
theorem sg_X3_moveUp_0 {L : Nat} {xs : Nat → Int32} {σ : ks_St} {mc ms : Nat} {P : ka_O → ks_St → Prop} {a0 na0 : Nat} {x1 : Int32} {a2 na2 : Nat} (ha0 : rl_ a0 na0) (ha2 : rl_ a2 na2) (k1 : ks_W L xs mX3_moveUp rm_X3_moveUp 2 [(0, .ref a0), (1, .int x1), (2, .ref a2), (3, .int 0)] [] σ mc ms P) : ks_W L xs mX3_moveUp rm_X3_moveUp 0 [(0, .ref a0), (1, .int x1), (2, .ref a2)] [] σ mc ms P := by
  refine ka_iconst (v := 0) d_X3_moveUp_0 rfl (by decide) ?_
  refine ka_istore_n (ls' := [(3, .int 0), (0, .ref a0), (1, .int x1), (2, .ref a2)]) d_X3_moveUp_1 rfl rfl (by decide) rfl ?_
  refine ka_sub [1, 2, 3, 0] rfl ?_
  exact k1
theorem sg_X3_moveUp_2 {L : Nat} {xs : Nat → Int32} {σ : ks_St} {mc ms : Nat} {P : ka_O → ks_St → Prop} {a0 na0 : Nat} {x1 : Int32} {a2 na2 : Nat} {x3 : Int32} (ha0 : rl_ a0 na0) (ha2 : rl_ a2 na2) (r2 : ((nI na2) ≤ x3) → P (.inl none) σ) (k3 : (¬ ((nI na2) ≤ x3)) → ks_W L xs mX3_moveUp rm_X3_moveUp 17 [(0, .ref a0), (1, .int x1), (2, .ref a2), (3, .int x3)] [.int ((x3 * 64) - x1), .ref a0, .int x3, .ref a2] σ mc ms P) : ks_W L xs mX3_moveUp rm_X3_moveUp 2 [(0, .ref a0), (1, .int x1), (2, .ref a2), (3, .int x3)] [] σ mc ms P := by
  refine ka_iload_n d_X3_moveUp_2 rfl rfl 3 rfl ?_
  refine ka_aload_n d_X3_moveUp_3 rfl rfl 2 rfl ?_
  refine ks_llen ha2 d_X3_moveUp_4 rfl ?_
  refine ka_icmp_ge (tgt := 27) d_X3_moveUp_5 (by decide) rfl (fun c1 => ?_) (fun c1 => ?_)
  · exact ks_vret d_X3_moveUp_27 rfl (r2 c1)
  · refine ka_aload_n d_X3_moveUp_8 rfl rfl 2 rfl ?_
    refine ka_iload_n d_X3_moveUp_9 rfl rfl 3 rfl ?_
    refine ka_aload_n d_X3_moveUp_10 rfl rfl 0 rfl ?_
    refine ka_iload_n d_X3_moveUp_11 rfl rfl 3 rfl ?_
    refine ka_bipush (v := 64) d_X3_moveUp_12 rfl (by decide) ?_
    refine ka_imul d_X3_moveUp_14 rfl ?_
    refine ka_iload_n d_X3_moveUp_15 rfl rfl 1 rfl ?_
    refine ka_isub d_X3_moveUp_16 rfl ?_
    exact (k3 c1)
theorem cs_X3_moveUp_17 {L : Nat} {xs : Nat → Int32} {σ : ks_St} {mc ms : Nat} {P : ka_O → ks_St → Prop} {f : Int64 → ks_St → Prop} {a0 : Nat} {x1 : Int32} {a2 : Nat} {x3 : Int32} {s1 : Int32} {s3 : Int32} (hK : ks_M L xs mX3_bitsFrom rm_X3_bitsFrom [.ref a0, .int s3] σ (pl_ f)) (kr : ∀ r σ', f r σ' → ks_W L xs mX3_moveUp rm_X3_moveUp 20 [(0, .ref a0), (1, .int x1), (2, .ref a2), (3, .int x3)] [.long r, .int s1, .ref a2] σ' mc ms P) : ks_W L xs mX3_moveUp rm_X3_moveUp 17 [(0, .ref a0), (1, .int x1), (2, .ref a2), (3, .int x3)] [.int s3, .ref a0, .int s1, .ref a2] σ mc ms P := by
  refine ks_callS (q := 20) (As := [.ref a0, .int s3]) (st := [.int s1, .ref a2]) d_X3_moveUp_17 rfl rfl lk_X3_21 ⟨by decide, by decide⟩ (Nat.le_of_ble_eq_true rfl) ⟨Nat.le_refl _, Nat.le_refl _⟩ hK (fun v σ' hq => ?_) (fun E σ' hq => ?_)
  · obtain ⟨r, e, hf⟩ := hq; cases e; exact kr r σ' hf
  · obtain ⟨r, e, hf⟩ := hq; cases e
theorem sg_X3_moveUp_20 {L : Nat} {xs : Nat → Int32} {σ : ks_St} {mc ms : Nat} {P : ka_O → ks_St → Prop} {a0 na0 : Nat} {x1 : Int32} {a2 na2 : Nat} {x3 : Int32} {s1 : Int32} {s2 : Int64} (ha0 : rl_ a0 na0) (ha2 : rl_ a2 na2) (v1 : vp_in s1 na2) (k2 : ks_W L xs mX3_moveUp rm_X3_moveUp 2 [(0, .ref a0), (1, .int x1), (2, .ref a2), (3, .int (x3 + 1))] [] (ug_ σ a2 (vp_updL (sg_ σ a2) s1.toNatClampNeg s2)) mc ms P) : ks_W L xs mX3_moveUp rm_X3_moveUp 20 [(0, .ref a0), (1, .int x1), (2, .ref a2), (3, .int x3)] [.long s2, .int s1, .ref a2] σ mc ms P := by
  refine ks_last ha2 d_X3_moveUp_20 rfl v1 ?_
  refine ka_iinc (g := 3) (v := x3 + 1) (ls' := [(3, .int (x3 + 1)), (0, .ref a0), (1, .int x1), (2, .ref a2)]) d_X3_moveUp_21 rfl rfl rfl (by decide) rfl ?_
  refine ka_goto (q := 2) d_X3_moveUp_24 (by decide) ?_
  refine ka_sub [1, 2, 3, 0] rfl ?_
  exact k2
theorem d_X3_add_0 : decode cX3_add 0 = .ok (.lconst 0, 1) := by decide +kernel
theorem d_X3_add_1 : decode cX3_add 1 = .ok (.lstore_n 3, 1) := by decide +kernel
theorem d_X3_add_2 : decode cX3_add 2 = .ok (.iconst 0, 1) := by decide +kernel
theorem d_X3_add_3 : decode cX3_add 3 = .ok (.istore 5, 2) := by decide +kernel
theorem d_X3_add_5 : decode cX3_add 5 = .ok (.iload 5, 2) := by decide +kernel
theorem d_X3_add_7 : decode cX3_add 7 = .ok (.bipush 9, 2) := by decide +kernel
theorem d_X3_add_9 : decode cX3_add 9 = .ok (.if_icmp .ge 58, 3) := by decide +kernel
theorem d_X3_add_12 : decode cX3_add 12 = .ok (.aload_n 0, 1) := by decide +kernel
theorem d_X3_add_13 : decode cX3_add 13 = .ok (.iload 5, 2) := by decide +kernel
theorem d_X3_add_15 : decode cX3_add 15 = .ok (.laload, 1) := by decide +kernel
theorem d_X3_add_16 : decode cX3_add 16 = .ok (.lstore 6, 2) := by decide +kernel
theorem d_X3_add_18 : decode cX3_add 18 = .ok (.aload_n 1, 1) := by decide +kernel
theorem d_X3_add_19 : decode cX3_add 19 = .ok (.iload 5, 2) := by decide +kernel
theorem d_X3_add_21 : decode cX3_add 21 = .ok (.laload, 1) := by decide +kernel
theorem d_X3_add_22 : decode cX3_add 22 = .ok (.lstore 8, 2) := by decide +kernel
theorem d_X3_add_24 : decode cX3_add 24 = .ok (.lload 6, 2) := by decide +kernel
theorem d_X3_add_26 : decode cX3_add 26 = .ok (.lload 8, 2) := by decide +kernel
theorem d_X3_add_28 : decode cX3_add 28 = .ok (.ladd, 1) := by decide +kernel
theorem d_X3_add_29 : decode cX3_add 29 = .ok (.lload_n 3, 1) := by decide +kernel
theorem d_X3_add_30 : decode cX3_add 30 = .ok (.ladd, 1) := by decide +kernel
theorem d_X3_add_31 : decode cX3_add 31 = .ok (.lstore 10, 2) := by decide +kernel
theorem d_X3_add_33 : decode cX3_add 33 = .ok (.aload_n 2, 1) := by decide +kernel
theorem d_X3_add_34 : decode cX3_add 34 = .ok (.iload 5, 2) := by decide +kernel
theorem d_X3_add_36 : decode cX3_add 36 = .ok (.lload 10, 2) := by decide +kernel
theorem d_X3_add_38 : decode cX3_add 38 = .ok (.lastore, 1) := by decide +kernel
theorem d_X3_add_39 : decode cX3_add 39 = .ok (.lload 6, 2) := by decide +kernel
theorem d_X3_add_41 : decode cX3_add 41 = .ok (.lload 8, 2) := by decide +kernel
theorem d_X3_add_43 : decode cX3_add 43 = .ok (.land, 1) := by decide +kernel
theorem d_X3_add_44 : decode cX3_add 44 = .ok (.lload 6, 2) := by decide +kernel
theorem d_X3_add_46 : decode cX3_add 46 = .ok (.lload 8, 2) := by decide +kernel
theorem d_X3_add_48 : decode cX3_add 48 = .ok (.lor, 1) := by decide +kernel
theorem d_X3_add_49 : decode cX3_add 49 = .ok (.lload 10, 2) := by decide +kernel
theorem d_X3_add_51 : decode cX3_add 51 = .ok (.ldc2_w 9, 3) := by decide +kernel
theorem d_X3_add_54 : decode cX3_add 54 = .ok (.lxor, 1) := by decide +kernel
theorem d_X3_add_55 : decode cX3_add 55 = .ok (.land, 1) := by decide +kernel
theorem d_X3_add_56 : decode cX3_add 56 = .ok (.lor, 1) := by decide +kernel
theorem d_X3_add_57 : decode cX3_add 57 = .ok (.bipush 63, 2) := by decide +kernel
theorem d_X3_add_59 : decode cX3_add 59 = .ok (.lushr, 1) := by decide +kernel
theorem d_X3_add_60 : decode cX3_add 60 = .ok (.lstore_n 3, 1) := by decide +kernel
theorem d_X3_add_61 : decode cX3_add 61 = .ok (.iinc 5 1, 3) := by decide +kernel
theorem d_X3_add_64 : decode cX3_add 64 = .ok (.goto (-59), 3) := by decide +kernel
theorem d_X3_add_67 : decode cX3_add 67 = .ok (.return_, 1) := by decide +kernel
theorem sg_X3_add_0 {L : Nat} {xs : Nat → Int32} {σ : ks_St} {mc ms : Nat} {P : ka_O → ks_St → Prop} {a0 na0 : Nat} {a1 na1 : Nat} {a2 na2 : Nat} (ha0 : rl_ a0 na0) (ha1 : rl_ a1 na1) (ha2 : rl_ a2 na2) (k1 : ks_W L xs mX3_add rm_X3_add 5 [(0, .ref a0), (1, .ref a1), (2, .ref a2), (3, .long 0), (5, .int 0)] [] σ mc ms P) : ks_W L xs mX3_add rm_X3_add 0 [(0, .ref a0), (1, .ref a1), (2, .ref a2)] [] σ mc ms P := by
  refine ka_lconst (v := 0) d_X3_add_0 rfl (by decide) ?_
  refine ka_lstore_n (ls' := [(3, .long 0), (0, .ref a0), (1, .ref a1), (2, .ref a2)]) d_X3_add_1 rfl rfl (by decide) rfl ?_
  refine ka_iconst (v := 0) d_X3_add_2 rfl (by decide) ?_
  refine ka_istore (ls' := [(5, .int 0), (3, .long 0), (0, .ref a0), (1, .ref a1), (2, .ref a2)]) d_X3_add_3 rfl (by decide) rfl ?_
  refine ka_sub [2, 3, 4, 1, 0] rfl ?_
  exact k1
theorem sg_X3_add_5 {L : Nat} {xs : Nat → Int32} {σ : ks_St} {mc ms : Nat} {P : ka_O → ks_St → Prop} {a0 na0 : Nat} {a1 na1 : Nat} {a2 na2 : Nat} {x3 : Int64} {x5 : Int32} (ha0 : rl_ a0 na0) (ha1 : rl_ a1 na1) (ha2 : rl_ a2 na2) (r2 : (9 ≤ x5) → P (.inl none) σ) (v3 : (¬ (9 ≤ x5)) → vp_in x5 na0) (v4 : (¬ (9 ≤ x5)) → vp_in x5 na1) (v5 : (¬ (9 ≤ x5)) → vp_in x5 na2) (k6 : (¬ (9 ≤ x5)) → ks_W L xs mX3_add rm_X3_add 5 [(0, .ref a0), (1, .ref a1), (2, .ref a2), (3, .long ((((((sg_ σ a0 x5.toNatClampNeg) &&& (sg_ σ a1 x5.toNatClampNeg)) ||| (((sg_ σ a0 x5.toNatClampNeg) ||| (sg_ σ a1 x5.toNatClampNeg)) &&& ((((sg_ σ a0 x5.toNatClampNeg) + (sg_ σ a1 x5.toNatClampNeg)) + x3) ^^^ ((-1)))))).toUInt64 >>> (((63 : Int32)).toInt64.toUInt64 &&& Int64.toUInt64 63)).toInt64)), (5, .int (x5 + 1))] [] (ug_ σ a2 (vp_updL (sg_ σ a2) x5.toNatClampNeg (((sg_ σ a0 x5.toNatClampNeg) + (sg_ σ a1 x5.toNatClampNeg)) + x3))) mc ms P) : ks_W L xs mX3_add rm_X3_add 5 [(0, .ref a0), (1, .ref a1), (2, .ref a2), (3, .long x3), (5, .int x5)] [] σ mc ms P := by
  refine ka_iload d_X3_add_5 rfl 4 rfl ?_
  refine ka_bipush (v := 9) d_X3_add_7 rfl (by decide) ?_
  refine ka_icmp_ge (tgt := 67) d_X3_add_9 (by decide) rfl (fun c1 => ?_) (fun c1 => ?_)
  · exact ks_vret d_X3_add_67 rfl (r2 c1)
  · refine ka_aload_n d_X3_add_12 rfl rfl 0 rfl ?_
    refine ka_iload d_X3_add_13 rfl 4 rfl ?_
    refine ks_lald ha0 d_X3_add_15 rfl (v3 c1) ?_
    refine ka_lstore (ls' := [(6, .long (sg_ σ a0 x5.toNatClampNeg)), (0, .ref a0), (1, .ref a1), (2, .ref a2), (3, .long x3), (5, .int x5)]) d_X3_add_16 rfl (by decide) rfl ?_
    refine ka_aload_n d_X3_add_18 rfl rfl 2 rfl ?_
    refine ka_iload d_X3_add_19 rfl 5 rfl ?_
    refine ks_lald ha1 d_X3_add_21 rfl (v4 c1) ?_
    refine ka_lstore (ls' := [(8, .long (sg_ σ a1 x5.toNatClampNeg)), (6, .long (sg_ σ a0 x5.toNatClampNeg)), (0, .ref a0), (1, .ref a1), (2, .ref a2), (3, .long x3), (5, .int x5)]) d_X3_add_22 rfl (by decide) rfl ?_
    refine ka_lload d_X3_add_24 rfl 1 rfl ?_
    refine ka_lload d_X3_add_26 rfl 0 rfl ?_
    refine ka_ladd d_X3_add_28 rfl ?_
    refine ka_lload_n d_X3_add_29 rfl rfl 5 rfl ?_
    refine ka_ladd d_X3_add_30 rfl ?_
    refine ka_lstore (ls' := [(10, .long (((sg_ σ a0 x5.toNatClampNeg) + (sg_ σ a1 x5.toNatClampNeg)) + x3)), (8, .long (sg_ σ a1 x5.toNatClampNeg)), (6, .long (sg_ σ a0 x5.toNatClampNeg)), (0, .ref a0), (1, .ref a1), (2, .ref a2), (3, .long x3), (5, .int x5)]) d_X3_add_31 rfl (by decide) rfl ?_
    refine ka_aload_n d_X3_add_33 rfl rfl 5 rfl ?_
    refine ka_iload d_X3_add_34 rfl 7 rfl ?_
    refine ka_lload d_X3_add_36 rfl 0 rfl ?_
    refine ks_last ha2 d_X3_add_38 rfl (v5 c1) ?_
    refine ka_lload d_X3_add_39 rfl 2 rfl ?_
    refine ka_lload d_X3_add_41 rfl 1 rfl ?_
    refine ka_land d_X3_add_43 rfl ?_
    refine ka_lload d_X3_add_44 rfl 2 rfl ?_
    refine ka_lload d_X3_add_46 rfl 1 rfl ?_
    refine ka_lor d_X3_add_48 rfl ?_
    refine ka_lload d_X3_add_49 rfl 0 rfl ?_
    refine ka_ldc2 (v := -1) d_X3_add_51 rfl kl_X3_9 ?_
    refine ka_lxor d_X3_add_54 rfl ?_
    refine ka_land d_X3_add_55 rfl ?_
    refine ka_lor d_X3_add_56 rfl ?_
    refine ka_bipush (v := 63) d_X3_add_57 rfl (by decide) ?_
    refine ka_lushr d_X3_add_59 rfl ?_
    refine ka_lstore_n (ls' := [(3, .long ((((((sg_ σ a0 x5.toNatClampNeg) &&& (sg_ σ a1 x5.toNatClampNeg)) ||| (((sg_ σ a0 x5.toNatClampNeg) ||| (sg_ σ a1 x5.toNatClampNeg)) &&& ((((sg_ σ a0 x5.toNatClampNeg) + (sg_ σ a1 x5.toNatClampNeg)) + x3) ^^^ ((-1)))))).toUInt64 >>> (((63 : Int32)).toInt64.toUInt64 &&& Int64.toUInt64 63)).toInt64)), (10, .long (((sg_ σ a0 x5.toNatClampNeg) + (sg_ σ a1 x5.toNatClampNeg)) + x3)), (8, .long (sg_ σ a1 x5.toNatClampNeg)), (6, .long (sg_ σ a0 x5.toNatClampNeg)), (0, .ref a0), (1, .ref a1), (2, .ref a2), (5, .int x5)]) d_X3_add_60 rfl rfl (by decide) rfl ?_
    refine ka_iinc (g := 7) (v := x5 + 1) (ls' := [(5, .int (x5 + 1)), (3, .long ((((((sg_ σ a0 x5.toNatClampNeg) &&& (sg_ σ a1 x5.toNatClampNeg)) ||| (((sg_ σ a0 x5.toNatClampNeg) ||| (sg_ σ a1 x5.toNatClampNeg)) &&& ((((sg_ σ a0 x5.toNatClampNeg) + (sg_ σ a1 x5.toNatClampNeg)) + x3) ^^^ ((-1)))))).toUInt64 >>> (((63 : Int32)).toInt64.toUInt64 &&& Int64.toUInt64 63)).toInt64)), (10, .long (((sg_ σ a0 x5.toNatClampNeg) + (sg_ σ a1 x5.toNatClampNeg)) + x3)), (8, .long (sg_ σ a1 x5.toNatClampNeg)), (6, .long (sg_ σ a0 x5.toNatClampNeg)), (0, .ref a0), (1, .ref a1), (2, .ref a2)]) d_X3_add_61 rfl rfl rfl (by decide) rfl ?_
    refine ka_goto (q := 5) d_X3_add_64 (by decide) ?_
    refine ka_sub [5, 6, 7, 1, 0] rfl ?_
    exact (k6 c1)
theorem d_X3_bitOrNought_0 : decode cX3_bitOrNought 0 = .ok (.aload_n 0, 1) := by decide +kernel
theorem d_X3_bitOrNought_1 : decode cX3_bitOrNought 1 = .ok (.iload_n 1, 1) := by decide +kernel
theorem d_X3_bitOrNought_2 : decode cX3_bitOrNought 2 = .ok (.bipush 6, 2) := by decide +kernel
theorem d_X3_bitOrNought_4 : decode cX3_bitOrNought 4 = .ok (.ishr, 1) := by decide +kernel
theorem d_X3_bitOrNought_5 : decode cX3_bitOrNought 5 = .ok (.invokestatic 17, 3) := by decide +kernel
theorem d_X3_bitOrNought_8 : decode cX3_bitOrNought 8 = .ok (.iload_n 1, 1) := by decide +kernel
theorem d_X3_bitOrNought_9 : decode cX3_bitOrNought 9 = .ok (.bipush 63, 2) := by decide +kernel
theorem d_X3_bitOrNought_11 : decode cX3_bitOrNought 11 = .ok (.iand, 1) := by decide +kernel
theorem d_X3_bitOrNought_12 : decode cX3_bitOrNought 12 = .ok (.lushr, 1) := by decide +kernel
theorem d_X3_bitOrNought_13 : decode cX3_bitOrNought 13 = .ok (.l2i, 1) := by decide +kernel
theorem d_X3_bitOrNought_14 : decode cX3_bitOrNought 14 = .ok (.iconst 1, 1) := by decide +kernel
theorem d_X3_bitOrNought_15 : decode cX3_bitOrNought 15 = .ok (.iand, 1) := by decide +kernel
theorem d_X3_bitOrNought_16 : decode cX3_bitOrNought 16 = .ok (.ireturn, 1) := by decide +kernel
theorem sg_X3_bitOrNought_0 {L : Nat} {xs : Nat → Int32} {σ : ks_St} {mc ms : Nat} {P : ka_O → ks_St → Prop} {a0 na0 : Nat} {x1 : Int32} (ha0 : rl_ a0 na0) (k1 : ks_W L xs mX3_bitOrNought rm_X3_bitOrNought 5 [(1, .int x1)] [.int (x1 >>> ((6 : Int32) &&& 31)), .ref a0] σ mc ms P) : ks_W L xs mX3_bitOrNought rm_X3_bitOrNought 0 [(0, .ref a0), (1, .int x1)] [] σ mc ms P := by
  refine ka_aload_n d_X3_bitOrNought_0 rfl rfl 0 rfl ?_
  refine ka_iload_n d_X3_bitOrNought_1 rfl rfl 1 rfl ?_
  refine ka_bipush (v := 6) d_X3_bitOrNought_2 rfl (by decide) ?_
  refine ka_ishr d_X3_bitOrNought_4 rfl ?_
  refine ka_sub [1] rfl ?_
  exact k1
theorem cs_X3_bitOrNought_5 {L : Nat} {xs : Nat → Int32} {σ : ks_St} {mc ms : Nat} {P : ka_O → ks_St → Prop} {f : Int64 → ks_St → Prop} {x1 : Int32} {a0 : Nat} {s1 : Int32} (hK : ks_M L xs mX3_limbOrNought rm_X3_limbOrNought [.ref a0, .int s1] σ (pl_ f)) (kr : ∀ r σ', f r σ' → ks_W L xs mX3_bitOrNought rm_X3_bitOrNought 8 [(1, .int x1)] [.long r] σ' mc ms P) : ks_W L xs mX3_bitOrNought rm_X3_bitOrNought 5 [(1, .int x1)] [.int s1, .ref a0] σ mc ms P := by
  refine ks_callS (q := 8) (As := [.ref a0, .int s1]) (st := []) d_X3_bitOrNought_5 rfl rfl lk_X3_17 ⟨by decide, by decide⟩ (Nat.le_of_ble_eq_true rfl) ⟨Nat.le_refl _, Nat.le_refl _⟩ hK (fun v σ' hq => ?_) (fun E σ' hq => ?_)
  · obtain ⟨r, e, hf⟩ := hq; cases e; exact kr r σ' hf
  · obtain ⟨r, e, hf⟩ := hq; cases e
theorem sg_X3_bitOrNought_8 {L : Nat} {xs : Nat → Int32} {σ : ks_St} {mc ms : Nat} {P : ka_O → ks_St → Prop} {x1 : Int32} {s0 : Int64}  (r1 : P (.inl (some (.int (((((s0).toUInt64 >>> (((x1 &&& 63)).toInt64.toUInt64 &&& Int64.toUInt64 63)).toInt64).toInt32) &&& 1)))) σ) : ks_W L xs mX3_bitOrNought rm_X3_bitOrNought 8 [(1, .int x1)] [.long s0] σ mc ms P := by
  refine ka_iload_n d_X3_bitOrNought_8 rfl rfl 0 rfl ?_
  refine ka_bipush (v := 63) d_X3_bitOrNought_9 rfl (by decide) ?_
  refine ka_iand d_X3_bitOrNought_11 rfl ?_
  refine ka_lushr d_X3_bitOrNought_12 rfl ?_
  refine ka_l2i d_X3_bitOrNought_13 rfl ?_
  refine ka_iconst (v := 1) d_X3_bitOrNought_14 rfl (by decide) ?_
  refine ka_iand d_X3_bitOrNought_15 rfl ?_
  exact ks_iret (ty := .int) d_X3_bitOrNought_16 rfl rfl r1
theorem d_X3_subtract_0 : decode cX3_subtract 0 = .ok (.lconst 0, 1) := by decide +kernel
theorem d_X3_subtract_1 : decode cX3_subtract 1 = .ok (.lstore_n 3, 1) := by decide +kernel
theorem d_X3_subtract_2 : decode cX3_subtract 2 = .ok (.iconst 0, 1) := by decide +kernel
theorem d_X3_subtract_3 : decode cX3_subtract 3 = .ok (.istore 5, 2) := by decide +kernel
theorem d_X3_subtract_5 : decode cX3_subtract 5 = .ok (.iload 5, 2) := by decide +kernel
theorem d_X3_subtract_7 : decode cX3_subtract 7 = .ok (.bipush 9, 2) := by decide +kernel
theorem d_X3_subtract_9 : decode cX3_subtract 9 = .ok (.if_icmp .ge 62, 3) := by decide +kernel
theorem d_X3_subtract_12 : decode cX3_subtract 12 = .ok (.aload_n 0, 1) := by decide +kernel
theorem d_X3_subtract_13 : decode cX3_subtract 13 = .ok (.iload 5, 2) := by decide +kernel
theorem d_X3_subtract_15 : decode cX3_subtract 15 = .ok (.laload, 1) := by decide +kernel
theorem d_X3_subtract_16 : decode cX3_subtract 16 = .ok (.lstore 6, 2) := by decide +kernel
theorem d_X3_subtract_18 : decode cX3_subtract 18 = .ok (.aload_n 1, 1) := by decide +kernel
theorem d_X3_subtract_19 : decode cX3_subtract 19 = .ok (.iload 5, 2) := by decide +kernel
theorem d_X3_subtract_21 : decode cX3_subtract 21 = .ok (.laload, 1) := by decide +kernel
theorem d_X3_subtract_22 : decode cX3_subtract 22 = .ok (.lstore 8, 2) := by decide +kernel
theorem d_X3_subtract_24 : decode cX3_subtract 24 = .ok (.lload 6, 2) := by decide +kernel
theorem d_X3_subtract_26 : decode cX3_subtract 26 = .ok (.lload 8, 2) := by decide +kernel
theorem d_X3_subtract_28 : decode cX3_subtract 28 = .ok (.lsub, 1) := by decide +kernel
theorem d_X3_subtract_29 : decode cX3_subtract 29 = .ok (.lload_n 3, 1) := by decide +kernel
theorem d_X3_subtract_30 : decode cX3_subtract 30 = .ok (.lsub, 1) := by decide +kernel
theorem d_X3_subtract_31 : decode cX3_subtract 31 = .ok (.lstore 10, 2) := by decide +kernel
theorem d_X3_subtract_33 : decode cX3_subtract 33 = .ok (.aload_n 2, 1) := by decide +kernel
theorem d_X3_subtract_34 : decode cX3_subtract 34 = .ok (.iload 5, 2) := by decide +kernel
theorem d_X3_subtract_36 : decode cX3_subtract 36 = .ok (.lload 10, 2) := by decide +kernel
theorem d_X3_subtract_38 : decode cX3_subtract 38 = .ok (.lastore, 1) := by decide +kernel
theorem d_X3_subtract_39 : decode cX3_subtract 39 = .ok (.lload 6, 2) := by decide +kernel
theorem d_X3_subtract_41 : decode cX3_subtract 41 = .ok (.ldc2_w 9, 3) := by decide +kernel
theorem d_X3_subtract_44 : decode cX3_subtract 44 = .ok (.lxor, 1) := by decide +kernel
theorem d_X3_subtract_45 : decode cX3_subtract 45 = .ok (.lload 8, 2) := by decide +kernel
theorem d_X3_subtract_47 : decode cX3_subtract 47 = .ok (.land, 1) := by decide +kernel
theorem d_X3_subtract_48 : decode cX3_subtract 48 = .ok (.lload 6, 2) := by decide +kernel
theorem d_X3_subtract_50 : decode cX3_subtract 50 = .ok (.ldc2_w 9, 3) := by decide +kernel
theorem d_X3_subtract_53 : decode cX3_subtract 53 = .ok (.lxor, 1) := by decide +kernel
theorem d_X3_subtract_54 : decode cX3_subtract 54 = .ok (.lload 8, 2) := by decide +kernel
theorem d_X3_subtract_56 : decode cX3_subtract 56 = .ok (.lor, 1) := by decide +kernel
theorem d_X3_subtract_57 : decode cX3_subtract 57 = .ok (.lload 10, 2) := by decide +kernel
theorem d_X3_subtract_59 : decode cX3_subtract 59 = .ok (.land, 1) := by decide +kernel
theorem d_X3_subtract_60 : decode cX3_subtract 60 = .ok (.lor, 1) := by decide +kernel
theorem d_X3_subtract_61 : decode cX3_subtract 61 = .ok (.bipush 63, 2) := by decide +kernel
theorem d_X3_subtract_63 : decode cX3_subtract 63 = .ok (.lushr, 1) := by decide +kernel
theorem d_X3_subtract_64 : decode cX3_subtract 64 = .ok (.lstore_n 3, 1) := by decide +kernel
theorem d_X3_subtract_65 : decode cX3_subtract 65 = .ok (.iinc 5 1, 3) := by decide +kernel
theorem d_X3_subtract_68 : decode cX3_subtract 68 = .ok (.goto (-63), 3) := by decide +kernel
theorem d_X3_subtract_71 : decode cX3_subtract 71 = .ok (.return_, 1) := by decide +kernel
theorem sg_X3_subtract_0 {L : Nat} {xs : Nat → Int32} {σ : ks_St} {mc ms : Nat} {P : ka_O → ks_St → Prop} {a0 na0 : Nat} {a1 na1 : Nat} {a2 na2 : Nat} (ha0 : rl_ a0 na0) (ha1 : rl_ a1 na1) (ha2 : rl_ a2 na2) (k1 : ks_W L xs mX3_subtract rm_X3_subtract 5 [(0, .ref a0), (1, .ref a1), (2, .ref a2), (3, .long 0), (5, .int 0)] [] σ mc ms P) : ks_W L xs mX3_subtract rm_X3_subtract 0 [(0, .ref a0), (1, .ref a1), (2, .ref a2)] [] σ mc ms P := by
  refine ka_lconst (v := 0) d_X3_subtract_0 rfl (by decide) ?_
  refine ka_lstore_n (ls' := [(3, .long 0), (0, .ref a0), (1, .ref a1), (2, .ref a2)]) d_X3_subtract_1 rfl rfl (by decide) rfl ?_
  refine ka_iconst (v := 0) d_X3_subtract_2 rfl (by decide) ?_
  refine ka_istore (ls' := [(5, .int 0), (3, .long 0), (0, .ref a0), (1, .ref a1), (2, .ref a2)]) d_X3_subtract_3 rfl (by decide) rfl ?_
  refine ka_sub [2, 3, 4, 1, 0] rfl ?_
  exact k1
theorem sg_X3_subtract_5 {L : Nat} {xs : Nat → Int32} {σ : ks_St} {mc ms : Nat} {P : ka_O → ks_St → Prop} {a0 na0 : Nat} {a1 na1 : Nat} {a2 na2 : Nat} {x3 : Int64} {x5 : Int32} (ha0 : rl_ a0 na0) (ha1 : rl_ a1 na1) (ha2 : rl_ a2 na2) (r2 : (9 ≤ x5) → P (.inl none) σ) (v3 : (¬ (9 ≤ x5)) → vp_in x5 na0) (v4 : (¬ (9 ≤ x5)) → vp_in x5 na1) (v5 : (¬ (9 ≤ x5)) → vp_in x5 na2) (k6 : (¬ (9 ≤ x5)) → ks_W L xs mX3_subtract rm_X3_subtract 5 [(0, .ref a0), (1, .ref a1), (2, .ref a2), (3, .long (((((((sg_ σ a0 x5.toNatClampNeg) ^^^ ((-1))) &&& (sg_ σ a1 x5.toNatClampNeg)) ||| ((((sg_ σ a0 x5.toNatClampNeg) ^^^ ((-1))) ||| (sg_ σ a1 x5.toNatClampNeg)) &&& (((sg_ σ a0 x5.toNatClampNeg) - (sg_ σ a1 x5.toNatClampNeg)) - x3)))).toUInt64 >>> (((63 : Int32)).toInt64.toUInt64 &&& Int64.toUInt64 63)).toInt64)), (5, .int (x5 + 1))] [] (ug_ σ a2 (vp_updL (sg_ σ a2) x5.toNatClampNeg (((sg_ σ a0 x5.toNatClampNeg) - (sg_ σ a1 x5.toNatClampNeg)) - x3))) mc ms P) : ks_W L xs mX3_subtract rm_X3_subtract 5 [(0, .ref a0), (1, .ref a1), (2, .ref a2), (3, .long x3), (5, .int x5)] [] σ mc ms P := by
  refine ka_iload d_X3_subtract_5 rfl 4 rfl ?_
  refine ka_bipush (v := 9) d_X3_subtract_7 rfl (by decide) ?_
  refine ka_icmp_ge (tgt := 71) d_X3_subtract_9 (by decide) rfl (fun c1 => ?_) (fun c1 => ?_)
  · exact ks_vret d_X3_subtract_71 rfl (r2 c1)
  · refine ka_aload_n d_X3_subtract_12 rfl rfl 0 rfl ?_
    refine ka_iload d_X3_subtract_13 rfl 4 rfl ?_
    refine ks_lald ha0 d_X3_subtract_15 rfl (v3 c1) ?_
    refine ka_lstore (ls' := [(6, .long (sg_ σ a0 x5.toNatClampNeg)), (0, .ref a0), (1, .ref a1), (2, .ref a2), (3, .long x3), (5, .int x5)]) d_X3_subtract_16 rfl (by decide) rfl ?_
    refine ka_aload_n d_X3_subtract_18 rfl rfl 2 rfl ?_
    refine ka_iload d_X3_subtract_19 rfl 5 rfl ?_
    refine ks_lald ha1 d_X3_subtract_21 rfl (v4 c1) ?_
    refine ka_lstore (ls' := [(8, .long (sg_ σ a1 x5.toNatClampNeg)), (6, .long (sg_ σ a0 x5.toNatClampNeg)), (0, .ref a0), (1, .ref a1), (2, .ref a2), (3, .long x3), (5, .int x5)]) d_X3_subtract_22 rfl (by decide) rfl ?_
    refine ka_lload d_X3_subtract_24 rfl 1 rfl ?_
    refine ka_lload d_X3_subtract_26 rfl 0 rfl ?_
    refine ka_lsub d_X3_subtract_28 rfl ?_
    refine ka_lload_n d_X3_subtract_29 rfl rfl 5 rfl ?_
    refine ka_lsub d_X3_subtract_30 rfl ?_
    refine ka_lstore (ls' := [(10, .long (((sg_ σ a0 x5.toNatClampNeg) - (sg_ σ a1 x5.toNatClampNeg)) - x3)), (8, .long (sg_ σ a1 x5.toNatClampNeg)), (6, .long (sg_ σ a0 x5.toNatClampNeg)), (0, .ref a0), (1, .ref a1), (2, .ref a2), (3, .long x3), (5, .int x5)]) d_X3_subtract_31 rfl (by decide) rfl ?_
    refine ka_aload_n d_X3_subtract_33 rfl rfl 5 rfl ?_
    refine ka_iload d_X3_subtract_34 rfl 7 rfl ?_
    refine ka_lload d_X3_subtract_36 rfl 0 rfl ?_
    refine ks_last ha2 d_X3_subtract_38 rfl (v5 c1) ?_
    refine ka_lload d_X3_subtract_39 rfl 2 rfl ?_
    refine ka_ldc2 (v := -1) d_X3_subtract_41 rfl kl_X3_9 ?_
    refine ka_lxor d_X3_subtract_44 rfl ?_
    refine ka_lload d_X3_subtract_45 rfl 1 rfl ?_
    refine ka_land d_X3_subtract_47 rfl ?_
    refine ka_lload d_X3_subtract_48 rfl 2 rfl ?_
    refine ka_ldc2 (v := -1) d_X3_subtract_50 rfl kl_X3_9 ?_
    refine ka_lxor d_X3_subtract_53 rfl ?_
    refine ka_lload d_X3_subtract_54 rfl 1 rfl ?_
    refine ka_lor d_X3_subtract_56 rfl ?_
    refine ka_lload d_X3_subtract_57 rfl 0 rfl ?_
    refine ka_land d_X3_subtract_59 rfl ?_
    refine ka_lor d_X3_subtract_60 rfl ?_
    refine ka_bipush (v := 63) d_X3_subtract_61 rfl (by decide) ?_
    refine ka_lushr d_X3_subtract_63 rfl ?_
    refine ka_lstore_n (ls' := [(3, .long (((((((sg_ σ a0 x5.toNatClampNeg) ^^^ ((-1))) &&& (sg_ σ a1 x5.toNatClampNeg)) ||| ((((sg_ σ a0 x5.toNatClampNeg) ^^^ ((-1))) ||| (sg_ σ a1 x5.toNatClampNeg)) &&& (((sg_ σ a0 x5.toNatClampNeg) - (sg_ σ a1 x5.toNatClampNeg)) - x3)))).toUInt64 >>> (((63 : Int32)).toInt64.toUInt64 &&& Int64.toUInt64 63)).toInt64)), (10, .long (((sg_ σ a0 x5.toNatClampNeg) - (sg_ σ a1 x5.toNatClampNeg)) - x3)), (8, .long (sg_ σ a1 x5.toNatClampNeg)), (6, .long (sg_ σ a0 x5.toNatClampNeg)), (0, .ref a0), (1, .ref a1), (2, .ref a2), (5, .int x5)]) d_X3_subtract_64 rfl rfl (by decide) rfl ?_
    refine ka_iinc (g := 7) (v := x5 + 1) (ls' := [(5, .int (x5 + 1)), (3, .long (((((((sg_ σ a0 x5.toNatClampNeg) ^^^ ((-1))) &&& (sg_ σ a1 x5.toNatClampNeg)) ||| ((((sg_ σ a0 x5.toNatClampNeg) ^^^ ((-1))) ||| (sg_ σ a1 x5.toNatClampNeg)) &&& (((sg_ σ a0 x5.toNatClampNeg) - (sg_ σ a1 x5.toNatClampNeg)) - x3)))).toUInt64 >>> (((63 : Int32)).toInt64.toUInt64 &&& Int64.toUInt64 63)).toInt64)), (10, .long (((sg_ σ a0 x5.toNatClampNeg) - (sg_ σ a1 x5.toNatClampNeg)) - x3)), (8, .long (sg_ σ a1 x5.toNatClampNeg)), (6, .long (sg_ σ a0 x5.toNatClampNeg)), (0, .ref a0), (1, .ref a1), (2, .ref a2)]) d_X3_subtract_65 rfl rfl rfl (by decide) rfl ?_
    refine ka_goto (q := 5) d_X3_subtract_68 (by decide) ?_
    refine ka_sub [5, 6, 7, 1, 0] rfl ?_
    exact (k6 c1)
theorem d_X3_isNought_0 : decode cX3_isNought 0 = .ok (.lconst 0, 1) := by decide +kernel
theorem d_X3_isNought_1 : decode cX3_isNought 1 = .ok (.lstore_n 1, 1) := by decide +kernel
theorem d_X3_isNought_2 : decode cX3_isNought 2 = .ok (.iconst 0, 1) := by decide +kernel
theorem d_X3_isNought_3 : decode cX3_isNought 3 = .ok (.istore_n 3, 1) := by decide +kernel
theorem d_X3_isNought_4 : decode cX3_isNought 4 = .ok (.iload_n 3, 1) := by decide +kernel
theorem d_X3_isNought_5 : decode cX3_isNought 5 = .ok (.aload_n 0, 1) := by decide +kernel
theorem d_X3_isNought_6 : decode cX3_isNought 6 = .ok (.arraylength, 1) := by decide +kernel
theorem d_X3_isNought_7 : decode cX3_isNought 7 = .ok (.if_icmp .ge 15, 3) := by decide +kernel
theorem d_X3_isNought_10 : decode cX3_isNought 10 = .ok (.lload_n 1, 1) := by decide +kernel
theorem d_X3_isNought_11 : decode cX3_isNought 11 = .ok (.aload_n 0, 1) := by decide +kernel
theorem d_X3_isNought_12 : decode cX3_isNought 12 = .ok (.iload_n 3, 1) := by decide +kernel
theorem d_X3_isNought_13 : decode cX3_isNought 13 = .ok (.laload, 1) := by decide +kernel
theorem d_X3_isNought_14 : decode cX3_isNought 14 = .ok (.lor, 1) := by decide +kernel
theorem d_X3_isNought_15 : decode cX3_isNought 15 = .ok (.lstore_n 1, 1) := by decide +kernel
theorem d_X3_isNought_16 : decode cX3_isNought 16 = .ok (.iinc 3 1, 3) := by decide +kernel
theorem d_X3_isNought_19 : decode cX3_isNought 19 = .ok (.goto (-15), 3) := by decide +kernel
theorem d_X3_isNought_22 : decode cX3_isNought 22 = .ok (.lload_n 1, 1) := by decide +kernel
theorem d_X3_isNought_23 : decode cX3_isNought 23 = .ok (.lconst 0, 1) := by decide +kernel
theorem d_X3_isNought_24 : decode cX3_isNought 24 = .ok (.lcmp, 1) := by decide +kernel
theorem d_X3_isNought_25 : decode cX3_isNought 25 = .ok (.ifCond .ne 7, 3) := by decide +kernel
theorem d_X3_isNought_28 : decode cX3_isNought 28 = .ok (.iconst 1, 1) := by decide +kernel
theorem d_X3_isNought_29 : decode cX3_isNought 29 = .ok (.goto 4, 3) := by decide +kernel
theorem d_X3_isNought_32 : decode cX3_isNought 32 = .ok (.iconst 0, 1) := by decide +kernel
theorem d_X3_isNought_33 : decode cX3_isNought 33 = .ok (.ireturn, 1) := by decide +kernel
theorem sg_X3_isNought_0 {L : Nat} {xs : Nat → Int32} {σ : ks_St} {mc ms : Nat} {P : ka_O → ks_St → Prop} {a0 na0 : Nat} (ha0 : rl_ a0 na0) (k1 : ks_W L xs mX3_isNought rm_X3_isNought 4 [(0, .ref a0), (1, .long 0), (3, .int 0)] [] σ mc ms P) : ks_W L xs mX3_isNought rm_X3_isNought 0 [(0, .ref a0)] [] σ mc ms P := by
  refine ka_lconst (v := 0) d_X3_isNought_0 rfl (by decide) ?_
  refine ka_lstore_n (ls' := [(1, .long 0), (0, .ref a0)]) d_X3_isNought_1 rfl rfl (by decide) rfl ?_
  refine ka_iconst (v := 0) d_X3_isNought_2 rfl (by decide) ?_
  refine ka_istore_n (ls' := [(3, .int 0), (1, .long 0), (0, .ref a0)]) d_X3_isNought_3 rfl rfl (by decide) rfl ?_
  refine ka_sub [2, 1, 0] rfl ?_
  exact k1
theorem sg_X3_isNought_4 {L : Nat} {xs : Nat → Int32} {σ : ks_St} {mc ms : Nat} {P : ka_O → ks_St → Prop} {a0 na0 : Nat} {x1 : Int64} {x3 : Int32} (ha0 : rl_ a0 na0) (k3 : ((nI na0) ≤ x3) → (¬ (lg_cmp x1 0) = 0) → ks_W L xs mX3_isNought rm_X3_isNought 33 [] [.int 0] σ mc ms P) (k4 : ((nI na0) ≤ x3) → ((lg_cmp x1 0) = 0) → ks_W L xs mX3_isNought rm_X3_isNought 33 [] [.int 1] σ mc ms P) (v5 : (¬ ((nI na0) ≤ x3)) → vp_in x3 na0) (k6 : (¬ ((nI na0) ≤ x3)) → ks_W L xs mX3_isNought rm_X3_isNought 4 [(0, .ref a0), (1, .long (x1 ||| (sg_ σ a0 x3.toNatClampNeg))), (3, .int (x3 + 1))] [] σ mc ms P) : ks_W L xs mX3_isNought rm_X3_isNought 4 [(0, .ref a0), (1, .long x1), (3, .int x3)] [] σ mc ms P := by
  refine ka_iload_n d_X3_isNought_4 rfl rfl 2 rfl ?_
  refine ka_aload_n d_X3_isNought_5 rfl rfl 0 rfl ?_
  refine ks_llen ha0 d_X3_isNought_6 rfl ?_
  refine ka_icmp_ge (tgt := 22) d_X3_isNought_7 (by decide) rfl (fun c1 => ?_) (fun c1 => ?_)
  · refine ka_lload_n d_X3_isNought_22 rfl rfl 1 rfl ?_
    refine ka_lconst (v := 0) d_X3_isNought_23 rfl (by decide) ?_
    refine ka_lcmp d_X3_isNought_24 rfl ?_
    refine ka_if_ne (tgt := 32) d_X3_isNought_25 (by decide) rfl (fun c2 => ?_) (fun c2 => ?_)
    · refine ka_iconst (v := 0) d_X3_isNought_32 rfl (by decide) ?_
      refine ka_sub [] rfl ?_
      exact (k3 c1 c2)
    · refine ka_iconst (v := 1) d_X3_isNought_28 rfl (by decide) ?_
      refine ka_goto (q := 33) d_X3_isNought_29 (by decide) ?_
      refine ka_sub [] rfl ?_
      exact (k4 c1 c2)
  · refine ka_lload_n d_X3_isNought_10 rfl rfl 1 rfl ?_
    refine ka_aload_n d_X3_isNought_11 rfl rfl 0 rfl ?_
    refine ka_iload_n d_X3_isNought_12 rfl rfl 2 rfl ?_
    refine ks_lald ha0 d_X3_isNought_13 rfl (v5 c1) ?_
    refine ka_lor d_X3_isNought_14 rfl ?_
    refine ka_lstore_n (ls' := [(1, .long (x1 ||| (sg_ σ a0 x3.toNatClampNeg))), (0, .ref a0), (3, .int x3)]) d_X3_isNought_15 rfl rfl (by decide) rfl ?_
    refine ka_iinc (g := 2) (v := x3 + 1) (ls' := [(3, .int (x3 + 1)), (1, .long (x1 ||| (sg_ σ a0 x3.toNatClampNeg))), (0, .ref a0)]) d_X3_isNought_16 rfl rfl rfl (by decide) rfl ?_
    refine ka_goto (q := 4) d_X3_isNought_19 (by decide) ?_
    refine ka_sub [2, 1, 0] rfl ?_
    exact (k6 c1)
theorem sg_X3_isNought_33 {L : Nat} {xs : Nat → Int32} {σ : ks_St} {mc ms : Nat} {P : ka_O → ks_St → Prop} {s0 : Int32}  (b1 : narrow .boolean (.int s0) = .int s0) (r2 : P (.inl (some (.int s0))) σ) : ks_W L xs mX3_isNought rm_X3_isNought 33 [] [.int s0] σ mc ms P := by
  exact ks_iret (ty := .boolean) d_X3_isNought_33 rfl b1 r2
theorem d_X3_maskOf_0 : decode cX3_maskOf 0 = .ok (.iload_n 0, 1) := by decide +kernel
theorem d_X3_maskOf_1 : decode cX3_maskOf 1 = .ok (.iload_n 1, 1) := by decide +kernel
theorem d_X3_maskOf_2 : decode cX3_maskOf 2 = .ok (.bipush 64, 2) := by decide +kernel
theorem d_X3_maskOf_4 : decode cX3_maskOf 4 = .ok (.imul, 1) := by decide +kernel
theorem d_X3_maskOf_5 : decode cX3_maskOf 5 = .ok (.isub, 1) := by decide +kernel
theorem d_X3_maskOf_6 : decode cX3_maskOf 6 = .ok (.istore_n 2, 1) := by decide +kernel
theorem d_X3_maskOf_7 : decode cX3_maskOf 7 = .ok (.iload_n 2, 1) := by decide +kernel
theorem d_X3_maskOf_8 : decode cX3_maskOf 8 = .ok (.bipush 64, 2) := by decide +kernel
theorem d_X3_maskOf_10 : decode cX3_maskOf 10 = .ok (.if_icmp .lt 7, 3) := by decide +kernel
theorem d_X3_maskOf_13 : decode cX3_maskOf 13 = .ok (.ldc2_w 9, 3) := by decide +kernel
theorem d_X3_maskOf_16 : decode cX3_maskOf 16 = .ok (.lreturn, 1) := by decide +kernel
theorem d_X3_maskOf_17 : decode cX3_maskOf 17 = .ok (.iload_n 2, 1) := by decide +kernel
theorem d_X3_maskOf_18 : decode cX3_maskOf 18 = .ok (.ifCond .gt 7, 3) := by decide +kernel
theorem d_X3_maskOf_21 : decode cX3_maskOf 21 = .ok (.lconst 0, 1) := by decide +kernel
theorem d_X3_maskOf_22 : decode cX3_maskOf 22 = .ok (.goto 8, 3) := by decide +kernel
theorem d_X3_maskOf_25 : decode cX3_maskOf 25 = .ok (.lconst 1, 1) := by decide +kernel
theorem d_X3_maskOf_26 : decode cX3_maskOf 26 = .ok (.iload_n 2, 1) := by decide +kernel
theorem d_X3_maskOf_27 : decode cX3_maskOf 27 = .ok (.lshl, 1) := by decide +kernel
theorem d_X3_maskOf_28 : decode cX3_maskOf 28 = .ok (.lconst 1, 1) := by decide +kernel
theorem d_X3_maskOf_29 : decode cX3_maskOf 29 = .ok (.lsub, 1) := by decide +kernel
theorem d_X3_maskOf_30 : decode cX3_maskOf 30 = .ok (.lreturn, 1) := by decide +kernel
theorem sg_X3_maskOf_0 {L : Nat} {xs : Nat → Int32} {σ : ks_St} {mc ms : Nat} {P : ka_O → ks_St → Prop} {x0 : Int32} {x1 : Int32}  (k3 : ((x0 - (x1 * 64)) < 64) → (0 < (x0 - (x1 * 64))) → ks_W L xs mX3_maskOf rm_X3_maskOf 30 [] [.long (((1 : Int64) <<< (((x0 - (x1 * 64))).toInt64 &&& 63)) - 1)] σ mc ms P) (k4 : ((x0 - (x1 * 64)) < 64) → (¬ (0 < (x0 - (x1 * 64)))) → ks_W L xs mX3_maskOf rm_X3_maskOf 30 [] [.long 0] σ mc ms P) (r5 : (¬ ((x0 - (x1 * 64)) < 64)) → P (.inl (some (.long ((-1))))) σ) : ks_W L xs mX3_maskOf rm_X3_maskOf 0 [(0, .int x0), (1, .int x1)] [] σ mc ms P := by
  refine ka_iload_n d_X3_maskOf_0 rfl rfl 0 rfl ?_
  refine ka_iload_n d_X3_maskOf_1 rfl rfl 1 rfl ?_
  refine ka_bipush (v := 64) d_X3_maskOf_2 rfl (by decide) ?_
  refine ka_imul d_X3_maskOf_4 rfl ?_
  refine ka_isub d_X3_maskOf_5 rfl ?_
  refine ka_istore_n (ls' := [(2, .int (x0 - (x1 * 64))), (0, .int x0), (1, .int x1)]) d_X3_maskOf_6 rfl rfl (by decide) rfl ?_
  refine ka_iload_n d_X3_maskOf_7 rfl rfl 0 rfl ?_
  refine ka_bipush (v := 64) d_X3_maskOf_8 rfl (by decide) ?_
  refine ka_icmp_lt (tgt := 17) d_X3_maskOf_10 (by decide) rfl (fun c1 => ?_) (fun c1 => ?_)
  · refine ka_iload_n d_X3_maskOf_17 rfl rfl 0 rfl ?_
    refine ka_if_gt (tgt := 25) d_X3_maskOf_18 (by decide) rfl (fun c2 => ?_) (fun c2 => ?_)
    · refine ka_lconst (v := 1) d_X3_maskOf_25 rfl (by decide) ?_
      refine ka_iload_n d_X3_maskOf_26 rfl rfl 0 rfl ?_
      refine ka_lshl d_X3_maskOf_27 rfl ?_
      refine ka_lconst (v := 1) d_X3_maskOf_28 rfl (by decide) ?_
      refine ka_lsub d_X3_maskOf_29 rfl ?_
      refine ka_sub [] rfl ?_
      exact (k3 c1 c2)
    · refine ka_lconst (v := 0) d_X3_maskOf_21 rfl (by decide) ?_
      refine ka_goto (q := 30) d_X3_maskOf_22 (by decide) ?_
      refine ka_sub [] rfl ?_
      exact (k4 c1 c2)
  · refine ka_ldc2 (v := -1) d_X3_maskOf_13 rfl kl_X3_9 ?_
    exact ks_lret d_X3_maskOf_16 rfl (r5 c1)
theorem sg_X3_maskOf_30 {L : Nat} {xs : Nat → Int32} {σ : ks_St} {mc ms : Nat} {P : ka_O → ks_St → Prop} {s0 : Int64}  (r1 : P (.inl (some (.long s0))) σ) : ks_W L xs mX3_maskOf rm_X3_maskOf 30 [] [.long s0] σ mc ms P := by
  exact ks_lret d_X3_maskOf_30 rfl r1
theorem d_X3_cut_0 : decode cX3_cut 0 = .ok (.iconst 0, 1) := by decide +kernel
theorem d_X3_cut_1 : decode cX3_cut 1 = .ok (.istore_n 2, 1) := by decide +kernel
theorem d_X3_cut_2 : decode cX3_cut 2 = .ok (.iload_n 2, 1) := by decide +kernel
theorem d_X3_cut_3 : decode cX3_cut 3 = .ok (.aload_n 0, 1) := by decide +kernel
theorem d_X3_cut_4 : decode cX3_cut 4 = .ok (.arraylength, 1) := by decide +kernel
theorem d_X3_cut_5 : decode cX3_cut 5 = .ok (.if_icmp .ge 20, 3) := by decide +kernel
theorem d_X3_cut_8 : decode cX3_cut 8 = .ok (.aload_n 0, 1) := by decide +kernel
theorem d_X3_cut_9 : decode cX3_cut 9 = .ok (.iload_n 2, 1) := by decide +kernel
theorem d_X3_cut_10 : decode cX3_cut 10 = .ok (.dup2, 1) := by decide +kernel
theorem d_X3_cut_11 : decode cX3_cut 11 = .ok (.laload, 1) := by decide +kernel
theorem d_X3_cut_12 : decode cX3_cut 12 = .ok (.iload_n 1, 1) := by decide +kernel
theorem d_X3_cut_13 : decode cX3_cut 13 = .ok (.iload_n 2, 1) := by decide +kernel
theorem d_X3_cut_14 : decode cX3_cut 14 = .ok (.invokestatic 11, 3) := by decide +kernel
theorem d_X3_cut_17 : decode cX3_cut 17 = .ok (.land, 1) := by decide +kernel
theorem d_X3_cut_18 : decode cX3_cut 18 = .ok (.lastore, 1) := by decide +kernel
theorem d_X3_cut_19 : decode cX3_cut 19 = .ok (.iinc 2 1, 3) := by decide +kernel
theorem d_X3_cut_22 : decode cX3_cut 22 = .ok (.goto (-20), 3) := by decide +kernel
theorem d_X3_cut_25 : decode cX3_cut 25 = .ok (.return_, 1) := by decide +kernel
theorem sg_X3_cut_0 {L : Nat} {xs : Nat → Int32} {σ : ks_St} {mc ms : Nat} {P : ka_O → ks_St → Prop} {a0 na0 : Nat} {x1 : Int32} (ha0 : rl_ a0 na0) (k1 : ks_W L xs mX3_cut rm_X3_cut 2 [(0, .ref a0), (1, .int x1), (2, .int 0)] [] σ mc ms P) : ks_W L xs mX3_cut rm_X3_cut 0 [(0, .ref a0), (1, .int x1)] [] σ mc ms P := by
  refine ka_iconst (v := 0) d_X3_cut_0 rfl (by decide) ?_
  refine ka_istore_n (ls' := [(2, .int 0), (0, .ref a0), (1, .int x1)]) d_X3_cut_1 rfl rfl (by decide) rfl ?_
  refine ka_sub [1, 2, 0] rfl ?_
  exact k1
theorem sg_X3_cut_2 {L : Nat} {xs : Nat → Int32} {σ : ks_St} {mc ms : Nat} {P : ka_O → ks_St → Prop} {a0 na0 : Nat} {x1 : Int32} {x2 : Int32} (ha0 : rl_ a0 na0) (r2 : ((nI na0) ≤ x2) → P (.inl none) σ) (v3 : (¬ ((nI na0) ≤ x2)) → vp_in x2 na0) (k4 : (¬ ((nI na0) ≤ x2)) → ks_W L xs mX3_cut rm_X3_cut 14 [(0, .ref a0), (1, .int x1), (2, .int x2)] [.int x2, .int x1, .long (sg_ σ a0 x2.toNatClampNeg), .int x2, .ref a0] σ mc ms P) : ks_W L xs mX3_cut rm_X3_cut 2 [(0, .ref a0), (1, .int x1), (2, .int x2)] [] σ mc ms P := by
  refine ka_iload_n d_X3_cut_2 rfl rfl 2 rfl ?_
  refine ka_aload_n d_X3_cut_3 rfl rfl 0 rfl ?_
  refine ks_llen ha0 d_X3_cut_4 rfl ?_
  refine ka_icmp_ge (tgt := 25) d_X3_cut_5 (by decide) rfl (fun c1 => ?_) (fun c1 => ?_)
  · exact ks_vret d_X3_cut_25 rfl (r2 c1)
  · refine ka_aload_n d_X3_cut_8 rfl rfl 0 rfl ?_
    refine ka_iload_n d_X3_cut_9 rfl rfl 2 rfl ?_
    refine ka_dup2 d_X3_cut_10 rfl rfl rfl ?_
    refine ks_lald ha0 d_X3_cut_11 rfl (v3 c1) ?_
    refine ka_iload_n d_X3_cut_12 rfl rfl 1 rfl ?_
    refine ka_iload_n d_X3_cut_13 rfl rfl 2 rfl ?_
    exact (k4 c1)
theorem cs_X3_cut_14 {L : Nat} {xs : Nat → Int32} {σ : ks_St} {mc ms : Nat} {P : ka_O → ks_St → Prop} {f : Int64 → ks_St → Prop} {a0 : Nat} {x1 : Int32} {x2 : Int32} {s1 : Int32} {s2 : Int64} {s3 : Int32} {s4 : Int32} (hK : ks_M L xs mX3_maskOf rm_X3_maskOf [.int s3, .int s4] σ (pl_ f)) (kr : ∀ r σ', f r σ' → ks_W L xs mX3_cut rm_X3_cut 17 [(0, .ref a0), (1, .int x1), (2, .int x2)] [.long r, .long s2, .int s1, .ref a0] σ' mc ms P) : ks_W L xs mX3_cut rm_X3_cut 14 [(0, .ref a0), (1, .int x1), (2, .int x2)] [.int s4, .int s3, .long s2, .int s1, .ref a0] σ mc ms P := by
  refine ks_callS (q := 17) (As := [.int s3, .int s4]) (st := [.long s2, .int s1, .ref a0]) d_X3_cut_14 rfl rfl lk_X3_11 ⟨by decide, by decide⟩ (Nat.le_of_ble_eq_true rfl) ⟨Nat.le_refl _, Nat.le_refl _⟩ hK (fun v σ' hq => ?_) (fun E σ' hq => ?_)
  · obtain ⟨r, e, hf⟩ := hq; cases e; exact kr r σ' hf
  · obtain ⟨r, e, hf⟩ := hq; cases e
theorem sg_X3_cut_17 {L : Nat} {xs : Nat → Int32} {σ : ks_St} {mc ms : Nat} {P : ka_O → ks_St → Prop} {a0 na0 : Nat} {x1 : Int32} {x2 : Int32} {s1 : Int32} {s2 : Int64} {s3 : Int64} (ha0 : rl_ a0 na0) (v1 : vp_in s1 na0) (k2 : ks_W L xs mX3_cut rm_X3_cut 2 [(0, .ref a0), (1, .int x1), (2, .int (x2 + 1))] [] (ug_ σ a0 (vp_updL (sg_ σ a0) s1.toNatClampNeg (s2 &&& s3))) mc ms P) : ks_W L xs mX3_cut rm_X3_cut 17 [(0, .ref a0), (1, .int x1), (2, .int x2)] [.long s3, .long s2, .int s1, .ref a0] σ mc ms P := by
  refine ka_land d_X3_cut_17 rfl ?_
  refine ks_last ha0 d_X3_cut_18 rfl v1 ?_
  refine ka_iinc (g := 2) (v := x2 + 1) (ls' := [(2, .int (x2 + 1)), (0, .ref a0), (1, .int x1)]) d_X3_cut_19 rfl rfl rfl (by decide) rfl ?_
  refine ka_goto (q := 2) d_X3_cut_22 (by decide) ?_
  refine ka_sub [1, 2, 0] rfl ?_
  exact k2
theorem d_X3_negate_0 : decode cX3_negate 0 = .ok (.lconst 1, 1) := by decide +kernel
theorem d_X3_negate_1 : decode cX3_negate 1 = .ok (.lstore_n 2, 1) := by decide +kernel
theorem d_X3_negate_2 : decode cX3_negate 2 = .ok (.iconst 0, 1) := by decide +kernel
theorem d_X3_negate_3 : decode cX3_negate 3 = .ok (.istore 4, 2) := by decide +kernel
theorem d_X3_negate_5 : decode cX3_negate 5 = .ok (.iload 4, 2) := by decide +kernel
theorem d_X3_negate_7 : decode cX3_negate 7 = .ok (.aload_n 0, 1) := by decide +kernel
theorem d_X3_negate_8 : decode cX3_negate 8 = .ok (.arraylength, 1) := by decide +kernel
theorem d_X3_negate_9 : decode cX3_negate 9 = .ok (.if_icmp .ge 46, 3) := by decide +kernel
theorem d_X3_negate_12 : decode cX3_negate 12 = .ok (.aload_n 0, 1) := by decide +kernel
theorem d_X3_negate_13 : decode cX3_negate 13 = .ok (.iload 4, 2) := by decide +kernel
theorem d_X3_negate_15 : decode cX3_negate 15 = .ok (.laload, 1) := by decide +kernel
theorem d_X3_negate_16 : decode cX3_negate 16 = .ok (.ldc2_w 9, 3) := by decide +kernel
theorem d_X3_negate_19 : decode cX3_negate 19 = .ok (.lxor, 1) := by decide +kernel
theorem d_X3_negate_20 : decode cX3_negate 20 = .ok (.lload_n 2, 1) := by decide +kernel
theorem d_X3_negate_21 : decode cX3_negate 21 = .ok (.ladd, 1) := by decide +kernel
theorem d_X3_negate_22 : decode cX3_negate 22 = .ok (.lstore 5, 2) := by decide +kernel
theorem d_X3_negate_24 : decode cX3_negate 24 = .ok (.lload_n 2, 1) := by decide +kernel
theorem d_X3_negate_25 : decode cX3_negate 25 = .ok (.lconst 1, 1) := by decide +kernel
theorem d_X3_negate_26 : decode cX3_negate 26 = .ok (.lcmp, 1) := by decide +kernel
theorem d_X3_negate_27 : decode cX3_negate 27 = .ok (.ifCond .ne 14, 3) := by decide +kernel
theorem d_X3_negate_30 : decode cX3_negate 30 = .ok (.lload 5, 2) := by decide +kernel
theorem d_X3_negate_32 : decode cX3_negate 32 = .ok (.lconst 0, 1) := by decide +kernel
theorem d_X3_negate_33 : decode cX3_negate 33 = .ok (.lcmp, 1) := by decide +kernel
theorem d_X3_negate_34 : decode cX3_negate 34 = .ok (.ifCond .ne 7, 3) := by decide +kernel
theorem d_X3_negate_37 : decode cX3_negate 37 = .ok (.lconst 1, 1) := by decide +kernel
theorem d_X3_negate_38 : decode cX3_negate 38 = .ok (.goto 4, 3) := by decide +kernel
theorem d_X3_negate_41 : decode cX3_negate 41 = .ok (.lconst 0, 1) := by decide +kernel
theorem d_X3_negate_42 : decode cX3_negate 42 = .ok (.lstore_n 2, 1) := by decide +kernel
theorem d_X3_negate_43 : decode cX3_negate 43 = .ok (.aload_n 0, 1) := by decide +kernel
theorem d_X3_negate_44 : decode cX3_negate 44 = .ok (.iload 4, 2) := by decide +kernel
theorem d_X3_negate_46 : decode cX3_negate 46 = .ok (.lload 5, 2) := by decide +kernel
theorem d_X3_negate_48 : decode cX3_negate 48 = .ok (.lastore, 1) := by decide +kernel
theorem d_X3_negate_49 : decode cX3_negate 49 = .ok (.iinc 4 1, 3) := by decide +kernel
theorem d_X3_negate_52 : decode cX3_negate 52 = .ok (.goto (-47), 3) := by decide +kernel
theorem d_X3_negate_55 : decode cX3_negate 55 = .ok (.aload_n 0, 1) := by decide +kernel
theorem d_X3_negate_56 : decode cX3_negate 56 = .ok (.iload_n 1, 1) := by decide +kernel
theorem d_X3_negate_57 : decode cX3_negate 57 = .ok (.invokestatic 24, 3) := by decide +kernel
theorem d_X3_negate_60 : decode cX3_negate 60 = .ok (.return_, 1) := by decide +kernel
theorem sg_X3_negate_0 {L : Nat} {xs : Nat → Int32} {σ : ks_St} {mc ms : Nat} {P : ka_O → ks_St → Prop} {a0 na0 : Nat} {x1 : Int32} (ha0 : rl_ a0 na0) (k1 : ks_W L xs mX3_negate rm_X3_negate 5 [(0, .ref a0), (1, .int x1), (2, .long 1), (4, .int 0)] [] σ mc ms P) : ks_W L xs mX3_negate rm_X3_negate 0 [(0, .ref a0), (1, .int x1)] [] σ mc ms P := by
  refine ka_lconst (v := 1) d_X3_negate_0 rfl (by decide) ?_
  refine ka_lstore_n (ls' := [(2, .long 1), (0, .ref a0), (1, .int x1)]) d_X3_negate_1 rfl rfl (by decide) rfl ?_
  refine ka_iconst (v := 0) d_X3_negate_2 rfl (by decide) ?_
  refine ka_istore (ls' := [(4, .int 0), (2, .long 1), (0, .ref a0), (1, .int x1)]) d_X3_negate_3 rfl (by decide) rfl ?_
  refine ka_sub [2, 3, 1, 0] rfl ?_
  exact k1
theorem sg_X3_negate_5 {L : Nat} {xs : Nat → Int32} {σ : ks_St} {mc ms : Nat} {P : ka_O → ks_St → Prop} {a0 na0 : Nat} {x1 : Int32} {x2 : Int64} {x4 : Int32} (ha0 : rl_ a0 na0) (k2 : ((nI na0) ≤ x4) → ks_W L xs mX3_negate rm_X3_negate 57 [] [.int x1, .ref a0] σ mc ms P) (v3 : (¬ ((nI na0) ≤ x4)) → vp_in x4 na0) (k5 : (¬ ((nI na0) ≤ x4)) → (¬ (lg_cmp x2 1) = 0) → ks_W L xs mX3_negate rm_X3_negate 41 [(0, .ref a0), (1, .int x1), (4, .int x4), (5, .long (((sg_ σ a0 x4.toNatClampNeg) ^^^ ((-1))) + x2))] [] σ mc ms P) (k7 : (¬ ((nI na0) ≤ x4)) → ((lg_cmp x2 1) = 0) → (¬ (lg_cmp (((sg_ σ a0 x4.toNatClampNeg) ^^^ ((-1))) + x2) 0) = 0) → ks_W L xs mX3_negate rm_X3_negate 41 [(0, .ref a0), (1, .int x1), (4, .int x4), (5, .long (((sg_ σ a0 x4.toNatClampNeg) ^^^ ((-1))) + x2))] [] σ mc ms P) (k8 : (¬ ((nI na0) ≤ x4)) → ((lg_cmp x2 1) = 0) → ((lg_cmp (((sg_ σ a0 x4.toNatClampNeg) ^^^ ((-1))) + x2) 0) = 0) → ks_W L xs mX3_negate rm_X3_negate 42 [(0, .ref a0), (1, .int x1), (4, .int x4), (5, .long (((sg_ σ a0 x4.toNatClampNeg) ^^^ ((-1))) + x2))] [.long 1] σ mc ms P) : ks_W L xs mX3_negate rm_X3_negate 5 [(0, .ref a0), (1, .int x1), (2, .long x2), (4, .int x4)] [] σ mc ms P := by
  refine ka_iload d_X3_negate_5 rfl 3 rfl ?_
  refine ka_aload_n d_X3_negate_7 rfl rfl 0 rfl ?_
  refine ks_llen ha0 d_X3_negate_8 rfl ?_
  refine ka_icmp_ge (tgt := 55) d_X3_negate_9 (by decide) rfl (fun c1 => ?_) (fun c1 => ?_)
  · refine ka_aload_n d_X3_negate_55 rfl rfl 0 rfl ?_
    refine ka_iload_n d_X3_negate_56 rfl rfl 1 rfl ?_
    refine ka_sub [] rfl ?_
    exact (k2 c1)
  · refine ka_aload_n d_X3_negate_12 rfl rfl 0 rfl ?_
    refine ka_iload d_X3_negate_13 rfl 3 rfl ?_
    refine ks_lald ha0 d_X3_negate_15 rfl (v3 c1) ?_
    refine ka_ldc2 (v := -1) d_X3_negate_16 rfl kl_X3_9 ?_
    refine ka_lxor d_X3_negate_19 rfl ?_
    refine ka_lload_n d_X3_negate_20 rfl rfl 2 rfl ?_
    refine ka_ladd d_X3_negate_21 rfl ?_
    refine ka_lstore (ls' := [(5, .long (((sg_ σ a0 x4.toNatClampNeg) ^^^ ((-1))) + x2)), (0, .ref a0), (1, .int x1), (2, .long x2), (4, .int x4)]) d_X3_negate_22 rfl (by decide) rfl ?_
    refine ka_lload_n d_X3_negate_24 rfl rfl 3 rfl ?_
    refine ka_lconst (v := 1) d_X3_negate_25 rfl (by decide) ?_
    refine ka_lcmp d_X3_negate_26 rfl ?_
    refine ka_if_ne (tgt := 41) d_X3_negate_27 (by decide) rfl (fun c4 => ?_) (fun c4 => ?_)
    · refine ka_sub [1, 2, 4, 0] rfl ?_
      exact (k5 c1 c4)
    · refine ka_lload d_X3_negate_30 rfl 0 rfl ?_
      refine ka_lconst (v := 0) d_X3_negate_32 rfl (by decide) ?_
      refine ka_lcmp d_X3_negate_33 rfl ?_
      refine ka_if_ne (tgt := 41) d_X3_negate_34 (by decide) rfl (fun c6 => ?_) (fun c6 => ?_)
      · refine ka_sub [1, 2, 4, 0] rfl ?_
        exact (k7 c1 c4 c6)
      · refine ka_lconst (v := 1) d_X3_negate_37 rfl (by decide) ?_
        refine ka_goto (q := 42) d_X3_negate_38 (by decide) ?_
        refine ka_sub [1, 2, 4, 0] rfl ?_
        exact (k8 c1 c4 c6)
theorem sg_X3_negate_41 {L : Nat} {xs : Nat → Int32} {σ : ks_St} {mc ms : Nat} {P : ka_O → ks_St → Prop} {a0 na0 : Nat} {x1 : Int32} {x4 : Int32} {x5 : Int64} (ha0 : rl_ a0 na0) (k1 : ks_W L xs mX3_negate rm_X3_negate 42 [(0, .ref a0), (1, .int x1), (4, .int x4), (5, .long x5)] [.long 0] σ mc ms P) : ks_W L xs mX3_negate rm_X3_negate 41 [(0, .ref a0), (1, .int x1), (4, .int x4), (5, .long x5)] [] σ mc ms P := by
  refine ka_lconst (v := 0) d_X3_negate_41 rfl (by decide) ?_
  exact k1
theorem sg_X3_negate_42 {L : Nat} {xs : Nat → Int32} {σ : ks_St} {mc ms : Nat} {P : ka_O → ks_St → Prop} {a0 na0 : Nat} {x1 : Int32} {x4 : Int32} {x5 : Int64} {s0 : Int64} (ha0 : rl_ a0 na0) (v1 : vp_in x4 na0) (k2 : ks_W L xs mX3_negate rm_X3_negate 5 [(0, .ref a0), (1, .int x1), (2, .long s0), (4, .int (x4 + 1))] [] (ug_ σ a0 (vp_updL (sg_ σ a0) x4.toNatClampNeg x5)) mc ms P) : ks_W L xs mX3_negate rm_X3_negate 42 [(0, .ref a0), (1, .int x1), (4, .int x4), (5, .long x5)] [.long s0] σ mc ms P := by
  refine ka_lstore_n (ls' := [(2, .long s0), (0, .ref a0), (1, .int x1), (4, .int x4), (5, .long x5)]) d_X3_negate_42 rfl rfl (by decide) rfl ?_
  refine ka_aload_n d_X3_negate_43 rfl rfl 1 rfl ?_
  refine ka_iload d_X3_negate_44 rfl 3 rfl ?_
  refine ka_lload d_X3_negate_46 rfl 4 rfl ?_
  refine ks_last ha0 d_X3_negate_48 rfl v1 ?_
  refine ka_iinc (g := 3) (v := x4 + 1) (ls' := [(4, .int (x4 + 1)), (2, .long s0), (0, .ref a0), (1, .int x1), (5, .long x5)]) d_X3_negate_49 rfl rfl rfl (by decide) rfl ?_
  refine ka_goto (q := 5) d_X3_negate_52 (by decide) ?_
  refine ka_sub [2, 3, 1, 0] rfl ?_
  exact k2
theorem cs_X3_negate_57 {L : Nat} {xs : Nat → Int32} {σ : ks_St} {mc ms : Nat} {P : ka_O → ks_St → Prop} {f : ks_St → Prop} {a0 : Nat} {s1 : Int32} (hK : ks_M L xs mX3_cut rm_X3_cut [.ref a0, .int s1] σ (pv_ f)) (kr : ∀ σ', f σ' → ks_W L xs mX3_negate rm_X3_negate 60 [] [] σ' mc ms P) : ks_W L xs mX3_negate rm_X3_negate 57 [] [.int s1, .ref a0] σ mc ms P := by
  refine ks_callS (q := 60) (As := [.ref a0, .int s1]) (st := []) d_X3_negate_57 rfl rfl lk_X3_24 ⟨by decide, by decide⟩ (Nat.le_of_ble_eq_true rfl) ⟨Nat.le_refl _, Nat.le_refl _⟩ hK (fun v σ' hq => ?_) (fun E σ' hq => ?_)
  · obtain ⟨e, hf⟩ := hq; cases e; exact kr σ' hf
  · obtain ⟨e, hf⟩ := hq; cases e
theorem sg_X3_negate_60 {L : Nat} {xs : Nat → Int32} {σ : ks_St} {mc ms : Nat} {P : ka_O → ks_St → Prop}   (r1 : P (.inl none) σ) : ks_W L xs mX3_negate rm_X3_negate 60 [] [] σ mc ms P := by
  exact ks_vret d_X3_negate_60 rfl r1
theorem d_X3_atMost_0 : decode cX3_atMost 0 = .ok (.iconst 1, 1) := by decide +kernel
theorem d_X3_atMost_1 : decode cX3_atMost 1 = .ok (.istore_n 2, 1) := by decide +kernel
theorem d_X3_atMost_2 : decode cX3_atMost 2 = .ok (.iload_n 2, 1) := by decide +kernel
theorem d_X3_atMost_3 : decode cX3_atMost 3 = .ok (.aload_n 0, 1) := by decide +kernel
theorem d_X3_atMost_4 : decode cX3_atMost 4 = .ok (.arraylength, 1) := by decide +kernel
theorem d_X3_atMost_5 : decode cX3_atMost 5 = .ok (.if_icmp .ge 19, 3) := by decide +kernel
theorem d_X3_atMost_8 : decode cX3_atMost 8 = .ok (.aload_n 0, 1) := by decide +kernel
theorem d_X3_atMost_9 : decode cX3_atMost 9 = .ok (.iload_n 2, 1) := by decide +kernel
theorem d_X3_atMost_10 : decode cX3_atMost 10 = .ok (.laload, 1) := by decide +kernel
theorem d_X3_atMost_11 : decode cX3_atMost 11 = .ok (.lconst 0, 1) := by decide +kernel
theorem d_X3_atMost_12 : decode cX3_atMost 12 = .ok (.lcmp, 1) := by decide +kernel
theorem d_X3_atMost_13 : decode cX3_atMost 13 = .ok (.ifCond .eq 5, 3) := by decide +kernel
theorem d_X3_atMost_16 : decode cX3_atMost 16 = .ok (.iload_n 1, 1) := by decide +kernel
theorem d_X3_atMost_17 : decode cX3_atMost 17 = .ok (.ireturn, 1) := by decide +kernel
theorem d_X3_atMost_18 : decode cX3_atMost 18 = .ok (.iinc 2 1, 3) := by decide +kernel
theorem d_X3_atMost_21 : decode cX3_atMost 21 = .ok (.goto (-19), 3) := by decide +kernel
theorem d_X3_atMost_24 : decode cX3_atMost 24 = .ok (.aload_n 0, 1) := by decide +kernel
theorem d_X3_atMost_25 : decode cX3_atMost 25 = .ok (.iconst 0, 1) := by decide +kernel
theorem d_X3_atMost_26 : decode cX3_atMost 26 = .ok (.laload, 1) := by decide +kernel
theorem d_X3_atMost_27 : decode cX3_atMost 27 = .ok (.lconst 0, 1) := by decide +kernel
theorem d_X3_atMost_28 : decode cX3_atMost 28 = .ok (.lcmp, 1) := by decide +kernel
theorem d_X3_atMost_29 : decode cX3_atMost 29 = .ok (.ifCond .lt 12, 3) := by decide +kernel
theorem d_X3_atMost_32 : decode cX3_atMost 32 = .ok (.aload_n 0, 1) := by decide +kernel
theorem d_X3_atMost_33 : decode cX3_atMost 33 = .ok (.iconst 0, 1) := by decide +kernel
theorem d_X3_atMost_34 : decode cX3_atMost 34 = .ok (.laload, 1) := by decide +kernel
theorem d_X3_atMost_35 : decode cX3_atMost 35 = .ok (.iload_n 1, 1) := by decide +kernel
theorem d_X3_atMost_36 : decode cX3_atMost 36 = .ok (.i2l, 1) := by decide +kernel
theorem d_X3_atMost_37 : decode cX3_atMost 37 = .ok (.lcmp, 1) := by decide +kernel
theorem d_X3_atMost_38 : decode cX3_atMost 38 = .ok (.ifCond .le 7, 3) := by decide +kernel
theorem d_X3_atMost_41 : decode cX3_atMost 41 = .ok (.iload_n 1, 1) := by decide +kernel
theorem d_X3_atMost_42 : decode cX3_atMost 42 = .ok (.goto 7, 3) := by decide +kernel
theorem d_X3_atMost_45 : decode cX3_atMost 45 = .ok (.aload_n 0, 1) := by decide +kernel
theorem d_X3_atMost_46 : decode cX3_atMost 46 = .ok (.iconst 0, 1) := by decide +kernel
theorem d_X3_atMost_47 : decode cX3_atMost 47 = .ok (.laload, 1) := by decide +kernel
theorem d_X3_atMost_48 : decode cX3_atMost 48 = .ok (.l2i, 1) := by decide +kernel
theorem d_X3_atMost_49 : decode cX3_atMost 49 = .ok (.ireturn, 1) := by decide +kernel
theorem sg_X3_atMost_0 {L : Nat} {xs : Nat → Int32} {σ : ks_St} {mc ms : Nat} {P : ka_O → ks_St → Prop} {a0 na0 : Nat} {x1 : Int32} (ha0 : rl_ a0 na0) (k1 : ks_W L xs mX3_atMost rm_X3_atMost 2 [(0, .ref a0), (1, .int x1), (2, .int 1)] [] σ mc ms P) : ks_W L xs mX3_atMost rm_X3_atMost 0 [(0, .ref a0), (1, .int x1)] [] σ mc ms P := by
  refine ka_iconst (v := 1) d_X3_atMost_0 rfl (by decide) ?_
  refine ka_istore_n (ls' := [(2, .int 1), (0, .ref a0), (1, .int x1)]) d_X3_atMost_1 rfl rfl (by decide) rfl ?_
  refine ka_sub [1, 2, 0] rfl ?_
  exact k1
theorem sg_X3_atMost_2 {L : Nat} {xs : Nat → Int32} {σ : ks_St} {mc ms : Nat} {P : ka_O → ks_St → Prop} {a0 na0 : Nat} {x1 : Int32} {x2 : Int32} (ha0 : rl_ a0 na0) (v2 : ((nI na0) ≤ x2) → vp_in 0 na0) (k4 : ((nI na0) ≤ x2) → ((lg_cmp (sg_ σ a0 (0 : Int32).toNatClampNeg) 0) < 0) → ks_W L xs mX3_atMost rm_X3_atMost 41 [(1, .int x1)] [] σ mc ms P) (v5 : ((nI na0) ≤ x2) → (¬ ((lg_cmp (sg_ σ a0 (0 : Int32).toNatClampNeg) 0) < 0)) → vp_in 0 na0) (v7 : ((nI na0) ≤ x2) → (¬ ((lg_cmp (sg_ σ a0 (0 : Int32).toNatClampNeg) 0) < 0)) → ((lg_cmp (sg_ σ a0 (0 : Int32).toNatClampNeg) (x1.toInt64)) ≤ 0) → vp_in 0 na0) (k8 : ((nI na0) ≤ x2) → (¬ ((lg_cmp (sg_ σ a0 (0 : Int32).toNatClampNeg) 0) < 0)) → ((lg_cmp (sg_ σ a0 (0 : Int32).toNatClampNeg) (x1.toInt64)) ≤ 0) → ks_W L xs mX3_atMost rm_X3_atMost 49 [] [.int ((sg_ σ a0 (0 : Int32).toNatClampNeg).toInt32)] σ mc ms P) (k9 : ((nI na0) ≤ x2) → (¬ ((lg_cmp (sg_ σ a0 (0 : Int32).toNatClampNeg) 0) < 0)) → (¬ ((lg_cmp (sg_ σ a0 (0 : Int32).toNatClampNeg) (x1.toInt64)) ≤ 0)) → ks_W L xs mX3_atMost rm_X3_atMost 41 [(1, .int x1)] [] σ mc ms P) (v10 : (¬ ((nI na0) ≤ x2)) → vp_in x2 na0) (k12 : (¬ ((nI na0) ≤ x2)) → ((lg_cmp (sg_ σ a0 x2.toNatClampNeg) 0) = 0) → ks_W L xs mX3_atMost rm_X3_atMost 2 [(0, .ref a0), (1, .int x1), (2, .int (x2 + 1))] [] σ mc ms P) (r13 : (¬ ((nI na0) ≤ x2)) → (¬ ((lg_cmp (sg_ σ a0 x2.toNatClampNeg) 0) = 0)) → P (.inl (some (.int x1))) σ) : ks_W L xs mX3_atMost rm_X3_atMost 2 [(0, .ref a0), (1, .int x1), (2, .int x2)] [] σ mc ms P := by
  refine ka_iload_n d_X3_atMost_2 rfl rfl 2 rfl ?_
  refine ka_aload_n d_X3_atMost_3 rfl rfl 0 rfl ?_
  refine ks_llen ha0 d_X3_atMost_4 rfl ?_
  refine ka_icmp_ge (tgt := 24) d_X3_atMost_5 (by decide) rfl (fun c1 => ?_) (fun c1 => ?_)
  · refine ka_aload_n d_X3_atMost_24 rfl rfl 0 rfl ?_
    refine ka_iconst (v := 0) d_X3_atMost_25 rfl (by decide) ?_
    refine ks_lald ha0 d_X3_atMost_26 rfl (v2 c1) ?_
    refine ka_lconst (v := 0) d_X3_atMost_27 rfl (by decide) ?_
    refine ka_lcmp d_X3_atMost_28 rfl ?_
    refine ka_if_lt (tgt := 41) d_X3_atMost_29 (by decide) rfl (fun c3 => ?_) (fun c3 => ?_)
    · refine ka_sub [1] rfl ?_
      exact (k4 c1 c3)
    · refine ka_aload_n d_X3_atMost_32 rfl rfl 0 rfl ?_
      refine ka_iconst (v := 0) d_X3_atMost_33 rfl (by decide) ?_
      refine ks_lald ha0 d_X3_atMost_34 rfl (v5 c1 c3) ?_
      refine ka_iload_n d_X3_atMost_35 rfl rfl 1 rfl ?_
      refine ka_i2l d_X3_atMost_36 rfl ?_
      refine ka_lcmp d_X3_atMost_37 rfl ?_
      refine ka_if_le (tgt := 45) d_X3_atMost_38 (by decide) rfl (fun c6 => ?_) (fun c6 => ?_)
      · refine ka_aload_n d_X3_atMost_45 rfl rfl 0 rfl ?_
        refine ka_iconst (v := 0) d_X3_atMost_46 rfl (by decide) ?_
        refine ks_lald ha0 d_X3_atMost_47 rfl (v7 c1 c3 c6) ?_
        refine ka_l2i d_X3_atMost_48 rfl ?_
        refine ka_sub [] rfl ?_
        exact (k8 c1 c3 c6)
      · refine ka_sub [1] rfl ?_
        exact (k9 c1 c3 c6)
  · refine ka_aload_n d_X3_atMost_8 rfl rfl 0 rfl ?_
    refine ka_iload_n d_X3_atMost_9 rfl rfl 2 rfl ?_
    refine ks_lald ha0 d_X3_atMost_10 rfl (v10 c1) ?_
    refine ka_lconst (v := 0) d_X3_atMost_11 rfl (by decide) ?_
    refine ka_lcmp d_X3_atMost_12 rfl ?_
    refine ka_if_eq (tgt := 18) d_X3_atMost_13 (by decide) rfl (fun c11 => ?_) (fun c11 => ?_)
    · refine ka_iinc (g := 2) (v := x2 + 1) (ls' := [(2, .int (x2 + 1)), (0, .ref a0), (1, .int x1)]) d_X3_atMost_18 rfl rfl rfl (by decide) rfl ?_
      refine ka_goto (q := 2) d_X3_atMost_21 (by decide) ?_
      refine ka_sub [1, 2, 0] rfl ?_
      exact (k12 c1 c11)
    · refine ka_iload_n d_X3_atMost_16 rfl rfl 1 rfl ?_
      exact ks_iret (ty := .int) d_X3_atMost_17 rfl rfl (r13 c1 c11)
theorem sg_X3_atMost_41 {L : Nat} {xs : Nat → Int32} {σ : ks_St} {mc ms : Nat} {P : ka_O → ks_St → Prop} {x1 : Int32}  (k1 : ks_W L xs mX3_atMost rm_X3_atMost 49 [] [.int x1] σ mc ms P) : ks_W L xs mX3_atMost rm_X3_atMost 41 [(1, .int x1)] [] σ mc ms P := by
  refine ka_iload_n d_X3_atMost_41 rfl rfl 0 rfl ?_
  refine ka_goto (q := 49) d_X3_atMost_42 (by decide) ?_
  refine ka_sub [] rfl ?_
  exact k1
theorem sg_X3_atMost_49 {L : Nat} {xs : Nat → Int32} {σ : ks_St} {mc ms : Nat} {P : ka_O → ks_St → Prop} {s0 : Int32}  (r1 : P (.inl (some (.int s0))) σ) : ks_W L xs mX3_atMost rm_X3_atMost 49 [] [.int s0] σ mc ms P := by
  exact ks_iret (ty := .int) d_X3_atMost_49 rfl rfl r1
theorem d_X3_fillFrom_0 : decode cX3_fillFrom 0 = .ok (.iconst 0, 1) := by decide +kernel
theorem d_X3_fillFrom_1 : decode cX3_fillFrom 1 = .ok (.istore_n 2, 1) := by decide +kernel
theorem d_X3_fillFrom_2 : decode cX3_fillFrom 2 = .ok (.iload_n 2, 1) := by decide +kernel
theorem d_X3_fillFrom_3 : decode cX3_fillFrom 3 = .ok (.aload_n 0, 1) := by decide +kernel
theorem d_X3_fillFrom_4 : decode cX3_fillFrom 4 = .ok (.arraylength, 1) := by decide +kernel
theorem d_X3_fillFrom_5 : decode cX3_fillFrom 5 = .ok (.if_icmp .ge 24, 3) := by decide +kernel
theorem d_X3_fillFrom_8 : decode cX3_fillFrom 8 = .ok (.aload_n 0, 1) := by decide +kernel
theorem d_X3_fillFrom_9 : decode cX3_fillFrom 9 = .ok (.iload_n 2, 1) := by decide +kernel
theorem d_X3_fillFrom_10 : decode cX3_fillFrom 10 = .ok (.dup2, 1) := by decide +kernel
theorem d_X3_fillFrom_11 : decode cX3_fillFrom 11 = .ok (.laload, 1) := by decide +kernel
theorem d_X3_fillFrom_12 : decode cX3_fillFrom 12 = .ok (.iload_n 1, 1) := by decide +kernel
theorem d_X3_fillFrom_13 : decode cX3_fillFrom 13 = .ok (.iload_n 2, 1) := by decide +kernel
theorem d_X3_fillFrom_14 : decode cX3_fillFrom 14 = .ok (.invokestatic 11, 3) := by decide +kernel
theorem d_X3_fillFrom_17 : decode cX3_fillFrom 17 = .ok (.ldc2_w 9, 3) := by decide +kernel
theorem d_X3_fillFrom_20 : decode cX3_fillFrom 20 = .ok (.lxor, 1) := by decide +kernel
theorem d_X3_fillFrom_21 : decode cX3_fillFrom 21 = .ok (.lor, 1) := by decide +kernel
theorem d_X3_fillFrom_22 : decode cX3_fillFrom 22 = .ok (.lastore, 1) := by decide +kernel
theorem d_X3_fillFrom_23 : decode cX3_fillFrom 23 = .ok (.iinc 2 1, 3) := by decide +kernel
theorem d_X3_fillFrom_26 : decode cX3_fillFrom 26 = .ok (.goto (-24), 3) := by decide +kernel
theorem d_X3_fillFrom_29 : decode cX3_fillFrom 29 = .ok (.return_, 1) := by decide +kernel
theorem sg_X3_fillFrom_0 {L : Nat} {xs : Nat → Int32} {σ : ks_St} {mc ms : Nat} {P : ka_O → ks_St → Prop} {a0 na0 : Nat} {x1 : Int32} (ha0 : rl_ a0 na0) (k1 : ks_W L xs mX3_fillFrom rm_X3_fillFrom 2 [(0, .ref a0), (1, .int x1), (2, .int 0)] [] σ mc ms P) : ks_W L xs mX3_fillFrom rm_X3_fillFrom 0 [(0, .ref a0), (1, .int x1)] [] σ mc ms P := by
  refine ka_iconst (v := 0) d_X3_fillFrom_0 rfl (by decide) ?_
  refine ka_istore_n (ls' := [(2, .int 0), (0, .ref a0), (1, .int x1)]) d_X3_fillFrom_1 rfl rfl (by decide) rfl ?_
  refine ka_sub [1, 2, 0] rfl ?_
  exact k1
theorem sg_X3_fillFrom_2 {L : Nat} {xs : Nat → Int32} {σ : ks_St} {mc ms : Nat} {P : ka_O → ks_St → Prop} {a0 na0 : Nat} {x1 : Int32} {x2 : Int32} (ha0 : rl_ a0 na0) (r2 : ((nI na0) ≤ x2) → P (.inl none) σ) (v3 : (¬ ((nI na0) ≤ x2)) → vp_in x2 na0) (k4 : (¬ ((nI na0) ≤ x2)) → ks_W L xs mX3_fillFrom rm_X3_fillFrom 14 [(0, .ref a0), (1, .int x1), (2, .int x2)] [.int x2, .int x1, .long (sg_ σ a0 x2.toNatClampNeg), .int x2, .ref a0] σ mc ms P) : ks_W L xs mX3_fillFrom rm_X3_fillFrom 2 [(0, .ref a0), (1, .int x1), (2, .int x2)] [] σ mc ms P := by
  refine ka_iload_n d_X3_fillFrom_2 rfl rfl 2 rfl ?_
  refine ka_aload_n d_X3_fillFrom_3 rfl rfl 0 rfl ?_
  refine ks_llen ha0 d_X3_fillFrom_4 rfl ?_
  refine ka_icmp_ge (tgt := 29) d_X3_fillFrom_5 (by decide) rfl (fun c1 => ?_) (fun c1 => ?_)
  · exact ks_vret d_X3_fillFrom_29 rfl (r2 c1)
  · refine ka_aload_n d_X3_fillFrom_8 rfl rfl 0 rfl ?_
    refine ka_iload_n d_X3_fillFrom_9 rfl rfl 2 rfl ?_
    refine ka_dup2 d_X3_fillFrom_10 rfl rfl rfl ?_
    refine ks_lald ha0 d_X3_fillFrom_11 rfl (v3 c1) ?_
    refine ka_iload_n d_X3_fillFrom_12 rfl rfl 1 rfl ?_
    refine ka_iload_n d_X3_fillFrom_13 rfl rfl 2 rfl ?_
    exact (k4 c1)
theorem cs_X3_fillFrom_14 {L : Nat} {xs : Nat → Int32} {σ : ks_St} {mc ms : Nat} {P : ka_O → ks_St → Prop} {f : Int64 → ks_St → Prop} {a0 : Nat} {x1 : Int32} {x2 : Int32} {s1 : Int32} {s2 : Int64} {s3 : Int32} {s4 : Int32} (hK : ks_M L xs mX3_maskOf rm_X3_maskOf [.int s3, .int s4] σ (pl_ f)) (kr : ∀ r σ', f r σ' → ks_W L xs mX3_fillFrom rm_X3_fillFrom 17 [(0, .ref a0), (1, .int x1), (2, .int x2)] [.long r, .long s2, .int s1, .ref a0] σ' mc ms P) : ks_W L xs mX3_fillFrom rm_X3_fillFrom 14 [(0, .ref a0), (1, .int x1), (2, .int x2)] [.int s4, .int s3, .long s2, .int s1, .ref a0] σ mc ms P := by
  refine ks_callS (q := 17) (As := [.int s3, .int s4]) (st := [.long s2, .int s1, .ref a0]) d_X3_fillFrom_14 rfl rfl lk_X3_11 ⟨by decide, by decide⟩ (Nat.le_of_ble_eq_true rfl) ⟨Nat.le_refl _, Nat.le_refl _⟩ hK (fun v σ' hq => ?_) (fun E σ' hq => ?_)
  · obtain ⟨r, e, hf⟩ := hq; cases e; exact kr r σ' hf
  · obtain ⟨r, e, hf⟩ := hq; cases e
theorem sg_X3_fillFrom_17 {L : Nat} {xs : Nat → Int32} {σ : ks_St} {mc ms : Nat} {P : ka_O → ks_St → Prop} {a0 na0 : Nat} {x1 : Int32} {x2 : Int32} {s1 : Int32} {s2 : Int64} {s3 : Int64} (ha0 : rl_ a0 na0) (v1 : vp_in s1 na0) (k2 : ks_W L xs mX3_fillFrom rm_X3_fillFrom 2 [(0, .ref a0), (1, .int x1), (2, .int (x2 + 1))] [] (ug_ σ a0 (vp_updL (sg_ σ a0) s1.toNatClampNeg (s2 ||| (s3 ^^^ ((-1)))))) mc ms P) : ks_W L xs mX3_fillFrom rm_X3_fillFrom 17 [(0, .ref a0), (1, .int x1), (2, .int x2)] [.long s3, .long s2, .int s1, .ref a0] σ mc ms P := by
  refine ka_ldc2 (v := -1) d_X3_fillFrom_17 rfl kl_X3_9 ?_
  refine ka_lxor d_X3_fillFrom_20 rfl ?_
  refine ka_lor d_X3_fillFrom_21 rfl ?_
  refine ks_last ha0 d_X3_fillFrom_22 rfl v1 ?_
  refine ka_iinc (g := 2) (v := x2 + 1) (ls' := [(2, .int (x2 + 1)), (0, .ref a0), (1, .int x1)]) d_X3_fillFrom_23 rfl rfl rfl (by decide) rfl ?_
  refine ka_goto (q := 2) d_X3_fillFrom_26 (by decide) ?_
  refine ka_sub [1, 2, 0] rfl ?_
  exact k2
theorem d_X3_restBy_0 : decode cX3_restBy 0 = .ok (.iload_n 1, 1) := by decide +kernel
theorem d_X3_restBy_1 : decode cX3_restBy 1 = .ok (.ifCond .gt 5, 3) := by decide +kernel
theorem d_X3_restBy_4 : decode cX3_restBy 4 = .ok (.iconst 0, 1) := by decide +kernel
theorem d_X3_restBy_5 : decode cX3_restBy 5 = .ok (.ireturn, 1) := by decide +kernel
theorem d_X3_restBy_6 : decode cX3_restBy 6 = .ok (.lconst 0, 1) := by decide +kernel
theorem d_X3_restBy_7 : decode cX3_restBy 7 = .ok (.lstore_n 2, 1) := by decide +kernel
theorem d_X3_restBy_8 : decode cX3_restBy 8 = .ok (.aload_n 0, 1) := by decide +kernel
theorem d_X3_restBy_9 : decode cX3_restBy 9 = .ok (.arraylength, 1) := by decide +kernel
theorem d_X3_restBy_10 : decode cX3_restBy 10 = .ok (.iconst 1, 1) := by decide +kernel
theorem d_X3_restBy_11 : decode cX3_restBy 11 = .ok (.isub, 1) := by decide +kernel
theorem d_X3_restBy_12 : decode cX3_restBy 12 = .ok (.istore 4, 2) := by decide +kernel
theorem d_X3_restBy_14 : decode cX3_restBy 14 = .ok (.iload 4, 2) := by decide +kernel
theorem d_X3_restBy_16 : decode cX3_restBy 16 = .ok (.ifCond .lt 42, 3) := by decide +kernel
theorem d_X3_restBy_19 : decode cX3_restBy 19 = .ok (.lload_n 2, 1) := by decide +kernel
theorem d_X3_restBy_20 : decode cX3_restBy 20 = .ok (.bipush 32, 2) := by decide +kernel
theorem d_X3_restBy_22 : decode cX3_restBy 22 = .ok (.lshl, 1) := by decide +kernel
theorem d_X3_restBy_23 : decode cX3_restBy 23 = .ok (.aload_n 0, 1) := by decide +kernel
theorem d_X3_restBy_24 : decode cX3_restBy 24 = .ok (.iload 4, 2) := by decide +kernel
theorem d_X3_restBy_26 : decode cX3_restBy 26 = .ok (.laload, 1) := by decide +kernel
theorem d_X3_restBy_27 : decode cX3_restBy 27 = .ok (.bipush 32, 2) := by decide +kernel
theorem d_X3_restBy_29 : decode cX3_restBy 29 = .ok (.lushr, 1) := by decide +kernel
theorem d_X3_restBy_30 : decode cX3_restBy 30 = .ok (.lor, 1) := by decide +kernel
theorem d_X3_restBy_31 : decode cX3_restBy 31 = .ok (.iload_n 1, 1) := by decide +kernel
theorem d_X3_restBy_32 : decode cX3_restBy 32 = .ok (.i2l, 1) := by decide +kernel
theorem d_X3_restBy_33 : decode cX3_restBy 33 = .ok (.lrem, 1) := by decide +kernel
theorem d_X3_restBy_34 : decode cX3_restBy 34 = .ok (.lstore_n 2, 1) := by decide +kernel
theorem d_X3_restBy_35 : decode cX3_restBy 35 = .ok (.lload_n 2, 1) := by decide +kernel
theorem d_X3_restBy_36 : decode cX3_restBy 36 = .ok (.bipush 32, 2) := by decide +kernel
theorem d_X3_restBy_38 : decode cX3_restBy 38 = .ok (.lshl, 1) := by decide +kernel
theorem d_X3_restBy_39 : decode cX3_restBy 39 = .ok (.aload_n 0, 1) := by decide +kernel
theorem d_X3_restBy_40 : decode cX3_restBy 40 = .ok (.iload 4, 2) := by decide +kernel
theorem d_X3_restBy_42 : decode cX3_restBy 42 = .ok (.laload, 1) := by decide +kernel
theorem d_X3_restBy_43 : decode cX3_restBy 43 = .ok (.ldc2_w 28, 3) := by decide +kernel
theorem d_X3_restBy_46 : decode cX3_restBy 46 = .ok (.land, 1) := by decide +kernel
theorem d_X3_restBy_47 : decode cX3_restBy 47 = .ok (.lor, 1) := by decide +kernel
theorem d_X3_restBy_48 : decode cX3_restBy 48 = .ok (.iload_n 1, 1) := by decide +kernel
theorem d_X3_restBy_49 : decode cX3_restBy 49 = .ok (.i2l, 1) := by decide +kernel
theorem d_X3_restBy_50 : decode cX3_restBy 50 = .ok (.lrem, 1) := by decide +kernel
theorem d_X3_restBy_51 : decode cX3_restBy 51 = .ok (.lstore_n 2, 1) := by decide +kernel
theorem d_X3_restBy_52 : decode cX3_restBy 52 = .ok (.iinc 4 (-1), 3) := by decide +kernel
theorem d_X3_restBy_55 : decode cX3_restBy 55 = .ok (.goto (-41), 3) := by decide +kernel
theorem d_X3_restBy_58 : decode cX3_restBy 58 = .ok (.lload_n 2, 1) := by decide +kernel
theorem d_X3_restBy_59 : decode cX3_restBy 59 = .ok (.l2i, 1) := by decide +kernel
theorem d_X3_restBy_60 : decode cX3_restBy 60 = .ok (.ireturn, 1) := by decide +kernel
theorem sg_X3_restBy_0 {L : Nat} {xs : Nat → Int32} {σ : ks_St} {mc ms : Nat} {P : ka_O → ks_St → Prop} {a0 na0 : Nat} {x1 : Int32} (ha0 : rl_ a0 na0) (k2 : (0 < x1) → ks_W L xs mX3_restBy rm_X3_restBy 14 [(0, .ref a0), (1, .int x1), (2, .long 0), (4, .int ((nI na0) - 1))] [] σ mc ms P) (r3 : (¬ (0 < x1)) → P (.inl (some (.int 0))) σ) : ks_W L xs mX3_restBy rm_X3_restBy 0 [(0, .ref a0), (1, .int x1)] [] σ mc ms P := by
  refine ka_iload_n d_X3_restBy_0 rfl rfl 1 rfl ?_
  refine ka_if_gt (tgt := 6) d_X3_restBy_1 (by decide) rfl (fun c1 => ?_) (fun c1 => ?_)
  · refine ka_lconst (v := 0) d_X3_restBy_6 rfl (by decide) ?_
    refine ka_lstore_n (ls' := [(2, .long 0), (0, .ref a0), (1, .int x1)]) d_X3_restBy_7 rfl rfl (by decide) rfl ?_
    refine ka_aload_n d_X3_restBy_8 rfl rfl 1 rfl ?_
    refine ks_llen ha0 d_X3_restBy_9 rfl ?_
    refine ka_iconst (v := 1) d_X3_restBy_10 rfl (by decide) ?_
    refine ka_isub d_X3_restBy_11 rfl ?_
    refine ka_istore (ls' := [(4, .int ((nI na0) - 1)), (2, .long 0), (0, .ref a0), (1, .int x1)]) d_X3_restBy_12 rfl (by decide) rfl ?_
    refine ka_sub [2, 3, 1, 0] rfl ?_
    exact (k2 c1)
  · refine ka_iconst (v := 0) d_X3_restBy_4 rfl (by decide) ?_
    exact ks_iret (ty := .int) d_X3_restBy_5 rfl rfl (r3 c1)
theorem sg_X3_restBy_14 {L : Nat} {xs : Nat → Int32} {σ : ks_St} {mc ms : Nat} {P : ka_O → ks_St → Prop} {a0 na0 : Nat} {x1 : Int32} {x2 : Int64} {x4 : Int32} (ha0 : rl_ a0 na0) (r2 : (x4 < 0) → P (.inl (some (.int (x2.toInt32)))) σ) (v3 : (¬ (x4 < 0)) → vp_in x4 na0) (z4 : (¬ (x4 < 0)) → ¬ (x1.toInt64) = 0) (v5 : (¬ (x4 < 0)) → vp_in x4 na0) (z6 : (¬ (x4 < 0)) → ¬ (x1.toInt64) = 0) (k7 : (¬ (x4 < 0)) → ks_W L xs mX3_restBy rm_X3_restBy 14 [(0, .ref a0), (1, .int x1), (2, .long ((((((x2 <<< (((32 : Int32)).toInt64 &&& 63)) ||| ((((sg_ σ a0 x4.toNatClampNeg)).toUInt64 >>> (((32 : Int32)).toInt64.toUInt64 &&& Int64.toUInt64 63)).toInt64)) - ((x2 <<< (((32 : Int32)).toInt64 &&& 63)) ||| ((((sg_ σ a0 x4.toNatClampNeg)).toUInt64 >>> (((32 : Int32)).toInt64.toUInt64 &&& Int64.toUInt64 63)).toInt64)) / (x1.toInt64) * (x1.toInt64)) <<< (((32 : Int32)).toInt64 &&& 63)) ||| ((sg_ σ a0 x4.toNatClampNeg) &&& 4294967295)) - (((((x2 <<< (((32 : Int32)).toInt64 &&& 63)) ||| ((((sg_ σ a0 x4.toNatClampNeg)).toUInt64 >>> (((32 : Int32)).toInt64.toUInt64 &&& Int64.toUInt64 63)).toInt64)) - ((x2 <<< (((32 : Int32)).toInt64 &&& 63)) ||| ((((sg_ σ a0 x4.toNatClampNeg)).toUInt64 >>> (((32 : Int32)).toInt64.toUInt64 &&& Int64.toUInt64 63)).toInt64)) / (x1.toInt64) * (x1.toInt64)) <<< (((32 : Int32)).toInt64 &&& 63)) ||| ((sg_ σ a0 x4.toNatClampNeg) &&& 4294967295)) / (x1.toInt64) * (x1.toInt64))), (4, .int (x4 + (-1)))] [] σ mc ms P) : ks_W L xs mX3_restBy rm_X3_restBy 14 [(0, .ref a0), (1, .int x1), (2, .long x2), (4, .int x4)] [] σ mc ms P := by
  refine ka_iload d_X3_restBy_14 rfl 3 rfl ?_
  refine ka_if_lt (tgt := 58) d_X3_restBy_16 (by decide) rfl (fun c1 => ?_) (fun c1 => ?_)
  · refine ka_lload_n d_X3_restBy_58 rfl rfl 2 rfl ?_
    refine ka_l2i d_X3_restBy_59 rfl ?_
    exact ks_iret (ty := .int) d_X3_restBy_60 rfl rfl (r2 c1)
  · refine ka_lload_n d_X3_restBy_19 rfl rfl 2 rfl ?_
    refine ka_bipush (v := 32) d_X3_restBy_20 rfl (by decide) ?_
    refine ka_lshl d_X3_restBy_22 rfl ?_
    refine ka_aload_n d_X3_restBy_23 rfl rfl 0 rfl ?_
    refine ka_iload d_X3_restBy_24 rfl 3 rfl ?_
    refine ks_lald ha0 d_X3_restBy_26 rfl (v3 c1) ?_
    refine ka_bipush (v := 32) d_X3_restBy_27 rfl (by decide) ?_
    refine ka_lushr d_X3_restBy_29 rfl ?_
    refine ka_lor d_X3_restBy_30 rfl ?_
    refine ka_iload_n d_X3_restBy_31 rfl rfl 1 rfl ?_
    refine ka_i2l d_X3_restBy_32 rfl ?_
    refine ka_lrem d_X3_restBy_33 rfl (z4 c1) ?_
    refine ka_lstore_n (ls' := [(2, .long (((x2 <<< (((32 : Int32)).toInt64 &&& 63)) ||| ((((sg_ σ a0 x4.toNatClampNeg)).toUInt64 >>> (((32 : Int32)).toInt64.toUInt64 &&& Int64.toUInt64 63)).toInt64)) - ((x2 <<< (((32 : Int32)).toInt64 &&& 63)) ||| ((((sg_ σ a0 x4.toNatClampNeg)).toUInt64 >>> (((32 : Int32)).toInt64.toUInt64 &&& Int64.toUInt64 63)).toInt64)) / (x1.toInt64) * (x1.toInt64))), (0, .ref a0), (1, .int x1), (4, .int x4)]) d_X3_restBy_34 rfl rfl (by decide) rfl ?_
    refine ka_lload_n d_X3_restBy_35 rfl rfl 0 rfl ?_
    refine ka_bipush (v := 32) d_X3_restBy_36 rfl (by decide) ?_
    refine ka_lshl d_X3_restBy_38 rfl ?_
    refine ka_aload_n d_X3_restBy_39 rfl rfl 1 rfl ?_
    refine ka_iload d_X3_restBy_40 rfl 3 rfl ?_
    refine ks_lald ha0 d_X3_restBy_42 rfl (v5 c1) ?_
    refine ka_ldc2 (v := 4294967295) d_X3_restBy_43 rfl kl_X3_28 ?_
    refine ka_land d_X3_restBy_46 rfl ?_
    refine ka_lor d_X3_restBy_47 rfl ?_
    refine ka_iload_n d_X3_restBy_48 rfl rfl 2 rfl ?_
    refine ka_i2l d_X3_restBy_49 rfl ?_
    refine ka_lrem d_X3_restBy_50 rfl (z6 c1) ?_
    refine ka_lstore_n (ls' := [(2, .long ((((((x2 <<< (((32 : Int32)).toInt64 &&& 63)) ||| ((((sg_ σ a0 x4.toNatClampNeg)).toUInt64 >>> (((32 : Int32)).toInt64.toUInt64 &&& Int64.toUInt64 63)).toInt64)) - ((x2 <<< (((32 : Int32)).toInt64 &&& 63)) ||| ((((sg_ σ a0 x4.toNatClampNeg)).toUInt64 >>> (((32 : Int32)).toInt64.toUInt64 &&& Int64.toUInt64 63)).toInt64)) / (x1.toInt64) * (x1.toInt64)) <<< (((32 : Int32)).toInt64 &&& 63)) ||| ((sg_ σ a0 x4.toNatClampNeg) &&& 4294967295)) - (((((x2 <<< (((32 : Int32)).toInt64 &&& 63)) ||| ((((sg_ σ a0 x4.toNatClampNeg)).toUInt64 >>> (((32 : Int32)).toInt64.toUInt64 &&& Int64.toUInt64 63)).toInt64)) - ((x2 <<< (((32 : Int32)).toInt64 &&& 63)) ||| ((((sg_ σ a0 x4.toNatClampNeg)).toUInt64 >>> (((32 : Int32)).toInt64.toUInt64 &&& Int64.toUInt64 63)).toInt64)) / (x1.toInt64) * (x1.toInt64)) <<< (((32 : Int32)).toInt64 &&& 63)) ||| ((sg_ σ a0 x4.toNatClampNeg) &&& 4294967295)) / (x1.toInt64) * (x1.toInt64))), (0, .ref a0), (1, .int x1), (4, .int x4)]) d_X3_restBy_51 rfl rfl (by decide) rfl ?_
    refine ka_iinc (g := 3) (v := x4 + (-1)) (ls' := [(4, .int (x4 + (-1))), (2, .long ((((((x2 <<< (((32 : Int32)).toInt64 &&& 63)) ||| ((((sg_ σ a0 x4.toNatClampNeg)).toUInt64 >>> (((32 : Int32)).toInt64.toUInt64 &&& Int64.toUInt64 63)).toInt64)) - ((x2 <<< (((32 : Int32)).toInt64 &&& 63)) ||| ((((sg_ σ a0 x4.toNatClampNeg)).toUInt64 >>> (((32 : Int32)).toInt64.toUInt64 &&& Int64.toUInt64 63)).toInt64)) / (x1.toInt64) * (x1.toInt64)) <<< (((32 : Int32)).toInt64 &&& 63)) ||| ((sg_ σ a0 x4.toNatClampNeg) &&& 4294967295)) - (((((x2 <<< (((32 : Int32)).toInt64 &&& 63)) ||| ((((sg_ σ a0 x4.toNatClampNeg)).toUInt64 >>> (((32 : Int32)).toInt64.toUInt64 &&& Int64.toUInt64 63)).toInt64)) - ((x2 <<< (((32 : Int32)).toInt64 &&& 63)) ||| ((((sg_ σ a0 x4.toNatClampNeg)).toUInt64 >>> (((32 : Int32)).toInt64.toUInt64 &&& Int64.toUInt64 63)).toInt64)) / (x1.toInt64) * (x1.toInt64)) <<< (((32 : Int32)).toInt64 &&& 63)) ||| ((sg_ σ a0 x4.toNatClampNeg) &&& 4294967295)) / (x1.toInt64) * (x1.toInt64))), (0, .ref a0), (1, .int x1)]) d_X3_restBy_52 rfl rfl rfl (by decide) rfl ?_
    refine ka_goto (q := 14) d_X3_restBy_55 (by decide) ?_
    refine ka_sub [2, 3, 1, 0] rfl ?_
    exact (k7 c1)
theorem d_X3_orMovedUp_0 : decode cX3_orMovedUp 0 = .ok (.iconst 0, 1) := by decide +kernel
theorem d_X3_orMovedUp_1 : decode cX3_orMovedUp 1 = .ok (.istore_n 3, 1) := by decide +kernel
theorem d_X3_orMovedUp_2 : decode cX3_orMovedUp 2 = .ok (.iload_n 3, 1) := by decide +kernel
theorem d_X3_orMovedUp_3 : decode cX3_orMovedUp 3 = .ok (.aload_n 2, 1) := by decide +kernel
theorem d_X3_orMovedUp_4 : decode cX3_orMovedUp 4 = .ok (.arraylength, 1) := by decide +kernel
theorem d_X3_orMovedUp_5 : decode cX3_orMovedUp 5 = .ok (.if_icmp .ge 25, 3) := by decide +kernel
theorem d_X3_orMovedUp_8 : decode cX3_orMovedUp 8 = .ok (.aload_n 2, 1) := by decide +kernel
theorem d_X3_orMovedUp_9 : decode cX3_orMovedUp 9 = .ok (.iload_n 3, 1) := by decide +kernel
theorem d_X3_orMovedUp_10 : decode cX3_orMovedUp 10 = .ok (.dup2, 1) := by decide +kernel
theorem d_X3_orMovedUp_11 : decode cX3_orMovedUp 11 = .ok (.laload, 1) := by decide +kernel
theorem d_X3_orMovedUp_12 : decode cX3_orMovedUp 12 = .ok (.aload_n 0, 1) := by decide +kernel
theorem d_X3_orMovedUp_13 : decode cX3_orMovedUp 13 = .ok (.iload_n 3, 1) := by decide +kernel
theorem d_X3_orMovedUp_14 : decode cX3_orMovedUp 14 = .ok (.bipush 64, 2) := by decide +kernel
theorem d_X3_orMovedUp_16 : decode cX3_orMovedUp 16 = .ok (.imul, 1) := by decide +kernel
theorem d_X3_orMovedUp_17 : decode cX3_orMovedUp 17 = .ok (.iload_n 1, 1) := by decide +kernel
theorem d_X3_orMovedUp_18 : decode cX3_orMovedUp 18 = .ok (.isub, 1) := by decide +kernel
theorem d_X3_orMovedUp_19 : decode cX3_orMovedUp 19 = .ok (.invokestatic 21, 3) := by decide +kernel
theorem d_X3_orMovedUp_22 : decode cX3_orMovedUp 22 = .ok (.lor, 1) := by decide +kernel
theorem d_X3_orMovedUp_23 : decode cX3_orMovedUp 23 = .ok (.lastore, 1) := by decide +kernel
theorem d_X3_orMovedUp_24 : decode cX3_orMovedUp 24 = .ok (.iinc 3 1, 3) := by decide +kernel
theorem d_X3_orMovedUp_27 : decode cX3_orMovedUp 27 = .ok (.goto (-25), 3) := by decide +kernel
theorem d_X3_orMovedUp_30 : decode cX3_orMovedUp 30 = .ok (.return_, 1) := by decide +kernel
theorem sg_X3_orMovedUp_0 {L : Nat} {xs : Nat → Int32} {σ : ks_St} {mc ms : Nat} {P : ka_O → ks_St → Prop} {a0 na0 : Nat} {x1 : Int32} {a2 na2 : Nat} (ha0 : rl_ a0 na0) (ha2 : rl_ a2 na2) (k1 : ks_W L xs mX3_orMovedUp rm_X3_orMovedUp 2 [(0, .ref a0), (1, .int x1), (2, .ref a2), (3, .int 0)] [] σ mc ms P) : ks_W L xs mX3_orMovedUp rm_X3_orMovedUp 0 [(0, .ref a0), (1, .int x1), (2, .ref a2)] [] σ mc ms P := by
  refine ka_iconst (v := 0) d_X3_orMovedUp_0 rfl (by decide) ?_
  refine ka_istore_n (ls' := [(3, .int 0), (0, .ref a0), (1, .int x1), (2, .ref a2)]) d_X3_orMovedUp_1 rfl rfl (by decide) rfl ?_
  refine ka_sub [1, 2, 3, 0] rfl ?_
  exact k1
theorem sg_X3_orMovedUp_2 {L : Nat} {xs : Nat → Int32} {σ : ks_St} {mc ms : Nat} {P : ka_O → ks_St → Prop} {a0 na0 : Nat} {x1 : Int32} {a2 na2 : Nat} {x3 : Int32} (ha0 : rl_ a0 na0) (ha2 : rl_ a2 na2) (r2 : ((nI na2) ≤ x3) → P (.inl none) σ) (v3 : (¬ ((nI na2) ≤ x3)) → vp_in x3 na2) (k4 : (¬ ((nI na2) ≤ x3)) → ks_W L xs mX3_orMovedUp rm_X3_orMovedUp 19 [(0, .ref a0), (1, .int x1), (2, .ref a2), (3, .int x3)] [.int ((x3 * 64) - x1), .ref a0, .long (sg_ σ a2 x3.toNatClampNeg), .int x3, .ref a2] σ mc ms P) : ks_W L xs mX3_orMovedUp rm_X3_orMovedUp 2 [(0, .ref a0), (1, .int x1), (2, .ref a2), (3, .int x3)] [] σ mc ms P := by
  refine ka_iload_n d_X3_orMovedUp_2 rfl rfl 3 rfl ?_
  refine ka_aload_n d_X3_orMovedUp_3 rfl rfl 2 rfl ?_
  refine ks_llen ha2 d_X3_orMovedUp_4 rfl ?_
  refine ka_icmp_ge (tgt := 30) d_X3_orMovedUp_5 (by decide) rfl (fun c1 => ?_) (fun c1 => ?_)
  · exact ks_vret d_X3_orMovedUp_30 rfl (r2 c1)
  · refine ka_aload_n d_X3_orMovedUp_8 rfl rfl 2 rfl ?_
    refine ka_iload_n d_X3_orMovedUp_9 rfl rfl 3 rfl ?_
    refine ka_dup2 d_X3_orMovedUp_10 rfl rfl rfl ?_
    refine ks_lald ha2 d_X3_orMovedUp_11 rfl (v3 c1) ?_
    refine ka_aload_n d_X3_orMovedUp_12 rfl rfl 0 rfl ?_
    refine ka_iload_n d_X3_orMovedUp_13 rfl rfl 3 rfl ?_
    refine ka_bipush (v := 64) d_X3_orMovedUp_14 rfl (by decide) ?_
    refine ka_imul d_X3_orMovedUp_16 rfl ?_
    refine ka_iload_n d_X3_orMovedUp_17 rfl rfl 1 rfl ?_
    refine ka_isub d_X3_orMovedUp_18 rfl ?_
    exact (k4 c1)
theorem cs_X3_orMovedUp_19 {L : Nat} {xs : Nat → Int32} {σ : ks_St} {mc ms : Nat} {P : ka_O → ks_St → Prop} {f : Int64 → ks_St → Prop} {a0 : Nat} {x1 : Int32} {a2 : Nat} {x3 : Int32} {s1 : Int32} {s2 : Int64} {s4 : Int32} (hK : ks_M L xs mX3_bitsFrom rm_X3_bitsFrom [.ref a0, .int s4] σ (pl_ f)) (kr : ∀ r σ', f r σ' → ks_W L xs mX3_orMovedUp rm_X3_orMovedUp 22 [(0, .ref a0), (1, .int x1), (2, .ref a2), (3, .int x3)] [.long r, .long s2, .int s1, .ref a2] σ' mc ms P) : ks_W L xs mX3_orMovedUp rm_X3_orMovedUp 19 [(0, .ref a0), (1, .int x1), (2, .ref a2), (3, .int x3)] [.int s4, .ref a0, .long s2, .int s1, .ref a2] σ mc ms P := by
  refine ks_callS (q := 22) (As := [.ref a0, .int s4]) (st := [.long s2, .int s1, .ref a2]) d_X3_orMovedUp_19 rfl rfl lk_X3_21 ⟨by decide, by decide⟩ (Nat.le_of_ble_eq_true rfl) ⟨Nat.le_refl _, Nat.le_refl _⟩ hK (fun v σ' hq => ?_) (fun E σ' hq => ?_)
  · obtain ⟨r, e, hf⟩ := hq; cases e; exact kr r σ' hf
  · obtain ⟨r, e, hf⟩ := hq; cases e
theorem sg_X3_orMovedUp_22 {L : Nat} {xs : Nat → Int32} {σ : ks_St} {mc ms : Nat} {P : ka_O → ks_St → Prop} {a0 na0 : Nat} {x1 : Int32} {a2 na2 : Nat} {x3 : Int32} {s1 : Int32} {s2 : Int64} {s3 : Int64} (ha0 : rl_ a0 na0) (ha2 : rl_ a2 na2) (v1 : vp_in s1 na2) (k2 : ks_W L xs mX3_orMovedUp rm_X3_orMovedUp 2 [(0, .ref a0), (1, .int x1), (2, .ref a2), (3, .int (x3 + 1))] [] (ug_ σ a2 (vp_updL (sg_ σ a2) s1.toNatClampNeg (s2 ||| s3))) mc ms P) : ks_W L xs mX3_orMovedUp rm_X3_orMovedUp 22 [(0, .ref a0), (1, .int x1), (2, .ref a2), (3, .int x3)] [.long s3, .long s2, .int s1, .ref a2] σ mc ms P := by
  refine ka_lor d_X3_orMovedUp_22 rfl ?_
  refine ks_last ha2 d_X3_orMovedUp_23 rfl v1 ?_
  refine ka_iinc (g := 3) (v := x3 + 1) (ls' := [(3, .int (x3 + 1)), (0, .ref a0), (1, .int x1), (2, .ref a2)]) d_X3_orMovedUp_24 rfl rfl rfl (by decide) rfl ?_
  refine ka_goto (q := 2) d_X3_orMovedUp_27 (by decide) ?_
  refine ka_sub [1, 2, 3, 0] rfl ?_
  exact k2
theorem d_X3_swapped_0 : decode cX3_swapped 0 = .ok (.lload_n 0, 1) := by decide +kernel
theorem d_X3_swapped_1 : decode cX3_swapped 1 = .ok (.iload 4, 2) := by decide +kernel
theorem d_X3_swapped_3 : decode cX3_swapped 3 = .ok (.lushr, 1) := by decide +kernel
theorem d_X3_swapped_4 : decode cX3_swapped 4 = .ok (.lload_n 2, 1) := by decide +kernel
theorem d_X3_swapped_5 : decode cX3_swapped 5 = .ok (.land, 1) := by decide +kernel
theorem d_X3_swapped_6 : decode cX3_swapped 6 = .ok (.lload_n 0, 1) := by decide +kernel
theorem d_X3_swapped_7 : decode cX3_swapped 7 = .ok (.lload_n 2, 1) := by decide +kernel
theorem d_X3_swapped_8 : decode cX3_swapped 8 = .ok (.land, 1) := by decide +kernel
theorem d_X3_swapped_9 : decode cX3_swapped 9 = .ok (.iload 4, 2) := by decide +kernel
theorem d_X3_swapped_11 : decode cX3_swapped 11 = .ok (.lshl, 1) := by decide +kernel
theorem d_X3_swapped_12 : decode cX3_swapped 12 = .ok (.lor, 1) := by decide +kernel
theorem d_X3_swapped_13 : decode cX3_swapped 13 = .ok (.lreturn, 1) := by decide +kernel
theorem sg_X3_swapped_0 {L : Nat} {xs : Nat → Int32} {σ : ks_St} {mc ms : Nat} {P : ka_O → ks_St → Prop} {x0 : Int64} {x2 : Int64} {x4 : Int32}  (r1 : P (.inl (some (.long (((((x0).toUInt64 >>> ((x4).toInt64.toUInt64 &&& Int64.toUInt64 63)).toInt64) &&& x2) ||| ((x0 &&& x2) <<< ((x4).toInt64 &&& 63)))))) σ) : ks_W L xs mX3_swapped rm_X3_swapped 0 [(0, .long x0), (2, .long x2), (4, .int x4)] [] σ mc ms P := by
  refine ka_lload_n d_X3_swapped_0 rfl rfl 0 rfl ?_
  refine ka_iload d_X3_swapped_1 rfl 2 rfl ?_
  refine ka_lushr d_X3_swapped_3 rfl ?_
  refine ka_lload_n d_X3_swapped_4 rfl rfl 1 rfl ?_
  refine ka_land d_X3_swapped_5 rfl ?_
  refine ka_lload_n d_X3_swapped_6 rfl rfl 0 rfl ?_
  refine ka_lload_n d_X3_swapped_7 rfl rfl 1 rfl ?_
  refine ka_land d_X3_swapped_8 rfl ?_
  refine ka_iload d_X3_swapped_9 rfl 2 rfl ?_
  refine ka_lshl d_X3_swapped_11 rfl ?_
  refine ka_lor d_X3_swapped_12 rfl ?_
  exact ks_lret d_X3_swapped_13 rfl r1
theorem d_X3_bytesReversed_0 : decode cX3_bytesReversed 0 = .ok (.lload_n 0, 1) := by decide +kernel
theorem d_X3_bytesReversed_1 : decode cX3_bytesReversed 1 = .ok (.ldc2_w 34, 3) := by decide +kernel
theorem d_X3_bytesReversed_4 : decode cX3_bytesReversed 4 = .ok (.bipush 8, 2) := by decide +kernel
theorem d_X3_bytesReversed_6 : decode cX3_bytesReversed 6 = .ok (.invokestatic 36, 3) := by decide +kernel
theorem d_X3_bytesReversed_9 : decode cX3_bytesReversed 9 = .ok (.lstore_n 2, 1) := by decide +kernel
theorem d_X3_bytesReversed_10 : decode cX3_bytesReversed 10 = .ok (.lload_n 2, 1) := by decide +kernel
theorem d_X3_bytesReversed_11 : decode cX3_bytesReversed 11 = .ok (.ldc2_w 40, 3) := by decide +kernel
theorem d_X3_bytesReversed_14 : decode cX3_bytesReversed 14 = .ok (.bipush 16, 2) := by decide +kernel
theorem d_X3_bytesReversed_16 : decode cX3_bytesReversed 16 = .ok (.invokestatic 36, 3) := by decide +kernel
theorem d_X3_bytesReversed_19 : decode cX3_bytesReversed 19 = .ok (.ldc2_w 28, 3) := by decide +kernel
theorem d_X3_bytesReversed_22 : decode cX3_bytesReversed 22 = .ok (.bipush 32, 2) := by decide +kernel
theorem d_X3_bytesReversed_24 : decode cX3_bytesReversed 24 = .ok (.invokestatic 36, 3) := by decide +kernel
theorem d_X3_bytesReversed_27 : decode cX3_bytesReversed 27 = .ok (.lreturn, 1) := by decide +kernel
theorem sg_X3_bytesReversed_0 {L : Nat} {xs : Nat → Int32} {σ : ks_St} {mc ms : Nat} {P : ka_O → ks_St → Prop} {x0 : Int64}  (k1 : ks_W L xs mX3_bytesReversed rm_X3_bytesReversed 6 [] [.int 8, .long 71777214294589695, .long x0] σ mc ms P) : ks_W L xs mX3_bytesReversed rm_X3_bytesReversed 0 [(0, .long x0)] [] σ mc ms P := by
  refine ka_lload_n d_X3_bytesReversed_0 rfl rfl 0 rfl ?_
  refine ka_ldc2 (v := 71777214294589695) d_X3_bytesReversed_1 rfl kl_X3_34 ?_
  refine ka_bipush (v := 8) d_X3_bytesReversed_4 rfl (by decide) ?_
  refine ka_sub [] rfl ?_
  exact k1
theorem cs_X3_bytesReversed_6 {L : Nat} {xs : Nat → Int32} {σ : ks_St} {mc ms : Nat} {P : ka_O → ks_St → Prop} {f : Int64 → ks_St → Prop} {s0 : Int64} {s1 : Int64} {s2 : Int32} (hK : ks_M L xs mX3_swapped rm_X3_swapped [.long s0, .long s1, .int s2] σ (pl_ f)) (kr : ∀ r σ', f r σ' → ks_W L xs mX3_bytesReversed rm_X3_bytesReversed 9 [] [.long r] σ' mc ms P) : ks_W L xs mX3_bytesReversed rm_X3_bytesReversed 6 [] [.int s2, .long s1, .long s0] σ mc ms P := by
  refine ks_callS (q := 9) (As := [.long s0, .long s1, .int s2]) (st := []) d_X3_bytesReversed_6 rfl rfl lk_X3_36 ⟨by decide, by decide⟩ (Nat.le_of_ble_eq_true rfl) ⟨Nat.le_refl _, Nat.le_refl _⟩ hK (fun v σ' hq => ?_) (fun E σ' hq => ?_)
  · obtain ⟨r, e, hf⟩ := hq; cases e; exact kr r σ' hf
  · obtain ⟨r, e, hf⟩ := hq; cases e
theorem sg_X3_bytesReversed_9 {L : Nat} {xs : Nat → Int32} {σ : ks_St} {mc ms : Nat} {P : ka_O → ks_St → Prop} {s0 : Int64}  (k1 : ks_W L xs mX3_bytesReversed rm_X3_bytesReversed 16 [] [.int 16, .long 281470681808895, .long s0] σ mc ms P) : ks_W L xs mX3_bytesReversed rm_X3_bytesReversed 9 [] [.long s0] σ mc ms P := by
  refine ka_lstore_n (ls' := [(2, .long s0)]) d_X3_bytesReversed_9 rfl rfl (by decide) rfl ?_
  refine ka_lload_n d_X3_bytesReversed_10 rfl rfl 0 rfl ?_
  refine ka_ldc2 (v := 281470681808895) d_X3_bytesReversed_11 rfl kl_X3_40 ?_
  refine ka_bipush (v := 16) d_X3_bytesReversed_14 rfl (by decide) ?_
  refine ka_sub [] rfl ?_
  exact k1
theorem cs_X3_bytesReversed_16 {L : Nat} {xs : Nat → Int32} {σ : ks_St} {mc ms : Nat} {P : ka_O → ks_St → Prop} {f : Int64 → ks_St → Prop} {s0 : Int64} {s1 : Int64} {s2 : Int32} (hK : ks_M L xs mX3_swapped rm_X3_swapped [.long s0, .long s1, .int s2] σ (pl_ f)) (kr : ∀ r σ', f r σ' → ks_W L xs mX3_bytesReversed rm_X3_bytesReversed 19 [] [.long r] σ' mc ms P) : ks_W L xs mX3_bytesReversed rm_X3_bytesReversed 16 [] [.int s2, .long s1, .long s0] σ mc ms P := by
  refine ks_callS (q := 19) (As := [.long s0, .long s1, .int s2]) (st := []) d_X3_bytesReversed_16 rfl rfl lk_X3_36 ⟨by decide, by decide⟩ (Nat.le_of_ble_eq_true rfl) ⟨Nat.le_refl _, Nat.le_refl _⟩ hK (fun v σ' hq => ?_) (fun E σ' hq => ?_)
  · obtain ⟨r, e, hf⟩ := hq; cases e; exact kr r σ' hf
  · obtain ⟨r, e, hf⟩ := hq; cases e
theorem sg_X3_bytesReversed_19 {L : Nat} {xs : Nat → Int32} {σ : ks_St} {mc ms : Nat} {P : ka_O → ks_St → Prop} {s0 : Int64}  (k1 : ks_W L xs mX3_bytesReversed rm_X3_bytesReversed 24 [] [.int 32, .long 4294967295, .long s0] σ mc ms P) : ks_W L xs mX3_bytesReversed rm_X3_bytesReversed 19 [] [.long s0] σ mc ms P := by
  refine ka_ldc2 (v := 4294967295) d_X3_bytesReversed_19 rfl kl_X3_28 ?_
  refine ka_bipush (v := 32) d_X3_bytesReversed_22 rfl (by decide) ?_
  exact k1
theorem cs_X3_bytesReversed_24 {L : Nat} {xs : Nat → Int32} {σ : ks_St} {mc ms : Nat} {P : ka_O → ks_St → Prop} {f : Int64 → ks_St → Prop} {s0 : Int64} {s1 : Int64} {s2 : Int32} (hK : ks_M L xs mX3_swapped rm_X3_swapped [.long s0, .long s1, .int s2] σ (pl_ f)) (kr : ∀ r σ', f r σ' → ks_W L xs mX3_bytesReversed rm_X3_bytesReversed 27 [] [.long r] σ' mc ms P) : ks_W L xs mX3_bytesReversed rm_X3_bytesReversed 24 [] [.int s2, .long s1, .long s0] σ mc ms P := by
  refine ks_callS (q := 27) (As := [.long s0, .long s1, .int s2]) (st := []) d_X3_bytesReversed_24 rfl rfl lk_X3_36 ⟨by decide, by decide⟩ (Nat.le_of_ble_eq_true rfl) ⟨Nat.le_refl _, Nat.le_refl _⟩ hK (fun v σ' hq => ?_) (fun E σ' hq => ?_)
  · obtain ⟨r, e, hf⟩ := hq; cases e; exact kr r σ' hf
  · obtain ⟨r, e, hf⟩ := hq; cases e
theorem sg_X3_bytesReversed_27 {L : Nat} {xs : Nat → Int32} {σ : ks_St} {mc ms : Nat} {P : ka_O → ks_St → Prop} {s0 : Int64}  (r1 : P (.inl (some (.long s0))) σ) : ks_W L xs mX3_bytesReversed rm_X3_bytesReversed 27 [] [.long s0] σ mc ms P := by
  exact ks_lret d_X3_bytesReversed_27 rfl r1
theorem d_X3_bitsReversed_0 : decode cX3_bitsReversed 0 = .ok (.lload_n 0, 1) := by decide +kernel
theorem d_X3_bitsReversed_1 : decode cX3_bitsReversed 1 = .ok (.ldc2_w 42, 3) := by decide +kernel
theorem d_X3_bitsReversed_4 : decode cX3_bitsReversed 4 = .ok (.iconst 1, 1) := by decide +kernel
theorem d_X3_bitsReversed_5 : decode cX3_bitsReversed 5 = .ok (.invokestatic 36, 3) := by decide +kernel
theorem d_X3_bitsReversed_8 : decode cX3_bitsReversed 8 = .ok (.lstore_n 2, 1) := by decide +kernel
theorem d_X3_bitsReversed_9 : decode cX3_bitsReversed 9 = .ok (.lload_n 2, 1) := by decide +kernel
theorem d_X3_bitsReversed_10 : decode cX3_bitsReversed 10 = .ok (.ldc2_w 44, 3) := by decide +kernel
theorem d_X3_bitsReversed_13 : decode cX3_bitsReversed 13 = .ok (.iconst 2, 1) := by decide +kernel
theorem d_X3_bitsReversed_14 : decode cX3_bitsReversed 14 = .ok (.invokestatic 36, 3) := by decide +kernel
theorem d_X3_bitsReversed_17 : decode cX3_bitsReversed 17 = .ok (.lstore 4, 2) := by decide +kernel
theorem d_X3_bitsReversed_19 : decode cX3_bitsReversed 19 = .ok (.lload 4, 2) := by decide +kernel
theorem d_X3_bitsReversed_21 : decode cX3_bitsReversed 21 = .ok (.ldc2_w 46, 3) := by decide +kernel
theorem d_X3_bitsReversed_24 : decode cX3_bitsReversed 24 = .ok (.iconst 4, 1) := by decide +kernel
theorem d_X3_bitsReversed_25 : decode cX3_bitsReversed 25 = .ok (.invokestatic 36, 3) := by decide +kernel
theorem d_X3_bitsReversed_28 : decode cX3_bitsReversed 28 = .ok (.invokestatic 48, 3) := by decide +kernel
theorem d_X3_bitsReversed_31 : decode cX3_bitsReversed 31 = .ok (.lreturn, 1) := by decide +kernel
theorem sg_X3_bitsReversed_0 {L : Nat} {xs : Nat → Int32} {σ : ks_St} {mc ms : Nat} {P : ka_O → ks_St → Prop} {x0 : Int64}  (k1 : ks_W L xs mX3_bitsReversed rm_X3_bitsReversed 5 [] [.int 1, .long 6148914691236517205, .long x0] σ mc ms P) : ks_W L xs mX3_bitsReversed rm_X3_bitsReversed 0 [(0, .long x0)] [] σ mc ms P := by
  refine ka_lload_n d_X3_bitsReversed_0 rfl rfl 0 rfl ?_
  refine ka_ldc2 (v := 6148914691236517205) d_X3_bitsReversed_1 rfl kl_X3_42 ?_
  refine ka_iconst (v := 1) d_X3_bitsReversed_4 rfl (by decide) ?_
  refine ka_sub [] rfl ?_
  exact k1
theorem cs_X3_bitsReversed_5 {L : Nat} {xs : Nat → Int32} {σ : ks_St} {mc ms : Nat} {P : ka_O → ks_St → Prop} {f : Int64 → ks_St → Prop} {s0 : Int64} {s1 : Int64} {s2 : Int32} (hK : ks_M L xs mX3_swapped rm_X3_swapped [.long s0, .long s1, .int s2] σ (pl_ f)) (kr : ∀ r σ', f r σ' → ks_W L xs mX3_bitsReversed rm_X3_bitsReversed 8 [] [.long r] σ' mc ms P) : ks_W L xs mX3_bitsReversed rm_X3_bitsReversed 5 [] [.int s2, .long s1, .long s0] σ mc ms P := by
  refine ks_callS (q := 8) (As := [.long s0, .long s1, .int s2]) (st := []) d_X3_bitsReversed_5 rfl rfl lk_X3_36 ⟨by decide, by decide⟩ (Nat.le_of_ble_eq_true rfl) ⟨Nat.le_refl _, Nat.le_refl _⟩ hK (fun v σ' hq => ?_) (fun E σ' hq => ?_)
  · obtain ⟨r, e, hf⟩ := hq; cases e; exact kr r σ' hf
  · obtain ⟨r, e, hf⟩ := hq; cases e
theorem sg_X3_bitsReversed_8 {L : Nat} {xs : Nat → Int32} {σ : ks_St} {mc ms : Nat} {P : ka_O → ks_St → Prop} {s0 : Int64}  (k1 : ks_W L xs mX3_bitsReversed rm_X3_bitsReversed 14 [] [.int 2, .long 3689348814741910323, .long s0] σ mc ms P) : ks_W L xs mX3_bitsReversed rm_X3_bitsReversed 8 [] [.long s0] σ mc ms P := by
  refine ka_lstore_n (ls' := [(2, .long s0)]) d_X3_bitsReversed_8 rfl rfl (by decide) rfl ?_
  refine ka_lload_n d_X3_bitsReversed_9 rfl rfl 0 rfl ?_
  refine ka_ldc2 (v := 3689348814741910323) d_X3_bitsReversed_10 rfl kl_X3_44 ?_
  refine ka_iconst (v := 2) d_X3_bitsReversed_13 rfl (by decide) ?_
  refine ka_sub [] rfl ?_
  exact k1
theorem cs_X3_bitsReversed_14 {L : Nat} {xs : Nat → Int32} {σ : ks_St} {mc ms : Nat} {P : ka_O → ks_St → Prop} {f : Int64 → ks_St → Prop} {s0 : Int64} {s1 : Int64} {s2 : Int32} (hK : ks_M L xs mX3_swapped rm_X3_swapped [.long s0, .long s1, .int s2] σ (pl_ f)) (kr : ∀ r σ', f r σ' → ks_W L xs mX3_bitsReversed rm_X3_bitsReversed 17 [] [.long r] σ' mc ms P) : ks_W L xs mX3_bitsReversed rm_X3_bitsReversed 14 [] [.int s2, .long s1, .long s0] σ mc ms P := by
  refine ks_callS (q := 17) (As := [.long s0, .long s1, .int s2]) (st := []) d_X3_bitsReversed_14 rfl rfl lk_X3_36 ⟨by decide, by decide⟩ (Nat.le_of_ble_eq_true rfl) ⟨Nat.le_refl _, Nat.le_refl _⟩ hK (fun v σ' hq => ?_) (fun E σ' hq => ?_)
  · obtain ⟨r, e, hf⟩ := hq; cases e; exact kr r σ' hf
  · obtain ⟨r, e, hf⟩ := hq; cases e
theorem sg_X3_bitsReversed_17 {L : Nat} {xs : Nat → Int32} {σ : ks_St} {mc ms : Nat} {P : ka_O → ks_St → Prop} {s0 : Int64}  (k1 : ks_W L xs mX3_bitsReversed rm_X3_bitsReversed 25 [] [.int 4, .long 1085102592571150095, .long s0] σ mc ms P) : ks_W L xs mX3_bitsReversed rm_X3_bitsReversed 17 [] [.long s0] σ mc ms P := by
  refine ka_lstore (ls' := [(4, .long s0)]) d_X3_bitsReversed_17 rfl (by decide) rfl ?_
  refine ka_lload d_X3_bitsReversed_19 rfl 0 rfl ?_
  refine ka_ldc2 (v := 1085102592571150095) d_X3_bitsReversed_21 rfl kl_X3_46 ?_
  refine ka_iconst (v := 4) d_X3_bitsReversed_24 rfl (by decide) ?_
  refine ka_sub [] rfl ?_
  exact k1
theorem cs_X3_bitsReversed_25 {L : Nat} {xs : Nat → Int32} {σ : ks_St} {mc ms : Nat} {P : ka_O → ks_St → Prop} {f : Int64 → ks_St → Prop} {s0 : Int64} {s1 : Int64} {s2 : Int32} (hK : ks_M L xs mX3_swapped rm_X3_swapped [.long s0, .long s1, .int s2] σ (pl_ f)) (kr : ∀ r σ', f r σ' → ks_W L xs mX3_bitsReversed rm_X3_bitsReversed 28 [] [.long r] σ' mc ms P) : ks_W L xs mX3_bitsReversed rm_X3_bitsReversed 25 [] [.int s2, .long s1, .long s0] σ mc ms P := by
  refine ks_callS (q := 28) (As := [.long s0, .long s1, .int s2]) (st := []) d_X3_bitsReversed_25 rfl rfl lk_X3_36 ⟨by decide, by decide⟩ (Nat.le_of_ble_eq_true rfl) ⟨Nat.le_refl _, Nat.le_refl _⟩ hK (fun v σ' hq => ?_) (fun E σ' hq => ?_)
  · obtain ⟨r, e, hf⟩ := hq; cases e; exact kr r σ' hf
  · obtain ⟨r, e, hf⟩ := hq; cases e
theorem cs_X3_bitsReversed_28 {L : Nat} {xs : Nat → Int32} {σ : ks_St} {mc ms : Nat} {P : ka_O → ks_St → Prop} {f : Int64 → ks_St → Prop} {s0 : Int64} (hK : ks_M L xs mX3_bytesReversed rm_X3_bytesReversed [.long s0] σ (pl_ f)) (kr : ∀ r σ', f r σ' → ks_W L xs mX3_bitsReversed rm_X3_bitsReversed 31 [] [.long r] σ' mc ms P) : ks_W L xs mX3_bitsReversed rm_X3_bitsReversed 28 [] [.long s0] σ mc ms P := by
  refine ks_callS (q := 31) (As := [.long s0]) (st := []) d_X3_bitsReversed_28 rfl rfl lk_X3_48 ⟨by decide, by decide⟩ (Nat.le_of_ble_eq_true rfl) ⟨Nat.le_refl _, Nat.le_refl _⟩ hK (fun v σ' hq => ?_) (fun E σ' hq => ?_)
  · obtain ⟨r, e, hf⟩ := hq; cases e; exact kr r σ' hf
  · obtain ⟨r, e, hf⟩ := hq; cases e
theorem sg_X3_bitsReversed_31 {L : Nat} {xs : Nat → Int32} {σ : ks_St} {mc ms : Nat} {P : ka_O → ks_St → Prop} {s0 : Int64}  (r1 : P (.inl (some (.long s0))) σ) : ks_W L xs mX3_bitsReversed rm_X3_bitsReversed 31 [] [.long s0] σ mc ms P := by
  exact ks_lret d_X3_bitsReversed_31 rfl r1
