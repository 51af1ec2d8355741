theorem d_M_max_0 : decode Lib.Math.max.code 0 = .ok (.iload_n 0, 1) := by decide +kernel
theorem d_M_max_1 : decode Lib.Math.max.code 1 = .ok (.iload_n 1, 1) := by decide +kernel
theorem d_M_max_2 : decode Lib.Math.max.code 2 = .ok (.if_icmp .lt 7, 3) := by decide +kernel
theorem d_M_max_5 : decode Lib.Math.max.code 5 = .ok (.iload_n 0, 1) := by decide +kernel
theorem d_M_max_6 : decode Lib.Math.max.code 6 = .ok (.goto 4, 3) := by decide +kernel
theorem d_M_max_9 : decode Lib.Math.max.code 9 = .ok (.iload_n 1, 1) := by decide +kernel
theorem d_M_max_10 : decode Lib.Math.max.code 10 = .ok (.ireturn, 1) := by decide +kernel
theorem sg_M_max_0 {L : Nat} {xs : Nat → Int32} {σ : ks_St} {mc ms : Nat} {P : ka_O → ks_St → Prop} {x0 : Int32} {x1 : Int32}  (k2 : (x0 < x1) → ks_W L xs mM_max rm_M_max 10 [] [.int x1] σ mc ms P) (k3 : (¬ (x0 < x1)) → ks_W L xs mM_max rm_M_max 10 [] [.int x0] σ mc ms P) : ks_W L xs mM_max rm_M_max 0 [(0, .int x0), (1, .int x1)] [] σ mc ms P := by
  refine ka_iload_n d_M_max_0 rfl rfl 0 rfl ?_
  refine ka_iload_n d_M_max_1 rfl rfl 1 rfl ?_
  refine ka_icmp_lt (tgt := 9) d_M_max_2 (by decide) rfl (fun c1 => ?_) (fun c1 => ?_)
  · refine ka_iload_n d_M_max_9 rfl rfl 1 rfl ?_
    refine ka_sub [] rfl ?_
    exact (k2 c1)
  · refine ka_iload_n d_M_max_5 rfl rfl 0 rfl ?_
    refine ka_goto (q := 10) d_M_max_6 (by decide) ?_
    refine ka_sub [] rfl ?_
    exact (k3 c1)
theorem sg_M_max_10 {L : Nat} {xs : Nat → Int32} {σ : ks_St} {mc ms : Nat} {P : ka_O → ks_St → Prop} {s0 : Int32}  (r1 : P (.inl (some (.int s0))) σ) : ks_W L xs mM_max rm_M_max 10 [] [.int s0] σ mc ms P := by
  exact ks_iret (ty := .int) d_M_max_10 rfl rfl r1
theorem d_M_min_0 : decode Lib.Math.min.code 0 = .ok (.iload_n 0, 1) := by decide +kernel
theorem d_M_min_1 : decode Lib.Math.min.code 1 = .ok (.iload_n 1, 1) := by decide +kernel
theorem d_M_min_2 : decode Lib.Math.min.code 2 = .ok (.if_icmp .gt 7, 3) := by decide +kernel
theorem d_M_min_5 : decode Lib.Math.min.code 5 = .ok (.iload_n 0, 1) := by decide +kernel
theorem d_M_min_6 : decode Lib.Math.min.code 6 = .ok (.goto 4, 3) := by decide +kernel
theorem d_M_min_9 : decode Lib.Math.min.code 9 = .ok (.iload_n 1, 1) := by decide +kernel
theorem d_M_min_10 : decode Lib.Math.min.code 10 = .ok (.ireturn, 1) := by decide +kernel
theorem sg_M_min_0 {L : Nat} {xs : Nat → Int32} {σ : ks_St} {mc ms : Nat} {P : ka_O → ks_St → Prop} {x0 : Int32} {x1 : Int32}  (k2 : (x1 < x0) → ks_W L xs mM_min rm_M_min 10 [] [.int x1] σ mc ms P) (k3 : (¬ (x1 < x0)) → ks_W L xs mM_min rm_M_min 10 [] [.int x0] σ mc ms P) : ks_W L xs mM_min rm_M_min 0 [(0, .int x0), (1, .int x1)] [] σ mc ms P := by
  refine ka_iload_n d_M_min_0 rfl rfl 0 rfl ?_
  refine ka_iload_n d_M_min_1 rfl rfl 1 rfl ?_
  refine ka_icmp_gt (tgt := 9) d_M_min_2 (by decide) rfl (fun c1 => ?_) (fun c1 => ?_)
  · refine ka_iload_n d_M_min_9 rfl rfl 1 rfl ?_
    refine ka_sub [] rfl ?_
    exact (k2 c1)
  · refine ka_iload_n d_M_min_5 rfl rfl 0 rfl ?_
    refine ka_goto (q := 10) d_M_min_6 (by decide) ?_
    refine ka_sub [] rfl ?_
    exact (k3 c1)
theorem sg_M_min_10 {L : Nat} {xs : Nat → Int32} {σ : ks_St} {mc ms : Nat} {P : ka_O → ks_St → Prop} {s0 : Int32}  (r1 : P (.inl (some (.int s0))) σ) : ks_W L xs mM_min rm_M_min 10 [] [.int s0] σ mc ms P := by
  exact ks_iret (ty := .int) d_M_min_10 rfl rfl r1
theorem d_M_minl_0 : decode Lib.MathLoose.min_long.code 0 = .ok (.lload_n 0, 1) := by decide +kernel
theorem d_M_minl_1 : decode Lib.MathLoose.min_long.code 1 = .ok (.lload_n 2, 1) := by decide +kernel
theorem d_M_minl_2 : decode Lib.MathLoose.min_long.code 2 = .ok (.lcmp, 1) := by decide +kernel
theorem d_M_minl_3 : decode Lib.MathLoose.min_long.code 3 = .ok (.ifCond .gt 7, 3) := by decide +kernel
theorem d_M_minl_6 : decode Lib.MathLoose.min_long.code 6 = .ok (.lload_n 0, 1) := by decide +kernel
theorem d_M_minl_7 : decode Lib.MathLoose.min_long.code 7 = .ok (.goto 4, 3) := by decide +kernel
theorem d_M_minl_10 : decode Lib.MathLoose.min_long.code 10 = .ok (.lload_n 2, 1) := by decide +kernel
theorem d_M_minl_11 : decode Lib.MathLoose.min_long.code 11 = .ok (.lreturn, 1) := by decide +kernel
theorem sg_M_minl_0 {L : Nat} {xs : Nat → Int32} {σ : ks_St} {mc ms : Nat} {P : ka_O → ks_St → Prop} {x0 : Int64} {x2 : Int64}  (k2 : (0 < (lg_cmp x0 x2)) → ks_W L xs mM_minl rm_M_minl 11 [] [.long x2] σ mc ms P) (k3 : (¬ (0 < (lg_cmp x0 x2))) → ks_W L xs mM_minl rm_M_minl 11 [] [.long x0] σ mc ms P) : ks_W L xs mM_minl rm_M_minl 0 [(0, .long x0), (2, .long x2)] [] σ mc ms P := by
  refine ka_lload_n d_M_minl_0 rfl rfl 0 rfl ?_
  refine ka_lload_n d_M_minl_1 rfl rfl 1 rfl ?_
  refine ka_lcmp d_M_minl_2 rfl ?_
  refine ka_if_gt (tgt := 10) d_M_minl_3 (by decide) rfl (fun c1 => ?_) (fun c1 => ?_)
  · refine ka_lload_n d_M_minl_10 rfl rfl 1 rfl ?_
    refine ka_sub [] rfl ?_
    exact (k2 c1)
  · refine ka_lload_n d_M_minl_6 rfl rfl 0 rfl ?_
    refine ka_goto (q := 11) d_M_minl_7 (by decide) ?_
    refine ka_sub [] rfl ?_
    exact (k3 c1)
theorem sg_M_minl_11 {L : Nat} {xs : Nat → Int32} {σ : ks_St} {mc ms : Nat} {P : ka_O → ks_St → Prop} {s0 : Int64}  (r1 : P (.inl (some (.long s0))) σ) : ks_W L xs mM_minl rm_M_minl 11 [] [.long s0] σ mc ms P := by
  exact ks_lret d_M_minl_11 rfl r1
theorem d_J9_floorMod_7cf53_0 : decode cJ9_floorMod_7cf53 0 = .ok (.iload_n 0, 1) := by decide +kernel
theorem d_J9_floorMod_7cf53_1 : decode cJ9_floorMod_7cf53 1 = .ok (.iload_n 1, 1) := by decide +kernel
theorem d_J9_floorMod_7cf53_2 : decode cJ9_floorMod_7cf53 2 = .ok (.irem, 1) := by decide +kernel
theorem d_J9_floorMod_7cf53_3 : decode cJ9_floorMod_7cf53 3 = .ok (.istore_n 2, 1) := by decide +kernel
theorem d_J9_floorMod_7cf53_4 : decode cJ9_floorMod_7cf53 4 = .ok (.iload_n 0, 1) := by decide +kernel
theorem d_J9_floorMod_7cf53_5 : decode cJ9_floorMod_7cf53 5 = .ok (.iload_n 1, 1) := by decide +kernel
theorem d_J9_floorMod_7cf53_6 : decode cJ9_floorMod_7cf53 6 = .ok (.ixor, 1) := by decide +kernel
theorem d_J9_floorMod_7cf53_7 : decode cJ9_floorMod_7cf53 7 = .ok (.ifCond .ge 11, 3) := by decide +kernel
theorem d_J9_floorMod_7cf53_10 : decode cJ9_floorMod_7cf53 10 = .ok (.iload_n 2, 1) := by decide +kernel
theorem d_J9_floorMod_7cf53_11 : decode cJ9_floorMod_7cf53 11 = .ok (.ifCond .eq 7, 3) := by decide +kernel
theorem d_J9_floorMod_7cf53_14 : decode cJ9_floorMod_7cf53 14 = .ok (.iload_n 2, 1) := by decide +kernel
theorem d_J9_floorMod_7cf53_15 : decode cJ9_floorMod_7cf53 15 = .ok (.iload_n 1, 1) := by decide +kernel
theorem d_J9_floorMod_7cf53_16 : decode cJ9_floorMod_7cf53 16 = .ok (.iadd, 1) := by decide +kernel
theorem d_J9_floorMod_7cf53_17 : decode cJ9_floorMod_7cf53 17 = .ok (.ireturn, 1) := by decide +kernel
theorem d_J9_floorMod_7cf53_18 : decode cJ9_floorMod_7cf53 18 = .ok (.iload_n 2, 1) := by decide +kernel
theorem d_J9_floorMod_7cf53_19 : decode cJ9_floorMod_7cf53 19 = .ok (.ireturn, 1) := by decide +kernel
theorem sg_J9_floorMod_7cf53_0 {L : Nat} {xs : Nat → Int32} {σ : ks_St} {mc ms : Nat} {P : ka_O → ks_St → Prop} {x0 : Int32} {x1 : Int32}  (z1 : ¬ x1 = 0) (k3 : (0 ≤ (x0 ^^^ x1)) → ks_W L xs mJ9_floorMod_7cf53 rm_J9_floorMod_7cf53 18 [(2, .int (x0 - x0 / x1 * x1))] [] σ mc ms P) (k5 : (¬ (0 ≤ (x0 ^^^ x1))) → ((x0 - x0 / x1 * x1) = 0) → ks_W L xs mJ9_floorMod_7cf53 rm_J9_floorMod_7cf53 18 [(2, .int (x0 - x0 / x1 * x1))] [] σ mc ms P) (r6 : (¬ (0 ≤ (x0 ^^^ x1))) → (¬ ((x0 - x0 / x1 * x1) = 0)) → P (.inl (some (.int ((x0 - x0 / x1 * x1) + x1)))) σ) : ks_W L xs mJ9_floorMod_7cf53 rm_J9_floorMod_7cf53 0 [(0, .int x0), (1, .int x1)] [] σ mc ms P := by
  refine ka_iload_n d_J9_floorMod_7cf53_0 rfl rfl 0 rfl ?_
  refine ka_iload_n d_J9_floorMod_7cf53_1 rfl rfl 1 rfl ?_
  refine ka_irem d_J9_floorMod_7cf53_2 rfl z1 ?_
  refine ka_istore_n (ls' := [(2, .int (x0 - x0 / x1 * x1)), (0, .int x0), (1, .int x1)]) d_J9_floorMod_7cf53_3 rfl rfl (by decide) rfl ?_
  refine ka_iload_n d_J9_floorMod_7cf53_4 rfl rfl 1 rfl ?_
  refine ka_iload_n d_J9_floorMod_7cf53_5 rfl rfl 2 rfl ?_
  refine ka_ixor d_J9_floorMod_7cf53_6 rfl ?_
  refine ka_if_ge (tgt := 18) d_J9_floorMod_7cf53_7 (by decide) rfl (fun c2 => ?_) (fun c2 => ?_)
  · refine ka_sub [0] rfl ?_
    exact (k3 c2)
  · refine ka_iload_n d_J9_floorMod_7cf53_10 rfl rfl 0 rfl ?_
    refine ka_if_eq (tgt := 18) d_J9_floorMod_7cf53_11 (by decide) rfl (fun c4 => ?_) (fun c4 => ?_)
    · refine ka_sub [0] rfl ?_
      exact (k5 c2 c4)
    · refine ka_iload_n d_J9_floorMod_7cf53_14 rfl rfl 0 rfl ?_
      refine ka_iload_n d_J9_floorMod_7cf53_15 rfl rfl 2 rfl ?_
      refine ka_iadd d_J9_floorMod_7cf53_16 rfl ?_
      exact ks_iret (ty := .int) d_J9_floorMod_7cf53_17 rfl rfl (r6 c2 c4)
theorem sg_J9_floorMod_7cf53_18 {L : Nat} {xs : Nat → Int32} {σ : ks_St} {mc ms : Nat} {P : ka_O → ks_St → Prop} {x2 : Int32}  (r1 : P (.inl (some (.int x2))) σ) : ks_W L xs mJ9_floorMod_7cf53 rm_J9_floorMod_7cf53 18 [(2, .int x2)] [] σ mc ms P := by
  refine ka_iload_n d_J9_floorMod_7cf53_18 rfl rfl 0 rfl ?_
  exact ks_iret (ty := .int) d_J9_floorMod_7cf53_19 rfl rfl r1
theorem d_J13_bitCount_95d88_0 : decode cJ13_bitCount_95d88 0 = .ok (.lload_n 0, 1) := by decide +kernel
theorem d_J13_bitCount_95d88_1 : decode cJ13_bitCount_95d88 1 = .ok (.lload_n 0, 1) := by decide +kernel
theorem d_J13_bitCount_95d88_2 : decode cJ13_bitCount_95d88 2 = .ok (.iconst 1, 1) := by decide +kernel
theorem d_J13_bitCount_95d88_3 : decode cJ13_bitCount_95d88 3 = .ok (.lushr, 1) := by decide +kernel
theorem d_J13_bitCount_95d88_4 : decode cJ13_bitCount_95d88 4 = .ok (.ldc2_w 314, 3) := by decide +kernel
theorem d_J13_bitCount_95d88_7 : decode cJ13_bitCount_95d88 7 = .ok (.land, 1) := by decide +kernel
theorem d_J13_bitCount_95d88_8 : decode cJ13_bitCount_95d88 8 = .ok (.lsub, 1) := by decide +kernel
theorem d_J13_bitCount_95d88_9 : decode cJ13_bitCount_95d88 9 = .ok (.lstore_n 0, 1) := by decide +kernel
theorem d_J13_bitCount_95d88_10 : decode cJ13_bitCount_95d88 10 = .ok (.lload_n 0, 1) := by decide +kernel
theorem d_J13_bitCount_95d88_11 : decode cJ13_bitCount_95d88 11 = .ok (.ldc2_w 316, 3) := by decide +kernel
theorem d_J13_bitCount_95d88_14 : decode cJ13_bitCount_95d88 14 = .ok (.land, 1) := by decide +kernel
theorem d_J13_bitCount_95d88_15 : decode cJ13_bitCount_95d88 15 = .ok (.lload_n 0, 1) := by decide +kernel
theorem d_J13_bitCount_95d88_16 : decode cJ13_bitCount_95d88 16 = .ok (.iconst 2, 1) := by decide +kernel
theorem d_J13_bitCount_95d88_17 : decode cJ13_bitCount_95d88 17 = .ok (.lushr, 1) := by decide +kernel
theorem d_J13_bitCount_95d88_18 : decode cJ13_bitCount_95d88 18 = .ok (.ldc2_w 316, 3) := by decide +kernel
theorem d_J13_bitCount_95d88_21 : decode cJ13_bitCount_95d88 21 = .ok (.land, 1) := by decide +kernel
theorem d_J13_bitCount_95d88_22 : decode cJ13_bitCount_95d88 22 = .ok (.ladd, 1) := by decide +kernel
theorem d_J13_bitCount_95d88_23 : decode cJ13_bitCount_95d88 23 = .ok (.lstore_n 0, 1) := by decide +kernel
theorem d_J13_bitCount_95d88_24 : decode cJ13_bitCount_95d88 24 = .ok (.lload_n 0, 1) := by decide +kernel
theorem d_J13_bitCount_95d88_25 : decode cJ13_bitCount_95d88 25 = .ok (.lload_n 0, 1) := by decide +kernel
theorem d_J13_bitCount_95d88_26 : decode cJ13_bitCount_95d88 26 = .ok (.iconst 4, 1) := by decide +kernel
theorem d_J13_bitCount_95d88_27 : decode cJ13_bitCount_95d88 27 = .ok (.lushr, 1) := by decide +kernel
theorem d_J13_bitCount_95d88_28 : decode cJ13_bitCount_95d88 28 = .ok (.ladd, 1) := by decide +kernel
theorem d_J13_bitCount_95d88_29 : decode cJ13_bitCount_95d88 29 = .ok (.ldc2_w 318, 3) := by decide +kernel
theorem d_J13_bitCount_95d88_32 : decode cJ13_bitCount_95d88 32 = .ok (.land, 1) := by decide +kernel
theorem d_J13_bitCount_95d88_33 : decode cJ13_bitCount_95d88 33 = .ok (.lstore_n 0, 1) := by decide +kernel
theorem d_J13_bitCount_95d88_34 : decode cJ13_bitCount_95d88 34 = .ok (.lload_n 0, 1) := by decide +kernel
theorem d_J13_bitCount_95d88_35 : decode cJ13_bitCount_95d88 35 = .ok (.lload_n 0, 1) := by decide +kernel
theorem d_J13_bitCount_95d88_36 : decode cJ13_bitCount_95d88 36 = .ok (.bipush 8, 2) := by decide +kernel
theorem d_J13_bitCount_95d88_38 : decode cJ13_bitCount_95d88 38 = .ok (.lushr, 1) := by decide +kernel
theorem d_J13_bitCount_95d88_39 : decode cJ13_bitCount_95d88 39 = .ok (.ladd, 1) := by decide +kernel
theorem d_J13_bitCount_95d88_40 : decode cJ13_bitCount_95d88 40 = .ok (.lstore_n 0, 1) := by decide +kernel
theorem d_J13_bitCount_95d88_41 : decode cJ13_bitCount_95d88 41 = .ok (.lload_n 0, 1) := by decide +kernel
theorem d_J13_bitCount_95d88_42 : decode cJ13_bitCount_95d88 42 = .ok (.lload_n 0, 1) := by decide +kernel
theorem d_J13_bitCount_95d88_43 : decode cJ13_bitCount_95d88 43 = .ok (.bipush 16, 2) := by decide +kernel
theorem d_J13_bitCount_95d88_45 : decode cJ13_bitCount_95d88 45 = .ok (.lushr, 1) := by decide +kernel
theorem d_J13_bitCount_95d88_46 : decode cJ13_bitCount_95d88 46 = .ok (.ladd, 1) := by decide +kernel
theorem d_J13_bitCount_95d88_47 : decode cJ13_bitCount_95d88 47 = .ok (.lstore_n 0, 1) := by decide +kernel
theorem d_J13_bitCount_95d88_48 : decode cJ13_bitCount_95d88 48 = .ok (.lload_n 0, 1) := by decide +kernel
theorem d_J13_bitCount_95d88_49 : decode cJ13_bitCount_95d88 49 = .ok (.lload_n 0, 1) := by decide +kernel
theorem d_J13_bitCount_95d88_50 : decode cJ13_bitCount_95d88 50 = .ok (.bipush 32, 2) := by decide +kernel
theorem d_J13_bitCount_95d88_52 : decode cJ13_bitCount_95d88 52 = .ok (.lushr, 1) := by decide +kernel
theorem d_J13_bitCount_95d88_53 : decode cJ13_bitCount_95d88 53 = .ok (.ladd, 1) := by decide +kernel
theorem d_J13_bitCount_95d88_54 : decode cJ13_bitCount_95d88 54 = .ok (.lstore_n 0, 1) := by decide +kernel
theorem d_J13_bitCount_95d88_55 : decode cJ13_bitCount_95d88 55 = .ok (.lload_n 0, 1) := by decide +kernel
theorem d_J13_bitCount_95d88_56 : decode cJ13_bitCount_95d88 56 = .ok (.l2i, 1) := by decide +kernel
theorem d_J13_bitCount_95d88_57 : decode cJ13_bitCount_95d88 57 = .ok (.bipush 127, 2) := by decide +kernel
theorem d_J13_bitCount_95d88_59 : decode cJ13_bitCount_95d88 59 = .ok (.iand, 1) := by decide +kernel
theorem d_J13_bitCount_95d88_60 : decode cJ13_bitCount_95d88 60 = .ok (.ireturn, 1) := by decide +kernel
theorem sg_J13_bitCount_95d88_0 {L : Nat} {xs : Nat → Int32} {σ : ks_St} {mc ms : Nat} {P : ka_O → ks_St → Prop} {x0 : Int64}  (r1 : P (.inl (some (.int ((((((((((x0 - ((((x0).toUInt64 >>> (((1 : Int32)).toInt64.toUInt64 &&& Int64.toUInt64 63)).toInt64) &&& 6148914691236517205)) &&& 3689348814741910323) + (((((x0 - ((((x0).toUInt64 >>> (((1 : Int32)).toInt64.toUInt64 &&& Int64.toUInt64 63)).toInt64) &&& 6148914691236517205))).toUInt64 >>> (((2 : Int32)).toInt64.toUInt64 &&& Int64.toUInt64 63)).toInt64) &&& 3689348814741910323)) + ((((((x0 - ((((x0).toUInt64 >>> (((1 : Int32)).toInt64.toUInt64 &&& Int64.toUInt64 63)).toInt64) &&& 6148914691236517205)) &&& 3689348814741910323) + (((((x0 - ((((x0).toUInt64 >>> (((1 : Int32)).toInt64.toUInt64 &&& Int64.toUInt64 63)).toInt64) &&& 6148914691236517205))).toUInt64 >>> (((2 : Int32)).toInt64.toUInt64 &&& Int64.toUInt64 63)).toInt64) &&& 3689348814741910323))).toUInt64 >>> (((4 : Int32)).toInt64.toUInt64 &&& Int64.toUInt64 63)).toInt64)) &&& 1085102592571150095) + ((((((((x0 - ((((x0).toUInt64 >>> (((1 : Int32)).toInt64.toUInt64 &&& Int64.toUInt64 63)).toInt64) &&& 6148914691236517205)) &&& 3689348814741910323) + (((((x0 - ((((x0).toUInt64 >>> (((1 : Int32)).toInt64.toUInt64 &&& Int64.toUInt64 63)).toInt64) &&& 6148914691236517205))).toUInt64 >>> (((2 : Int32)).toInt64.toUInt64 &&& Int64.toUInt64 63)).toInt64) &&& 3689348814741910323)) + ((((((x0 - ((((x0).toUInt64 >>> (((1 : Int32)).toInt64.toUInt64 &&& Int64.toUInt64 63)).toInt64) &&& 6148914691236517205)) &&& 3689348814741910323) + (((((x0 - ((((x0).toUInt64 >>> (((1 : Int32)).toInt64.toUInt64 &&& Int64.toUInt64 63)).toInt64) &&& 6148914691236517205))).toUInt64 >>> (((2 : Int32)).toInt64.toUInt64 &&& Int64.toUInt64 63)).toInt64) &&& 3689348814741910323))).toUInt64 >>> (((4 : Int32)).toInt64.toUInt64 &&& Int64.toUInt64 63)).toInt64)) &&& 1085102592571150095)).toUInt64 >>> (((8 : Int32)).toInt64.toUInt64 &&& Int64.toUInt64 63)).toInt64)) + (((((((((x0 - ((((x0).toUInt64 >>> (((1 : Int32)).toInt64.toUInt64 &&& Int64.toUInt64 63)).toInt64) &&& 6148914691236517205)) &&& 3689348814741910323) + (((((x0 - ((((x0).toUInt64 >>> (((1 : Int32)).toInt64.toUInt64 &&& Int64.toUInt64 63)).toInt64) &&& 6148914691236517205))).toUInt64 >>> (((2 : Int32)).toInt64.toUInt64 &&& Int64.toUInt64 63)).toInt64) &&& 3689348814741910323)) + ((((((x0 - ((((x0).toUInt64 >>> (((1 : Int32)).toInt64.toUInt64 &&& Int64.toUInt64 63)).toInt64) &&& 6148914691236517205)) &&& 3689348814741910323) + (((((x0 - ((((x0).toUInt64 >>> (((1 : Int32)).toInt64.toUInt64 &&& Int64.toUInt64 63)).toInt64) &&& 6148914691236517205))).toUInt64 >>> (((2 : Int32)).toInt64.toUInt64 &&& Int64.toUInt64 63)).toInt64) &&& 3689348814741910323))).toUInt64 >>> (((4 : Int32)).toInt64.toUInt64 &&& Int64.toUInt64 63)).toInt64)) &&& 1085102592571150095) + ((((((((x0 - ((((x0).toUInt64 >>> (((1 : Int32)).toInt64.toUInt64 &&& Int64.toUInt64 63)).toInt64) &&& 6148914691236517205)) &&& 3689348814741910323) + (((((x0 - ((((x0).toUInt64 >>> (((1 : Int32)).toInt64.toUInt64 &&& Int64.toUInt64 63)).toInt64) &&& 6148914691236517205))).toUInt64 >>> (((2 : Int32)).toInt64.toUInt64 &&& Int64.toUInt64 63)).toInt64) &&& 3689348814741910323)) + ((((((x0 - ((((x0).toUInt64 >>> (((1 : Int32)).toInt64.toUInt64 &&& Int64.toUInt64 63)).toInt64) &&& 6148914691236517205)) &&& 3689348814741910323) + (((((x0 - ((((x0).toUInt64 >>> (((1 : Int32)).toInt64.toUInt64 &&& Int64.toUInt64 63)).toInt64) &&& 6148914691236517205))).toUInt64 >>> (((2 : Int32)).toInt64.toUInt64 &&& Int64.toUInt64 63)).toInt64) &&& 3689348814741910323))).toUInt64 >>> (((4 : Int32)).toInt64.toUInt64 &&& Int64.toUInt64 63)).toInt64)) &&& 1085102592571150095)).toUInt64 >>> (((8 : Int32)).toInt64.toUInt64 &&& Int64.toUInt64 63)).toInt64))).toUInt64 >>> (((16 : Int32)).toInt64.toUInt64 &&& Int64.toUInt64 63)).toInt64)) + ((((((((((x0 - ((((x0).toUInt64 >>> (((1 : Int32)).toInt64.toUInt64 &&& Int64.toUInt64 63)).toInt64) &&& 6148914691236517205)) &&& 3689348814741910323) + (((((x0 - ((((x0).toUInt64 >>> (((1 : Int32)).toInt64.toUInt64 &&& Int64.toUInt64 63)).toInt64) &&& 6148914691236517205))).toUInt64 >>> (((2 : Int32)).toInt64.toUInt64 &&& Int64.toUInt64 63)).toInt64) &&& 3689348814741910323)) + ((((((x0 - ((((x0).toUInt64 >>> (((1 : Int32)).toInt64.toUInt64 &&& Int64.toUInt64 63)).toInt64) &&& 6148914691236517205)) &&& 3689348814741910323) + (((((x0 - ((((x0).toUInt64 >>> (((1 : Int32)).toInt64.toUInt64 &&& Int64.toUInt64 63)).toInt64) &&& 6148914691236517205))).toUInt64 >>> (((2 : Int32)).toInt64.toUInt64 &&& Int64.toUInt64 63)).toInt64) &&& 3689348814741910323))).toUInt64 >>> (((4 : Int32)).toInt64.toUInt64 &&& Int64.toUInt64 63)).toInt64)) &&& 1085102592571150095) + ((((((((x0 - ((((x0).toUInt64 >>> (((1 : Int32)).toInt64.toUInt64 &&& Int64.toUInt64 63)).toInt64) &&& 6148914691236517205)) &&& 3689348814741910323) + (((((x0 - ((((x0).toUInt64 >>> (((1 : Int32)).toInt64.toUInt64 &&& Int64.toUInt64 63)).toInt64) &&& 6148914691236517205))).toUInt64 >>> (((2 : Int32)).toInt64.toUInt64 &&& Int64.toUInt64 63)).toInt64) &&& 3689348814741910323)) + ((((((x0 - ((((x0).toUInt64 >>> (((1 : Int32)).toInt64.toUInt64 &&& Int64.toUInt64 63)).toInt64) &&& 6148914691236517205)) &&& 3689348814741910323) + (((((x0 - ((((x0).toUInt64 >>> (((1 : Int32)).toInt64.toUInt64 &&& Int64.toUInt64 63)).toInt64) &&& 6148914691236517205))).toUInt64 >>> (((2 : Int32)).toInt64.toUInt64 &&& Int64.toUInt64 63)).toInt64) &&& 3689348814741910323))).toUInt64 >>> (((4 : Int32)).toInt64.toUInt64 &&& Int64.toUInt64 63)).toInt64)) &&& 1085102592571150095)).toUInt64 >>> (((8 : Int32)).toInt64.toUInt64 &&& Int64.toUInt64 63)).toInt64)) + (((((((((x0 - ((((x0).toUInt64 >>> (((1 : Int32)).toInt64.toUInt64 &&& Int64.toUInt64 63)).toInt64) &&& 6148914691236517205)) &&& 3689348814741910323) + (((((x0 - ((((x0).toUInt64 >>> (((1 : Int32)).toInt64.toUInt64 &&& Int64.toUInt64 63)).toInt64) &&& 6148914691236517205))).toUInt64 >>> (((2 : Int32)).toInt64.toUInt64 &&& Int64.toUInt64 63)).toInt64) &&& 3689348814741910323)) + ((((((x0 - ((((x0).toUInt64 >>> (((1 : Int32)).toInt64.toUInt64 &&& Int64.toUInt64 63)).toInt64) &&& 6148914691236517205)) &&& 3689348814741910323) + (((((x0 - ((((x0).toUInt64 >>> (((1 : Int32)).toInt64.toUInt64 &&& Int64.toUInt64 63)).toInt64) &&& 6148914691236517205))).toUInt64 >>> (((2 : Int32)).toInt64.toUInt64 &&& Int64.toUInt64 63)).toInt64) &&& 3689348814741910323))).toUInt64 >>> (((4 : Int32)).toInt64.toUInt64 &&& Int64.toUInt64 63)).toInt64)) &&& 1085102592571150095) + ((((((((x0 - ((((x0).toUInt64 >>> (((1 : Int32)).toInt64.toUInt64 &&& Int64.toUInt64 63)).toInt64) &&& 6148914691236517205)) &&& 3689348814741910323) + (((((x0 - ((((x0).toUInt64 >>> (((1 : Int32)).toInt64.toUInt64 &&& Int64.toUInt64 63)).toInt64) &&& 6148914691236517205))).toUInt64 >>> (((2 : Int32)).toInt64.toUInt64 &&& Int64.toUInt64 63)).toInt64) &&& 3689348814741910323)) + ((((((x0 - ((((x0).toUInt64 >>> (((1 : Int32)).toInt64.toUInt64 &&& Int64.toUInt64 63)).toInt64) &&& 6148914691236517205)) &&& 3689348814741910323) + (((((x0 - ((((x0).toUInt64 >>> (((1 : Int32)).toInt64.toUInt64 &&& Int64.toUInt64 63)).toInt64) &&& 6148914691236517205))).toUInt64 >>> (((2 : Int32)).toInt64.toUInt64 &&& Int64.toUInt64 63)).toInt64) &&& 3689348814741910323))).toUInt64 >>> (((4 : Int32)).toInt64.toUInt64 &&& Int64.toUInt64 63)).toInt64)) &&& 1085102592571150095)).toUInt64 >>> (((8 : Int32)).toInt64.toUInt64 &&& Int64.toUInt64 63)).toInt64))).toUInt64 >>> (((16 : Int32)).toInt64.toUInt64 &&& Int64.toUInt64 63)).toInt64))).toUInt64 >>> (((32 : Int32)).toInt64.toUInt64 &&& Int64.toUInt64 63)).toInt64)).toInt32) &&& 127)))) σ) : ks_W L xs mJ13_bitCount_95d88 rm_J13_bitCount_95d88 0 [(0, .long x0)] [] σ mc ms P := by
  refine ka_lload_n d_J13_bitCount_95d88_0 rfl rfl 0 rfl ?_
  refine ka_lload_n d_J13_bitCount_95d88_1 rfl rfl 0 rfl ?_
  refine ka_iconst (v := 1) d_J13_bitCount_95d88_2 rfl (by decide) ?_
  refine ka_lushr d_J13_bitCount_95d88_3 rfl ?_
  refine ka_ldc2 (v := 6148914691236517205) d_J13_bitCount_95d88_4 rfl kl_J13_314 ?_
  refine ka_land d_J13_bitCount_95d88_7 rfl ?_
  refine ka_lsub d_J13_bitCount_95d88_8 rfl ?_
  refine ka_lstore_n (ls' := [(0, .long (x0 - ((((x0).toUInt64 >>> (((1 : Int32)).toInt64.toUInt64 &&& Int64.toUInt64 63)).toInt64) &&& 6148914691236517205)))]) d_J13_bitCount_95d88_9 rfl rfl (by decide) rfl ?_
  refine ka_lload_n d_J13_bitCount_95d88_10 rfl rfl 0 rfl ?_
  refine ka_ldc2 (v := 3689348814741910323) d_J13_bitCount_95d88_11 rfl kl_J13_316 ?_
  refine ka_land d_J13_bitCount_95d88_14 rfl ?_
  refine ka_lload_n d_J13_bitCount_95d88_15 rfl rfl 0 rfl ?_
  refine ka_iconst (v := 2) d_J13_bitCount_95d88_16 rfl (by decide) ?_
  refine ka_lushr d_J13_bitCount_95d88_17 rfl ?_
  refine ka_ldc2 (v := 3689348814741910323) d_J13_bitCount_95d88_18 rfl kl_J13_316 ?_
  refine ka_land d_J13_bitCount_95d88_21 rfl ?_
  refine ka_ladd d_J13_bitCount_95d88_22 rfl ?_
  refine ka_lstore_n (ls' := [(0, .long (((x0 - ((((x0).toUInt64 >>> (((1 : Int32)).toInt64.toUInt64 &&& Int64.toUInt64 63)).toInt64) &&& 6148914691236517205)) &&& 3689348814741910323) + (((((x0 - ((((x0).toUInt64 >>> (((1 : Int32)).toInt64.toUInt64 &&& Int64.toUInt64 63)).toInt64) &&& 6148914691236517205))).toUInt64 >>> (((2 : Int32)).toInt64.toUInt64 &&& Int64.toUInt64 63)).toInt64) &&& 3689348814741910323)))]) d_J13_bitCount_95d88_23 rfl rfl (by decide) rfl ?_
  refine ka_lload_n d_J13_bitCount_95d88_24 rfl rfl 0 rfl ?_
  refine ka_lload_n d_J13_bitCount_95d88_25 rfl rfl 0 rfl ?_
  refine ka_iconst (v := 4) d_J13_bitCount_95d88_26 rfl (by decide) ?_
  refine ka_lushr d_J13_bitCount_95d88_27 rfl ?_
  refine ka_ladd d_J13_bitCount_95d88_28 rfl ?_
  refine ka_ldc2 (v := 1085102592571150095) d_J13_bitCount_95d88_29 rfl kl_J13_318 ?_
  refine ka_land d_J13_bitCount_95d88_32 rfl ?_
  refine ka_lstore_n (ls' := [(0, .long (((((x0 - ((((x0).toUInt64 >>> (((1 : Int32)).toInt64.toUInt64 &&& Int64.toUInt64 63)).toInt64) &&& 6148914691236517205)) &&& 3689348814741910323) + (((((x0 - ((((x0).toUInt64 >>> (((1 : Int32)).toInt64.toUInt64 &&& Int64.toUInt64 63)).toInt64) &&& 6148914691236517205))).toUInt64 >>> (((2 : Int32)).toInt64.toUInt64 &&& Int64.toUInt64 63)).toInt64) &&& 3689348814741910323)) + ((((((x0 - ((((x0).toUInt64 >>> (((1 : Int32)).toInt64.toUInt64 &&& Int64.toUInt64 63)).toInt64) &&& 6148914691236517205)) &&& 3689348814741910323) + (((((x0 - ((((x0).toUInt64 >>> (((1 : Int32)).toInt64.toUInt64 &&& Int64.toUInt64 63)).toInt64) &&& 6148914691236517205))).toUInt64 >>> (((2 : Int32)).toInt64.toUInt64 &&& Int64.toUInt64 63)).toInt64) &&& 3689348814741910323))).toUInt64 >>> (((4 : Int32)).toInt64.toUInt64 &&& Int64.toUInt64 63)).toInt64)) &&& 1085102592571150095))]) d_J13_bitCount_95d88_33 rfl rfl (by decide) rfl ?_
  refine ka_lload_n d_J13_bitCount_95d88_34 rfl rfl 0 rfl ?_
  refine ka_lload_n d_J13_bitCount_95d88_35 rfl rfl 0 rfl ?_
  refine ka_bipush (v := 8) d_J13_bitCount_95d88_36 rfl (by decide) ?_
  refine ka_lushr d_J13_bitCount_95d88_38 rfl ?_
  refine ka_ladd d_J13_bitCount_95d88_39 rfl ?_
  refine ka_lstore_n (ls' := [(0, .long ((((((x0 - ((((x0).toUInt64 >>> (((1 : Int32)).toInt64.toUInt64 &&& Int64.toUInt64 63)).toInt64) &&& 6148914691236517205)) &&& 3689348814741910323) + (((((x0 - ((((x0).toUInt64 >>> (((1 : Int32)).toInt64.toUInt64 &&& Int64.toUInt64 63)).toInt64) &&& 6148914691236517205))).toUInt64 >>> (((2 : Int32)).toInt64.toUInt64 &&& Int64.toUInt64 63)).toInt64) &&& 3689348814741910323)) + ((((((x0 - ((((x0).toUInt64 >>> (((1 : Int32)).toInt64.toUInt64 &&& Int64.toUInt64 63)).toInt64) &&& 6148914691236517205)) &&& 3689348814741910323) + (((((x0 - ((((x0).toUInt64 >>> (((1 : Int32)).toInt64.toUInt64 &&& Int64.toUInt64 63)).toInt64) &&& 6148914691236517205))).toUInt64 >>> (((2 : Int32)).toInt64.toUInt64 &&& Int64.toUInt64 63)).toInt64) &&& 3689348814741910323))).toUInt64 >>> (((4 : Int32)).toInt64.toUInt64 &&& Int64.toUInt64 63)).toInt64)) &&& 1085102592571150095) + ((((((((x0 - ((((x0).toUInt64 >>> (((1 : Int32)).toInt64.toUInt64 &&& Int64.toUInt64 63)).toInt64) &&& 6148914691236517205)) &&& 3689348814741910323) + (((((x0 - ((((x0).toUInt64 >>> (((1 : Int32)).toInt64.toUInt64 &&& Int64.toUInt64 63)).toInt64) &&& 6148914691236517205))).toUInt64 >>> (((2 : Int32)).toInt64.toUInt64 &&& Int64.toUInt64 63)).toInt64) &&& 3689348814741910323)) + ((((((x0 - ((((x0).toUInt64 >>> (((1 : Int32)).toInt64.toUInt64 &&& Int64.toUInt64 63)).toInt64) &&& 6148914691236517205)) &&& 3689348814741910323) + (((((x0 - ((((x0).toUInt64 >>> (((1 : Int32)).toInt64.toUInt64 &&& Int64.toUInt64 63)).toInt64) &&& 6148914691236517205))).toUInt64 >>> (((2 : Int32)).toInt64.toUInt64 &&& Int64.toUInt64 63)).toInt64) &&& 3689348814741910323))).toUInt64 >>> (((4 : Int32)).toInt64.toUInt64 &&& Int64.toUInt64 63)).toInt64)) &&& 1085102592571150095)).toUInt64 >>> (((8 : Int32)).toInt64.toUInt64 &&& Int64.toUInt64 63)).toInt64)))]) d_J13_bitCount_95d88_40 rfl rfl (by decide) rfl ?_
  refine ka_lload_n d_J13_bitCount_95d88_41 rfl rfl 0 rfl ?_
  refine ka_lload_n d_J13_bitCount_95d88_42 rfl rfl 0 rfl ?_
  refine ka_bipush (v := 16) d_J13_bitCount_95d88_43 rfl (by decide) ?_
  refine ka_lushr d_J13_bitCount_95d88_45 rfl ?_
  refine ka_ladd d_J13_bitCount_95d88_46 rfl ?_
  refine ka_lstore_n (ls' := [(0, .long (((((((x0 - ((((x0).toUInt64 >>> (((1 : Int32)).toInt64.toUInt64 &&& Int64.toUInt64 63)).toInt64) &&& 6148914691236517205)) &&& 3689348814741910323) + (((((x0 - ((((x0).toUInt64 >>> (((1 : Int32)).toInt64.toUInt64 &&& Int64.toUInt64 63)).toInt64) &&& 6148914691236517205))).toUInt64 >>> (((2 : Int32)).toInt64.toUInt64 &&& Int64.toUInt64 63)).toInt64) &&& 3689348814741910323)) + ((((((x0 - ((((x0).toUInt64 >>> (((1 : Int32)).toInt64.toUInt64 &&& Int64.toUInt64 63)).toInt64) &&& 6148914691236517205)) &&& 3689348814741910323) + (((((x0 - ((((x0).toUInt64 >>> (((1 : Int32)).toInt64.toUInt64 &&& Int64.toUInt64 63)).toInt64) &&& 6148914691236517205))).toUInt64 >>> (((2 : Int32)).toInt64.toUInt64 &&& Int64.toUInt64 63)).toInt64) &&& 3689348814741910323))).toUInt64 >>> (((4 : Int32)).toInt64.toUInt64 &&& Int64.toUInt64 63)).toInt64)) &&& 1085102592571150095) + ((((((((x0 - ((((x0).toUInt64 >>> (((1 : Int32)).toInt64.toUInt64 &&& Int64.toUInt64 63)).toInt64) &&& 6148914691236517205)) &&& 3689348814741910323) + (((((x0 - ((((x0).toUInt64 >>> (((1 : Int32)).toInt64.toUInt64 &&& Int64.toUInt64 63)).toInt64) &&& 6148914691236517205))).toUInt64 >>> (((2 : Int32)).toInt64.toUInt64 &&& Int64.toUInt64 63)).toInt64) &&& 3689348814741910323)) + ((((((x0 - ((((x0).toUInt64 >>> (((1 : Int32)).toInt64.toUInt64 &&& Int64.toUInt64 63)).toInt64) &&& 6148914691236517205)) &&& 3689348814741910323) + (((((x0 - ((((x0).toUInt64 >>> (((1 : Int32)).toInt64.toUInt64 &&& Int64.toUInt64 63)).toInt64) &&& 6148914691236517205))).toUInt64 >>> (((2 : Int32)).toInt64.toUInt64 &&& Int64.toUInt64 63)).toInt64) &&& 3689348814741910323))).toUInt64 >>> (((4 : Int32)).toInt64.toUInt64 &&& Int64.toUInt64 63)).toInt64)) &&& 1085102592571150095)).toUInt64 >>> (((8 : Int32)).toInt64.toUInt64 &&& Int64.toUInt64 63)).toInt64)) + (((((((((x0 - ((((x0).toUInt64 >>> (((1 : Int32)).toInt64.toUInt64 &&& Int64.toUInt64 63)).toInt64) &&& 6148914691236517205)) &&& 3689348814741910323) + (((((x0 - ((((x0).toUInt64 >>> (((1 : Int32)).toInt64.toUInt64 &&& Int64.toUInt64 63)).toInt64) &&& 6148914691236517205))).toUInt64 >>> (((2 : Int32)).toInt64.toUInt64 &&& Int64.toUInt64 63)).toInt64) &&& 3689348814741910323)) + ((((((x0 - ((((x0).toUInt64 >>> (((1 : Int32)).toInt64.toUInt64 &&& Int64.toUInt64 63)).toInt64) &&& 6148914691236517205)) &&& 3689348814741910323) + (((((x0 - ((((x0).toUInt64 >>> (((1 : Int32)).toInt64.toUInt64 &&& Int64.toUInt64 63)).toInt64) &&& 6148914691236517205))).toUInt64 >>> (((2 : Int32)).toInt64.toUInt64 &&& Int64.toUInt64 63)).toInt64) &&& 3689348814741910323))).toUInt64 >>> (((4 : Int32)).toInt64.toUInt64 &&& Int64.toUInt64 63)).toInt64)) &&& 1085102592571150095) + ((((((((x0 - ((((x0).toUInt64 >>> (((1 : Int32)).toInt64.toUInt64 &&& Int64.toUInt64 63)).toInt64) &&& 6148914691236517205)) &&& 3689348814741910323) + (((((x0 - ((((x0).toUInt64 >>> (((1 : Int32)).toInt64.toUInt64 &&& Int64.toUInt64 63)).toInt64) &&& 6148914691236517205))).toUInt64 >>> (((2 : Int32)).toInt64.toUInt64 &&& Int64.toUInt64 63)).toInt64) &&& 3689348814741910323)) + ((((((x0 - ((((x0).toUInt64 >>> (((1 : Int32)).toInt64.toUInt64 &&& Int64.toUInt64 63)).toInt64) &&& 6148914691236517205)) &&& 3689348814741910323) + (((((x0 - ((((x0).toUInt64 >>> (((1 : Int32)).toInt64.toUInt64 &&& Int64.toUInt64 63)).toInt64) &&& 6148914691236517205))).toUInt64 >>> (((2 : Int32)).toInt64.toUInt64 &&& Int64.toUInt64 63)).toInt64) &&& 3689348814741910323))).toUInt64 >>> (((4 : Int32)).toInt64.toUInt64 &&& Int64.toUInt64 63)).toInt64)) &&& 1085102592571150095)).toUInt64 >>> (((8 : Int32)).toInt64.toUInt64 &&& Int64.toUInt64 63)).toInt64))).toUInt64 >>> (((16 : Int32)).toInt64.toUInt64 &&& Int64.toUInt64 63)).toInt64)))]) d_J13_bitCount_95d88_47 rfl rfl (by decide) rfl ?_
  refine ka_lload_n d_J13_bitCount_95d88_48 rfl rfl 0 rfl ?_
  refine ka_lload_n d_J13_bitCount_95d88_49 rfl rfl 0 rfl ?_
  refine ka_bipush (v := 32) d_J13_bitCount_95d88_50 rfl (by decide) ?_
  refine ka_lushr d_J13_bitCount_95d88_52 rfl ?_
  refine ka_ladd d_J13_bitCount_95d88_53 rfl ?_
  refine ka_lstore_n (ls' := [(0, .long ((((((((x0 - ((((x0).toUInt64 >>> (((1 : Int32)).toInt64.toUInt64 &&& Int64.toUInt64 63)).toInt64) &&& 6148914691236517205)) &&& 3689348814741910323) + (((((x0 - ((((x0).toUInt64 >>> (((1 : Int32)).toInt64.toUInt64 &&& Int64.toUInt64 63)).toInt64) &&& 6148914691236517205))).toUInt64 >>> (((2 : Int32)).toInt64.toUInt64 &&& Int64.toUInt64 63)).toInt64) &&& 3689348814741910323)) + ((((((x0 - ((((x0).toUInt64 >>> (((1 : Int32)).toInt64.toUInt64 &&& Int64.toUInt64 63)).toInt64) &&& 6148914691236517205)) &&& 3689348814741910323) + (((((x0 - ((((x0).toUInt64 >>> (((1 : Int32)).toInt64.toUInt64 &&& Int64.toUInt64 63)).toInt64) &&& 6148914691236517205))).toUInt64 >>> (((2 : Int32)).toInt64.toUInt64 &&& Int64.toUInt64 63)).toInt64) &&& 3689348814741910323))).toUInt64 >>> (((4 : Int32)).toInt64.toUInt64 &&& Int64.toUInt64 63)).toInt64)) &&& 1085102592571150095) + ((((((((x0 - ((((x0).toUInt64 >>> (((1 : Int32)).toInt64.toUInt64 &&& Int64.toUInt64 63)).toInt64) &&& 6148914691236517205)) &&& 3689348814741910323) + (((((x0 - ((((x0).toUInt64 >>> (((1 : Int32)).toInt64.toUInt64 &&& Int64.toUInt64 63)).toInt64) &&& 6148914691236517205))).toUInt64 >>> (((2 : Int32)).toInt64.toUInt64 &&& Int64.toUInt64 63)).toInt64) &&& 3689348814741910323)) + ((((((x0 - ((((x0).toUInt64 >>> (((1 : Int32)).toInt64.toUInt64 &&& Int64.toUInt64 63)).toInt64) &&& 6148914691236517205)) &&& 3689348814741910323) + (((((x0 - ((((x0).toUInt64 >>> (((1 : Int32)).toInt64.toUInt64 &&& Int64.toUInt64 63)).toInt64) &&& 6148914691236517205))).toUInt64 >>> (((2 : Int32)).toInt64.toUInt64 &&& Int64.toUInt64 63)).toInt64) &&& 3689348814741910323))).toUInt64 >>> (((4 : Int32)).toInt64.toUInt64 &&& Int64.toUInt64 63)).toInt64)) &&& 1085102592571150095)).toUInt64 >>> (((8 : Int32)).toInt64.toUInt64 &&& Int64.toUInt64 63)).toInt64)) + (((((((((x0 - ((((x0).toUInt64 >>> (((1 : Int32)).toInt64.toUInt64 &&& Int64.toUInt64 63)).toInt64) &&& 6148914691236517205)) &&& 3689348814741910323) + (((((x0 - ((((x0).toUInt64 >>> (((1 : Int32)).toInt64.toUInt64 &&& Int64.toUInt64 63)).toInt64) &&& 6148914691236517205))).toUInt64 >>> (((2 : Int32)).toInt64.toUInt64 &&& Int64.toUInt64 63)).toInt64) &&& 3689348814741910323)) + ((((((x0 - ((((x0).toUInt64 >>> (((1 : Int32)).toInt64.toUInt64 &&& Int64.toUInt64 63)).toInt64) &&& 6148914691236517205)) &&& 3689348814741910323) + (((((x0 - ((((x0).toUInt64 >>> (((1 : Int32)).toInt64.toUInt64 &&& Int64.toUInt64 63)).toInt64) &&& 6148914691236517205))).toUInt64 >>> (((2 : Int32)).toInt64.toUInt64 &&& Int64.toUInt64 63)).toInt64) &&& 3689348814741910323))).toUInt64 >>> (((4 : Int32)).toInt64.toUInt64 &&& Int64.toUInt64 63)).toInt64)) &&& 1085102592571150095) + ((((((((x0 - ((((x0).toUInt64 >>> (((1 : Int32)).toInt64.toUInt64 &&& Int64.toUInt64 63)).toInt64) &&& 6148914691236517205)) &&& 3689348814741910323) + (((((x0 - ((((x0).toUInt64 >>> (((1 : Int32)).toInt64.toUInt64 &&& Int64.toUInt64 63)).toInt64) &&& 6148914691236517205))).toUInt64 >>> (((2 : Int32)).toInt64.toUInt64 &&& Int64.toUInt64 63)).toInt64) &&& 3689348814741910323)) + ((((((x0 - ((((x0).toUInt64 >>> (((1 : Int32)).toInt64.toUInt64 &&& Int64.toUInt64 63)).toInt64) &&& 6148914691236517205)) &&& 3689348814741910323) + (((((x0 - ((((x0).toUInt64 >>> (((1 : Int32)).toInt64.toUInt64 &&& Int64.toUInt64 63)).toInt64) &&& 6148914691236517205))).toUInt64 >>> (((2 : Int32)).toInt64.toUInt64 &&& Int64.toUInt64 63)).toInt64) &&& 3689348814741910323))).toUInt64 >>> (((4 : Int32)).toInt64.toUInt64 &&& Int64.toUInt64 63)).toInt64)) &&& 1085102592571150095)).toUInt64 >>> (((8 : Int32)).toInt64.toUInt64 &&& Int64.toUInt64 63)).toInt64))).toUInt64 >>> (((16 : Int32)).toInt64.toUInt64 &&& Int64.toUInt64 63)).toInt64)) + ((((((((((x0 - ((((x0).toUInt64 >>> (((1 : Int32)).toInt64.toUInt64 &&& Int64.toUInt64 63)).toInt64) &&& 6148914691236517205)) &&& 3689348814741910323) + (((((x0 - ((((x0).toUInt64 >>> (((1 : Int32)).toInt64.toUInt64 &&& Int64.toUInt64 63)).toInt64) &&& 6148914691236517205))).toUInt64 >>> (((2 : Int32)).toInt64.toUInt64 &&& Int64.toUInt64 63)).toInt64) &&& 3689348814741910323)) + ((((((x0 - ((((x0).toUInt64 >>> (((1 : Int32)).toInt64.toUInt64 &&& Int64.toUInt64 63)).toInt64) &&& 6148914691236517205)) &&& 3689348814741910323) + (((((x0 - ((((x0).toUInt64 >>> (((1 : Int32)).toInt64.toUInt64 &&& Int64.toUInt64 63)).toInt64) &&& 6148914691236517205))).toUInt64 >>> (((2 : Int32)).toInt64.toUInt64 &&& Int64.toUInt64 63)).toInt64) &&& 3689348814741910323))).toUInt64 >>> (((4 : Int32)).toInt64.toUInt64 &&& Int64.toUInt64 63)).toInt64)) &&& 1085102592571150095) + ((((((((x0 - ((((x0).toUInt64 >>> (((1 : Int32)).toInt64.toUInt64 &&& Int64.toUInt64 63)).toInt64) &&& 6148914691236517205)) &&& 3689348814741910323) + (((((x0 - ((((x0).toUInt64 >>> (((1 : Int32)).toInt64.toUInt64 &&& Int64.toUInt64 63)).toInt64) &&& 6148914691236517205))).toUInt64 >>> (((2 : Int32)).toInt64.toUInt64 &&& Int64.toUInt64 63)).toInt64) &&& 3689348814741910323)) + ((((((x0 - ((((x0).toUInt64 >>> (((1 : Int32)).toInt64.toUInt64 &&& Int64.toUInt64 63)).toInt64) &&& 6148914691236517205)) &&& 3689348814741910323) + (((((x0 - ((((x0).toUInt64 >>> (((1 : Int32)).toInt64.toUInt64 &&& Int64.toUInt64 63)).toInt64) &&& 6148914691236517205))).toUInt64 >>> (((2 : Int32)).toInt64.toUInt64 &&& Int64.toUInt64 63)).toInt64) &&& 3689348814741910323))).toUInt64 >>> (((4 : Int32)).toInt64.toUInt64 &&& Int64.toUInt64 63)).toInt64)) &&& 1085102592571150095)).toUInt64 >>> (((8 : Int32)).toInt64.toUInt64 &&& Int64.toUInt64 63)).toInt64)) + (((((((((x0 - ((((x0).toUInt64 >>> (((1 : Int32)).toInt64.toUInt64 &&& Int64.toUInt64 63)).toInt64) &&& 6148914691236517205)) &&& 3689348814741910323) + (((((x0 - ((((x0).toUInt64 >>> (((1 : Int32)).toInt64.toUInt64 &&& Int64.toUInt64 63)).toInt64) &&& 6148914691236517205))).toUInt64 >>> (((2 : Int32)).toInt64.toUInt64 &&& Int64.toUInt64 63)).toInt64) &&& 3689348814741910323)) + ((((((x0 - ((((x0).toUInt64 >>> (((1 : Int32)).toInt64.toUInt64 &&& Int64.toUInt64 63)).toInt64) &&& 6148914691236517205)) &&& 3689348814741910323) + (((((x0 - ((((x0).toUInt64 >>> (((1 : Int32)).toInt64.toUInt64 &&& Int64.toUInt64 63)).toInt64) &&& 6148914691236517205))).toUInt64 >>> (((2 : Int32)).toInt64.toUInt64 &&& Int64.toUInt64 63)).toInt64) &&& 3689348814741910323))).toUInt64 >>> (((4 : Int32)).toInt64.toUInt64 &&& Int64.toUInt64 63)).toInt64)) &&& 1085102592571150095) + ((((((((x0 - ((((x0).toUInt64 >>> (((1 : Int32)).toInt64.toUInt64 &&& Int64.toUInt64 63)).toInt64) &&& 6148914691236517205)) &&& 3689348814741910323) + (((((x0 - ((((x0).toUInt64 >>> (((1 : Int32)).toInt64.toUInt64 &&& Int64.toUInt64 63)).toInt64) &&& 6148914691236517205))).toUInt64 >>> (((2 : Int32)).toInt64.toUInt64 &&& Int64.toUInt64 63)).toInt64) &&& 3689348814741910323)) + ((((((x0 - ((((x0).toUInt64 >>> (((1 : Int32)).toInt64.toUInt64 &&& Int64.toUInt64 63)).toInt64) &&& 6148914691236517205)) &&& 3689348814741910323) + (((((x0 - ((((x0).toUInt64 >>> (((1 : Int32)).toInt64.toUInt64 &&& Int64.toUInt64 63)).toInt64) &&& 6148914691236517205))).toUInt64 >>> (((2 : Int32)).toInt64.toUInt64 &&& Int64.toUInt64 63)).toInt64) &&& 3689348814741910323))).toUInt64 >>> (((4 : Int32)).toInt64.toUInt64 &&& Int64.toUInt64 63)).toInt64)) &&& 1085102592571150095)).toUInt64 >>> (((8 : Int32)).toInt64.toUInt64 &&& Int64.toUInt64 63)).toInt64))).toUInt64 >>> (((16 : Int32)).toInt64.toUInt64 &&& Int64.toUInt64 63)).toInt64))).toUInt64 >>> (((32 : Int32)).toInt64.toUInt64 &&& Int64.toUInt64 63)).toInt64)))]) d_J13_bitCount_95d88_54 rfl rfl (by decide) rfl ?_
  refine ka_lload_n d_J13_bitCount_95d88_55 rfl rfl 0 rfl ?_
  refine ka_l2i d_J13_bitCount_95d88_56 rfl ?_
  refine ka_bipush (v := 127) d_J13_bitCount_95d88_57 rfl (by decide) ?_
  refine ka_iand d_J13_bitCount_95d88_59 rfl ?_
  exact ks_iret (ty := .int) d_J13_bitCount_95d88_60 rfl rfl r1
