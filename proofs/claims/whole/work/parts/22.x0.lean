theorem d_X0_digitsOf_0 : decode cX0_digitsOf 0 = .ok (.iload_n 0, 1) := by decide +kernel
theorem d_X0_digitsOf_1 : decode cX0_digitsOf 1 = .ok (.bipush 32, 2) := by decide +kernel
theorem d_X0_digitsOf_3 : decode cX0_digitsOf 3 = .ok (.iadd, 1) := by decide +kernel
theorem d_X0_digitsOf_4 : decode cX0_digitsOf 4 = .ok (.iconst 1, 1) := by decide +kernel
theorem d_X0_digitsOf_5 : decode cX0_digitsOf 5 = .ok (.isub, 1) := by decide +kernel
theorem d_X0_digitsOf_6 : decode cX0_digitsOf 6 = .ok (.bipush 32, 2) := by decide +kernel
theorem d_X0_digitsOf_8 : decode cX0_digitsOf 8 = .ok (.idiv, 1) := by decide +kernel
theorem d_X0_digitsOf_9 : decode cX0_digitsOf 9 = .ok (.ireturn, 1) := by decide +kernel
theorem sg_X0_digitsOf_0 {L : Nat} {xs : Nat → Int32} {σ : ks_St} {mc ms : Nat} {P : ka_O → ks_St → Prop} {x0 : Int32}  (r1 : P (.inl (some (.int (((x0 + 32) - 1) / 32)))) σ) : ks_W L xs mX0_digitsOf rm_X0_digitsOf 0 [(0, .int x0)] [] σ mc ms P := by
  refine ka_iload_n d_X0_digitsOf_0 rfl rfl 0 rfl ?_
  refine ka_bipush (v := 32) d_X0_digitsOf_1 rfl (by decide) ?_
  refine ka_iadd d_X0_digitsOf_3 rfl ?_
  refine ka_iconst (v := 1) d_X0_digitsOf_4 rfl (by decide) ?_
  refine ka_isub d_X0_digitsOf_5 rfl ?_
  refine ka_bipush (v := 32) d_X0_digitsOf_6 rfl (by decide) ?_
  refine ka_idiv d_X0_digitsOf_8 rfl (by decide) ?_
  exact ks_iret (ty := .int) d_X0_digitsOf_9 rfl rfl r1
theorem d_X0_split_0 : decode cX0_split 0 = .ok (.iconst 0, 1) := by decide +kernel
theorem d_X0_split_1 : decode cX0_split 1 = .ok (.istore_n 2, 1) := by decide +kernel
theorem d_X0_split_2 : decode cX0_split 2 = .ok (.iload_n 2, 1) := by decide +kernel
theorem d_X0_split_3 : decode cX0_split 3 = .ok (.aload_n 0, 1) := by decide +kernel
theorem d_X0_split_4 : decode cX0_split 4 = .ok (.arraylength, 1) := by decide +kernel
theorem d_X0_split_5 : decode cX0_split 5 = .ok (.if_icmp .ge 44, 3) := by decide +kernel
theorem d_X0_split_8 : decode cX0_split 8 = .ok (.iconst 2, 1) := by decide +kernel
theorem d_X0_split_9 : decode cX0_split 9 = .ok (.iload_n 2, 1) := by decide +kernel
theorem d_X0_split_10 : decode cX0_split 10 = .ok (.imul, 1) := by decide +kernel
theorem d_X0_split_11 : decode cX0_split 11 = .ok (.iconst 1, 1) := by decide +kernel
theorem d_X0_split_12 : decode cX0_split 12 = .ok (.iadd, 1) := by decide +kernel
theorem d_X0_split_13 : decode cX0_split 13 = .ok (.aload_n 1, 1) := by decide +kernel
theorem d_X0_split_14 : decode cX0_split 14 = .ok (.arraylength, 1) := by decide +kernel
theorem d_X0_split_15 : decode cX0_split 15 = .ok (.if_icmp .ge 34, 3) := by decide +kernel
theorem d_X0_split_18 : decode cX0_split 18 = .ok (.aload_n 1, 1) := by decide +kernel
theorem d_X0_split_19 : decode cX0_split 19 = .ok (.iconst 2, 1) := by decide +kernel
theorem d_X0_split_20 : decode cX0_split 20 = .ok (.iload_n 2, 1) := by decide +kernel
theorem d_X0_split_21 : decode cX0_split 21 = .ok (.imul, 1) := by decide +kernel
theorem d_X0_split_22 : decode cX0_split 22 = .ok (.aload_n 0, 1) := by decide +kernel
theorem d_X0_split_23 : decode cX0_split 23 = .ok (.iload_n 2, 1) := by decide +kernel
theorem d_X0_split_24 : decode cX0_split 24 = .ok (.laload, 1) := by decide +kernel
theorem d_X0_split_25 : decode cX0_split 25 = .ok (.ldc2_w 54, 3) := by decide +kernel
theorem d_X0_split_28 : decode cX0_split 28 = .ok (.land, 1) := by decide +kernel
theorem d_X0_split_29 : decode cX0_split 29 = .ok (.lastore, 1) := by decide +kernel
theorem d_X0_split_30 : decode cX0_split 30 = .ok (.aload_n 1, 1) := by decide +kernel
theorem d_X0_split_31 : decode cX0_split 31 = .ok (.iconst 2, 1) := by decide +kernel
theorem d_X0_split_32 : decode cX0_split 32 = .ok (.iload_n 2, 1) := by decide +kernel
theorem d_X0_split_33 : decode cX0_split 33 = .ok (.imul, 1) := by decide +kernel
theorem d_X0_split_34 : decode cX0_split 34 = .ok (.iconst 1, 1) := by decide +kernel
theorem d_X0_split_35 : decode cX0_split 35 = .ok (.iadd, 1) := by decide +kernel
theorem d_X0_split_36 : decode cX0_split 36 = .ok (.aload_n 0, 1) := by decide +kernel
theorem d_X0_split_37 : decode cX0_split 37 = .ok (.iload_n 2, 1) := by decide +kernel
theorem d_X0_split_38 : decode cX0_split 38 = .ok (.laload, 1) := by decide +kernel
theorem d_X0_split_39 : decode cX0_split 39 = .ok (.bipush 32, 2) := by decide +kernel
theorem d_X0_split_41 : decode cX0_split 41 = .ok (.lushr, 1) := by decide +kernel
theorem d_X0_split_42 : decode cX0_split 42 = .ok (.lastore, 1) := by decide +kernel
theorem d_X0_split_43 : decode cX0_split 43 = .ok (.iinc 2 1, 3) := by decide +kernel
theorem d_X0_split_46 : decode cX0_split 46 = .ok (.goto (-44), 3) := by decide +kernel
theorem d_X0_split_49 : decode cX0_split 49 = .ok (.return_, 1) := by decide +kernel
theorem sg_X0_split_0 {L : Nat} {xs : Nat → Int32} {σ : ks_St} {mc ms : Nat} {P : ka_O → ks_St → Prop} {a0 na0 : Nat} {a1 na1 : Nat} (ha0 : rl_ a0 na0) (ha1 : rl_ a1 na1) (k1 : ks_W L xs mX0_split rm_X0_split 2 [(0, .ref a0), (1, .ref a1), (2, .int 0)] [] σ mc ms P) : ks_W L xs mX0_split rm_X0_split 0 [(0, .ref a0), (1, .ref a1)] [] σ mc ms P := by
  refine ka_iconst (v := 0) d_X0_split_0 rfl (by decide) ?_
  refine ka_istore_n (ls' := [(2, .int 0), (0, .ref a0), (1, .ref a1)]) d_X0_split_1 rfl rfl (by decide) rfl ?_
  refine ka_sub [1, 2, 0] rfl ?_
  exact k1
theorem sg_X0_split_2 {L : Nat} {xs : Nat → Int32} {σ : ks_St} {mc ms : Nat} {P : ka_O → ks_St → Prop} {a0 na0 : Nat} {a1 na1 : Nat} {x2 : Int32} (ha0 : rl_ a0 na0) (ha1 : rl_ a1 na1) (k2 : ((nI na0) ≤ x2) → ks_W L xs mX0_split rm_X0_split 49 [] [] σ mc ms P) (k4 : (¬ ((nI na0) ≤ x2)) → ((nI na1) ≤ ((2 * x2) + 1)) → ks_W L xs mX0_split rm_X0_split 49 [] [] σ mc ms P) (v5 : (¬ ((nI na0) ≤ x2)) → (¬ ((nI na1) ≤ ((2 * x2) + 1))) → vp_in x2 na0) (v6 : (¬ ((nI na0) ≤ x2)) → (¬ ((nI na1) ≤ ((2 * x2) + 1))) → vp_in (2 * x2) na1) (v7 : (¬ ((nI na0) ≤ x2)) → (¬ ((nI na1) ≤ ((2 * x2) + 1))) → vp_in x2 na0) (v8 : (¬ ((nI na0) ≤ x2)) → (¬ ((nI na1) ≤ ((2 * x2) + 1))) → vp_in ((2 * x2) + 1) na1) (k9 : (¬ ((nI na0) ≤ x2)) → (¬ ((nI na1) ≤ ((2 * x2) + 1))) → ks_W L xs mX0_split rm_X0_split 2 [(0, .ref a0), (1, .ref a1), (2, .int (x2 + 1))] [] (ug_ (ug_ σ a1 (vp_updL (sg_ σ a1) (2 * x2).toNatClampNeg ((sg_ σ a0 x2.toNatClampNeg) &&& 4294967295))) a1 (vp_updL (sg_ (ug_ σ a1 (vp_updL (sg_ σ a1) (2 * x2).toNatClampNeg ((sg_ σ a0 x2.toNatClampNeg) &&& 4294967295))) a1) ((2 * x2) + 1).toNatClampNeg ((((sg_ (ug_ σ a1 (vp_updL (sg_ σ a1) (2 * x2).toNatClampNeg ((sg_ σ a0 x2.toNatClampNeg) &&& 4294967295))) a0 x2.toNatClampNeg)).toUInt64 >>> (((32 : Int32)).toInt64.toUInt64 &&& Int64.toUInt64 63)).toInt64))) mc ms P) : ks_W L xs mX0_split rm_X0_split 2 [(0, .ref a0), (1, .ref a1), (2, .int x2)] [] σ mc ms P := by
  refine ka_iload_n d_X0_split_2 rfl rfl 2 rfl ?_
  refine ka_aload_n d_X0_split_3 rfl rfl 0 rfl ?_
  refine ks_llen ha0 d_X0_split_4 rfl ?_
  refine ka_icmp_ge (tgt := 49) d_X0_split_5 (by decide) rfl (fun c1 => ?_) (fun c1 => ?_)
  · refine ka_sub [] rfl ?_
    exact (k2 c1)
  · refine ka_iconst (v := 2) d_X0_split_8 rfl (by decide) ?_
    refine ka_iload_n d_X0_split_9 rfl rfl 2 rfl ?_
    refine ka_imul d_X0_split_10 rfl ?_
    refine ka_iconst (v := 1) d_X0_split_11 rfl (by decide) ?_
    refine ka_iadd d_X0_split_12 rfl ?_
    refine ka_aload_n d_X0_split_13 rfl rfl 1 rfl ?_
    refine ks_llen ha1 d_X0_split_14 rfl ?_
    refine ka_icmp_ge (tgt := 49) d_X0_split_15 (by decide) rfl (fun c3 => ?_) (fun c3 => ?_)
    · refine ka_sub [] rfl ?_
      exact (k4 c1 c3)
    · refine ka_aload_n d_X0_split_18 rfl rfl 1 rfl ?_
      refine ka_iconst (v := 2) d_X0_split_19 rfl (by decide) ?_
      refine ka_iload_n d_X0_split_20 rfl rfl 2 rfl ?_
      refine ka_imul d_X0_split_21 rfl ?_
      refine ka_aload_n d_X0_split_22 rfl rfl 0 rfl ?_
      refine ka_iload_n d_X0_split_23 rfl rfl 2 rfl ?_
      refine ks_lald ha0 d_X0_split_24 rfl (v5 c1 c3) ?_
      refine ka_ldc2 (v := 4294967295) d_X0_split_25 rfl kl_X0_54 ?_
      refine ka_land d_X0_split_28 rfl ?_
      refine ks_last ha1 d_X0_split_29 rfl (v6 c1 c3) ?_
      refine ka_aload_n d_X0_split_30 rfl rfl 1 rfl ?_
      refine ka_iconst (v := 2) d_X0_split_31 rfl (by decide) ?_
      refine ka_iload_n d_X0_split_32 rfl rfl 2 rfl ?_
      refine ka_imul d_X0_split_33 rfl ?_
      refine ka_iconst (v := 1) d_X0_split_34 rfl (by decide) ?_
      refine ka_iadd d_X0_split_35 rfl ?_
      refine ka_aload_n d_X0_split_36 rfl rfl 0 rfl ?_
      refine ka_iload_n d_X0_split_37 rfl rfl 2 rfl ?_
      refine ks_lald ha0 d_X0_split_38 rfl (v7 c1 c3) ?_
      refine ka_bipush (v := 32) d_X0_split_39 rfl (by decide) ?_
      refine ka_lushr d_X0_split_41 rfl ?_
      refine ks_last ha1 d_X0_split_42 rfl (v8 c1 c3) ?_
      refine ka_iinc (g := 2) (v := x2 + 1) (ls' := [(2, .int (x2 + 1)), (0, .ref a0), (1, .ref a1)]) d_X0_split_43 rfl rfl rfl (by decide) rfl ?_
      refine ka_goto (q := 2) d_X0_split_46 (by decide) ?_
      refine ka_sub [1, 2, 0] rfl ?_
      exact (k9 c1 c3)
theorem sg_X0_split_49 {L : Nat} {xs : Nat → Int32} {σ : ks_St} {mc ms : Nat} {P : ka_O → ks_St → Prop}   (r1 : P (.inl none) σ) : ks_W L xs mX0_split rm_X0_split 49 [] [] σ mc ms P := by
  exact ks_vret d_X0_split_49 rfl r1
theorem d_X0_addMultiple_0 : decode cX0_addMultiple 0 = .ok (.lconst 0, 1) := by decide +kernel
theorem d_X0_addMultiple_1 : decode cX0_addMultiple 1 = .ok (.lstore 5, 2) := by decide +kernel
theorem d_X0_addMultiple_3 : decode cX0_addMultiple 3 = .ok (.iconst 0, 1) := by decide +kernel
theorem d_X0_addMultiple_4 : decode cX0_addMultiple 4 = .ok (.istore 7, 2) := by decide +kernel
theorem d_X0_addMultiple_6 : decode cX0_addMultiple 6 = .ok (.iload 7, 2) := by decide +kernel
theorem d_X0_addMultiple_8 : decode cX0_addMultiple 8 = .ok (.iload 4, 2) := by decide +kernel
theorem d_X0_addMultiple_10 : decode cX0_addMultiple 10 = .ok (.if_icmp .ge 55, 3) := by decide +kernel
theorem d_X0_addMultiple_13 : decode cX0_addMultiple 13 = .ok (.lload_n 1, 1) := by decide +kernel
theorem d_X0_addMultiple_14 : decode cX0_addMultiple 14 = .ok (.aload_n 0, 1) := by decide +kernel
theorem d_X0_addMultiple_15 : decode cX0_addMultiple 15 = .ok (.getfield 27, 3) := by decide +kernel
theorem d_X0_addMultiple_18 : decode cX0_addMultiple 18 = .ok (.iload 7, 2) := by decide +kernel
theorem d_X0_addMultiple_20 : decode cX0_addMultiple 20 = .ok (.laload, 1) := by decide +kernel
theorem d_X0_addMultiple_21 : decode cX0_addMultiple 21 = .ok (.lmul, 1) := by decide +kernel
theorem d_X0_addMultiple_22 : decode cX0_addMultiple 22 = .ok (.aload_n 0, 1) := by decide +kernel
theorem d_X0_addMultiple_23 : decode cX0_addMultiple 23 = .ok (.getfield 30, 3) := by decide +kernel
theorem d_X0_addMultiple_26 : decode cX0_addMultiple 26 = .ok (.iload_n 3, 1) := by decide +kernel
theorem d_X0_addMultiple_27 : decode cX0_addMultiple 27 = .ok (.iload 7, 2) := by decide +kernel
theorem d_X0_addMultiple_29 : decode cX0_addMultiple 29 = .ok (.iadd, 1) := by decide +kernel
theorem d_X0_addMultiple_30 : decode cX0_addMultiple 30 = .ok (.laload, 1) := by decide +kernel
theorem d_X0_addMultiple_31 : decode cX0_addMultiple 31 = .ok (.ladd, 1) := by decide +kernel
theorem d_X0_addMultiple_32 : decode cX0_addMultiple 32 = .ok (.lload 5, 2) := by decide +kernel
theorem d_X0_addMultiple_34 : decode cX0_addMultiple 34 = .ok (.ladd, 1) := by decide +kernel
theorem d_X0_addMultiple_35 : decode cX0_addMultiple 35 = .ok (.lstore 8, 2) := by decide +kernel
theorem d_X0_addMultiple_37 : decode cX0_addMultiple 37 = .ok (.aload_n 0, 1) := by decide +kernel
theorem d_X0_addMultiple_38 : decode cX0_addMultiple 38 = .ok (.getfield 30, 3) := by decide +kernel
theorem d_X0_addMultiple_41 : decode cX0_addMultiple 41 = .ok (.iload_n 3, 1) := by decide +kernel
theorem d_X0_addMultiple_42 : decode cX0_addMultiple 42 = .ok (.iload 7, 2) := by decide +kernel
theorem d_X0_addMultiple_44 : decode cX0_addMultiple 44 = .ok (.iadd, 1) := by decide +kernel
theorem d_X0_addMultiple_45 : decode cX0_addMultiple 45 = .ok (.lload 8, 2) := by decide +kernel
theorem d_X0_addMultiple_47 : decode cX0_addMultiple 47 = .ok (.ldc2_w 54, 3) := by decide +kernel
theorem d_X0_addMultiple_50 : decode cX0_addMultiple 50 = .ok (.land, 1) := by decide +kernel
theorem d_X0_addMultiple_51 : decode cX0_addMultiple 51 = .ok (.lastore, 1) := by decide +kernel
theorem d_X0_addMultiple_52 : decode cX0_addMultiple 52 = .ok (.lload 8, 2) := by decide +kernel
theorem d_X0_addMultiple_54 : decode cX0_addMultiple 54 = .ok (.bipush 32, 2) := by decide +kernel
theorem d_X0_addMultiple_56 : decode cX0_addMultiple 56 = .ok (.lushr, 1) := by decide +kernel
theorem d_X0_addMultiple_57 : decode cX0_addMultiple 57 = .ok (.lstore 5, 2) := by decide +kernel
theorem d_X0_addMultiple_59 : decode cX0_addMultiple 59 = .ok (.iinc 7 1, 3) := by decide +kernel
theorem d_X0_addMultiple_62 : decode cX0_addMultiple 62 = .ok (.goto (-56), 3) := by decide +kernel
theorem d_X0_addMultiple_65 : decode cX0_addMultiple 65 = .ok (.aload_n 0, 1) := by decide +kernel
theorem d_X0_addMultiple_66 : decode cX0_addMultiple 66 = .ok (.getfield 30, 3) := by decide +kernel
theorem d_X0_addMultiple_69 : decode cX0_addMultiple 69 = .ok (.iload_n 3, 1) := by decide +kernel
theorem d_X0_addMultiple_70 : decode cX0_addMultiple 70 = .ok (.iload 4, 2) := by decide +kernel
theorem d_X0_addMultiple_72 : decode cX0_addMultiple 72 = .ok (.iadd, 1) := by decide +kernel
theorem d_X0_addMultiple_73 : decode cX0_addMultiple 73 = .ok (.lload 5, 2) := by decide +kernel
theorem d_X0_addMultiple_75 : decode cX0_addMultiple 75 = .ok (.lastore, 1) := by decide +kernel
theorem d_X0_addMultiple_76 : decode cX0_addMultiple 76 = .ok (.return_, 1) := by decide +kernel
theorem sg_X0_addMultiple_0 {L : Nat} {xs : Nat → Int32} {σ : ks_St} {mc ms : Nat} {P : ka_O → ks_St → Prop} {x1 : Int64} {x3 : Int32} {x4 : Int32}  (k1 : ks_W L xs mX0_addMultiple rm_X0_addMultiple 6 [(0, .ref 7), (1, .long x1), (3, .int x3), (4, .int x4), (5, .long 0), (7, .int 0)] [] σ mc ms P) : ks_W L xs mX0_addMultiple rm_X0_addMultiple 0 [(0, .ref 7), (1, .long x1), (3, .int x3), (4, .int x4)] [] σ mc ms P := by
  refine ka_lconst (v := 0) d_X0_addMultiple_0 rfl (by decide) ?_
  refine ka_lstore (ls' := [(5, .long 0), (0, .ref 7), (1, .long x1), (3, .int x3), (4, .int x4)]) d_X0_addMultiple_1 rfl (by decide) rfl ?_
  refine ka_iconst (v := 0) d_X0_addMultiple_3 rfl (by decide) ?_
  refine ka_istore (ls' := [(7, .int 0), (5, .long 0), (0, .ref 7), (1, .long x1), (3, .int x3), (4, .int x4)]) d_X0_addMultiple_4 rfl (by decide) rfl ?_
  refine ka_sub [2, 3, 4, 5, 1, 0] rfl ?_
  exact k1
theorem sg_X0_addMultiple_6 {L : Nat} {xs : Nat → Int32} {σ : ks_St} {mc ms : Nat} {P : ka_O → ks_St → Prop} {x1 : Int64} {x3 : Int32} {x4 : Int32} {x5 : Int64} {x7 : Int32}  (v2 : (x4 ≤ x7) → vp_in (x3 + x4) 32) (r3 : (x4 ≤ x7) → P (.inl none) (ug_ σ 14 (vp_updL (sg_ σ 14) (x3 + x4).toNatClampNeg x5))) (v4 : (¬ (x4 ≤ x7)) → vp_in x7 18) (v5 : (¬ (x4 ≤ x7)) → vp_in (x3 + x7) 32) (v6 : (¬ (x4 ≤ x7)) → vp_in (x3 + x7) 32) (k7 : (¬ (x4 ≤ x7)) → ks_W L xs mX0_addMultiple rm_X0_addMultiple 6 [(0, .ref 7), (1, .long x1), (3, .int x3), (4, .int x4), (5, .long ((((((x1 * (sg_ σ 13 x7.toNatClampNeg)) + (sg_ σ 14 (x3 + x7).toNatClampNeg)) + x5)).toUInt64 >>> (((32 : Int32)).toInt64.toUInt64 &&& Int64.toUInt64 63)).toInt64)), (7, .int (x7 + 1))] [] (ug_ σ 14 (vp_updL (sg_ σ 14) (x3 + x7).toNatClampNeg ((((x1 * (sg_ σ 13 x7.toNatClampNeg)) + (sg_ σ 14 (x3 + x7).toNatClampNeg)) + x5) &&& 4294967295))) mc ms P) : ks_W L xs mX0_addMultiple rm_X0_addMultiple 6 [(0, .ref 7), (1, .long x1), (3, .int x3), (4, .int x4), (5, .long x5), (7, .int x7)] [] σ mc ms P := by
  refine ka_iload d_X0_addMultiple_6 rfl 5 rfl ?_
  refine ka_iload d_X0_addMultiple_8 rfl 3 rfl ?_
  refine ka_icmp_ge (tgt := 65) d_X0_addMultiple_10 (by decide) rfl (fun c1 => ?_) (fun c1 => ?_)
  · refine ka_aload_n d_X0_addMultiple_65 rfl rfl 0 rfl ?_
    refine gf_X0_6 d_X0_addMultiple_66 rfl fl_X0_30 ?_
    refine ka_iload_n d_X0_addMultiple_69 rfl rfl 2 rfl ?_
    refine ka_iload d_X0_addMultiple_70 rfl 3 rfl ?_
    refine ka_iadd d_X0_addMultiple_72 rfl ?_
    refine ka_lload d_X0_addMultiple_73 rfl 4 rfl ?_
    refine ks_last row_14 d_X0_addMultiple_75 rfl (v2 c1) ?_
    exact ks_vret d_X0_addMultiple_76 rfl (r3 c1)
  · refine ka_lload_n d_X0_addMultiple_13 rfl rfl 1 rfl ?_
    refine ka_aload_n d_X0_addMultiple_14 rfl rfl 0 rfl ?_
    refine gf_X0_5 d_X0_addMultiple_15 rfl fl_X0_27 ?_
    refine ka_iload d_X0_addMultiple_18 rfl 5 rfl ?_
    refine ks_lald row_13 d_X0_addMultiple_20 rfl (v4 c1) ?_
    refine ka_lmul d_X0_addMultiple_21 rfl ?_
    refine ka_aload_n d_X0_addMultiple_22 rfl rfl 0 rfl ?_
    refine gf_X0_6 d_X0_addMultiple_23 rfl fl_X0_30 ?_
    refine ka_iload_n d_X0_addMultiple_26 rfl rfl 2 rfl ?_
    refine ka_iload d_X0_addMultiple_27 rfl 5 rfl ?_
    refine ka_iadd d_X0_addMultiple_29 rfl ?_
    refine ks_lald row_14 d_X0_addMultiple_30 rfl (v5 c1) ?_
    refine ka_ladd d_X0_addMultiple_31 rfl ?_
    refine ka_lload d_X0_addMultiple_32 rfl 4 rfl ?_
    refine ka_ladd d_X0_addMultiple_34 rfl ?_
    refine ka_lstore (ls' := [(8, .long (((x1 * (sg_ σ 13 x7.toNatClampNeg)) + (sg_ σ 14 (x3 + x7).toNatClampNeg)) + x5)), (0, .ref 7), (1, .long x1), (3, .int x3), (4, .int x4), (5, .long x5), (7, .int x7)]) d_X0_addMultiple_35 rfl (by decide) rfl ?_
    refine ka_aload_n d_X0_addMultiple_37 rfl rfl 1 rfl ?_
    refine gf_X0_6 d_X0_addMultiple_38 rfl fl_X0_30 ?_
    refine ka_iload_n d_X0_addMultiple_41 rfl rfl 3 rfl ?_
    refine ka_iload d_X0_addMultiple_42 rfl 6 rfl ?_
    refine ka_iadd d_X0_addMultiple_44 rfl ?_
    refine ka_lload d_X0_addMultiple_45 rfl 0 rfl ?_
    refine ka_ldc2 (v := 4294967295) d_X0_addMultiple_47 rfl kl_X0_54 ?_
    refine ka_land d_X0_addMultiple_50 rfl ?_
    refine ks_last row_14 d_X0_addMultiple_51 rfl (v6 c1) ?_
    refine ka_lload d_X0_addMultiple_52 rfl 0 rfl ?_
    refine ka_bipush (v := 32) d_X0_addMultiple_54 rfl (by decide) ?_
    refine ka_lushr d_X0_addMultiple_56 rfl ?_
    refine ka_lstore (ls' := [(5, .long ((((((x1 * (sg_ σ 13 x7.toNatClampNeg)) + (sg_ σ 14 (x3 + x7).toNatClampNeg)) + x5)).toUInt64 >>> (((32 : Int32)).toInt64.toUInt64 &&& Int64.toUInt64 63)).toInt64)), (8, .long (((x1 * (sg_ σ 13 x7.toNatClampNeg)) + (sg_ σ 14 (x3 + x7).toNatClampNeg)) + x5)), (0, .ref 7), (1, .long x1), (3, .int x3), (4, .int x4), (7, .int x7)]) d_X0_addMultiple_57 rfl (by decide) rfl ?_
    refine ka_iinc (g := 6) (v := x7 + 1) (ls' := [(7, .int (x7 + 1)), (5, .long ((((((x1 * (sg_ σ 13 x7.toNatClampNeg)) + (sg_ σ 14 (x3 + x7).toNatClampNeg)) + x5)).toUInt64 >>> (((32 : Int32)).toInt64.toUInt64 &&& Int64.toUInt64 63)).toInt64)), (8, .long (((x1 * (sg_ σ 13 x7.toNatClampNeg)) + (sg_ σ 14 (x3 + x7).toNatClampNeg)) + x5)), (0, .ref 7), (1, .long x1), (3, .int x3), (4, .int x4)]) d_X0_addMultiple_59 rfl rfl rfl (by decide) rfl ?_
    refine ka_goto (q := 6) d_X0_addMultiple_62 (by decide) ?_
    refine ka_sub [3, 4, 5, 6, 1, 0] rfl ?_
    exact (k7 c1)
theorem d_X0_merge_0 : decode cX0_merge 0 = .ok (.iconst 0, 1) := by decide +kernel
theorem d_X0_merge_1 : decode cX0_merge 1 = .ok (.istore_n 2, 1) := by decide +kernel
theorem d_X0_merge_2 : decode cX0_merge 2 = .ok (.iload_n 2, 1) := by decide +kernel
theorem d_X0_merge_3 : decode cX0_merge 3 = .ok (.aload_n 1, 1) := by decide +kernel
theorem d_X0_merge_4 : decode cX0_merge 4 = .ok (.arraylength, 1) := by decide +kernel
theorem d_X0_merge_5 : decode cX0_merge 5 = .ok (.if_icmp .ge 38, 3) := by decide +kernel
theorem d_X0_merge_8 : decode cX0_merge 8 = .ok (.iconst 2, 1) := by decide +kernel
theorem d_X0_merge_9 : decode cX0_merge 9 = .ok (.iload_n 2, 1) := by decide +kernel
theorem d_X0_merge_10 : decode cX0_merge 10 = .ok (.imul, 1) := by decide +kernel
theorem d_X0_merge_11 : decode cX0_merge 11 = .ok (.iconst 1, 1) := by decide +kernel
theorem d_X0_merge_12 : decode cX0_merge 12 = .ok (.iadd, 1) := by decide +kernel
theorem d_X0_merge_13 : decode cX0_merge 13 = .ok (.aload_n 0, 1) := by decide +kernel
theorem d_X0_merge_14 : decode cX0_merge 14 = .ok (.arraylength, 1) := by decide +kernel
theorem d_X0_merge_15 : decode cX0_merge 15 = .ok (.if_icmp .ge 28, 3) := by decide +kernel
theorem d_X0_merge_18 : decode cX0_merge 18 = .ok (.aload_n 1, 1) := by decide +kernel
theorem d_X0_merge_19 : decode cX0_merge 19 = .ok (.iload_n 2, 1) := by decide +kernel
theorem d_X0_merge_20 : decode cX0_merge 20 = .ok (.aload_n 0, 1) := by decide +kernel
theorem d_X0_merge_21 : decode cX0_merge 21 = .ok (.iconst 2, 1) := by decide +kernel
theorem d_X0_merge_22 : decode cX0_merge 22 = .ok (.iload_n 2, 1) := by decide +kernel
theorem d_X0_merge_23 : decode cX0_merge 23 = .ok (.imul, 1) := by decide +kernel
theorem d_X0_merge_24 : decode cX0_merge 24 = .ok (.laload, 1) := by decide +kernel
theorem d_X0_merge_25 : decode cX0_merge 25 = .ok (.aload_n 0, 1) := by decide +kernel
theorem d_X0_merge_26 : decode cX0_merge 26 = .ok (.iconst 2, 1) := by decide +kernel
theorem d_X0_merge_27 : decode cX0_merge 27 = .ok (.iload_n 2, 1) := by decide +kernel
theorem d_X0_merge_28 : decode cX0_merge 28 = .ok (.imul, 1) := by decide +kernel
theorem d_X0_merge_29 : decode cX0_merge 29 = .ok (.iconst 1, 1) := by decide +kernel
theorem d_X0_merge_30 : decode cX0_merge 30 = .ok (.iadd, 1) := by decide +kernel
theorem d_X0_merge_31 : decode cX0_merge 31 = .ok (.laload, 1) := by decide +kernel
theorem d_X0_merge_32 : decode cX0_merge 32 = .ok (.bipush 32, 2) := by decide +kernel
theorem d_X0_merge_34 : decode cX0_merge 34 = .ok (.lshl, 1) := by decide +kernel
theorem d_X0_merge_35 : decode cX0_merge 35 = .ok (.lor, 1) := by decide +kernel
theorem d_X0_merge_36 : decode cX0_merge 36 = .ok (.lastore, 1) := by decide +kernel
theorem d_X0_merge_37 : decode cX0_merge 37 = .ok (.iinc 2 1, 3) := by decide +kernel
theorem d_X0_merge_40 : decode cX0_merge 40 = .ok (.goto (-38), 3) := by decide +kernel
theorem d_X0_merge_43 : decode cX0_merge 43 = .ok (.return_, 1) := by decide +kernel
theorem sg_X0_merge_0 {L : Nat} {xs : Nat → Int32} {σ : ks_St} {mc ms : Nat} {P : ka_O → ks_St → Prop} {a0 na0 : Nat} {a1 na1 : Nat} (ha0 : rl_ a0 na0) (ha1 : rl_ a1 na1) (k1 : ks_W L xs mX0_merge rm_X0_merge 2 [(0, .ref a0), (1, .ref a1), (2, .int 0)] [] σ mc ms P) : ks_W L xs mX0_merge rm_X0_merge 0 [(0, .ref a0), (1, .ref a1)] [] σ mc ms P := by
  refine ka_iconst (v := 0) d_X0_merge_0 rfl (by decide) ?_
  refine ka_istore_n (ls' := [(2, .int 0), (0, .ref a0), (1, .ref a1)]) d_X0_merge_1 rfl rfl (by decide) rfl ?_
  refine ka_sub [1, 2, 0] rfl ?_
  exact k1
theorem sg_X0_merge_2 {L : Nat} {xs : Nat → Int32} {σ : ks_St} {mc ms : Nat} {P : ka_O → ks_St → Prop} {a0 na0 : Nat} {a1 na1 : Nat} {x2 : Int32} (ha0 : rl_ a0 na0) (ha1 : rl_ a1 na1) (k2 : ((nI na1) ≤ x2) → ks_W L xs mX0_merge rm_X0_merge 43 [] [] σ mc ms P) (k4 : (¬ ((nI na1) ≤ x2)) → ((nI na0) ≤ ((2 * x2) + 1)) → ks_W L xs mX0_merge rm_X0_merge 43 [] [] σ mc ms P) (v5 : (¬ ((nI na1) ≤ x2)) → (¬ ((nI na0) ≤ ((2 * x2) + 1))) → vp_in (2 * x2) na0) (v6 : (¬ ((nI na1) ≤ x2)) → (¬ ((nI na0) ≤ ((2 * x2) + 1))) → vp_in ((2 * x2) + 1) na0) (v7 : (¬ ((nI na1) ≤ x2)) → (¬ ((nI na0) ≤ ((2 * x2) + 1))) → vp_in x2 na1) (k8 : (¬ ((nI na1) ≤ x2)) → (¬ ((nI na0) ≤ ((2 * x2) + 1))) → ks_W L xs mX0_merge rm_X0_merge 2 [(0, .ref a0), (1, .ref a1), (2, .int (x2 + 1))] [] (ug_ σ a1 (vp_updL (sg_ σ a1) x2.toNatClampNeg ((sg_ σ a0 (2 * x2).toNatClampNeg) ||| ((sg_ σ a0 ((2 * x2) + 1).toNatClampNeg) <<< (((32 : Int32)).toInt64 &&& 63))))) mc ms P) : ks_W L xs mX0_merge rm_X0_merge 2 [(0, .ref a0), (1, .ref a1), (2, .int x2)] [] σ mc ms P := by
  refine ka_iload_n d_X0_merge_2 rfl rfl 2 rfl ?_
  refine ka_aload_n d_X0_merge_3 rfl rfl 1 rfl ?_
  refine ks_llen ha1 d_X0_merge_4 rfl ?_
  refine ka_icmp_ge (tgt := 43) d_X0_merge_5 (by decide) rfl (fun c1 => ?_) (fun c1 => ?_)
  · refine ka_sub [] rfl ?_
    exact (k2 c1)
  · refine ka_iconst (v := 2) d_X0_merge_8 rfl (by decide) ?_
    refine ka_iload_n d_X0_merge_9 rfl rfl 2 rfl ?_
    refine ka_imul d_X0_merge_10 rfl ?_
    refine ka_iconst (v := 1) d_X0_merge_11 rfl (by decide) ?_
    refine ka_iadd d_X0_merge_12 rfl ?_
    refine ka_aload_n d_X0_merge_13 rfl rfl 0 rfl ?_
    refine ks_llen ha0 d_X0_merge_14 rfl ?_
    refine ka_icmp_ge (tgt := 43) d_X0_merge_15 (by decide) rfl (fun c3 => ?_) (fun c3 => ?_)
    · refine ka_sub [] rfl ?_
      exact (k4 c1 c3)
    · refine ka_aload_n d_X0_merge_18 rfl rfl 1 rfl ?_
      refine ka_iload_n d_X0_merge_19 rfl rfl 2 rfl ?_
      refine ka_aload_n d_X0_merge_20 rfl rfl 0 rfl ?_
      refine ka_iconst (v := 2) d_X0_merge_21 rfl (by decide) ?_
      refine ka_iload_n d_X0_merge_22 rfl rfl 2 rfl ?_
      refine ka_imul d_X0_merge_23 rfl ?_
      refine ks_lald ha0 d_X0_merge_24 rfl (v5 c1 c3) ?_
      refine ka_aload_n d_X0_merge_25 rfl rfl 0 rfl ?_
      refine ka_iconst (v := 2) d_X0_merge_26 rfl (by decide) ?_
      refine ka_iload_n d_X0_merge_27 rfl rfl 2 rfl ?_
      refine ka_imul d_X0_merge_28 rfl ?_
      refine ka_iconst (v := 1) d_X0_merge_29 rfl (by decide) ?_
      refine ka_iadd d_X0_merge_30 rfl ?_
      refine ks_lald ha0 d_X0_merge_31 rfl (v6 c1 c3) ?_
      refine ka_bipush (v := 32) d_X0_merge_32 rfl (by decide) ?_
      refine ka_lshl d_X0_merge_34 rfl ?_
      refine ka_lor d_X0_merge_35 rfl ?_
      refine ks_last ha1 d_X0_merge_36 rfl (v7 c1 c3) ?_
      refine ka_iinc (g := 2) (v := x2 + 1) (ls' := [(2, .int (x2 + 1)), (0, .ref a0), (1, .ref a1)]) d_X0_merge_37 rfl rfl rfl (by decide) rfl ?_
      refine ka_goto (q := 2) d_X0_merge_40 (by decide) ?_
      refine ka_sub [1, 2, 0] rfl ?_
      exact (k8 c1 c3)
theorem sg_X0_merge_43 {L : Nat} {xs : Nat → Int32} {σ : ks_St} {mc ms : Nat} {P : ka_O → ks_St → Prop}   (r1 : P (.inl none) σ) : ks_W L xs mX0_merge rm_X0_merge 43 [] [] σ mc ms P := by
  exact ks_vret d_X0_merge_43 rfl r1
theorem d_X0_multiply_0 : decode cX0_multiply 0 = .ok (.iload_n 3, 1) := by decide +kernel
theorem d_X0_multiply_1 : decode cX0_multiply 1 = .ok (.invokestatic 33, 3) := by decide +kernel
theorem d_X0_multiply_4 : decode cX0_multiply 4 = .ok (.istore 4, 2) := by decide +kernel
theorem d_X0_multiply_6 : decode cX0_multiply 6 = .ok (.aload_n 1, 1) := by decide +kernel
theorem d_X0_multiply_7 : decode cX0_multiply 7 = .ok (.aload_n 0, 1) := by decide +kernel
theorem d_X0_multiply_8 : decode cX0_multiply 8 = .ok (.getfield 24, 3) := by decide +kernel
theorem d_X0_multiply_11 : decode cX0_multiply 11 = .ok (.invokestatic 37, 3) := by decide +kernel
theorem d_X0_multiply_14 : decode cX0_multiply 14 = .ok (.aload_n 2, 1) := by decide +kernel
theorem d_X0_multiply_15 : decode cX0_multiply 15 = .ok (.aload_n 0, 1) := by decide +kernel
theorem d_X0_multiply_16 : decode cX0_multiply 16 = .ok (.getfield 27, 3) := by decide +kernel
theorem d_X0_multiply_19 : decode cX0_multiply 19 = .ok (.invokestatic 37, 3) := by decide +kernel
theorem d_X0_multiply_22 : decode cX0_multiply 22 = .ok (.aload_n 0, 1) := by decide +kernel
theorem d_X0_multiply_23 : decode cX0_multiply 23 = .ok (.getfield 30, 3) := by decide +kernel
theorem d_X0_multiply_26 : decode cX0_multiply 26 = .ok (.invokestatic 41, 3) := by decide +kernel
theorem d_X0_multiply_29 : decode cX0_multiply 29 = .ok (.iconst 0, 1) := by decide +kernel
theorem d_X0_multiply_30 : decode cX0_multiply 30 = .ok (.istore 5, 2) := by decide +kernel
theorem d_X0_multiply_32 : decode cX0_multiply 32 = .ok (.iload 5, 2) := by decide +kernel
theorem d_X0_multiply_34 : decode cX0_multiply 34 = .ok (.iload 4, 2) := by decide +kernel
theorem d_X0_multiply_36 : decode cX0_multiply 36 = .ok (.if_icmp .ge 24, 3) := by decide +kernel
theorem d_X0_multiply_39 : decode cX0_multiply 39 = .ok (.aload_n 0, 1) := by decide +kernel
theorem d_X0_multiply_40 : decode cX0_multiply 40 = .ok (.aload_n 0, 1) := by decide +kernel
theorem d_X0_multiply_41 : decode cX0_multiply 41 = .ok (.getfield 24, 3) := by decide +kernel
theorem d_X0_multiply_44 : decode cX0_multiply 44 = .ok (.iload 5, 2) := by decide +kernel
theorem d_X0_multiply_46 : decode cX0_multiply 46 = .ok (.laload, 1) := by decide +kernel
theorem d_X0_multiply_47 : decode cX0_multiply 47 = .ok (.iload 5, 2) := by decide +kernel
theorem d_X0_multiply_49 : decode cX0_multiply 49 = .ok (.iload 4, 2) := by decide +kernel
theorem d_X0_multiply_51 : decode cX0_multiply 51 = .ok (.invokevirtual 47, 3) := by decide +kernel
theorem d_X0_multiply_54 : decode cX0_multiply 54 = .ok (.iinc 5 1, 3) := by decide +kernel
theorem d_X0_multiply_57 : decode cX0_multiply 57 = .ok (.goto (-25), 3) := by decide +kernel
theorem d_X0_multiply_60 : decode cX0_multiply 60 = .ok (.aload_n 0, 1) := by decide +kernel
theorem d_X0_multiply_61 : decode cX0_multiply 61 = .ok (.getfield 30, 3) := by decide +kernel
theorem d_X0_multiply_64 : decode cX0_multiply 64 = .ok (.aload_n 0, 1) := by decide +kernel
theorem d_X0_multiply_65 : decode cX0_multiply 65 = .ok (.getfield 9, 3) := by decide +kernel
theorem d_X0_multiply_68 : decode cX0_multiply 68 = .ok (.invokestatic 51, 3) := by decide +kernel
theorem d_X0_multiply_71 : decode cX0_multiply 71 = .ok (.return_, 1) := by decide +kernel
theorem sg_X0_multiply_0 {L : Nat} {xs : Nat → Int32} {σ : ks_St} {mc ms : Nat} {P : ka_O → ks_St → Prop} {a1 na1 : Nat} {a2 na2 : Nat} {x3 : Int32} (ha1 : rl_ a1 na1) (ha2 : rl_ a2 na2) (k1 : ks_W L xs mX0_multiply rm_X0_multiply 1 [(0, .ref 7), (1, .ref a1), (2, .ref a2)] [.int x3] σ mc ms P) : ks_W L xs mX0_multiply rm_X0_multiply 0 [(0, .ref 7), (1, .ref a1), (2, .ref a2), (3, .int x3)] [] σ mc ms P := by
  refine ka_iload_n d_X0_multiply_0 rfl rfl 3 rfl ?_
  refine ka_sub [0, 1, 2] rfl ?_
  exact k1
theorem cs_X0_multiply_1 {L : Nat} {xs : Nat → Int32} {σ : ks_St} {mc ms : Nat} {P : ka_O → ks_St → Prop} {f : Int32 → ks_St → Prop} {a1 : Nat} {a2 : Nat} {s0 : Int32} (hK : ks_M L xs mX0_digitsOf rm_X0_digitsOf [.int s0] σ (pi_ f)) (kr : ∀ r σ', f r σ' → ks_W L xs mX0_multiply rm_X0_multiply 4 [(0, .ref 7), (1, .ref a1), (2, .ref a2)] [.int r] σ' mc ms P) : ks_W L xs mX0_multiply rm_X0_multiply 1 [(0, .ref 7), (1, .ref a1), (2, .ref a2)] [.int s0] σ mc ms P := by
  refine ks_callS (q := 4) (As := [.int s0]) (st := []) d_X0_multiply_1 rfl rfl lk_X0_33 ⟨by decide, by decide⟩ (Nat.le_of_ble_eq_true rfl) ⟨Nat.le_refl _, Nat.le_refl _⟩ hK (fun v σ' hq => ?_) (fun E σ' hq => ?_)
  · obtain ⟨r, e, hf⟩ := hq; cases e; exact kr r σ' hf
  · obtain ⟨r, e, hf⟩ := hq; cases e
theorem sg_X0_multiply_4 {L : Nat} {xs : Nat → Int32} {σ : ks_St} {mc ms : Nat} {P : ka_O → ks_St → Prop} {a1 na1 : Nat} {a2 na2 : Nat} {s0 : Int32} (ha1 : rl_ a1 na1) (ha2 : rl_ a2 na2) (k1 : ks_W L xs mX0_multiply rm_X0_multiply 11 [(0, .ref 7), (2, .ref a2), (4, .int s0)] [.ref 12, .ref a1] σ mc ms P) : ks_W L xs mX0_multiply rm_X0_multiply 4 [(0, .ref 7), (1, .ref a1), (2, .ref a2)] [.int s0] σ mc ms P := by
  refine ka_istore (ls' := [(4, .int s0), (0, .ref 7), (1, .ref a1), (2, .ref a2)]) d_X0_multiply_4 rfl (by decide) rfl ?_
  refine ka_aload_n d_X0_multiply_6 rfl rfl 2 rfl ?_
  refine ka_aload_n d_X0_multiply_7 rfl rfl 1 rfl ?_
  refine gf_X0_4 d_X0_multiply_8 rfl fl_X0_24 ?_
  refine ka_sub [1, 3, 0] rfl ?_
  exact k1
theorem cs_X0_multiply_11 {L : Nat} {xs : Nat → Int32} {σ : ks_St} {mc ms : Nat} {P : ka_O → ks_St → Prop} {f : ks_St → Prop} {a2 : Nat} {x4 : Int32} {a1 : Nat} (hK : ks_M L xs mX0_split rm_X0_split [.ref a1, .ref 12] σ (pv_ f)) (kr : ∀ σ', f σ' → ks_W L xs mX0_multiply rm_X0_multiply 14 [(0, .ref 7), (2, .ref a2), (4, .int x4)] [] σ' mc ms P) : ks_W L xs mX0_multiply rm_X0_multiply 11 [(0, .ref 7), (2, .ref a2), (4, .int x4)] [.ref 12, .ref a1] σ mc ms P := by
  refine ks_callS (q := 14) (As := [.ref a1, .ref 12]) (st := []) d_X0_multiply_11 rfl rfl lk_X0_37 ⟨by decide, by decide⟩ (Nat.le_of_ble_eq_true rfl) ⟨Nat.le_refl _, Nat.le_refl _⟩ hK (fun v σ' hq => ?_) (fun E σ' hq => ?_)
  · obtain ⟨e, hf⟩ := hq; cases e; exact kr σ' hf
  · obtain ⟨e, hf⟩ := hq; cases e
theorem sg_X0_multiply_14 {L : Nat} {xs : Nat → Int32} {σ : ks_St} {mc ms : Nat} {P : ka_O → ks_St → Prop} {a2 na2 : Nat} {x4 : Int32} (ha2 : rl_ a2 na2) (k1 : ks_W L xs mX0_multiply rm_X0_multiply 19 [(0, .ref 7), (4, .int x4)] [.ref 13, .ref a2] σ mc ms P) : ks_W L xs mX0_multiply rm_X0_multiply 14 [(0, .ref 7), (2, .ref a2), (4, .int x4)] [] σ mc ms P := by
  refine ka_aload_n d_X0_multiply_14 rfl rfl 1 rfl ?_
  refine ka_aload_n d_X0_multiply_15 rfl rfl 0 rfl ?_
  refine gf_X0_5 d_X0_multiply_16 rfl fl_X0_27 ?_
  refine ka_sub [0, 2] rfl ?_
  exact k1
theorem cs_X0_multiply_19 {L : Nat} {xs : Nat → Int32} {σ : ks_St} {mc ms : Nat} {P : ka_O → ks_St → Prop} {f : ks_St → Prop} {x4 : Int32} {a2 : Nat} (hK : ks_M L xs mX0_split rm_X0_split [.ref a2, .ref 13] σ (pv_ f)) (kr : ∀ σ', f σ' → ks_W L xs mX0_multiply rm_X0_multiply 22 [(0, .ref 7), (4, .int x4)] [] σ' mc ms P) : ks_W L xs mX0_multiply rm_X0_multiply 19 [(0, .ref 7), (4, .int x4)] [.ref 13, .ref a2] σ mc ms P := by
  refine ks_callS (q := 22) (As := [.ref a2, .ref 13]) (st := []) d_X0_multiply_19 rfl rfl lk_X0_37 ⟨by decide, by decide⟩ (Nat.le_of_ble_eq_true rfl) ⟨Nat.le_refl _, Nat.le_refl _⟩ hK (fun v σ' hq => ?_) (fun E σ' hq => ?_)
  · obtain ⟨e, hf⟩ := hq; cases e; exact kr σ' hf
  · obtain ⟨e, hf⟩ := hq; cases e
theorem sg_X0_multiply_22 {L : Nat} {xs : Nat → Int32} {σ : ks_St} {mc ms : Nat} {P : ka_O → ks_St → Prop} {x4 : Int32}  (k1 : ks_W L xs mX0_multiply rm_X0_multiply 26 [(0, .ref 7), (4, .int x4)] [.ref 14] σ mc ms P) : ks_W L xs mX0_multiply rm_X0_multiply 22 [(0, .ref 7), (4, .int x4)] [] σ mc ms P := by
  refine ka_aload_n d_X0_multiply_22 rfl rfl 0 rfl ?_
  refine gf_X0_6 d_X0_multiply_23 rfl fl_X0_30 ?_
  exact k1
theorem cs_X0_multiply_26 {L : Nat} {xs : Nat → Int32} {σ : ks_St} {mc ms : Nat} {P : ka_O → ks_St → Prop} {f : ks_St → Prop} {x4 : Int32} (hK : ks_M L xs mX3_clear rm_X3_clear [.ref 14] σ (pv_ f)) (kr : ∀ σ', f σ' → ks_W L xs mX0_multiply rm_X0_multiply 29 [(0, .ref 7), (4, .int x4)] [] σ' mc ms P) : ks_W L xs mX0_multiply rm_X0_multiply 26 [(0, .ref 7), (4, .int x4)] [.ref 14] σ mc ms P := by
  refine ks_callS (q := 29) (As := [.ref 14]) (st := []) d_X0_multiply_26 rfl rfl lk_X0_41 ⟨by decide, by decide⟩ (Nat.le_of_ble_eq_true rfl) ⟨Nat.le_refl _, Nat.le_refl _⟩ hK (fun v σ' hq => ?_) (fun E σ' hq => ?_)
  · obtain ⟨e, hf⟩ := hq; cases e; exact kr σ' hf
  · obtain ⟨e, hf⟩ := hq; cases e
theorem sg_X0_multiply_29 {L : Nat} {xs : Nat → Int32} {σ : ks_St} {mc ms : Nat} {P : ka_O → ks_St → Prop} {x4 : Int32}  (k1 : ks_W L xs mX0_multiply rm_X0_multiply 32 [(0, .ref 7), (4, .int x4), (5, .int 0)] [] σ mc ms P) : ks_W L xs mX0_multiply rm_X0_multiply 29 [(0, .ref 7), (4, .int x4)] [] σ mc ms P := by
  refine ka_iconst (v := 0) d_X0_multiply_29 rfl (by decide) ?_
  refine ka_istore (ls' := [(5, .int 0), (0, .ref 7), (4, .int x4)]) d_X0_multiply_30 rfl (by decide) rfl ?_
  refine ka_sub [1, 2, 0] rfl ?_
  exact k1
theorem sg_X0_multiply_32 {L : Nat} {xs : Nat → Int32} {σ : ks_St} {mc ms : Nat} {P : ka_O → ks_St → Prop} {x4 : Int32} {x5 : Int32}  (k2 : (x4 ≤ x5) → ks_W L xs mX0_multiply rm_X0_multiply 68 [] [.ref 8, .ref 14] σ mc ms P) (v3 : (¬ (x4 ≤ x5)) → vp_in x5 18) (k4 : (¬ (x4 ≤ x5)) → ks_W L xs mX0_multiply rm_X0_multiply 51 [(0, .ref 7), (4, .int x4), (5, .int x5)] [.int x4, .int x5, .long (sg_ σ 12 x5.toNatClampNeg), .ref 7] σ mc ms P) : ks_W L xs mX0_multiply rm_X0_multiply 32 [(0, .ref 7), (4, .int x4), (5, .int x5)] [] σ mc ms P := by
  refine ka_iload d_X0_multiply_32 rfl 2 rfl ?_
  refine ka_iload d_X0_multiply_34 rfl 1 rfl ?_
  refine ka_icmp_ge (tgt := 60) d_X0_multiply_36 (by decide) rfl (fun c1 => ?_) (fun c1 => ?_)
  · refine ka_aload_n d_X0_multiply_60 rfl rfl 0 rfl ?_
    refine gf_X0_6 d_X0_multiply_61 rfl fl_X0_30 ?_
    refine ka_aload_n d_X0_multiply_64 rfl rfl 0 rfl ?_
    refine gf_X0_0 d_X0_multiply_65 rfl fl_X0_9 ?_
    refine ka_sub [] rfl ?_
    exact (k2 c1)
  · refine ka_aload_n d_X0_multiply_39 rfl rfl 0 rfl ?_
    refine ka_aload_n d_X0_multiply_40 rfl rfl 0 rfl ?_
    refine gf_X0_4 d_X0_multiply_41 rfl fl_X0_24 ?_
    refine ka_iload d_X0_multiply_44 rfl 2 rfl ?_
    refine ks_lald row_12 d_X0_multiply_46 rfl (v3 c1) ?_
    refine ka_iload d_X0_multiply_47 rfl 2 rfl ?_
    refine ka_iload d_X0_multiply_49 rfl 1 rfl ?_
    exact (k4 c1)
theorem cs_X0_multiply_51 {L : Nat} {xs : Nat → Int32} {σ : ks_St} {mc ms : Nat} {P : ka_O → ks_St → Prop} {f : ks_St → Prop} {x4 : Int32} {x5 : Int32} {s1 : Int64} {s2 : Int32} {s3 : Int32} (hK : ks_M L xs mX0_addMultiple rm_X0_addMultiple [.ref 7, .long s1, .int s2, .int s3] σ (pv_ f)) (kr : ∀ σ', f σ' → ks_W L xs mX0_multiply rm_X0_multiply 54 [(0, .ref 7), (4, .int x4), (5, .int x5)] [] σ' mc ms P) : ks_W L xs mX0_multiply rm_X0_multiply 51 [(0, .ref 7), (4, .int x4), (5, .int x5)] [.int s3, .int s2, .long s1, .ref 7] σ mc ms P := by
  refine ks_callV (q := 54) (o := 7) (ci := 1) (As := [.long s1, .int s2, .int s3]) (st := []) d_X0_multiply_51 rfl rfl (by decide) rfl rfl lk_X0_47 ⟨by decide, by decide⟩ (Nat.le_of_ble_eq_true rfl) ⟨Nat.le_refl _, Nat.le_refl _⟩ hK (fun v σ' hq => ?_) (fun E σ' hq => ?_)
  · obtain ⟨e, hf⟩ := hq; cases e; exact kr σ' hf
  · obtain ⟨e, hf⟩ := hq; cases e
theorem sg_X0_multiply_54 {L : Nat} {xs : Nat → Int32} {σ : ks_St} {mc ms : Nat} {P : ka_O → ks_St → Prop} {x4 : Int32} {x5 : Int32}  (k1 : ks_W L xs mX0_multiply rm_X0_multiply 32 [(0, .ref 7), (4, .int x4), (5, .int (x5 + 1))] [] σ mc ms P) : ks_W L xs mX0_multiply rm_X0_multiply 54 [(0, .ref 7), (4, .int x4), (5, .int x5)] [] σ mc ms P := by
  refine ka_iinc (g := 2) (v := x5 + 1) (ls' := [(5, .int (x5 + 1)), (0, .ref 7), (4, .int x4)]) d_X0_multiply_54 rfl rfl rfl (by decide) rfl ?_
  refine ka_goto (q := 32) d_X0_multiply_57 (by decide) ?_
  refine ka_sub [1, 2, 0] rfl ?_
  exact k1
theorem cs_X0_multiply_68 {L : Nat} {xs : Nat → Int32} {σ : ks_St} {mc ms : Nat} {P : ka_O → ks_St → Prop} {f : ks_St → Prop}  (hK : ks_M L xs mX0_merge rm_X0_merge [.ref 14, .ref 8] σ (pv_ f)) (kr : ∀ σ', f σ' → ks_W L xs mX0_multiply rm_X0_multiply 71 [] [] σ' mc ms P) : ks_W L xs mX0_multiply rm_X0_multiply 68 [] [.ref 8, .ref 14] σ mc ms P := by
  refine ks_callS (q := 71) (As := [.ref 14, .ref 8]) (st := []) d_X0_multiply_68 rfl rfl lk_X0_51 ⟨by decide, by decide⟩ (Nat.le_of_ble_eq_true rfl) ⟨Nat.le_refl _, Nat.le_refl _⟩ hK (fun v σ' hq => ?_) (fun E σ' hq => ?_)
  · obtain ⟨e, hf⟩ := hq; cases e; exact kr σ' hf
  · obtain ⟨e, hf⟩ := hq; cases e
theorem sg_X0_multiply_71 {L : Nat} {xs : Nat → Int32} {σ : ks_St} {mc ms : Nat} {P : ka_O → ks_St → Prop}   (r1 : P (.inl none) σ) : ks_W L xs mX0_multiply rm_X0_multiply 71 [] [] σ mc ms P := by
  exact ks_vret d_X0_multiply_71 rfl r1
theorem d_X0_quotientOf_0 : decode cX0_quotientOf 0 = .ok (.lload_n 2, 1) := by decide +kernel
theorem d_X0_quotientOf_1 : decode cX0_quotientOf 1 = .ok (.lconst 0, 1) := by decide +kernel
theorem d_X0_quotientOf_2 : decode cX0_quotientOf 2 = .ok (.lcmp, 1) := by decide +kernel
theorem d_X0_quotientOf_3 : decode cX0_quotientOf 3 = .ok (.ifCond .gt 5, 3) := by decide +kernel
theorem d_X0_quotientOf_6 : decode cX0_quotientOf 6 = .ok (.lconst 0, 1) := by decide +kernel
theorem d_X0_quotientOf_7 : decode cX0_quotientOf 7 = .ok (.lreturn, 1) := by decide +kernel
theorem d_X0_quotientOf_8 : decode cX0_quotientOf 8 = .ok (.lload_n 0, 1) := by decide +kernel
theorem d_X0_quotientOf_9 : decode cX0_quotientOf 9 = .ok (.iconst 1, 1) := by decide +kernel
theorem d_X0_quotientOf_10 : decode cX0_quotientOf 10 = .ok (.lushr, 1) := by decide +kernel
theorem d_X0_quotientOf_11 : decode cX0_quotientOf 11 = .ok (.lload_n 2, 1) := by decide +kernel
theorem d_X0_quotientOf_12 : decode cX0_quotientOf 12 = .ok (.ldiv, 1) := by decide +kernel
theorem d_X0_quotientOf_13 : decode cX0_quotientOf 13 = .ok (.iconst 1, 1) := by decide +kernel
theorem d_X0_quotientOf_14 : decode cX0_quotientOf 14 = .ok (.lshl, 1) := by decide +kernel
theorem d_X0_quotientOf_15 : decode cX0_quotientOf 15 = .ok (.lstore 4, 2) := by decide +kernel
theorem d_X0_quotientOf_17 : decode cX0_quotientOf 17 = .ok (.lload_n 0, 1) := by decide +kernel
theorem d_X0_quotientOf_18 : decode cX0_quotientOf 18 = .ok (.lload 4, 2) := by decide +kernel
theorem d_X0_quotientOf_20 : decode cX0_quotientOf 20 = .ok (.lload_n 2, 1) := by decide +kernel
theorem d_X0_quotientOf_21 : decode cX0_quotientOf 21 = .ok (.lmul, 1) := by decide +kernel
theorem d_X0_quotientOf_22 : decode cX0_quotientOf 22 = .ok (.lsub, 1) := by decide +kernel
theorem d_X0_quotientOf_23 : decode cX0_quotientOf 23 = .ok (.lload_n 2, 1) := by decide +kernel
theorem d_X0_quotientOf_24 : decode cX0_quotientOf 24 = .ok (.lcmp, 1) := by decide +kernel
theorem d_X0_quotientOf_25 : decode cX0_quotientOf 25 = .ok (.ifCond .lt 10, 3) := by decide +kernel
theorem d_X0_quotientOf_28 : decode cX0_quotientOf 28 = .ok (.lload 4, 2) := by decide +kernel
theorem d_X0_quotientOf_30 : decode cX0_quotientOf 30 = .ok (.lconst 1, 1) := by decide +kernel
theorem d_X0_quotientOf_31 : decode cX0_quotientOf 31 = .ok (.ladd, 1) := by decide +kernel
theorem d_X0_quotientOf_32 : decode cX0_quotientOf 32 = .ok (.goto 5, 3) := by decide +kernel
theorem d_X0_quotientOf_35 : decode cX0_quotientOf 35 = .ok (.lload 4, 2) := by decide +kernel
theorem d_X0_quotientOf_37 : decode cX0_quotientOf 37 = .ok (.lreturn, 1) := by decide +kernel
theorem sg_X0_quotientOf_0 {L : Nat} {xs : Nat → Int32} {σ : ks_St} {mc ms : Nat} {P : ka_O → ks_St → Prop} {x0 : Int64} {x2 : Int64}  (z2 : (0 < (lg_cmp x2 0)) → ¬ x2 = 0) (k4 : (0 < (lg_cmp x2 0)) → ((lg_cmp (x0 - ((((((x0).toUInt64 >>> (((1 : Int32)).toInt64.toUInt64 &&& Int64.toUInt64 63)).toInt64) / x2) <<< (((1 : Int32)).toInt64 &&& 63)) * x2)) x2) < 0) → ks_W L xs mX0_quotientOf rm_X0_quotientOf 37 [] [.long (((((x0).toUInt64 >>> (((1 : Int32)).toInt64.toUInt64 &&& Int64.toUInt64 63)).toInt64) / x2) <<< (((1 : Int32)).toInt64 &&& 63))] σ mc ms P) (k5 : (0 < (lg_cmp x2 0)) → (¬ ((lg_cmp (x0 - ((((((x0).toUInt64 >>> (((1 : Int32)).toInt64.toUInt64 &&& Int64.toUInt64 63)).toInt64) / x2) <<< (((1 : Int32)).toInt64 &&& 63)) * x2)) x2) < 0)) → ks_W L xs mX0_quotientOf rm_X0_quotientOf 37 [] [.long ((((((x0).toUInt64 >>> (((1 : Int32)).toInt64.toUInt64 &&& Int64.toUInt64 63)).toInt64) / x2) <<< (((1 : Int32)).toInt64 &&& 63)) + 1)] σ mc ms P) (r6 : (¬ (0 < (lg_cmp x2 0))) → P (.inl (some (.long 0))) σ) : ks_W L xs mX0_quotientOf rm_X0_quotientOf 0 [(0, .long x0), (2, .long x2)] [] σ mc ms P := by
  refine ka_lload_n d_X0_quotientOf_0 rfl rfl 1 rfl ?_
  refine ka_lconst (v := 0) d_X0_quotientOf_1 rfl (by decide) ?_
  refine ka_lcmp d_X0_quotientOf_2 rfl ?_
  refine ka_if_gt (tgt := 8) d_X0_quotientOf_3 (by decide) rfl (fun c1 => ?_) (fun c1 => ?_)
  · refine ka_lload_n d_X0_quotientOf_8 rfl rfl 0 rfl ?_
    refine ka_iconst (v := 1) d_X0_quotientOf_9 rfl (by decide) ?_
    refine ka_lushr d_X0_quotientOf_10 rfl ?_
    refine ka_lload_n d_X0_quotientOf_11 rfl rfl 1 rfl ?_
    refine ka_ldiv d_X0_quotientOf_12 rfl (z2 c1) ?_
    refine ka_iconst (v := 1) d_X0_quotientOf_13 rfl (by decide) ?_
    refine ka_lshl d_X0_quotientOf_14 rfl ?_
    refine ka_lstore (ls' := [(4, .long (((((x0).toUInt64 >>> (((1 : Int32)).toInt64.toUInt64 &&& Int64.toUInt64 63)).toInt64) / x2) <<< (((1 : Int32)).toInt64 &&& 63))), (0, .long x0), (2, .long x2)]) d_X0_quotientOf_15 rfl (by decide) rfl ?_
    refine ka_lload_n d_X0_quotientOf_17 rfl rfl 1 rfl ?_
    refine ka_lload d_X0_quotientOf_18 rfl 0 rfl ?_
    refine ka_lload_n d_X0_quotientOf_20 rfl rfl 2 rfl ?_
    refine ka_lmul d_X0_quotientOf_21 rfl ?_
    refine ka_lsub d_X0_quotientOf_22 rfl ?_
    refine ka_lload_n d_X0_quotientOf_23 rfl rfl 2 rfl ?_
    refine ka_lcmp d_X0_quotientOf_24 rfl ?_
    refine ka_if_lt (tgt := 35) d_X0_quotientOf_25 (by decide) rfl (fun c3 => ?_) (fun c3 => ?_)
    · refine ka_lload d_X0_quotientOf_35 rfl 0 rfl ?_
      refine ka_sub [] rfl ?_
      exact (k4 c1 c3)
    · refine ka_lload d_X0_quotientOf_28 rfl 0 rfl ?_
      refine ka_lconst (v := 1) d_X0_quotientOf_30 rfl (by decide) ?_
      refine ka_ladd d_X0_quotientOf_31 rfl ?_
      refine ka_goto (q := 37) d_X0_quotientOf_32 (by decide) ?_
      refine ka_sub [] rfl ?_
      exact (k5 c1 c3)
  · refine ka_lconst (v := 0) d_X0_quotientOf_6 rfl (by decide) ?_
    exact ks_lret d_X0_quotientOf_7 rfl (r6 c1)
theorem sg_X0_quotientOf_37 {L : Nat} {xs : Nat → Int32} {σ : ks_St} {mc ms : Nat} {P : ka_O → ks_St → Prop} {s0 : Int64}  (r1 : P (.inl (some (.long s0))) σ) : ks_W L xs mX0_quotientOf rm_X0_quotientOf 37 [] [.long s0] σ mc ms P := by
  exact ks_lret d_X0_quotientOf_37 rfl r1
theorem d_X0_subtractMultiple_0 : decode cX0_subtractMultiple 0 = .ok (.lconst 0, 1) := by decide +kernel
theorem d_X0_subtractMultiple_1 : decode cX0_subtractMultiple 1 = .ok (.lstore 5, 2) := by decide +kernel
theorem d_X0_subtractMultiple_3 : decode cX0_subtractMultiple 3 = .ok (.iconst 0, 1) := by decide +kernel
theorem d_X0_subtractMultiple_4 : decode cX0_subtractMultiple 4 = .ok (.istore 7, 2) := by decide +kernel
theorem d_X0_subtractMultiple_6 : decode cX0_subtractMultiple 6 = .ok (.iload 7, 2) := by decide +kernel
theorem d_X0_subtractMultiple_8 : decode cX0_subtractMultiple 8 = .ok (.iload 4, 2) := by decide +kernel
theorem d_X0_subtractMultiple_10 : decode cX0_subtractMultiple 10 = .ok (.if_icmp .ge 69, 3) := by decide +kernel
theorem d_X0_subtractMultiple_13 : decode cX0_subtractMultiple 13 = .ok (.lload_n 1, 1) := by decide +kernel
theorem d_X0_subtractMultiple_14 : decode cX0_subtractMultiple 14 = .ok (.aload_n 0, 1) := by decide +kernel
theorem d_X0_subtractMultiple_15 : decode cX0_subtractMultiple 15 = .ok (.getfield 27, 3) := by decide +kernel
theorem d_X0_subtractMultiple_18 : decode cX0_subtractMultiple 18 = .ok (.iload 7, 2) := by decide +kernel
theorem d_X0_subtractMultiple_20 : decode cX0_subtractMultiple 20 = .ok (.laload, 1) := by decide +kernel
theorem d_X0_subtractMultiple_21 : decode cX0_subtractMultiple 21 = .ok (.lmul, 1) := by decide +kernel
theorem d_X0_subtractMultiple_22 : decode cX0_subtractMultiple 22 = .ok (.lload 5, 2) := by decide +kernel
theorem d_X0_subtractMultiple_24 : decode cX0_subtractMultiple 24 = .ok (.ladd, 1) := by decide +kernel
theorem d_X0_subtractMultiple_25 : decode cX0_subtractMultiple 25 = .ok (.lstore 8, 2) := by decide +kernel
theorem d_X0_subtractMultiple_27 : decode cX0_subtractMultiple 27 = .ok (.aload_n 0, 1) := by decide +kernel
theorem d_X0_subtractMultiple_28 : decode cX0_subtractMultiple 28 = .ok (.getfield 24, 3) := by decide +kernel
theorem d_X0_subtractMultiple_31 : decode cX0_subtractMultiple 31 = .ok (.iload_n 3, 1) := by decide +kernel
theorem d_X0_subtractMultiple_32 : decode cX0_subtractMultiple 32 = .ok (.iload 7, 2) := by decide +kernel
theorem d_X0_subtractMultiple_34 : decode cX0_subtractMultiple 34 = .ok (.iadd, 1) := by decide +kernel
theorem d_X0_subtractMultiple_35 : decode cX0_subtractMultiple 35 = .ok (.laload, 1) := by decide +kernel
theorem d_X0_subtractMultiple_36 : decode cX0_subtractMultiple 36 = .ok (.lload 8, 2) := by decide +kernel
theorem d_X0_subtractMultiple_38 : decode cX0_subtractMultiple 38 = .ok (.ldc2_w 54, 3) := by decide +kernel
theorem d_X0_subtractMultiple_41 : decode cX0_subtractMultiple 41 = .ok (.land, 1) := by decide +kernel
theorem d_X0_subtractMultiple_42 : decode cX0_subtractMultiple 42 = .ok (.lsub, 1) := by decide +kernel
theorem d_X0_subtractMultiple_43 : decode cX0_subtractMultiple 43 = .ok (.lstore 10, 2) := by decide +kernel
theorem d_X0_subtractMultiple_45 : decode cX0_subtractMultiple 45 = .ok (.aload_n 0, 1) := by decide +kernel
theorem d_X0_subtractMultiple_46 : decode cX0_subtractMultiple 46 = .ok (.getfield 24, 3) := by decide +kernel
theorem d_X0_subtractMultiple_49 : decode cX0_subtractMultiple 49 = .ok (.iload_n 3, 1) := by decide +kernel
theorem d_X0_subtractMultiple_50 : decode cX0_subtractMultiple 50 = .ok (.iload 7, 2) := by decide +kernel
theorem d_X0_subtractMultiple_52 : decode cX0_subtractMultiple 52 = .ok (.iadd, 1) := by decide +kernel
theorem d_X0_subtractMultiple_53 : decode cX0_subtractMultiple 53 = .ok (.lload 10, 2) := by decide +kernel
theorem d_X0_subtractMultiple_55 : decode cX0_subtractMultiple 55 = .ok (.ldc2_w 54, 3) := by decide +kernel
theorem d_X0_subtractMultiple_58 : decode cX0_subtractMultiple 58 = .ok (.land, 1) := by decide +kernel
theorem d_X0_subtractMultiple_59 : decode cX0_subtractMultiple 59 = .ok (.lastore, 1) := by decide +kernel
theorem d_X0_subtractMultiple_60 : decode cX0_subtractMultiple 60 = .ok (.lload 8, 2) := by decide +kernel
theorem d_X0_subtractMultiple_62 : decode cX0_subtractMultiple 62 = .ok (.bipush 32, 2) := by decide +kernel
theorem d_X0_subtractMultiple_64 : decode cX0_subtractMultiple 64 = .ok (.lushr, 1) := by decide +kernel
theorem d_X0_subtractMultiple_65 : decode cX0_subtractMultiple 65 = .ok (.lload 10, 2) := by decide +kernel
theorem d_X0_subtractMultiple_67 : decode cX0_subtractMultiple 67 = .ok (.bipush 63, 2) := by decide +kernel
theorem d_X0_subtractMultiple_69 : decode cX0_subtractMultiple 69 = .ok (.lushr, 1) := by decide +kernel
theorem d_X0_subtractMultiple_70 : decode cX0_subtractMultiple 70 = .ok (.ladd, 1) := by decide +kernel
theorem d_X0_subtractMultiple_71 : decode cX0_subtractMultiple 71 = .ok (.lstore 5, 2) := by decide +kernel
theorem d_X0_subtractMultiple_73 : decode cX0_subtractMultiple 73 = .ok (.iinc 7 1, 3) := by decide +kernel
theorem d_X0_subtractMultiple_76 : decode cX0_subtractMultiple 76 = .ok (.goto (-70), 3) := by decide +kernel
theorem d_X0_subtractMultiple_79 : decode cX0_subtractMultiple 79 = .ok (.aload_n 0, 1) := by decide +kernel
theorem d_X0_subtractMultiple_80 : decode cX0_subtractMultiple 80 = .ok (.getfield 24, 3) := by decide +kernel
theorem d_X0_subtractMultiple_83 : decode cX0_subtractMultiple 83 = .ok (.iload_n 3, 1) := by decide +kernel
theorem d_X0_subtractMultiple_84 : decode cX0_subtractMultiple 84 = .ok (.iload 4, 2) := by decide +kernel
theorem d_X0_subtractMultiple_86 : decode cX0_subtractMultiple 86 = .ok (.iadd, 1) := by decide +kernel
theorem d_X0_subtractMultiple_87 : decode cX0_subtractMultiple 87 = .ok (.laload, 1) := by decide +kernel
theorem d_X0_subtractMultiple_88 : decode cX0_subtractMultiple 88 = .ok (.lload 5, 2) := by decide +kernel
theorem d_X0_subtractMultiple_90 : decode cX0_subtractMultiple 90 = .ok (.lsub, 1) := by decide +kernel
theorem d_X0_subtractMultiple_91 : decode cX0_subtractMultiple 91 = .ok (.lstore 7, 2) := by decide +kernel
theorem d_X0_subtractMultiple_93 : decode cX0_subtractMultiple 93 = .ok (.aload_n 0, 1) := by decide +kernel
theorem d_X0_subtractMultiple_94 : decode cX0_subtractMultiple 94 = .ok (.getfield 24, 3) := by decide +kernel
theorem d_X0_subtractMultiple_97 : decode cX0_subtractMultiple 97 = .ok (.iload_n 3, 1) := by decide +kernel
theorem d_X0_subtractMultiple_98 : decode cX0_subtractMultiple 98 = .ok (.iload 4, 2) := by decide +kernel
theorem d_X0_subtractMultiple_100 : decode cX0_subtractMultiple 100 = .ok (.iadd, 1) := by decide +kernel
theorem d_X0_subtractMultiple_101 : decode cX0_subtractMultiple 101 = .ok (.lload 7, 2) := by decide +kernel
theorem d_X0_subtractMultiple_103 : decode cX0_subtractMultiple 103 = .ok (.ldc2_w 54, 3) := by decide +kernel
theorem d_X0_subtractMultiple_106 : decode cX0_subtractMultiple 106 = .ok (.land, 1) := by decide +kernel
theorem d_X0_subtractMultiple_107 : decode cX0_subtractMultiple 107 = .ok (.lastore, 1) := by decide +kernel
theorem d_X0_subtractMultiple_108 : decode cX0_subtractMultiple 108 = .ok (.lload 7, 2) := by decide +kernel
theorem d_X0_subtractMultiple_110 : decode cX0_subtractMultiple 110 = .ok (.lconst 0, 1) := by decide +kernel
theorem d_X0_subtractMultiple_111 : decode cX0_subtractMultiple 111 = .ok (.lcmp, 1) := by decide +kernel
theorem d_X0_subtractMultiple_112 : decode cX0_subtractMultiple 112 = .ok (.ifCond .ge 7, 3) := by decide +kernel
theorem d_X0_subtractMultiple_115 : decode cX0_subtractMultiple 115 = .ok (.iconst 1, 1) := by decide +kernel
theorem d_X0_subtractMultiple_116 : decode cX0_subtractMultiple 116 = .ok (.goto 4, 3) := by decide +kernel
theorem d_X0_subtractMultiple_119 : decode cX0_subtractMultiple 119 = .ok (.iconst 0, 1) := by decide +kernel
theorem d_X0_subtractMultiple_120 : decode cX0_subtractMultiple 120 = .ok (.ireturn, 1) := by decide +kernel
theorem sg_X0_subtractMultiple_0 {L : Nat} {xs : Nat → Int32} {σ : ks_St} {mc ms : Nat} {P : ka_O → ks_St → Prop} {x1 : Int64} {x3 : Int32} {x4 : Int32}  (k1 : ks_W L xs mX0_subtractMultiple rm_X0_subtractMultiple 6 [(0, .ref 7), (1, .long x1), (3, .int x3), (4, .int x4), (5, .long 0), (7, .int 0)] [] σ mc ms P) : ks_W L xs mX0_subtractMultiple rm_X0_subtractMultiple 0 [(0, .ref 7), (1, .long x1), (3, .int x3), (4, .int x4)] [] σ mc ms P := by
  refine ka_lconst (v := 0) d_X0_subtractMultiple_0 rfl (by decide) ?_
  refine ka_lstore (ls' := [(5, .long 0), (0, .ref 7), (1, .long x1), (3, .int x3), (4, .int x4)]) d_X0_subtractMultiple_1 rfl (by decide) rfl ?_
  refine ka_iconst (v := 0) d_X0_subtractMultiple_3 rfl (by decide) ?_
  refine ka_istore (ls' := [(7, .int 0), (5, .long 0), (0, .ref 7), (1, .long x1), (3, .int x3), (4, .int x4)]) d_X0_subtractMultiple_4 rfl (by decide) rfl ?_
  refine ka_sub [2, 3, 4, 5, 1, 0] rfl ?_
  exact k1
theorem sg_X0_subtractMultiple_6 {L : Nat} {xs : Nat → Int32} {σ : ks_St} {mc ms : Nat} {P : ka_O → ks_St → Prop} {x1 : Int64} {x3 : Int32} {x4 : Int32} {x5 : Int64} {x7 : Int32}  (v2 : (x4 ≤ x7) → vp_in (x3 + x4) 18) (v3 : (x4 ≤ x7) → vp_in (x3 + x4) 18) (k5 : (x4 ≤ x7) → (0 ≤ (lg_cmp ((sg_ σ 12 (x3 + x4).toNatClampNeg) - x5) 0)) → ks_W L xs mX0_subtractMultiple rm_X0_subtractMultiple 120 [] [.int 0] (ug_ σ 12 (vp_updL (sg_ σ 12) (x3 + x4).toNatClampNeg (((sg_ σ 12 (x3 + x4).toNatClampNeg) - x5) &&& 4294967295))) mc ms P) (k6 : (x4 ≤ x7) → (¬ (0 ≤ (lg_cmp ((sg_ σ 12 (x3 + x4).toNatClampNeg) - x5) 0))) → ks_W L xs mX0_subtractMultiple rm_X0_subtractMultiple 120 [] [.int 1] (ug_ σ 12 (vp_updL (sg_ σ 12) (x3 + x4).toNatClampNeg (((sg_ σ 12 (x3 + x4).toNatClampNeg) - x5) &&& 4294967295))) mc ms P) (v7 : (¬ (x4 ≤ x7)) → vp_in x7 18) (v8 : (¬ (x4 ≤ x7)) → vp_in (x3 + x7) 18) (v9 : (¬ (x4 ≤ x7)) → vp_in (x3 + x7) 18) (k10 : (¬ (x4 ≤ x7)) → ks_W L xs mX0_subtractMultiple rm_X0_subtractMultiple 6 [(0, .ref 7), (1, .long x1), (3, .int x3), (4, .int x4), (5, .long ((((((x1 * (sg_ σ 13 x7.toNatClampNeg)) + x5)).toUInt64 >>> (((32 : Int32)).toInt64.toUInt64 &&& Int64.toUInt64 63)).toInt64) + (((((sg_ σ 12 (x3 + x7).toNatClampNeg) - (((x1 * (sg_ σ 13 x7.toNatClampNeg)) + x5) &&& 4294967295))).toUInt64 >>> (((63 : Int32)).toInt64.toUInt64 &&& Int64.toUInt64 63)).toInt64))), (7, .int (x7 + 1))] [] (ug_ σ 12 (vp_updL (sg_ σ 12) (x3 + x7).toNatClampNeg (((sg_ σ 12 (x3 + x7).toNatClampNeg) - (((x1 * (sg_ σ 13 x7.toNatClampNeg)) + x5) &&& 4294967295)) &&& 4294967295))) mc ms P) : ks_W L xs mX0_subtractMultiple rm_X0_subtractMultiple 6 [(0, .ref 7), (1, .long x1), (3, .int x3), (4, .int x4), (5, .long x5), (7, .int x7)] [] σ mc ms P := by
  refine ka_iload d_X0_subtractMultiple_6 rfl 5 rfl ?_
  refine ka_iload d_X0_subtractMultiple_8 rfl 3 rfl ?_
  refine ka_icmp_ge (tgt := 79) d_X0_subtractMultiple_10 (by decide) rfl (fun c1 => ?_) (fun c1 => ?_)
  · refine ka_aload_n d_X0_subtractMultiple_79 rfl rfl 0 rfl ?_
    refine gf_X0_4 d_X0_subtractMultiple_80 rfl fl_X0_24 ?_
    refine ka_iload_n d_X0_subtractMultiple_83 rfl rfl 2 rfl ?_
    refine ka_iload d_X0_subtractMultiple_84 rfl 3 rfl ?_
    refine ka_iadd d_X0_subtractMultiple_86 rfl ?_
    refine ks_lald row_12 d_X0_subtractMultiple_87 rfl (v2 c1) ?_
    refine ka_lload d_X0_subtractMultiple_88 rfl 4 rfl ?_
    refine ka_lsub d_X0_subtractMultiple_90 rfl ?_
    refine ka_lstore (ls' := [(7, .long ((sg_ σ 12 (x3 + x4).toNatClampNeg) - x5)), (0, .ref 7), (1, .long x1), (3, .int x3), (4, .int x4), (5, .long x5)]) d_X0_subtractMultiple_91 rfl (by decide) rfl ?_
    refine ka_aload_n d_X0_subtractMultiple_93 rfl rfl 1 rfl ?_
    refine gf_X0_4 d_X0_subtractMultiple_94 rfl fl_X0_24 ?_
    refine ka_iload_n d_X0_subtractMultiple_97 rfl rfl 3 rfl ?_
    refine ka_iload d_X0_subtractMultiple_98 rfl 4 rfl ?_
    refine ka_iadd d_X0_subtractMultiple_100 rfl ?_
    refine ka_lload d_X0_subtractMultiple_101 rfl 0 rfl ?_
    refine ka_ldc2 (v := 4294967295) d_X0_subtractMultiple_103 rfl kl_X0_54 ?_
    refine ka_land d_X0_subtractMultiple_106 rfl ?_
    refine ks_last row_12 d_X0_subtractMultiple_107 rfl (v3 c1) ?_
    refine ka_lload d_X0_subtractMultiple_108 rfl 0 rfl ?_
    refine ka_lconst (v := 0) d_X0_subtractMultiple_110 rfl (by decide) ?_
    refine ka_lcmp d_X0_subtractMultiple_111 rfl ?_
    refine ka_if_ge (tgt := 119) d_X0_subtractMultiple_112 (by decide) rfl (fun c4 => ?_) (fun c4 => ?_)
    · refine ka_iconst (v := 0) d_X0_subtractMultiple_119 rfl (by decide) ?_
      refine ka_sub [] rfl ?_
      exact (k5 c1 c4)
    · refine ka_iconst (v := 1) d_X0_subtractMultiple_115 rfl (by decide) ?_
      refine ka_goto (q := 120) d_X0_subtractMultiple_116 (by decide) ?_
      refine ka_sub [] rfl ?_
      exact (k6 c1 c4)
  · refine ka_lload_n d_X0_subtractMultiple_13 rfl rfl 1 rfl ?_
    refine ka_aload_n d_X0_subtractMultiple_14 rfl rfl 0 rfl ?_
    refine gf_X0_5 d_X0_subtractMultiple_15 rfl fl_X0_27 ?_
    refine ka_iload d_X0_subtractMultiple_18 rfl 5 rfl ?_
    refine ks_lald row_13 d_X0_subtractMultiple_20 rfl (v7 c1) ?_
    refine ka_lmul d_X0_subtractMultiple_21 rfl ?_
    refine ka_lload d_X0_subtractMultiple_22 rfl 4 rfl ?_
    refine ka_ladd d_X0_subtractMultiple_24 rfl ?_
    refine ka_lstore (ls' := [(8, .long ((x1 * (sg_ σ 13 x7.toNatClampNeg)) + x5)), (0, .ref 7), (1, .long x1), (3, .int x3), (4, .int x4), (5, .long x5), (7, .int x7)]) d_X0_subtractMultiple_25 rfl (by decide) rfl ?_
    refine ka_aload_n d_X0_subtractMultiple_27 rfl rfl 1 rfl ?_
    refine gf_X0_4 d_X0_subtractMultiple_28 rfl fl_X0_24 ?_
    refine ka_iload_n d_X0_subtractMultiple_31 rfl rfl 3 rfl ?_
    refine ka_iload d_X0_subtractMultiple_32 rfl 6 rfl ?_
    refine ka_iadd d_X0_subtractMultiple_34 rfl ?_
    refine ks_lald row_12 d_X0_subtractMultiple_35 rfl (v8 c1) ?_
    refine ka_lload d_X0_subtractMultiple_36 rfl 0 rfl ?_
    refine ka_ldc2 (v := 4294967295) d_X0_subtractMultiple_38 rfl kl_X0_54 ?_
    refine ka_land d_X0_subtractMultiple_41 rfl ?_
    refine ka_lsub d_X0_subtractMultiple_42 rfl ?_
    refine ka_lstore (ls' := [(10, .long ((sg_ σ 12 (x3 + x7).toNatClampNeg) - (((x1 * (sg_ σ 13 x7.toNatClampNeg)) + x5) &&& 4294967295))), (8, .long ((x1 * (sg_ σ 13 x7.toNatClampNeg)) + x5)), (0, .ref 7), (1, .long x1), (3, .int x3), (4, .int x4), (5, .long x5), (7, .int x7)]) d_X0_subtractMultiple_43 rfl (by decide) rfl ?_
    refine ka_aload_n d_X0_subtractMultiple_45 rfl rfl 2 rfl ?_
    refine gf_X0_4 d_X0_subtractMultiple_46 rfl fl_X0_24 ?_
    refine ka_iload_n d_X0_subtractMultiple_49 rfl rfl 4 rfl ?_
    refine ka_iload d_X0_subtractMultiple_50 rfl 7 rfl ?_
    refine ka_iadd d_X0_subtractMultiple_52 rfl ?_
    refine ka_lload d_X0_subtractMultiple_53 rfl 0 rfl ?_
    refine ka_ldc2 (v := 4294967295) d_X0_subtractMultiple_55 rfl kl_X0_54 ?_
    refine ka_land d_X0_subtractMultiple_58 rfl ?_
    refine ks_last row_12 d_X0_subtractMultiple_59 rfl (v9 c1) ?_
    refine ka_lload d_X0_subtractMultiple_60 rfl 1 rfl ?_
    refine ka_bipush (v := 32) d_X0_subtractMultiple_62 rfl (by decide) ?_
    refine ka_lushr d_X0_subtractMultiple_64 rfl ?_
    refine ka_lload d_X0_subtractMultiple_65 rfl 0 rfl ?_
    refine ka_bipush (v := 63) d_X0_subtractMultiple_67 rfl (by decide) ?_
    refine ka_lushr d_X0_subtractMultiple_69 rfl ?_
    refine ka_ladd d_X0_subtractMultiple_70 rfl ?_
    refine ka_lstore (ls' := [(5, .long ((((((x1 * (sg_ σ 13 x7.toNatClampNeg)) + x5)).toUInt64 >>> (((32 : Int32)).toInt64.toUInt64 &&& Int64.toUInt64 63)).toInt64) + (((((sg_ σ 12 (x3 + x7).toNatClampNeg) - (((x1 * (sg_ σ 13 x7.toNatClampNeg)) + x5) &&& 4294967295))).toUInt64 >>> (((63 : Int32)).toInt64.toUInt64 &&& Int64.toUInt64 63)).toInt64))), (10, .long ((sg_ σ 12 (x3 + x7).toNatClampNeg) - (((x1 * (sg_ σ 13 x7.toNatClampNeg)) + x5) &&& 4294967295))), (8, .long ((x1 * (sg_ σ 13 x7.toNatClampNeg)) + x5)), (0, .ref 7), (1, .long x1), (3, .int x3), (4, .int x4), (7, .int x7)]) d_X0_subtractMultiple_71 rfl (by decide) rfl ?_
    refine ka_iinc (g := 7) (v := x7 + 1) (ls' := [(7, .int (x7 + 1)), (5, .long ((((((x1 * (sg_ σ 13 x7.toNatClampNeg)) + x5)).toUInt64 >>> (((32 : Int32)).toInt64.toUInt64 &&& Int64.toUInt64 63)).toInt64) + (((((sg_ σ 12 (x3 + x7).toNatClampNeg) - (((x1 * (sg_ σ 13 x7.toNatClampNeg)) + x5) &&& 4294967295))).toUInt64 >>> (((63 : Int32)).toInt64.toUInt64 &&& Int64.toUInt64 63)).toInt64))), (10, .long ((sg_ σ 12 (x3 + x7).toNatClampNeg) - (((x1 * (sg_ σ 13 x7.toNatClampNeg)) + x5) &&& 4294967295))), (8, .long ((x1 * (sg_ σ 13 x7.toNatClampNeg)) + x5)), (0, .ref 7), (1, .long x1), (3, .int x3), (4, .int x4)]) d_X0_subtractMultiple_73 rfl rfl rfl (by decide) rfl ?_
    refine ka_goto (q := 6) d_X0_subtractMultiple_76 (by decide) ?_
    refine ka_sub [4, 5, 6, 7, 1, 0] rfl ?_
    exact (k10 c1)
theorem sg_X0_subtractMultiple_120 {L : Nat} {xs : Nat → Int32} {σ : ks_St} {mc ms : Nat} {P : ka_O → ks_St → Prop} {s0 : Int32}  (b1 : narrow .boolean (.int s0) = .int s0) (r2 : P (.inl (some (.int s0))) σ) : ks_W L xs mX0_subtractMultiple rm_X0_subtractMultiple 120 [] [.int s0] σ mc ms P := by
  exact ks_iret (ty := .boolean) d_X0_subtractMultiple_120 rfl b1 r2
theorem d_X0_addBack_0 : decode cX0_addBack 0 = .ok (.lconst 0, 1) := by decide +kernel
theorem d_X0_addBack_1 : decode cX0_addBack 1 = .ok (.lstore_n 3, 1) := by decide +kernel
theorem d_X0_addBack_2 : decode cX0_addBack 2 = .ok (.iconst 0, 1) := by decide +kernel
theorem d_X0_addBack_3 : decode cX0_addBack 3 = .ok (.istore 5, 2) := by decide +kernel
theorem d_X0_addBack_5 : decode cX0_addBack 5 = .ok (.iload 5, 2) := by decide +kernel
theorem d_X0_addBack_7 : decode cX0_addBack 7 = .ok (.iload_n 2, 1) := by decide +kernel
theorem d_X0_addBack_8 : decode cX0_addBack 8 = .ok (.if_icmp .ge 51, 3) := by decide +kernel
theorem d_X0_addBack_11 : decode cX0_addBack 11 = .ok (.aload_n 0, 1) := by decide +kernel
theorem d_X0_addBack_12 : decode cX0_addBack 12 = .ok (.getfield 24, 3) := by decide +kernel
theorem d_X0_addBack_15 : decode cX0_addBack 15 = .ok (.iload_n 1, 1) := by decide +kernel
theorem d_X0_addBack_16 : decode cX0_addBack 16 = .ok (.iload 5, 2) := by decide +kernel
theorem d_X0_addBack_18 : decode cX0_addBack 18 = .ok (.iadd, 1) := by decide +kernel
theorem d_X0_addBack_19 : decode cX0_addBack 19 = .ok (.laload, 1) := by decide +kernel
theorem d_X0_addBack_20 : decode cX0_addBack 20 = .ok (.aload_n 0, 1) := by decide +kernel
theorem d_X0_addBack_21 : decode cX0_addBack 21 = .ok (.getfield 27, 3) := by decide +kernel
theorem d_X0_addBack_24 : decode cX0_addBack 24 = .ok (.iload 5, 2) := by decide +kernel
theorem d_X0_addBack_26 : decode cX0_addBack 26 = .ok (.laload, 1) := by decide +kernel
theorem d_X0_addBack_27 : decode cX0_addBack 27 = .ok (.ladd, 1) := by decide +kernel
theorem d_X0_addBack_28 : decode cX0_addBack 28 = .ok (.lload_n 3, 1) := by decide +kernel
theorem d_X0_addBack_29 : decode cX0_addBack 29 = .ok (.ladd, 1) := by decide +kernel
theorem d_X0_addBack_30 : decode cX0_addBack 30 = .ok (.lstore 6, 2) := by decide +kernel
theorem d_X0_addBack_32 : decode cX0_addBack 32 = .ok (.aload_n 0, 1) := by decide +kernel
theorem d_X0_addBack_33 : decode cX0_addBack 33 = .ok (.getfield 24, 3) := by decide +kernel
theorem d_X0_addBack_36 : decode cX0_addBack 36 = .ok (.iload_n 1, 1) := by decide +kernel
theorem d_X0_addBack_37 : decode cX0_addBack 37 = .ok (.iload 5, 2) := by decide +kernel
theorem d_X0_addBack_39 : decode cX0_addBack 39 = .ok (.iadd, 1) := by decide +kernel
theorem d_X0_addBack_40 : decode cX0_addBack 40 = .ok (.lload 6, 2) := by decide +kernel
theorem d_X0_addBack_42 : decode cX0_addBack 42 = .ok (.ldc2_w 54, 3) := by decide +kernel
theorem d_X0_addBack_45 : decode cX0_addBack 45 = .ok (.land, 1) := by decide +kernel
theorem d_X0_addBack_46 : decode cX0_addBack 46 = .ok (.lastore, 1) := by decide +kernel
theorem d_X0_addBack_47 : decode cX0_addBack 47 = .ok (.lload 6, 2) := by decide +kernel
theorem d_X0_addBack_49 : decode cX0_addBack 49 = .ok (.bipush 32, 2) := by decide +kernel
theorem d_X0_addBack_51 : decode cX0_addBack 51 = .ok (.lushr, 1) := by decide +kernel
theorem d_X0_addBack_52 : decode cX0_addBack 52 = .ok (.lstore_n 3, 1) := by decide +kernel
theorem d_X0_addBack_53 : decode cX0_addBack 53 = .ok (.iinc 5 1, 3) := by decide +kernel
theorem d_X0_addBack_56 : decode cX0_addBack 56 = .ok (.goto (-51), 3) := by decide +kernel
theorem d_X0_addBack_59 : decode cX0_addBack 59 = .ok (.aload_n 0, 1) := by decide +kernel
theorem d_X0_addBack_60 : decode cX0_addBack 60 = .ok (.getfield 24, 3) := by decide +kernel
theorem d_X0_addBack_63 : decode cX0_addBack 63 = .ok (.iload_n 1, 1) := by decide +kernel
theorem d_X0_addBack_64 : decode cX0_addBack 64 = .ok (.iload_n 2, 1) := by decide +kernel
theorem d_X0_addBack_65 : decode cX0_addBack 65 = .ok (.iadd, 1) := by decide +kernel
theorem d_X0_addBack_66 : decode cX0_addBack 66 = .ok (.laload, 1) := by decide +kernel
theorem d_X0_addBack_67 : decode cX0_addBack 67 = .ok (.lload_n 3, 1) := by decide +kernel
theorem d_X0_addBack_68 : decode cX0_addBack 68 = .ok (.ladd, 1) := by decide +kernel
theorem d_X0_addBack_69 : decode cX0_addBack 69 = .ok (.lstore 5, 2) := by decide +kernel
theorem d_X0_addBack_71 : decode cX0_addBack 71 = .ok (.aload_n 0, 1) := by decide +kernel
theorem d_X0_addBack_72 : decode cX0_addBack 72 = .ok (.getfield 24, 3) := by decide +kernel
theorem d_X0_addBack_75 : decode cX0_addBack 75 = .ok (.iload_n 1, 1) := by decide +kernel
theorem d_X0_addBack_76 : decode cX0_addBack 76 = .ok (.iload_n 2, 1) := by decide +kernel
theorem d_X0_addBack_77 : decode cX0_addBack 77 = .ok (.iadd, 1) := by decide +kernel
theorem d_X0_addBack_78 : decode cX0_addBack 78 = .ok (.lload 5, 2) := by decide +kernel
theorem d_X0_addBack_80 : decode cX0_addBack 80 = .ok (.ldc2_w 54, 3) := by decide +kernel
theorem d_X0_addBack_83 : decode cX0_addBack 83 = .ok (.land, 1) := by decide +kernel
theorem d_X0_addBack_84 : decode cX0_addBack 84 = .ok (.lastore, 1) := by decide +kernel
theorem d_X0_addBack_85 : decode cX0_addBack 85 = .ok (.lload 5, 2) := by decide +kernel
theorem d_X0_addBack_87 : decode cX0_addBack 87 = .ok (.ldc2_w 54, 3) := by decide +kernel
theorem d_X0_addBack_90 : decode cX0_addBack 90 = .ok (.lcmp, 1) := by decide +kernel
theorem d_X0_addBack_91 : decode cX0_addBack 91 = .ok (.ifCond .le 7, 3) := by decide +kernel
theorem d_X0_addBack_94 : decode cX0_addBack 94 = .ok (.iconst 1, 1) := by decide +kernel
theorem d_X0_addBack_95 : decode cX0_addBack 95 = .ok (.goto 4, 3) := by decide +kernel
theorem d_X0_addBack_98 : decode cX0_addBack 98 = .ok (.iconst 0, 1) := by decide +kernel
theorem d_X0_addBack_99 : decode cX0_addBack 99 = .ok (.ireturn, 1) := by decide +kernel
theorem sg_X0_addBack_0 {L : Nat} {xs : Nat → Int32} {σ : ks_St} {mc ms : Nat} {P : ka_O → ks_St → Prop} {x1 : Int32} {x2 : Int32}  (k1 : ks_W L xs mX0_addBack rm_X0_addBack 5 [(0, .ref 7), (1, .int x1), (2, .int x2), (3, .long 0), (5, .int 0)] [] σ mc ms P) : ks_W L xs mX0_addBack rm_X0_addBack 0 [(0, .ref 7), (1, .int x1), (2, .int x2)] [] σ mc ms P := by
  refine ka_lconst (v := 0) d_X0_addBack_0 rfl (by decide) ?_
  refine ka_lstore_n (ls' := [(3, .long 0), (0, .ref 7), (1, .int x1), (2, .int x2)]) d_X0_addBack_1 rfl rfl (by decide) rfl ?_
  refine ka_iconst (v := 0) d_X0_addBack_2 rfl (by decide) ?_
  refine ka_istore (ls' := [(5, .int 0), (3, .long 0), (0, .ref 7), (1, .int x1), (2, .int x2)]) d_X0_addBack_3 rfl (by decide) rfl ?_
  refine ka_sub [2, 3, 4, 1, 0] rfl ?_
  exact k1
theorem sg_X0_addBack_5 {L : Nat} {xs : Nat → Int32} {σ : ks_St} {mc ms : Nat} {P : ka_O → ks_St → Prop} {x1 : Int32} {x2 : Int32} {x3 : Int64} {x5 : Int32}  (v2 : (x2 ≤ x5) → vp_in (x1 + x2) 18) (v3 : (x2 ≤ x5) → vp_in (x1 + x2) 18) (k5 : (x2 ≤ x5) → ((lg_cmp ((sg_ σ 12 (x1 + x2).toNatClampNeg) + x3) 4294967295) ≤ 0) → ks_W L xs mX0_addBack rm_X0_addBack 99 [] [.int 0] (ug_ σ 12 (vp_updL (sg_ σ 12) (x1 + x2).toNatClampNeg (((sg_ σ 12 (x1 + x2).toNatClampNeg) + x3) &&& 4294967295))) mc ms P) (k6 : (x2 ≤ x5) → (¬ ((lg_cmp ((sg_ σ 12 (x1 + x2).toNatClampNeg) + x3) 4294967295) ≤ 0)) → ks_W L xs mX0_addBack rm_X0_addBack 99 [] [.int 1] (ug_ σ 12 (vp_updL (sg_ σ 12) (x1 + x2).toNatClampNeg (((sg_ σ 12 (x1 + x2).toNatClampNeg) + x3) &&& 4294967295))) mc ms P) (v7 : (¬ (x2 ≤ x5)) → vp_in (x1 + x5) 18) (v8 : (¬ (x2 ≤ x5)) → vp_in x5 18) (v9 : (¬ (x2 ≤ x5)) → vp_in (x1 + x5) 18) (k10 : (¬ (x2 ≤ x5)) → ks_W L xs mX0_addBack rm_X0_addBack 5 [(0, .ref 7), (1, .int x1), (2, .int x2), (3, .long ((((((sg_ σ 12 (x1 + x5).toNatClampNeg) + (sg_ σ 13 x5.toNatClampNeg)) + x3)).toUInt64 >>> (((32 : Int32)).toInt64.toUInt64 &&& Int64.toUInt64 63)).toInt64)), (5, .int (x5 + 1))] [] (ug_ σ 12 (vp_updL (sg_ σ 12) (x1 + x5).toNatClampNeg ((((sg_ σ 12 (x1 + x5).toNatClampNeg) + (sg_ σ 13 x5.toNatClampNeg)) + x3) &&& 4294967295))) mc ms P) : ks_W L xs mX0_addBack rm_X0_addBack 5 [(0, .ref 7), (1, .int x1), (2, .int x2), (3, .long x3), (5, .int x5)] [] σ mc ms P := by
  refine ka_iload d_X0_addBack_5 rfl 4 rfl ?_
  refine ka_iload_n d_X0_addBack_7 rfl rfl 2 rfl ?_
  refine ka_icmp_ge (tgt := 59) d_X0_addBack_8 (by decide) rfl (fun c1 => ?_) (fun c1 => ?_)
  · refine ka_aload_n d_X0_addBack_59 rfl rfl 0 rfl ?_
    refine gf_X0_4 d_X0_addBack_60 rfl fl_X0_24 ?_
    refine ka_iload_n d_X0_addBack_63 rfl rfl 1 rfl ?_
    refine ka_iload_n d_X0_addBack_64 rfl rfl 2 rfl ?_
    refine ka_iadd d_X0_addBack_65 rfl ?_
    refine ks_lald row_12 d_X0_addBack_66 rfl (v2 c1) ?_
    refine ka_lload_n d_X0_addBack_67 rfl rfl 3 rfl ?_
    refine ka_ladd d_X0_addBack_68 rfl ?_
    refine ka_lstore (ls' := [(5, .long ((sg_ σ 12 (x1 + x2).toNatClampNeg) + x3)), (0, .ref 7), (1, .int x1), (2, .int x2), (3, .long x3)]) d_X0_addBack_69 rfl (by decide) rfl ?_
    refine ka_aload_n d_X0_addBack_71 rfl rfl 1 rfl ?_
    refine gf_X0_4 d_X0_addBack_72 rfl fl_X0_24 ?_
    refine ka_iload_n d_X0_addBack_75 rfl rfl 2 rfl ?_
    refine ka_iload_n d_X0_addBack_76 rfl rfl 3 rfl ?_
    refine ka_iadd d_X0_addBack_77 rfl ?_
    refine ka_lload d_X0_addBack_78 rfl 0 rfl ?_
    refine ka_ldc2 (v := 4294967295) d_X0_addBack_80 rfl kl_X0_54 ?_
    refine ka_land d_X0_addBack_83 rfl ?_
    refine ks_last row_12 d_X0_addBack_84 rfl (v3 c1) ?_
    refine ka_lload d_X0_addBack_85 rfl 0 rfl ?_
    refine ka_ldc2 (v := 4294967295) d_X0_addBack_87 rfl kl_X0_54 ?_
    refine ka_lcmp d_X0_addBack_90 rfl ?_
    refine ka_if_le (tgt := 98) d_X0_addBack_91 (by decide) rfl (fun c4 => ?_) (fun c4 => ?_)
    · refine ka_iconst (v := 0) d_X0_addBack_98 rfl (by decide) ?_
      refine ka_sub [] rfl ?_
      exact (k5 c1 c4)
    · refine ka_iconst (v := 1) d_X0_addBack_94 rfl (by decide) ?_
      refine ka_goto (q := 99) d_X0_addBack_95 (by decide) ?_
      refine ka_sub [] rfl ?_
      exact (k6 c1 c4)
  · refine ka_aload_n d_X0_addBack_11 rfl rfl 0 rfl ?_
    refine gf_X0_4 d_X0_addBack_12 rfl fl_X0_24 ?_
    refine ka_iload_n d_X0_addBack_15 rfl rfl 1 rfl ?_
    refine ka_iload d_X0_addBack_16 rfl 4 rfl ?_
    refine ka_iadd d_X0_addBack_18 rfl ?_
    refine ks_lald row_12 d_X0_addBack_19 rfl (v7 c1) ?_
    refine ka_aload_n d_X0_addBack_20 rfl rfl 0 rfl ?_
    refine gf_X0_5 d_X0_addBack_21 rfl fl_X0_27 ?_
    refine ka_iload d_X0_addBack_24 rfl 4 rfl ?_
    refine ks_lald row_13 d_X0_addBack_26 rfl (v8 c1) ?_
    refine ka_ladd d_X0_addBack_27 rfl ?_
    refine ka_lload_n d_X0_addBack_28 rfl rfl 3 rfl ?_
    refine ka_ladd d_X0_addBack_29 rfl ?_
    refine ka_lstore (ls' := [(6, .long (((sg_ σ 12 (x1 + x5).toNatClampNeg) + (sg_ σ 13 x5.toNatClampNeg)) + x3)), (0, .ref 7), (1, .int x1), (2, .int x2), (3, .long x3), (5, .int x5)]) d_X0_addBack_30 rfl (by decide) rfl ?_
    refine ka_aload_n d_X0_addBack_32 rfl rfl 1 rfl ?_
    refine gf_X0_4 d_X0_addBack_33 rfl fl_X0_24 ?_
    refine ka_iload_n d_X0_addBack_36 rfl rfl 2 rfl ?_
    refine ka_iload d_X0_addBack_37 rfl 5 rfl ?_
    refine ka_iadd d_X0_addBack_39 rfl ?_
    refine ka_lload d_X0_addBack_40 rfl 0 rfl ?_
    refine ka_ldc2 (v := 4294967295) d_X0_addBack_42 rfl kl_X0_54 ?_
    refine ka_land d_X0_addBack_45 rfl ?_
    refine ks_last row_12 d_X0_addBack_46 rfl (v9 c1) ?_
    refine ka_lload d_X0_addBack_47 rfl 0 rfl ?_
    refine ka_bipush (v := 32) d_X0_addBack_49 rfl (by decide) ?_
    refine ka_lushr d_X0_addBack_51 rfl ?_
    refine ka_lstore_n (ls' := [(3, .long ((((((sg_ σ 12 (x1 + x5).toNatClampNeg) + (sg_ σ 13 x5.toNatClampNeg)) + x3)).toUInt64 >>> (((32 : Int32)).toInt64.toUInt64 &&& Int64.toUInt64 63)).toInt64)), (6, .long (((sg_ σ 12 (x1 + x5).toNatClampNeg) + (sg_ σ 13 x5.toNatClampNeg)) + x3)), (0, .ref 7), (1, .int x1), (2, .int x2), (5, .int x5)]) d_X0_addBack_52 rfl rfl (by decide) rfl ?_
    refine ka_iinc (g := 5) (v := x5 + 1) (ls' := [(5, .int (x5 + 1)), (3, .long ((((((sg_ σ 12 (x1 + x5).toNatClampNeg) + (sg_ σ 13 x5.toNatClampNeg)) + x3)).toUInt64 >>> (((32 : Int32)).toInt64.toUInt64 &&& Int64.toUInt64 63)).toInt64)), (6, .long (((sg_ σ 12 (x1 + x5).toNatClampNeg) + (sg_ σ 13 x5.toNatClampNeg)) + x3)), (0, .ref 7), (1, .int x1), (2, .int x2)]) d_X0_addBack_53 rfl rfl rfl (by decide) rfl ?_
    refine ka_goto (q := 5) d_X0_addBack_56 (by decide) ?_
    refine ka_sub [3, 4, 5, 1, 0] rfl ?_
    exact (k10 c1)
theorem sg_X0_addBack_99 {L : Nat} {xs : Nat → Int32} {σ : ks_St} {mc ms : Nat} {P : ka_O → ks_St → Prop} {s0 : Int32}  (b1 : narrow .boolean (.int s0) = .int s0) (r2 : P (.inl (some (.int s0))) σ) : ks_W L xs mX0_addBack rm_X0_addBack 99 [] [.int s0] σ mc ms P := by
  exact ks_iret (ty := .boolean) d_X0_addBack_99 rfl b1 r2
theorem d_X0_takeMultiple_0 : decode cX0_takeMultiple 0 = .ok (.aload_n 0, 1) := by decide +kernel
theorem d_X0_takeMultiple_1 : decode cX0_takeMultiple 1 = .ok (.getfield 24, 3) := by decide +kernel
theorem d_X0_takeMultiple_4 : decode cX0_takeMultiple 4 = .ok (.iload_n 1, 1) := by decide +kernel
theorem d_X0_takeMultiple_5 : decode cX0_takeMultiple 5 = .ok (.iload_n 2, 1) := by decide +kernel
theorem d_X0_takeMultiple_6 : decode cX0_takeMultiple 6 = .ok (.iadd, 1) := by decide +kernel
theorem d_X0_takeMultiple_7 : decode cX0_takeMultiple 7 = .ok (.laload, 1) := by decide +kernel
theorem d_X0_takeMultiple_8 : decode cX0_takeMultiple 8 = .ok (.bipush 32, 2) := by decide +kernel
theorem d_X0_takeMultiple_10 : decode cX0_takeMultiple 10 = .ok (.lshl, 1) := by decide +kernel
theorem d_X0_takeMultiple_11 : decode cX0_takeMultiple 11 = .ok (.aload_n 0, 1) := by decide +kernel
theorem d_X0_takeMultiple_12 : decode cX0_takeMultiple 12 = .ok (.getfield 24, 3) := by decide +kernel
theorem d_X0_takeMultiple_15 : decode cX0_takeMultiple 15 = .ok (.iload_n 1, 1) := by decide +kernel
theorem d_X0_takeMultiple_16 : decode cX0_takeMultiple 16 = .ok (.iload_n 2, 1) := by decide +kernel
theorem d_X0_takeMultiple_17 : decode cX0_takeMultiple 17 = .ok (.iadd, 1) := by decide +kernel
theorem d_X0_takeMultiple_18 : decode cX0_takeMultiple 18 = .ok (.iconst 1, 1) := by decide +kernel
theorem d_X0_takeMultiple_19 : decode cX0_takeMultiple 19 = .ok (.isub, 1) := by decide +kernel
theorem d_X0_takeMultiple_20 : decode cX0_takeMultiple 20 = .ok (.laload, 1) := by decide +kernel
theorem d_X0_takeMultiple_21 : decode cX0_takeMultiple 21 = .ok (.lor, 1) := by decide +kernel
theorem d_X0_takeMultiple_22 : decode cX0_takeMultiple 22 = .ok (.lstore_n 3, 1) := by decide +kernel
theorem d_X0_takeMultiple_23 : decode cX0_takeMultiple 23 = .ok (.lload_n 3, 1) := by decide +kernel
theorem d_X0_takeMultiple_24 : decode cX0_takeMultiple 24 = .ok (.aload_n 0, 1) := by decide +kernel
theorem d_X0_takeMultiple_25 : decode cX0_takeMultiple 25 = .ok (.getfield 27, 3) := by decide +kernel
theorem d_X0_takeMultiple_28 : decode cX0_takeMultiple 28 = .ok (.iload_n 2, 1) := by decide +kernel
theorem d_X0_takeMultiple_29 : decode cX0_takeMultiple 29 = .ok (.iconst 1, 1) := by decide +kernel
theorem d_X0_takeMultiple_30 : decode cX0_takeMultiple 30 = .ok (.isub, 1) := by decide +kernel
theorem d_X0_takeMultiple_31 : decode cX0_takeMultiple 31 = .ok (.laload, 1) := by decide +kernel
theorem d_X0_takeMultiple_32 : decode cX0_takeMultiple 32 = .ok (.invokestatic 68, 3) := by decide +kernel
theorem d_X0_takeMultiple_35 : decode cX0_takeMultiple 35 = .ok (.ldc2_w 54, 3) := by decide +kernel
theorem d_X0_takeMultiple_38 : decode cX0_takeMultiple 38 = .ok (.invokestatic 72, 3) := by decide +kernel
theorem d_X0_takeMultiple_41 : decode cX0_takeMultiple 41 = .ok (.lstore 5, 2) := by decide +kernel
theorem d_X0_takeMultiple_43 : decode cX0_takeMultiple 43 = .ok (.aload_n 0, 1) := by decide +kernel
theorem d_X0_takeMultiple_44 : decode cX0_takeMultiple 44 = .ok (.lload 5, 2) := by decide +kernel
theorem d_X0_takeMultiple_46 : decode cX0_takeMultiple 46 = .ok (.iload_n 1, 1) := by decide +kernel
theorem d_X0_takeMultiple_47 : decode cX0_takeMultiple 47 = .ok (.iload_n 2, 1) := by decide +kernel
theorem d_X0_takeMultiple_48 : decode cX0_takeMultiple 48 = .ok (.invokevirtual 77, 3) := by decide +kernel
theorem d_X0_takeMultiple_51 : decode cX0_takeMultiple 51 = .ok (.istore 7, 2) := by decide +kernel
theorem d_X0_takeMultiple_53 : decode cX0_takeMultiple 53 = .ok (.iconst 0, 1) := by decide +kernel
theorem d_X0_takeMultiple_54 : decode cX0_takeMultiple 54 = .ok (.istore 8, 2) := by decide +kernel
theorem d_X0_takeMultiple_56 : decode cX0_takeMultiple 56 = .ok (.iload 8, 2) := by decide +kernel
theorem d_X0_takeMultiple_58 : decode cX0_takeMultiple 58 = .ok (.iconst 2, 1) := by decide +kernel
theorem d_X0_takeMultiple_59 : decode cX0_takeMultiple 59 = .ok (.if_icmp .ge 36, 3) := by decide +kernel
theorem d_X0_takeMultiple_62 : decode cX0_takeMultiple 62 = .ok (.iload 7, 2) := by decide +kernel
theorem d_X0_takeMultiple_64 : decode cX0_takeMultiple 64 = .ok (.ifCond .eq 31, 3) := by decide +kernel
theorem d_X0_takeMultiple_67 : decode cX0_takeMultiple 67 = .ok (.lload 5, 2) := by decide +kernel
theorem d_X0_takeMultiple_69 : decode cX0_takeMultiple 69 = .ok (.lconst 1, 1) := by decide +kernel
theorem d_X0_takeMultiple_70 : decode cX0_takeMultiple 70 = .ok (.lsub, 1) := by decide +kernel
theorem d_X0_takeMultiple_71 : decode cX0_takeMultiple 71 = .ok (.lstore 5, 2) := by decide +kernel
theorem d_X0_takeMultiple_73 : decode cX0_takeMultiple 73 = .ok (.aload_n 0, 1) := by decide +kernel
theorem d_X0_takeMultiple_74 : decode cX0_takeMultiple 74 = .ok (.iload_n 1, 1) := by decide +kernel
theorem d_X0_takeMultiple_75 : decode cX0_takeMultiple 75 = .ok (.iload_n 2, 1) := by decide +kernel
theorem d_X0_takeMultiple_76 : decode cX0_takeMultiple 76 = .ok (.invokevirtual 81, 3) := by decide +kernel
theorem d_X0_takeMultiple_79 : decode cX0_takeMultiple 79 = .ok (.ifCond .ne 7, 3) := by decide +kernel
theorem d_X0_takeMultiple_82 : decode cX0_takeMultiple 82 = .ok (.iconst 1, 1) := by decide +kernel
theorem d_X0_takeMultiple_83 : decode cX0_takeMultiple 83 = .ok (.goto 4, 3) := by decide +kernel
theorem d_X0_takeMultiple_86 : decode cX0_takeMultiple 86 = .ok (.iconst 0, 1) := by decide +kernel
theorem d_X0_takeMultiple_87 : decode cX0_takeMultiple 87 = .ok (.istore 7, 2) := by decide +kernel
theorem d_X0_takeMultiple_89 : decode cX0_takeMultiple 89 = .ok (.iinc 8 1, 3) := by decide +kernel
theorem d_X0_takeMultiple_92 : decode cX0_takeMultiple 92 = .ok (.goto (-36), 3) := by decide +kernel
theorem d_X0_takeMultiple_95 : decode cX0_takeMultiple 95 = .ok (.lload 5, 2) := by decide +kernel
theorem d_X0_takeMultiple_97 : decode cX0_takeMultiple 97 = .ok (.lreturn, 1) := by decide +kernel
theorem sg_X0_takeMultiple_0 {L : Nat} {xs : Nat → Int32} {σ : ks_St} {mc ms : Nat} {P : ka_O → ks_St → Prop} {x1 : Int32} {x2 : Int32}  (v1 : vp_in (x1 + x2) 18) (v2 : vp_in ((x1 + x2) - 1) 18) (v3 : vp_in (x2 - 1) 18) (k4 : ks_W L xs mX0_takeMultiple rm_X0_takeMultiple 32 [(0, .ref 7), (1, .int x1), (2, .int x2)] [.long (sg_ σ 13 (x2 - 1).toNatClampNeg), .long (((sg_ σ 12 (x1 + x2).toNatClampNeg) <<< (((32 : Int32)).toInt64 &&& 63)) ||| (sg_ σ 12 ((x1 + x2) - 1).toNatClampNeg))] σ mc ms P) : ks_W L xs mX0_takeMultiple rm_X0_takeMultiple 0 [(0, .ref 7), (1, .int x1), (2, .int x2)] [] σ mc ms P := by
  refine ka_aload_n d_X0_takeMultiple_0 rfl rfl 0 rfl ?_
  refine gf_X0_4 d_X0_takeMultiple_1 rfl fl_X0_24 ?_
  refine ka_iload_n d_X0_takeMultiple_4 rfl rfl 1 rfl ?_
  refine ka_iload_n d_X0_takeMultiple_5 rfl rfl 2 rfl ?_
  refine ka_iadd d_X0_takeMultiple_6 rfl ?_
  refine ks_lald row_12 d_X0_takeMultiple_7 rfl v1 ?_
  refine ka_bipush (v := 32) d_X0_takeMultiple_8 rfl (by decide) ?_
  refine ka_lshl d_X0_takeMultiple_10 rfl ?_
  refine ka_aload_n d_X0_takeMultiple_11 rfl rfl 0 rfl ?_
  refine gf_X0_4 d_X0_takeMultiple_12 rfl fl_X0_24 ?_
  refine ka_iload_n d_X0_takeMultiple_15 rfl rfl 1 rfl ?_
  refine ka_iload_n d_X0_takeMultiple_16 rfl rfl 2 rfl ?_
  refine ka_iadd d_X0_takeMultiple_17 rfl ?_
  refine ka_iconst (v := 1) d_X0_takeMultiple_18 rfl (by decide) ?_
  refine ka_isub d_X0_takeMultiple_19 rfl ?_
  refine ks_lald row_12 d_X0_takeMultiple_20 rfl v2 ?_
  refine ka_lor d_X0_takeMultiple_21 rfl ?_
  refine ka_lstore_n (ls' := [(3, .long (((sg_ σ 12 (x1 + x2).toNatClampNeg) <<< (((32 : Int32)).toInt64 &&& 63)) ||| (sg_ σ 12 ((x1 + x2) - 1).toNatClampNeg))), (0, .ref 7), (1, .int x1), (2, .int x2)]) d_X0_takeMultiple_22 rfl rfl (by decide) rfl ?_
  refine ka_lload_n d_X0_takeMultiple_23 rfl rfl 0 rfl ?_
  refine ka_aload_n d_X0_takeMultiple_24 rfl rfl 1 rfl ?_
  refine gf_X0_5 d_X0_takeMultiple_25 rfl fl_X0_27 ?_
  refine ka_iload_n d_X0_takeMultiple_28 rfl rfl 3 rfl ?_
  refine ka_iconst (v := 1) d_X0_takeMultiple_29 rfl (by decide) ?_
  refine ka_isub d_X0_takeMultiple_30 rfl ?_
  refine ks_lald row_13 d_X0_takeMultiple_31 rfl v3 ?_
  refine ka_sub [1, 2, 3] rfl ?_
  exact k4
theorem cs_X0_takeMultiple_32 {L : Nat} {xs : Nat → Int32} {σ : ks_St} {mc ms : Nat} {P : ka_O → ks_St → Prop} {f : Int64 → ks_St → Prop} {x1 : Int32} {x2 : Int32} {s0 : Int64} {s1 : Int64} (hK : ks_M L xs mX0_quotientOf rm_X0_quotientOf [.long s0, .long s1] σ (pl_ f)) (kr : ∀ r σ', f r σ' → ks_W L xs mX0_takeMultiple rm_X0_takeMultiple 35 [(0, .ref 7), (1, .int x1), (2, .int x2)] [.long r] σ' mc ms P) : ks_W L xs mX0_takeMultiple rm_X0_takeMultiple 32 [(0, .ref 7), (1, .int x1), (2, .int x2)] [.long s1, .long s0] σ mc ms P := by
  refine ks_callS (q := 35) (As := [.long s0, .long s1]) (st := []) d_X0_takeMultiple_32 rfl rfl lk_X0_68 ⟨by decide, by decide⟩ (Nat.le_of_ble_eq_true rfl) ⟨Nat.le_refl _, Nat.le_refl _⟩ hK (fun v σ' hq => ?_) (fun E σ' hq => ?_)
  · obtain ⟨r, e, hf⟩ := hq; cases e; exact kr r σ' hf
  · obtain ⟨r, e, hf⟩ := hq; cases e
theorem sg_X0_takeMultiple_35 {L : Nat} {xs : Nat → Int32} {σ : ks_St} {mc ms : Nat} {P : ka_O → ks_St → Prop} {x1 : Int32} {x2 : Int32} {s0 : Int64}  (k1 : ks_W L xs mX0_takeMultiple rm_X0_takeMultiple 38 [(0, .ref 7), (1, .int x1), (2, .int x2)] [.long 4294967295, .long s0] σ mc ms P) : ks_W L xs mX0_takeMultiple rm_X0_takeMultiple 35 [(0, .ref 7), (1, .int x1), (2, .int x2)] [.long s0] σ mc ms P := by
  refine ka_ldc2 (v := 4294967295) d_X0_takeMultiple_35 rfl kl_X0_54 ?_
  exact k1
theorem cs_X0_takeMultiple_38 {L : Nat} {xs : Nat → Int32} {σ : ks_St} {mc ms : Nat} {P : ka_O → ks_St → Prop} {f : Int64 → ks_St → Prop} {x1 : Int32} {x2 : Int32} {s0 : Int64} {s1 : Int64} (hK : ks_M L xs mM_minl rm_M_minl [.long s0, .long s1] σ (pl_ f)) (kr : ∀ r σ', f r σ' → ks_W L xs mX0_takeMultiple rm_X0_takeMultiple 41 [(0, .ref 7), (1, .int x1), (2, .int x2)] [.long r] σ' mc ms P) : ks_W L xs mX0_takeMultiple rm_X0_takeMultiple 38 [(0, .ref 7), (1, .int x1), (2, .int x2)] [.long s1, .long s0] σ mc ms P := by
  refine ks_callS (q := 41) (As := [.long s0, .long s1]) (st := []) d_X0_takeMultiple_38 rfl rfl lk_X0_72 ⟨by decide, by decide⟩ (Nat.le_of_ble_eq_true rfl) ⟨Nat.le_refl _, Nat.le_refl _⟩ hK (fun v σ' hq => ?_) (fun E σ' hq => ?_)
  · obtain ⟨r, e, hf⟩ := hq; cases e; exact kr r σ' hf
  · obtain ⟨r, e, hf⟩ := hq; cases e
theorem sg_X0_takeMultiple_41 {L : Nat} {xs : Nat → Int32} {σ : ks_St} {mc ms : Nat} {P : ka_O → ks_St → Prop} {x1 : Int32} {x2 : Int32} {s0 : Int64}  (k1 : ks_W L xs mX0_takeMultiple rm_X0_takeMultiple 48 [(0, .ref 7), (1, .int x1), (2, .int x2), (5, .long s0)] [.int x2, .int x1, .long s0, .ref 7] σ mc ms P) : ks_W L xs mX0_takeMultiple rm_X0_takeMultiple 41 [(0, .ref 7), (1, .int x1), (2, .int x2)] [.long s0] σ mc ms P := by
  refine ka_lstore (ls' := [(5, .long s0), (0, .ref 7), (1, .int x1), (2, .int x2)]) d_X0_takeMultiple_41 rfl (by decide) rfl ?_
  refine ka_aload_n d_X0_takeMultiple_43 rfl rfl 1 rfl ?_
  refine ka_lload d_X0_takeMultiple_44 rfl 0 rfl ?_
  refine ka_iload_n d_X0_takeMultiple_46 rfl rfl 2 rfl ?_
  refine ka_iload_n d_X0_takeMultiple_47 rfl rfl 3 rfl ?_
  refine ka_sub [1, 2, 3, 0] rfl ?_
  exact k1
theorem cs_X0_takeMultiple_48 {L : Nat} {xs : Nat → Int32} {σ : ks_St} {mc ms : Nat} {P : ka_O → ks_St → Prop} {f : Int32 → ks_St → Prop} {x1 : Int32} {x2 : Int32} {x5 : Int64} {s1 : Int64} {s2 : Int32} {s3 : Int32} (hK : ks_M L xs mX0_subtractMultiple rm_X0_subtractMultiple [.ref 7, .long s1, .int s2, .int s3] σ (pi_ f)) (kr : ∀ r σ', f r σ' → ks_W L xs mX0_takeMultiple rm_X0_takeMultiple 51 [(0, .ref 7), (1, .int x1), (2, .int x2), (5, .long x5)] [.int r] σ' mc ms P) : ks_W L xs mX0_takeMultiple rm_X0_takeMultiple 48 [(0, .ref 7), (1, .int x1), (2, .int x2), (5, .long x5)] [.int s3, .int s2, .long s1, .ref 7] σ mc ms P := by
  refine ks_callV (q := 51) (o := 7) (ci := 1) (As := [.long s1, .int s2, .int s3]) (st := []) d_X0_takeMultiple_48 rfl rfl (by decide) rfl rfl lk_X0_77 ⟨by decide, by decide⟩ (Nat.le_of_ble_eq_true rfl) ⟨Nat.le_refl _, Nat.le_refl _⟩ hK (fun v σ' hq => ?_) (fun E σ' hq => ?_)
  · obtain ⟨r, e, hf⟩ := hq; cases e; exact kr r σ' hf
  · obtain ⟨r, e, hf⟩ := hq; cases e
theorem sg_X0_takeMultiple_51 {L : Nat} {xs : Nat → Int32} {σ : ks_St} {mc ms : Nat} {P : ka_O → ks_St → Prop} {x1 : Int32} {x2 : Int32} {x5 : Int64} {s0 : Int32}  (k1 : ks_W L xs mX0_takeMultiple rm_X0_takeMultiple 56 [(0, .ref 7), (1, .int x1), (2, .int x2), (5, .long x5), (7, .int s0), (8, .int 0)] [] σ mc ms P) : ks_W L xs mX0_takeMultiple rm_X0_takeMultiple 51 [(0, .ref 7), (1, .int x1), (2, .int x2), (5, .long x5)] [.int s0] σ mc ms P := by
  refine ka_istore (ls' := [(7, .int s0), (0, .ref 7), (1, .int x1), (2, .int x2), (5, .long x5)]) d_X0_takeMultiple_51 rfl (by decide) rfl ?_
  refine ka_iconst (v := 0) d_X0_takeMultiple_53 rfl (by decide) ?_
  refine ka_istore (ls' := [(8, .int 0), (7, .int s0), (0, .ref 7), (1, .int x1), (2, .int x2), (5, .long x5)]) d_X0_takeMultiple_54 rfl (by decide) rfl ?_
  refine ka_sub [2, 3, 4, 5, 1, 0] rfl ?_
  exact k1
theorem sg_X0_takeMultiple_56 {L : Nat} {xs : Nat → Int32} {σ : ks_St} {mc ms : Nat} {P : ka_O → ks_St → Prop} {x1 : Int32} {x2 : Int32} {x5 : Int64} {x7 : Int32} {x8 : Int32}  (k2 : (2 ≤ x8) → ks_W L xs mX0_takeMultiple rm_X0_takeMultiple 95 [(5, .long x5)] [] σ mc ms P) (k4 : (¬ (2 ≤ x8)) → (x7 = 0) → ks_W L xs mX0_takeMultiple rm_X0_takeMultiple 95 [(5, .long x5)] [] σ mc ms P) (k5 : (¬ (2 ≤ x8)) → (¬ (x7 = 0)) → ks_W L xs mX0_takeMultiple rm_X0_takeMultiple 76 [(0, .ref 7), (1, .int x1), (2, .int x2), (5, .long (x5 - 1)), (8, .int x8)] [.int x2, .int x1, .ref 7] σ mc ms P) : ks_W L xs mX0_takeMultiple rm_X0_takeMultiple 56 [(0, .ref 7), (1, .int x1), (2, .int x2), (5, .long x5), (7, .int x7), (8, .int x8)] [] σ mc ms P := by
  refine ka_iload d_X0_takeMultiple_56 rfl 5 rfl ?_
  refine ka_iconst (v := 2) d_X0_takeMultiple_58 rfl (by decide) ?_
  refine ka_icmp_ge (tgt := 95) d_X0_takeMultiple_59 (by decide) rfl (fun c1 => ?_) (fun c1 => ?_)
  · refine ka_sub [3] rfl ?_
    exact (k2 c1)
  · refine ka_iload d_X0_takeMultiple_62 rfl 4 rfl ?_
    refine ka_if_eq (tgt := 95) d_X0_takeMultiple_64 (by decide) rfl (fun c3 => ?_) (fun c3 => ?_)
    · refine ka_sub [3] rfl ?_
      exact (k4 c1 c3)
    · refine ka_lload d_X0_takeMultiple_67 rfl 3 rfl ?_
      refine ka_lconst (v := 1) d_X0_takeMultiple_69 rfl (by decide) ?_
      refine ka_lsub d_X0_takeMultiple_70 rfl ?_
      refine ka_lstore (ls' := [(5, .long (x5 - 1)), (0, .ref 7), (1, .int x1), (2, .int x2), (7, .int x7), (8, .int x8)]) d_X0_takeMultiple_71 rfl (by decide) rfl ?_
      refine ka_aload_n d_X0_takeMultiple_73 rfl rfl 1 rfl ?_
      refine ka_iload_n d_X0_takeMultiple_74 rfl rfl 2 rfl ?_
      refine ka_iload_n d_X0_takeMultiple_75 rfl rfl 3 rfl ?_
      refine ka_sub [1, 2, 3, 0, 5] rfl ?_
      exact (k5 c1 c3)
theorem cs_X0_takeMultiple_76 {L : Nat} {xs : Nat → Int32} {σ : ks_St} {mc ms : Nat} {P : ka_O → ks_St → Prop} {f : Int32 → ks_St → Prop} {x1 : Int32} {x2 : Int32} {x5 : Int64} {x8 : Int32} {s1 : Int32} {s2 : Int32} (hK : ks_M L xs mX0_addBack rm_X0_addBack [.ref 7, .int s1, .int s2] σ (pi_ f)) (kr : ∀ r σ', f r σ' → ks_W L xs mX0_takeMultiple rm_X0_takeMultiple 79 [(0, .ref 7), (1, .int x1), (2, .int x2), (5, .long x5), (8, .int x8)] [.int r] σ' mc ms P) : ks_W L xs mX0_takeMultiple rm_X0_takeMultiple 76 [(0, .ref 7), (1, .int x1), (2, .int x2), (5, .long x5), (8, .int x8)] [.int s2, .int s1, .ref 7] σ mc ms P := by
  refine ks_callV (q := 79) (o := 7) (ci := 1) (As := [.int s1, .int s2]) (st := []) d_X0_takeMultiple_76 rfl rfl (by decide) rfl rfl lk_X0_81 ⟨by decide, by decide⟩ (Nat.le_of_ble_eq_true rfl) ⟨Nat.le_refl _, Nat.le_refl _⟩ hK (fun v σ' hq => ?_) (fun E σ' hq => ?_)
  · obtain ⟨r, e, hf⟩ := hq; cases e; exact kr r σ' hf
  · obtain ⟨r, e, hf⟩ := hq; cases e
theorem sg_X0_takeMultiple_79 {L : Nat} {xs : Nat → Int32} {σ : ks_St} {mc ms : Nat} {P : ka_O → ks_St → Prop} {x1 : Int32} {x2 : Int32} {x5 : Int64} {x8 : Int32} {s0 : Int32}  (k2 : (¬ s0 = 0) → ks_W L xs mX0_takeMultiple rm_X0_takeMultiple 87 [(0, .ref 7), (1, .int x1), (2, .int x2), (5, .long x5), (8, .int x8)] [.int 0] σ mc ms P) (k3 : (s0 = 0) → ks_W L xs mX0_takeMultiple rm_X0_takeMultiple 87 [(0, .ref 7), (1, .int x1), (2, .int x2), (5, .long x5), (8, .int x8)] [.int 1] σ mc ms P) : ks_W L xs mX0_takeMultiple rm_X0_takeMultiple 79 [(0, .ref 7), (1, .int x1), (2, .int x2), (5, .long x5), (8, .int x8)] [.int s0] σ mc ms P := by
  refine ka_if_ne (tgt := 86) d_X0_takeMultiple_79 (by decide) rfl (fun c1 => ?_) (fun c1 => ?_)
  · refine ka_iconst (v := 0) d_X0_takeMultiple_86 rfl (by decide) ?_
    exact (k2 c1)
  · refine ka_iconst (v := 1) d_X0_takeMultiple_82 rfl (by decide) ?_
    refine ka_goto (q := 87) d_X0_takeMultiple_83 (by decide) ?_
    exact (k3 c1)
theorem sg_X0_takeMultiple_87 {L : Nat} {xs : Nat → Int32} {σ : ks_St} {mc ms : Nat} {P : ka_O → ks_St → Prop} {x1 : Int32} {x2 : Int32} {x5 : Int64} {x8 : Int32} {s0 : Int32}  (k1 : ks_W L xs mX0_takeMultiple rm_X0_takeMultiple 56 [(0, .ref 7), (1, .int x1), (2, .int x2), (5, .long x5), (7, .int s0), (8, .int (x8 + 1))] [] σ mc ms P) : ks_W L xs mX0_takeMultiple rm_X0_takeMultiple 87 [(0, .ref 7), (1, .int x1), (2, .int x2), (5, .long x5), (8, .int x8)] [.int s0] σ mc ms P := by
  refine ka_istore (ls' := [(7, .int s0), (0, .ref 7), (1, .int x1), (2, .int x2), (5, .long x5), (8, .int x8)]) d_X0_takeMultiple_87 rfl (by decide) rfl ?_
  refine ka_iinc (g := 5) (v := x8 + 1) (ls' := [(8, .int (x8 + 1)), (7, .int s0), (0, .ref 7), (1, .int x1), (2, .int x2), (5, .long x5)]) d_X0_takeMultiple_89 rfl rfl rfl (by decide) rfl ?_
  refine ka_goto (q := 56) d_X0_takeMultiple_92 (by decide) ?_
  refine ka_sub [2, 3, 4, 5, 1, 0] rfl ?_
  exact k1
theorem sg_X0_takeMultiple_95 {L : Nat} {xs : Nat → Int32} {σ : ks_St} {mc ms : Nat} {P : ka_O → ks_St → Prop} {x5 : Int64}  (r1 : P (.inl (some (.long x5))) σ) : ks_W L xs mX0_takeMultiple rm_X0_takeMultiple 95 [(5, .long x5)] [] σ mc ms P := by
  refine ka_lload d_X0_takeMultiple_95 rfl 0 rfl ?_
  exact ks_lret d_X0_takeMultiple_97 rfl r1
theorem d_X0_divide_0 : decode cX0_divide 0 = .ok (.aload_n 2, 1) := by decide +kernel
theorem d_X0_divide_1 : decode cX0_divide 1 = .ok (.invokestatic 56, 3) := by decide +kernel
theorem d_X0_divide_4 : decode cX0_divide 4 = .ok (.istore 4, 2) := by decide +kernel
theorem d_X0_divide_6 : decode cX0_divide 6 = .ok (.iload 4, 2) := by decide +kernel
theorem d_X0_divide_8 : decode cX0_divide 8 = .ok (.invokestatic 33, 3) := by decide +kernel
theorem d_X0_divide_11 : decode cX0_divide 11 = .ok (.istore 5, 2) := by decide +kernel
theorem d_X0_divide_13 : decode cX0_divide 13 = .ok (.iload 4, 2) := by decide +kernel
theorem d_X0_divide_15 : decode cX0_divide 15 = .ok (.ineg, 1) := by decide +kernel
theorem d_X0_divide_16 : decode cX0_divide 16 = .ok (.bipush 31, 2) := by decide +kernel
theorem d_X0_divide_18 : decode cX0_divide 18 = .ok (.iand, 1) := by decide +kernel
theorem d_X0_divide_19 : decode cX0_divide 19 = .ok (.istore 6, 2) := by decide +kernel
theorem d_X0_divide_21 : decode cX0_divide 21 = .ok (.aload_n 1, 1) := by decide +kernel
theorem d_X0_divide_22 : decode cX0_divide 22 = .ok (.iload 6, 2) := by decide +kernel
theorem d_X0_divide_24 : decode cX0_divide 24 = .ok (.aload_n 0, 1) := by decide +kernel
theorem d_X0_divide_25 : decode cX0_divide 25 = .ok (.getfield 21, 3) := by decide +kernel
theorem d_X0_divide_28 : decode cX0_divide 28 = .ok (.invokestatic 60, 3) := by decide +kernel
theorem d_X0_divide_31 : decode cX0_divide 31 = .ok (.aload_n 0, 1) := by decide +kernel
theorem d_X0_divide_32 : decode cX0_divide 32 = .ok (.getfield 21, 3) := by decide +kernel
theorem d_X0_divide_35 : decode cX0_divide 35 = .ok (.aload_n 0, 1) := by decide +kernel
theorem d_X0_divide_36 : decode cX0_divide 36 = .ok (.getfield 24, 3) := by decide +kernel
theorem d_X0_divide_39 : decode cX0_divide 39 = .ok (.invokestatic 37, 3) := by decide +kernel
theorem d_X0_divide_42 : decode cX0_divide 42 = .ok (.aload_n 2, 1) := by decide +kernel
theorem d_X0_divide_43 : decode cX0_divide 43 = .ok (.iload 6, 2) := by decide +kernel
theorem d_X0_divide_45 : decode cX0_divide 45 = .ok (.aload_n 0, 1) := by decide +kernel
theorem d_X0_divide_46 : decode cX0_divide 46 = .ok (.getfield 21, 3) := by decide +kernel
theorem d_X0_divide_49 : decode cX0_divide 49 = .ok (.invokestatic 60, 3) := by decide +kernel
theorem d_X0_divide_52 : decode cX0_divide 52 = .ok (.aload_n 0, 1) := by decide +kernel
theorem d_X0_divide_53 : decode cX0_divide 53 = .ok (.getfield 21, 3) := by decide +kernel
theorem d_X0_divide_56 : decode cX0_divide 56 = .ok (.aload_n 0, 1) := by decide +kernel
theorem d_X0_divide_57 : decode cX0_divide 57 = .ok (.getfield 27, 3) := by decide +kernel
theorem d_X0_divide_60 : decode cX0_divide 60 = .ok (.invokestatic 37, 3) := by decide +kernel
theorem d_X0_divide_63 : decode cX0_divide 63 = .ok (.aload_n 0, 1) := by decide +kernel
theorem d_X0_divide_64 : decode cX0_divide 64 = .ok (.getfield 30, 3) := by decide +kernel
theorem d_X0_divide_67 : decode cX0_divide 67 = .ok (.invokestatic 41, 3) := by decide +kernel
theorem d_X0_divide_70 : decode cX0_divide 70 = .ok (.iload 5, 2) := by decide +kernel
theorem d_X0_divide_72 : decode cX0_divide 72 = .ok (.ifCond .le 38, 3) := by decide +kernel
theorem d_X0_divide_75 : decode cX0_divide 75 = .ok (.iload_n 3, 1) := by decide +kernel
theorem d_X0_divide_76 : decode cX0_divide 76 = .ok (.invokestatic 33, 3) := by decide +kernel
theorem d_X0_divide_79 : decode cX0_divide 79 = .ok (.iload 5, 2) := by decide +kernel
theorem d_X0_divide_81 : decode cX0_divide 81 = .ok (.isub, 1) := by decide +kernel
theorem d_X0_divide_82 : decode cX0_divide 82 = .ok (.istore 7, 2) := by decide +kernel
theorem d_X0_divide_84 : decode cX0_divide 84 = .ok (.iload 7, 2) := by decide +kernel
theorem d_X0_divide_86 : decode cX0_divide 86 = .ok (.ifCond .lt 24, 3) := by decide +kernel
theorem d_X0_divide_89 : decode cX0_divide 89 = .ok (.aload_n 0, 1) := by decide +kernel
theorem d_X0_divide_90 : decode cX0_divide 90 = .ok (.getfield 30, 3) := by decide +kernel
theorem d_X0_divide_93 : decode cX0_divide 93 = .ok (.iload 7, 2) := by decide +kernel
theorem d_X0_divide_95 : decode cX0_divide 95 = .ok (.aload_n 0, 1) := by decide +kernel
theorem d_X0_divide_96 : decode cX0_divide 96 = .ok (.iload 7, 2) := by decide +kernel
theorem d_X0_divide_98 : decode cX0_divide 98 = .ok (.iload 5, 2) := by decide +kernel
theorem d_X0_divide_100 : decode cX0_divide 100 = .ok (.invokevirtual 64, 3) := by decide +kernel
theorem d_X0_divide_103 : decode cX0_divide 103 = .ok (.lastore, 1) := by decide +kernel
theorem d_X0_divide_104 : decode cX0_divide 104 = .ok (.iinc 7 (-1), 3) := by decide +kernel
theorem d_X0_divide_107 : decode cX0_divide 107 = .ok (.goto (-23), 3) := by decide +kernel
theorem d_X0_divide_110 : decode cX0_divide 110 = .ok (.aload_n 0, 1) := by decide +kernel
theorem d_X0_divide_111 : decode cX0_divide 111 = .ok (.getfield 30, 3) := by decide +kernel
theorem d_X0_divide_114 : decode cX0_divide 114 = .ok (.aload_n 0, 1) := by decide +kernel
theorem d_X0_divide_115 : decode cX0_divide 115 = .ok (.getfield 15, 3) := by decide +kernel
theorem d_X0_divide_118 : decode cX0_divide 118 = .ok (.invokestatic 51, 3) := by decide +kernel
theorem d_X0_divide_121 : decode cX0_divide 121 = .ok (.aload_n 0, 1) := by decide +kernel
theorem d_X0_divide_122 : decode cX0_divide 122 = .ok (.getfield 24, 3) := by decide +kernel
theorem d_X0_divide_125 : decode cX0_divide 125 = .ok (.aload_n 0, 1) := by decide +kernel
theorem d_X0_divide_126 : decode cX0_divide 126 = .ok (.getfield 21, 3) := by decide +kernel
theorem d_X0_divide_129 : decode cX0_divide 129 = .ok (.invokestatic 51, 3) := by decide +kernel
theorem d_X0_divide_132 : decode cX0_divide 132 = .ok (.aload_n 0, 1) := by decide +kernel
theorem d_X0_divide_133 : decode cX0_divide 133 = .ok (.getfield 21, 3) := by decide +kernel
theorem d_X0_divide_136 : decode cX0_divide 136 = .ok (.iload 6, 2) := by decide +kernel
theorem d_X0_divide_138 : decode cX0_divide 138 = .ok (.ineg, 1) := by decide +kernel
theorem d_X0_divide_139 : decode cX0_divide 139 = .ok (.aload_n 0, 1) := by decide +kernel
theorem d_X0_divide_140 : decode cX0_divide 140 = .ok (.getfield 18, 3) := by decide +kernel
theorem d_X0_divide_143 : decode cX0_divide 143 = .ok (.invokestatic 60, 3) := by decide +kernel
theorem d_X0_divide_146 : decode cX0_divide 146 = .ok (.return_, 1) := by decide +kernel
theorem sg_X0_divide_0 {L : Nat} {xs : Nat → Int32} {σ : ks_St} {mc ms : Nat} {P : ka_O → ks_St → Prop} {a1 na1 : Nat} {a2 na2 : Nat} {x3 : Int32} (ha1 : rl_ a1 na1) (ha2 : rl_ a2 na2) (k1 : ks_W L xs mX0_divide rm_X0_divide 1 [(0, .ref 7), (1, .ref a1), (2, .ref a2), (3, .int x3)] [.ref a2] σ mc ms P) : ks_W L xs mX0_divide rm_X0_divide 0 [(0, .ref 7), (1, .ref a1), (2, .ref a2), (3, .int x3)] [] σ mc ms P := by
  refine ka_aload_n d_X0_divide_0 rfl rfl 2 rfl ?_
  exact k1
theorem cs_X0_divide_1 {L : Nat} {xs : Nat → Int32} {σ : ks_St} {mc ms : Nat} {P : ka_O → ks_St → Prop} {f : Int32 → ks_St → Prop} {a1 : Nat} {a2 : Nat} {x3 : Int32} (hK : ks_M L xs mX3_lengthOf rm_X3_lengthOf [.ref a2] σ (pi_ f)) (kr : ∀ r σ', f r σ' → ks_W L xs mX0_divide rm_X0_divide 4 [(0, .ref 7), (1, .ref a1), (2, .ref a2), (3, .int x3)] [.int r] σ' mc ms P) : ks_W L xs mX0_divide rm_X0_divide 1 [(0, .ref 7), (1, .ref a1), (2, .ref a2), (3, .int x3)] [.ref a2] σ mc ms P := by
  refine ks_callS (q := 4) (As := [.ref a2]) (st := []) d_X0_divide_1 rfl rfl lk_X0_56 ⟨by decide, by decide⟩ (Nat.le_of_ble_eq_true rfl) ⟨Nat.le_refl _, Nat.le_refl _⟩ hK (fun v σ' hq => ?_) (fun E σ' hq => ?_)
  · obtain ⟨r, e, hf⟩ := hq; cases e; exact kr r σ' hf
  · obtain ⟨r, e, hf⟩ := hq; cases e
theorem sg_X0_divide_4 {L : Nat} {xs : Nat → Int32} {σ : ks_St} {mc ms : Nat} {P : ka_O → ks_St → Prop} {a1 na1 : Nat} {a2 na2 : Nat} {x3 : Int32} {s0 : Int32} (ha1 : rl_ a1 na1) (ha2 : rl_ a2 na2) (k1 : ks_W L xs mX0_divide rm_X0_divide 8 [(0, .ref 7), (1, .ref a1), (2, .ref a2), (3, .int x3), (4, .int s0)] [.int s0] σ mc ms P) : ks_W L xs mX0_divide rm_X0_divide 4 [(0, .ref 7), (1, .ref a1), (2, .ref a2), (3, .int x3)] [.int s0] σ mc ms P := by
  refine ka_istore (ls' := [(4, .int s0), (0, .ref 7), (1, .ref a1), (2, .ref a2), (3, .int x3)]) d_X0_divide_4 rfl (by decide) rfl ?_
  refine ka_iload d_X0_divide_6 rfl 0 rfl ?_
  refine ka_sub [1, 2, 3, 4, 0] rfl ?_
  exact k1
theorem cs_X0_divide_8 {L : Nat} {xs : Nat → Int32} {σ : ks_St} {mc ms : Nat} {P : ka_O → ks_St → Prop} {f : Int32 → ks_St → Prop} {a1 : Nat} {a2 : Nat} {x3 : Int32} {x4 : Int32} {s0 : Int32} (hK : ks_M L xs mX0_digitsOf rm_X0_digitsOf [.int s0] σ (pi_ f)) (kr : ∀ r σ', f r σ' → ks_W L xs mX0_divide rm_X0_divide 11 [(0, .ref 7), (1, .ref a1), (2, .ref a2), (3, .int x3), (4, .int x4)] [.int r] σ' mc ms P) : ks_W L xs mX0_divide rm_X0_divide 8 [(0, .ref 7), (1, .ref a1), (2, .ref a2), (3, .int x3), (4, .int x4)] [.int s0] σ mc ms P := by
  refine ks_callS (q := 11) (As := [.int s0]) (st := []) d_X0_divide_8 rfl rfl lk_X0_33 ⟨by decide, by decide⟩ (Nat.le_of_ble_eq_true rfl) ⟨Nat.le_refl _, Nat.le_refl _⟩ hK (fun v σ' hq => ?_) (fun E σ' hq => ?_)
  · obtain ⟨r, e, hf⟩ := hq; cases e; exact kr r σ' hf
  · obtain ⟨r, e, hf⟩ := hq; cases e
theorem sg_X0_divide_11 {L : Nat} {xs : Nat → Int32} {σ : ks_St} {mc ms : Nat} {P : ka_O → ks_St → Prop} {a1 na1 : Nat} {a2 na2 : Nat} {x3 : Int32} {x4 : Int32} {s0 : Int32} (ha1 : rl_ a1 na1) (ha2 : rl_ a2 na2) (k1 : ks_W L xs mX0_divide rm_X0_divide 28 [(0, .ref 7), (2, .ref a2), (3, .int x3), (5, .int s0), (6, .int ((-x4) &&& 31))] [.ref 11, .int ((-x4) &&& 31), .ref a1] σ mc ms P) : ks_W L xs mX0_divide rm_X0_divide 11 [(0, .ref 7), (1, .ref a1), (2, .ref a2), (3, .int x3), (4, .int x4)] [.int s0] σ mc ms P := by
  refine ka_istore (ls' := [(5, .int s0), (0, .ref 7), (1, .ref a1), (2, .ref a2), (3, .int x3), (4, .int x4)]) d_X0_divide_11 rfl (by decide) rfl ?_
  refine ka_iload d_X0_divide_13 rfl 5 rfl ?_
  refine ka_ineg d_X0_divide_15 rfl ?_
  refine ka_bipush (v := 31) d_X0_divide_16 rfl (by decide) ?_
  refine ka_iand d_X0_divide_18 rfl ?_
  refine ka_istore (ls' := [(6, .int ((-x4) &&& 31)), (5, .int s0), (0, .ref 7), (1, .ref a1), (2, .ref a2), (3, .int x3), (4, .int x4)]) d_X0_divide_19 rfl (by decide) rfl ?_
  refine ka_aload_n d_X0_divide_21 rfl rfl 3 rfl ?_
  refine ka_iload d_X0_divide_22 rfl 0 rfl ?_
  refine ka_aload_n d_X0_divide_24 rfl rfl 2 rfl ?_
  refine gf_X0_3 d_X0_divide_25 rfl fl_X0_21 ?_
  refine ka_sub [2, 4, 5, 1, 0] rfl ?_
  exact k1
theorem cs_X0_divide_28 {L : Nat} {xs : Nat → Int32} {σ : ks_St} {mc ms : Nat} {P : ka_O → ks_St → Prop} {f : ks_St → Prop} {a2 : Nat} {x3 : Int32} {x5 : Int32} {x6 : Int32} {a1 : Nat} {s1 : Int32} (hK : ks_M L xs mX3_moveUp rm_X3_moveUp [.ref a1, .int s1, .ref 11] σ (pv_ f)) (kr : ∀ σ', f σ' → ks_W L xs mX0_divide rm_X0_divide 31 [(0, .ref 7), (2, .ref a2), (3, .int x3), (5, .int x5), (6, .int x6)] [] σ' mc ms P) : ks_W L xs mX0_divide rm_X0_divide 28 [(0, .ref 7), (2, .ref a2), (3, .int x3), (5, .int x5), (6, .int x6)] [.ref 11, .int s1, .ref a1] σ mc ms P := by
  refine ks_callS (q := 31) (As := [.ref a1, .int s1, .ref 11]) (st := []) d_X0_divide_28 rfl rfl lk_X0_60 ⟨by decide, by decide⟩ (Nat.le_of_ble_eq_true rfl) ⟨Nat.le_refl _, Nat.le_refl _⟩ hK (fun v σ' hq => ?_) (fun E σ' hq => ?_)
  · obtain ⟨e, hf⟩ := hq; cases e; exact kr σ' hf
  · obtain ⟨e, hf⟩ := hq; cases e
theorem sg_X0_divide_31 {L : Nat} {xs : Nat → Int32} {σ : ks_St} {mc ms : Nat} {P : ka_O → ks_St → Prop} {a2 na2 : Nat} {x3 : Int32} {x5 : Int32} {x6 : Int32} (ha2 : rl_ a2 na2) (k1 : ks_W L xs mX0_divide rm_X0_divide 39 [(0, .ref 7), (2, .ref a2), (3, .int x3), (5, .int x5), (6, .int x6)] [.ref 12, .ref 11] σ mc ms P) : ks_W L xs mX0_divide rm_X0_divide 31 [(0, .ref 7), (2, .ref a2), (3, .int x3), (5, .int x5), (6, .int x6)] [] σ mc ms P := by
  refine ka_aload_n d_X0_divide_31 rfl rfl 0 rfl ?_
  refine gf_X0_3 d_X0_divide_32 rfl fl_X0_21 ?_
  refine ka_aload_n d_X0_divide_35 rfl rfl 0 rfl ?_
  refine gf_X0_4 d_X0_divide_36 rfl fl_X0_24 ?_
  exact k1
theorem cs_X0_divide_39 {L : Nat} {xs : Nat → Int32} {σ : ks_St} {mc ms : Nat} {P : ka_O → ks_St → Prop} {f : ks_St → Prop} {a2 : Nat} {x3 : Int32} {x5 : Int32} {x6 : Int32} (hK : ks_M L xs mX0_split rm_X0_split [.ref 11, .ref 12] σ (pv_ f)) (kr : ∀ σ', f σ' → ks_W L xs mX0_divide rm_X0_divide 42 [(0, .ref 7), (2, .ref a2), (3, .int x3), (5, .int x5), (6, .int x6)] [] σ' mc ms P) : ks_W L xs mX0_divide rm_X0_divide 39 [(0, .ref 7), (2, .ref a2), (3, .int x3), (5, .int x5), (6, .int x6)] [.ref 12, .ref 11] σ mc ms P := by
  refine ks_callS (q := 42) (As := [.ref 11, .ref 12]) (st := []) d_X0_divide_39 rfl rfl lk_X0_37 ⟨by decide, by decide⟩ (Nat.le_of_ble_eq_true rfl) ⟨Nat.le_refl _, Nat.le_refl _⟩ hK (fun v σ' hq => ?_) (fun E σ' hq => ?_)
  · obtain ⟨e, hf⟩ := hq; cases e; exact kr σ' hf
  · obtain ⟨e, hf⟩ := hq; cases e
theorem sg_X0_divide_42 {L : Nat} {xs : Nat → Int32} {σ : ks_St} {mc ms : Nat} {P : ka_O → ks_St → Prop} {a2 na2 : Nat} {x3 : Int32} {x5 : Int32} {x6 : Int32} (ha2 : rl_ a2 na2) (k1 : ks_W L xs mX0_divide rm_X0_divide 49 [(0, .ref 7), (3, .int x3), (5, .int x5), (6, .int x6)] [.ref 11, .int x6, .ref a2] σ mc ms P) : ks_W L xs mX0_divide rm_X0_divide 42 [(0, .ref 7), (2, .ref a2), (3, .int x3), (5, .int x5), (6, .int x6)] [] σ mc ms P := by
  refine ka_aload_n d_X0_divide_42 rfl rfl 1 rfl ?_
  refine ka_iload d_X0_divide_43 rfl 4 rfl ?_
  refine ka_aload_n d_X0_divide_45 rfl rfl 0 rfl ?_
  refine gf_X0_3 d_X0_divide_46 rfl fl_X0_21 ?_
  refine ka_sub [0, 2, 3, 4] rfl ?_
  exact k1
theorem cs_X0_divide_49 {L : Nat} {xs : Nat → Int32} {σ : ks_St} {mc ms : Nat} {P : ka_O → ks_St → Prop} {f : ks_St → Prop} {x3 : Int32} {x5 : Int32} {x6 : Int32} {a2 : Nat} {s1 : Int32} (hK : ks_M L xs mX3_moveUp rm_X3_moveUp [.ref a2, .int s1, .ref 11] σ (pv_ f)) (kr : ∀ σ', f σ' → ks_W L xs mX0_divide rm_X0_divide 52 [(0, .ref 7), (3, .int x3), (5, .int x5), (6, .int x6)] [] σ' mc ms P) : ks_W L xs mX0_divide rm_X0_divide 49 [(0, .ref 7), (3, .int x3), (5, .int x5), (6, .int x6)] [.ref 11, .int s1, .ref a2] σ mc ms P := by
  refine ks_callS (q := 52) (As := [.ref a2, .int s1, .ref 11]) (st := []) d_X0_divide_49 rfl rfl lk_X0_60 ⟨by decide, by decide⟩ (Nat.le_of_ble_eq_true rfl) ⟨Nat.le_refl _, Nat.le_refl _⟩ hK (fun v σ' hq => ?_) (fun E σ' hq => ?_)
  · obtain ⟨e, hf⟩ := hq; cases e; exact kr σ' hf
  · obtain ⟨e, hf⟩ := hq; cases e
theorem sg_X0_divide_52 {L : Nat} {xs : Nat → Int32} {σ : ks_St} {mc ms : Nat} {P : ka_O → ks_St → Prop} {x3 : Int32} {x5 : Int32} {x6 : Int32}  (k1 : ks_W L xs mX0_divide rm_X0_divide 60 [(0, .ref 7), (3, .int x3), (5, .int x5), (6, .int x6)] [.ref 13, .ref 11] σ mc ms P) : ks_W L xs mX0_divide rm_X0_divide 52 [(0, .ref 7), (3, .int x3), (5, .int x5), (6, .int x6)] [] σ mc ms P := by
  refine ka_aload_n d_X0_divide_52 rfl rfl 0 rfl ?_
  refine gf_X0_3 d_X0_divide_53 rfl fl_X0_21 ?_
  refine ka_aload_n d_X0_divide_56 rfl rfl 0 rfl ?_
  refine gf_X0_5 d_X0_divide_57 rfl fl_X0_27 ?_
  exact k1
theorem cs_X0_divide_60 {L : Nat} {xs : Nat → Int32} {σ : ks_St} {mc ms : Nat} {P : ka_O → ks_St → Prop} {f : ks_St → Prop} {x3 : Int32} {x5 : Int32} {x6 : Int32} (hK : ks_M L xs mX0_split rm_X0_split [.ref 11, .ref 13] σ (pv_ f)) (kr : ∀ σ', f σ' → ks_W L xs mX0_divide rm_X0_divide 63 [(0, .ref 7), (3, .int x3), (5, .int x5), (6, .int x6)] [] σ' mc ms P) : ks_W L xs mX0_divide rm_X0_divide 60 [(0, .ref 7), (3, .int x3), (5, .int x5), (6, .int x6)] [.ref 13, .ref 11] σ mc ms P := by
  refine ks_callS (q := 63) (As := [.ref 11, .ref 13]) (st := []) d_X0_divide_60 rfl rfl lk_X0_37 ⟨by decide, by decide⟩ (Nat.le_of_ble_eq_true rfl) ⟨Nat.le_refl _, Nat.le_refl _⟩ hK (fun v σ' hq => ?_) (fun E σ' hq => ?_)
  · obtain ⟨e, hf⟩ := hq; cases e; exact kr σ' hf
  · obtain ⟨e, hf⟩ := hq; cases e
theorem sg_X0_divide_63 {L : Nat} {xs : Nat → Int32} {σ : ks_St} {mc ms : Nat} {P : ka_O → ks_St → Prop} {x3 : Int32} {x5 : Int32} {x6 : Int32}  (k1 : ks_W L xs mX0_divide rm_X0_divide 67 [(0, .ref 7), (3, .int x3), (5, .int x5), (6, .int x6)] [.ref 14] σ mc ms P) : ks_W L xs mX0_divide rm_X0_divide 63 [(0, .ref 7), (3, .int x3), (5, .int x5), (6, .int x6)] [] σ mc ms P := by
  refine ka_aload_n d_X0_divide_63 rfl rfl 0 rfl ?_
  refine gf_X0_6 d_X0_divide_64 rfl fl_X0_30 ?_
  exact k1
theorem cs_X0_divide_67 {L : Nat} {xs : Nat → Int32} {σ : ks_St} {mc ms : Nat} {P : ka_O → ks_St → Prop} {f : ks_St → Prop} {x3 : Int32} {x5 : Int32} {x6 : Int32} (hK : ks_M L xs mX3_clear rm_X3_clear [.ref 14] σ (pv_ f)) (kr : ∀ σ', f σ' → ks_W L xs mX0_divide rm_X0_divide 70 [(0, .ref 7), (3, .int x3), (5, .int x5), (6, .int x6)] [] σ' mc ms P) : ks_W L xs mX0_divide rm_X0_divide 67 [(0, .ref 7), (3, .int x3), (5, .int x5), (6, .int x6)] [.ref 14] σ mc ms P := by
  refine ks_callS (q := 70) (As := [.ref 14]) (st := []) d_X0_divide_67 rfl rfl lk_X0_41 ⟨by decide, by decide⟩ (Nat.le_of_ble_eq_true rfl) ⟨Nat.le_refl _, Nat.le_refl _⟩ hK (fun v σ' hq => ?_) (fun E σ' hq => ?_)
  · obtain ⟨e, hf⟩ := hq; cases e; exact kr σ' hf
  · obtain ⟨e, hf⟩ := hq; cases e
theorem sg_X0_divide_70 {L : Nat} {xs : Nat → Int32} {σ : ks_St} {mc ms : Nat} {P : ka_O → ks_St → Prop} {x3 : Int32} {x5 : Int32} {x6 : Int32}  (k2 : (x5 ≤ 0) → ks_W L xs mX0_divide rm_X0_divide 110 [(0, .ref 7), (6, .int x6)] [] σ mc ms P) (k3 : (¬ (x5 ≤ 0)) → ks_W L xs mX0_divide rm_X0_divide 76 [(0, .ref 7), (5, .int x5), (6, .int x6)] [.int x3] σ mc ms P) : ks_W L xs mX0_divide rm_X0_divide 70 [(0, .ref 7), (3, .int x3), (5, .int x5), (6, .int x6)] [] σ mc ms P := by
  refine ka_iload d_X0_divide_70 rfl 2 rfl ?_
  refine ka_if_le (tgt := 110) d_X0_divide_72 (by decide) rfl (fun c1 => ?_) (fun c1 => ?_)
  · refine ka_sub [0, 3] rfl ?_
    exact (k2 c1)
  · refine ka_iload_n d_X0_divide_75 rfl rfl 1 rfl ?_
    refine ka_sub [0, 2, 3] rfl ?_
    exact (k3 c1)
theorem cs_X0_divide_76 {L : Nat} {xs : Nat → Int32} {σ : ks_St} {mc ms : Nat} {P : ka_O → ks_St → Prop} {f : Int32 → ks_St → Prop} {x5 : Int32} {x6 : Int32} {s0 : Int32} (hK : ks_M L xs mX0_digitsOf rm_X0_digitsOf [.int s0] σ (pi_ f)) (kr : ∀ r σ', f r σ' → ks_W L xs mX0_divide rm_X0_divide 79 [(0, .ref 7), (5, .int x5), (6, .int x6)] [.int r] σ' mc ms P) : ks_W L xs mX0_divide rm_X0_divide 76 [(0, .ref 7), (5, .int x5), (6, .int x6)] [.int s0] σ mc ms P := by
  refine ks_callS (q := 79) (As := [.int s0]) (st := []) d_X0_divide_76 rfl rfl lk_X0_33 ⟨by decide, by decide⟩ (Nat.le_of_ble_eq_true rfl) ⟨Nat.le_refl _, Nat.le_refl _⟩ hK (fun v σ' hq => ?_) (fun E σ' hq => ?_)
  · obtain ⟨r, e, hf⟩ := hq; cases e; exact kr r σ' hf
  · obtain ⟨r, e, hf⟩ := hq; cases e
theorem sg_X0_divide_79 {L : Nat} {xs : Nat → Int32} {σ : ks_St} {mc ms : Nat} {P : ka_O → ks_St → Prop} {x5 : Int32} {x6 : Int32} {s0 : Int32}  (k1 : ks_W L xs mX0_divide rm_X0_divide 84 [(0, .ref 7), (5, .int x5), (6, .int x6), (7, .int (s0 - x5))] [] σ mc ms P) : ks_W L xs mX0_divide rm_X0_divide 79 [(0, .ref 7), (5, .int x5), (6, .int x6)] [.int s0] σ mc ms P := by
  refine ka_iload d_X0_divide_79 rfl 1 rfl ?_
  refine ka_isub d_X0_divide_81 rfl ?_
  refine ka_istore (ls' := [(7, .int (s0 - x5)), (0, .ref 7), (5, .int x5), (6, .int x6)]) d_X0_divide_82 rfl (by decide) rfl ?_
  refine ka_sub [1, 2, 3, 0] rfl ?_
  exact k1
theorem sg_X0_divide_84 {L : Nat} {xs : Nat → Int32} {σ : ks_St} {mc ms : Nat} {P : ka_O → ks_St → Prop} {x5 : Int32} {x6 : Int32} {x7 : Int32}  (k2 : (x7 < 0) → ks_W L xs mX0_divide rm_X0_divide 110 [(0, .ref 7), (6, .int x6)] [] σ mc ms P) (k3 : (¬ (x7 < 0)) → ks_W L xs mX0_divide rm_X0_divide 100 [(0, .ref 7), (5, .int x5), (6, .int x6), (7, .int x7)] [.int x5, .int x7, .ref 7, .int x7, .ref 14] σ mc ms P) : ks_W L xs mX0_divide rm_X0_divide 84 [(0, .ref 7), (5, .int x5), (6, .int x6), (7, .int x7)] [] σ mc ms P := by
  refine ka_iload d_X0_divide_84 rfl 3 rfl ?_
  refine ka_if_lt (tgt := 110) d_X0_divide_86 (by decide) rfl (fun c1 => ?_) (fun c1 => ?_)
  · refine ka_sub [0, 2] rfl ?_
    exact (k2 c1)
  · refine ka_aload_n d_X0_divide_89 rfl rfl 0 rfl ?_
    refine gf_X0_6 d_X0_divide_90 rfl fl_X0_30 ?_
    refine ka_iload d_X0_divide_93 rfl 3 rfl ?_
    refine ka_aload_n d_X0_divide_95 rfl rfl 0 rfl ?_
    refine ka_iload d_X0_divide_96 rfl 3 rfl ?_
    refine ka_iload d_X0_divide_98 rfl 1 rfl ?_
    exact (k3 c1)
theorem cs_X0_divide_100 {L : Nat} {xs : Nat → Int32} {σ : ks_St} {mc ms : Nat} {P : ka_O → ks_St → Prop} {f : Int64 → ks_St → Prop} {x5 : Int32} {x6 : Int32} {x7 : Int32} {s1 : Int32} {s3 : Int32} {s4 : Int32} (hK : ks_M L xs mX0_takeMultiple rm_X0_takeMultiple [.ref 7, .int s3, .int s4] σ (pl_ f)) (kr : ∀ r σ', f r σ' → ks_W L xs mX0_divide rm_X0_divide 103 [(0, .ref 7), (5, .int x5), (6, .int x6), (7, .int x7)] [.long r, .int s1, .ref 14] σ' mc ms P) : ks_W L xs mX0_divide rm_X0_divide 100 [(0, .ref 7), (5, .int x5), (6, .int x6), (7, .int x7)] [.int s4, .int s3, .ref 7, .int s1, .ref 14] σ mc ms P := by
  refine ks_callV (q := 103) (o := 7) (ci := 1) (As := [.int s3, .int s4]) (st := [.int s1, .ref 14]) d_X0_divide_100 rfl rfl (by decide) rfl rfl lk_X0_64 ⟨by decide, by decide⟩ (Nat.le_of_ble_eq_true rfl) ⟨Nat.le_refl _, Nat.le_refl _⟩ hK (fun v σ' hq => ?_) (fun E σ' hq => ?_)
  · obtain ⟨r, e, hf⟩ := hq; cases e; exact kr r σ' hf
  · obtain ⟨r, e, hf⟩ := hq; cases e
theorem sg_X0_divide_103 {L : Nat} {xs : Nat → Int32} {σ : ks_St} {mc ms : Nat} {P : ka_O → ks_St → Prop} {x5 : Int32} {x6 : Int32} {x7 : Int32} {s1 : Int32} {s2 : Int64}  (v1 : vp_in s1 32) (k2 : ks_W L xs mX0_divide rm_X0_divide 84 [(0, .ref 7), (5, .int x5), (6, .int x6), (7, .int (x7 + (-1)))] [] (ug_ σ 14 (vp_updL (sg_ σ 14) s1.toNatClampNeg s2)) mc ms P) : ks_W L xs mX0_divide rm_X0_divide 103 [(0, .ref 7), (5, .int x5), (6, .int x6), (7, .int x7)] [.long s2, .int s1, .ref 14] σ mc ms P := by
  refine ks_last row_14 d_X0_divide_103 rfl v1 ?_
  refine ka_iinc (g := 3) (v := x7 + (-1)) (ls' := [(7, .int (x7 + (-1))), (0, .ref 7), (5, .int x5), (6, .int x6)]) d_X0_divide_104 rfl rfl rfl (by decide) rfl ?_
  refine ka_goto (q := 84) d_X0_divide_107 (by decide) ?_
  refine ka_sub [1, 2, 3, 0] rfl ?_
  exact k2
theorem sg_X0_divide_110 {L : Nat} {xs : Nat → Int32} {σ : ks_St} {mc ms : Nat} {P : ka_O → ks_St → Prop} {x6 : Int32}  (k1 : ks_W L xs mX0_divide rm_X0_divide 118 [(0, .ref 7), (6, .int x6)] [.ref 9, .ref 14] σ mc ms P) : ks_W L xs mX0_divide rm_X0_divide 110 [(0, .ref 7), (6, .int x6)] [] σ mc ms P := by
  refine ka_aload_n d_X0_divide_110 rfl rfl 0 rfl ?_
  refine gf_X0_6 d_X0_divide_111 rfl fl_X0_30 ?_
  refine ka_aload_n d_X0_divide_114 rfl rfl 0 rfl ?_
  refine gf_X0_1 d_X0_divide_115 rfl fl_X0_15 ?_
  exact k1
theorem cs_X0_divide_118 {L : Nat} {xs : Nat → Int32} {σ : ks_St} {mc ms : Nat} {P : ka_O → ks_St → Prop} {f : ks_St → Prop} {x6 : Int32} (hK : ks_M L xs mX0_merge rm_X0_merge [.ref 14, .ref 9] σ (pv_ f)) (kr : ∀ σ', f σ' → ks_W L xs mX0_divide rm_X0_divide 121 [(0, .ref 7), (6, .int x6)] [] σ' mc ms P) : ks_W L xs mX0_divide rm_X0_divide 118 [(0, .ref 7), (6, .int x6)] [.ref 9, .ref 14] σ mc ms P := by
  refine ks_callS (q := 121) (As := [.ref 14, .ref 9]) (st := []) d_X0_divide_118 rfl rfl lk_X0_51 ⟨by decide, by decide⟩ (Nat.le_of_ble_eq_true rfl) ⟨Nat.le_refl _, Nat.le_refl _⟩ hK (fun v σ' hq => ?_) (fun E σ' hq => ?_)
  · obtain ⟨e, hf⟩ := hq; cases e; exact kr σ' hf
  · obtain ⟨e, hf⟩ := hq; cases e
theorem sg_X0_divide_121 {L : Nat} {xs : Nat → Int32} {σ : ks_St} {mc ms : Nat} {P : ka_O → ks_St → Prop} {x6 : Int32}  (k1 : ks_W L xs mX0_divide rm_X0_divide 129 [(0, .ref 7), (6, .int x6)] [.ref 11, .ref 12] σ mc ms P) : ks_W L xs mX0_divide rm_X0_divide 121 [(0, .ref 7), (6, .int x6)] [] σ mc ms P := by
  refine ka_aload_n d_X0_divide_121 rfl rfl 0 rfl ?_
  refine gf_X0_4 d_X0_divide_122 rfl fl_X0_24 ?_
  refine ka_aload_n d_X0_divide_125 rfl rfl 0 rfl ?_
  refine gf_X0_3 d_X0_divide_126 rfl fl_X0_21 ?_
  exact k1
theorem cs_X0_divide_129 {L : Nat} {xs : Nat → Int32} {σ : ks_St} {mc ms : Nat} {P : ka_O → ks_St → Prop} {f : ks_St → Prop} {x6 : Int32} (hK : ks_M L xs mX0_merge rm_X0_merge [.ref 12, .ref 11] σ (pv_ f)) (kr : ∀ σ', f σ' → ks_W L xs mX0_divide rm_X0_divide 132 [(0, .ref 7), (6, .int x6)] [] σ' mc ms P) : ks_W L xs mX0_divide rm_X0_divide 129 [(0, .ref 7), (6, .int x6)] [.ref 11, .ref 12] σ mc ms P := by
  refine ks_callS (q := 132) (As := [.ref 12, .ref 11]) (st := []) d_X0_divide_129 rfl rfl lk_X0_51 ⟨by decide, by decide⟩ (Nat.le_of_ble_eq_true rfl) ⟨Nat.le_refl _, Nat.le_refl _⟩ hK (fun v σ' hq => ?_) (fun E σ' hq => ?_)
  · obtain ⟨e, hf⟩ := hq; cases e; exact kr σ' hf
  · obtain ⟨e, hf⟩ := hq; cases e
theorem sg_X0_divide_132 {L : Nat} {xs : Nat → Int32} {σ : ks_St} {mc ms : Nat} {P : ka_O → ks_St → Prop} {x6 : Int32}  (k1 : ks_W L xs mX0_divide rm_X0_divide 143 [] [.ref 10, .int (-x6), .ref 11] σ mc ms P) : ks_W L xs mX0_divide rm_X0_divide 132 [(0, .ref 7), (6, .int x6)] [] σ mc ms P := by
  refine ka_aload_n d_X0_divide_132 rfl rfl 0 rfl ?_
  refine gf_X0_3 d_X0_divide_133 rfl fl_X0_21 ?_
  refine ka_iload d_X0_divide_136 rfl 1 rfl ?_
  refine ka_ineg d_X0_divide_138 rfl ?_
  refine ka_aload_n d_X0_divide_139 rfl rfl 0 rfl ?_
  refine gf_X0_2 d_X0_divide_140 rfl fl_X0_18 ?_
  refine ka_sub [] rfl ?_
  exact k1
theorem cs_X0_divide_143 {L : Nat} {xs : Nat → Int32} {σ : ks_St} {mc ms : Nat} {P : ka_O → ks_St → Prop} {f : ks_St → Prop} {s1 : Int32} (hK : ks_M L xs mX3_moveUp rm_X3_moveUp [.ref 11, .int s1, .ref 10] σ (pv_ f)) (kr : ∀ σ', f σ' → ks_W L xs mX0_divide rm_X0_divide 146 [] [] σ' mc ms P) : ks_W L xs mX0_divide rm_X0_divide 143 [] [.ref 10, .int s1, .ref 11] σ mc ms P := by
  refine ks_callS (q := 146) (As := [.ref 11, .int s1, .ref 10]) (st := []) d_X0_divide_143 rfl rfl lk_X0_60 ⟨by decide, by decide⟩ (Nat.le_of_ble_eq_true rfl) ⟨Nat.le_refl _, Nat.le_refl _⟩ hK (fun v σ' hq => ?_) (fun E σ' hq => ?_)
  · obtain ⟨e, hf⟩ := hq; cases e; exact kr σ' hf
  · obtain ⟨e, hf⟩ := hq; cases e
theorem sg_X0_divide_146 {L : Nat} {xs : Nat → Int32} {σ : ks_St} {mc ms : Nat} {P : ka_O → ks_St → Prop}   (r1 : P (.inl none) σ) : ks_W L xs mX0_divide rm_X0_divide 146 [] [] σ mc ms P := by
  exact ks_vret d_X0_divide_146 rfl r1
