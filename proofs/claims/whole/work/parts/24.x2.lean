theorem d_X2_choose_0 : decode cX2_choose 0 = .ok (.aload_n 0, 1) := by decide +kernel
theorem d_X2_choose_1 : decode cX2_choose 1 = .ok (.iload_n 2, 1) := by decide +kernel
theorem d_X2_choose_2 : decode cX2_choose 2 = .ok (.putfield 13, 3) := by decide +kernel
theorem d_X2_choose_5 : decode cX2_choose 5 = .ok (.aload_n 0, 1) := by decide +kernel
theorem d_X2_choose_6 : decode cX2_choose 6 = .ok (.iload_n 1, 1) := by decide +kernel
theorem d_X2_choose_7 : decode cX2_choose 7 = .ok (.bipush 8, 2) := by decide +kernel
theorem d_X2_choose_9 : decode cX2_choose 9 = .ok (.if_icmp .ne 7, 3) := by decide +kernel
theorem d_X2_choose_12 : decode cX2_choose 12 = .ok (.iconst 3, 1) := by decide +kernel
theorem d_X2_choose_13 : decode cX2_choose 13 = .ok (.goto 16, 3) := by decide +kernel
theorem d_X2_choose_16 : decode cX2_choose 16 = .ok (.iload_n 1, 1) := by decide +kernel
theorem d_X2_choose_17 : decode cX2_choose 17 = .ok (.bipush 16, 2) := by decide +kernel
theorem d_X2_choose_19 : decode cX2_choose 19 = .ok (.if_icmp .ne 8, 3) := by decide +kernel
theorem d_X2_choose_22 : decode cX2_choose 22 = .ok (.bipush 10, 2) := by decide +kernel
theorem d_X2_choose_24 : decode cX2_choose 24 = .ok (.goto 5, 3) := by decide +kernel
theorem d_X2_choose_27 : decode cX2_choose 27 = .ok (.bipush 23, 2) := by decide +kernel
theorem d_X2_choose_29 : decode cX2_choose 29 = .ok (.putfield 16, 3) := by decide +kernel
theorem d_X2_choose_32 : decode cX2_choose 32 = .ok (.iload_n 1, 1) := by decide +kernel
theorem d_X2_choose_33 : decode cX2_choose 33 = .ok (.iconst 1, 1) := by decide +kernel
theorem d_X2_choose_34 : decode cX2_choose 34 = .ok (.isub, 1) := by decide +kernel
theorem d_X2_choose_35 : decode cX2_choose 35 = .ok (.aload_n 0, 1) := by decide +kernel
theorem d_X2_choose_36 : decode cX2_choose 36 = .ok (.getfield 16, 3) := by decide +kernel
theorem d_X2_choose_39 : decode cX2_choose 39 = .ok (.isub, 1) := by decide +kernel
theorem d_X2_choose_40 : decode cX2_choose 40 = .ok (.istore_n 3, 1) := by decide +kernel
theorem d_X2_choose_41 : decode cX2_choose 41 = .ok (.aload_n 0, 1) := by decide +kernel
theorem d_X2_choose_42 : decode cX2_choose 42 = .ok (.iconst 1, 1) := by decide +kernel
theorem d_X2_choose_43 : decode cX2_choose 43 = .ok (.iload_n 3, 1) := by decide +kernel
theorem d_X2_choose_44 : decode cX2_choose 44 = .ok (.ishl, 1) := by decide +kernel
theorem d_X2_choose_45 : decode cX2_choose 45 = .ok (.iconst 1, 1) := by decide +kernel
theorem d_X2_choose_46 : decode cX2_choose 46 = .ok (.isub, 1) := by decide +kernel
theorem d_X2_choose_47 : decode cX2_choose 47 = .ok (.putfield 19, 3) := by decide +kernel
theorem d_X2_choose_50 : decode cX2_choose 50 = .ok (.iconst 1, 1) := by decide +kernel
theorem d_X2_choose_51 : decode cX2_choose 51 = .ok (.iload_n 3, 1) := by decide +kernel
theorem d_X2_choose_52 : decode cX2_choose 52 = .ok (.iconst 1, 1) := by decide +kernel
theorem d_X2_choose_53 : decode cX2_choose 53 = .ok (.isub, 1) := by decide +kernel
theorem d_X2_choose_54 : decode cX2_choose 54 = .ok (.ishl, 1) := by decide +kernel
theorem d_X2_choose_55 : decode cX2_choose 55 = .ok (.iconst 1, 1) := by decide +kernel
theorem d_X2_choose_56 : decode cX2_choose 56 = .ok (.isub, 1) := by decide +kernel
theorem d_X2_choose_57 : decode cX2_choose 57 = .ok (.istore 4, 2) := by decide +kernel
theorem d_X2_choose_59 : decode cX2_choose 59 = .ok (.aload_n 0, 1) := by decide +kernel
theorem d_X2_choose_60 : decode cX2_choose 60 = .ok (.iconst 1, 1) := by decide +kernel
theorem d_X2_choose_61 : decode cX2_choose 61 = .ok (.iload 4, 2) := by decide +kernel
theorem d_X2_choose_63 : decode cX2_choose 63 = .ok (.isub, 1) := by decide +kernel
theorem d_X2_choose_64 : decode cX2_choose 64 = .ok (.aload_n 0, 1) := by decide +kernel
theorem d_X2_choose_65 : decode cX2_choose 65 = .ok (.getfield 16, 3) := by decide +kernel
theorem d_X2_choose_68 : decode cX2_choose 68 = .ok (.isub, 1) := by decide +kernel
theorem d_X2_choose_69 : decode cX2_choose 69 = .ok (.putfield 22, 3) := by decide +kernel
theorem d_X2_choose_72 : decode cX2_choose 72 = .ok (.aload_n 0, 1) := by decide +kernel
theorem d_X2_choose_73 : decode cX2_choose 73 = .ok (.lconst 1, 1) := by decide +kernel
theorem d_X2_choose_74 : decode cX2_choose 74 = .ok (.iload_n 1, 1) := by decide +kernel
theorem d_X2_choose_75 : decode cX2_choose 75 = .ok (.iconst 1, 1) := by decide +kernel
theorem d_X2_choose_76 : decode cX2_choose 76 = .ok (.isub, 1) := by decide +kernel
theorem d_X2_choose_77 : decode cX2_choose 77 = .ok (.lshl, 1) := by decide +kernel
theorem d_X2_choose_78 : decode cX2_choose 78 = .ok (.putfield 27, 3) := by decide +kernel
theorem d_X2_choose_81 : decode cX2_choose 81 = .ok (.return_, 1) := by decide +kernel
theorem sg_X2_choose_0 {L : Nat} {xs : Nat → Int32} {σ : ks_St} {mc ms : Nat} {P : ka_O → ks_St → Prop} {x1 : Int32} {x2 : Int32}  (k3 : (¬ x1 = 8) → (¬ x1 = 16) → ks_W L xs mX2_choose rm_X2_choose 29 [(0, .ref 16), (1, .int x1)] [.int 23, .ref 16] (ui_ σ 8 x2) mc ms P) (k4 : (¬ x1 = 8) → (x1 = 16) → ks_W L xs mX2_choose rm_X2_choose 29 [(0, .ref 16), (1, .int x1)] [.int 10, .ref 16] (ui_ σ 8 x2) mc ms P) (k5 : (x1 = 8) → ks_W L xs mX2_choose rm_X2_choose 29 [(0, .ref 16), (1, .int x1)] [.int 3, .ref 16] (ui_ σ 8 x2) mc ms P) : ks_W L xs mX2_choose rm_X2_choose 0 [(0, .ref 16), (1, .int x1), (2, .int x2)] [] σ mc ms P := by
  refine ka_aload_n d_X2_choose_0 rfl rfl 0 rfl ?_
  refine ka_iload_n d_X2_choose_1 rfl rfl 2 rfl ?_
  refine pf_X2_1 d_X2_choose_2 rfl fl_X2_13 ?_
  refine ka_aload_n d_X2_choose_5 rfl rfl 0 rfl ?_
  refine ka_iload_n d_X2_choose_6 rfl rfl 1 rfl ?_
  refine ka_bipush (v := 8) d_X2_choose_7 rfl (by decide) ?_
  refine ka_icmp_ne (tgt := 16) d_X2_choose_9 (by decide) rfl (fun c1 => ?_) (fun c1 => ?_)
  · refine ka_iload_n d_X2_choose_16 rfl rfl 1 rfl ?_
    refine ka_bipush (v := 16) d_X2_choose_17 rfl (by decide) ?_
    refine ka_icmp_ne (tgt := 27) d_X2_choose_19 (by decide) rfl (fun c2 => ?_) (fun c2 => ?_)
    · refine ka_bipush (v := 23) d_X2_choose_27 rfl (by decide) ?_
      refine ka_sub [0, 1] rfl ?_
      exact (k3 c1 c2)
    · refine ka_bipush (v := 10) d_X2_choose_22 rfl (by decide) ?_
      refine ka_goto (q := 29) d_X2_choose_24 (by decide) ?_
      refine ka_sub [0, 1] rfl ?_
      exact (k4 c1 c2)
  · refine ka_iconst (v := 3) d_X2_choose_12 rfl (by decide) ?_
    refine ka_goto (q := 29) d_X2_choose_13 (by decide) ?_
    refine ka_sub [0, 1] rfl ?_
    exact (k5 c1)
theorem sg_X2_choose_29 {L : Nat} {xs : Nat → Int32} {σ : ks_St} {mc ms : Nat} {P : ka_O → ks_St → Prop} {x1 : Int32} {s1 : Int32}  (r1 : P (.inl none) (uj_ (ui_ (ui_ (ui_ σ 9 s1) 10 (((1 : Int32) <<< (((x1 - 1) - (si_ (ui_ σ 9 s1) 9)) &&& 31)) - 1)) 11 ((1 - (((1 : Int32) <<< ((((x1 - 1) - (si_ (ui_ σ 9 s1) 9)) - 1) &&& 31)) - 1)) - (si_ (ui_ (ui_ σ 9 s1) 10 (((1 : Int32) <<< (((x1 - 1) - (si_ (ui_ σ 9 s1) 9)) &&& 31)) - 1)) 9))) 0 ((1 : Int64) <<< (((x1 - 1)).toInt64 &&& 63)))) : ks_W L xs mX2_choose rm_X2_choose 29 [(0, .ref 16), (1, .int x1)] [.int s1, .ref 16] σ mc ms P := by
  refine pf_X2_2 d_X2_choose_29 rfl fl_X2_16 ?_
  refine ka_iload_n d_X2_choose_32 rfl rfl 1 rfl ?_
  refine ka_iconst (v := 1) d_X2_choose_33 rfl (by decide) ?_
  refine ka_isub d_X2_choose_34 rfl ?_
  refine ka_aload_n d_X2_choose_35 rfl rfl 0 rfl ?_
  refine gf_X2_2 d_X2_choose_36 rfl fl_X2_16 ?_
  refine ka_isub d_X2_choose_39 rfl ?_
  refine ka_istore_n (ls' := [(3, .int ((x1 - 1) - (si_ (ui_ σ 9 s1) 9))), (0, .ref 16), (1, .int x1)]) d_X2_choose_40 rfl rfl (by decide) rfl ?_
  refine ka_aload_n d_X2_choose_41 rfl rfl 1 rfl ?_
  refine ka_iconst (v := 1) d_X2_choose_42 rfl (by decide) ?_
  refine ka_iload_n d_X2_choose_43 rfl rfl 0 rfl ?_
  refine ka_ishl d_X2_choose_44 rfl ?_
  refine ka_iconst (v := 1) d_X2_choose_45 rfl (by decide) ?_
  refine ka_isub d_X2_choose_46 rfl ?_
  refine pf_X2_3 d_X2_choose_47 rfl fl_X2_19 ?_
  refine ka_iconst (v := 1) d_X2_choose_50 rfl (by decide) ?_
  refine ka_iload_n d_X2_choose_51 rfl rfl 0 rfl ?_
  refine ka_iconst (v := 1) d_X2_choose_52 rfl (by decide) ?_
  refine ka_isub d_X2_choose_53 rfl ?_
  refine ka_ishl d_X2_choose_54 rfl ?_
  refine ka_iconst (v := 1) d_X2_choose_55 rfl (by decide) ?_
  refine ka_isub d_X2_choose_56 rfl ?_
  refine ka_istore (ls' := [(4, .int (((1 : Int32) <<< ((((x1 - 1) - (si_ (ui_ σ 9 s1) 9)) - 1) &&& 31)) - 1)), (3, .int ((x1 - 1) - (si_ (ui_ σ 9 s1) 9))), (0, .ref 16), (1, .int x1)]) d_X2_choose_57 rfl (by decide) rfl ?_
  refine ka_aload_n d_X2_choose_59 rfl rfl 2 rfl ?_
  refine ka_iconst (v := 1) d_X2_choose_60 rfl (by decide) ?_
  refine ka_iload d_X2_choose_61 rfl 0 rfl ?_
  refine ka_isub d_X2_choose_63 rfl ?_
  refine ka_aload_n d_X2_choose_64 rfl rfl 2 rfl ?_
  refine gf_X2_2 d_X2_choose_65 rfl fl_X2_16 ?_
  refine ka_isub d_X2_choose_68 rfl ?_
  refine pf_X2_4 d_X2_choose_69 rfl fl_X2_22 ?_
  refine ka_aload_n d_X2_choose_72 rfl rfl 2 rfl ?_
  refine ka_lconst (v := 1) d_X2_choose_73 rfl (by decide) ?_
  refine ka_iload_n d_X2_choose_74 rfl rfl 3 rfl ?_
  refine ka_iconst (v := 1) d_X2_choose_75 rfl (by decide) ?_
  refine ka_isub d_X2_choose_76 rfl ?_
  refine ka_lshl d_X2_choose_77 rfl ?_
  refine pf_X2_5 d_X2_choose_78 rfl fl_X2_27 ?_
  exact ks_vret d_X2_choose_81 rfl r1
theorem d_X2_exponentOf_0 : decode cX2_exponentOf 0 = .ok (.lload_n 1, 1) := by decide +kernel
theorem d_X2_exponentOf_1 : decode cX2_exponentOf 1 = .ok (.aload_n 0, 1) := by decide +kernel
theorem d_X2_exponentOf_2 : decode cX2_exponentOf 2 = .ok (.getfield 16, 3) := by decide +kernel
theorem d_X2_exponentOf_5 : decode cX2_exponentOf 5 = .ok (.lushr, 1) := by decide +kernel
theorem d_X2_exponentOf_6 : decode cX2_exponentOf 6 = .ok (.l2i, 1) := by decide +kernel
theorem d_X2_exponentOf_7 : decode cX2_exponentOf 7 = .ok (.aload_n 0, 1) := by decide +kernel
theorem d_X2_exponentOf_8 : decode cX2_exponentOf 8 = .ok (.getfield 19, 3) := by decide +kernel
theorem d_X2_exponentOf_11 : decode cX2_exponentOf 11 = .ok (.iand, 1) := by decide +kernel
theorem d_X2_exponentOf_12 : decode cX2_exponentOf 12 = .ok (.ireturn, 1) := by decide +kernel
theorem sg_X2_exponentOf_0 {L : Nat} {xs : Nat → Int32} {σ : ks_St} {mc ms : Nat} {P : ka_O → ks_St → Prop} {x1 : Int64}  (r1 : P (.inl (some (.int (((((x1).toUInt64 >>> (((si_ σ 9)).toInt64.toUInt64 &&& Int64.toUInt64 63)).toInt64).toInt32) &&& (si_ σ 10))))) σ) : ks_W L xs mX2_exponentOf rm_X2_exponentOf 0 [(0, .ref 16), (1, .long x1)] [] σ mc ms P := by
  refine ka_lload_n d_X2_exponentOf_0 rfl rfl 1 rfl ?_
  refine ka_aload_n d_X2_exponentOf_1 rfl rfl 0 rfl ?_
  refine gf_X2_2 d_X2_exponentOf_2 rfl fl_X2_16 ?_
  refine ka_lushr d_X2_exponentOf_5 rfl ?_
  refine ka_l2i d_X2_exponentOf_6 rfl ?_
  refine ka_aload_n d_X2_exponentOf_7 rfl rfl 0 rfl ?_
  refine gf_X2_3 d_X2_exponentOf_8 rfl fl_X2_19 ?_
  refine ka_iand d_X2_exponentOf_11 rfl ?_
  exact ks_iret (ty := .int) d_X2_exponentOf_12 rfl rfl r1
theorem d_X2_fractionOf_0 : decode cX2_fractionOf 0 = .ok (.lload_n 1, 1) := by decide +kernel
theorem d_X2_fractionOf_1 : decode cX2_fractionOf 1 = .ok (.lconst 1, 1) := by decide +kernel
theorem d_X2_fractionOf_2 : decode cX2_fractionOf 2 = .ok (.aload_n 0, 1) := by decide +kernel
theorem d_X2_fractionOf_3 : decode cX2_fractionOf 3 = .ok (.getfield 16, 3) := by decide +kernel
theorem d_X2_fractionOf_6 : decode cX2_fractionOf 6 = .ok (.lshl, 1) := by decide +kernel
theorem d_X2_fractionOf_7 : decode cX2_fractionOf 7 = .ok (.lconst 1, 1) := by decide +kernel
theorem d_X2_fractionOf_8 : decode cX2_fractionOf 8 = .ok (.lsub, 1) := by decide +kernel
theorem d_X2_fractionOf_9 : decode cX2_fractionOf 9 = .ok (.land, 1) := by decide +kernel
theorem d_X2_fractionOf_10 : decode cX2_fractionOf 10 = .ok (.lreturn, 1) := by decide +kernel
theorem sg_X2_fractionOf_0 {L : Nat} {xs : Nat → Int32} {σ : ks_St} {mc ms : Nat} {P : ka_O → ks_St → Prop} {x1 : Int64}  (r1 : P (.inl (some (.long (x1 &&& (((1 : Int64) <<< (((si_ σ 9)).toInt64 &&& 63)) - 1))))) σ) : ks_W L xs mX2_fractionOf rm_X2_fractionOf 0 [(0, .ref 16), (1, .long x1)] [] σ mc ms P := by
  refine ka_lload_n d_X2_fractionOf_0 rfl rfl 1 rfl ?_
  refine ka_lconst (v := 1) d_X2_fractionOf_1 rfl (by decide) ?_
  refine ka_aload_n d_X2_fractionOf_2 rfl rfl 0 rfl ?_
  refine gf_X2_2 d_X2_fractionOf_3 rfl fl_X2_16 ?_
  refine ka_lshl d_X2_fractionOf_6 rfl ?_
  refine ka_lconst (v := 1) d_X2_fractionOf_7 rfl (by decide) ?_
  refine ka_lsub d_X2_fractionOf_8 rfl ?_
  refine ka_land d_X2_fractionOf_9 rfl ?_
  exact ks_lret d_X2_fractionOf_10 rfl r1
theorem d_X2_isNone_0 : decode cX2_isNone 0 = .ok (.aload_n 0, 1) := by decide +kernel
theorem d_X2_isNone_1 : decode cX2_isNone 1 = .ok (.lload_n 1, 1) := by decide +kernel
theorem d_X2_isNone_2 : decode cX2_isNone 2 = .ok (.invokevirtual 122, 3) := by decide +kernel
theorem d_X2_isNone_5 : decode cX2_isNone 5 = .ok (.aload_n 0, 1) := by decide +kernel
theorem d_X2_isNone_6 : decode cX2_isNone 6 = .ok (.getfield 19, 3) := by decide +kernel
theorem d_X2_isNone_9 : decode cX2_isNone 9 = .ok (.if_icmp .ne 17, 3) := by decide +kernel
theorem d_X2_isNone_12 : decode cX2_isNone 12 = .ok (.aload_n 0, 1) := by decide +kernel
theorem d_X2_isNone_13 : decode cX2_isNone 13 = .ok (.lload_n 1, 1) := by decide +kernel
theorem d_X2_isNone_14 : decode cX2_isNone 14 = .ok (.invokevirtual 125, 3) := by decide +kernel
theorem d_X2_isNone_17 : decode cX2_isNone 17 = .ok (.lconst 0, 1) := by decide +kernel
theorem d_X2_isNone_18 : decode cX2_isNone 18 = .ok (.lcmp, 1) := by decide +kernel
theorem d_X2_isNone_19 : decode cX2_isNone 19 = .ok (.ifCond .eq 7, 3) := by decide +kernel
theorem d_X2_isNone_22 : decode cX2_isNone 22 = .ok (.iconst 1, 1) := by decide +kernel
theorem d_X2_isNone_23 : decode cX2_isNone 23 = .ok (.goto 4, 3) := by decide +kernel
theorem d_X2_isNone_26 : decode cX2_isNone 26 = .ok (.iconst 0, 1) := by decide +kernel
theorem d_X2_isNone_27 : decode cX2_isNone 27 = .ok (.ireturn, 1) := by decide +kernel
theorem sg_X2_isNone_0 {L : Nat} {xs : Nat → Int32} {σ : ks_St} {mc ms : Nat} {P : ka_O → ks_St → Prop} {x1 : Int64}  (k1 : ks_W L xs mX2_isNone rm_X2_isNone 2 [(0, .ref 16), (1, .long x1)] [.long x1, .ref 16] σ mc ms P) : ks_W L xs mX2_isNone rm_X2_isNone 0 [(0, .ref 16), (1, .long x1)] [] σ mc ms P := by
  refine ka_aload_n d_X2_isNone_0 rfl rfl 0 rfl ?_
  refine ka_lload_n d_X2_isNone_1 rfl rfl 1 rfl ?_
  exact k1
theorem cs_X2_isNone_2 {L : Nat} {xs : Nat → Int32} {σ : ks_St} {mc ms : Nat} {P : ka_O → ks_St → Prop} {f : Int32 → ks_St → Prop} {x1 : Int64} {s1 : Int64} (hK : ks_M L xs mX2_exponentOf rm_X2_exponentOf [.ref 16, .long s1] σ (pi_ f)) (kr : ∀ r σ', f r σ' → ks_W L xs mX2_isNone rm_X2_isNone 5 [(0, .ref 16), (1, .long x1)] [.int r] σ' mc ms P) : ks_W L xs mX2_isNone rm_X2_isNone 2 [(0, .ref 16), (1, .long x1)] [.long s1, .ref 16] σ mc ms P := by
  refine ks_callV (q := 5) (o := 16) (ci := 3) (As := [.long s1]) (st := []) d_X2_isNone_2 rfl rfl (by decide) rfl rfl lk_X2_122 ⟨by decide, by decide⟩ (Nat.le_of_ble_eq_true rfl) ⟨Nat.le_refl _, Nat.le_refl _⟩ hK (fun v σ' hq => ?_) (fun E σ' hq => ?_)
  · obtain ⟨r, e, hf⟩ := hq; cases e; exact kr r σ' hf
  · obtain ⟨r, e, hf⟩ := hq; cases e
theorem sg_X2_isNone_5 {L : Nat} {xs : Nat → Int32} {σ : ks_St} {mc ms : Nat} {P : ka_O → ks_St → Prop} {x1 : Int64} {s0 : Int32}  (k2 : (¬ s0 = (si_ σ 10)) → ks_W L xs mX2_isNone rm_X2_isNone 26 [] [] σ mc ms P) (k3 : (s0 = (si_ σ 10)) → ks_W L xs mX2_isNone rm_X2_isNone 14 [] [.long x1, .ref 16] σ mc ms P) : ks_W L xs mX2_isNone rm_X2_isNone 5 [(0, .ref 16), (1, .long x1)] [.int s0] σ mc ms P := by
  refine ka_aload_n d_X2_isNone_5 rfl rfl 0 rfl ?_
  refine gf_X2_3 d_X2_isNone_6 rfl fl_X2_19 ?_
  refine ka_icmp_ne (tgt := 26) d_X2_isNone_9 (by decide) rfl (fun c1 => ?_) (fun c1 => ?_)
  · refine ka_sub [] rfl ?_
    exact (k2 c1)
  · refine ka_aload_n d_X2_isNone_12 rfl rfl 0 rfl ?_
    refine ka_lload_n d_X2_isNone_13 rfl rfl 1 rfl ?_
    refine ka_sub [] rfl ?_
    exact (k3 c1)
theorem cs_X2_isNone_14 {L : Nat} {xs : Nat → Int32} {σ : ks_St} {mc ms : Nat} {P : ka_O → ks_St → Prop} {f : Int64 → ks_St → Prop} {s1 : Int64} (hK : ks_M L xs mX2_fractionOf rm_X2_fractionOf [.ref 16, .long s1] σ (pl_ f)) (kr : ∀ r σ', f r σ' → ks_W L xs mX2_isNone rm_X2_isNone 17 [] [.long r] σ' mc ms P) : ks_W L xs mX2_isNone rm_X2_isNone 14 [] [.long s1, .ref 16] σ mc ms P := by
  refine ks_callV (q := 17) (o := 16) (ci := 3) (As := [.long s1]) (st := []) d_X2_isNone_14 rfl rfl (by decide) rfl rfl lk_X2_125 ⟨by decide, by decide⟩ (Nat.le_of_ble_eq_true rfl) ⟨Nat.le_refl _, Nat.le_refl _⟩ hK (fun v σ' hq => ?_) (fun E σ' hq => ?_)
  · obtain ⟨r, e, hf⟩ := hq; cases e; exact kr r σ' hf
  · obtain ⟨r, e, hf⟩ := hq; cases e
theorem sg_X2_isNone_17 {L : Nat} {xs : Nat → Int32} {σ : ks_St} {mc ms : Nat} {P : ka_O → ks_St → Prop} {s0 : Int64}  (k2 : ((lg_cmp s0 0) = 0) → ks_W L xs mX2_isNone rm_X2_isNone 26 [] [] σ mc ms P) (k3 : (¬ ((lg_cmp s0 0) = 0)) → ks_W L xs mX2_isNone rm_X2_isNone 27 [] [.int 1] σ mc ms P) : ks_W L xs mX2_isNone rm_X2_isNone 17 [] [.long s0] σ mc ms P := by
  refine ka_lconst (v := 0) d_X2_isNone_17 rfl (by decide) ?_
  refine ka_lcmp d_X2_isNone_18 rfl ?_
  refine ka_if_eq (tgt := 26) d_X2_isNone_19 (by decide) rfl (fun c1 => ?_) (fun c1 => ?_)
  · exact (k2 c1)
  · refine ka_iconst (v := 1) d_X2_isNone_22 rfl (by decide) ?_
    refine ka_goto (q := 27) d_X2_isNone_23 (by decide) ?_
    exact (k3 c1)
theorem sg_X2_isNone_26 {L : Nat} {xs : Nat → Int32} {σ : ks_St} {mc ms : Nat} {P : ka_O → ks_St → Prop}   (k1 : ks_W L xs mX2_isNone rm_X2_isNone 27 [] [.int 0] σ mc ms P) : ks_W L xs mX2_isNone rm_X2_isNone 26 [] [] σ mc ms P := by
  refine ka_iconst (v := 0) d_X2_isNone_26 rfl (by decide) ?_
  exact k1
theorem sg_X2_isNone_27 {L : Nat} {xs : Nat → Int32} {σ : ks_St} {mc ms : Nat} {P : ka_O → ks_St → Prop} {s0 : Int32}  (b1 : narrow .boolean (.int s0) = .int s0) (r2 : P (.inl (some (.int s0))) σ) : ks_W L xs mX2_isNone rm_X2_isNone 27 [] [.int s0] σ mc ms P := by
  exact ks_iret (ty := .boolean) d_X2_isNone_27 rfl b1 r2
theorem d_X2_withSign_0 : decode cX2_withSign 0 = .ok (.iload_n 1, 1) := by decide +kernel
theorem d_X2_withSign_1 : decode cX2_withSign 1 = .ok (.ifCond .eq 12, 3) := by decide +kernel
theorem d_X2_withSign_4 : decode cX2_withSign 4 = .ok (.lload_n 2, 1) := by decide +kernel
theorem d_X2_withSign_5 : decode cX2_withSign 5 = .ok (.aload_n 0, 1) := by decide +kernel
theorem d_X2_withSign_6 : decode cX2_withSign 6 = .ok (.getfield 27, 3) := by decide +kernel
theorem d_X2_withSign_9 : decode cX2_withSign 9 = .ok (.lor, 1) := by decide +kernel
theorem d_X2_withSign_10 : decode cX2_withSign 10 = .ok (.goto 4, 3) := by decide +kernel
theorem d_X2_withSign_13 : decode cX2_withSign 13 = .ok (.lload_n 2, 1) := by decide +kernel
theorem d_X2_withSign_14 : decode cX2_withSign 14 = .ok (.lreturn, 1) := by decide +kernel
theorem sg_X2_withSign_0 {L : Nat} {xs : Nat → Int32} {σ : ks_St} {mc ms : Nat} {P : ka_O → ks_St → Prop} {x1 : Int32} {x2 : Int64}  (k2 : (x1 = 0) → ks_W L xs mX2_withSign rm_X2_withSign 14 [] [.long x2] σ mc ms P) (k3 : (¬ (x1 = 0)) → ks_W L xs mX2_withSign rm_X2_withSign 14 [] [.long (x2 ||| (sj_ σ 0))] σ mc ms P) : ks_W L xs mX2_withSign rm_X2_withSign 0 [(0, .ref 16), (1, .int x1), (2, .long x2)] [] σ mc ms P := by
  refine ka_iload_n d_X2_withSign_0 rfl rfl 1 rfl ?_
  refine ka_if_eq (tgt := 13) d_X2_withSign_1 (by decide) rfl (fun c1 => ?_) (fun c1 => ?_)
  · refine ka_lload_n d_X2_withSign_13 rfl rfl 2 rfl ?_
    refine ka_sub [] rfl ?_
    exact (k2 c1)
  · refine ka_lload_n d_X2_withSign_4 rfl rfl 2 rfl ?_
    refine ka_aload_n d_X2_withSign_5 rfl rfl 0 rfl ?_
    refine gf_X2_5 d_X2_withSign_6 rfl fl_X2_27 ?_
    refine ka_lor d_X2_withSign_9 rfl ?_
    refine ka_goto (q := 14) d_X2_withSign_10 (by decide) ?_
    refine ka_sub [] rfl ?_
    exact (k3 c1)
theorem sg_X2_withSign_14 {L : Nat} {xs : Nat → Int32} {σ : ks_St} {mc ms : Nat} {P : ka_O → ks_St → Prop} {s0 : Int64}  (r1 : P (.inl (some (.long s0))) σ) : ks_W L xs mX2_withSign rm_X2_withSign 14 [] [.long s0] σ mc ms P := by
  exact ks_lret d_X2_withSign_14 rfl r1
theorem d_X2_infinite_0 : decode cX2_infinite 0 = .ok (.aload_n 0, 1) := by decide +kernel
theorem d_X2_infinite_1 : decode cX2_infinite 1 = .ok (.iload_n 1, 1) := by decide +kernel
theorem d_X2_infinite_2 : decode cX2_infinite 2 = .ok (.aload_n 0, 1) := by decide +kernel
theorem d_X2_infinite_3 : decode cX2_infinite 3 = .ok (.getfield 19, 3) := by decide +kernel
theorem d_X2_infinite_6 : decode cX2_infinite 6 = .ok (.i2l, 1) := by decide +kernel
theorem d_X2_infinite_7 : decode cX2_infinite 7 = .ok (.aload_n 0, 1) := by decide +kernel
theorem d_X2_infinite_8 : decode cX2_infinite 8 = .ok (.getfield 16, 3) := by decide +kernel
theorem d_X2_infinite_11 : decode cX2_infinite 11 = .ok (.lshl, 1) := by decide +kernel
theorem d_X2_infinite_12 : decode cX2_infinite 12 = .ok (.invokevirtual 82, 3) := by decide +kernel
theorem d_X2_infinite_15 : decode cX2_infinite 15 = .ok (.lreturn, 1) := by decide +kernel
theorem sg_X2_infinite_0 {L : Nat} {xs : Nat → Int32} {σ : ks_St} {mc ms : Nat} {P : ka_O → ks_St → Prop} {x1 : Int32}  (k1 : ks_W L xs mX2_infinite rm_X2_infinite 12 [] [.long (((si_ σ 10).toInt64) <<< (((si_ σ 9)).toInt64 &&& 63)), .int x1, .ref 16] σ mc ms P) : ks_W L xs mX2_infinite rm_X2_infinite 0 [(0, .ref 16), (1, .int x1)] [] σ mc ms P := by
  refine ka_aload_n d_X2_infinite_0 rfl rfl 0 rfl ?_
  refine ka_iload_n d_X2_infinite_1 rfl rfl 1 rfl ?_
  refine ka_aload_n d_X2_infinite_2 rfl rfl 0 rfl ?_
  refine gf_X2_3 d_X2_infinite_3 rfl fl_X2_19 ?_
  refine ka_i2l d_X2_infinite_6 rfl ?_
  refine ka_aload_n d_X2_infinite_7 rfl rfl 0 rfl ?_
  refine gf_X2_2 d_X2_infinite_8 rfl fl_X2_16 ?_
  refine ka_lshl d_X2_infinite_11 rfl ?_
  refine ka_sub [] rfl ?_
  exact k1
theorem cs_X2_infinite_12 {L : Nat} {xs : Nat → Int32} {σ : ks_St} {mc ms : Nat} {P : ka_O → ks_St → Prop} {f : Int64 → ks_St → Prop} {s1 : Int32} {s2 : Int64} (hK : ks_M L xs mX2_withSign rm_X2_withSign [.ref 16, .int s1, .long s2] σ (pl_ f)) (kr : ∀ r σ', f r σ' → ks_W L xs mX2_infinite rm_X2_infinite 15 [] [.long r] σ' mc ms P) : ks_W L xs mX2_infinite rm_X2_infinite 12 [] [.long s2, .int s1, .ref 16] σ mc ms P := by
  refine ks_callV (q := 15) (o := 16) (ci := 3) (As := [.int s1, .long s2]) (st := []) d_X2_infinite_12 rfl rfl (by decide) rfl rfl lk_X2_82 ⟨by decide, by decide⟩ (Nat.le_of_ble_eq_true rfl) ⟨Nat.le_refl _, Nat.le_refl _⟩ hK (fun v σ' hq => ?_) (fun E σ' hq => ?_)
  · obtain ⟨r, e, hf⟩ := hq; cases e; exact kr r σ' hf
  · obtain ⟨r, e, hf⟩ := hq; cases e
theorem sg_X2_infinite_15 {L : Nat} {xs : Nat → Int32} {σ : ks_St} {mc ms : Nat} {P : ka_O → ks_St → Prop} {s0 : Int64}  (r1 : P (.inl (some (.long s0))) σ) : ks_W L xs mX2_infinite rm_X2_infinite 15 [] [.long s0] σ mc ms P := by
  exact ks_lret d_X2_infinite_15 rfl r1
theorem d_X2_none_0 : decode cX2_none 0 = .ok (.aload_n 0, 1) := by decide +kernel
theorem d_X2_none_1 : decode cX2_none 1 = .ok (.iconst 0, 1) := by decide +kernel
theorem d_X2_none_2 : decode cX2_none 2 = .ok (.invokevirtual 78, 3) := by decide +kernel
theorem d_X2_none_5 : decode cX2_none 5 = .ok (.lconst 1, 1) := by decide +kernel
theorem d_X2_none_6 : decode cX2_none 6 = .ok (.aload_n 0, 1) := by decide +kernel
theorem d_X2_none_7 : decode cX2_none 7 = .ok (.getfield 16, 3) := by decide +kernel
theorem d_X2_none_10 : decode cX2_none 10 = .ok (.iconst 1, 1) := by decide +kernel
theorem d_X2_none_11 : decode cX2_none 11 = .ok (.isub, 1) := by decide +kernel
theorem d_X2_none_12 : decode cX2_none 12 = .ok (.lshl, 1) := by decide +kernel
theorem d_X2_none_13 : decode cX2_none 13 = .ok (.lor, 1) := by decide +kernel
theorem d_X2_none_14 : decode cX2_none 14 = .ok (.lreturn, 1) := by decide +kernel
theorem sg_X2_none_0 {L : Nat} {xs : Nat → Int32} {σ : ks_St} {mc ms : Nat} {P : ka_O → ks_St → Prop}   (k1 : ks_W L xs mX2_none rm_X2_none 2 [(0, .ref 16)] [.int 0, .ref 16] σ mc ms P) : ks_W L xs mX2_none rm_X2_none 0 [(0, .ref 16)] [] σ mc ms P := by
  refine ka_aload_n d_X2_none_0 rfl rfl 0 rfl ?_
  refine ka_iconst (v := 0) d_X2_none_1 rfl (by decide) ?_
  exact k1
theorem cs_X2_none_2 {L : Nat} {xs : Nat → Int32} {σ : ks_St} {mc ms : Nat} {P : ka_O → ks_St → Prop} {f : Int64 → ks_St → Prop} {s1 : Int32} (hK : ks_M L xs mX2_infinite rm_X2_infinite [.ref 16, .int s1] σ (pl_ f)) (kr : ∀ r σ', f r σ' → ks_W L xs mX2_none rm_X2_none 5 [(0, .ref 16)] [.long r] σ' mc ms P) : ks_W L xs mX2_none rm_X2_none 2 [(0, .ref 16)] [.int s1, .ref 16] σ mc ms P := by
  refine ks_callV (q := 5) (o := 16) (ci := 3) (As := [.int s1]) (st := []) d_X2_none_2 rfl rfl (by decide) rfl rfl lk_X2_78 ⟨by decide, by decide⟩ (Nat.le_of_ble_eq_true rfl) ⟨Nat.le_refl _, Nat.le_refl _⟩ hK (fun v σ' hq => ?_) (fun E σ' hq => ?_)
  · obtain ⟨r, e, hf⟩ := hq; cases e; exact kr r σ' hf
  · obtain ⟨r, e, hf⟩ := hq; cases e
theorem sg_X2_none_5 {L : Nat} {xs : Nat → Int32} {σ : ks_St} {mc ms : Nat} {P : ka_O → ks_St → Prop} {s0 : Int64}  (r1 : P (.inl (some (.long (s0 ||| ((1 : Int64) <<< ((((si_ σ 9) - 1)).toInt64 &&& 63)))))) σ) : ks_W L xs mX2_none rm_X2_none 5 [(0, .ref 16)] [.long s0] σ mc ms P := by
  refine ka_lconst (v := 1) d_X2_none_5 rfl (by decide) ?_
  refine ka_aload_n d_X2_none_6 rfl rfl 0 rfl ?_
  refine gf_X2_2 d_X2_none_7 rfl fl_X2_16 ?_
  refine ka_iconst (v := 1) d_X2_none_10 rfl (by decide) ?_
  refine ka_isub d_X2_none_11 rfl ?_
  refine ka_lshl d_X2_none_12 rfl ?_
  refine ka_lor d_X2_none_13 rfl ?_
  exact ks_lret d_X2_none_14 rfl r1
theorem d_X2_isInfinite_0 : decode cX2_isInfinite 0 = .ok (.aload_n 0, 1) := by decide +kernel
theorem d_X2_isInfinite_1 : decode cX2_isInfinite 1 = .ok (.lload_n 1, 1) := by decide +kernel
theorem d_X2_isInfinite_2 : decode cX2_isInfinite 2 = .ok (.invokevirtual 122, 3) := by decide +kernel
theorem d_X2_isInfinite_5 : decode cX2_isInfinite 5 = .ok (.aload_n 0, 1) := by decide +kernel
theorem d_X2_isInfinite_6 : decode cX2_isInfinite 6 = .ok (.getfield 19, 3) := by decide +kernel
theorem d_X2_isInfinite_9 : decode cX2_isInfinite 9 = .ok (.if_icmp .ne 17, 3) := by decide +kernel
theorem d_X2_isInfinite_12 : decode cX2_isInfinite 12 = .ok (.aload_n 0, 1) := by decide +kernel
theorem d_X2_isInfinite_13 : decode cX2_isInfinite 13 = .ok (.lload_n 1, 1) := by decide +kernel
theorem d_X2_isInfinite_14 : decode cX2_isInfinite 14 = .ok (.invokevirtual 125, 3) := by decide +kernel
theorem d_X2_isInfinite_17 : decode cX2_isInfinite 17 = .ok (.lconst 0, 1) := by decide +kernel
theorem d_X2_isInfinite_18 : decode cX2_isInfinite 18 = .ok (.lcmp, 1) := by decide +kernel
theorem d_X2_isInfinite_19 : decode cX2_isInfinite 19 = .ok (.ifCond .ne 7, 3) := by decide +kernel
theorem d_X2_isInfinite_22 : decode cX2_isInfinite 22 = .ok (.iconst 1, 1) := by decide +kernel
theorem d_X2_isInfinite_23 : decode cX2_isInfinite 23 = .ok (.goto 4, 3) := by decide +kernel
theorem d_X2_isInfinite_26 : decode cX2_isInfinite 26 = .ok (.iconst 0, 1) := by decide +kernel
theorem d_X2_isInfinite_27 : decode cX2_isInfinite 27 = .ok (.ireturn, 1) := by decide +kernel
theorem sg_X2_isInfinite_0 {L : Nat} {xs : Nat → Int32} {σ : ks_St} {mc ms : Nat} {P : ka_O → ks_St → Prop} {x1 : Int64}  (k1 : ks_W L xs mX2_isInfinite rm_X2_isInfinite 2 [(0, .ref 16), (1, .long x1)] [.long x1, .ref 16] σ mc ms P) : ks_W L xs mX2_isInfinite rm_X2_isInfinite 0 [(0, .ref 16), (1, .long x1)] [] σ mc ms P := by
  refine ka_aload_n d_X2_isInfinite_0 rfl rfl 0 rfl ?_
  refine ka_lload_n d_X2_isInfinite_1 rfl rfl 1 rfl ?_
  exact k1
theorem cs_X2_isInfinite_2 {L : Nat} {xs : Nat → Int32} {σ : ks_St} {mc ms : Nat} {P : ka_O → ks_St → Prop} {f : Int32 → ks_St → Prop} {x1 : Int64} {s1 : Int64} (hK : ks_M L xs mX2_exponentOf rm_X2_exponentOf [.ref 16, .long s1] σ (pi_ f)) (kr : ∀ r σ', f r σ' → ks_W L xs mX2_isInfinite rm_X2_isInfinite 5 [(0, .ref 16), (1, .long x1)] [.int r] σ' mc ms P) : ks_W L xs mX2_isInfinite rm_X2_isInfinite 2 [(0, .ref 16), (1, .long x1)] [.long s1, .ref 16] σ mc ms P := by
  refine ks_callV (q := 5) (o := 16) (ci := 3) (As := [.long s1]) (st := []) d_X2_isInfinite_2 rfl rfl (by decide) rfl rfl lk_X2_122 ⟨by decide, by decide⟩ (Nat.le_of_ble_eq_true rfl) ⟨Nat.le_refl _, Nat.le_refl _⟩ hK (fun v σ' hq => ?_) (fun E σ' hq => ?_)
  · obtain ⟨r, e, hf⟩ := hq; cases e; exact kr r σ' hf
  · obtain ⟨r, e, hf⟩ := hq; cases e
theorem sg_X2_isInfinite_5 {L : Nat} {xs : Nat → Int32} {σ : ks_St} {mc ms : Nat} {P : ka_O → ks_St → Prop} {x1 : Int64} {s0 : Int32}  (k2 : (¬ s0 = (si_ σ 10)) → ks_W L xs mX2_isInfinite rm_X2_isInfinite 26 [] [] σ mc ms P) (k3 : (s0 = (si_ σ 10)) → ks_W L xs mX2_isInfinite rm_X2_isInfinite 14 [] [.long x1, .ref 16] σ mc ms P) : ks_W L xs mX2_isInfinite rm_X2_isInfinite 5 [(0, .ref 16), (1, .long x1)] [.int s0] σ mc ms P := by
  refine ka_aload_n d_X2_isInfinite_5 rfl rfl 0 rfl ?_
  refine gf_X2_3 d_X2_isInfinite_6 rfl fl_X2_19 ?_
  refine ka_icmp_ne (tgt := 26) d_X2_isInfinite_9 (by decide) rfl (fun c1 => ?_) (fun c1 => ?_)
  · refine ka_sub [] rfl ?_
    exact (k2 c1)
  · refine ka_aload_n d_X2_isInfinite_12 rfl rfl 0 rfl ?_
    refine ka_lload_n d_X2_isInfinite_13 rfl rfl 1 rfl ?_
    refine ka_sub [] rfl ?_
    exact (k3 c1)
theorem cs_X2_isInfinite_14 {L : Nat} {xs : Nat → Int32} {σ : ks_St} {mc ms : Nat} {P : ka_O → ks_St → Prop} {f : Int64 → ks_St → Prop} {s1 : Int64} (hK : ks_M L xs mX2_fractionOf rm_X2_fractionOf [.ref 16, .long s1] σ (pl_ f)) (kr : ∀ r σ', f r σ' → ks_W L xs mX2_isInfinite rm_X2_isInfinite 17 [] [.long r] σ' mc ms P) : ks_W L xs mX2_isInfinite rm_X2_isInfinite 14 [] [.long s1, .ref 16] σ mc ms P := by
  refine ks_callV (q := 17) (o := 16) (ci := 3) (As := [.long s1]) (st := []) d_X2_isInfinite_14 rfl rfl (by decide) rfl rfl lk_X2_125 ⟨by decide, by decide⟩ (Nat.le_of_ble_eq_true rfl) ⟨Nat.le_refl _, Nat.le_refl _⟩ hK (fun v σ' hq => ?_) (fun E σ' hq => ?_)
  · obtain ⟨r, e, hf⟩ := hq; cases e; exact kr r σ' hf
  · obtain ⟨r, e, hf⟩ := hq; cases e
theorem sg_X2_isInfinite_17 {L : Nat} {xs : Nat → Int32} {σ : ks_St} {mc ms : Nat} {P : ka_O → ks_St → Prop} {s0 : Int64}  (k2 : (¬ (lg_cmp s0 0) = 0) → ks_W L xs mX2_isInfinite rm_X2_isInfinite 26 [] [] σ mc ms P) (k3 : ((lg_cmp s0 0) = 0) → ks_W L xs mX2_isInfinite rm_X2_isInfinite 27 [] [.int 1] σ mc ms P) : ks_W L xs mX2_isInfinite rm_X2_isInfinite 17 [] [.long s0] σ mc ms P := by
  refine ka_lconst (v := 0) d_X2_isInfinite_17 rfl (by decide) ?_
  refine ka_lcmp d_X2_isInfinite_18 rfl ?_
  refine ka_if_ne (tgt := 26) d_X2_isInfinite_19 (by decide) rfl (fun c1 => ?_) (fun c1 => ?_)
  · exact (k2 c1)
  · refine ka_iconst (v := 1) d_X2_isInfinite_22 rfl (by decide) ?_
    refine ka_goto (q := 27) d_X2_isInfinite_23 (by decide) ?_
    exact (k3 c1)
theorem sg_X2_isInfinite_26 {L : Nat} {xs : Nat → Int32} {σ : ks_St} {mc ms : Nat} {P : ka_O → ks_St → Prop}   (k1 : ks_W L xs mX2_isInfinite rm_X2_isInfinite 27 [] [.int 0] σ mc ms P) : ks_W L xs mX2_isInfinite rm_X2_isInfinite 26 [] [] σ mc ms P := by
  refine ka_iconst (v := 0) d_X2_isInfinite_26 rfl (by decide) ?_
  exact k1
theorem sg_X2_isInfinite_27 {L : Nat} {xs : Nat → Int32} {σ : ks_St} {mc ms : Nat} {P : ka_O → ks_St → Prop} {s0 : Int32}  (b1 : narrow .boolean (.int s0) = .int s0) (r2 : P (.inl (some (.int s0))) σ) : ks_W L xs mX2_isInfinite rm_X2_isInfinite 27 [] [.int s0] σ mc ms P := by
  exact ks_iret (ty := .boolean) d_X2_isInfinite_27 rfl b1 r2
theorem d_X2_isNought_0 : decode cX2_isNought 0 = .ok (.lload_n 1, 1) := by decide +kernel
theorem d_X2_isNought_1 : decode cX2_isNought 1 = .ok (.aload_n 0, 1) := by decide +kernel
theorem d_X2_isNought_2 : decode cX2_isNought 2 = .ok (.getfield 27, 3) := by decide +kernel
theorem d_X2_isNought_5 : decode cX2_isNought 5 = .ok (.ldc2_w 128, 3) := by decide +kernel
theorem d_X2_isNought_8 : decode cX2_isNought 8 = .ok (.lxor, 1) := by decide +kernel
theorem d_X2_isNought_9 : decode cX2_isNought 9 = .ok (.land, 1) := by decide +kernel
theorem d_X2_isNought_10 : decode cX2_isNought 10 = .ok (.lconst 0, 1) := by decide +kernel
theorem d_X2_isNought_11 : decode cX2_isNought 11 = .ok (.lcmp, 1) := by decide +kernel
theorem d_X2_isNought_12 : decode cX2_isNought 12 = .ok (.ifCond .ne 7, 3) := by decide +kernel
theorem d_X2_isNought_15 : decode cX2_isNought 15 = .ok (.iconst 1, 1) := by decide +kernel
theorem d_X2_isNought_16 : decode cX2_isNought 16 = .ok (.goto 4, 3) := by decide +kernel
theorem d_X2_isNought_19 : decode cX2_isNought 19 = .ok (.iconst 0, 1) := by decide +kernel
theorem d_X2_isNought_20 : decode cX2_isNought 20 = .ok (.ireturn, 1) := by decide +kernel
theorem sg_X2_isNought_0 {L : Nat} {xs : Nat → Int32} {σ : ks_St} {mc ms : Nat} {P : ka_O → ks_St → Prop} {x1 : Int64}  (k2 : (¬ (lg_cmp (x1 &&& ((sj_ σ 0) ^^^ ((-1)))) 0) = 0) → ks_W L xs mX2_isNought rm_X2_isNought 20 [] [.int 0] σ mc ms P) (k3 : ((lg_cmp (x1 &&& ((sj_ σ 0) ^^^ ((-1)))) 0) = 0) → ks_W L xs mX2_isNought rm_X2_isNought 20 [] [.int 1] σ mc ms P) : ks_W L xs mX2_isNought rm_X2_isNought 0 [(0, .ref 16), (1, .long x1)] [] σ mc ms P := by
  refine ka_lload_n d_X2_isNought_0 rfl rfl 1 rfl ?_
  refine ka_aload_n d_X2_isNought_1 rfl rfl 0 rfl ?_
  refine gf_X2_5 d_X2_isNought_2 rfl fl_X2_27 ?_
  refine ka_ldc2 (v := -1) d_X2_isNought_5 rfl kl_X2_128 ?_
  refine ka_lxor d_X2_isNought_8 rfl ?_
  refine ka_land d_X2_isNought_9 rfl ?_
  refine ka_lconst (v := 0) d_X2_isNought_10 rfl (by decide) ?_
  refine ka_lcmp d_X2_isNought_11 rfl ?_
  refine ka_if_ne (tgt := 19) d_X2_isNought_12 (by decide) rfl (fun c1 => ?_) (fun c1 => ?_)
  · refine ka_iconst (v := 0) d_X2_isNought_19 rfl (by decide) ?_
    refine ka_sub [] rfl ?_
    exact (k2 c1)
  · refine ka_iconst (v := 1) d_X2_isNought_15 rfl (by decide) ?_
    refine ka_goto (q := 20) d_X2_isNought_16 (by decide) ?_
    refine ka_sub [] rfl ?_
    exact (k3 c1)
theorem sg_X2_isNought_20 {L : Nat} {xs : Nat → Int32} {σ : ks_St} {mc ms : Nat} {P : ka_O → ks_St → Prop} {s0 : Int32}  (b1 : narrow .boolean (.int s0) = .int s0) (r2 : P (.inl (some (.int s0))) σ) : ks_W L xs mX2_isNought rm_X2_isNought 20 [] [.int s0] σ mc ms P := by
  exact ks_iret (ty := .boolean) d_X2_isNought_20 rfl b1 r2
theorem d_X2_signOf_0 : decode cX2_signOf 0 = .ok (.lload_n 1, 1) := by decide +kernel
theorem d_X2_signOf_1 : decode cX2_signOf 1 = .ok (.aload_n 0, 1) := by decide +kernel
theorem d_X2_signOf_2 : decode cX2_signOf 2 = .ok (.getfield 27, 3) := by decide +kernel
theorem d_X2_signOf_5 : decode cX2_signOf 5 = .ok (.land, 1) := by decide +kernel
theorem d_X2_signOf_6 : decode cX2_signOf 6 = .ok (.lconst 0, 1) := by decide +kernel
theorem d_X2_signOf_7 : decode cX2_signOf 7 = .ok (.lcmp, 1) := by decide +kernel
theorem d_X2_signOf_8 : decode cX2_signOf 8 = .ok (.ifCond .eq 7, 3) := by decide +kernel
theorem d_X2_signOf_11 : decode cX2_signOf 11 = .ok (.iconst 1, 1) := by decide +kernel
theorem d_X2_signOf_12 : decode cX2_signOf 12 = .ok (.goto 4, 3) := by decide +kernel
theorem d_X2_signOf_15 : decode cX2_signOf 15 = .ok (.iconst 0, 1) := by decide +kernel
theorem d_X2_signOf_16 : decode cX2_signOf 16 = .ok (.ireturn, 1) := by decide +kernel
theorem sg_X2_signOf_0 {L : Nat} {xs : Nat → Int32} {σ : ks_St} {mc ms : Nat} {P : ka_O → ks_St → Prop} {x1 : Int64}  (k2 : ((lg_cmp (x1 &&& (sj_ σ 0)) 0) = 0) → ks_W L xs mX2_signOf rm_X2_signOf 16 [] [.int 0] σ mc ms P) (k3 : (¬ ((lg_cmp (x1 &&& (sj_ σ 0)) 0) = 0)) → ks_W L xs mX2_signOf rm_X2_signOf 16 [] [.int 1] σ mc ms P) : ks_W L xs mX2_signOf rm_X2_signOf 0 [(0, .ref 16), (1, .long x1)] [] σ mc ms P := by
  refine ka_lload_n d_X2_signOf_0 rfl rfl 1 rfl ?_
  refine ka_aload_n d_X2_signOf_1 rfl rfl 0 rfl ?_
  refine gf_X2_5 d_X2_signOf_2 rfl fl_X2_27 ?_
  refine ka_land d_X2_signOf_5 rfl ?_
  refine ka_lconst (v := 0) d_X2_signOf_6 rfl (by decide) ?_
  refine ka_lcmp d_X2_signOf_7 rfl ?_
  refine ka_if_eq (tgt := 15) d_X2_signOf_8 (by decide) rfl (fun c1 => ?_) (fun c1 => ?_)
  · refine ka_iconst (v := 0) d_X2_signOf_15 rfl (by decide) ?_
    refine ka_sub [] rfl ?_
    exact (k2 c1)
  · refine ka_iconst (v := 1) d_X2_signOf_11 rfl (by decide) ?_
    refine ka_goto (q := 16) d_X2_signOf_12 (by decide) ?_
    refine ka_sub [] rfl ?_
    exact (k3 c1)
theorem sg_X2_signOf_16 {L : Nat} {xs : Nat → Int32} {σ : ks_St} {mc ms : Nat} {P : ka_O → ks_St → Prop} {s0 : Int32}  (b1 : narrow .boolean (.int s0) = .int s0) (r2 : P (.inl (some (.int s0))) σ) : ks_W L xs mX2_signOf rm_X2_signOf 16 [] [.int s0] σ mc ms P := by
  exact ks_iret (ty := .boolean) d_X2_signOf_16 rfl b1 r2
theorem d_X2_notValid_0 : decode cX2_notValid 0 = .ok (.aload_n 0, 1) := by decide +kernel
theorem d_X2_notValid_1 : decode cX2_notValid 1 = .ok (.iconst 1, 1) := by decide +kernel
theorem d_X2_notValid_2 : decode cX2_notValid 2 = .ok (.putfield 7, 3) := by decide +kernel
theorem d_X2_notValid_5 : decode cX2_notValid 5 = .ok (.aload_n 0, 1) := by decide +kernel
theorem d_X2_notValid_6 : decode cX2_notValid 6 = .ok (.invokevirtual 45, 3) := by decide +kernel
theorem d_X2_notValid_9 : decode cX2_notValid 9 = .ok (.lreturn, 1) := by decide +kernel
theorem sg_X2_notValid_0 {L : Nat} {xs : Nat → Int32} {σ : ks_St} {mc ms : Nat} {P : ka_O → ks_St → Prop}   (k1 : ks_W L xs mX2_notValid rm_X2_notValid 6 [] [.ref 16] (ui_ σ 7 1) mc ms P) : ks_W L xs mX2_notValid rm_X2_notValid 0 [(0, .ref 16)] [] σ mc ms P := by
  refine ka_aload_n d_X2_notValid_0 rfl rfl 0 rfl ?_
  refine ka_iconst (v := 1) d_X2_notValid_1 rfl (by decide) ?_
  refine pf_X2_0 d_X2_notValid_2 rfl fl_X2_7 ?_
  refine ka_aload_n d_X2_notValid_5 rfl rfl 0 rfl ?_
  refine ka_sub [] rfl ?_
  exact k1
theorem cs_X2_notValid_6 {L : Nat} {xs : Nat → Int32} {σ : ks_St} {mc ms : Nat} {P : ka_O → ks_St → Prop} {f : Int64 → ks_St → Prop}  (hK : ks_M L xs mX2_none rm_X2_none [.ref 16] σ (pl_ f)) (kr : ∀ r σ', f r σ' → ks_W L xs mX2_notValid rm_X2_notValid 9 [] [.long r] σ' mc ms P) : ks_W L xs mX2_notValid rm_X2_notValid 6 [] [.ref 16] σ mc ms P := by
  refine ks_callV (q := 9) (o := 16) (ci := 3) (As := []) (st := []) d_X2_notValid_6 rfl rfl (by decide) rfl rfl lk_X2_45 ⟨by decide, by decide⟩ (Nat.le_of_ble_eq_true rfl) ⟨Nat.le_refl _, Nat.le_refl _⟩ hK (fun v σ' hq => ?_) (fun E σ' hq => ?_)
  · obtain ⟨r, e, hf⟩ := hq; cases e; exact kr r σ' hf
  · obtain ⟨r, e, hf⟩ := hq; cases e
theorem sg_X2_notValid_9 {L : Nat} {xs : Nat → Int32} {σ : ks_St} {mc ms : Nat} {P : ka_O → ks_St → Prop} {s0 : Int64}  (r1 : P (.inl (some (.long s0))) σ) : ks_W L xs mX2_notValid rm_X2_notValid 9 [] [.long s0] σ mc ms P := by
  exact ks_lret d_X2_notValid_9 rfl r1
theorem d_X2_withoutRounding_0 : decode cX2_withoutRounding 0 = .ok (.aload_n 0, 1) := by decide +kernel
theorem d_X2_withoutRounding_1 : decode cX2_withoutRounding 1 = .ok (.lload_n 2, 1) := by decide +kernel
theorem d_X2_withoutRounding_2 : decode cX2_withoutRounding 2 = .ok (.invokevirtual 72, 3) := by decide +kernel
theorem d_X2_withoutRounding_5 : decode cX2_withoutRounding 5 = .ok (.aload_n 0, 1) := by decide +kernel
theorem d_X2_withoutRounding_6 : decode cX2_withoutRounding 6 = .ok (.lload 4, 2) := by decide +kernel
theorem d_X2_withoutRounding_8 : decode cX2_withoutRounding 8 = .ok (.invokevirtual 72, 3) := by decide +kernel
theorem d_X2_withoutRounding_11 : decode cX2_withoutRounding 11 = .ok (.if_icmp .eq 7, 3) := by decide +kernel
theorem d_X2_withoutRounding_14 : decode cX2_withoutRounding 14 = .ok (.iconst 1, 1) := by decide +kernel
theorem d_X2_withoutRounding_15 : decode cX2_withoutRounding 15 = .ok (.goto 4, 3) := by decide +kernel
theorem d_X2_withoutRounding_18 : decode cX2_withoutRounding 18 = .ok (.iconst 0, 1) := by decide +kernel
theorem d_X2_withoutRounding_19 : decode cX2_withoutRounding 19 = .ok (.istore 6, 2) := by decide +kernel
theorem d_X2_withoutRounding_21 : decode cX2_withoutRounding 21 = .ok (.aload_n 0, 1) := by decide +kernel
theorem d_X2_withoutRounding_22 : decode cX2_withoutRounding 22 = .ok (.lload_n 2, 1) := by decide +kernel
theorem d_X2_withoutRounding_23 : decode cX2_withoutRounding 23 = .ok (.invokevirtual 49, 3) := by decide +kernel
theorem d_X2_withoutRounding_26 : decode cX2_withoutRounding 26 = .ok (.ifCond .eq 16, 3) := by decide +kernel
theorem d_X2_withoutRounding_29 : decode cX2_withoutRounding 29 = .ok (.aload_n 0, 1) := by decide +kernel
theorem d_X2_withoutRounding_30 : decode cX2_withoutRounding 30 = .ok (.lload 4, 2) := by decide +kernel
theorem d_X2_withoutRounding_32 : decode cX2_withoutRounding 32 = .ok (.invokevirtual 49, 3) := by decide +kernel
theorem d_X2_withoutRounding_35 : decode cX2_withoutRounding 35 = .ok (.ifCond .eq 7, 3) := by decide +kernel
theorem d_X2_withoutRounding_38 : decode cX2_withoutRounding 38 = .ok (.iconst 1, 1) := by decide +kernel
theorem d_X2_withoutRounding_39 : decode cX2_withoutRounding 39 = .ok (.goto 4, 3) := by decide +kernel
theorem d_X2_withoutRounding_42 : decode cX2_withoutRounding 42 = .ok (.iconst 0, 1) := by decide +kernel
theorem d_X2_withoutRounding_43 : decode cX2_withoutRounding 43 = .ok (.istore 7, 2) := by decide +kernel
theorem d_X2_withoutRounding_45 : decode cX2_withoutRounding 45 = .ok (.iload_n 1, 1) := by decide +kernel
theorem d_X2_withoutRounding_46 : decode cX2_withoutRounding 46 = .ok (.iconst 1, 1) := by decide +kernel
theorem d_X2_withoutRounding_47 : decode cX2_withoutRounding 47 = .ok (.if_icmp .gt 39, 3) := by decide +kernel
theorem d_X2_withoutRounding_50 : decode cX2_withoutRounding 50 = .ok (.aload_n 0, 1) := by decide +kernel
theorem d_X2_withoutRounding_51 : decode cX2_withoutRounding 51 = .ok (.lload_n 2, 1) := by decide +kernel
theorem d_X2_withoutRounding_52 : decode cX2_withoutRounding 52 = .ok (.invokevirtual 49, 3) := by decide +kernel
theorem d_X2_withoutRounding_55 : decode cX2_withoutRounding 55 = .ok (.ifCond .eq 7, 3) := by decide +kernel
theorem d_X2_withoutRounding_58 : decode cX2_withoutRounding 58 = .ok (.lload_n 2, 1) := by decide +kernel
theorem d_X2_withoutRounding_59 : decode cX2_withoutRounding 59 = .ok (.goto 5, 3) := by decide +kernel
theorem d_X2_withoutRounding_62 : decode cX2_withoutRounding 62 = .ok (.lload 4, 2) := by decide +kernel
theorem d_X2_withoutRounding_64 : decode cX2_withoutRounding 64 = .ok (.lstore 8, 2) := by decide +kernel
theorem d_X2_withoutRounding_66 : decode cX2_withoutRounding 66 = .ok (.iload 7, 2) := by decide +kernel
theorem d_X2_withoutRounding_68 : decode cX2_withoutRounding 68 = .ok (.ifCond .eq 15, 3) := by decide +kernel
theorem d_X2_withoutRounding_71 : decode cX2_withoutRounding 71 = .ok (.iload 6, 2) := by decide +kernel
theorem d_X2_withoutRounding_73 : decode cX2_withoutRounding 73 = .ok (.ifCond .eq 10, 3) := by decide +kernel
theorem d_X2_withoutRounding_76 : decode cX2_withoutRounding 76 = .ok (.aload_n 0, 1) := by decide +kernel
theorem d_X2_withoutRounding_77 : decode cX2_withoutRounding 77 = .ok (.invokevirtual 75, 3) := by decide +kernel
theorem d_X2_withoutRounding_80 : decode cX2_withoutRounding 80 = .ok (.goto 5, 3) := by decide +kernel
theorem d_X2_withoutRounding_83 : decode cX2_withoutRounding 83 = .ok (.lload 8, 2) := by decide +kernel
theorem d_X2_withoutRounding_85 : decode cX2_withoutRounding 85 = .ok (.lreturn, 1) := by decide +kernel
theorem d_X2_withoutRounding_86 : decode cX2_withoutRounding 86 = .ok (.iload_n 1, 1) := by decide +kernel
theorem d_X2_withoutRounding_87 : decode cX2_withoutRounding 87 = .ok (.iconst 2, 1) := by decide +kernel
theorem d_X2_withoutRounding_88 : decode cX2_withoutRounding 88 = .ok (.if_icmp .ne 34, 3) := by decide +kernel
theorem d_X2_withoutRounding_91 : decode cX2_withoutRounding 91 = .ok (.aload_n 0, 1) := by decide +kernel
theorem d_X2_withoutRounding_92 : decode cX2_withoutRounding 92 = .ok (.lload_n 2, 1) := by decide +kernel
theorem d_X2_withoutRounding_93 : decode cX2_withoutRounding 93 = .ok (.invokevirtual 52, 3) := by decide +kernel
theorem d_X2_withoutRounding_96 : decode cX2_withoutRounding 96 = .ok (.ifCond .ne 12, 3) := by decide +kernel
theorem d_X2_withoutRounding_99 : decode cX2_withoutRounding 99 = .ok (.aload_n 0, 1) := by decide +kernel
theorem d_X2_withoutRounding_100 : decode cX2_withoutRounding 100 = .ok (.lload 4, 2) := by decide +kernel
theorem d_X2_withoutRounding_102 : decode cX2_withoutRounding 102 = .ok (.invokevirtual 52, 3) := by decide +kernel
theorem d_X2_withoutRounding_105 : decode cX2_withoutRounding 105 = .ok (.ifCond .eq 10, 3) := by decide +kernel
theorem d_X2_withoutRounding_108 : decode cX2_withoutRounding 108 = .ok (.aload_n 0, 1) := by decide +kernel
theorem d_X2_withoutRounding_109 : decode cX2_withoutRounding 109 = .ok (.invokevirtual 75, 3) := by decide +kernel
theorem d_X2_withoutRounding_112 : decode cX2_withoutRounding 112 = .ok (.goto 9, 3) := by decide +kernel
theorem d_X2_withoutRounding_115 : decode cX2_withoutRounding 115 = .ok (.aload_n 0, 1) := by decide +kernel
theorem d_X2_withoutRounding_116 : decode cX2_withoutRounding 116 = .ok (.iload 6, 2) := by decide +kernel
theorem d_X2_withoutRounding_118 : decode cX2_withoutRounding 118 = .ok (.invokevirtual 78, 3) := by decide +kernel
theorem d_X2_withoutRounding_121 : decode cX2_withoutRounding 121 = .ok (.lreturn, 1) := by decide +kernel
theorem d_X2_withoutRounding_122 : decode cX2_withoutRounding 122 = .ok (.iload 7, 2) := by decide +kernel
theorem d_X2_withoutRounding_124 : decode cX2_withoutRounding 124 = .ok (.ifCond .ne 20, 3) := by decide +kernel
theorem d_X2_withoutRounding_127 : decode cX2_withoutRounding 127 = .ok (.aload_n 0, 1) := by decide +kernel
theorem d_X2_withoutRounding_128 : decode cX2_withoutRounding 128 = .ok (.lload_n 2, 1) := by decide +kernel
theorem d_X2_withoutRounding_129 : decode cX2_withoutRounding 129 = .ok (.invokevirtual 52, 3) := by decide +kernel
theorem d_X2_withoutRounding_132 : decode cX2_withoutRounding 132 = .ok (.ifCond .eq 17, 3) := by decide +kernel
theorem d_X2_withoutRounding_135 : decode cX2_withoutRounding 135 = .ok (.aload_n 0, 1) := by decide +kernel
theorem d_X2_withoutRounding_136 : decode cX2_withoutRounding 136 = .ok (.lload 4, 2) := by decide +kernel
theorem d_X2_withoutRounding_138 : decode cX2_withoutRounding 138 = .ok (.invokevirtual 52, 3) := by decide +kernel
theorem d_X2_withoutRounding_141 : decode cX2_withoutRounding 141 = .ok (.ifCond .eq 8, 3) := by decide +kernel
theorem d_X2_withoutRounding_144 : decode cX2_withoutRounding 144 = .ok (.aload_n 0, 1) := by decide +kernel
theorem d_X2_withoutRounding_145 : decode cX2_withoutRounding 145 = .ok (.invokevirtual 75, 3) := by decide +kernel
theorem d_X2_withoutRounding_148 : decode cX2_withoutRounding 148 = .ok (.lreturn, 1) := by decide +kernel
theorem d_X2_withoutRounding_149 : decode cX2_withoutRounding 149 = .ok (.aload_n 0, 1) := by decide +kernel
theorem d_X2_withoutRounding_150 : decode cX2_withoutRounding 150 = .ok (.lload 4, 2) := by decide +kernel
theorem d_X2_withoutRounding_152 : decode cX2_withoutRounding 152 = .ok (.invokevirtual 49, 3) := by decide +kernel
theorem d_X2_withoutRounding_155 : decode cX2_withoutRounding 155 = .ok (.ifCond .eq 11, 3) := by decide +kernel
theorem d_X2_withoutRounding_158 : decode cX2_withoutRounding 158 = .ok (.aload_n 0, 1) := by decide +kernel
theorem d_X2_withoutRounding_159 : decode cX2_withoutRounding 159 = .ok (.iload 6, 2) := by decide +kernel
theorem d_X2_withoutRounding_161 : decode cX2_withoutRounding 161 = .ok (.lconst 0, 1) := by decide +kernel
theorem d_X2_withoutRounding_162 : decode cX2_withoutRounding 162 = .ok (.invokevirtual 82, 3) := by decide +kernel
theorem d_X2_withoutRounding_165 : decode cX2_withoutRounding 165 = .ok (.lreturn, 1) := by decide +kernel
theorem d_X2_withoutRounding_166 : decode cX2_withoutRounding 166 = .ok (.aload_n 0, 1) := by decide +kernel
theorem d_X2_withoutRounding_167 : decode cX2_withoutRounding 167 = .ok (.aload_n 0, 1) := by decide +kernel
theorem d_X2_withoutRounding_168 : decode cX2_withoutRounding 168 = .ok (.lload_n 2, 1) := by decide +kernel
theorem d_X2_withoutRounding_169 : decode cX2_withoutRounding 169 = .ok (.invokevirtual 49, 3) := by decide +kernel
theorem d_X2_withoutRounding_172 : decode cX2_withoutRounding 172 = .ok (.ifCond .eq 7, 3) := by decide +kernel
theorem d_X2_withoutRounding_175 : decode cX2_withoutRounding 175 = .ok (.iconst 0, 1) := by decide +kernel
theorem d_X2_withoutRounding_176 : decode cX2_withoutRounding 176 = .ok (.goto 4, 3) := by decide +kernel
theorem d_X2_withoutRounding_179 : decode cX2_withoutRounding 179 = .ok (.iconst 2, 1) := by decide +kernel
theorem d_X2_withoutRounding_180 : decode cX2_withoutRounding 180 = .ok (.putfield 7, 3) := by decide +kernel
theorem d_X2_withoutRounding_183 : decode cX2_withoutRounding 183 = .ok (.aload_n 0, 1) := by decide +kernel
theorem d_X2_withoutRounding_184 : decode cX2_withoutRounding 184 = .ok (.iload 6, 2) := by decide +kernel
theorem d_X2_withoutRounding_186 : decode cX2_withoutRounding 186 = .ok (.invokevirtual 78, 3) := by decide +kernel
theorem d_X2_withoutRounding_189 : decode cX2_withoutRounding 189 = .ok (.lreturn, 1) := by decide +kernel
theorem sg_X2_withoutRounding_0 {L : Nat} {xs : Nat → Int32} {σ : ks_St} {mc ms : Nat} {P : ka_O → ks_St → Prop} {x1 : Int32} {x2 : Int64} {x4 : Int64}  (k1 : ks_W L xs mX2_withoutRounding rm_X2_withoutRounding 2 [(0, .ref 16), (1, .int x1), (2, .long x2), (4, .long x4)] [.long x2, .ref 16] σ mc ms P) : ks_W L xs mX2_withoutRounding rm_X2_withoutRounding 0 [(0, .ref 16), (1, .int x1), (2, .long x2), (4, .long x4)] [] σ mc ms P := by
  refine ka_aload_n d_X2_withoutRounding_0 rfl rfl 0 rfl ?_
  refine ka_lload_n d_X2_withoutRounding_1 rfl rfl 2 rfl ?_
  exact k1
theorem cs_X2_withoutRounding_2 {L : Nat} {xs : Nat → Int32} {σ : ks_St} {mc ms : Nat} {P : ka_O → ks_St → Prop} {f : Int32 → ks_St → Prop} {x1 : Int32} {x2 : Int64} {x4 : Int64} {s1 : Int64} (hK : ks_M L xs mX2_signOf rm_X2_signOf [.ref 16, .long s1] σ (pi_ f)) (kr : ∀ r σ', f r σ' → ks_W L xs mX2_withoutRounding rm_X2_withoutRounding 5 [(0, .ref 16), (1, .int x1), (2, .long x2), (4, .long x4)] [.int r] σ' mc ms P) : ks_W L xs mX2_withoutRounding rm_X2_withoutRounding 2 [(0, .ref 16), (1, .int x1), (2, .long x2), (4, .long x4)] [.long s1, .ref 16] σ mc ms P := by
  refine ks_callV (q := 5) (o := 16) (ci := 3) (As := [.long s1]) (st := []) d_X2_withoutRounding_2 rfl rfl (by decide) rfl rfl lk_X2_72 ⟨by decide, by decide⟩ (Nat.le_of_ble_eq_true rfl) ⟨Nat.le_refl _, Nat.le_refl _⟩ hK (fun v σ' hq => ?_) (fun E σ' hq => ?_)
  · obtain ⟨r, e, hf⟩ := hq; cases e; exact kr r σ' hf
  · obtain ⟨r, e, hf⟩ := hq; cases e
theorem sg_X2_withoutRounding_5 {L : Nat} {xs : Nat → Int32} {σ : ks_St} {mc ms : Nat} {P : ka_O → ks_St → Prop} {x1 : Int32} {x2 : Int64} {x4 : Int64} {s0 : Int32}  (k1 : ks_W L xs mX2_withoutRounding rm_X2_withoutRounding 8 [(0, .ref 16), (1, .int x1), (2, .long x2), (4, .long x4)] [.long x4, .ref 16, .int s0] σ mc ms P) : ks_W L xs mX2_withoutRounding rm_X2_withoutRounding 5 [(0, .ref 16), (1, .int x1), (2, .long x2), (4, .long x4)] [.int s0] σ mc ms P := by
  refine ka_aload_n d_X2_withoutRounding_5 rfl rfl 0 rfl ?_
  refine ka_lload d_X2_withoutRounding_6 rfl 3 rfl ?_
  exact k1
theorem cs_X2_withoutRounding_8 {L : Nat} {xs : Nat → Int32} {σ : ks_St} {mc ms : Nat} {P : ka_O → ks_St → Prop} {f : Int32 → ks_St → Prop} {x1 : Int32} {x2 : Int64} {x4 : Int64} {s0 : Int32} {s2 : Int64} (hK : ks_M L xs mX2_signOf rm_X2_signOf [.ref 16, .long s2] σ (pi_ f)) (kr : ∀ r σ', f r σ' → ks_W L xs mX2_withoutRounding rm_X2_withoutRounding 11 [(0, .ref 16), (1, .int x1), (2, .long x2), (4, .long x4)] [.int r, .int s0] σ' mc ms P) : ks_W L xs mX2_withoutRounding rm_X2_withoutRounding 8 [(0, .ref 16), (1, .int x1), (2, .long x2), (4, .long x4)] [.long s2, .ref 16, .int s0] σ mc ms P := by
  refine ks_callV (q := 11) (o := 16) (ci := 3) (As := [.long s2]) (st := [.int s0]) d_X2_withoutRounding_8 rfl rfl (by decide) rfl rfl lk_X2_72 ⟨by decide, by decide⟩ (Nat.le_of_ble_eq_true rfl) ⟨Nat.le_refl _, Nat.le_refl _⟩ hK (fun v σ' hq => ?_) (fun E σ' hq => ?_)
  · obtain ⟨r, e, hf⟩ := hq; cases e; exact kr r σ' hf
  · obtain ⟨r, e, hf⟩ := hq; cases e
theorem sg_X2_withoutRounding_11 {L : Nat} {xs : Nat → Int32} {σ : ks_St} {mc ms : Nat} {P : ka_O → ks_St → Prop} {x1 : Int32} {x2 : Int64} {x4 : Int64} {s0 : Int32} {s1 : Int32}  (k2 : (s0 = s1) → ks_W L xs mX2_withoutRounding rm_X2_withoutRounding 19 [(0, .ref 16), (1, .int x1), (2, .long x2), (4, .long x4)] [.int 0] σ mc ms P) (k3 : (¬ (s0 = s1)) → ks_W L xs mX2_withoutRounding rm_X2_withoutRounding 19 [(0, .ref 16), (1, .int x1), (2, .long x2), (4, .long x4)] [.int 1] σ mc ms P) : ks_W L xs mX2_withoutRounding rm_X2_withoutRounding 11 [(0, .ref 16), (1, .int x1), (2, .long x2), (4, .long x4)] [.int s1, .int s0] σ mc ms P := by
  refine ka_icmp_eq (tgt := 18) d_X2_withoutRounding_11 (by decide) rfl (fun c1 => ?_) (fun c1 => ?_)
  · refine ka_iconst (v := 0) d_X2_withoutRounding_18 rfl (by decide) ?_
    exact (k2 c1)
  · refine ka_iconst (v := 1) d_X2_withoutRounding_14 rfl (by decide) ?_
    refine ka_goto (q := 19) d_X2_withoutRounding_15 (by decide) ?_
    exact (k3 c1)
theorem sg_X2_withoutRounding_19 {L : Nat} {xs : Nat → Int32} {σ : ks_St} {mc ms : Nat} {P : ka_O → ks_St → Prop} {x1 : Int32} {x2 : Int64} {x4 : Int64} {s0 : Int32}  (k1 : ks_W L xs mX2_withoutRounding rm_X2_withoutRounding 23 [(0, .ref 16), (1, .int x1), (2, .long x2), (4, .long x4), (6, .int s0)] [.long x2, .ref 16] σ mc ms P) : ks_W L xs mX2_withoutRounding rm_X2_withoutRounding 19 [(0, .ref 16), (1, .int x1), (2, .long x2), (4, .long x4)] [.int s0] σ mc ms P := by
  refine ka_istore (ls' := [(6, .int s0), (0, .ref 16), (1, .int x1), (2, .long x2), (4, .long x4)]) d_X2_withoutRounding_19 rfl (by decide) rfl ?_
  refine ka_aload_n d_X2_withoutRounding_21 rfl rfl 1 rfl ?_
  refine ka_lload_n d_X2_withoutRounding_22 rfl rfl 3 rfl ?_
  refine ka_sub [1, 2, 3, 4, 0] rfl ?_
  exact k1
theorem cs_X2_withoutRounding_23 {L : Nat} {xs : Nat → Int32} {σ : ks_St} {mc ms : Nat} {P : ka_O → ks_St → Prop} {f : Int32 → ks_St → Prop} {x1 : Int32} {x2 : Int64} {x4 : Int64} {x6 : Int32} {s1 : Int64} (hK : ks_M L xs mX2_isInfinite rm_X2_isInfinite [.ref 16, .long s1] σ (pi_ f)) (kr : ∀ r σ', f r σ' → ks_W L xs mX2_withoutRounding rm_X2_withoutRounding 26 [(0, .ref 16), (1, .int x1), (2, .long x2), (4, .long x4), (6, .int x6)] [.int r] σ' mc ms P) : ks_W L xs mX2_withoutRounding rm_X2_withoutRounding 23 [(0, .ref 16), (1, .int x1), (2, .long x2), (4, .long x4), (6, .int x6)] [.long s1, .ref 16] σ mc ms P := by
  refine ks_callV (q := 26) (o := 16) (ci := 3) (As := [.long s1]) (st := []) d_X2_withoutRounding_23 rfl rfl (by decide) rfl rfl lk_X2_49 ⟨by decide, by decide⟩ (Nat.le_of_ble_eq_true rfl) ⟨Nat.le_refl _, Nat.le_refl _⟩ hK (fun v σ' hq => ?_) (fun E σ' hq => ?_)
  · obtain ⟨r, e, hf⟩ := hq; cases e; exact kr r σ' hf
  · obtain ⟨r, e, hf⟩ := hq; cases e
theorem sg_X2_withoutRounding_26 {L : Nat} {xs : Nat → Int32} {σ : ks_St} {mc ms : Nat} {P : ka_O → ks_St → Prop} {x1 : Int32} {x2 : Int64} {x4 : Int64} {x6 : Int32} {s0 : Int32}  (k2 : (s0 = 0) → ks_W L xs mX2_withoutRounding rm_X2_withoutRounding 42 [(0, .ref 16), (1, .int x1), (2, .long x2), (4, .long x4), (6, .int x6)] [] σ mc ms P) (k3 : (¬ (s0 = 0)) → ks_W L xs mX2_withoutRounding rm_X2_withoutRounding 32 [(0, .ref 16), (1, .int x1), (2, .long x2), (4, .long x4), (6, .int x6)] [.long x4, .ref 16] σ mc ms P) : ks_W L xs mX2_withoutRounding rm_X2_withoutRounding 26 [(0, .ref 16), (1, .int x1), (2, .long x2), (4, .long x4), (6, .int x6)] [.int s0] σ mc ms P := by
  refine ka_if_eq (tgt := 42) d_X2_withoutRounding_26 (by decide) rfl (fun c1 => ?_) (fun c1 => ?_)
  · exact (k2 c1)
  · refine ka_aload_n d_X2_withoutRounding_29 rfl rfl 0 rfl ?_
    refine ka_lload d_X2_withoutRounding_30 rfl 3 rfl ?_
    exact (k3 c1)
theorem cs_X2_withoutRounding_32 {L : Nat} {xs : Nat → Int32} {σ : ks_St} {mc ms : Nat} {P : ka_O → ks_St → Prop} {f : Int32 → ks_St → Prop} {x1 : Int32} {x2 : Int64} {x4 : Int64} {x6 : Int32} {s1 : Int64} (hK : ks_M L xs mX2_isInfinite rm_X2_isInfinite [.ref 16, .long s1] σ (pi_ f)) (kr : ∀ r σ', f r σ' → ks_W L xs mX2_withoutRounding rm_X2_withoutRounding 35 [(0, .ref 16), (1, .int x1), (2, .long x2), (4, .long x4), (6, .int x6)] [.int r] σ' mc ms P) : ks_W L xs mX2_withoutRounding rm_X2_withoutRounding 32 [(0, .ref 16), (1, .int x1), (2, .long x2), (4, .long x4), (6, .int x6)] [.long s1, .ref 16] σ mc ms P := by
  refine ks_callV (q := 35) (o := 16) (ci := 3) (As := [.long s1]) (st := []) d_X2_withoutRounding_32 rfl rfl (by decide) rfl rfl lk_X2_49 ⟨by decide, by decide⟩ (Nat.le_of_ble_eq_true rfl) ⟨Nat.le_refl _, Nat.le_refl _⟩ hK (fun v σ' hq => ?_) (fun E σ' hq => ?_)
  · obtain ⟨r, e, hf⟩ := hq; cases e; exact kr r σ' hf
  · obtain ⟨r, e, hf⟩ := hq; cases e
theorem sg_X2_withoutRounding_35 {L : Nat} {xs : Nat → Int32} {σ : ks_St} {mc ms : Nat} {P : ka_O → ks_St → Prop} {x1 : Int32} {x2 : Int64} {x4 : Int64} {x6 : Int32} {s0 : Int32}  (k2 : (s0 = 0) → ks_W L xs mX2_withoutRounding rm_X2_withoutRounding 42 [(0, .ref 16), (1, .int x1), (2, .long x2), (4, .long x4), (6, .int x6)] [] σ mc ms P) (k3 : (¬ (s0 = 0)) → ks_W L xs mX2_withoutRounding rm_X2_withoutRounding 43 [(0, .ref 16), (1, .int x1), (2, .long x2), (4, .long x4), (6, .int x6)] [.int 1] σ mc ms P) : ks_W L xs mX2_withoutRounding rm_X2_withoutRounding 35 [(0, .ref 16), (1, .int x1), (2, .long x2), (4, .long x4), (6, .int x6)] [.int s0] σ mc ms P := by
  refine ka_if_eq (tgt := 42) d_X2_withoutRounding_35 (by decide) rfl (fun c1 => ?_) (fun c1 => ?_)
  · exact (k2 c1)
  · refine ka_iconst (v := 1) d_X2_withoutRounding_38 rfl (by decide) ?_
    refine ka_goto (q := 43) d_X2_withoutRounding_39 (by decide) ?_
    exact (k3 c1)
theorem sg_X2_withoutRounding_42 {L : Nat} {xs : Nat → Int32} {σ : ks_St} {mc ms : Nat} {P : ka_O → ks_St → Prop} {x1 : Int32} {x2 : Int64} {x4 : Int64} {x6 : Int32}  (k1 : ks_W L xs mX2_withoutRounding rm_X2_withoutRounding 43 [(0, .ref 16), (1, .int x1), (2, .long x2), (4, .long x4), (6, .int x6)] [.int 0] σ mc ms P) : ks_W L xs mX2_withoutRounding rm_X2_withoutRounding 42 [(0, .ref 16), (1, .int x1), (2, .long x2), (4, .long x4), (6, .int x6)] [] σ mc ms P := by
  refine ka_iconst (v := 0) d_X2_withoutRounding_42 rfl (by decide) ?_
  exact k1
theorem sg_X2_withoutRounding_43 {L : Nat} {xs : Nat → Int32} {σ : ks_St} {mc ms : Nat} {P : ka_O → ks_St → Prop} {x1 : Int32} {x2 : Int64} {x4 : Int64} {x6 : Int32} {s0 : Int32}  (k4 : (1 < x1) → (¬ x1 = 2) → (¬ s0 = 0) → ks_W L xs mX2_withoutRounding rm_X2_withoutRounding 144 [(0, .ref 16)] [] σ mc ms P) (k5 : (1 < x1) → (¬ x1 = 2) → (s0 = 0) → ks_W L xs mX2_withoutRounding rm_X2_withoutRounding 129 [(0, .ref 16), (2, .long x2), (4, .long x4), (6, .int x6)] [.long x2, .ref 16] σ mc ms P) (k6 : (1 < x1) → (x1 = 2) → ks_W L xs mX2_withoutRounding rm_X2_withoutRounding 93 [(0, .ref 16), (4, .long x4), (6, .int x6)] [.long x2, .ref 16] σ mc ms P) (k7 : (¬ (1 < x1)) → ks_W L xs mX2_withoutRounding rm_X2_withoutRounding 52 [(0, .ref 16), (2, .long x2), (4, .long x4), (6, .int x6), (7, .int s0)] [.long x2, .ref 16] σ mc ms P) : ks_W L xs mX2_withoutRounding rm_X2_withoutRounding 43 [(0, .ref 16), (1, .int x1), (2, .long x2), (4, .long x4), (6, .int x6)] [.int s0] σ mc ms P := by
  refine ka_istore (ls' := [(7, .int s0), (0, .ref 16), (1, .int x1), (2, .long x2), (4, .long x4), (6, .int x6)]) d_X2_withoutRounding_43 rfl (by decide) rfl ?_
  refine ka_iload_n d_X2_withoutRounding_45 rfl rfl 2 rfl ?_
  refine ka_iconst (v := 1) d_X2_withoutRounding_46 rfl (by decide) ?_
  refine ka_icmp_gt (tgt := 86) d_X2_withoutRounding_47 (by decide) rfl (fun c1 => ?_) (fun c1 => ?_)
  · refine ka_iload_n d_X2_withoutRounding_86 rfl rfl 2 rfl ?_
    refine ka_iconst (v := 2) d_X2_withoutRounding_87 rfl (by decide) ?_
    refine ka_icmp_ne (tgt := 122) d_X2_withoutRounding_88 (by decide) rfl (fun c2 => ?_) (fun c2 => ?_)
    · refine ka_iload d_X2_withoutRounding_122 rfl 0 rfl ?_
      refine ka_if_ne (tgt := 144) d_X2_withoutRounding_124 (by decide) rfl (fun c3 => ?_) (fun c3 => ?_)
      · refine ka_sub [1] rfl ?_
        exact (k4 c1 c2 c3)
      · refine ka_aload_n d_X2_withoutRounding_127 rfl rfl 1 rfl ?_
        refine ka_lload_n d_X2_withoutRounding_128 rfl rfl 3 rfl ?_
        refine ka_sub [1, 3, 4, 5] rfl ?_
        exact (k5 c1 c2 c3)
    · refine ka_aload_n d_X2_withoutRounding_91 rfl rfl 1 rfl ?_
      refine ka_lload_n d_X2_withoutRounding_92 rfl rfl 3 rfl ?_
      refine ka_sub [1, 4, 5] rfl ?_
      exact (k6 c1 c2)
  · refine ka_aload_n d_X2_withoutRounding_50 rfl rfl 1 rfl ?_
    refine ka_lload_n d_X2_withoutRounding_51 rfl rfl 3 rfl ?_
    refine ka_sub [1, 3, 4, 5, 0] rfl ?_
    exact (k7 c1)
theorem cs_X2_withoutRounding_52 {L : Nat} {xs : Nat → Int32} {σ : ks_St} {mc ms : Nat} {P : ka_O → ks_St → Prop} {f : Int32 → ks_St → Prop} {x2 : Int64} {x4 : Int64} {x6 : Int32} {x7 : Int32} {s1 : Int64} (hK : ks_M L xs mX2_isInfinite rm_X2_isInfinite [.ref 16, .long s1] σ (pi_ f)) (kr : ∀ r σ', f r σ' → ks_W L xs mX2_withoutRounding rm_X2_withoutRounding 55 [(0, .ref 16), (2, .long x2), (4, .long x4), (6, .int x6), (7, .int x7)] [.int r] σ' mc ms P) : ks_W L xs mX2_withoutRounding rm_X2_withoutRounding 52 [(0, .ref 16), (2, .long x2), (4, .long x4), (6, .int x6), (7, .int x7)] [.long s1, .ref 16] σ mc ms P := by
  refine ks_callV (q := 55) (o := 16) (ci := 3) (As := [.long s1]) (st := []) d_X2_withoutRounding_52 rfl rfl (by decide) rfl rfl lk_X2_49 ⟨by decide, by decide⟩ (Nat.le_of_ble_eq_true rfl) ⟨Nat.le_refl _, Nat.le_refl _⟩ hK (fun v σ' hq => ?_) (fun E σ' hq => ?_)
  · obtain ⟨r, e, hf⟩ := hq; cases e; exact kr r σ' hf
  · obtain ⟨r, e, hf⟩ := hq; cases e
theorem sg_X2_withoutRounding_55 {L : Nat} {xs : Nat → Int32} {σ : ks_St} {mc ms : Nat} {P : ka_O → ks_St → Prop} {x2 : Int64} {x4 : Int64} {x6 : Int32} {x7 : Int32} {s0 : Int32}  (k2 : (s0 = 0) → ks_W L xs mX2_withoutRounding rm_X2_withoutRounding 64 [(0, .ref 16), (6, .int x6), (7, .int x7)] [.long x4] σ mc ms P) (k3 : (¬ (s0 = 0)) → ks_W L xs mX2_withoutRounding rm_X2_withoutRounding 64 [(0, .ref 16), (6, .int x6), (7, .int x7)] [.long x2] σ mc ms P) : ks_W L xs mX2_withoutRounding rm_X2_withoutRounding 55 [(0, .ref 16), (2, .long x2), (4, .long x4), (6, .int x6), (7, .int x7)] [.int s0] σ mc ms P := by
  refine ka_if_eq (tgt := 62) d_X2_withoutRounding_55 (by decide) rfl (fun c1 => ?_) (fun c1 => ?_)
  · refine ka_lload d_X2_withoutRounding_62 rfl 2 rfl ?_
    refine ka_sub [0, 3, 4] rfl ?_
    exact (k2 c1)
  · refine ka_lload_n d_X2_withoutRounding_58 rfl rfl 1 rfl ?_
    refine ka_goto (q := 64) d_X2_withoutRounding_59 (by decide) ?_
    refine ka_sub [0, 3, 4] rfl ?_
    exact (k3 c1)
theorem sg_X2_withoutRounding_64 {L : Nat} {xs : Nat → Int32} {σ : ks_St} {mc ms : Nat} {P : ka_O → ks_St → Prop} {x6 : Int32} {x7 : Int32} {s0 : Int64}  (k2 : (x7 = 0) → ks_W L xs mX2_withoutRounding rm_X2_withoutRounding 83 [(8, .long s0)] [] σ mc ms P) (k4 : (¬ (x7 = 0)) → (x6 = 0) → ks_W L xs mX2_withoutRounding rm_X2_withoutRounding 83 [(8, .long s0)] [] σ mc ms P) (k5 : (¬ (x7 = 0)) → (¬ (x6 = 0)) → ks_W L xs mX2_withoutRounding rm_X2_withoutRounding 77 [] [.ref 16] σ mc ms P) : ks_W L xs mX2_withoutRounding rm_X2_withoutRounding 64 [(0, .ref 16), (6, .int x6), (7, .int x7)] [.long s0] σ mc ms P := by
  refine ka_lstore (ls' := [(8, .long s0), (0, .ref 16), (6, .int x6), (7, .int x7)]) d_X2_withoutRounding_64 rfl (by decide) rfl ?_
  refine ka_iload d_X2_withoutRounding_66 rfl 3 rfl ?_
  refine ka_if_eq (tgt := 83) d_X2_withoutRounding_68 (by decide) rfl (fun c1 => ?_) (fun c1 => ?_)
  · refine ka_sub [0] rfl ?_
    exact (k2 c1)
  · refine ka_iload d_X2_withoutRounding_71 rfl 2 rfl ?_
    refine ka_if_eq (tgt := 83) d_X2_withoutRounding_73 (by decide) rfl (fun c3 => ?_) (fun c3 => ?_)
    · refine ka_sub [0] rfl ?_
      exact (k4 c1 c3)
    · refine ka_aload_n d_X2_withoutRounding_76 rfl rfl 1 rfl ?_
      refine ka_sub [] rfl ?_
      exact (k5 c1 c3)
theorem cs_X2_withoutRounding_77 {L : Nat} {xs : Nat → Int32} {σ : ks_St} {mc ms : Nat} {P : ka_O → ks_St → Prop} {f : Int64 → ks_St → Prop}  (hK : ks_M L xs mX2_notValid rm_X2_notValid [.ref 16] σ (pl_ f)) (kr : ∀ r σ', f r σ' → ks_W L xs mX2_withoutRounding rm_X2_withoutRounding 80 [] [.long r] σ' mc ms P) : ks_W L xs mX2_withoutRounding rm_X2_withoutRounding 77 [] [.ref 16] σ mc ms P := by
  refine ks_callV (q := 80) (o := 16) (ci := 3) (As := []) (st := []) d_X2_withoutRounding_77 rfl rfl (by decide) rfl rfl lk_X2_75 ⟨by decide, by decide⟩ (Nat.le_of_ble_eq_true rfl) ⟨Nat.le_refl _, Nat.le_refl _⟩ hK (fun v σ' hq => ?_) (fun E σ' hq => ?_)
  · obtain ⟨r, e, hf⟩ := hq; cases e; exact kr r σ' hf
  · obtain ⟨r, e, hf⟩ := hq; cases e
theorem sg_X2_withoutRounding_80 {L : Nat} {xs : Nat → Int32} {σ : ks_St} {mc ms : Nat} {P : ka_O → ks_St → Prop} {s0 : Int64}  (k1 : ks_W L xs mX2_withoutRounding rm_X2_withoutRounding 85 [] [.long s0] σ mc ms P) : ks_W L xs mX2_withoutRounding rm_X2_withoutRounding 80 [] [.long s0] σ mc ms P := by
  refine ka_goto (q := 85) d_X2_withoutRounding_80 (by decide) ?_
  exact k1
theorem sg_X2_withoutRounding_83 {L : Nat} {xs : Nat → Int32} {σ : ks_St} {mc ms : Nat} {P : ka_O → ks_St → Prop} {x8 : Int64}  (k1 : ks_W L xs mX2_withoutRounding rm_X2_withoutRounding 85 [] [.long x8] σ mc ms P) : ks_W L xs mX2_withoutRounding rm_X2_withoutRounding 83 [(8, .long x8)] [] σ mc ms P := by
  refine ka_lload d_X2_withoutRounding_83 rfl 0 rfl ?_
  refine ka_sub [] rfl ?_
  exact k1
theorem sg_X2_withoutRounding_85 {L : Nat} {xs : Nat → Int32} {σ : ks_St} {mc ms : Nat} {P : ka_O → ks_St → Prop} {s0 : Int64}  (r1 : P (.inl (some (.long s0))) σ) : ks_W L xs mX2_withoutRounding rm_X2_withoutRounding 85 [] [.long s0] σ mc ms P := by
  exact ks_lret d_X2_withoutRounding_85 rfl r1
theorem cs_X2_withoutRounding_93 {L : Nat} {xs : Nat → Int32} {σ : ks_St} {mc ms : Nat} {P : ka_O → ks_St → Prop} {f : Int32 → ks_St → Prop} {x4 : Int64} {x6 : Int32} {s1 : Int64} (hK : ks_M L xs mX2_isNought rm_X2_isNought [.ref 16, .long s1] σ (pi_ f)) (kr : ∀ r σ', f r σ' → ks_W L xs mX2_withoutRounding rm_X2_withoutRounding 96 [(0, .ref 16), (4, .long x4), (6, .int x6)] [.int r] σ' mc ms P) : ks_W L xs mX2_withoutRounding rm_X2_withoutRounding 93 [(0, .ref 16), (4, .long x4), (6, .int x6)] [.long s1, .ref 16] σ mc ms P := by
  refine ks_callV (q := 96) (o := 16) (ci := 3) (As := [.long s1]) (st := []) d_X2_withoutRounding_93 rfl rfl (by decide) rfl rfl lk_X2_52 ⟨by decide, by decide⟩ (Nat.le_of_ble_eq_true rfl) ⟨Nat.le_refl _, Nat.le_refl _⟩ hK (fun v σ' hq => ?_) (fun E σ' hq => ?_)
  · obtain ⟨r, e, hf⟩ := hq; cases e; exact kr r σ' hf
  · obtain ⟨r, e, hf⟩ := hq; cases e
theorem sg_X2_withoutRounding_96 {L : Nat} {xs : Nat → Int32} {σ : ks_St} {mc ms : Nat} {P : ka_O → ks_St → Prop} {x4 : Int64} {x6 : Int32} {s0 : Int32}  (k2 : (¬ s0 = 0) → ks_W L xs mX2_withoutRounding rm_X2_withoutRounding 108 [(0, .ref 16)] [] σ mc ms P) (k3 : (s0 = 0) → ks_W L xs mX2_withoutRounding rm_X2_withoutRounding 102 [(0, .ref 16), (6, .int x6)] [.long x4, .ref 16] σ mc ms P) : ks_W L xs mX2_withoutRounding rm_X2_withoutRounding 96 [(0, .ref 16), (4, .long x4), (6, .int x6)] [.int s0] σ mc ms P := by
  refine ka_if_ne (tgt := 108) d_X2_withoutRounding_96 (by decide) rfl (fun c1 => ?_) (fun c1 => ?_)
  · refine ka_sub [0] rfl ?_
    exact (k2 c1)
  · refine ka_aload_n d_X2_withoutRounding_99 rfl rfl 0 rfl ?_
    refine ka_lload d_X2_withoutRounding_100 rfl 1 rfl ?_
    refine ka_sub [0, 2] rfl ?_
    exact (k3 c1)
theorem cs_X2_withoutRounding_102 {L : Nat} {xs : Nat → Int32} {σ : ks_St} {mc ms : Nat} {P : ka_O → ks_St → Prop} {f : Int32 → ks_St → Prop} {x6 : Int32} {s1 : Int64} (hK : ks_M L xs mX2_isNought rm_X2_isNought [.ref 16, .long s1] σ (pi_ f)) (kr : ∀ r σ', f r σ' → ks_W L xs mX2_withoutRounding rm_X2_withoutRounding 105 [(0, .ref 16), (6, .int x6)] [.int r] σ' mc ms P) : ks_W L xs mX2_withoutRounding rm_X2_withoutRounding 102 [(0, .ref 16), (6, .int x6)] [.long s1, .ref 16] σ mc ms P := by
  refine ks_callV (q := 105) (o := 16) (ci := 3) (As := [.long s1]) (st := []) d_X2_withoutRounding_102 rfl rfl (by decide) rfl rfl lk_X2_52 ⟨by decide, by decide⟩ (Nat.le_of_ble_eq_true rfl) ⟨Nat.le_refl _, Nat.le_refl _⟩ hK (fun v σ' hq => ?_) (fun E σ' hq => ?_)
  · obtain ⟨r, e, hf⟩ := hq; cases e; exact kr r σ' hf
  · obtain ⟨r, e, hf⟩ := hq; cases e
theorem sg_X2_withoutRounding_105 {L : Nat} {xs : Nat → Int32} {σ : ks_St} {mc ms : Nat} {P : ka_O → ks_St → Prop} {x6 : Int32} {s0 : Int32}  (k2 : (s0 = 0) → ks_W L xs mX2_withoutRounding rm_X2_withoutRounding 118 [] [.int x6, .ref 16] σ mc ms P) (k3 : (¬ (s0 = 0)) → ks_W L xs mX2_withoutRounding rm_X2_withoutRounding 108 [(0, .ref 16)] [] σ mc ms P) : ks_W L xs mX2_withoutRounding rm_X2_withoutRounding 105 [(0, .ref 16), (6, .int x6)] [.int s0] σ mc ms P := by
  refine ka_if_eq (tgt := 115) d_X2_withoutRounding_105 (by decide) rfl (fun c1 => ?_) (fun c1 => ?_)
  · refine ka_aload_n d_X2_withoutRounding_115 rfl rfl 0 rfl ?_
    refine ka_iload d_X2_withoutRounding_116 rfl 1 rfl ?_
    refine ka_sub [] rfl ?_
    exact (k2 c1)
  · refine ka_sub [0] rfl ?_
    exact (k3 c1)
theorem sg_X2_withoutRounding_108 {L : Nat} {xs : Nat → Int32} {σ : ks_St} {mc ms : Nat} {P : ka_O → ks_St → Prop}   (k1 : ks_W L xs mX2_withoutRounding rm_X2_withoutRounding 109 [] [.ref 16] σ mc ms P) : ks_W L xs mX2_withoutRounding rm_X2_withoutRounding 108 [(0, .ref 16)] [] σ mc ms P := by
  refine ka_aload_n d_X2_withoutRounding_108 rfl rfl 0 rfl ?_
  refine ka_sub [] rfl ?_
  exact k1
theorem cs_X2_withoutRounding_109 {L : Nat} {xs : Nat → Int32} {σ : ks_St} {mc ms : Nat} {P : ka_O → ks_St → Prop} {f : Int64 → ks_St → Prop}  (hK : ks_M L xs mX2_notValid rm_X2_notValid [.ref 16] σ (pl_ f)) (kr : ∀ r σ', f r σ' → ks_W L xs mX2_withoutRounding rm_X2_withoutRounding 112 [] [.long r] σ' mc ms P) : ks_W L xs mX2_withoutRounding rm_X2_withoutRounding 109 [] [.ref 16] σ mc ms P := by
  refine ks_callV (q := 112) (o := 16) (ci := 3) (As := []) (st := []) d_X2_withoutRounding_109 rfl rfl (by decide) rfl rfl lk_X2_75 ⟨by decide, by decide⟩ (Nat.le_of_ble_eq_true rfl) ⟨Nat.le_refl _, Nat.le_refl _⟩ hK (fun v σ' hq => ?_) (fun E σ' hq => ?_)
  · obtain ⟨r, e, hf⟩ := hq; cases e; exact kr r σ' hf
  · obtain ⟨r, e, hf⟩ := hq; cases e
theorem sg_X2_withoutRounding_112 {L : Nat} {xs : Nat → Int32} {σ : ks_St} {mc ms : Nat} {P : ka_O → ks_St → Prop} {s0 : Int64}  (k1 : ks_W L xs mX2_withoutRounding rm_X2_withoutRounding 121 [] [.long s0] σ mc ms P) : ks_W L xs mX2_withoutRounding rm_X2_withoutRounding 112 [] [.long s0] σ mc ms P := by
  refine ka_goto (q := 121) d_X2_withoutRounding_112 (by decide) ?_
  exact k1
theorem cs_X2_withoutRounding_118 {L : Nat} {xs : Nat → Int32} {σ : ks_St} {mc ms : Nat} {P : ka_O → ks_St → Prop} {f : Int64 → ks_St → Prop} {s1 : Int32} (hK : ks_M L xs mX2_infinite rm_X2_infinite [.ref 16, .int s1] σ (pl_ f)) (kr : ∀ r σ', f r σ' → ks_W L xs mX2_withoutRounding rm_X2_withoutRounding 121 [] [.long r] σ' mc ms P) : ks_W L xs mX2_withoutRounding rm_X2_withoutRounding 118 [] [.int s1, .ref 16] σ mc ms P := by
  refine ks_callV (q := 121) (o := 16) (ci := 3) (As := [.int s1]) (st := []) d_X2_withoutRounding_118 rfl rfl (by decide) rfl rfl lk_X2_78 ⟨by decide, by decide⟩ (Nat.le_of_ble_eq_true rfl) ⟨Nat.le_refl _, Nat.le_refl _⟩ hK (fun v σ' hq => ?_) (fun E σ' hq => ?_)
  · obtain ⟨r, e, hf⟩ := hq; cases e; exact kr r σ' hf
  · obtain ⟨r, e, hf⟩ := hq; cases e
theorem sg_X2_withoutRounding_121 {L : Nat} {xs : Nat → Int32} {σ : ks_St} {mc ms : Nat} {P : ka_O → ks_St → Prop} {s0 : Int64}  (r1 : P (.inl (some (.long s0))) σ) : ks_W L xs mX2_withoutRounding rm_X2_withoutRounding 121 [] [.long s0] σ mc ms P := by
  exact ks_lret d_X2_withoutRounding_121 rfl r1
theorem cs_X2_withoutRounding_129 {L : Nat} {xs : Nat → Int32} {σ : ks_St} {mc ms : Nat} {P : ka_O → ks_St → Prop} {f : Int32 → ks_St → Prop} {x2 : Int64} {x4 : Int64} {x6 : Int32} {s1 : Int64} (hK : ks_M L xs mX2_isNought rm_X2_isNought [.ref 16, .long s1] σ (pi_ f)) (kr : ∀ r σ', f r σ' → ks_W L xs mX2_withoutRounding rm_X2_withoutRounding 132 [(0, .ref 16), (2, .long x2), (4, .long x4), (6, .int x6)] [.int r] σ' mc ms P) : ks_W L xs mX2_withoutRounding rm_X2_withoutRounding 129 [(0, .ref 16), (2, .long x2), (4, .long x4), (6, .int x6)] [.long s1, .ref 16] σ mc ms P := by
  refine ks_callV (q := 132) (o := 16) (ci := 3) (As := [.long s1]) (st := []) d_X2_withoutRounding_129 rfl rfl (by decide) rfl rfl lk_X2_52 ⟨by decide, by decide⟩ (Nat.le_of_ble_eq_true rfl) ⟨Nat.le_refl _, Nat.le_refl _⟩ hK (fun v σ' hq => ?_) (fun E σ' hq => ?_)
  · obtain ⟨r, e, hf⟩ := hq; cases e; exact kr r σ' hf
  · obtain ⟨r, e, hf⟩ := hq; cases e
theorem sg_X2_withoutRounding_132 {L : Nat} {xs : Nat → Int32} {σ : ks_St} {mc ms : Nat} {P : ka_O → ks_St → Prop} {x2 : Int64} {x4 : Int64} {x6 : Int32} {s0 : Int32}  (k2 : (s0 = 0) → ks_W L xs mX2_withoutRounding rm_X2_withoutRounding 149 [(0, .ref 16), (2, .long x2), (4, .long x4), (6, .int x6)] [] σ mc ms P) (k3 : (¬ (s0 = 0)) → ks_W L xs mX2_withoutRounding rm_X2_withoutRounding 138 [(0, .ref 16), (2, .long x2), (4, .long x4), (6, .int x6)] [.long x4, .ref 16] σ mc ms P) : ks_W L xs mX2_withoutRounding rm_X2_withoutRounding 132 [(0, .ref 16), (2, .long x2), (4, .long x4), (6, .int x6)] [.int s0] σ mc ms P := by
  refine ka_if_eq (tgt := 149) d_X2_withoutRounding_132 (by decide) rfl (fun c1 => ?_) (fun c1 => ?_)
  · exact (k2 c1)
  · refine ka_aload_n d_X2_withoutRounding_135 rfl rfl 0 rfl ?_
    refine ka_lload d_X2_withoutRounding_136 rfl 2 rfl ?_
    exact (k3 c1)
theorem cs_X2_withoutRounding_138 {L : Nat} {xs : Nat → Int32} {σ : ks_St} {mc ms : Nat} {P : ka_O → ks_St → Prop} {f : Int32 → ks_St → Prop} {x2 : Int64} {x4 : Int64} {x6 : Int32} {s1 : Int64} (hK : ks_M L xs mX2_isNought rm_X2_isNought [.ref 16, .long s1] σ (pi_ f)) (kr : ∀ r σ', f r σ' → ks_W L xs mX2_withoutRounding rm_X2_withoutRounding 141 [(0, .ref 16), (2, .long x2), (4, .long x4), (6, .int x6)] [.int r] σ' mc ms P) : ks_W L xs mX2_withoutRounding rm_X2_withoutRounding 138 [(0, .ref 16), (2, .long x2), (4, .long x4), (6, .int x6)] [.long s1, .ref 16] σ mc ms P := by
  refine ks_callV (q := 141) (o := 16) (ci := 3) (As := [.long s1]) (st := []) d_X2_withoutRounding_138 rfl rfl (by decide) rfl rfl lk_X2_52 ⟨by decide, by decide⟩ (Nat.le_of_ble_eq_true rfl) ⟨Nat.le_refl _, Nat.le_refl _⟩ hK (fun v σ' hq => ?_) (fun E σ' hq => ?_)
  · obtain ⟨r, e, hf⟩ := hq; cases e; exact kr r σ' hf
  · obtain ⟨r, e, hf⟩ := hq; cases e
theorem sg_X2_withoutRounding_141 {L : Nat} {xs : Nat → Int32} {σ : ks_St} {mc ms : Nat} {P : ka_O → ks_St → Prop} {x2 : Int64} {x4 : Int64} {x6 : Int32} {s0 : Int32}  (k2 : (s0 = 0) → ks_W L xs mX2_withoutRounding rm_X2_withoutRounding 149 [(0, .ref 16), (2, .long x2), (4, .long x4), (6, .int x6)] [] σ mc ms P) (k3 : (¬ (s0 = 0)) → ks_W L xs mX2_withoutRounding rm_X2_withoutRounding 144 [(0, .ref 16)] [] σ mc ms P) : ks_W L xs mX2_withoutRounding rm_X2_withoutRounding 141 [(0, .ref 16), (2, .long x2), (4, .long x4), (6, .int x6)] [.int s0] σ mc ms P := by
  refine ka_if_eq (tgt := 149) d_X2_withoutRounding_141 (by decide) rfl (fun c1 => ?_) (fun c1 => ?_)
  · exact (k2 c1)
  · refine ka_sub [0] rfl ?_
    exact (k3 c1)
theorem sg_X2_withoutRounding_144 {L : Nat} {xs : Nat → Int32} {σ : ks_St} {mc ms : Nat} {P : ka_O → ks_St → Prop}   (k1 : ks_W L xs mX2_withoutRounding rm_X2_withoutRounding 145 [] [.ref 16] σ mc ms P) : ks_W L xs mX2_withoutRounding rm_X2_withoutRounding 144 [(0, .ref 16)] [] σ mc ms P := by
  refine ka_aload_n d_X2_withoutRounding_144 rfl rfl 0 rfl ?_
  refine ka_sub [] rfl ?_
  exact k1
theorem cs_X2_withoutRounding_145 {L : Nat} {xs : Nat → Int32} {σ : ks_St} {mc ms : Nat} {P : ka_O → ks_St → Prop} {f : Int64 → ks_St → Prop}  (hK : ks_M L xs mX2_notValid rm_X2_notValid [.ref 16] σ (pl_ f)) (kr : ∀ r σ', f r σ' → ks_W L xs mX2_withoutRounding rm_X2_withoutRounding 148 [] [.long r] σ' mc ms P) : ks_W L xs mX2_withoutRounding rm_X2_withoutRounding 145 [] [.ref 16] σ mc ms P := by
  refine ks_callV (q := 148) (o := 16) (ci := 3) (As := []) (st := []) d_X2_withoutRounding_145 rfl rfl (by decide) rfl rfl lk_X2_75 ⟨by decide, by decide⟩ (Nat.le_of_ble_eq_true rfl) ⟨Nat.le_refl _, Nat.le_refl _⟩ hK (fun v σ' hq => ?_) (fun E σ' hq => ?_)
  · obtain ⟨r, e, hf⟩ := hq; cases e; exact kr r σ' hf
  · obtain ⟨r, e, hf⟩ := hq; cases e
theorem sg_X2_withoutRounding_148 {L : Nat} {xs : Nat → Int32} {σ : ks_St} {mc ms : Nat} {P : ka_O → ks_St → Prop} {s0 : Int64}  (r1 : P (.inl (some (.long s0))) σ) : ks_W L xs mX2_withoutRounding rm_X2_withoutRounding 148 [] [.long s0] σ mc ms P := by
  exact ks_lret d_X2_withoutRounding_148 rfl r1
theorem sg_X2_withoutRounding_149 {L : Nat} {xs : Nat → Int32} {σ : ks_St} {mc ms : Nat} {P : ka_O → ks_St → Prop} {x2 : Int64} {x4 : Int64} {x6 : Int32}  (k1 : ks_W L xs mX2_withoutRounding rm_X2_withoutRounding 152 [(0, .ref 16), (2, .long x2), (6, .int x6)] [.long x4, .ref 16] σ mc ms P) : ks_W L xs mX2_withoutRounding rm_X2_withoutRounding 149 [(0, .ref 16), (2, .long x2), (4, .long x4), (6, .int x6)] [] σ mc ms P := by
  refine ka_aload_n d_X2_withoutRounding_149 rfl rfl 0 rfl ?_
  refine ka_lload d_X2_withoutRounding_150 rfl 2 rfl ?_
  refine ka_sub [0, 1, 3] rfl ?_
  exact k1
theorem cs_X2_withoutRounding_152 {L : Nat} {xs : Nat → Int32} {σ : ks_St} {mc ms : Nat} {P : ka_O → ks_St → Prop} {f : Int32 → ks_St → Prop} {x2 : Int64} {x6 : Int32} {s1 : Int64} (hK : ks_M L xs mX2_isInfinite rm_X2_isInfinite [.ref 16, .long s1] σ (pi_ f)) (kr : ∀ r σ', f r σ' → ks_W L xs mX2_withoutRounding rm_X2_withoutRounding 155 [(0, .ref 16), (2, .long x2), (6, .int x6)] [.int r] σ' mc ms P) : ks_W L xs mX2_withoutRounding rm_X2_withoutRounding 152 [(0, .ref 16), (2, .long x2), (6, .int x6)] [.long s1, .ref 16] σ mc ms P := by
  refine ks_callV (q := 155) (o := 16) (ci := 3) (As := [.long s1]) (st := []) d_X2_withoutRounding_152 rfl rfl (by decide) rfl rfl lk_X2_49 ⟨by decide, by decide⟩ (Nat.le_of_ble_eq_true rfl) ⟨Nat.le_refl _, Nat.le_refl _⟩ hK (fun v σ' hq => ?_) (fun E σ' hq => ?_)
  · obtain ⟨r, e, hf⟩ := hq; cases e; exact kr r σ' hf
  · obtain ⟨r, e, hf⟩ := hq; cases e
theorem sg_X2_withoutRounding_155 {L : Nat} {xs : Nat → Int32} {σ : ks_St} {mc ms : Nat} {P : ka_O → ks_St → Prop} {x2 : Int64} {x6 : Int32} {s0 : Int32}  (k2 : (s0 = 0) → ks_W L xs mX2_withoutRounding rm_X2_withoutRounding 169 [(0, .ref 16), (6, .int x6)] [.long x2, .ref 16, .ref 16] σ mc ms P) (k3 : (¬ (s0 = 0)) → ks_W L xs mX2_withoutRounding rm_X2_withoutRounding 162 [] [.long 0, .int x6, .ref 16] σ mc ms P) : ks_W L xs mX2_withoutRounding rm_X2_withoutRounding 155 [(0, .ref 16), (2, .long x2), (6, .int x6)] [.int s0] σ mc ms P := by
  refine ka_if_eq (tgt := 166) d_X2_withoutRounding_155 (by decide) rfl (fun c1 => ?_) (fun c1 => ?_)
  · refine ka_aload_n d_X2_withoutRounding_166 rfl rfl 0 rfl ?_
    refine ka_aload_n d_X2_withoutRounding_167 rfl rfl 0 rfl ?_
    refine ka_lload_n d_X2_withoutRounding_168 rfl rfl 1 rfl ?_
    refine ka_sub [0, 2] rfl ?_
    exact (k2 c1)
  · refine ka_aload_n d_X2_withoutRounding_158 rfl rfl 0 rfl ?_
    refine ka_iload d_X2_withoutRounding_159 rfl 2 rfl ?_
    refine ka_lconst (v := 0) d_X2_withoutRounding_161 rfl (by decide) ?_
    refine ka_sub [] rfl ?_
    exact (k3 c1)
theorem cs_X2_withoutRounding_162 {L : Nat} {xs : Nat → Int32} {σ : ks_St} {mc ms : Nat} {P : ka_O → ks_St → Prop} {f : Int64 → ks_St → Prop} {s1 : Int32} {s2 : Int64} (hK : ks_M L xs mX2_withSign rm_X2_withSign [.ref 16, .int s1, .long s2] σ (pl_ f)) (kr : ∀ r σ', f r σ' → ks_W L xs mX2_withoutRounding rm_X2_withoutRounding 165 [] [.long r] σ' mc ms P) : ks_W L xs mX2_withoutRounding rm_X2_withoutRounding 162 [] [.long s2, .int s1, .ref 16] σ mc ms P := by
  refine ks_callV (q := 165) (o := 16) (ci := 3) (As := [.int s1, .long s2]) (st := []) d_X2_withoutRounding_162 rfl rfl (by decide) rfl rfl lk_X2_82 ⟨by decide, by decide⟩ (Nat.le_of_ble_eq_true rfl) ⟨Nat.le_refl _, Nat.le_refl _⟩ hK (fun v σ' hq => ?_) (fun E σ' hq => ?_)
  · obtain ⟨r, e, hf⟩ := hq; cases e; exact kr r σ' hf
  · obtain ⟨r, e, hf⟩ := hq; cases e
theorem sg_X2_withoutRounding_165 {L : Nat} {xs : Nat → Int32} {σ : ks_St} {mc ms : Nat} {P : ka_O → ks_St → Prop} {s0 : Int64}  (r1 : P (.inl (some (.long s0))) σ) : ks_W L xs mX2_withoutRounding rm_X2_withoutRounding 165 [] [.long s0] σ mc ms P := by
  exact ks_lret d_X2_withoutRounding_165 rfl r1
theorem cs_X2_withoutRounding_169 {L : Nat} {xs : Nat → Int32} {σ : ks_St} {mc ms : Nat} {P : ka_O → ks_St → Prop} {f : Int32 → ks_St → Prop} {x6 : Int32} {s2 : Int64} (hK : ks_M L xs mX2_isInfinite rm_X2_isInfinite [.ref 16, .long s2] σ (pi_ f)) (kr : ∀ r σ', f r σ' → ks_W L xs mX2_withoutRounding rm_X2_withoutRounding 172 [(0, .ref 16), (6, .int x6)] [.int r, .ref 16] σ' mc ms P) : ks_W L xs mX2_withoutRounding rm_X2_withoutRounding 169 [(0, .ref 16), (6, .int x6)] [.long s2, .ref 16, .ref 16] σ mc ms P := by
  refine ks_callV (q := 172) (o := 16) (ci := 3) (As := [.long s2]) (st := [.ref 16]) d_X2_withoutRounding_169 rfl rfl (by decide) rfl rfl lk_X2_49 ⟨by decide, by decide⟩ (Nat.le_of_ble_eq_true rfl) ⟨Nat.le_refl _, Nat.le_refl _⟩ hK (fun v σ' hq => ?_) (fun E σ' hq => ?_)
  · obtain ⟨r, e, hf⟩ := hq; cases e; exact kr r σ' hf
  · obtain ⟨r, e, hf⟩ := hq; cases e
theorem sg_X2_withoutRounding_172 {L : Nat} {xs : Nat → Int32} {σ : ks_St} {mc ms : Nat} {P : ka_O → ks_St → Prop} {x6 : Int32} {s1 : Int32}  (k2 : (s1 = 0) → ks_W L xs mX2_withoutRounding rm_X2_withoutRounding 180 [(0, .ref 16), (6, .int x6)] [.int 2, .ref 16] σ mc ms P) (k3 : (¬ (s1 = 0)) → ks_W L xs mX2_withoutRounding rm_X2_withoutRounding 180 [(0, .ref 16), (6, .int x6)] [.int 0, .ref 16] σ mc ms P) : ks_W L xs mX2_withoutRounding rm_X2_withoutRounding 172 [(0, .ref 16), (6, .int x6)] [.int s1, .ref 16] σ mc ms P := by
  refine ka_if_eq (tgt := 179) d_X2_withoutRounding_172 (by decide) rfl (fun c1 => ?_) (fun c1 => ?_)
  · refine ka_iconst (v := 2) d_X2_withoutRounding_179 rfl (by decide) ?_
    exact (k2 c1)
  · refine ka_iconst (v := 0) d_X2_withoutRounding_175 rfl (by decide) ?_
    refine ka_goto (q := 180) d_X2_withoutRounding_176 (by decide) ?_
    exact (k3 c1)
theorem sg_X2_withoutRounding_180 {L : Nat} {xs : Nat → Int32} {σ : ks_St} {mc ms : Nat} {P : ka_O → ks_St → Prop} {x6 : Int32} {s1 : Int32}  (k1 : ks_W L xs mX2_withoutRounding rm_X2_withoutRounding 186 [] [.int x6, .ref 16] (ui_ σ 7 s1) mc ms P) : ks_W L xs mX2_withoutRounding rm_X2_withoutRounding 180 [(0, .ref 16), (6, .int x6)] [.int s1, .ref 16] σ mc ms P := by
  refine pf_X2_0 d_X2_withoutRounding_180 rfl fl_X2_7 ?_
  refine ka_aload_n d_X2_withoutRounding_183 rfl rfl 0 rfl ?_
  refine ka_iload d_X2_withoutRounding_184 rfl 1 rfl ?_
  refine ka_sub [] rfl ?_
  exact k1
theorem cs_X2_withoutRounding_186 {L : Nat} {xs : Nat → Int32} {σ : ks_St} {mc ms : Nat} {P : ka_O → ks_St → Prop} {f : Int64 → ks_St → Prop} {s1 : Int32} (hK : ks_M L xs mX2_infinite rm_X2_infinite [.ref 16, .int s1] σ (pl_ f)) (kr : ∀ r σ', f r σ' → ks_W L xs mX2_withoutRounding rm_X2_withoutRounding 189 [] [.long r] σ' mc ms P) : ks_W L xs mX2_withoutRounding rm_X2_withoutRounding 186 [] [.int s1, .ref 16] σ mc ms P := by
  refine ks_callV (q := 189) (o := 16) (ci := 3) (As := [.int s1]) (st := []) d_X2_withoutRounding_186 rfl rfl (by decide) rfl rfl lk_X2_78 ⟨by decide, by decide⟩ (Nat.le_of_ble_eq_true rfl) ⟨Nat.le_refl _, Nat.le_refl _⟩ hK (fun v σ' hq => ?_) (fun E σ' hq => ?_)
  · obtain ⟨r, e, hf⟩ := hq; cases e; exact kr r σ' hf
  · obtain ⟨r, e, hf⟩ := hq; cases e
theorem sg_X2_withoutRounding_189 {L : Nat} {xs : Nat → Int32} {σ : ks_St} {mc ms : Nat} {P : ka_O → ks_St → Prop} {s0 : Int64}  (r1 : P (.inl (some (.long s0))) σ) : ks_W L xs mX2_withoutRounding rm_X2_withoutRounding 189 [] [.long s0] σ mc ms P := by
  exact ks_lret d_X2_withoutRounding_189 rfl r1
theorem d_X2_wholeOf_0 : decode cX2_wholeOf 0 = .ok (.aload_n 0, 1) := by decide +kernel
theorem d_X2_wholeOf_1 : decode cX2_wholeOf 1 = .ok (.lload_n 1, 1) := by decide +kernel
theorem d_X2_wholeOf_2 : decode cX2_wholeOf 2 = .ok (.invokevirtual 122, 3) := by decide +kernel
theorem d_X2_wholeOf_5 : decode cX2_wholeOf 5 = .ok (.ifCond .ne 11, 3) := by decide +kernel
theorem d_X2_wholeOf_8 : decode cX2_wholeOf 8 = .ok (.aload_n 0, 1) := by decide +kernel
theorem d_X2_wholeOf_9 : decode cX2_wholeOf 9 = .ok (.lload_n 1, 1) := by decide +kernel
theorem d_X2_wholeOf_10 : decode cX2_wholeOf 10 = .ok (.invokevirtual 125, 3) := by decide +kernel
theorem d_X2_wholeOf_13 : decode cX2_wholeOf 13 = .ok (.goto 15, 3) := by decide +kernel
theorem d_X2_wholeOf_16 : decode cX2_wholeOf 16 = .ok (.aload_n 0, 1) := by decide +kernel
theorem d_X2_wholeOf_17 : decode cX2_wholeOf 17 = .ok (.lload_n 1, 1) := by decide +kernel
theorem d_X2_wholeOf_18 : decode cX2_wholeOf 18 = .ok (.invokevirtual 125, 3) := by decide +kernel
theorem d_X2_wholeOf_21 : decode cX2_wholeOf 21 = .ok (.lconst 1, 1) := by decide +kernel
theorem d_X2_wholeOf_22 : decode cX2_wholeOf 22 = .ok (.aload_n 0, 1) := by decide +kernel
theorem d_X2_wholeOf_23 : decode cX2_wholeOf 23 = .ok (.getfield 16, 3) := by decide +kernel
theorem d_X2_wholeOf_26 : decode cX2_wholeOf 26 = .ok (.lshl, 1) := by decide +kernel
theorem d_X2_wholeOf_27 : decode cX2_wholeOf 27 = .ok (.ladd, 1) := by decide +kernel
theorem d_X2_wholeOf_28 : decode cX2_wholeOf 28 = .ok (.lreturn, 1) := by decide +kernel
theorem sg_X2_wholeOf_0 {L : Nat} {xs : Nat → Int32} {σ : ks_St} {mc ms : Nat} {P : ka_O → ks_St → Prop} {x1 : Int64}  (k1 : ks_W L xs mX2_wholeOf rm_X2_wholeOf 2 [(0, .ref 16), (1, .long x1)] [.long x1, .ref 16] σ mc ms P) : ks_W L xs mX2_wholeOf rm_X2_wholeOf 0 [(0, .ref 16), (1, .long x1)] [] σ mc ms P := by
  refine ka_aload_n d_X2_wholeOf_0 rfl rfl 0 rfl ?_
  refine ka_lload_n d_X2_wholeOf_1 rfl rfl 1 rfl ?_
  exact k1
theorem cs_X2_wholeOf_2 {L : Nat} {xs : Nat → Int32} {σ : ks_St} {mc ms : Nat} {P : ka_O → ks_St → Prop} {f : Int32 → ks_St → Prop} {x1 : Int64} {s1 : Int64} (hK : ks_M L xs mX2_exponentOf rm_X2_exponentOf [.ref 16, .long s1] σ (pi_ f)) (kr : ∀ r σ', f r σ' → ks_W L xs mX2_wholeOf rm_X2_wholeOf 5 [(0, .ref 16), (1, .long x1)] [.int r] σ' mc ms P) : ks_W L xs mX2_wholeOf rm_X2_wholeOf 2 [(0, .ref 16), (1, .long x1)] [.long s1, .ref 16] σ mc ms P := by
  refine ks_callV (q := 5) (o := 16) (ci := 3) (As := [.long s1]) (st := []) d_X2_wholeOf_2 rfl rfl (by decide) rfl rfl lk_X2_122 ⟨by decide, by decide⟩ (Nat.le_of_ble_eq_true rfl) ⟨Nat.le_refl _, Nat.le_refl _⟩ hK (fun v σ' hq => ?_) (fun E σ' hq => ?_)
  · obtain ⟨r, e, hf⟩ := hq; cases e; exact kr r σ' hf
  · obtain ⟨r, e, hf⟩ := hq; cases e
theorem sg_X2_wholeOf_5 {L : Nat} {xs : Nat → Int32} {σ : ks_St} {mc ms : Nat} {P : ka_O → ks_St → Prop} {x1 : Int64} {s0 : Int32}  (k2 : (¬ s0 = 0) → ks_W L xs mX2_wholeOf rm_X2_wholeOf 18 [(0, .ref 16)] [.long x1, .ref 16] σ mc ms P) (k3 : (s0 = 0) → ks_W L xs mX2_wholeOf rm_X2_wholeOf 10 [] [.long x1, .ref 16] σ mc ms P) : ks_W L xs mX2_wholeOf rm_X2_wholeOf 5 [(0, .ref 16), (1, .long x1)] [.int s0] σ mc ms P := by
  refine ka_if_ne (tgt := 16) d_X2_wholeOf_5 (by decide) rfl (fun c1 => ?_) (fun c1 => ?_)
  · refine ka_aload_n d_X2_wholeOf_16 rfl rfl 0 rfl ?_
    refine ka_lload_n d_X2_wholeOf_17 rfl rfl 1 rfl ?_
    refine ka_sub [0] rfl ?_
    exact (k2 c1)
  · refine ka_aload_n d_X2_wholeOf_8 rfl rfl 0 rfl ?_
    refine ka_lload_n d_X2_wholeOf_9 rfl rfl 1 rfl ?_
    refine ka_sub [] rfl ?_
    exact (k3 c1)
theorem cs_X2_wholeOf_10 {L : Nat} {xs : Nat → Int32} {σ : ks_St} {mc ms : Nat} {P : ka_O → ks_St → Prop} {f : Int64 → ks_St → Prop} {s1 : Int64} (hK : ks_M L xs mX2_fractionOf rm_X2_fractionOf [.ref 16, .long s1] σ (pl_ f)) (kr : ∀ r σ', f r σ' → ks_W L xs mX2_wholeOf rm_X2_wholeOf 13 [] [.long r] σ' mc ms P) : ks_W L xs mX2_wholeOf rm_X2_wholeOf 10 [] [.long s1, .ref 16] σ mc ms P := by
  refine ks_callV (q := 13) (o := 16) (ci := 3) (As := [.long s1]) (st := []) d_X2_wholeOf_10 rfl rfl (by decide) rfl rfl lk_X2_125 ⟨by decide, by decide⟩ (Nat.le_of_ble_eq_true rfl) ⟨Nat.le_refl _, Nat.le_refl _⟩ hK (fun v σ' hq => ?_) (fun E σ' hq => ?_)
  · obtain ⟨r, e, hf⟩ := hq; cases e; exact kr r σ' hf
  · obtain ⟨r, e, hf⟩ := hq; cases e
theorem sg_X2_wholeOf_13 {L : Nat} {xs : Nat → Int32} {σ : ks_St} {mc ms : Nat} {P : ka_O → ks_St → Prop} {s0 : Int64}  (k1 : ks_W L xs mX2_wholeOf rm_X2_wholeOf 28 [] [.long s0] σ mc ms P) : ks_W L xs mX2_wholeOf rm_X2_wholeOf 13 [] [.long s0] σ mc ms P := by
  refine ka_goto (q := 28) d_X2_wholeOf_13 (by decide) ?_
  exact k1
theorem cs_X2_wholeOf_18 {L : Nat} {xs : Nat → Int32} {σ : ks_St} {mc ms : Nat} {P : ka_O → ks_St → Prop} {f : Int64 → ks_St → Prop} {s1 : Int64} (hK : ks_M L xs mX2_fractionOf rm_X2_fractionOf [.ref 16, .long s1] σ (pl_ f)) (kr : ∀ r σ', f r σ' → ks_W L xs mX2_wholeOf rm_X2_wholeOf 21 [(0, .ref 16)] [.long r] σ' mc ms P) : ks_W L xs mX2_wholeOf rm_X2_wholeOf 18 [(0, .ref 16)] [.long s1, .ref 16] σ mc ms P := by
  refine ks_callV (q := 21) (o := 16) (ci := 3) (As := [.long s1]) (st := []) d_X2_wholeOf_18 rfl rfl (by decide) rfl rfl lk_X2_125 ⟨by decide, by decide⟩ (Nat.le_of_ble_eq_true rfl) ⟨Nat.le_refl _, Nat.le_refl _⟩ hK (fun v σ' hq => ?_) (fun E σ' hq => ?_)
  · obtain ⟨r, e, hf⟩ := hq; cases e; exact kr r σ' hf
  · obtain ⟨r, e, hf⟩ := hq; cases e
theorem sg_X2_wholeOf_21 {L : Nat} {xs : Nat → Int32} {σ : ks_St} {mc ms : Nat} {P : ka_O → ks_St → Prop} {s0 : Int64}  (k1 : ks_W L xs mX2_wholeOf rm_X2_wholeOf 28 [] [.long (s0 + ((1 : Int64) <<< (((si_ σ 9)).toInt64 &&& 63)))] σ mc ms P) : ks_W L xs mX2_wholeOf rm_X2_wholeOf 21 [(0, .ref 16)] [.long s0] σ mc ms P := by
  refine ka_lconst (v := 1) d_X2_wholeOf_21 rfl (by decide) ?_
  refine ka_aload_n d_X2_wholeOf_22 rfl rfl 0 rfl ?_
  refine gf_X2_2 d_X2_wholeOf_23 rfl fl_X2_16 ?_
  refine ka_lshl d_X2_wholeOf_26 rfl ?_
  refine ka_ladd d_X2_wholeOf_27 rfl ?_
  refine ka_sub [] rfl ?_
  exact k1
theorem sg_X2_wholeOf_28 {L : Nat} {xs : Nat → Int32} {σ : ks_St} {mc ms : Nat} {P : ka_O → ks_St → Prop} {s0 : Int64}  (r1 : P (.inl (some (.long s0))) σ) : ks_W L xs mX2_wholeOf rm_X2_wholeOf 28 [] [.long s0] σ mc ms P := by
  exact ks_lret d_X2_wholeOf_28 rfl r1
theorem d_X2_powerOf_0 : decode cX2_powerOf 0 = .ok (.aload_n 0, 1) := by decide +kernel
theorem d_X2_powerOf_1 : decode cX2_powerOf 1 = .ok (.getfield 22, 3) := by decide +kernel
theorem d_X2_powerOf_4 : decode cX2_powerOf 4 = .ok (.aload_n 0, 1) := by decide +kernel
theorem d_X2_powerOf_5 : decode cX2_powerOf 5 = .ok (.lload_n 1, 1) := by decide +kernel
theorem d_X2_powerOf_6 : decode cX2_powerOf 6 = .ok (.invokevirtual 122, 3) := by decide +kernel
theorem d_X2_powerOf_9 : decode cX2_powerOf 9 = .ok (.iconst 1, 1) := by decide +kernel
theorem d_X2_powerOf_10 : decode cX2_powerOf 10 = .ok (.invokestatic 109, 3) := by decide +kernel
theorem d_X2_powerOf_13 : decode cX2_powerOf 13 = .ok (.iadd, 1) := by decide +kernel
theorem d_X2_powerOf_14 : decode cX2_powerOf 14 = .ok (.iconst 1, 1) := by decide +kernel
theorem d_X2_powerOf_15 : decode cX2_powerOf 15 = .ok (.isub, 1) := by decide +kernel
theorem d_X2_powerOf_16 : decode cX2_powerOf 16 = .ok (.ireturn, 1) := by decide +kernel
theorem sg_X2_powerOf_0 {L : Nat} {xs : Nat → Int32} {σ : ks_St} {mc ms : Nat} {P : ka_O → ks_St → Prop} {x1 : Int64}  (k1 : ks_W L xs mX2_powerOf rm_X2_powerOf 6 [] [.long x1, .ref 16, .int (si_ σ 11)] σ mc ms P) : ks_W L xs mX2_powerOf rm_X2_powerOf 0 [(0, .ref 16), (1, .long x1)] [] σ mc ms P := by
  refine ka_aload_n d_X2_powerOf_0 rfl rfl 0 rfl ?_
  refine gf_X2_4 d_X2_powerOf_1 rfl fl_X2_22 ?_
  refine ka_aload_n d_X2_powerOf_4 rfl rfl 0 rfl ?_
  refine ka_lload_n d_X2_powerOf_5 rfl rfl 1 rfl ?_
  refine ka_sub [] rfl ?_
  exact k1
theorem cs_X2_powerOf_6 {L : Nat} {xs : Nat → Int32} {σ : ks_St} {mc ms : Nat} {P : ka_O → ks_St → Prop} {f : Int32 → ks_St → Prop} {s0 : Int32} {s2 : Int64} (hK : ks_M L xs mX2_exponentOf rm_X2_exponentOf [.ref 16, .long s2] σ (pi_ f)) (kr : ∀ r σ', f r σ' → ks_W L xs mX2_powerOf rm_X2_powerOf 9 [] [.int r, .int s0] σ' mc ms P) : ks_W L xs mX2_powerOf rm_X2_powerOf 6 [] [.long s2, .ref 16, .int s0] σ mc ms P := by
  refine ks_callV (q := 9) (o := 16) (ci := 3) (As := [.long s2]) (st := [.int s0]) d_X2_powerOf_6 rfl rfl (by decide) rfl rfl lk_X2_122 ⟨by decide, by decide⟩ (Nat.le_of_ble_eq_true rfl) ⟨Nat.le_refl _, Nat.le_refl _⟩ hK (fun v σ' hq => ?_) (fun E σ' hq => ?_)
  · obtain ⟨r, e, hf⟩ := hq; cases e; exact kr r σ' hf
  · obtain ⟨r, e, hf⟩ := hq; cases e
theorem sg_X2_powerOf_9 {L : Nat} {xs : Nat → Int32} {σ : ks_St} {mc ms : Nat} {P : ka_O → ks_St → Prop} {s0 : Int32} {s1 : Int32}  (k1 : ks_W L xs mX2_powerOf rm_X2_powerOf 10 [] [.int 1, .int s1, .int s0] σ mc ms P) : ks_W L xs mX2_powerOf rm_X2_powerOf 9 [] [.int s1, .int s0] σ mc ms P := by
  refine ka_iconst (v := 1) d_X2_powerOf_9 rfl (by decide) ?_
  exact k1
theorem cs_X2_powerOf_10 {L : Nat} {xs : Nat → Int32} {σ : ks_St} {mc ms : Nat} {P : ka_O → ks_St → Prop} {f : Int32 → ks_St → Prop} {s0 : Int32} {s1 : Int32} {s2 : Int32} (hK : ks_M L xs mM_max rm_M_max [.int s1, .int s2] σ (pi_ f)) (kr : ∀ r σ', f r σ' → ks_W L xs mX2_powerOf rm_X2_powerOf 13 [] [.int r, .int s0] σ' mc ms P) : ks_W L xs mX2_powerOf rm_X2_powerOf 10 [] [.int s2, .int s1, .int s0] σ mc ms P := by
  refine ks_callS (q := 13) (As := [.int s1, .int s2]) (st := [.int s0]) d_X2_powerOf_10 rfl rfl lk_X2_109 ⟨by decide, by decide⟩ (Nat.le_of_ble_eq_true rfl) ⟨Nat.le_refl _, Nat.le_refl _⟩ hK (fun v σ' hq => ?_) (fun E σ' hq => ?_)
  · obtain ⟨r, e, hf⟩ := hq; cases e; exact kr r σ' hf
  · obtain ⟨r, e, hf⟩ := hq; cases e
theorem sg_X2_powerOf_13 {L : Nat} {xs : Nat → Int32} {σ : ks_St} {mc ms : Nat} {P : ka_O → ks_St → Prop} {s0 : Int32} {s1 : Int32}  (r1 : P (.inl (some (.int ((s0 + s1) - 1)))) σ) : ks_W L xs mX2_powerOf rm_X2_powerOf 13 [] [.int s1, .int s0] σ mc ms P := by
  refine ka_iadd d_X2_powerOf_13 rfl ?_
  refine ka_iconst (v := 1) d_X2_powerOf_14 rfl (by decide) ?_
  refine ka_isub d_X2_powerOf_15 rfl ?_
  exact ks_iret (ty := .int) d_X2_powerOf_16 rfl rfl r1
theorem d_X2_divide_0 : decode cX2_divide 0 = .ok (.aload_n 0, 1) := by decide +kernel
theorem d_X2_divide_1 : decode cX2_divide 1 = .ok (.getfield 16, 3) := by decide +kernel
theorem d_X2_divide_4 : decode cX2_divide 4 = .ok (.iconst 1, 1) := by decide +kernel
theorem d_X2_divide_5 : decode cX2_divide 5 = .ok (.iadd, 1) := by decide +kernel
theorem d_X2_divide_6 : decode cX2_divide 6 = .ok (.aload_n 0, 1) := by decide +kernel
theorem d_X2_divide_7 : decode cX2_divide 7 = .ok (.lload_n 1, 1) := by decide +kernel
theorem d_X2_divide_8 : decode cX2_divide 8 = .ok (.invokevirtual 96, 3) := by decide +kernel
theorem d_X2_divide_11 : decode cX2_divide 11 = .ok (.invokestatic 104, 3) := by decide +kernel
theorem d_X2_divide_14 : decode cX2_divide 14 = .ok (.isub, 1) := by decide +kernel
theorem d_X2_divide_15 : decode cX2_divide 15 = .ok (.bipush 36, 2) := by decide +kernel
theorem d_X2_divide_17 : decode cX2_divide 17 = .ok (.iadd, 1) := by decide +kernel
theorem d_X2_divide_18 : decode cX2_divide 18 = .ok (.istore 5, 2) := by decide +kernel
theorem d_X2_divide_20 : decode cX2_divide 20 = .ok (.aload_n 0, 1) := by decide +kernel
theorem d_X2_divide_21 : decode cX2_divide 21 = .ok (.lload_n 1, 1) := by decide +kernel
theorem d_X2_divide_22 : decode cX2_divide 22 = .ok (.invokevirtual 96, 3) := by decide +kernel
theorem d_X2_divide_25 : decode cX2_divide 25 = .ok (.iload 5, 2) := by decide +kernel
theorem d_X2_divide_27 : decode cX2_divide 27 = .ok (.lshl, 1) := by decide +kernel
theorem d_X2_divide_28 : decode cX2_divide 28 = .ok (.lstore 6, 2) := by decide +kernel
theorem d_X2_divide_30 : decode cX2_divide 30 = .ok (.aload_n 0, 1) := by decide +kernel
theorem d_X2_divide_31 : decode cX2_divide 31 = .ok (.lload_n 3, 1) := by decide +kernel
theorem d_X2_divide_32 : decode cX2_divide 32 = .ok (.invokevirtual 96, 3) := by decide +kernel
theorem d_X2_divide_35 : decode cX2_divide 35 = .ok (.lstore 8, 2) := by decide +kernel
theorem d_X2_divide_37 : decode cX2_divide 37 = .ok (.lload 8, 2) := by decide +kernel
theorem d_X2_divide_39 : decode cX2_divide 39 = .ok (.lconst 0, 1) := by decide +kernel
theorem d_X2_divide_40 : decode cX2_divide 40 = .ok (.lcmp, 1) := by decide +kernel
theorem d_X2_divide_41 : decode cX2_divide 41 = .ok (.ifCond .le 11, 3) := by decide +kernel
theorem d_X2_divide_44 : decode cX2_divide 44 = .ok (.lload 6, 2) := by decide +kernel
theorem d_X2_divide_46 : decode cX2_divide 46 = .ok (.lload 8, 2) := by decide +kernel
theorem d_X2_divide_48 : decode cX2_divide 48 = .ok (.ldiv, 1) := by decide +kernel
theorem d_X2_divide_49 : decode cX2_divide 49 = .ok (.goto 4, 3) := by decide +kernel
theorem d_X2_divide_52 : decode cX2_divide 52 = .ok (.lconst 0, 1) := by decide +kernel
theorem d_X2_divide_53 : decode cX2_divide 53 = .ok (.lstore 10, 2) := by decide +kernel
theorem d_X2_divide_55 : decode cX2_divide 55 = .ok (.aload_n 0, 1) := by decide +kernel
theorem d_X2_divide_56 : decode cX2_divide 56 = .ok (.aload_n 0, 1) := by decide +kernel
theorem d_X2_divide_57 : decode cX2_divide 57 = .ok (.lload_n 1, 1) := by decide +kernel
theorem d_X2_divide_58 : decode cX2_divide 58 = .ok (.invokevirtual 72, 3) := by decide +kernel
theorem d_X2_divide_61 : decode cX2_divide 61 = .ok (.aload_n 0, 1) := by decide +kernel
theorem d_X2_divide_62 : decode cX2_divide 62 = .ok (.lload_n 3, 1) := by decide +kernel
theorem d_X2_divide_63 : decode cX2_divide 63 = .ok (.invokevirtual 72, 3) := by decide +kernel
theorem d_X2_divide_66 : decode cX2_divide 66 = .ok (.if_icmp .eq 7, 3) := by decide +kernel
theorem d_X2_divide_69 : decode cX2_divide 69 = .ok (.iconst 1, 1) := by decide +kernel
theorem d_X2_divide_70 : decode cX2_divide 70 = .ok (.goto 4, 3) := by decide +kernel
theorem d_X2_divide_73 : decode cX2_divide 73 = .ok (.iconst 0, 1) := by decide +kernel
theorem d_X2_divide_74 : decode cX2_divide 74 = .ok (.putfield 31, 3) := by decide +kernel
theorem d_X2_divide_77 : decode cX2_divide 77 = .ok (.aload_n 0, 1) := by decide +kernel
theorem d_X2_divide_78 : decode cX2_divide 78 = .ok (.lload 10, 2) := by decide +kernel
theorem d_X2_divide_80 : decode cX2_divide 80 = .ok (.lload 8, 2) := by decide +kernel
theorem d_X2_divide_82 : decode cX2_divide 82 = .ok (.lmul, 1) := by decide +kernel
theorem d_X2_divide_83 : decode cX2_divide 83 = .ok (.lload 6, 2) := by decide +kernel
theorem d_X2_divide_85 : decode cX2_divide 85 = .ok (.lcmp, 1) := by decide +kernel
theorem d_X2_divide_86 : decode cX2_divide 86 = .ok (.ifCond .ne 8, 3) := by decide +kernel
theorem d_X2_divide_89 : decode cX2_divide 89 = .ok (.lload 10, 2) := by decide +kernel
theorem d_X2_divide_91 : decode cX2_divide 91 = .ok (.goto 7, 3) := by decide +kernel
theorem d_X2_divide_94 : decode cX2_divide 94 = .ok (.lload 10, 2) := by decide +kernel
theorem d_X2_divide_96 : decode cX2_divide 96 = .ok (.lconst 1, 1) := by decide +kernel
theorem d_X2_divide_97 : decode cX2_divide 97 = .ok (.lor, 1) := by decide +kernel
theorem d_X2_divide_98 : decode cX2_divide 98 = .ok (.putfield 35, 3) := by decide +kernel
theorem d_X2_divide_101 : decode cX2_divide 101 = .ok (.aload_n 0, 1) := by decide +kernel
theorem d_X2_divide_102 : decode cX2_divide 102 = .ok (.aload_n 0, 1) := by decide +kernel
theorem d_X2_divide_103 : decode cX2_divide 103 = .ok (.lload_n 1, 1) := by decide +kernel
theorem d_X2_divide_104 : decode cX2_divide 104 = .ok (.invokevirtual 86, 3) := by decide +kernel
theorem d_X2_divide_107 : decode cX2_divide 107 = .ok (.iload 5, 2) := by decide +kernel
theorem d_X2_divide_109 : decode cX2_divide 109 = .ok (.isub, 1) := by decide +kernel
theorem d_X2_divide_110 : decode cX2_divide 110 = .ok (.aload_n 0, 1) := by decide +kernel
theorem d_X2_divide_111 : decode cX2_divide 111 = .ok (.lload_n 3, 1) := by decide +kernel
theorem d_X2_divide_112 : decode cX2_divide 112 = .ok (.invokevirtual 86, 3) := by decide +kernel
theorem d_X2_divide_115 : decode cX2_divide 115 = .ok (.isub, 1) := by decide +kernel
theorem d_X2_divide_116 : decode cX2_divide 116 = .ok (.putfield 38, 3) := by decide +kernel
theorem d_X2_divide_119 : decode cX2_divide 119 = .ok (.return_, 1) := by decide +kernel
theorem sg_X2_divide_0 {L : Nat} {xs : Nat → Int32} {σ : ks_St} {mc ms : Nat} {P : ka_O → ks_St → Prop} {x1 : Int64} {x3 : Int64}  (k1 : ks_W L xs mX2_divide rm_X2_divide 8 [(0, .ref 16), (1, .long x1), (3, .long x3)] [.long x1, .ref 16, .int ((si_ σ 9) + 1)] σ mc ms P) : ks_W L xs mX2_divide rm_X2_divide 0 [(0, .ref 16), (1, .long x1), (3, .long x3)] [] σ mc ms P := by
  refine ka_aload_n d_X2_divide_0 rfl rfl 0 rfl ?_
  refine gf_X2_2 d_X2_divide_1 rfl fl_X2_16 ?_
  refine ka_iconst (v := 1) d_X2_divide_4 rfl (by decide) ?_
  refine ka_iadd d_X2_divide_5 rfl ?_
  refine ka_aload_n d_X2_divide_6 rfl rfl 0 rfl ?_
  refine ka_lload_n d_X2_divide_7 rfl rfl 1 rfl ?_
  exact k1
theorem cs_X2_divide_8 {L : Nat} {xs : Nat → Int32} {σ : ks_St} {mc ms : Nat} {P : ka_O → ks_St → Prop} {f : Int64 → ks_St → Prop} {x1 : Int64} {x3 : Int64} {s0 : Int32} {s2 : Int64} (hK : ks_M L xs mX2_wholeOf rm_X2_wholeOf [.ref 16, .long s2] σ (pl_ f)) (kr : ∀ r σ', f r σ' → ks_W L xs mX2_divide rm_X2_divide 11 [(0, .ref 16), (1, .long x1), (3, .long x3)] [.long r, .int s0] σ' mc ms P) : ks_W L xs mX2_divide rm_X2_divide 8 [(0, .ref 16), (1, .long x1), (3, .long x3)] [.long s2, .ref 16, .int s0] σ mc ms P := by
  refine ks_callV (q := 11) (o := 16) (ci := 3) (As := [.long s2]) (st := [.int s0]) d_X2_divide_8 rfl rfl (by decide) rfl rfl lk_X2_96 ⟨by decide, by decide⟩ (Nat.le_of_ble_eq_true rfl) ⟨Nat.le_refl _, Nat.le_refl _⟩ hK (fun v σ' hq => ?_) (fun E σ' hq => ?_)
  · obtain ⟨r, e, hf⟩ := hq; cases e; exact kr r σ' hf
  · obtain ⟨r, e, hf⟩ := hq; cases e
theorem cs_X2_divide_11 {L : Nat} {xs : Nat → Int32} {σ : ks_St} {mc ms : Nat} {P : ka_O → ks_St → Prop} {f : Int32 → ks_St → Prop} {x1 : Int64} {x3 : Int64} {s0 : Int32} {s1 : Int64} (hK : ks_M L xs mX3_lengthOfLimb rm_X3_lengthOfLimb [.long s1] σ (pi_ f)) (kr : ∀ r σ', f r σ' → ks_W L xs mX2_divide rm_X2_divide 14 [(0, .ref 16), (1, .long x1), (3, .long x3)] [.int r, .int s0] σ' mc ms P) : ks_W L xs mX2_divide rm_X2_divide 11 [(0, .ref 16), (1, .long x1), (3, .long x3)] [.long s1, .int s0] σ mc ms P := by
  refine ks_callS (q := 14) (As := [.long s1]) (st := [.int s0]) d_X2_divide_11 rfl rfl lk_X2_104 ⟨by decide, by decide⟩ (Nat.le_of_ble_eq_true rfl) ⟨Nat.le_refl _, Nat.le_refl _⟩ hK (fun v σ' hq => ?_) (fun E σ' hq => ?_)
  · obtain ⟨r, e, hf⟩ := hq; cases e; exact kr r σ' hf
  · obtain ⟨r, e, hf⟩ := hq; cases e
theorem sg_X2_divide_14 {L : Nat} {xs : Nat → Int32} {σ : ks_St} {mc ms : Nat} {P : ka_O → ks_St → Prop} {x1 : Int64} {x3 : Int64} {s0 : Int32} {s1 : Int32}  (k1 : ks_W L xs mX2_divide rm_X2_divide 22 [(0, .ref 16), (1, .long x1), (3, .long x3), (5, .int ((s0 - s1) + 36))] [.long x1, .ref 16] σ mc ms P) : ks_W L xs mX2_divide rm_X2_divide 14 [(0, .ref 16), (1, .long x1), (3, .long x3)] [.int s1, .int s0] σ mc ms P := by
  refine ka_isub d_X2_divide_14 rfl ?_
  refine ka_bipush (v := 36) d_X2_divide_15 rfl (by decide) ?_
  refine ka_iadd d_X2_divide_17 rfl ?_
  refine ka_istore (ls' := [(5, .int ((s0 - s1) + 36)), (0, .ref 16), (1, .long x1), (3, .long x3)]) d_X2_divide_18 rfl (by decide) rfl ?_
  refine ka_aload_n d_X2_divide_20 rfl rfl 1 rfl ?_
  refine ka_lload_n d_X2_divide_21 rfl rfl 2 rfl ?_
  refine ka_sub [1, 2, 3, 0] rfl ?_
  exact k1
theorem cs_X2_divide_22 {L : Nat} {xs : Nat → Int32} {σ : ks_St} {mc ms : Nat} {P : ka_O → ks_St → Prop} {f : Int64 → ks_St → Prop} {x1 : Int64} {x3 : Int64} {x5 : Int32} {s1 : Int64} (hK : ks_M L xs mX2_wholeOf rm_X2_wholeOf [.ref 16, .long s1] σ (pl_ f)) (kr : ∀ r σ', f r σ' → ks_W L xs mX2_divide rm_X2_divide 25 [(0, .ref 16), (1, .long x1), (3, .long x3), (5, .int x5)] [.long r] σ' mc ms P) : ks_W L xs mX2_divide rm_X2_divide 22 [(0, .ref 16), (1, .long x1), (3, .long x3), (5, .int x5)] [.long s1, .ref 16] σ mc ms P := by
  refine ks_callV (q := 25) (o := 16) (ci := 3) (As := [.long s1]) (st := []) d_X2_divide_22 rfl rfl (by decide) rfl rfl lk_X2_96 ⟨by decide, by decide⟩ (Nat.le_of_ble_eq_true rfl) ⟨Nat.le_refl _, Nat.le_refl _⟩ hK (fun v σ' hq => ?_) (fun E σ' hq => ?_)
  · obtain ⟨r, e, hf⟩ := hq; cases e; exact kr r σ' hf
  · obtain ⟨r, e, hf⟩ := hq; cases e
theorem sg_X2_divide_25 {L : Nat} {xs : Nat → Int32} {σ : ks_St} {mc ms : Nat} {P : ka_O → ks_St → Prop} {x1 : Int64} {x3 : Int64} {x5 : Int32} {s0 : Int64}  (k1 : ks_W L xs mX2_divide rm_X2_divide 32 [(0, .ref 16), (1, .long x1), (3, .long x3), (5, .int x5), (6, .long (s0 <<< ((x5).toInt64 &&& 63)))] [.long x3, .ref 16] σ mc ms P) : ks_W L xs mX2_divide rm_X2_divide 25 [(0, .ref 16), (1, .long x1), (3, .long x3), (5, .int x5)] [.long s0] σ mc ms P := by
  refine ka_iload d_X2_divide_25 rfl 3 rfl ?_
  refine ka_lshl d_X2_divide_27 rfl ?_
  refine ka_lstore (ls' := [(6, .long (s0 <<< ((x5).toInt64 &&& 63))), (0, .ref 16), (1, .long x1), (3, .long x3), (5, .int x5)]) d_X2_divide_28 rfl (by decide) rfl ?_
  refine ka_aload_n d_X2_divide_30 rfl rfl 1 rfl ?_
  refine ka_lload_n d_X2_divide_31 rfl rfl 3 rfl ?_
  refine ka_sub [1, 2, 3, 4, 0] rfl ?_
  exact k1
theorem cs_X2_divide_32 {L : Nat} {xs : Nat → Int32} {σ : ks_St} {mc ms : Nat} {P : ka_O → ks_St → Prop} {f : Int64 → ks_St → Prop} {x1 : Int64} {x3 : Int64} {x5 : Int32} {x6 : Int64} {s1 : Int64} (hK : ks_M L xs mX2_wholeOf rm_X2_wholeOf [.ref 16, .long s1] σ (pl_ f)) (kr : ∀ r σ', f r σ' → ks_W L xs mX2_divide rm_X2_divide 35 [(0, .ref 16), (1, .long x1), (3, .long x3), (5, .int x5), (6, .long x6)] [.long r] σ' mc ms P) : ks_W L xs mX2_divide rm_X2_divide 32 [(0, .ref 16), (1, .long x1), (3, .long x3), (5, .int x5), (6, .long x6)] [.long s1, .ref 16] σ mc ms P := by
  refine ks_callV (q := 35) (o := 16) (ci := 3) (As := [.long s1]) (st := []) d_X2_divide_32 rfl rfl (by decide) rfl rfl lk_X2_96 ⟨by decide, by decide⟩ (Nat.le_of_ble_eq_true rfl) ⟨Nat.le_refl _, Nat.le_refl _⟩ hK (fun v σ' hq => ?_) (fun E σ' hq => ?_)
  · obtain ⟨r, e, hf⟩ := hq; cases e; exact kr r σ' hf
  · obtain ⟨r, e, hf⟩ := hq; cases e
theorem sg_X2_divide_35 {L : Nat} {xs : Nat → Int32} {σ : ks_St} {mc ms : Nat} {P : ka_O → ks_St → Prop} {x1 : Int64} {x3 : Int64} {x5 : Int32} {x6 : Int64} {s0 : Int64}  (k2 : ((lg_cmp s0 0) ≤ 0) → ks_W L xs mX2_divide rm_X2_divide 53 [(0, .ref 16), (1, .long x1), (3, .long x3), (5, .int x5), (6, .long x6), (8, .long s0)] [.long 0] σ mc ms P) (z3 : (¬ ((lg_cmp s0 0) ≤ 0)) → ¬ s0 = 0) (k4 : (¬ ((lg_cmp s0 0) ≤ 0)) → ks_W L xs mX2_divide rm_X2_divide 53 [(0, .ref 16), (1, .long x1), (3, .long x3), (5, .int x5), (6, .long x6), (8, .long s0)] [.long (x6 / s0)] σ mc ms P) : ks_W L xs mX2_divide rm_X2_divide 35 [(0, .ref 16), (1, .long x1), (3, .long x3), (5, .int x5), (6, .long x6)] [.long s0] σ mc ms P := by
  refine ka_lstore (ls' := [(8, .long s0), (0, .ref 16), (1, .long x1), (3, .long x3), (5, .int x5), (6, .long x6)]) d_X2_divide_35 rfl (by decide) rfl ?_
  refine ka_lload d_X2_divide_37 rfl 0 rfl ?_
  refine ka_lconst (v := 0) d_X2_divide_39 rfl (by decide) ?_
  refine ka_lcmp d_X2_divide_40 rfl ?_
  refine ka_if_le (tgt := 52) d_X2_divide_41 (by decide) rfl (fun c1 => ?_) (fun c1 => ?_)
  · refine ka_lconst (v := 0) d_X2_divide_52 rfl (by decide) ?_
    refine ka_sub [1, 2, 3, 4, 5, 0] rfl ?_
    exact (k2 c1)
  · refine ka_lload d_X2_divide_44 rfl 5 rfl ?_
    refine ka_lload d_X2_divide_46 rfl 0 rfl ?_
    refine ka_ldiv d_X2_divide_48 rfl (z3 c1) ?_
    refine ka_goto (q := 53) d_X2_divide_49 (by decide) ?_
    refine ka_sub [1, 2, 3, 4, 5, 0] rfl ?_
    exact (k4 c1)
theorem sg_X2_divide_53 {L : Nat} {xs : Nat → Int32} {σ : ks_St} {mc ms : Nat} {P : ka_O → ks_St → Prop} {x1 : Int64} {x3 : Int64} {x5 : Int32} {x6 : Int64} {x8 : Int64} {s0 : Int64}  (k1 : ks_W L xs mX2_divide rm_X2_divide 58 [(0, .ref 16), (1, .long x1), (3, .long x3), (5, .int x5), (6, .long x6), (8, .long x8), (10, .long s0)] [.long x1, .ref 16, .ref 16] σ mc ms P) : ks_W L xs mX2_divide rm_X2_divide 53 [(0, .ref 16), (1, .long x1), (3, .long x3), (5, .int x5), (6, .long x6), (8, .long x8)] [.long s0] σ mc ms P := by
  refine ka_lstore (ls' := [(10, .long s0), (0, .ref 16), (1, .long x1), (3, .long x3), (5, .int x5), (6, .long x6), (8, .long x8)]) d_X2_divide_53 rfl (by decide) rfl ?_
  refine ka_aload_n d_X2_divide_55 rfl rfl 1 rfl ?_
  refine ka_aload_n d_X2_divide_56 rfl rfl 1 rfl ?_
  refine ka_lload_n d_X2_divide_57 rfl rfl 2 rfl ?_
  refine ka_sub [1, 2, 3, 4, 5, 6, 0] rfl ?_
  exact k1
theorem cs_X2_divide_58 {L : Nat} {xs : Nat → Int32} {σ : ks_St} {mc ms : Nat} {P : ka_O → ks_St → Prop} {f : Int32 → ks_St → Prop} {x1 : Int64} {x3 : Int64} {x5 : Int32} {x6 : Int64} {x8 : Int64} {x10 : Int64} {s2 : Int64} (hK : ks_M L xs mX2_signOf rm_X2_signOf [.ref 16, .long s2] σ (pi_ f)) (kr : ∀ r σ', f r σ' → ks_W L xs mX2_divide rm_X2_divide 61 [(0, .ref 16), (1, .long x1), (3, .long x3), (5, .int x5), (6, .long x6), (8, .long x8), (10, .long x10)] [.int r, .ref 16] σ' mc ms P) : ks_W L xs mX2_divide rm_X2_divide 58 [(0, .ref 16), (1, .long x1), (3, .long x3), (5, .int x5), (6, .long x6), (8, .long x8), (10, .long x10)] [.long s2, .ref 16, .ref 16] σ mc ms P := by
  refine ks_callV (q := 61) (o := 16) (ci := 3) (As := [.long s2]) (st := [.ref 16]) d_X2_divide_58 rfl rfl (by decide) rfl rfl lk_X2_72 ⟨by decide, by decide⟩ (Nat.le_of_ble_eq_true rfl) ⟨Nat.le_refl _, Nat.le_refl _⟩ hK (fun v σ' hq => ?_) (fun E σ' hq => ?_)
  · obtain ⟨r, e, hf⟩ := hq; cases e; exact kr r σ' hf
  · obtain ⟨r, e, hf⟩ := hq; cases e
theorem sg_X2_divide_61 {L : Nat} {xs : Nat → Int32} {σ : ks_St} {mc ms : Nat} {P : ka_O → ks_St → Prop} {x1 : Int64} {x3 : Int64} {x5 : Int32} {x6 : Int64} {x8 : Int64} {x10 : Int64} {s1 : Int32}  (k1 : ks_W L xs mX2_divide rm_X2_divide 63 [(0, .ref 16), (1, .long x1), (3, .long x3), (5, .int x5), (6, .long x6), (8, .long x8), (10, .long x10)] [.long x3, .ref 16, .int s1, .ref 16] σ mc ms P) : ks_W L xs mX2_divide rm_X2_divide 61 [(0, .ref 16), (1, .long x1), (3, .long x3), (5, .int x5), (6, .long x6), (8, .long x8), (10, .long x10)] [.int s1, .ref 16] σ mc ms P := by
  refine ka_aload_n d_X2_divide_61 rfl rfl 0 rfl ?_
  refine ka_lload_n d_X2_divide_62 rfl rfl 2 rfl ?_
  exact k1
theorem cs_X2_divide_63 {L : Nat} {xs : Nat → Int32} {σ : ks_St} {mc ms : Nat} {P : ka_O → ks_St → Prop} {f : Int32 → ks_St → Prop} {x1 : Int64} {x3 : Int64} {x5 : Int32} {x6 : Int64} {x8 : Int64} {x10 : Int64} {s1 : Int32} {s3 : Int64} (hK : ks_M L xs mX2_signOf rm_X2_signOf [.ref 16, .long s3] σ (pi_ f)) (kr : ∀ r σ', f r σ' → ks_W L xs mX2_divide rm_X2_divide 66 [(0, .ref 16), (1, .long x1), (3, .long x3), (5, .int x5), (6, .long x6), (8, .long x8), (10, .long x10)] [.int r, .int s1, .ref 16] σ' mc ms P) : ks_W L xs mX2_divide rm_X2_divide 63 [(0, .ref 16), (1, .long x1), (3, .long x3), (5, .int x5), (6, .long x6), (8, .long x8), (10, .long x10)] [.long s3, .ref 16, .int s1, .ref 16] σ mc ms P := by
  refine ks_callV (q := 66) (o := 16) (ci := 3) (As := [.long s3]) (st := [.int s1, .ref 16]) d_X2_divide_63 rfl rfl (by decide) rfl rfl lk_X2_72 ⟨by decide, by decide⟩ (Nat.le_of_ble_eq_true rfl) ⟨Nat.le_refl _, Nat.le_refl _⟩ hK (fun v σ' hq => ?_) (fun E σ' hq => ?_)
  · obtain ⟨r, e, hf⟩ := hq; cases e; exact kr r σ' hf
  · obtain ⟨r, e, hf⟩ := hq; cases e
theorem sg_X2_divide_66 {L : Nat} {xs : Nat → Int32} {σ : ks_St} {mc ms : Nat} {P : ka_O → ks_St → Prop} {x1 : Int64} {x3 : Int64} {x5 : Int32} {x6 : Int64} {x8 : Int64} {x10 : Int64} {s1 : Int32} {s2 : Int32}  (k2 : (s1 = s2) → ks_W L xs mX2_divide rm_X2_divide 74 [(0, .ref 16), (1, .long x1), (3, .long x3), (5, .int x5), (6, .long x6), (8, .long x8), (10, .long x10)] [.int 0, .ref 16] σ mc ms P) (k3 : (¬ (s1 = s2)) → ks_W L xs mX2_divide rm_X2_divide 74 [(0, .ref 16), (1, .long x1), (3, .long x3), (5, .int x5), (6, .long x6), (8, .long x8), (10, .long x10)] [.int 1, .ref 16] σ mc ms P) : ks_W L xs mX2_divide rm_X2_divide 66 [(0, .ref 16), (1, .long x1), (3, .long x3), (5, .int x5), (6, .long x6), (8, .long x8), (10, .long x10)] [.int s2, .int s1, .ref 16] σ mc ms P := by
  refine ka_icmp_eq (tgt := 73) d_X2_divide_66 (by decide) rfl (fun c1 => ?_) (fun c1 => ?_)
  · refine ka_iconst (v := 0) d_X2_divide_73 rfl (by decide) ?_
    exact (k2 c1)
  · refine ka_iconst (v := 1) d_X2_divide_69 rfl (by decide) ?_
    refine ka_goto (q := 74) d_X2_divide_70 (by decide) ?_
    exact (k3 c1)
theorem sg_X2_divide_74 {L : Nat} {xs : Nat → Int32} {σ : ks_St} {mc ms : Nat} {P : ka_O → ks_St → Prop} {x1 : Int64} {x3 : Int64} {x5 : Int32} {x6 : Int64} {x8 : Int64} {x10 : Int64} {s1 : Int32}  (b1 : s1 = 0 ∨ s1 = 1) (k3 : (¬ (lg_cmp (x10 * x8) x6) = 0) → ks_W L xs mX2_divide rm_X2_divide 98 [(0, .ref 16), (1, .long x1), (3, .long x3), (5, .int x5)] [.long (x10 ||| 1), .ref 16] (ui_ σ 12 s1) mc ms P) (k4 : ((lg_cmp (x10 * x8) x6) = 0) → ks_W L xs mX2_divide rm_X2_divide 98 [(0, .ref 16), (1, .long x1), (3, .long x3), (5, .int x5)] [.long x10, .ref 16] (ui_ σ 12 s1) mc ms P) : ks_W L xs mX2_divide rm_X2_divide 74 [(0, .ref 16), (1, .long x1), (3, .long x3), (5, .int x5), (6, .long x6), (8, .long x8), (10, .long x10)] [.int s1, .ref 16] σ mc ms P := by
  refine pf_X2_6 d_X2_divide_74 rfl fl_X2_31 b1 ?_
  refine ka_aload_n d_X2_divide_77 rfl rfl 0 rfl ?_
  refine ka_lload d_X2_divide_78 rfl 6 rfl ?_
  refine ka_lload d_X2_divide_80 rfl 5 rfl ?_
  refine ka_lmul d_X2_divide_82 rfl ?_
  refine ka_lload d_X2_divide_83 rfl 4 rfl ?_
  refine ka_lcmp d_X2_divide_85 rfl ?_
  refine ka_if_ne (tgt := 94) d_X2_divide_86 (by decide) rfl (fun c2 => ?_) (fun c2 => ?_)
  · refine ka_lload d_X2_divide_94 rfl 6 rfl ?_
    refine ka_lconst (v := 1) d_X2_divide_96 rfl (by decide) ?_
    refine ka_lor d_X2_divide_97 rfl ?_
    refine ka_sub [0, 1, 2, 3] rfl ?_
    exact (k3 c2)
  · refine ka_lload d_X2_divide_89 rfl 6 rfl ?_
    refine ka_goto (q := 98) d_X2_divide_91 (by decide) ?_
    refine ka_sub [0, 1, 2, 3] rfl ?_
    exact (k4 c2)
theorem sg_X2_divide_98 {L : Nat} {xs : Nat → Int32} {σ : ks_St} {mc ms : Nat} {P : ka_O → ks_St → Prop} {x1 : Int64} {x3 : Int64} {x5 : Int32} {s1 : Int64}  (k1 : ks_W L xs mX2_divide rm_X2_divide 104 [(0, .ref 16), (3, .long x3), (5, .int x5)] [.long x1, .ref 16, .ref 16] (uj_ σ 1 s1) mc ms P) : ks_W L xs mX2_divide rm_X2_divide 98 [(0, .ref 16), (1, .long x1), (3, .long x3), (5, .int x5)] [.long s1, .ref 16] σ mc ms P := by
  refine pf_X2_7 d_X2_divide_98 rfl fl_X2_35 ?_
  refine ka_aload_n d_X2_divide_101 rfl rfl 0 rfl ?_
  refine ka_aload_n d_X2_divide_102 rfl rfl 0 rfl ?_
  refine ka_lload_n d_X2_divide_103 rfl rfl 1 rfl ?_
  refine ka_sub [0, 2, 3] rfl ?_
  exact k1
theorem cs_X2_divide_104 {L : Nat} {xs : Nat → Int32} {σ : ks_St} {mc ms : Nat} {P : ka_O → ks_St → Prop} {f : Int32 → ks_St → Prop} {x3 : Int64} {x5 : Int32} {s2 : Int64} (hK : ks_M L xs mX2_powerOf rm_X2_powerOf [.ref 16, .long s2] σ (pi_ f)) (kr : ∀ r σ', f r σ' → ks_W L xs mX2_divide rm_X2_divide 107 [(0, .ref 16), (3, .long x3), (5, .int x5)] [.int r, .ref 16] σ' mc ms P) : ks_W L xs mX2_divide rm_X2_divide 104 [(0, .ref 16), (3, .long x3), (5, .int x5)] [.long s2, .ref 16, .ref 16] σ mc ms P := by
  refine ks_callV (q := 107) (o := 16) (ci := 3) (As := [.long s2]) (st := [.ref 16]) d_X2_divide_104 rfl rfl (by decide) rfl rfl lk_X2_86 ⟨by decide, by decide⟩ (Nat.le_of_ble_eq_true rfl) ⟨Nat.le_refl _, Nat.le_refl _⟩ hK (fun v σ' hq => ?_) (fun E σ' hq => ?_)
  · obtain ⟨r, e, hf⟩ := hq; cases e; exact kr r σ' hf
  · obtain ⟨r, e, hf⟩ := hq; cases e
theorem sg_X2_divide_107 {L : Nat} {xs : Nat → Int32} {σ : ks_St} {mc ms : Nat} {P : ka_O → ks_St → Prop} {x3 : Int64} {x5 : Int32} {s1 : Int32}  (k1 : ks_W L xs mX2_divide rm_X2_divide 112 [] [.long x3, .ref 16, .int (s1 - x5), .ref 16] σ mc ms P) : ks_W L xs mX2_divide rm_X2_divide 107 [(0, .ref 16), (3, .long x3), (5, .int x5)] [.int s1, .ref 16] σ mc ms P := by
  refine ka_iload d_X2_divide_107 rfl 2 rfl ?_
  refine ka_isub d_X2_divide_109 rfl ?_
  refine ka_aload_n d_X2_divide_110 rfl rfl 0 rfl ?_
  refine ka_lload_n d_X2_divide_111 rfl rfl 1 rfl ?_
  refine ka_sub [] rfl ?_
  exact k1
theorem cs_X2_divide_112 {L : Nat} {xs : Nat → Int32} {σ : ks_St} {mc ms : Nat} {P : ka_O → ks_St → Prop} {f : Int32 → ks_St → Prop} {s1 : Int32} {s3 : Int64} (hK : ks_M L xs mX2_powerOf rm_X2_powerOf [.ref 16, .long s3] σ (pi_ f)) (kr : ∀ r σ', f r σ' → ks_W L xs mX2_divide rm_X2_divide 115 [] [.int r, .int s1, .ref 16] σ' mc ms P) : ks_W L xs mX2_divide rm_X2_divide 112 [] [.long s3, .ref 16, .int s1, .ref 16] σ mc ms P := by
  refine ks_callV (q := 115) (o := 16) (ci := 3) (As := [.long s3]) (st := [.int s1, .ref 16]) d_X2_divide_112 rfl rfl (by decide) rfl rfl lk_X2_86 ⟨by decide, by decide⟩ (Nat.le_of_ble_eq_true rfl) ⟨Nat.le_refl _, Nat.le_refl _⟩ hK (fun v σ' hq => ?_) (fun E σ' hq => ?_)
  · obtain ⟨r, e, hf⟩ := hq; cases e; exact kr r σ' hf
  · obtain ⟨r, e, hf⟩ := hq; cases e
theorem sg_X2_divide_115 {L : Nat} {xs : Nat → Int32} {σ : ks_St} {mc ms : Nat} {P : ka_O → ks_St → Prop} {s1 : Int32} {s2 : Int32}  (r1 : P (.inl none) (ui_ σ 13 (s1 - s2))) : ks_W L xs mX2_divide rm_X2_divide 115 [] [.int s2, .int s1, .ref 16] σ mc ms P := by
  refine ka_isub d_X2_divide_115 rfl ?_
  refine pf_X2_8 d_X2_divide_116 rfl fl_X2_38 ?_
  exact ks_vret d_X2_divide_119 rfl r1
theorem d_X2_multiply_0 : decode cX2_multiply 0 = .ok (.aload_n 0, 1) := by decide +kernel
theorem d_X2_multiply_1 : decode cX2_multiply 1 = .ok (.aload_n 0, 1) := by decide +kernel
theorem d_X2_multiply_2 : decode cX2_multiply 2 = .ok (.lload_n 1, 1) := by decide +kernel
theorem d_X2_multiply_3 : decode cX2_multiply 3 = .ok (.invokevirtual 72, 3) := by decide +kernel
theorem d_X2_multiply_6 : decode cX2_multiply 6 = .ok (.aload_n 0, 1) := by decide +kernel
theorem d_X2_multiply_7 : decode cX2_multiply 7 = .ok (.lload_n 3, 1) := by decide +kernel
theorem d_X2_multiply_8 : decode cX2_multiply 8 = .ok (.invokevirtual 72, 3) := by decide +kernel
theorem d_X2_multiply_11 : decode cX2_multiply 11 = .ok (.if_icmp .eq 7, 3) := by decide +kernel
theorem d_X2_multiply_14 : decode cX2_multiply 14 = .ok (.iconst 1, 1) := by decide +kernel
theorem d_X2_multiply_15 : decode cX2_multiply 15 = .ok (.goto 4, 3) := by decide +kernel
theorem d_X2_multiply_18 : decode cX2_multiply 18 = .ok (.iconst 0, 1) := by decide +kernel
theorem d_X2_multiply_19 : decode cX2_multiply 19 = .ok (.putfield 31, 3) := by decide +kernel
theorem d_X2_multiply_22 : decode cX2_multiply 22 = .ok (.aload_n 0, 1) := by decide +kernel
theorem d_X2_multiply_23 : decode cX2_multiply 23 = .ok (.aload_n 0, 1) := by decide +kernel
theorem d_X2_multiply_24 : decode cX2_multiply 24 = .ok (.lload_n 1, 1) := by decide +kernel
theorem d_X2_multiply_25 : decode cX2_multiply 25 = .ok (.invokevirtual 96, 3) := by decide +kernel
theorem d_X2_multiply_28 : decode cX2_multiply 28 = .ok (.aload_n 0, 1) := by decide +kernel
theorem d_X2_multiply_29 : decode cX2_multiply 29 = .ok (.lload_n 3, 1) := by decide +kernel
theorem d_X2_multiply_30 : decode cX2_multiply 30 = .ok (.invokevirtual 96, 3) := by decide +kernel
theorem d_X2_multiply_33 : decode cX2_multiply 33 = .ok (.lmul, 1) := by decide +kernel
theorem d_X2_multiply_34 : decode cX2_multiply 34 = .ok (.putfield 35, 3) := by decide +kernel
theorem d_X2_multiply_37 : decode cX2_multiply 37 = .ok (.aload_n 0, 1) := by decide +kernel
theorem d_X2_multiply_38 : decode cX2_multiply 38 = .ok (.aload_n 0, 1) := by decide +kernel
theorem d_X2_multiply_39 : decode cX2_multiply 39 = .ok (.lload_n 1, 1) := by decide +kernel
theorem d_X2_multiply_40 : decode cX2_multiply 40 = .ok (.invokevirtual 86, 3) := by decide +kernel
theorem d_X2_multiply_43 : decode cX2_multiply 43 = .ok (.aload_n 0, 1) := by decide +kernel
theorem d_X2_multiply_44 : decode cX2_multiply 44 = .ok (.lload_n 3, 1) := by decide +kernel
theorem d_X2_multiply_45 : decode cX2_multiply 45 = .ok (.invokevirtual 86, 3) := by decide +kernel
theorem d_X2_multiply_48 : decode cX2_multiply 48 = .ok (.iadd, 1) := by decide +kernel
theorem d_X2_multiply_49 : decode cX2_multiply 49 = .ok (.putfield 38, 3) := by decide +kernel
theorem d_X2_multiply_52 : decode cX2_multiply 52 = .ok (.return_, 1) := by decide +kernel
theorem sg_X2_multiply_0 {L : Nat} {xs : Nat → Int32} {σ : ks_St} {mc ms : Nat} {P : ka_O → ks_St → Prop} {x1 : Int64} {x3 : Int64}  (k1 : ks_W L xs mX2_multiply rm_X2_multiply 3 [(0, .ref 16), (1, .long x1), (3, .long x3)] [.long x1, .ref 16, .ref 16] σ mc ms P) : ks_W L xs mX2_multiply rm_X2_multiply 0 [(0, .ref 16), (1, .long x1), (3, .long x3)] [] σ mc ms P := by
  refine ka_aload_n d_X2_multiply_0 rfl rfl 0 rfl ?_
  refine ka_aload_n d_X2_multiply_1 rfl rfl 0 rfl ?_
  refine ka_lload_n d_X2_multiply_2 rfl rfl 1 rfl ?_
  exact k1
theorem cs_X2_multiply_3 {L : Nat} {xs : Nat → Int32} {σ : ks_St} {mc ms : Nat} {P : ka_O → ks_St → Prop} {f : Int32 → ks_St → Prop} {x1 : Int64} {x3 : Int64} {s2 : Int64} (hK : ks_M L xs mX2_signOf rm_X2_signOf [.ref 16, .long s2] σ (pi_ f)) (kr : ∀ r σ', f r σ' → ks_W L xs mX2_multiply rm_X2_multiply 6 [(0, .ref 16), (1, .long x1), (3, .long x3)] [.int r, .ref 16] σ' mc ms P) : ks_W L xs mX2_multiply rm_X2_multiply 3 [(0, .ref 16), (1, .long x1), (3, .long x3)] [.long s2, .ref 16, .ref 16] σ mc ms P := by
  refine ks_callV (q := 6) (o := 16) (ci := 3) (As := [.long s2]) (st := [.ref 16]) d_X2_multiply_3 rfl rfl (by decide) rfl rfl lk_X2_72 ⟨by decide, by decide⟩ (Nat.le_of_ble_eq_true rfl) ⟨Nat.le_refl _, Nat.le_refl _⟩ hK (fun v σ' hq => ?_) (fun E σ' hq => ?_)
  · obtain ⟨r, e, hf⟩ := hq; cases e; exact kr r σ' hf
  · obtain ⟨r, e, hf⟩ := hq; cases e
theorem sg_X2_multiply_6 {L : Nat} {xs : Nat → Int32} {σ : ks_St} {mc ms : Nat} {P : ka_O → ks_St → Prop} {x1 : Int64} {x3 : Int64} {s1 : Int32}  (k1 : ks_W L xs mX2_multiply rm_X2_multiply 8 [(0, .ref 16), (1, .long x1), (3, .long x3)] [.long x3, .ref 16, .int s1, .ref 16] σ mc ms P) : ks_W L xs mX2_multiply rm_X2_multiply 6 [(0, .ref 16), (1, .long x1), (3, .long x3)] [.int s1, .ref 16] σ mc ms P := by
  refine ka_aload_n d_X2_multiply_6 rfl rfl 0 rfl ?_
  refine ka_lload_n d_X2_multiply_7 rfl rfl 2 rfl ?_
  exact k1
theorem cs_X2_multiply_8 {L : Nat} {xs : Nat → Int32} {σ : ks_St} {mc ms : Nat} {P : ka_O → ks_St → Prop} {f : Int32 → ks_St → Prop} {x1 : Int64} {x3 : Int64} {s1 : Int32} {s3 : Int64} (hK : ks_M L xs mX2_signOf rm_X2_signOf [.ref 16, .long s3] σ (pi_ f)) (kr : ∀ r σ', f r σ' → ks_W L xs mX2_multiply rm_X2_multiply 11 [(0, .ref 16), (1, .long x1), (3, .long x3)] [.int r, .int s1, .ref 16] σ' mc ms P) : ks_W L xs mX2_multiply rm_X2_multiply 8 [(0, .ref 16), (1, .long x1), (3, .long x3)] [.long s3, .ref 16, .int s1, .ref 16] σ mc ms P := by
  refine ks_callV (q := 11) (o := 16) (ci := 3) (As := [.long s3]) (st := [.int s1, .ref 16]) d_X2_multiply_8 rfl rfl (by decide) rfl rfl lk_X2_72 ⟨by decide, by decide⟩ (Nat.le_of_ble_eq_true rfl) ⟨Nat.le_refl _, Nat.le_refl _⟩ hK (fun v σ' hq => ?_) (fun E σ' hq => ?_)
  · obtain ⟨r, e, hf⟩ := hq; cases e; exact kr r σ' hf
  · obtain ⟨r, e, hf⟩ := hq; cases e
theorem sg_X2_multiply_11 {L : Nat} {xs : Nat → Int32} {σ : ks_St} {mc ms : Nat} {P : ka_O → ks_St → Prop} {x1 : Int64} {x3 : Int64} {s1 : Int32} {s2 : Int32}  (k2 : (s1 = s2) → ks_W L xs mX2_multiply rm_X2_multiply 19 [(0, .ref 16), (1, .long x1), (3, .long x3)] [.int 0, .ref 16] σ mc ms P) (k3 : (¬ (s1 = s2)) → ks_W L xs mX2_multiply rm_X2_multiply 19 [(0, .ref 16), (1, .long x1), (3, .long x3)] [.int 1, .ref 16] σ mc ms P) : ks_W L xs mX2_multiply rm_X2_multiply 11 [(0, .ref 16), (1, .long x1), (3, .long x3)] [.int s2, .int s1, .ref 16] σ mc ms P := by
  refine ka_icmp_eq (tgt := 18) d_X2_multiply_11 (by decide) rfl (fun c1 => ?_) (fun c1 => ?_)
  · refine ka_iconst (v := 0) d_X2_multiply_18 rfl (by decide) ?_
    exact (k2 c1)
  · refine ka_iconst (v := 1) d_X2_multiply_14 rfl (by decide) ?_
    refine ka_goto (q := 19) d_X2_multiply_15 (by decide) ?_
    exact (k3 c1)
theorem sg_X2_multiply_19 {L : Nat} {xs : Nat → Int32} {σ : ks_St} {mc ms : Nat} {P : ka_O → ks_St → Prop} {x1 : Int64} {x3 : Int64} {s1 : Int32}  (b1 : s1 = 0 ∨ s1 = 1) (k2 : ks_W L xs mX2_multiply rm_X2_multiply 25 [(0, .ref 16), (1, .long x1), (3, .long x3)] [.long x1, .ref 16, .ref 16] (ui_ σ 12 s1) mc ms P) : ks_W L xs mX2_multiply rm_X2_multiply 19 [(0, .ref 16), (1, .long x1), (3, .long x3)] [.int s1, .ref 16] σ mc ms P := by
  refine pf_X2_6 d_X2_multiply_19 rfl fl_X2_31 b1 ?_
  refine ka_aload_n d_X2_multiply_22 rfl rfl 0 rfl ?_
  refine ka_aload_n d_X2_multiply_23 rfl rfl 0 rfl ?_
  refine ka_lload_n d_X2_multiply_24 rfl rfl 1 rfl ?_
  exact k2
theorem cs_X2_multiply_25 {L : Nat} {xs : Nat → Int32} {σ : ks_St} {mc ms : Nat} {P : ka_O → ks_St → Prop} {f : Int64 → ks_St → Prop} {x1 : Int64} {x3 : Int64} {s2 : Int64} (hK : ks_M L xs mX2_wholeOf rm_X2_wholeOf [.ref 16, .long s2] σ (pl_ f)) (kr : ∀ r σ', f r σ' → ks_W L xs mX2_multiply rm_X2_multiply 28 [(0, .ref 16), (1, .long x1), (3, .long x3)] [.long r, .ref 16] σ' mc ms P) : ks_W L xs mX2_multiply rm_X2_multiply 25 [(0, .ref 16), (1, .long x1), (3, .long x3)] [.long s2, .ref 16, .ref 16] σ mc ms P := by
  refine ks_callV (q := 28) (o := 16) (ci := 3) (As := [.long s2]) (st := [.ref 16]) d_X2_multiply_25 rfl rfl (by decide) rfl rfl lk_X2_96 ⟨by decide, by decide⟩ (Nat.le_of_ble_eq_true rfl) ⟨Nat.le_refl _, Nat.le_refl _⟩ hK (fun v σ' hq => ?_) (fun E σ' hq => ?_)
  · obtain ⟨r, e, hf⟩ := hq; cases e; exact kr r σ' hf
  · obtain ⟨r, e, hf⟩ := hq; cases e
theorem sg_X2_multiply_28 {L : Nat} {xs : Nat → Int32} {σ : ks_St} {mc ms : Nat} {P : ka_O → ks_St → Prop} {x1 : Int64} {x3 : Int64} {s1 : Int64}  (k1 : ks_W L xs mX2_multiply rm_X2_multiply 30 [(0, .ref 16), (1, .long x1), (3, .long x3)] [.long x3, .ref 16, .long s1, .ref 16] σ mc ms P) : ks_W L xs mX2_multiply rm_X2_multiply 28 [(0, .ref 16), (1, .long x1), (3, .long x3)] [.long s1, .ref 16] σ mc ms P := by
  refine ka_aload_n d_X2_multiply_28 rfl rfl 0 rfl ?_
  refine ka_lload_n d_X2_multiply_29 rfl rfl 2 rfl ?_
  exact k1
theorem cs_X2_multiply_30 {L : Nat} {xs : Nat → Int32} {σ : ks_St} {mc ms : Nat} {P : ka_O → ks_St → Prop} {f : Int64 → ks_St → Prop} {x1 : Int64} {x3 : Int64} {s1 : Int64} {s3 : Int64} (hK : ks_M L xs mX2_wholeOf rm_X2_wholeOf [.ref 16, .long s3] σ (pl_ f)) (kr : ∀ r σ', f r σ' → ks_W L xs mX2_multiply rm_X2_multiply 33 [(0, .ref 16), (1, .long x1), (3, .long x3)] [.long r, .long s1, .ref 16] σ' mc ms P) : ks_W L xs mX2_multiply rm_X2_multiply 30 [(0, .ref 16), (1, .long x1), (3, .long x3)] [.long s3, .ref 16, .long s1, .ref 16] σ mc ms P := by
  refine ks_callV (q := 33) (o := 16) (ci := 3) (As := [.long s3]) (st := [.long s1, .ref 16]) d_X2_multiply_30 rfl rfl (by decide) rfl rfl lk_X2_96 ⟨by decide, by decide⟩ (Nat.le_of_ble_eq_true rfl) ⟨Nat.le_refl _, Nat.le_refl _⟩ hK (fun v σ' hq => ?_) (fun E σ' hq => ?_)
  · obtain ⟨r, e, hf⟩ := hq; cases e; exact kr r σ' hf
  · obtain ⟨r, e, hf⟩ := hq; cases e
theorem sg_X2_multiply_33 {L : Nat} {xs : Nat → Int32} {σ : ks_St} {mc ms : Nat} {P : ka_O → ks_St → Prop} {x1 : Int64} {x3 : Int64} {s1 : Int64} {s2 : Int64}  (k1 : ks_W L xs mX2_multiply rm_X2_multiply 40 [(0, .ref 16), (3, .long x3)] [.long x1, .ref 16, .ref 16] (uj_ σ 1 (s1 * s2)) mc ms P) : ks_W L xs mX2_multiply rm_X2_multiply 33 [(0, .ref 16), (1, .long x1), (3, .long x3)] [.long s2, .long s1, .ref 16] σ mc ms P := by
  refine ka_lmul d_X2_multiply_33 rfl ?_
  refine pf_X2_7 d_X2_multiply_34 rfl fl_X2_35 ?_
  refine ka_aload_n d_X2_multiply_37 rfl rfl 0 rfl ?_
  refine ka_aload_n d_X2_multiply_38 rfl rfl 0 rfl ?_
  refine ka_lload_n d_X2_multiply_39 rfl rfl 1 rfl ?_
  refine ka_sub [0, 2] rfl ?_
  exact k1
theorem cs_X2_multiply_40 {L : Nat} {xs : Nat → Int32} {σ : ks_St} {mc ms : Nat} {P : ka_O → ks_St → Prop} {f : Int32 → ks_St → Prop} {x3 : Int64} {s2 : Int64} (hK : ks_M L xs mX2_powerOf rm_X2_powerOf [.ref 16, .long s2] σ (pi_ f)) (kr : ∀ r σ', f r σ' → ks_W L xs mX2_multiply rm_X2_multiply 43 [(0, .ref 16), (3, .long x3)] [.int r, .ref 16] σ' mc ms P) : ks_W L xs mX2_multiply rm_X2_multiply 40 [(0, .ref 16), (3, .long x3)] [.long s2, .ref 16, .ref 16] σ mc ms P := by
  refine ks_callV (q := 43) (o := 16) (ci := 3) (As := [.long s2]) (st := [.ref 16]) d_X2_multiply_40 rfl rfl (by decide) rfl rfl lk_X2_86 ⟨by decide, by decide⟩ (Nat.le_of_ble_eq_true rfl) ⟨Nat.le_refl _, Nat.le_refl _⟩ hK (fun v σ' hq => ?_) (fun E σ' hq => ?_)
  · obtain ⟨r, e, hf⟩ := hq; cases e; exact kr r σ' hf
  · obtain ⟨r, e, hf⟩ := hq; cases e
theorem sg_X2_multiply_43 {L : Nat} {xs : Nat → Int32} {σ : ks_St} {mc ms : Nat} {P : ka_O → ks_St → Prop} {x3 : Int64} {s1 : Int32}  (k1 : ks_W L xs mX2_multiply rm_X2_multiply 45 [] [.long x3, .ref 16, .int s1, .ref 16] σ mc ms P) : ks_W L xs mX2_multiply rm_X2_multiply 43 [(0, .ref 16), (3, .long x3)] [.int s1, .ref 16] σ mc ms P := by
  refine ka_aload_n d_X2_multiply_43 rfl rfl 0 rfl ?_
  refine ka_lload_n d_X2_multiply_44 rfl rfl 1 rfl ?_
  refine ka_sub [] rfl ?_
  exact k1
theorem cs_X2_multiply_45 {L : Nat} {xs : Nat → Int32} {σ : ks_St} {mc ms : Nat} {P : ka_O → ks_St → Prop} {f : Int32 → ks_St → Prop} {s1 : Int32} {s3 : Int64} (hK : ks_M L xs mX2_powerOf rm_X2_powerOf [.ref 16, .long s3] σ (pi_ f)) (kr : ∀ r σ', f r σ' → ks_W L xs mX2_multiply rm_X2_multiply 48 [] [.int r, .int s1, .ref 16] σ' mc ms P) : ks_W L xs mX2_multiply rm_X2_multiply 45 [] [.long s3, .ref 16, .int s1, .ref 16] σ mc ms P := by
  refine ks_callV (q := 48) (o := 16) (ci := 3) (As := [.long s3]) (st := [.int s1, .ref 16]) d_X2_multiply_45 rfl rfl (by decide) rfl rfl lk_X2_86 ⟨by decide, by decide⟩ (Nat.le_of_ble_eq_true rfl) ⟨Nat.le_refl _, Nat.le_refl _⟩ hK (fun v σ' hq => ?_) (fun E σ' hq => ?_)
  · obtain ⟨r, e, hf⟩ := hq; cases e; exact kr r σ' hf
  · obtain ⟨r, e, hf⟩ := hq; cases e
theorem sg_X2_multiply_48 {L : Nat} {xs : Nat → Int32} {σ : ks_St} {mc ms : Nat} {P : ka_O → ks_St → Prop} {s1 : Int32} {s2 : Int32}  (r1 : P (.inl none) (ui_ σ 13 (s1 + s2))) : ks_W L xs mX2_multiply rm_X2_multiply 48 [] [.int s2, .int s1, .ref 16] σ mc ms P := by
  refine ka_iadd d_X2_multiply_48 rfl ?_
  refine pf_X2_8 d_X2_multiply_49 rfl fl_X2_38 ?_
  exact ks_vret d_X2_multiply_52 rfl r1
theorem d_X2_movedDown_0 : decode cX2_movedDown 0 = .ok (.iload_n 2, 1) := by decide +kernel
theorem d_X2_movedDown_1 : decode cX2_movedDown 1 = .ok (.bipush 62, 2) := by decide +kernel
theorem d_X2_movedDown_3 : decode cX2_movedDown 3 = .ok (.invokestatic 90, 3) := by decide +kernel
theorem d_X2_movedDown_6 : decode cX2_movedDown 6 = .ok (.istore_n 3, 1) := by decide +kernel
theorem d_X2_movedDown_7 : decode cX2_movedDown 7 = .ok (.lload_n 0, 1) := by decide +kernel
theorem d_X2_movedDown_8 : decode cX2_movedDown 8 = .ok (.iload_n 3, 1) := by decide +kernel
theorem d_X2_movedDown_9 : decode cX2_movedDown 9 = .ok (.lushr, 1) := by decide +kernel
theorem d_X2_movedDown_10 : decode cX2_movedDown 10 = .ok (.lstore 4, 2) := by decide +kernel
theorem d_X2_movedDown_12 : decode cX2_movedDown 12 = .ok (.lload 4, 2) := by decide +kernel
theorem d_X2_movedDown_14 : decode cX2_movedDown 14 = .ok (.iload_n 3, 1) := by decide +kernel
theorem d_X2_movedDown_15 : decode cX2_movedDown 15 = .ok (.lshl, 1) := by decide +kernel
theorem d_X2_movedDown_16 : decode cX2_movedDown 16 = .ok (.lload_n 0, 1) := by decide +kernel
theorem d_X2_movedDown_17 : decode cX2_movedDown 17 = .ok (.lcmp, 1) := by decide +kernel
theorem d_X2_movedDown_18 : decode cX2_movedDown 18 = .ok (.ifCond .ne 8, 3) := by decide +kernel
theorem d_X2_movedDown_21 : decode cX2_movedDown 21 = .ok (.lload 4, 2) := by decide +kernel
theorem d_X2_movedDown_23 : decode cX2_movedDown 23 = .ok (.goto 7, 3) := by decide +kernel
theorem d_X2_movedDown_26 : decode cX2_movedDown 26 = .ok (.lload 4, 2) := by decide +kernel
theorem d_X2_movedDown_28 : decode cX2_movedDown 28 = .ok (.lconst 1, 1) := by decide +kernel
theorem d_X2_movedDown_29 : decode cX2_movedDown 29 = .ok (.lor, 1) := by decide +kernel
theorem d_X2_movedDown_30 : decode cX2_movedDown 30 = .ok (.lreturn, 1) := by decide +kernel
theorem sg_X2_movedDown_0 {L : Nat} {xs : Nat → Int32} {σ : ks_St} {mc ms : Nat} {P : ka_O → ks_St → Prop} {x0 : Int64} {x2 : Int32}  (k1 : ks_W L xs mX2_movedDown rm_X2_movedDown 3 [(0, .long x0)] [.int 62, .int x2] σ mc ms P) : ks_W L xs mX2_movedDown rm_X2_movedDown 0 [(0, .long x0), (2, .int x2)] [] σ mc ms P := by
  refine ka_iload_n d_X2_movedDown_0 rfl rfl 1 rfl ?_
  refine ka_bipush (v := 62) d_X2_movedDown_1 rfl (by decide) ?_
  refine ka_sub [0] rfl ?_
  exact k1
theorem cs_X2_movedDown_3 {L : Nat} {xs : Nat → Int32} {σ : ks_St} {mc ms : Nat} {P : ka_O → ks_St → Prop} {f : Int32 → ks_St → Prop} {x0 : Int64} {s0 : Int32} {s1 : Int32} (hK : ks_M L xs mM_min rm_M_min [.int s0, .int s1] σ (pi_ f)) (kr : ∀ r σ', f r σ' → ks_W L xs mX2_movedDown rm_X2_movedDown 6 [(0, .long x0)] [.int r] σ' mc ms P) : ks_W L xs mX2_movedDown rm_X2_movedDown 3 [(0, .long x0)] [.int s1, .int s0] σ mc ms P := by
  refine ks_callS (q := 6) (As := [.int s0, .int s1]) (st := []) d_X2_movedDown_3 rfl rfl lk_X2_90 ⟨by decide, by decide⟩ (Nat.le_of_ble_eq_true rfl) ⟨Nat.le_refl _, Nat.le_refl _⟩ hK (fun v σ' hq => ?_) (fun E σ' hq => ?_)
  · obtain ⟨r, e, hf⟩ := hq; cases e; exact kr r σ' hf
  · obtain ⟨r, e, hf⟩ := hq; cases e
theorem sg_X2_movedDown_6 {L : Nat} {xs : Nat → Int32} {σ : ks_St} {mc ms : Nat} {P : ka_O → ks_St → Prop} {x0 : Int64} {s0 : Int32}  (k2 : (¬ (lg_cmp ((((x0).toUInt64 >>> ((s0).toInt64.toUInt64 &&& Int64.toUInt64 63)).toInt64) <<< ((s0).toInt64 &&& 63)) x0) = 0) → ks_W L xs mX2_movedDown rm_X2_movedDown 30 [] [.long ((((x0).toUInt64 >>> ((s0).toInt64.toUInt64 &&& Int64.toUInt64 63)).toInt64) ||| 1)] σ mc ms P) (k3 : ((lg_cmp ((((x0).toUInt64 >>> ((s0).toInt64.toUInt64 &&& Int64.toUInt64 63)).toInt64) <<< ((s0).toInt64 &&& 63)) x0) = 0) → ks_W L xs mX2_movedDown rm_X2_movedDown 30 [] [.long (((x0).toUInt64 >>> ((s0).toInt64.toUInt64 &&& Int64.toUInt64 63)).toInt64)] σ mc ms P) : ks_W L xs mX2_movedDown rm_X2_movedDown 6 [(0, .long x0)] [.int s0] σ mc ms P := by
  refine ka_istore_n (ls' := [(3, .int s0), (0, .long x0)]) d_X2_movedDown_6 rfl rfl (by decide) rfl ?_
  refine ka_lload_n d_X2_movedDown_7 rfl rfl 1 rfl ?_
  refine ka_iload_n d_X2_movedDown_8 rfl rfl 0 rfl ?_
  refine ka_lushr d_X2_movedDown_9 rfl ?_
  refine ka_lstore (ls' := [(4, .long (((x0).toUInt64 >>> ((s0).toInt64.toUInt64 &&& Int64.toUInt64 63)).toInt64)), (3, .int s0), (0, .long x0)]) d_X2_movedDown_10 rfl (by decide) rfl ?_
  refine ka_lload d_X2_movedDown_12 rfl 0 rfl ?_
  refine ka_iload_n d_X2_movedDown_14 rfl rfl 1 rfl ?_
  refine ka_lshl d_X2_movedDown_15 rfl ?_
  refine ka_lload_n d_X2_movedDown_16 rfl rfl 2 rfl ?_
  refine ka_lcmp d_X2_movedDown_17 rfl ?_
  refine ka_if_ne (tgt := 26) d_X2_movedDown_18 (by decide) rfl (fun c1 => ?_) (fun c1 => ?_)
  · refine ka_lload d_X2_movedDown_26 rfl 0 rfl ?_
    refine ka_lconst (v := 1) d_X2_movedDown_28 rfl (by decide) ?_
    refine ka_lor d_X2_movedDown_29 rfl ?_
    refine ka_sub [] rfl ?_
    exact (k2 c1)
  · refine ka_lload d_X2_movedDown_21 rfl 0 rfl ?_
    refine ka_goto (q := 30) d_X2_movedDown_23 (by decide) ?_
    refine ka_sub [] rfl ?_
    exact (k3 c1)
theorem sg_X2_movedDown_30 {L : Nat} {xs : Nat → Int32} {σ : ks_St} {mc ms : Nat} {P : ka_O → ks_St → Prop} {s0 : Int64}  (r1 : P (.inl (some (.long s0))) σ) : ks_W L xs mX2_movedDown rm_X2_movedDown 30 [] [.long s0] σ mc ms P := by
  exact ks_lret d_X2_movedDown_30 rfl r1
theorem d_X2_add_0 : decode cX2_add 0 = .ok (.aload_n 0, 1) := by decide +kernel
theorem d_X2_add_1 : decode cX2_add 1 = .ok (.lload_n 1, 1) := by decide +kernel
theorem d_X2_add_2 : decode cX2_add 2 = .ok (.invokevirtual 72, 3) := by decide +kernel
theorem d_X2_add_5 : decode cX2_add 5 = .ok (.aload_n 0, 1) := by decide +kernel
theorem d_X2_add_6 : decode cX2_add 6 = .ok (.lload_n 3, 1) := by decide +kernel
theorem d_X2_add_7 : decode cX2_add 7 = .ok (.invokevirtual 72, 3) := by decide +kernel
theorem d_X2_add_10 : decode cX2_add 10 = .ok (.if_icmp .eq 7, 3) := by decide +kernel
theorem d_X2_add_13 : decode cX2_add 13 = .ok (.iconst 1, 1) := by decide +kernel
theorem d_X2_add_14 : decode cX2_add 14 = .ok (.goto 4, 3) := by decide +kernel
theorem d_X2_add_17 : decode cX2_add 17 = .ok (.iconst 0, 1) := by decide +kernel
theorem d_X2_add_18 : decode cX2_add 18 = .ok (.istore 5, 2) := by decide +kernel
theorem d_X2_add_20 : decode cX2_add 20 = .ok (.aload_n 0, 1) := by decide +kernel
theorem d_X2_add_21 : decode cX2_add 21 = .ok (.lload_n 1, 1) := by decide +kernel
theorem d_X2_add_22 : decode cX2_add 22 = .ok (.invokevirtual 86, 3) := by decide +kernel
theorem d_X2_add_25 : decode cX2_add 25 = .ok (.aload_n 0, 1) := by decide +kernel
theorem d_X2_add_26 : decode cX2_add 26 = .ok (.lload_n 3, 1) := by decide +kernel
theorem d_X2_add_27 : decode cX2_add 27 = .ok (.invokevirtual 86, 3) := by decide +kernel
theorem d_X2_add_30 : decode cX2_add 30 = .ok (.if_icmp .lt 7, 3) := by decide +kernel
theorem d_X2_add_33 : decode cX2_add 33 = .ok (.iconst 1, 1) := by decide +kernel
theorem d_X2_add_34 : decode cX2_add 34 = .ok (.goto 4, 3) := by decide +kernel
theorem d_X2_add_37 : decode cX2_add 37 = .ok (.iconst 0, 1) := by decide +kernel
theorem d_X2_add_38 : decode cX2_add 38 = .ok (.istore 6, 2) := by decide +kernel
theorem d_X2_add_40 : decode cX2_add 40 = .ok (.iload 6, 2) := by decide +kernel
theorem d_X2_add_42 : decode cX2_add 42 = .ok (.ifCond .eq 7, 3) := by decide +kernel
theorem d_X2_add_45 : decode cX2_add 45 = .ok (.lload_n 1, 1) := by decide +kernel
theorem d_X2_add_46 : decode cX2_add 46 = .ok (.goto 4, 3) := by decide +kernel
theorem d_X2_add_49 : decode cX2_add 49 = .ok (.lload_n 3, 1) := by decide +kernel
theorem d_X2_add_50 : decode cX2_add 50 = .ok (.lstore 7, 2) := by decide +kernel
theorem d_X2_add_52 : decode cX2_add 52 = .ok (.iload 6, 2) := by decide +kernel
theorem d_X2_add_54 : decode cX2_add 54 = .ok (.ifCond .eq 7, 3) := by decide +kernel
theorem d_X2_add_57 : decode cX2_add 57 = .ok (.lload_n 3, 1) := by decide +kernel
theorem d_X2_add_58 : decode cX2_add 58 = .ok (.goto 4, 3) := by decide +kernel
theorem d_X2_add_61 : decode cX2_add 61 = .ok (.lload_n 1, 1) := by decide +kernel
theorem d_X2_add_62 : decode cX2_add 62 = .ok (.lstore 9, 2) := by decide +kernel
theorem d_X2_add_64 : decode cX2_add 64 = .ok (.aload_n 0, 1) := by decide +kernel
theorem d_X2_add_65 : decode cX2_add 65 = .ok (.lload 7, 2) := by decide +kernel
theorem d_X2_add_67 : decode cX2_add 67 = .ok (.invokevirtual 86, 3) := by decide +kernel
theorem d_X2_add_70 : decode cX2_add 70 = .ok (.aload_n 0, 1) := by decide +kernel
theorem d_X2_add_71 : decode cX2_add 71 = .ok (.lload 9, 2) := by decide +kernel
theorem d_X2_add_73 : decode cX2_add 73 = .ok (.invokevirtual 86, 3) := by decide +kernel
theorem d_X2_add_76 : decode cX2_add 76 = .ok (.isub, 1) := by decide +kernel
theorem d_X2_add_77 : decode cX2_add 77 = .ok (.istore 11, 2) := by decide +kernel
theorem d_X2_add_79 : decode cX2_add 79 = .ok (.iload 11, 2) := by decide +kernel
theorem d_X2_add_81 : decode cX2_add 81 = .ok (.bipush 36, 2) := by decide +kernel
theorem d_X2_add_83 : decode cX2_add 83 = .ok (.invokestatic 90, 3) := by decide +kernel
theorem d_X2_add_86 : decode cX2_add 86 = .ok (.istore 12, 2) := by decide +kernel
theorem d_X2_add_88 : decode cX2_add 88 = .ok (.aload_n 0, 1) := by decide +kernel
theorem d_X2_add_89 : decode cX2_add 89 = .ok (.lload 7, 2) := by decide +kernel
theorem d_X2_add_91 : decode cX2_add 91 = .ok (.invokevirtual 96, 3) := by decide +kernel
theorem d_X2_add_94 : decode cX2_add 94 = .ok (.iload 12, 2) := by decide +kernel
theorem d_X2_add_96 : decode cX2_add 96 = .ok (.lshl, 1) := by decide +kernel
theorem d_X2_add_97 : decode cX2_add 97 = .ok (.lstore 13, 2) := by decide +kernel
theorem d_X2_add_99 : decode cX2_add 99 = .ok (.aload_n 0, 1) := by decide +kernel
theorem d_X2_add_100 : decode cX2_add 100 = .ok (.lload 9, 2) := by decide +kernel
theorem d_X2_add_102 : decode cX2_add 102 = .ok (.invokevirtual 96, 3) := by decide +kernel
theorem d_X2_add_105 : decode cX2_add 105 = .ok (.iload 11, 2) := by decide +kernel
theorem d_X2_add_107 : decode cX2_add 107 = .ok (.iload 12, 2) := by decide +kernel
theorem d_X2_add_109 : decode cX2_add 109 = .ok (.isub, 1) := by decide +kernel
theorem d_X2_add_110 : decode cX2_add 110 = .ok (.invokestatic 100, 3) := by decide +kernel
theorem d_X2_add_113 : decode cX2_add 113 = .ok (.lstore 15, 2) := by decide +kernel
theorem d_X2_add_115 : decode cX2_add 115 = .ok (.iload 5, 2) := by decide +kernel
theorem d_X2_add_117 : decode cX2_add 117 = .ok (.ifCond .eq 11, 3) := by decide +kernel
theorem d_X2_add_120 : decode cX2_add 120 = .ok (.lload 13, 2) := by decide +kernel
theorem d_X2_add_122 : decode cX2_add 122 = .ok (.lload 15, 2) := by decide +kernel
theorem d_X2_add_124 : decode cX2_add 124 = .ok (.lsub, 1) := by decide +kernel
theorem d_X2_add_125 : decode cX2_add 125 = .ok (.goto 8, 3) := by decide +kernel
theorem d_X2_add_128 : decode cX2_add 128 = .ok (.lload 13, 2) := by decide +kernel
theorem d_X2_add_130 : decode cX2_add 130 = .ok (.lload 15, 2) := by decide +kernel
theorem d_X2_add_132 : decode cX2_add 132 = .ok (.ladd, 1) := by decide +kernel
theorem d_X2_add_133 : decode cX2_add 133 = .ok (.lstore 17, 2) := by decide +kernel
theorem d_X2_add_135 : decode cX2_add 135 = .ok (.aload_n 0, 1) := by decide +kernel
theorem d_X2_add_136 : decode cX2_add 136 = .ok (.lload 17, 2) := by decide +kernel
theorem d_X2_add_138 : decode cX2_add 138 = .ok (.lconst 0, 1) := by decide +kernel
theorem d_X2_add_139 : decode cX2_add 139 = .ok (.lcmp, 1) := by decide +kernel
theorem d_X2_add_140 : decode cX2_add 140 = .ok (.ifCond .ge 9, 3) := by decide +kernel
theorem d_X2_add_143 : decode cX2_add 143 = .ok (.lload 17, 2) := by decide +kernel
theorem d_X2_add_145 : decode cX2_add 145 = .ok (.lneg, 1) := by decide +kernel
theorem d_X2_add_146 : decode cX2_add 146 = .ok (.goto 5, 3) := by decide +kernel
theorem d_X2_add_149 : decode cX2_add 149 = .ok (.lload 17, 2) := by decide +kernel
theorem d_X2_add_151 : decode cX2_add 151 = .ok (.putfield 35, 3) := by decide +kernel
theorem d_X2_add_154 : decode cX2_add 154 = .ok (.aload_n 0, 1) := by decide +kernel
theorem d_X2_add_155 : decode cX2_add 155 = .ok (.aload_n 0, 1) := by decide +kernel
theorem d_X2_add_156 : decode cX2_add 156 = .ok (.lload 7, 2) := by decide +kernel
theorem d_X2_add_158 : decode cX2_add 158 = .ok (.invokevirtual 86, 3) := by decide +kernel
theorem d_X2_add_161 : decode cX2_add 161 = .ok (.iload 12, 2) := by decide +kernel
theorem d_X2_add_163 : decode cX2_add 163 = .ok (.isub, 1) := by decide +kernel
theorem d_X2_add_164 : decode cX2_add 164 = .ok (.putfield 38, 3) := by decide +kernel
theorem d_X2_add_167 : decode cX2_add 167 = .ok (.aload_n 0, 1) := by decide +kernel
theorem d_X2_add_168 : decode cX2_add 168 = .ok (.aload_n 0, 1) := by decide +kernel
theorem d_X2_add_169 : decode cX2_add 169 = .ok (.lload 7, 2) := by decide +kernel
theorem d_X2_add_171 : decode cX2_add 171 = .ok (.invokevirtual 72, 3) := by decide +kernel
theorem d_X2_add_174 : decode cX2_add 174 = .ok (.lload 17, 2) := by decide +kernel
theorem d_X2_add_176 : decode cX2_add 176 = .ok (.lconst 0, 1) := by decide +kernel
theorem d_X2_add_177 : decode cX2_add 177 = .ok (.lcmp, 1) := by decide +kernel
theorem d_X2_add_178 : decode cX2_add 178 = .ok (.ifCond .ge 7, 3) := by decide +kernel
theorem d_X2_add_181 : decode cX2_add 181 = .ok (.iconst 1, 1) := by decide +kernel
theorem d_X2_add_182 : decode cX2_add 182 = .ok (.goto 4, 3) := by decide +kernel
theorem d_X2_add_185 : decode cX2_add 185 = .ok (.iconst 0, 1) := by decide +kernel
theorem d_X2_add_186 : decode cX2_add 186 = .ok (.if_icmp .eq 7, 3) := by decide +kernel
theorem d_X2_add_189 : decode cX2_add 189 = .ok (.iconst 1, 1) := by decide +kernel
theorem d_X2_add_190 : decode cX2_add 190 = .ok (.goto 4, 3) := by decide +kernel
theorem d_X2_add_193 : decode cX2_add 193 = .ok (.iconst 0, 1) := by decide +kernel
theorem d_X2_add_194 : decode cX2_add 194 = .ok (.putfield 31, 3) := by decide +kernel
theorem d_X2_add_197 : decode cX2_add 197 = .ok (.lload 17, 2) := by decide +kernel
theorem d_X2_add_199 : decode cX2_add 199 = .ok (.lconst 0, 1) := by decide +kernel
theorem d_X2_add_200 : decode cX2_add 200 = .ok (.lcmp, 1) := by decide +kernel
theorem d_X2_add_201 : decode cX2_add 201 = .ok (.ifCond .ne 33, 3) := by decide +kernel
theorem d_X2_add_204 : decode cX2_add 204 = .ok (.aload_n 0, 1) := by decide +kernel
theorem d_X2_add_205 : decode cX2_add 205 = .ok (.iload 5, 2) := by decide +kernel
theorem d_X2_add_207 : decode cX2_add 207 = .ok (.ifCond .eq 19, 3) := by decide +kernel
theorem d_X2_add_210 : decode cX2_add 210 = .ok (.aload_n 0, 1) := by decide +kernel
theorem d_X2_add_211 : decode cX2_add 211 = .ok (.getfield 13, 3) := by decide +kernel
theorem d_X2_add_214 : decode cX2_add 214 = .ok (.iconst 3, 1) := by decide +kernel
theorem d_X2_add_215 : decode cX2_add 215 = .ok (.if_icmp .ne 7, 3) := by decide +kernel
theorem d_X2_add_218 : decode cX2_add 218 = .ok (.iconst 1, 1) := by decide +kernel
theorem d_X2_add_219 : decode cX2_add 219 = .ok (.goto 12, 3) := by decide +kernel
theorem d_X2_add_222 : decode cX2_add 222 = .ok (.iconst 0, 1) := by decide +kernel
theorem d_X2_add_223 : decode cX2_add 223 = .ok (.goto 8, 3) := by decide +kernel
theorem d_X2_add_226 : decode cX2_add 226 = .ok (.aload_n 0, 1) := by decide +kernel
theorem d_X2_add_227 : decode cX2_add 227 = .ok (.lload_n 1, 1) := by decide +kernel
theorem d_X2_add_228 : decode cX2_add 228 = .ok (.invokevirtual 72, 3) := by decide +kernel
theorem d_X2_add_231 : decode cX2_add 231 = .ok (.putfield 31, 3) := by decide +kernel
theorem d_X2_add_234 : decode cX2_add 234 = .ok (.return_, 1) := by decide +kernel
theorem sg_X2_add_0 {L : Nat} {xs : Nat → Int32} {σ : ks_St} {mc ms : Nat} {P : ka_O → ks_St → Prop} {x1 : Int64} {x3 : Int64}  (k1 : ks_W L xs mX2_add rm_X2_add 2 [(0, .ref 16), (1, .long x1), (3, .long x3)] [.long x1, .ref 16] σ mc ms P) : ks_W L xs mX2_add rm_X2_add 0 [(0, .ref 16), (1, .long x1), (3, .long x3)] [] σ mc ms P := by
  refine ka_aload_n d_X2_add_0 rfl rfl 0 rfl ?_
  refine ka_lload_n d_X2_add_1 rfl rfl 1 rfl ?_
  exact k1
theorem cs_X2_add_2 {L : Nat} {xs : Nat → Int32} {σ : ks_St} {mc ms : Nat} {P : ka_O → ks_St → Prop} {f : Int32 → ks_St → Prop} {x1 : Int64} {x3 : Int64} {s1 : Int64} (hK : ks_M L xs mX2_signOf rm_X2_signOf [.ref 16, .long s1] σ (pi_ f)) (kr : ∀ r σ', f r σ' → ks_W L xs mX2_add rm_X2_add 5 [(0, .ref 16), (1, .long x1), (3, .long x3)] [.int r] σ' mc ms P) : ks_W L xs mX2_add rm_X2_add 2 [(0, .ref 16), (1, .long x1), (3, .long x3)] [.long s1, .ref 16] σ mc ms P := by
  refine ks_callV (q := 5) (o := 16) (ci := 3) (As := [.long s1]) (st := []) d_X2_add_2 rfl rfl (by decide) rfl rfl lk_X2_72 ⟨by decide, by decide⟩ (Nat.le_of_ble_eq_true rfl) ⟨Nat.le_refl _, Nat.le_refl _⟩ hK (fun v σ' hq => ?_) (fun E σ' hq => ?_)
  · obtain ⟨r, e, hf⟩ := hq; cases e; exact kr r σ' hf
  · obtain ⟨r, e, hf⟩ := hq; cases e
theorem sg_X2_add_5 {L : Nat} {xs : Nat → Int32} {σ : ks_St} {mc ms : Nat} {P : ka_O → ks_St → Prop} {x1 : Int64} {x3 : Int64} {s0 : Int32}  (k1 : ks_W L xs mX2_add rm_X2_add 7 [(0, .ref 16), (1, .long x1), (3, .long x3)] [.long x3, .ref 16, .int s0] σ mc ms P) : ks_W L xs mX2_add rm_X2_add 5 [(0, .ref 16), (1, .long x1), (3, .long x3)] [.int s0] σ mc ms P := by
  refine ka_aload_n d_X2_add_5 rfl rfl 0 rfl ?_
  refine ka_lload_n d_X2_add_6 rfl rfl 2 rfl ?_
  exact k1
theorem cs_X2_add_7 {L : Nat} {xs : Nat → Int32} {σ : ks_St} {mc ms : Nat} {P : ka_O → ks_St → Prop} {f : Int32 → ks_St → Prop} {x1 : Int64} {x3 : Int64} {s0 : Int32} {s2 : Int64} (hK : ks_M L xs mX2_signOf rm_X2_signOf [.ref 16, .long s2] σ (pi_ f)) (kr : ∀ r σ', f r σ' → ks_W L xs mX2_add rm_X2_add 10 [(0, .ref 16), (1, .long x1), (3, .long x3)] [.int r, .int s0] σ' mc ms P) : ks_W L xs mX2_add rm_X2_add 7 [(0, .ref 16), (1, .long x1), (3, .long x3)] [.long s2, .ref 16, .int s0] σ mc ms P := by
  refine ks_callV (q := 10) (o := 16) (ci := 3) (As := [.long s2]) (st := [.int s0]) d_X2_add_7 rfl rfl (by decide) rfl rfl lk_X2_72 ⟨by decide, by decide⟩ (Nat.le_of_ble_eq_true rfl) ⟨Nat.le_refl _, Nat.le_refl _⟩ hK (fun v σ' hq => ?_) (fun E σ' hq => ?_)
  · obtain ⟨r, e, hf⟩ := hq; cases e; exact kr r σ' hf
  · obtain ⟨r, e, hf⟩ := hq; cases e
theorem sg_X2_add_10 {L : Nat} {xs : Nat → Int32} {σ : ks_St} {mc ms : Nat} {P : ka_O → ks_St → Prop} {x1 : Int64} {x3 : Int64} {s0 : Int32} {s1 : Int32}  (k2 : (s0 = s1) → ks_W L xs mX2_add rm_X2_add 18 [(0, .ref 16), (1, .long x1), (3, .long x3)] [.int 0] σ mc ms P) (k3 : (¬ (s0 = s1)) → ks_W L xs mX2_add rm_X2_add 18 [(0, .ref 16), (1, .long x1), (3, .long x3)] [.int 1] σ mc ms P) : ks_W L xs mX2_add rm_X2_add 10 [(0, .ref 16), (1, .long x1), (3, .long x3)] [.int s1, .int s0] σ mc ms P := by
  refine ka_icmp_eq (tgt := 17) d_X2_add_10 (by decide) rfl (fun c1 => ?_) (fun c1 => ?_)
  · refine ka_iconst (v := 0) d_X2_add_17 rfl (by decide) ?_
    exact (k2 c1)
  · refine ka_iconst (v := 1) d_X2_add_13 rfl (by decide) ?_
    refine ka_goto (q := 18) d_X2_add_14 (by decide) ?_
    exact (k3 c1)
theorem sg_X2_add_18 {L : Nat} {xs : Nat → Int32} {σ : ks_St} {mc ms : Nat} {P : ka_O → ks_St → Prop} {x1 : Int64} {x3 : Int64} {s0 : Int32}  (k1 : ks_W L xs mX2_add rm_X2_add 22 [(0, .ref 16), (1, .long x1), (3, .long x3), (5, .int s0)] [.long x1, .ref 16] σ mc ms P) : ks_W L xs mX2_add rm_X2_add 18 [(0, .ref 16), (1, .long x1), (3, .long x3)] [.int s0] σ mc ms P := by
  refine ka_istore (ls' := [(5, .int s0), (0, .ref 16), (1, .long x1), (3, .long x3)]) d_X2_add_18 rfl (by decide) rfl ?_
  refine ka_aload_n d_X2_add_20 rfl rfl 1 rfl ?_
  refine ka_lload_n d_X2_add_21 rfl rfl 2 rfl ?_
  refine ka_sub [1, 2, 3, 0] rfl ?_
  exact k1
theorem cs_X2_add_22 {L : Nat} {xs : Nat → Int32} {σ : ks_St} {mc ms : Nat} {P : ka_O → ks_St → Prop} {f : Int32 → ks_St → Prop} {x1 : Int64} {x3 : Int64} {x5 : Int32} {s1 : Int64} (hK : ks_M L xs mX2_powerOf rm_X2_powerOf [.ref 16, .long s1] σ (pi_ f)) (kr : ∀ r σ', f r σ' → ks_W L xs mX2_add rm_X2_add 25 [(0, .ref 16), (1, .long x1), (3, .long x3), (5, .int x5)] [.int r] σ' mc ms P) : ks_W L xs mX2_add rm_X2_add 22 [(0, .ref 16), (1, .long x1), (3, .long x3), (5, .int x5)] [.long s1, .ref 16] σ mc ms P := by
  refine ks_callV (q := 25) (o := 16) (ci := 3) (As := [.long s1]) (st := []) d_X2_add_22 rfl rfl (by decide) rfl rfl lk_X2_86 ⟨by decide, by decide⟩ (Nat.le_of_ble_eq_true rfl) ⟨Nat.le_refl _, Nat.le_refl _⟩ hK (fun v σ' hq => ?_) (fun E σ' hq => ?_)
  · obtain ⟨r, e, hf⟩ := hq; cases e; exact kr r σ' hf
  · obtain ⟨r, e, hf⟩ := hq; cases e
theorem sg_X2_add_25 {L : Nat} {xs : Nat → Int32} {σ : ks_St} {mc ms : Nat} {P : ka_O → ks_St → Prop} {x1 : Int64} {x3 : Int64} {x5 : Int32} {s0 : Int32}  (k1 : ks_W L xs mX2_add rm_X2_add 27 [(0, .ref 16), (1, .long x1), (3, .long x3), (5, .int x5)] [.long x3, .ref 16, .int s0] σ mc ms P) : ks_W L xs mX2_add rm_X2_add 25 [(0, .ref 16), (1, .long x1), (3, .long x3), (5, .int x5)] [.int s0] σ mc ms P := by
  refine ka_aload_n d_X2_add_25 rfl rfl 0 rfl ?_
  refine ka_lload_n d_X2_add_26 rfl rfl 2 rfl ?_
  exact k1
theorem cs_X2_add_27 {L : Nat} {xs : Nat → Int32} {σ : ks_St} {mc ms : Nat} {P : ka_O → ks_St → Prop} {f : Int32 → ks_St → Prop} {x1 : Int64} {x3 : Int64} {x5 : Int32} {s0 : Int32} {s2 : Int64} (hK : ks_M L xs mX2_powerOf rm_X2_powerOf [.ref 16, .long s2] σ (pi_ f)) (kr : ∀ r σ', f r σ' → ks_W L xs mX2_add rm_X2_add 30 [(0, .ref 16), (1, .long x1), (3, .long x3), (5, .int x5)] [.int r, .int s0] σ' mc ms P) : ks_W L xs mX2_add rm_X2_add 27 [(0, .ref 16), (1, .long x1), (3, .long x3), (5, .int x5)] [.long s2, .ref 16, .int s0] σ mc ms P := by
  refine ks_callV (q := 30) (o := 16) (ci := 3) (As := [.long s2]) (st := [.int s0]) d_X2_add_27 rfl rfl (by decide) rfl rfl lk_X2_86 ⟨by decide, by decide⟩ (Nat.le_of_ble_eq_true rfl) ⟨Nat.le_refl _, Nat.le_refl _⟩ hK (fun v σ' hq => ?_) (fun E σ' hq => ?_)
  · obtain ⟨r, e, hf⟩ := hq; cases e; exact kr r σ' hf
  · obtain ⟨r, e, hf⟩ := hq; cases e
theorem sg_X2_add_30 {L : Nat} {xs : Nat → Int32} {σ : ks_St} {mc ms : Nat} {P : ka_O → ks_St → Prop} {x1 : Int64} {x3 : Int64} {x5 : Int32} {s0 : Int32} {s1 : Int32}  (k2 : (s0 < s1) → ks_W L xs mX2_add rm_X2_add 38 [(0, .ref 16), (1, .long x1), (3, .long x3), (5, .int x5)] [.int 0] σ mc ms P) (k3 : (¬ (s0 < s1)) → ks_W L xs mX2_add rm_X2_add 38 [(0, .ref 16), (1, .long x1), (3, .long x3), (5, .int x5)] [.int 1] σ mc ms P) : ks_W L xs mX2_add rm_X2_add 30 [(0, .ref 16), (1, .long x1), (3, .long x3), (5, .int x5)] [.int s1, .int s0] σ mc ms P := by
  refine ka_icmp_lt (tgt := 37) d_X2_add_30 (by decide) rfl (fun c1 => ?_) (fun c1 => ?_)
  · refine ka_iconst (v := 0) d_X2_add_37 rfl (by decide) ?_
    exact (k2 c1)
  · refine ka_iconst (v := 1) d_X2_add_33 rfl (by decide) ?_
    refine ka_goto (q := 38) d_X2_add_34 (by decide) ?_
    exact (k3 c1)
theorem sg_X2_add_38 {L : Nat} {xs : Nat → Int32} {σ : ks_St} {mc ms : Nat} {P : ka_O → ks_St → Prop} {x1 : Int64} {x3 : Int64} {x5 : Int32} {s0 : Int32}  (k2 : (s0 = 0) → ks_W L xs mX2_add rm_X2_add 50 [(0, .ref 16), (1, .long x1), (3, .long x3), (5, .int x5), (6, .int s0)] [.long x3] σ mc ms P) (k3 : (¬ (s0 = 0)) → ks_W L xs mX2_add rm_X2_add 50 [(0, .ref 16), (1, .long x1), (3, .long x3), (5, .int x5), (6, .int s0)] [.long x1] σ mc ms P) : ks_W L xs mX2_add rm_X2_add 38 [(0, .ref 16), (1, .long x1), (3, .long x3), (5, .int x5)] [.int s0] σ mc ms P := by
  refine ka_istore (ls' := [(6, .int s0), (0, .ref 16), (1, .long x1), (3, .long x3), (5, .int x5)]) d_X2_add_38 rfl (by decide) rfl ?_
  refine ka_iload d_X2_add_40 rfl 0 rfl ?_
  refine ka_if_eq (tgt := 49) d_X2_add_42 (by decide) rfl (fun c1 => ?_) (fun c1 => ?_)
  · refine ka_lload_n d_X2_add_49 rfl rfl 3 rfl ?_
    refine ka_sub [1, 2, 3, 4, 0] rfl ?_
    exact (k2 c1)
  · refine ka_lload_n d_X2_add_45 rfl rfl 2 rfl ?_
    refine ka_goto (q := 50) d_X2_add_46 (by decide) ?_
    refine ka_sub [1, 2, 3, 4, 0] rfl ?_
    exact (k3 c1)
theorem sg_X2_add_50 {L : Nat} {xs : Nat → Int32} {σ : ks_St} {mc ms : Nat} {P : ka_O → ks_St → Prop} {x1 : Int64} {x3 : Int64} {x5 : Int32} {x6 : Int32} {s0 : Int64}  (k2 : (x6 = 0) → ks_W L xs mX2_add rm_X2_add 62 [(0, .ref 16), (1, .long x1), (5, .int x5), (7, .long s0)] [.long x1] σ mc ms P) (k3 : (¬ (x6 = 0)) → ks_W L xs mX2_add rm_X2_add 62 [(0, .ref 16), (1, .long x1), (5, .int x5), (7, .long s0)] [.long x3] σ mc ms P) : ks_W L xs mX2_add rm_X2_add 50 [(0, .ref 16), (1, .long x1), (3, .long x3), (5, .int x5), (6, .int x6)] [.long s0] σ mc ms P := by
  refine ka_lstore (ls' := [(7, .long s0), (0, .ref 16), (1, .long x1), (3, .long x3), (5, .int x5), (6, .int x6)]) d_X2_add_50 rfl (by decide) rfl ?_
  refine ka_iload d_X2_add_52 rfl 5 rfl ?_
  refine ka_if_eq (tgt := 61) d_X2_add_54 (by decide) rfl (fun c1 => ?_) (fun c1 => ?_)
  · refine ka_lload_n d_X2_add_61 rfl rfl 2 rfl ?_
    refine ka_sub [1, 2, 4, 0] rfl ?_
    exact (k2 c1)
  · refine ka_lload_n d_X2_add_57 rfl rfl 3 rfl ?_
    refine ka_goto (q := 62) d_X2_add_58 (by decide) ?_
    refine ka_sub [1, 2, 4, 0] rfl ?_
    exact (k3 c1)
theorem sg_X2_add_62 {L : Nat} {xs : Nat → Int32} {σ : ks_St} {mc ms : Nat} {P : ka_O → ks_St → Prop} {x1 : Int64} {x5 : Int32} {x7 : Int64} {s0 : Int64}  (k1 : ks_W L xs mX2_add rm_X2_add 67 [(0, .ref 16), (1, .long x1), (5, .int x5), (7, .long x7), (9, .long s0)] [.long x7, .ref 16] σ mc ms P) : ks_W L xs mX2_add rm_X2_add 62 [(0, .ref 16), (1, .long x1), (5, .int x5), (7, .long x7)] [.long s0] σ mc ms P := by
  refine ka_lstore (ls' := [(9, .long s0), (0, .ref 16), (1, .long x1), (5, .int x5), (7, .long x7)]) d_X2_add_62 rfl (by decide) rfl ?_
  refine ka_aload_n d_X2_add_64 rfl rfl 1 rfl ?_
  refine ka_lload d_X2_add_65 rfl 4 rfl ?_
  refine ka_sub [1, 2, 3, 4, 0] rfl ?_
  exact k1
theorem cs_X2_add_67 {L : Nat} {xs : Nat → Int32} {σ : ks_St} {mc ms : Nat} {P : ka_O → ks_St → Prop} {f : Int32 → ks_St → Prop} {x1 : Int64} {x5 : Int32} {x7 : Int64} {x9 : Int64} {s1 : Int64} (hK : ks_M L xs mX2_powerOf rm_X2_powerOf [.ref 16, .long s1] σ (pi_ f)) (kr : ∀ r σ', f r σ' → ks_W L xs mX2_add rm_X2_add 70 [(0, .ref 16), (1, .long x1), (5, .int x5), (7, .long x7), (9, .long x9)] [.int r] σ' mc ms P) : ks_W L xs mX2_add rm_X2_add 67 [(0, .ref 16), (1, .long x1), (5, .int x5), (7, .long x7), (9, .long x9)] [.long s1, .ref 16] σ mc ms P := by
  refine ks_callV (q := 70) (o := 16) (ci := 3) (As := [.long s1]) (st := []) d_X2_add_67 rfl rfl (by decide) rfl rfl lk_X2_86 ⟨by decide, by decide⟩ (Nat.le_of_ble_eq_true rfl) ⟨Nat.le_refl _, Nat.le_refl _⟩ hK (fun v σ' hq => ?_) (fun E σ' hq => ?_)
  · obtain ⟨r, e, hf⟩ := hq; cases e; exact kr r σ' hf
  · obtain ⟨r, e, hf⟩ := hq; cases e
theorem sg_X2_add_70 {L : Nat} {xs : Nat → Int32} {σ : ks_St} {mc ms : Nat} {P : ka_O → ks_St → Prop} {x1 : Int64} {x5 : Int32} {x7 : Int64} {x9 : Int64} {s0 : Int32}  (k1 : ks_W L xs mX2_add rm_X2_add 73 [(0, .ref 16), (1, .long x1), (5, .int x5), (7, .long x7), (9, .long x9)] [.long x9, .ref 16, .int s0] σ mc ms P) : ks_W L xs mX2_add rm_X2_add 70 [(0, .ref 16), (1, .long x1), (5, .int x5), (7, .long x7), (9, .long x9)] [.int s0] σ mc ms P := by
  refine ka_aload_n d_X2_add_70 rfl rfl 0 rfl ?_
  refine ka_lload d_X2_add_71 rfl 4 rfl ?_
  exact k1
theorem cs_X2_add_73 {L : Nat} {xs : Nat → Int32} {σ : ks_St} {mc ms : Nat} {P : ka_O → ks_St → Prop} {f : Int32 → ks_St → Prop} {x1 : Int64} {x5 : Int32} {x7 : Int64} {x9 : Int64} {s0 : Int32} {s2 : Int64} (hK : ks_M L xs mX2_powerOf rm_X2_powerOf [.ref 16, .long s2] σ (pi_ f)) (kr : ∀ r σ', f r σ' → ks_W L xs mX2_add rm_X2_add 76 [(0, .ref 16), (1, .long x1), (5, .int x5), (7, .long x7), (9, .long x9)] [.int r, .int s0] σ' mc ms P) : ks_W L xs mX2_add rm_X2_add 73 [(0, .ref 16), (1, .long x1), (5, .int x5), (7, .long x7), (9, .long x9)] [.long s2, .ref 16, .int s0] σ mc ms P := by
  refine ks_callV (q := 76) (o := 16) (ci := 3) (As := [.long s2]) (st := [.int s0]) d_X2_add_73 rfl rfl (by decide) rfl rfl lk_X2_86 ⟨by decide, by decide⟩ (Nat.le_of_ble_eq_true rfl) ⟨Nat.le_refl _, Nat.le_refl _⟩ hK (fun v σ' hq => ?_) (fun E σ' hq => ?_)
  · obtain ⟨r, e, hf⟩ := hq; cases e; exact kr r σ' hf
  · obtain ⟨r, e, hf⟩ := hq; cases e
theorem sg_X2_add_76 {L : Nat} {xs : Nat → Int32} {σ : ks_St} {mc ms : Nat} {P : ka_O → ks_St → Prop} {x1 : Int64} {x5 : Int32} {x7 : Int64} {x9 : Int64} {s0 : Int32} {s1 : Int32}  (k1 : ks_W L xs mX2_add rm_X2_add 83 [(0, .ref 16), (1, .long x1), (5, .int x5), (7, .long x7), (9, .long x9), (11, .int (s0 - s1))] [.int 36, .int (s0 - s1)] σ mc ms P) : ks_W L xs mX2_add rm_X2_add 76 [(0, .ref 16), (1, .long x1), (5, .int x5), (7, .long x7), (9, .long x9)] [.int s1, .int s0] σ mc ms P := by
  refine ka_isub d_X2_add_76 rfl ?_
  refine ka_istore (ls' := [(11, .int (s0 - s1)), (0, .ref 16), (1, .long x1), (5, .int x5), (7, .long x7), (9, .long x9)]) d_X2_add_77 rfl (by decide) rfl ?_
  refine ka_iload d_X2_add_79 rfl 0 rfl ?_
  refine ka_bipush (v := 36) d_X2_add_81 rfl (by decide) ?_
  refine ka_sub [1, 2, 3, 4, 5, 0] rfl ?_
  exact k1
theorem cs_X2_add_83 {L : Nat} {xs : Nat → Int32} {σ : ks_St} {mc ms : Nat} {P : ka_O → ks_St → Prop} {f : Int32 → ks_St → Prop} {x1 : Int64} {x5 : Int32} {x7 : Int64} {x9 : Int64} {x11 : Int32} {s0 : Int32} {s1 : Int32} (hK : ks_M L xs mM_min rm_M_min [.int s0, .int s1] σ (pi_ f)) (kr : ∀ r σ', f r σ' → ks_W L xs mX2_add rm_X2_add 86 [(0, .ref 16), (1, .long x1), (5, .int x5), (7, .long x7), (9, .long x9), (11, .int x11)] [.int r] σ' mc ms P) : ks_W L xs mX2_add rm_X2_add 83 [(0, .ref 16), (1, .long x1), (5, .int x5), (7, .long x7), (9, .long x9), (11, .int x11)] [.int s1, .int s0] σ mc ms P := by
  refine ks_callS (q := 86) (As := [.int s0, .int s1]) (st := []) d_X2_add_83 rfl rfl lk_X2_90 ⟨by decide, by decide⟩ (Nat.le_of_ble_eq_true rfl) ⟨Nat.le_refl _, Nat.le_refl _⟩ hK (fun v σ' hq => ?_) (fun E σ' hq => ?_)
  · obtain ⟨r, e, hf⟩ := hq; cases e; exact kr r σ' hf
  · obtain ⟨r, e, hf⟩ := hq; cases e
theorem sg_X2_add_86 {L : Nat} {xs : Nat → Int32} {σ : ks_St} {mc ms : Nat} {P : ka_O → ks_St → Prop} {x1 : Int64} {x5 : Int32} {x7 : Int64} {x9 : Int64} {x11 : Int32} {s0 : Int32}  (k1 : ks_W L xs mX2_add rm_X2_add 91 [(0, .ref 16), (1, .long x1), (5, .int x5), (7, .long x7), (9, .long x9), (11, .int x11), (12, .int s0)] [.long x7, .ref 16] σ mc ms P) : ks_W L xs mX2_add rm_X2_add 86 [(0, .ref 16), (1, .long x1), (5, .int x5), (7, .long x7), (9, .long x9), (11, .int x11)] [.int s0] σ mc ms P := by
  refine ka_istore (ls' := [(12, .int s0), (0, .ref 16), (1, .long x1), (5, .int x5), (7, .long x7), (9, .long x9), (11, .int x11)]) d_X2_add_86 rfl (by decide) rfl ?_
  refine ka_aload_n d_X2_add_88 rfl rfl 1 rfl ?_
  refine ka_lload d_X2_add_89 rfl 4 rfl ?_
  refine ka_sub [1, 2, 3, 4, 5, 6, 0] rfl ?_
  exact k1
theorem cs_X2_add_91 {L : Nat} {xs : Nat → Int32} {σ : ks_St} {mc ms : Nat} {P : ka_O → ks_St → Prop} {f : Int64 → ks_St → Prop} {x1 : Int64} {x5 : Int32} {x7 : Int64} {x9 : Int64} {x11 : Int32} {x12 : Int32} {s1 : Int64} (hK : ks_M L xs mX2_wholeOf rm_X2_wholeOf [.ref 16, .long s1] σ (pl_ f)) (kr : ∀ r σ', f r σ' → ks_W L xs mX2_add rm_X2_add 94 [(0, .ref 16), (1, .long x1), (5, .int x5), (7, .long x7), (9, .long x9), (11, .int x11), (12, .int x12)] [.long r] σ' mc ms P) : ks_W L xs mX2_add rm_X2_add 91 [(0, .ref 16), (1, .long x1), (5, .int x5), (7, .long x7), (9, .long x9), (11, .int x11), (12, .int x12)] [.long s1, .ref 16] σ mc ms P := by
  refine ks_callV (q := 94) (o := 16) (ci := 3) (As := [.long s1]) (st := []) d_X2_add_91 rfl rfl (by decide) rfl rfl lk_X2_96 ⟨by decide, by decide⟩ (Nat.le_of_ble_eq_true rfl) ⟨Nat.le_refl _, Nat.le_refl _⟩ hK (fun v σ' hq => ?_) (fun E σ' hq => ?_)
  · obtain ⟨r, e, hf⟩ := hq; cases e; exact kr r σ' hf
  · obtain ⟨r, e, hf⟩ := hq; cases e
theorem sg_X2_add_94 {L : Nat} {xs : Nat → Int32} {σ : ks_St} {mc ms : Nat} {P : ka_O → ks_St → Prop} {x1 : Int64} {x5 : Int32} {x7 : Int64} {x9 : Int64} {x11 : Int32} {x12 : Int32} {s0 : Int64}  (k1 : ks_W L xs mX2_add rm_X2_add 102 [(0, .ref 16), (1, .long x1), (5, .int x5), (7, .long x7), (11, .int x11), (12, .int x12), (13, .long (s0 <<< ((x12).toInt64 &&& 63)))] [.long x9, .ref 16] σ mc ms P) : ks_W L xs mX2_add rm_X2_add 94 [(0, .ref 16), (1, .long x1), (5, .int x5), (7, .long x7), (9, .long x9), (11, .int x11), (12, .int x12)] [.long s0] σ mc ms P := by
  refine ka_iload d_X2_add_94 rfl 6 rfl ?_
  refine ka_lshl d_X2_add_96 rfl ?_
  refine ka_lstore (ls' := [(13, .long (s0 <<< ((x12).toInt64 &&& 63))), (0, .ref 16), (1, .long x1), (5, .int x5), (7, .long x7), (9, .long x9), (11, .int x11), (12, .int x12)]) d_X2_add_97 rfl (by decide) rfl ?_
  refine ka_aload_n d_X2_add_99 rfl rfl 1 rfl ?_
  refine ka_lload d_X2_add_100 rfl 5 rfl ?_
  refine ka_sub [1, 2, 3, 4, 6, 7, 0] rfl ?_
  exact k1
theorem cs_X2_add_102 {L : Nat} {xs : Nat → Int32} {σ : ks_St} {mc ms : Nat} {P : ka_O → ks_St → Prop} {f : Int64 → ks_St → Prop} {x1 : Int64} {x5 : Int32} {x7 : Int64} {x11 : Int32} {x12 : Int32} {x13 : Int64} {s1 : Int64} (hK : ks_M L xs mX2_wholeOf rm_X2_wholeOf [.ref 16, .long s1] σ (pl_ f)) (kr : ∀ r σ', f r σ' → ks_W L xs mX2_add rm_X2_add 105 [(0, .ref 16), (1, .long x1), (5, .int x5), (7, .long x7), (11, .int x11), (12, .int x12), (13, .long x13)] [.long r] σ' mc ms P) : ks_W L xs mX2_add rm_X2_add 102 [(0, .ref 16), (1, .long x1), (5, .int x5), (7, .long x7), (11, .int x11), (12, .int x12), (13, .long x13)] [.long s1, .ref 16] σ mc ms P := by
  refine ks_callV (q := 105) (o := 16) (ci := 3) (As := [.long s1]) (st := []) d_X2_add_102 rfl rfl (by decide) rfl rfl lk_X2_96 ⟨by decide, by decide⟩ (Nat.le_of_ble_eq_true rfl) ⟨Nat.le_refl _, Nat.le_refl _⟩ hK (fun v σ' hq => ?_) (fun E σ' hq => ?_)
  · obtain ⟨r, e, hf⟩ := hq; cases e; exact kr r σ' hf
  · obtain ⟨r, e, hf⟩ := hq; cases e
theorem sg_X2_add_105 {L : Nat} {xs : Nat → Int32} {σ : ks_St} {mc ms : Nat} {P : ka_O → ks_St → Prop} {x1 : Int64} {x5 : Int32} {x7 : Int64} {x11 : Int32} {x12 : Int32} {x13 : Int64} {s0 : Int64}  (k1 : ks_W L xs mX2_add rm_X2_add 110 [(0, .ref 16), (1, .long x1), (5, .int x5), (7, .long x7), (12, .int x12), (13, .long x13)] [.int (x11 - x12), .long s0] σ mc ms P) : ks_W L xs mX2_add rm_X2_add 105 [(0, .ref 16), (1, .long x1), (5, .int x5), (7, .long x7), (11, .int x11), (12, .int x12), (13, .long x13)] [.long s0] σ mc ms P := by
  refine ka_iload d_X2_add_105 rfl 4 rfl ?_
  refine ka_iload d_X2_add_107 rfl 5 rfl ?_
  refine ka_isub d_X2_add_109 rfl ?_
  refine ka_sub [0, 1, 2, 3, 5, 6] rfl ?_
  exact k1
theorem cs_X2_add_110 {L : Nat} {xs : Nat → Int32} {σ : ks_St} {mc ms : Nat} {P : ka_O → ks_St → Prop} {f : Int64 → ks_St → Prop} {x1 : Int64} {x5 : Int32} {x7 : Int64} {x12 : Int32} {x13 : Int64} {s0 : Int64} {s1 : Int32} (hK : ks_M L xs mX2_movedDown rm_X2_movedDown [.long s0, .int s1] σ (pl_ f)) (kr : ∀ r σ', f r σ' → ks_W L xs mX2_add rm_X2_add 113 [(0, .ref 16), (1, .long x1), (5, .int x5), (7, .long x7), (12, .int x12), (13, .long x13)] [.long r] σ' mc ms P) : ks_W L xs mX2_add rm_X2_add 110 [(0, .ref 16), (1, .long x1), (5, .int x5), (7, .long x7), (12, .int x12), (13, .long x13)] [.int s1, .long s0] σ mc ms P := by
  refine ks_callS (q := 113) (As := [.long s0, .int s1]) (st := []) d_X2_add_110 rfl rfl lk_X2_100 ⟨by decide, by decide⟩ (Nat.le_of_ble_eq_true rfl) ⟨Nat.le_refl _, Nat.le_refl _⟩ hK (fun v σ' hq => ?_) (fun E σ' hq => ?_)
  · obtain ⟨r, e, hf⟩ := hq; cases e; exact kr r σ' hf
  · obtain ⟨r, e, hf⟩ := hq; cases e
theorem sg_X2_add_113 {L : Nat} {xs : Nat → Int32} {σ : ks_St} {mc ms : Nat} {P : ka_O → ks_St → Prop} {x1 : Int64} {x5 : Int32} {x7 : Int64} {x12 : Int32} {x13 : Int64} {s0 : Int64}  (k2 : (x5 = 0) → ks_W L xs mX2_add rm_X2_add 133 [(0, .ref 16), (1, .long x1), (5, .int x5), (7, .long x7), (12, .int x12)] [.long (x13 + s0)] σ mc ms P) (k3 : (¬ (x5 = 0)) → ks_W L xs mX2_add rm_X2_add 133 [(0, .ref 16), (1, .long x1), (5, .int x5), (7, .long x7), (12, .int x12)] [.long (x13 - s0)] σ mc ms P) : ks_W L xs mX2_add rm_X2_add 113 [(0, .ref 16), (1, .long x1), (5, .int x5), (7, .long x7), (12, .int x12), (13, .long x13)] [.long s0] σ mc ms P := by
  refine ka_lstore (ls' := [(15, .long s0), (0, .ref 16), (1, .long x1), (5, .int x5), (7, .long x7), (12, .int x12), (13, .long x13)]) d_X2_add_113 rfl (by decide) rfl ?_
  refine ka_iload d_X2_add_115 rfl 3 rfl ?_
  refine ka_if_eq (tgt := 128) d_X2_add_117 (by decide) rfl (fun c1 => ?_) (fun c1 => ?_)
  · refine ka_lload d_X2_add_128 rfl 6 rfl ?_
    refine ka_lload d_X2_add_130 rfl 0 rfl ?_
    refine ka_ladd d_X2_add_132 rfl ?_
    refine ka_sub [1, 2, 3, 4, 5] rfl ?_
    exact (k2 c1)
  · refine ka_lload d_X2_add_120 rfl 6 rfl ?_
    refine ka_lload d_X2_add_122 rfl 0 rfl ?_
    refine ka_lsub d_X2_add_124 rfl ?_
    refine ka_goto (q := 133) d_X2_add_125 (by decide) ?_
    refine ka_sub [1, 2, 3, 4, 5] rfl ?_
    exact (k3 c1)
theorem sg_X2_add_133 {L : Nat} {xs : Nat → Int32} {σ : ks_St} {mc ms : Nat} {P : ka_O → ks_St → Prop} {x1 : Int64} {x5 : Int32} {x7 : Int64} {x12 : Int32} {s0 : Int64}  (k2 : (0 ≤ (lg_cmp s0 0)) → ks_W L xs mX2_add rm_X2_add 151 [(0, .ref 16), (1, .long x1), (5, .int x5), (7, .long x7), (12, .int x12), (17, .long s0)] [.long s0, .ref 16] σ mc ms P) (k3 : (¬ (0 ≤ (lg_cmp s0 0))) → ks_W L xs mX2_add rm_X2_add 151 [(0, .ref 16), (1, .long x1), (5, .int x5), (7, .long x7), (12, .int x12), (17, .long s0)] [.long (-s0), .ref 16] σ mc ms P) : ks_W L xs mX2_add rm_X2_add 133 [(0, .ref 16), (1, .long x1), (5, .int x5), (7, .long x7), (12, .int x12)] [.long s0] σ mc ms P := by
  refine ka_lstore (ls' := [(17, .long s0), (0, .ref 16), (1, .long x1), (5, .int x5), (7, .long x7), (12, .int x12)]) d_X2_add_133 rfl (by decide) rfl ?_
  refine ka_aload_n d_X2_add_135 rfl rfl 1 rfl ?_
  refine ka_lload d_X2_add_136 rfl 0 rfl ?_
  refine ka_lconst (v := 0) d_X2_add_138 rfl (by decide) ?_
  refine ka_lcmp d_X2_add_139 rfl ?_
  refine ka_if_ge (tgt := 149) d_X2_add_140 (by decide) rfl (fun c1 => ?_) (fun c1 => ?_)
  · refine ka_lload d_X2_add_149 rfl 0 rfl ?_
    refine ka_sub [1, 2, 3, 4, 5, 0] rfl ?_
    exact (k2 c1)
  · refine ka_lload d_X2_add_143 rfl 0 rfl ?_
    refine ka_lneg d_X2_add_145 rfl ?_
    refine ka_goto (q := 151) d_X2_add_146 (by decide) ?_
    refine ka_sub [1, 2, 3, 4, 5, 0] rfl ?_
    exact (k3 c1)
theorem sg_X2_add_151 {L : Nat} {xs : Nat → Int32} {σ : ks_St} {mc ms : Nat} {P : ka_O → ks_St → Prop} {x1 : Int64} {x5 : Int32} {x7 : Int64} {x12 : Int32} {x17 : Int64} {s1 : Int64}  (k1 : ks_W L xs mX2_add rm_X2_add 158 [(0, .ref 16), (1, .long x1), (5, .int x5), (7, .long x7), (12, .int x12), (17, .long x17)] [.long x7, .ref 16, .ref 16] (uj_ σ 1 s1) mc ms P) : ks_W L xs mX2_add rm_X2_add 151 [(0, .ref 16), (1, .long x1), (5, .int x5), (7, .long x7), (12, .int x12), (17, .long x17)] [.long s1, .ref 16] σ mc ms P := by
  refine pf_X2_7 d_X2_add_151 rfl fl_X2_35 ?_
  refine ka_aload_n d_X2_add_154 rfl rfl 0 rfl ?_
  refine ka_aload_n d_X2_add_155 rfl rfl 0 rfl ?_
  refine ka_lload d_X2_add_156 rfl 3 rfl ?_
  exact k1
theorem cs_X2_add_158 {L : Nat} {xs : Nat → Int32} {σ : ks_St} {mc ms : Nat} {P : ka_O → ks_St → Prop} {f : Int32 → ks_St → Prop} {x1 : Int64} {x5 : Int32} {x7 : Int64} {x12 : Int32} {x17 : Int64} {s2 : Int64} (hK : ks_M L xs mX2_powerOf rm_X2_powerOf [.ref 16, .long s2] σ (pi_ f)) (kr : ∀ r σ', f r σ' → ks_W L xs mX2_add rm_X2_add 161 [(0, .ref 16), (1, .long x1), (5, .int x5), (7, .long x7), (12, .int x12), (17, .long x17)] [.int r, .ref 16] σ' mc ms P) : ks_W L xs mX2_add rm_X2_add 158 [(0, .ref 16), (1, .long x1), (5, .int x5), (7, .long x7), (12, .int x12), (17, .long x17)] [.long s2, .ref 16, .ref 16] σ mc ms P := by
  refine ks_callV (q := 161) (o := 16) (ci := 3) (As := [.long s2]) (st := [.ref 16]) d_X2_add_158 rfl rfl (by decide) rfl rfl lk_X2_86 ⟨by decide, by decide⟩ (Nat.le_of_ble_eq_true rfl) ⟨Nat.le_refl _, Nat.le_refl _⟩ hK (fun v σ' hq => ?_) (fun E σ' hq => ?_)
  · obtain ⟨r, e, hf⟩ := hq; cases e; exact kr r σ' hf
  · obtain ⟨r, e, hf⟩ := hq; cases e
theorem sg_X2_add_161 {L : Nat} {xs : Nat → Int32} {σ : ks_St} {mc ms : Nat} {P : ka_O → ks_St → Prop} {x1 : Int64} {x5 : Int32} {x7 : Int64} {x12 : Int32} {x17 : Int64} {s1 : Int32}  (k1 : ks_W L xs mX2_add rm_X2_add 171 [(0, .ref 16), (1, .long x1), (5, .int x5), (17, .long x17)] [.long x7, .ref 16, .ref 16] (ui_ σ 13 (s1 - x12)) mc ms P) : ks_W L xs mX2_add rm_X2_add 161 [(0, .ref 16), (1, .long x1), (5, .int x5), (7, .long x7), (12, .int x12), (17, .long x17)] [.int s1, .ref 16] σ mc ms P := by
  refine ka_iload d_X2_add_161 rfl 4 rfl ?_
  refine ka_isub d_X2_add_163 rfl ?_
  refine pf_X2_8 d_X2_add_164 rfl fl_X2_38 ?_
  refine ka_aload_n d_X2_add_167 rfl rfl 0 rfl ?_
  refine ka_aload_n d_X2_add_168 rfl rfl 0 rfl ?_
  refine ka_lload d_X2_add_169 rfl 3 rfl ?_
  refine ka_sub [0, 1, 2, 5] rfl ?_
  exact k1
theorem cs_X2_add_171 {L : Nat} {xs : Nat → Int32} {σ : ks_St} {mc ms : Nat} {P : ka_O → ks_St → Prop} {f : Int32 → ks_St → Prop} {x1 : Int64} {x5 : Int32} {x17 : Int64} {s2 : Int64} (hK : ks_M L xs mX2_signOf rm_X2_signOf [.ref 16, .long s2] σ (pi_ f)) (kr : ∀ r σ', f r σ' → ks_W L xs mX2_add rm_X2_add 174 [(0, .ref 16), (1, .long x1), (5, .int x5), (17, .long x17)] [.int r, .ref 16] σ' mc ms P) : ks_W L xs mX2_add rm_X2_add 171 [(0, .ref 16), (1, .long x1), (5, .int x5), (17, .long x17)] [.long s2, .ref 16, .ref 16] σ mc ms P := by
  refine ks_callV (q := 174) (o := 16) (ci := 3) (As := [.long s2]) (st := [.ref 16]) d_X2_add_171 rfl rfl (by decide) rfl rfl lk_X2_72 ⟨by decide, by decide⟩ (Nat.le_of_ble_eq_true rfl) ⟨Nat.le_refl _, Nat.le_refl _⟩ hK (fun v σ' hq => ?_) (fun E σ' hq => ?_)
  · obtain ⟨r, e, hf⟩ := hq; cases e; exact kr r σ' hf
  · obtain ⟨r, e, hf⟩ := hq; cases e
theorem sg_X2_add_174 {L : Nat} {xs : Nat → Int32} {σ : ks_St} {mc ms : Nat} {P : ka_O → ks_St → Prop} {x1 : Int64} {x5 : Int32} {x17 : Int64} {s1 : Int32}  (k2 : (0 ≤ (lg_cmp x17 0)) → ks_W L xs mX2_add rm_X2_add 186 [(0, .ref 16), (1, .long x1), (5, .int x5), (17, .long x17)] [.int 0, .int s1, .ref 16] σ mc ms P) (k3 : (¬ (0 ≤ (lg_cmp x17 0))) → ks_W L xs mX2_add rm_X2_add 186 [(0, .ref 16), (1, .long x1), (5, .int x5), (17, .long x17)] [.int 1, .int s1, .ref 16] σ mc ms P) : ks_W L xs mX2_add rm_X2_add 174 [(0, .ref 16), (1, .long x1), (5, .int x5), (17, .long x17)] [.int s1, .ref 16] σ mc ms P := by
  refine ka_lload d_X2_add_174 rfl 3 rfl ?_
  refine ka_lconst (v := 0) d_X2_add_176 rfl (by decide) ?_
  refine ka_lcmp d_X2_add_177 rfl ?_
  refine ka_if_ge (tgt := 185) d_X2_add_178 (by decide) rfl (fun c1 => ?_) (fun c1 => ?_)
  · refine ka_iconst (v := 0) d_X2_add_185 rfl (by decide) ?_
    exact (k2 c1)
  · refine ka_iconst (v := 1) d_X2_add_181 rfl (by decide) ?_
    refine ka_goto (q := 186) d_X2_add_182 (by decide) ?_
    exact (k3 c1)
theorem sg_X2_add_186 {L : Nat} {xs : Nat → Int32} {σ : ks_St} {mc ms : Nat} {P : ka_O → ks_St → Prop} {x1 : Int64} {x5 : Int32} {x17 : Int64} {s1 : Int32} {s2 : Int32}  (k2 : (s1 = s2) → ks_W L xs mX2_add rm_X2_add 194 [(0, .ref 16), (1, .long x1), (5, .int x5), (17, .long x17)] [.int 0, .ref 16] σ mc ms P) (k3 : (¬ (s1 = s2)) → ks_W L xs mX2_add rm_X2_add 194 [(0, .ref 16), (1, .long x1), (5, .int x5), (17, .long x17)] [.int 1, .ref 16] σ mc ms P) : ks_W L xs mX2_add rm_X2_add 186 [(0, .ref 16), (1, .long x1), (5, .int x5), (17, .long x17)] [.int s2, .int s1, .ref 16] σ mc ms P := by
  refine ka_icmp_eq (tgt := 193) d_X2_add_186 (by decide) rfl (fun c1 => ?_) (fun c1 => ?_)
  · refine ka_iconst (v := 0) d_X2_add_193 rfl (by decide) ?_
    exact (k2 c1)
  · refine ka_iconst (v := 1) d_X2_add_189 rfl (by decide) ?_
    refine ka_goto (q := 194) d_X2_add_190 (by decide) ?_
    exact (k3 c1)
theorem sg_X2_add_194 {L : Nat} {xs : Nat → Int32} {σ : ks_St} {mc ms : Nat} {P : ka_O → ks_St → Prop} {x1 : Int64} {x5 : Int32} {x17 : Int64} {s1 : Int32}  (b1 : s1 = 0 ∨ s1 = 1) (k3 : (¬ (lg_cmp x17 0) = 0) → ks_W L xs mX2_add rm_X2_add 234 [] [] (ui_ σ 12 s1) mc ms P) (k5 : ((lg_cmp x17 0) = 0) → (x5 = 0) → ks_W L xs mX2_add rm_X2_add 228 [] [.long x1, .ref 16, .ref 16] (ui_ σ 12 s1) mc ms P) (k7 : ((lg_cmp x17 0) = 0) → (¬ (x5 = 0)) → (¬ (si_ (ui_ σ 12 s1) 8) = 3) → ks_W L xs mX2_add rm_X2_add 231 [] [.int 0, .ref 16] (ui_ σ 12 s1) mc ms P) (k8 : ((lg_cmp x17 0) = 0) → (¬ (x5 = 0)) → ((si_ (ui_ σ 12 s1) 8) = 3) → ks_W L xs mX2_add rm_X2_add 231 [] [.int 1, .ref 16] (ui_ σ 12 s1) mc ms P) : ks_W L xs mX2_add rm_X2_add 194 [(0, .ref 16), (1, .long x1), (5, .int x5), (17, .long x17)] [.int s1, .ref 16] σ mc ms P := by
  refine pf_X2_6 d_X2_add_194 rfl fl_X2_31 b1 ?_
  refine ka_lload d_X2_add_197 rfl 3 rfl ?_
  refine ka_lconst (v := 0) d_X2_add_199 rfl (by decide) ?_
  refine ka_lcmp d_X2_add_200 rfl ?_
  refine ka_if_ne (tgt := 234) d_X2_add_201 (by decide) rfl (fun c2 => ?_) (fun c2 => ?_)
  · refine ka_sub [] rfl ?_
    exact (k3 c2)
  · refine ka_aload_n d_X2_add_204 rfl rfl 0 rfl ?_
    refine ka_iload d_X2_add_205 rfl 2 rfl ?_
    refine ka_if_eq (tgt := 226) d_X2_add_207 (by decide) rfl (fun c4 => ?_) (fun c4 => ?_)
    · refine ka_aload_n d_X2_add_226 rfl rfl 0 rfl ?_
      refine ka_lload_n d_X2_add_227 rfl rfl 1 rfl ?_
      refine ka_sub [] rfl ?_
      exact (k5 c2 c4)
    · refine ka_aload_n d_X2_add_210 rfl rfl 0 rfl ?_
      refine gf_X2_1 d_X2_add_211 rfl fl_X2_13 ?_
      refine ka_iconst (v := 3) d_X2_add_214 rfl (by decide) ?_
      refine ka_icmp_ne (tgt := 222) d_X2_add_215 (by decide) rfl (fun c6 => ?_) (fun c6 => ?_)
      · refine ka_iconst (v := 0) d_X2_add_222 rfl (by decide) ?_
        refine ka_goto (q := 231) d_X2_add_223 (by decide) ?_
        refine ka_sub [] rfl ?_
        exact (k7 c2 c4 c6)
      · refine ka_iconst (v := 1) d_X2_add_218 rfl (by decide) ?_
        refine ka_goto (q := 231) d_X2_add_219 (by decide) ?_
        refine ka_sub [] rfl ?_
        exact (k8 c2 c4 c6)
theorem cs_X2_add_228 {L : Nat} {xs : Nat → Int32} {σ : ks_St} {mc ms : Nat} {P : ka_O → ks_St → Prop} {f : Int32 → ks_St → Prop} {s2 : Int64} (hK : ks_M L xs mX2_signOf rm_X2_signOf [.ref 16, .long s2] σ (pi_ f)) (kr : ∀ r σ', f r σ' → ks_W L xs mX2_add rm_X2_add 231 [] [.int r, .ref 16] σ' mc ms P) : ks_W L xs mX2_add rm_X2_add 228 [] [.long s2, .ref 16, .ref 16] σ mc ms P := by
  refine ks_callV (q := 231) (o := 16) (ci := 3) (As := [.long s2]) (st := [.ref 16]) d_X2_add_228 rfl rfl (by decide) rfl rfl lk_X2_72 ⟨by decide, by decide⟩ (Nat.le_of_ble_eq_true rfl) ⟨Nat.le_refl _, Nat.le_refl _⟩ hK (fun v σ' hq => ?_) (fun E σ' hq => ?_)
  · obtain ⟨r, e, hf⟩ := hq; cases e; exact kr r σ' hf
  · obtain ⟨r, e, hf⟩ := hq; cases e
theorem sg_X2_add_231 {L : Nat} {xs : Nat → Int32} {σ : ks_St} {mc ms : Nat} {P : ka_O → ks_St → Prop} {s1 : Int32}  (b1 : s1 = 0 ∨ s1 = 1) (k2 : ks_W L xs mX2_add rm_X2_add 234 [] [] (ui_ σ 12 s1) mc ms P) : ks_W L xs mX2_add rm_X2_add 231 [] [.int s1, .ref 16] σ mc ms P := by
  refine pf_X2_6 d_X2_add_231 rfl fl_X2_31 b1 ?_
  exact k2
theorem sg_X2_add_234 {L : Nat} {xs : Nat → Int32} {σ : ks_St} {mc ms : Nat} {P : ka_O → ks_St → Prop}   (r1 : P (.inl none) σ) : ks_W L xs mX2_add rm_X2_add 234 [] [] σ mc ms P := by
  exact ks_vret d_X2_add_234 rfl r1
theorem d_X2_tooGreat_0 : decode cX2_tooGreat 0 = .ok (.aload_n 0, 1) := by decide +kernel
theorem d_X2_tooGreat_1 : decode cX2_tooGreat 1 = .ok (.dup, 1) := by decide +kernel
theorem d_X2_tooGreat_2 : decode cX2_tooGreat 2 = .ok (.getfield 7, 3) := by decide +kernel
theorem d_X2_tooGreat_5 : decode cX2_tooGreat 5 = .ok (.bipush 20, 2) := by decide +kernel
theorem d_X2_tooGreat_7 : decode cX2_tooGreat 7 = .ok (.ior, 1) := by decide +kernel
theorem d_X2_tooGreat_8 : decode cX2_tooGreat 8 = .ok (.putfield 7, 3) := by decide +kernel
theorem d_X2_tooGreat_11 : decode cX2_tooGreat 11 = .ok (.aload_n 0, 1) := by decide +kernel
theorem d_X2_tooGreat_12 : decode cX2_tooGreat 12 = .ok (.getfield 13, 3) := by decide +kernel
theorem d_X2_tooGreat_15 : decode cX2_tooGreat 15 = .ok (.ifCond .eq 11, 3) := by decide +kernel
theorem d_X2_tooGreat_18 : decode cX2_tooGreat 18 = .ok (.aload_n 0, 1) := by decide +kernel
theorem d_X2_tooGreat_19 : decode cX2_tooGreat 19 = .ok (.getfield 13, 3) := by decide +kernel
theorem d_X2_tooGreat_22 : decode cX2_tooGreat 22 = .ok (.iconst 4, 1) := by decide +kernel
theorem d_X2_tooGreat_23 : decode cX2_tooGreat 23 = .ok (.if_icmp .ne 7, 3) := by decide +kernel
theorem d_X2_tooGreat_26 : decode cX2_tooGreat 26 = .ok (.iconst 1, 1) := by decide +kernel
theorem d_X2_tooGreat_27 : decode cX2_tooGreat 27 = .ok (.goto 4, 3) := by decide +kernel
theorem d_X2_tooGreat_30 : decode cX2_tooGreat 30 = .ok (.iconst 0, 1) := by decide +kernel
theorem d_X2_tooGreat_31 : decode cX2_tooGreat 31 = .ok (.istore_n 1, 1) := by decide +kernel
theorem d_X2_tooGreat_32 : decode cX2_tooGreat 32 = .ok (.aload_n 0, 1) := by decide +kernel
theorem d_X2_tooGreat_33 : decode cX2_tooGreat 33 = .ok (.getfield 13, 3) := by decide +kernel
theorem d_X2_tooGreat_36 : decode cX2_tooGreat 36 = .ok (.aload_n 0, 1) := by decide +kernel
theorem d_X2_tooGreat_37 : decode cX2_tooGreat 37 = .ok (.getfield 31, 3) := by decide +kernel
theorem d_X2_tooGreat_40 : decode cX2_tooGreat 40 = .ok (.ifCond .eq 7, 3) := by decide +kernel
theorem d_X2_tooGreat_43 : decode cX2_tooGreat 43 = .ok (.iconst 3, 1) := by decide +kernel
theorem d_X2_tooGreat_44 : decode cX2_tooGreat 44 = .ok (.goto 4, 3) := by decide +kernel
theorem d_X2_tooGreat_47 : decode cX2_tooGreat 47 = .ok (.iconst 2, 1) := by decide +kernel
theorem d_X2_tooGreat_48 : decode cX2_tooGreat 48 = .ok (.if_icmp .ne 7, 3) := by decide +kernel
theorem d_X2_tooGreat_51 : decode cX2_tooGreat 51 = .ok (.iconst 1, 1) := by decide +kernel
theorem d_X2_tooGreat_52 : decode cX2_tooGreat 52 = .ok (.goto 4, 3) := by decide +kernel
theorem d_X2_tooGreat_55 : decode cX2_tooGreat 55 = .ok (.iconst 0, 1) := by decide +kernel
theorem d_X2_tooGreat_56 : decode cX2_tooGreat 56 = .ok (.istore_n 2, 1) := by decide +kernel
theorem d_X2_tooGreat_57 : decode cX2_tooGreat 57 = .ok (.iload_n 1, 1) := by decide +kernel
theorem d_X2_tooGreat_58 : decode cX2_tooGreat 58 = .ok (.ifCond .ne 7, 3) := by decide +kernel
theorem d_X2_tooGreat_61 : decode cX2_tooGreat 61 = .ok (.iload_n 2, 1) := by decide +kernel
theorem d_X2_tooGreat_62 : decode cX2_tooGreat 62 = .ok (.ifCond .eq 14, 3) := by decide +kernel
theorem d_X2_tooGreat_65 : decode cX2_tooGreat 65 = .ok (.aload_n 0, 1) := by decide +kernel
theorem d_X2_tooGreat_66 : decode cX2_tooGreat 66 = .ok (.aload_n 0, 1) := by decide +kernel
theorem d_X2_tooGreat_67 : decode cX2_tooGreat 67 = .ok (.getfield 31, 3) := by decide +kernel
theorem d_X2_tooGreat_70 : decode cX2_tooGreat 70 = .ok (.invokevirtual 78, 3) := by decide +kernel
theorem d_X2_tooGreat_73 : decode cX2_tooGreat 73 = .ok (.goto 13, 3) := by decide +kernel
theorem d_X2_tooGreat_76 : decode cX2_tooGreat 76 = .ok (.aload_n 0, 1) := by decide +kernel
theorem d_X2_tooGreat_77 : decode cX2_tooGreat 77 = .ok (.aload_n 0, 1) := by decide +kernel
theorem d_X2_tooGreat_78 : decode cX2_tooGreat 78 = .ok (.getfield 31, 3) := by decide +kernel
theorem d_X2_tooGreat_81 : decode cX2_tooGreat 81 = .ok (.invokevirtual 78, 3) := by decide +kernel
theorem d_X2_tooGreat_84 : decode cX2_tooGreat 84 = .ok (.lconst 1, 1) := by decide +kernel
theorem d_X2_tooGreat_85 : decode cX2_tooGreat 85 = .ok (.lsub, 1) := by decide +kernel
theorem d_X2_tooGreat_86 : decode cX2_tooGreat 86 = .ok (.lreturn, 1) := by decide +kernel
theorem sg_X2_tooGreat_0 {L : Nat} {xs : Nat → Int32} {σ : ks_St} {mc ms : Nat} {P : ka_O → ks_St → Prop}   (k2 : ((si_ (ui_ σ 7 ((si_ σ 7) ||| 20)) 8) = 0) → ks_W L xs mX2_tooGreat rm_X2_tooGreat 26 [(0, .ref 16)] [] (ui_ σ 7 ((si_ σ 7) ||| 20)) mc ms P) (k4 : (¬ ((si_ (ui_ σ 7 ((si_ σ 7) ||| 20)) 8) = 0)) → (¬ (si_ (ui_ σ 7 ((si_ σ 7) ||| 20)) 8) = 4) → ks_W L xs mX2_tooGreat rm_X2_tooGreat 31 [(0, .ref 16)] [.int 0] (ui_ σ 7 ((si_ σ 7) ||| 20)) mc ms P) (k5 : (¬ ((si_ (ui_ σ 7 ((si_ σ 7) ||| 20)) 8) = 0)) → ((si_ (ui_ σ 7 ((si_ σ 7) ||| 20)) 8) = 4) → ks_W L xs mX2_tooGreat rm_X2_tooGreat 26 [(0, .ref 16)] [] (ui_ σ 7 ((si_ σ 7) ||| 20)) mc ms P) : ks_W L xs mX2_tooGreat rm_X2_tooGreat 0 [(0, .ref 16)] [] σ mc ms P := by
  refine ka_aload_n d_X2_tooGreat_0 rfl rfl 0 rfl ?_
  refine ka_dup d_X2_tooGreat_1 rfl rfl ?_
  refine gf_X2_0 d_X2_tooGreat_2 rfl fl_X2_7 ?_
  refine ka_bipush (v := 20) d_X2_tooGreat_5 rfl (by decide) ?_
  refine ka_ior d_X2_tooGreat_7 rfl ?_
  refine pf_X2_0 d_X2_tooGreat_8 rfl fl_X2_7 ?_
  refine ka_aload_n d_X2_tooGreat_11 rfl rfl 0 rfl ?_
  refine gf_X2_1 d_X2_tooGreat_12 rfl fl_X2_13 ?_
  refine ka_if_eq (tgt := 26) d_X2_tooGreat_15 (by decide) rfl (fun c1 => ?_) (fun c1 => ?_)
  · exact (k2 c1)
  · refine ka_aload_n d_X2_tooGreat_18 rfl rfl 0 rfl ?_
    refine gf_X2_1 d_X2_tooGreat_19 rfl fl_X2_13 ?_
    refine ka_iconst (v := 4) d_X2_tooGreat_22 rfl (by decide) ?_
    refine ka_icmp_ne (tgt := 30) d_X2_tooGreat_23 (by decide) rfl (fun c3 => ?_) (fun c3 => ?_)
    · refine ka_iconst (v := 0) d_X2_tooGreat_30 rfl (by decide) ?_
      exact (k4 c1 c3)
    · exact (k5 c1 c3)
theorem sg_X2_tooGreat_26 {L : Nat} {xs : Nat → Int32} {σ : ks_St} {mc ms : Nat} {P : ka_O → ks_St → Prop}   (k1 : ks_W L xs mX2_tooGreat rm_X2_tooGreat 31 [(0, .ref 16)] [.int 1] σ mc ms P) : ks_W L xs mX2_tooGreat rm_X2_tooGreat 26 [(0, .ref 16)] [] σ mc ms P := by
  refine ka_iconst (v := 1) d_X2_tooGreat_26 rfl (by decide) ?_
  refine ka_goto (q := 31) d_X2_tooGreat_27 (by decide) ?_
  exact k1
theorem sg_X2_tooGreat_31 {L : Nat} {xs : Nat → Int32} {σ : ks_St} {mc ms : Nat} {P : ka_O → ks_St → Prop} {s0 : Int32}  (k2 : ((si_ σ 12) = 0) → ks_W L xs mX2_tooGreat rm_X2_tooGreat 48 [(0, .ref 16), (1, .int s0)] [.int 2, .int (si_ σ 8)] σ mc ms P) (k3 : (¬ ((si_ σ 12) = 0)) → ks_W L xs mX2_tooGreat rm_X2_tooGreat 48 [(0, .ref 16), (1, .int s0)] [.int 3, .int (si_ σ 8)] σ mc ms P) : ks_W L xs mX2_tooGreat rm_X2_tooGreat 31 [(0, .ref 16)] [.int s0] σ mc ms P := by
  refine ka_istore_n (ls' := [(1, .int s0), (0, .ref 16)]) d_X2_tooGreat_31 rfl rfl (by decide) rfl ?_
  refine ka_aload_n d_X2_tooGreat_32 rfl rfl 1 rfl ?_
  refine gf_X2_1 d_X2_tooGreat_33 rfl fl_X2_13 ?_
  refine ka_aload_n d_X2_tooGreat_36 rfl rfl 1 rfl ?_
  refine gf_X2_6 d_X2_tooGreat_37 rfl fl_X2_31 ?_
  refine ka_if_eq (tgt := 47) d_X2_tooGreat_40 (by decide) rfl (fun c1 => ?_) (fun c1 => ?_)
  · refine ka_iconst (v := 2) d_X2_tooGreat_47 rfl (by decide) ?_
    refine ka_sub [1, 0] rfl ?_
    exact (k2 c1)
  · refine ka_iconst (v := 3) d_X2_tooGreat_43 rfl (by decide) ?_
    refine ka_goto (q := 48) d_X2_tooGreat_44 (by decide) ?_
    refine ka_sub [1, 0] rfl ?_
    exact (k3 c1)
theorem sg_X2_tooGreat_48 {L : Nat} {xs : Nat → Int32} {σ : ks_St} {mc ms : Nat} {P : ka_O → ks_St → Prop} {x1 : Int32} {s0 : Int32} {s1 : Int32}  (k2 : (¬ s0 = s1) → ks_W L xs mX2_tooGreat rm_X2_tooGreat 56 [(0, .ref 16), (1, .int x1)] [.int 0] σ mc ms P) (k3 : (s0 = s1) → ks_W L xs mX2_tooGreat rm_X2_tooGreat 56 [(0, .ref 16), (1, .int x1)] [.int 1] σ mc ms P) : ks_W L xs mX2_tooGreat rm_X2_tooGreat 48 [(0, .ref 16), (1, .int x1)] [.int s1, .int s0] σ mc ms P := by
  refine ka_icmp_ne (tgt := 55) d_X2_tooGreat_48 (by decide) rfl (fun c1 => ?_) (fun c1 => ?_)
  · refine ka_iconst (v := 0) d_X2_tooGreat_55 rfl (by decide) ?_
    exact (k2 c1)
  · refine ka_iconst (v := 1) d_X2_tooGreat_51 rfl (by decide) ?_
    refine ka_goto (q := 56) d_X2_tooGreat_52 (by decide) ?_
    exact (k3 c1)
theorem sg_X2_tooGreat_56 {L : Nat} {xs : Nat → Int32} {σ : ks_St} {mc ms : Nat} {P : ka_O → ks_St → Prop} {x1 : Int32} {s0 : Int32}  (k2 : (¬ x1 = 0) → ks_W L xs mX2_tooGreat rm_X2_tooGreat 65 [(0, .ref 16)] [] σ mc ms P) (k4 : (x1 = 0) → (s0 = 0) → ks_W L xs mX2_tooGreat rm_X2_tooGreat 81 [] [.int (si_ σ 12), .ref 16] σ mc ms P) (k5 : (x1 = 0) → (¬ (s0 = 0)) → ks_W L xs mX2_tooGreat rm_X2_tooGreat 65 [(0, .ref 16)] [] σ mc ms P) : ks_W L xs mX2_tooGreat rm_X2_tooGreat 56 [(0, .ref 16), (1, .int x1)] [.int s0] σ mc ms P := by
  refine ka_istore_n (ls' := [(2, .int s0), (0, .ref 16), (1, .int x1)]) d_X2_tooGreat_56 rfl rfl (by decide) rfl ?_
  refine ka_iload_n d_X2_tooGreat_57 rfl rfl 2 rfl ?_
  refine ka_if_ne (tgt := 65) d_X2_tooGreat_58 (by decide) rfl (fun c1 => ?_) (fun c1 => ?_)
  · refine ka_sub [1] rfl ?_
    exact (k2 c1)
  · refine ka_iload_n d_X2_tooGreat_61 rfl rfl 0 rfl ?_
    refine ka_if_eq (tgt := 76) d_X2_tooGreat_62 (by decide) rfl (fun c3 => ?_) (fun c3 => ?_)
    · refine ka_aload_n d_X2_tooGreat_76 rfl rfl 1 rfl ?_
      refine ka_aload_n d_X2_tooGreat_77 rfl rfl 1 rfl ?_
      refine gf_X2_6 d_X2_tooGreat_78 rfl fl_X2_31 ?_
      refine ka_sub [] rfl ?_
      exact (k4 c1 c3)
    · refine ka_sub [1] rfl ?_
      exact (k5 c1 c3)
theorem sg_X2_tooGreat_65 {L : Nat} {xs : Nat → Int32} {σ : ks_St} {mc ms : Nat} {P : ka_O → ks_St → Prop}   (k1 : ks_W L xs mX2_tooGreat rm_X2_tooGreat 70 [] [.int (si_ σ 12), .ref 16] σ mc ms P) : ks_W L xs mX2_tooGreat rm_X2_tooGreat 65 [(0, .ref 16)] [] σ mc ms P := by
  refine ka_aload_n d_X2_tooGreat_65 rfl rfl 0 rfl ?_
  refine ka_aload_n d_X2_tooGreat_66 rfl rfl 0 rfl ?_
  refine gf_X2_6 d_X2_tooGreat_67 rfl fl_X2_31 ?_
  refine ka_sub [] rfl ?_
  exact k1
theorem cs_X2_tooGreat_70 {L : Nat} {xs : Nat → Int32} {σ : ks_St} {mc ms : Nat} {P : ka_O → ks_St → Prop} {f : Int64 → ks_St → Prop} {s1 : Int32} (hK : ks_M L xs mX2_infinite rm_X2_infinite [.ref 16, .int s1] σ (pl_ f)) (kr : ∀ r σ', f r σ' → ks_W L xs mX2_tooGreat rm_X2_tooGreat 73 [] [.long r] σ' mc ms P) : ks_W L xs mX2_tooGreat rm_X2_tooGreat 70 [] [.int s1, .ref 16] σ mc ms P := by
  refine ks_callV (q := 73) (o := 16) (ci := 3) (As := [.int s1]) (st := []) d_X2_tooGreat_70 rfl rfl (by decide) rfl rfl lk_X2_78 ⟨by decide, by decide⟩ (Nat.le_of_ble_eq_true rfl) ⟨Nat.le_refl _, Nat.le_refl _⟩ hK (fun v σ' hq => ?_) (fun E σ' hq => ?_)
  · obtain ⟨r, e, hf⟩ := hq; cases e; exact kr r σ' hf
  · obtain ⟨r, e, hf⟩ := hq; cases e
theorem sg_X2_tooGreat_73 {L : Nat} {xs : Nat → Int32} {σ : ks_St} {mc ms : Nat} {P : ka_O → ks_St → Prop} {s0 : Int64}  (k1 : ks_W L xs mX2_tooGreat rm_X2_tooGreat 86 [] [.long s0] σ mc ms P) : ks_W L xs mX2_tooGreat rm_X2_tooGreat 73 [] [.long s0] σ mc ms P := by
  refine ka_goto (q := 86) d_X2_tooGreat_73 (by decide) ?_
  exact k1
theorem cs_X2_tooGreat_81 {L : Nat} {xs : Nat → Int32} {σ : ks_St} {mc ms : Nat} {P : ka_O → ks_St → Prop} {f : Int64 → ks_St → Prop} {s1 : Int32} (hK : ks_M L xs mX2_infinite rm_X2_infinite [.ref 16, .int s1] σ (pl_ f)) (kr : ∀ r σ', f r σ' → ks_W L xs mX2_tooGreat rm_X2_tooGreat 84 [] [.long r] σ' mc ms P) : ks_W L xs mX2_tooGreat rm_X2_tooGreat 81 [] [.int s1, .ref 16] σ mc ms P := by
  refine ks_callV (q := 84) (o := 16) (ci := 3) (As := [.int s1]) (st := []) d_X2_tooGreat_81 rfl rfl (by decide) rfl rfl lk_X2_78 ⟨by decide, by decide⟩ (Nat.le_of_ble_eq_true rfl) ⟨Nat.le_refl _, Nat.le_refl _⟩ hK (fun v σ' hq => ?_) (fun E σ' hq => ?_)
  · obtain ⟨r, e, hf⟩ := hq; cases e; exact kr r σ' hf
  · obtain ⟨r, e, hf⟩ := hq; cases e
theorem sg_X2_tooGreat_84 {L : Nat} {xs : Nat → Int32} {σ : ks_St} {mc ms : Nat} {P : ka_O → ks_St → Prop} {s0 : Int64}  (k1 : ks_W L xs mX2_tooGreat rm_X2_tooGreat 86 [] [.long (s0 - 1)] σ mc ms P) : ks_W L xs mX2_tooGreat rm_X2_tooGreat 84 [] [.long s0] σ mc ms P := by
  refine ka_lconst (v := 1) d_X2_tooGreat_84 rfl (by decide) ?_
  refine ka_lsub d_X2_tooGreat_85 rfl ?_
  exact k1
theorem sg_X2_tooGreat_86 {L : Nat} {xs : Nat → Int32} {σ : ks_St} {mc ms : Nat} {P : ka_O → ks_St → Prop} {s0 : Int64}  (r1 : P (.inl (some (.long s0))) σ) : ks_W L xs mX2_tooGreat rm_X2_tooGreat 86 [] [.long s0] σ mc ms P := by
  exact ks_lret d_X2_tooGreat_86 rfl r1
theorem d_X2_finite_0 : decode cX2_finite 0 = .ok (.lconst 1, 1) := by decide +kernel
theorem d_X2_finite_1 : decode cX2_finite 1 = .ok (.aload_n 0, 1) := by decide +kernel
theorem d_X2_finite_2 : decode cX2_finite 2 = .ok (.getfield 16, 3) := by decide +kernel
theorem d_X2_finite_5 : decode cX2_finite 5 = .ok (.lshl, 1) := by decide +kernel
theorem d_X2_finite_6 : decode cX2_finite 6 = .ok (.lstore 4, 2) := by decide +kernel
theorem d_X2_finite_8 : decode cX2_finite 8 = .ok (.lload_n 1, 1) := by decide +kernel
theorem d_X2_finite_9 : decode cX2_finite 9 = .ok (.lload 4, 2) := by decide +kernel
theorem d_X2_finite_11 : decode cX2_finite 11 = .ok (.lcmp, 1) := by decide +kernel
theorem d_X2_finite_12 : decode cX2_finite 12 = .ok (.ifCond .ge 13, 3) := by decide +kernel
theorem d_X2_finite_15 : decode cX2_finite 15 = .ok (.aload_n 0, 1) := by decide +kernel
theorem d_X2_finite_16 : decode cX2_finite 16 = .ok (.aload_n 0, 1) := by decide +kernel
theorem d_X2_finite_17 : decode cX2_finite 17 = .ok (.getfield 31, 3) := by decide +kernel
theorem d_X2_finite_20 : decode cX2_finite 20 = .ok (.lload_n 1, 1) := by decide +kernel
theorem d_X2_finite_21 : decode cX2_finite 21 = .ok (.invokevirtual 82, 3) := by decide +kernel
theorem d_X2_finite_24 : decode cX2_finite 24 = .ok (.lreturn, 1) := by decide +kernel
theorem d_X2_finite_25 : decode cX2_finite 25 = .ok (.lload_n 1, 1) := by decide +kernel
theorem d_X2_finite_26 : decode cX2_finite 26 = .ok (.lload 4, 2) := by decide +kernel
theorem d_X2_finite_28 : decode cX2_finite 28 = .ok (.iconst 1, 1) := by decide +kernel
theorem d_X2_finite_29 : decode cX2_finite 29 = .ok (.lshl, 1) := by decide +kernel
theorem d_X2_finite_30 : decode cX2_finite 30 = .ok (.lcmp, 1) := by decide +kernel
theorem d_X2_finite_31 : decode cX2_finite 31 = .ok (.ifCond .ne 7, 3) := by decide +kernel
theorem d_X2_finite_34 : decode cX2_finite 34 = .ok (.iconst 1, 1) := by decide +kernel
theorem d_X2_finite_35 : decode cX2_finite 35 = .ok (.goto 4, 3) := by decide +kernel
theorem d_X2_finite_38 : decode cX2_finite 38 = .ok (.iconst 0, 1) := by decide +kernel
theorem d_X2_finite_39 : decode cX2_finite 39 = .ok (.istore 6, 2) := by decide +kernel
theorem d_X2_finite_41 : decode cX2_finite 41 = .ok (.iload 6, 2) := by decide +kernel
theorem d_X2_finite_43 : decode cX2_finite 43 = .ok (.ifCond .eq 7, 3) := by decide +kernel
theorem d_X2_finite_46 : decode cX2_finite 46 = .ok (.lconst 0, 1) := by decide +kernel
theorem d_X2_finite_47 : decode cX2_finite 47 = .ok (.goto 7, 3) := by decide +kernel
theorem d_X2_finite_50 : decode cX2_finite 50 = .ok (.lload_n 1, 1) := by decide +kernel
theorem d_X2_finite_51 : decode cX2_finite 51 = .ok (.lload 4, 2) := by decide +kernel
theorem d_X2_finite_53 : decode cX2_finite 53 = .ok (.lsub, 1) := by decide +kernel
theorem d_X2_finite_54 : decode cX2_finite 54 = .ok (.lstore 7, 2) := by decide +kernel
theorem d_X2_finite_56 : decode cX2_finite 56 = .ok (.iload_n 3, 1) := by decide +kernel
theorem d_X2_finite_57 : decode cX2_finite 57 = .ok (.aload_n 0, 1) := by decide +kernel
theorem d_X2_finite_58 : decode cX2_finite 58 = .ok (.getfield 22, 3) := by decide +kernel
theorem d_X2_finite_61 : decode cX2_finite 61 = .ok (.isub, 1) := by decide +kernel
theorem d_X2_finite_62 : decode cX2_finite 62 = .ok (.iload 6, 2) := by decide +kernel
theorem d_X2_finite_64 : decode cX2_finite 64 = .ok (.ifCond .eq 7, 3) := by decide +kernel
theorem d_X2_finite_67 : decode cX2_finite 67 = .ok (.iconst 2, 1) := by decide +kernel
theorem d_X2_finite_68 : decode cX2_finite 68 = .ok (.goto 4, 3) := by decide +kernel
theorem d_X2_finite_71 : decode cX2_finite 71 = .ok (.iconst 1, 1) := by decide +kernel
theorem d_X2_finite_72 : decode cX2_finite 72 = .ok (.iadd, 1) := by decide +kernel
theorem d_X2_finite_73 : decode cX2_finite 73 = .ok (.istore 9, 2) := by decide +kernel
theorem d_X2_finite_75 : decode cX2_finite 75 = .ok (.iload 9, 2) := by decide +kernel
theorem d_X2_finite_77 : decode cX2_finite 77 = .ok (.aload_n 0, 1) := by decide +kernel
theorem d_X2_finite_78 : decode cX2_finite 78 = .ok (.getfield 19, 3) := by decide +kernel
theorem d_X2_finite_81 : decode cX2_finite 81 = .ok (.if_icmp .lt 8, 3) := by decide +kernel
theorem d_X2_finite_84 : decode cX2_finite 84 = .ok (.aload_n 0, 1) := by decide +kernel
theorem d_X2_finite_85 : decode cX2_finite 85 = .ok (.invokevirtual 119, 3) := by decide +kernel
theorem d_X2_finite_88 : decode cX2_finite 88 = .ok (.lreturn, 1) := by decide +kernel
theorem d_X2_finite_89 : decode cX2_finite 89 = .ok (.aload_n 0, 1) := by decide +kernel
theorem d_X2_finite_90 : decode cX2_finite 90 = .ok (.aload_n 0, 1) := by decide +kernel
theorem d_X2_finite_91 : decode cX2_finite 91 = .ok (.getfield 31, 3) := by decide +kernel
theorem d_X2_finite_94 : decode cX2_finite 94 = .ok (.iload 9, 2) := by decide +kernel
theorem d_X2_finite_96 : decode cX2_finite 96 = .ok (.i2l, 1) := by decide +kernel
theorem d_X2_finite_97 : decode cX2_finite 97 = .ok (.aload_n 0, 1) := by decide +kernel
theorem d_X2_finite_98 : decode cX2_finite 98 = .ok (.getfield 16, 3) := by decide +kernel
theorem d_X2_finite_101 : decode cX2_finite 101 = .ok (.lshl, 1) := by decide +kernel
theorem d_X2_finite_102 : decode cX2_finite 102 = .ok (.lload 7, 2) := by decide +kernel
theorem d_X2_finite_104 : decode cX2_finite 104 = .ok (.lor, 1) := by decide +kernel
theorem d_X2_finite_105 : decode cX2_finite 105 = .ok (.invokevirtual 82, 3) := by decide +kernel
theorem d_X2_finite_108 : decode cX2_finite 108 = .ok (.lreturn, 1) := by decide +kernel
theorem sg_X2_finite_0 {L : Nat} {xs : Nat → Int32} {σ : ks_St} {mc ms : Nat} {P : ka_O → ks_St → Prop} {x1 : Int64} {x3 : Int32}  (k3 : (0 ≤ (lg_cmp x1 ((1 : Int64) <<< (((si_ σ 9)).toInt64 &&& 63)))) → (¬ (lg_cmp x1 (((1 : Int64) <<< (((si_ σ 9)).toInt64 &&& 63)) <<< (((1 : Int32)).toInt64 &&& 63))) = 0) → ks_W L xs mX2_finite rm_X2_finite 39 [(0, .ref 16), (1, .long x1), (3, .int x3), (4, .long ((1 : Int64) <<< (((si_ σ 9)).toInt64 &&& 63)))] [.int 0] σ mc ms P) (k4 : (0 ≤ (lg_cmp x1 ((1 : Int64) <<< (((si_ σ 9)).toInt64 &&& 63)))) → ((lg_cmp x1 (((1 : Int64) <<< (((si_ σ 9)).toInt64 &&& 63)) <<< (((1 : Int32)).toInt64 &&& 63))) = 0) → ks_W L xs mX2_finite rm_X2_finite 39 [(0, .ref 16), (1, .long x1), (3, .int x3), (4, .long ((1 : Int64) <<< (((si_ σ 9)).toInt64 &&& 63)))] [.int 1] σ mc ms P) (k5 : (¬ (0 ≤ (lg_cmp x1 ((1 : Int64) <<< (((si_ σ 9)).toInt64 &&& 63))))) → ks_W L xs mX2_finite rm_X2_finite 21 [] [.long x1, .int (si_ σ 12), .ref 16] σ mc ms P) : ks_W L xs mX2_finite rm_X2_finite 0 [(0, .ref 16), (1, .long x1), (3, .int x3)] [] σ mc ms P := by
  refine ka_lconst (v := 1) d_X2_finite_0 rfl (by decide) ?_
  refine ka_aload_n d_X2_finite_1 rfl rfl 0 rfl ?_
  refine gf_X2_2 d_X2_finite_2 rfl fl_X2_16 ?_
  refine ka_lshl d_X2_finite_5 rfl ?_
  refine ka_lstore (ls' := [(4, .long ((1 : Int64) <<< (((si_ σ 9)).toInt64 &&& 63))), (0, .ref 16), (1, .long x1), (3, .int x3)]) d_X2_finite_6 rfl (by decide) rfl ?_
  refine ka_lload_n d_X2_finite_8 rfl rfl 2 rfl ?_
  refine ka_lload d_X2_finite_9 rfl 0 rfl ?_
  refine ka_lcmp d_X2_finite_11 rfl ?_
  refine ka_if_ge (tgt := 25) d_X2_finite_12 (by decide) rfl (fun c1 => ?_) (fun c1 => ?_)
  · refine ka_lload_n d_X2_finite_25 rfl rfl 2 rfl ?_
    refine ka_lload d_X2_finite_26 rfl 0 rfl ?_
    refine ka_iconst (v := 1) d_X2_finite_28 rfl (by decide) ?_
    refine ka_lshl d_X2_finite_29 rfl ?_
    refine ka_lcmp d_X2_finite_30 rfl ?_
    refine ka_if_ne (tgt := 38) d_X2_finite_31 (by decide) rfl (fun c2 => ?_) (fun c2 => ?_)
    · refine ka_iconst (v := 0) d_X2_finite_38 rfl (by decide) ?_
      refine ka_sub [1, 2, 3, 0] rfl ?_
      exact (k3 c1 c2)
    · refine ka_iconst (v := 1) d_X2_finite_34 rfl (by decide) ?_
      refine ka_goto (q := 39) d_X2_finite_35 (by decide) ?_
      refine ka_sub [1, 2, 3, 0] rfl ?_
      exact (k4 c1 c2)
  · refine ka_aload_n d_X2_finite_15 rfl rfl 1 rfl ?_
    refine ka_aload_n d_X2_finite_16 rfl rfl 1 rfl ?_
    refine gf_X2_6 d_X2_finite_17 rfl fl_X2_31 ?_
    refine ka_lload_n d_X2_finite_20 rfl rfl 2 rfl ?_
    refine ka_sub [] rfl ?_
    exact (k5 c1)
theorem cs_X2_finite_21 {L : Nat} {xs : Nat → Int32} {σ : ks_St} {mc ms : Nat} {P : ka_O → ks_St → Prop} {f : Int64 → ks_St → Prop} {s1 : Int32} {s2 : Int64} (hK : ks_M L xs mX2_withSign rm_X2_withSign [.ref 16, .int s1, .long s2] σ (pl_ f)) (kr : ∀ r σ', f r σ' → ks_W L xs mX2_finite rm_X2_finite 24 [] [.long r] σ' mc ms P) : ks_W L xs mX2_finite rm_X2_finite 21 [] [.long s2, .int s1, .ref 16] σ mc ms P := by
  refine ks_callV (q := 24) (o := 16) (ci := 3) (As := [.int s1, .long s2]) (st := []) d_X2_finite_21 rfl rfl (by decide) rfl rfl lk_X2_82 ⟨by decide, by decide⟩ (Nat.le_of_ble_eq_true rfl) ⟨Nat.le_refl _, Nat.le_refl _⟩ hK (fun v σ' hq => ?_) (fun E σ' hq => ?_)
  · obtain ⟨r, e, hf⟩ := hq; cases e; exact kr r σ' hf
  · obtain ⟨r, e, hf⟩ := hq; cases e
theorem sg_X2_finite_24 {L : Nat} {xs : Nat → Int32} {σ : ks_St} {mc ms : Nat} {P : ka_O → ks_St → Prop} {s0 : Int64}  (r1 : P (.inl (some (.long s0))) σ) : ks_W L xs mX2_finite rm_X2_finite 24 [] [.long s0] σ mc ms P := by
  exact ks_lret d_X2_finite_24 rfl r1
theorem sg_X2_finite_39 {L : Nat} {xs : Nat → Int32} {σ : ks_St} {mc ms : Nat} {P : ka_O → ks_St → Prop} {x1 : Int64} {x3 : Int32} {x4 : Int64} {s0 : Int32}  (k2 : (s0 = 0) → ks_W L xs mX2_finite rm_X2_finite 54 [(0, .ref 16), (3, .int x3), (6, .int s0)] [.long (x1 - x4)] σ mc ms P) (k3 : (¬ (s0 = 0)) → ks_W L xs mX2_finite rm_X2_finite 54 [(0, .ref 16), (3, .int x3), (6, .int s0)] [.long 0] σ mc ms P) : ks_W L xs mX2_finite rm_X2_finite 39 [(0, .ref 16), (1, .long x1), (3, .int x3), (4, .long x4)] [.int s0] σ mc ms P := by
  refine ka_istore (ls' := [(6, .int s0), (0, .ref 16), (1, .long x1), (3, .int x3), (4, .long x4)]) d_X2_finite_39 rfl (by decide) rfl ?_
  refine ka_iload d_X2_finite_41 rfl 0 rfl ?_
  refine ka_if_eq (tgt := 50) d_X2_finite_43 (by decide) rfl (fun c1 => ?_) (fun c1 => ?_)
  · refine ka_lload_n d_X2_finite_50 rfl rfl 2 rfl ?_
    refine ka_lload d_X2_finite_51 rfl 4 rfl ?_
    refine ka_lsub d_X2_finite_53 rfl ?_
    refine ka_sub [1, 3, 0] rfl ?_
    exact (k2 c1)
  · refine ka_lconst (v := 0) d_X2_finite_46 rfl (by decide) ?_
    refine ka_goto (q := 54) d_X2_finite_47 (by decide) ?_
    refine ka_sub [1, 3, 0] rfl ?_
    exact (k3 c1)
theorem sg_X2_finite_54 {L : Nat} {xs : Nat → Int32} {σ : ks_St} {mc ms : Nat} {P : ka_O → ks_St → Prop} {x3 : Int32} {x6 : Int32} {s0 : Int64}  (k2 : (x6 = 0) → ks_W L xs mX2_finite rm_X2_finite 72 [(0, .ref 16), (7, .long s0)] [.int 1, .int (x3 - (si_ σ 11))] σ mc ms P) (k3 : (¬ (x6 = 0)) → ks_W L xs mX2_finite rm_X2_finite 72 [(0, .ref 16), (7, .long s0)] [.int 2, .int (x3 - (si_ σ 11))] σ mc ms P) : ks_W L xs mX2_finite rm_X2_finite 54 [(0, .ref 16), (3, .int x3), (6, .int x6)] [.long s0] σ mc ms P := by
  refine ka_lstore (ls' := [(7, .long s0), (0, .ref 16), (3, .int x3), (6, .int x6)]) d_X2_finite_54 rfl (by decide) rfl ?_
  refine ka_iload_n d_X2_finite_56 rfl rfl 2 rfl ?_
  refine ka_aload_n d_X2_finite_57 rfl rfl 1 rfl ?_
  refine gf_X2_4 d_X2_finite_58 rfl fl_X2_22 ?_
  refine ka_isub d_X2_finite_61 rfl ?_
  refine ka_iload d_X2_finite_62 rfl 3 rfl ?_
  refine ka_if_eq (tgt := 71) d_X2_finite_64 (by decide) rfl (fun c1 => ?_) (fun c1 => ?_)
  · refine ka_iconst (v := 1) d_X2_finite_71 rfl (by decide) ?_
    refine ka_sub [1, 0] rfl ?_
    exact (k2 c1)
  · refine ka_iconst (v := 2) d_X2_finite_67 rfl (by decide) ?_
    refine ka_goto (q := 72) d_X2_finite_68 (by decide) ?_
    refine ka_sub [1, 0] rfl ?_
    exact (k3 c1)
theorem sg_X2_finite_72 {L : Nat} {xs : Nat → Int32} {σ : ks_St} {mc ms : Nat} {P : ka_O → ks_St → Prop} {x7 : Int64} {s0 : Int32} {s1 : Int32}  (k2 : ((s0 + s1) < (si_ σ 10)) → ks_W L xs mX2_finite rm_X2_finite 105 [] [.long ((((s0 + s1).toInt64) <<< (((si_ σ 9)).toInt64 &&& 63)) ||| x7), .int (si_ σ 12), .ref 16] σ mc ms P) (k3 : (¬ ((s0 + s1) < (si_ σ 10))) → ks_W L xs mX2_finite rm_X2_finite 85 [] [.ref 16] σ mc ms P) : ks_W L xs mX2_finite rm_X2_finite 72 [(0, .ref 16), (7, .long x7)] [.int s1, .int s0] σ mc ms P := by
  refine ka_iadd d_X2_finite_72 rfl ?_
  refine ka_istore (ls' := [(9, .int (s0 + s1)), (0, .ref 16), (7, .long x7)]) d_X2_finite_73 rfl (by decide) rfl ?_
  refine ka_iload d_X2_finite_75 rfl 0 rfl ?_
  refine ka_aload_n d_X2_finite_77 rfl rfl 1 rfl ?_
  refine gf_X2_3 d_X2_finite_78 rfl fl_X2_19 ?_
  refine ka_icmp_lt (tgt := 89) d_X2_finite_81 (by decide) rfl (fun c1 => ?_) (fun c1 => ?_)
  · refine ka_aload_n d_X2_finite_89 rfl rfl 1 rfl ?_
    refine ka_aload_n d_X2_finite_90 rfl rfl 1 rfl ?_
    refine gf_X2_6 d_X2_finite_91 rfl fl_X2_31 ?_
    refine ka_iload d_X2_finite_94 rfl 0 rfl ?_
    refine ka_i2l d_X2_finite_96 rfl ?_
    refine ka_aload_n d_X2_finite_97 rfl rfl 1 rfl ?_
    refine gf_X2_2 d_X2_finite_98 rfl fl_X2_16 ?_
    refine ka_lshl d_X2_finite_101 rfl ?_
    refine ka_lload d_X2_finite_102 rfl 2 rfl ?_
    refine ka_lor d_X2_finite_104 rfl ?_
    refine ka_sub [] rfl ?_
    exact (k2 c1)
  · refine ka_aload_n d_X2_finite_84 rfl rfl 1 rfl ?_
    refine ka_sub [] rfl ?_
    exact (k3 c1)
theorem cs_X2_finite_85 {L : Nat} {xs : Nat → Int32} {σ : ks_St} {mc ms : Nat} {P : ka_O → ks_St → Prop} {f : Int64 → ks_St → Prop}  (hK : ks_M L xs mX2_tooGreat rm_X2_tooGreat [.ref 16] σ (pl_ f)) (kr : ∀ r σ', f r σ' → ks_W L xs mX2_finite rm_X2_finite 88 [] [.long r] σ' mc ms P) : ks_W L xs mX2_finite rm_X2_finite 85 [] [.ref 16] σ mc ms P := by
  refine ks_callV (q := 88) (o := 16) (ci := 3) (As := []) (st := []) d_X2_finite_85 rfl rfl (by decide) rfl rfl lk_X2_119 ⟨by decide, by decide⟩ (Nat.le_of_ble_eq_true rfl) ⟨Nat.le_refl _, Nat.le_refl _⟩ hK (fun v σ' hq => ?_) (fun E σ' hq => ?_)
  · obtain ⟨r, e, hf⟩ := hq; cases e; exact kr r σ' hf
  · obtain ⟨r, e, hf⟩ := hq; cases e
theorem sg_X2_finite_88 {L : Nat} {xs : Nat → Int32} {σ : ks_St} {mc ms : Nat} {P : ka_O → ks_St → Prop} {s0 : Int64}  (r1 : P (.inl (some (.long s0))) σ) : ks_W L xs mX2_finite rm_X2_finite 88 [] [.long s0] σ mc ms P := by
  exact ks_lret d_X2_finite_88 rfl r1
theorem cs_X2_finite_105 {L : Nat} {xs : Nat → Int32} {σ : ks_St} {mc ms : Nat} {P : ka_O → ks_St → Prop} {f : Int64 → ks_St → Prop} {s1 : Int32} {s2 : Int64} (hK : ks_M L xs mX2_withSign rm_X2_withSign [.ref 16, .int s1, .long s2] σ (pl_ f)) (kr : ∀ r σ', f r σ' → ks_W L xs mX2_finite rm_X2_finite 108 [] [.long r] σ' mc ms P) : ks_W L xs mX2_finite rm_X2_finite 105 [] [.long s2, .int s1, .ref 16] σ mc ms P := by
  refine ks_callV (q := 108) (o := 16) (ci := 3) (As := [.int s1, .long s2]) (st := []) d_X2_finite_105 rfl rfl (by decide) rfl rfl lk_X2_82 ⟨by decide, by decide⟩ (Nat.le_of_ble_eq_true rfl) ⟨Nat.le_refl _, Nat.le_refl _⟩ hK (fun v σ' hq => ?_) (fun E σ' hq => ?_)
  · obtain ⟨r, e, hf⟩ := hq; cases e; exact kr r σ' hf
  · obtain ⟨r, e, hf⟩ := hq; cases e
theorem sg_X2_finite_108 {L : Nat} {xs : Nat → Int32} {σ : ks_St} {mc ms : Nat} {P : ka_O → ks_St → Prop} {s0 : Int64}  (r1 : P (.inl (some (.long s0))) σ) : ks_W L xs mX2_finite rm_X2_finite 108 [] [.long s0] σ mc ms P := by
  exact ks_lret d_X2_finite_108 rfl r1
theorem d_X2_goesAway_0 : decode cX2_goesAway 0 = .ok (.aload_n 0, 1) := by decide +kernel
theorem d_X2_goesAway_1 : decode cX2_goesAway 1 = .ok (.getfield 13, 3) := by decide +kernel
theorem d_X2_goesAway_4 : decode cX2_goesAway 4 = .ok (.tableswitch 115 0 4 #[36, 115, 64, 83, 102], 36) := by decide +kernel
theorem d_X2_goesAway_40 : decode cX2_goesAway 40 = .ok (.lload_n 3, 1) := by decide +kernel
theorem d_X2_goesAway_41 : decode cX2_goesAway 41 = .ok (.lload 5, 2) := by decide +kernel
theorem d_X2_goesAway_43 : decode cX2_goesAway 43 = .ok (.lcmp, 1) := by decide +kernel
theorem d_X2_goesAway_44 : decode cX2_goesAway 44 = .ok (.ifCond .gt 18, 3) := by decide +kernel
theorem d_X2_goesAway_47 : decode cX2_goesAway 47 = .ok (.lload_n 3, 1) := by decide +kernel
theorem d_X2_goesAway_48 : decode cX2_goesAway 48 = .ok (.lload 5, 2) := by decide +kernel
theorem d_X2_goesAway_50 : decode cX2_goesAway 50 = .ok (.lcmp, 1) := by decide +kernel
theorem d_X2_goesAway_51 : decode cX2_goesAway 51 = .ok (.ifCond .ne 15, 3) := by decide +kernel
theorem d_X2_goesAway_54 : decode cX2_goesAway 54 = .ok (.lload_n 1, 1) := by decide +kernel
theorem d_X2_goesAway_55 : decode cX2_goesAway 55 = .ok (.lconst 1, 1) := by decide +kernel
theorem d_X2_goesAway_56 : decode cX2_goesAway 56 = .ok (.land, 1) := by decide +kernel
theorem d_X2_goesAway_57 : decode cX2_goesAway 57 = .ok (.lconst 1, 1) := by decide +kernel
theorem d_X2_goesAway_58 : decode cX2_goesAway 58 = .ok (.lcmp, 1) := by decide +kernel
theorem d_X2_goesAway_59 : decode cX2_goesAway 59 = .ok (.ifCond .ne 7, 3) := by decide +kernel
theorem d_X2_goesAway_62 : decode cX2_goesAway 62 = .ok (.iconst 1, 1) := by decide +kernel
theorem d_X2_goesAway_63 : decode cX2_goesAway 63 = .ok (.goto 4, 3) := by decide +kernel
theorem d_X2_goesAway_66 : decode cX2_goesAway 66 = .ok (.iconst 0, 1) := by decide +kernel
theorem d_X2_goesAway_67 : decode cX2_goesAway 67 = .ok (.ireturn, 1) := by decide +kernel
theorem d_X2_goesAway_68 : decode cX2_goesAway 68 = .ok (.lload_n 3, 1) := by decide +kernel
theorem d_X2_goesAway_69 : decode cX2_goesAway 69 = .ok (.lconst 0, 1) := by decide +kernel
theorem d_X2_goesAway_70 : decode cX2_goesAway 70 = .ok (.lcmp, 1) := by decide +kernel
theorem d_X2_goesAway_71 : decode cX2_goesAway 71 = .ok (.ifCond .eq 14, 3) := by decide +kernel
theorem d_X2_goesAway_74 : decode cX2_goesAway 74 = .ok (.aload_n 0, 1) := by decide +kernel
theorem d_X2_goesAway_75 : decode cX2_goesAway 75 = .ok (.getfield 31, 3) := by decide +kernel
theorem d_X2_goesAway_78 : decode cX2_goesAway 78 = .ok (.ifCond .ne 7, 3) := by decide +kernel
theorem d_X2_goesAway_81 : decode cX2_goesAway 81 = .ok (.iconst 1, 1) := by decide +kernel
theorem d_X2_goesAway_82 : decode cX2_goesAway 82 = .ok (.goto 4, 3) := by decide +kernel
theorem d_X2_goesAway_85 : decode cX2_goesAway 85 = .ok (.iconst 0, 1) := by decide +kernel
theorem d_X2_goesAway_86 : decode cX2_goesAway 86 = .ok (.ireturn, 1) := by decide +kernel
theorem d_X2_goesAway_87 : decode cX2_goesAway 87 = .ok (.lload_n 3, 1) := by decide +kernel
theorem d_X2_goesAway_88 : decode cX2_goesAway 88 = .ok (.lconst 0, 1) := by decide +kernel
theorem d_X2_goesAway_89 : decode cX2_goesAway 89 = .ok (.lcmp, 1) := by decide +kernel
theorem d_X2_goesAway_90 : decode cX2_goesAway 90 = .ok (.ifCond .eq 14, 3) := by decide +kernel
theorem d_X2_goesAway_93 : decode cX2_goesAway 93 = .ok (.aload_n 0, 1) := by decide +kernel
theorem d_X2_goesAway_94 : decode cX2_goesAway 94 = .ok (.getfield 31, 3) := by decide +kernel
theorem d_X2_goesAway_97 : decode cX2_goesAway 97 = .ok (.ifCond .eq 7, 3) := by decide +kernel
theorem d_X2_goesAway_100 : decode cX2_goesAway 100 = .ok (.iconst 1, 1) := by decide +kernel
theorem d_X2_goesAway_101 : decode cX2_goesAway 101 = .ok (.goto 4, 3) := by decide +kernel
theorem d_X2_goesAway_104 : decode cX2_goesAway 104 = .ok (.iconst 0, 1) := by decide +kernel
theorem d_X2_goesAway_105 : decode cX2_goesAway 105 = .ok (.ireturn, 1) := by decide +kernel
theorem d_X2_goesAway_106 : decode cX2_goesAway 106 = .ok (.lload_n 3, 1) := by decide +kernel
theorem d_X2_goesAway_107 : decode cX2_goesAway 107 = .ok (.lload 5, 2) := by decide +kernel
theorem d_X2_goesAway_109 : decode cX2_goesAway 109 = .ok (.lcmp, 1) := by decide +kernel
theorem d_X2_goesAway_110 : decode cX2_goesAway 110 = .ok (.ifCond .lt 7, 3) := by decide +kernel
theorem d_X2_goesAway_113 : decode cX2_goesAway 113 = .ok (.iconst 1, 1) := by decide +kernel
theorem d_X2_goesAway_114 : decode cX2_goesAway 114 = .ok (.goto 4, 3) := by decide +kernel
theorem d_X2_goesAway_117 : decode cX2_goesAway 117 = .ok (.iconst 0, 1) := by decide +kernel
theorem d_X2_goesAway_118 : decode cX2_goesAway 118 = .ok (.ireturn, 1) := by decide +kernel
theorem d_X2_goesAway_119 : decode cX2_goesAway 119 = .ok (.iconst 0, 1) := by decide +kernel
theorem d_X2_goesAway_120 : decode cX2_goesAway 120 = .ok (.ireturn, 1) := by decide +kernel
theorem sg_X2_goesAway_0 {L : Nat} {xs : Nat → Int32} {σ : ks_St} {mc ms : Nat} {P : ka_O → ks_St → Prop} {x1 : Int64} {x3 : Int64} {x5 : Int64}  (k3 : ((si_ σ 8) = 0) → (0 < (lg_cmp x3 x5)) → ks_W L xs mX2_goesAway rm_X2_goesAway 62 [] [] σ mc ms P) (k5 : ((si_ σ 8) = 0) → (¬ (0 < (lg_cmp x3 x5))) → (¬ (lg_cmp x3 x5) = 0) → ks_W L xs mX2_goesAway rm_X2_goesAway 66 [] [] σ mc ms P) (k7 : ((si_ σ 8) = 0) → (¬ (0 < (lg_cmp x3 x5))) → ((lg_cmp x3 x5) = 0) → (¬ (lg_cmp (x1 &&& 1) 1) = 0) → ks_W L xs mX2_goesAway rm_X2_goesAway 66 [] [] σ mc ms P) (k8 : ((si_ σ 8) = 0) → (¬ (0 < (lg_cmp x3 x5))) → ((lg_cmp x3 x5) = 0) → ((lg_cmp (x1 &&& 1) 1) = 0) → ks_W L xs mX2_goesAway rm_X2_goesAway 62 [] [] σ mc ms P) (r10 : (¬ (si_ σ 8) = 0) → ((si_ σ 8) = 1) → P (.inl (some (.int 0))) σ) (k13 : (¬ (si_ σ 8) = 0) → (¬ (si_ σ 8) = 1) → ((si_ σ 8) = 2) → ((lg_cmp x3 0) = 0) → ks_W L xs mX2_goesAway rm_X2_goesAway 85 [] [] σ mc ms P) (k15 : (¬ (si_ σ 8) = 0) → (¬ (si_ σ 8) = 1) → ((si_ σ 8) = 2) → (¬ ((lg_cmp x3 0) = 0)) → (¬ (si_ σ 12) = 0) → ks_W L xs mX2_goesAway rm_X2_goesAway 85 [] [] σ mc ms P) (k16 : (¬ (si_ σ 8) = 0) → (¬ (si_ σ 8) = 1) → ((si_ σ 8) = 2) → (¬ ((lg_cmp x3 0) = 0)) → ((si_ σ 12) = 0) → ks_W L xs mX2_goesAway rm_X2_goesAway 86 [] [.int 1] σ mc ms P) (k19 : (¬ (si_ σ 8) = 0) → (¬ (si_ σ 8) = 1) → (¬ (si_ σ 8) = 2) → ((si_ σ 8) = 3) → ((lg_cmp x3 0) = 0) → ks_W L xs mX2_goesAway rm_X2_goesAway 104 [] [] σ mc ms P) (k21 : (¬ (si_ σ 8) = 0) → (¬ (si_ σ 8) = 1) → (¬ (si_ σ 8) = 2) → ((si_ σ 8) = 3) → (¬ ((lg_cmp x3 0) = 0)) → ((si_ σ 12) = 0) → ks_W L xs mX2_goesAway rm_X2_goesAway 104 [] [] σ mc ms P) (k22 : (¬ (si_ σ 8) = 0) → (¬ (si_ σ 8) = 1) → (¬ (si_ σ 8) = 2) → ((si_ σ 8) = 3) → (¬ ((lg_cmp x3 0) = 0)) → (¬ ((si_ σ 12) = 0)) → ks_W L xs mX2_goesAway rm_X2_goesAway 105 [] [.int 1] σ mc ms P) (k25 : (¬ (si_ σ 8) = 0) → (¬ (si_ σ 8) = 1) → (¬ (si_ σ 8) = 2) → (¬ (si_ σ 8) = 3) → ((si_ σ 8) = 4) → ((lg_cmp x3 x5) < 0) → ks_W L xs mX2_goesAway rm_X2_goesAway 118 [] [.int 0] σ mc ms P) (k26 : (¬ (si_ σ 8) = 0) → (¬ (si_ σ 8) = 1) → (¬ (si_ σ 8) = 2) → (¬ (si_ σ 8) = 3) → ((si_ σ 8) = 4) → (¬ ((lg_cmp x3 x5) < 0)) → ks_W L xs mX2_goesAway rm_X2_goesAway 118 [] [.int 1] σ mc ms P) (r27 : (¬ (si_ σ 8) = 0) → (¬ (si_ σ 8) = 1) → (¬ (si_ σ 8) = 2) → (¬ (si_ σ 8) = 3) → (¬ (si_ σ 8) = 4) → P (.inl (some (.int 0))) σ) : ks_W L xs mX2_goesAway rm_X2_goesAway 0 [(0, .ref 16), (1, .long x1), (3, .long x3), (5, .long x5)] [] σ mc ms P := by
  refine ka_aload_n d_X2_goesAway_0 rfl rfl 0 rfl ?_
  refine gf_X2_1 d_X2_goesAway_1 rfl fl_X2_13 ?_
  by_cases c1 : (si_ σ 8) = 0
  · refine ka_tabIn (q := 40) d_X2_goesAway_4 (by rw [c1]; decide) (by rw [c1]; decide) (by rw [c1]; rfl) (by decide) ?_
    refine ka_lload_n d_X2_goesAway_40 rfl rfl 2 rfl ?_
    refine ka_lload d_X2_goesAway_41 rfl 3 rfl ?_
    refine ka_lcmp d_X2_goesAway_43 rfl ?_
    refine ka_if_gt (tgt := 62) d_X2_goesAway_44 (by decide) rfl (fun c2 => ?_) (fun c2 => ?_)
    · refine ka_sub [] rfl ?_
      exact (k3 c1 c2)
    · refine ka_lload_n d_X2_goesAway_47 rfl rfl 2 rfl ?_
      refine ka_lload d_X2_goesAway_48 rfl 3 rfl ?_
      refine ka_lcmp d_X2_goesAway_50 rfl ?_
      refine ka_if_ne (tgt := 66) d_X2_goesAway_51 (by decide) rfl (fun c4 => ?_) (fun c4 => ?_)
      · refine ka_sub [] rfl ?_
        exact (k5 c1 c2 c4)
      · refine ka_lload_n d_X2_goesAway_54 rfl rfl 1 rfl ?_
        refine ka_lconst (v := 1) d_X2_goesAway_55 rfl (by decide) ?_
        refine ka_land d_X2_goesAway_56 rfl ?_
        refine ka_lconst (v := 1) d_X2_goesAway_57 rfl (by decide) ?_
        refine ka_lcmp d_X2_goesAway_58 rfl ?_
        refine ka_if_ne (tgt := 66) d_X2_goesAway_59 (by decide) rfl (fun c6 => ?_) (fun c6 => ?_)
        · refine ka_sub [] rfl ?_
          exact (k7 c1 c2 c4 c6)
        · refine ka_sub [] rfl ?_
          exact (k8 c1 c2 c4 c6)
  by_cases c9 : (si_ σ 8) = 1
  · refine ka_tabIn (q := 119) d_X2_goesAway_4 (by rw [c9]; decide) (by rw [c9]; decide) (by rw [c9]; rfl) (by decide) ?_
    refine ka_iconst (v := 0) d_X2_goesAway_119 rfl (by decide) ?_
    exact ks_iret (ty := .boolean) d_X2_goesAway_120 rfl rfl (r10 c1 c9)
  by_cases c11 : (si_ σ 8) = 2
  · refine ka_tabIn (q := 68) d_X2_goesAway_4 (by rw [c11]; decide) (by rw [c11]; decide) (by rw [c11]; rfl) (by decide) ?_
    refine ka_lload_n d_X2_goesAway_68 rfl rfl 2 rfl ?_
    refine ka_lconst (v := 0) d_X2_goesAway_69 rfl (by decide) ?_
    refine ka_lcmp d_X2_goesAway_70 rfl ?_
    refine ka_if_eq (tgt := 85) d_X2_goesAway_71 (by decide) rfl (fun c12 => ?_) (fun c12 => ?_)
    · refine ka_sub [] rfl ?_
      exact (k13 c1 c9 c11 c12)
    · refine ka_aload_n d_X2_goesAway_74 rfl rfl 0 rfl ?_
      refine gf_X2_6 d_X2_goesAway_75 rfl fl_X2_31 ?_
      refine ka_if_ne (tgt := 85) d_X2_goesAway_78 (by decide) rfl (fun c14 => ?_) (fun c14 => ?_)
      · refine ka_sub [] rfl ?_
        exact (k15 c1 c9 c11 c12 c14)
      · refine ka_iconst (v := 1) d_X2_goesAway_81 rfl (by decide) ?_
        refine ka_goto (q := 86) d_X2_goesAway_82 (by decide) ?_
        refine ka_sub [] rfl ?_
        exact (k16 c1 c9 c11 c12 c14)
  by_cases c17 : (si_ σ 8) = 3
  · refine ka_tabIn (q := 87) d_X2_goesAway_4 (by rw [c17]; decide) (by rw [c17]; decide) (by rw [c17]; rfl) (by decide) ?_
    refine ka_lload_n d_X2_goesAway_87 rfl rfl 2 rfl ?_
    refine ka_lconst (v := 0) d_X2_goesAway_88 rfl (by decide) ?_
    refine ka_lcmp d_X2_goesAway_89 rfl ?_
    refine ka_if_eq (tgt := 104) d_X2_goesAway_90 (by decide) rfl (fun c18 => ?_) (fun c18 => ?_)
    · refine ka_sub [] rfl ?_
      exact (k19 c1 c9 c11 c17 c18)
    · refine ka_aload_n d_X2_goesAway_93 rfl rfl 0 rfl ?_
      refine gf_X2_6 d_X2_goesAway_94 rfl fl_X2_31 ?_
      refine ka_if_eq (tgt := 104) d_X2_goesAway_97 (by decide) rfl (fun c20 => ?_) (fun c20 => ?_)
      · refine ka_sub [] rfl ?_
        exact (k21 c1 c9 c11 c17 c18 c20)
      · refine ka_iconst (v := 1) d_X2_goesAway_100 rfl (by decide) ?_
        refine ka_goto (q := 105) d_X2_goesAway_101 (by decide) ?_
        refine ka_sub [] rfl ?_
        exact (k22 c1 c9 c11 c17 c18 c20)
  by_cases c23 : (si_ σ 8) = 4
  · refine ka_tabIn (q := 106) d_X2_goesAway_4 (by rw [c23]; decide) (by rw [c23]; decide) (by rw [c23]; rfl) (by decide) ?_
    refine ka_lload_n d_X2_goesAway_106 rfl rfl 2 rfl ?_
    refine ka_lload d_X2_goesAway_107 rfl 3 rfl ?_
    refine ka_lcmp d_X2_goesAway_109 rfl ?_
    refine ka_if_lt (tgt := 117) d_X2_goesAway_110 (by decide) rfl (fun c24 => ?_) (fun c24 => ?_)
    · refine ka_iconst (v := 0) d_X2_goesAway_117 rfl (by decide) ?_
      refine ka_sub [] rfl ?_
      exact (k25 c1 c9 c11 c17 c23 c24)
    · refine ka_iconst (v := 1) d_X2_goesAway_113 rfl (by decide) ?_
      refine ka_goto (q := 118) d_X2_goesAway_114 (by decide) ?_
      refine ka_sub [] rfl ?_
      exact (k26 c1 c9 c11 c17 c23 c24)
  refine ka_tabOut (q := 119) d_X2_goesAway_4 (by have nc1 := lv_neT (a := 0) c1 (by decide); have nc9 := lv_neT (a := 1) c9 (by decide); have nc11 := lv_neT (a := 2) c11 (by decide); have nc17 := lv_neT (a := 3) c17 (by decide); have nc23 := lv_neT (a := 4) c23 (by decide); omega) (by decide) ?_
  refine ka_iconst (v := 0) d_X2_goesAway_119 rfl (by decide) ?_
  exact ks_iret (ty := .boolean) d_X2_goesAway_120 rfl rfl (r27 c1 c9 c11 c17 c23)
theorem sg_X2_goesAway_62 {L : Nat} {xs : Nat → Int32} {σ : ks_St} {mc ms : Nat} {P : ka_O → ks_St → Prop}   (k1 : ks_W L xs mX2_goesAway rm_X2_goesAway 67 [] [.int 1] σ mc ms P) : ks_W L xs mX2_goesAway rm_X2_goesAway 62 [] [] σ mc ms P := by
  refine ka_iconst (v := 1) d_X2_goesAway_62 rfl (by decide) ?_
  refine ka_goto (q := 67) d_X2_goesAway_63 (by decide) ?_
  exact k1
theorem sg_X2_goesAway_66 {L : Nat} {xs : Nat → Int32} {σ : ks_St} {mc ms : Nat} {P : ka_O → ks_St → Prop}   (k1 : ks_W L xs mX2_goesAway rm_X2_goesAway 67 [] [.int 0] σ mc ms P) : ks_W L xs mX2_goesAway rm_X2_goesAway 66 [] [] σ mc ms P := by
  refine ka_iconst (v := 0) d_X2_goesAway_66 rfl (by decide) ?_
  exact k1
theorem sg_X2_goesAway_67 {L : Nat} {xs : Nat → Int32} {σ : ks_St} {mc ms : Nat} {P : ka_O → ks_St → Prop} {s0 : Int32}  (b1 : narrow .boolean (.int s0) = .int s0) (r2 : P (.inl (some (.int s0))) σ) : ks_W L xs mX2_goesAway rm_X2_goesAway 67 [] [.int s0] σ mc ms P := by
  exact ks_iret (ty := .boolean) d_X2_goesAway_67 rfl b1 r2
theorem sg_X2_goesAway_85 {L : Nat} {xs : Nat → Int32} {σ : ks_St} {mc ms : Nat} {P : ka_O → ks_St → Prop}   (k1 : ks_W L xs mX2_goesAway rm_X2_goesAway 86 [] [.int 0] σ mc ms P) : ks_W L xs mX2_goesAway rm_X2_goesAway 85 [] [] σ mc ms P := by
  refine ka_iconst (v := 0) d_X2_goesAway_85 rfl (by decide) ?_
  exact k1
theorem sg_X2_goesAway_86 {L : Nat} {xs : Nat → Int32} {σ : ks_St} {mc ms : Nat} {P : ka_O → ks_St → Prop} {s0 : Int32}  (b1 : narrow .boolean (.int s0) = .int s0) (r2 : P (.inl (some (.int s0))) σ) : ks_W L xs mX2_goesAway rm_X2_goesAway 86 [] [.int s0] σ mc ms P := by
  exact ks_iret (ty := .boolean) d_X2_goesAway_86 rfl b1 r2
theorem sg_X2_goesAway_104 {L : Nat} {xs : Nat → Int32} {σ : ks_St} {mc ms : Nat} {P : ka_O → ks_St → Prop}   (k1 : ks_W L xs mX2_goesAway rm_X2_goesAway 105 [] [.int 0] σ mc ms P) : ks_W L xs mX2_goesAway rm_X2_goesAway 104 [] [] σ mc ms P := by
  refine ka_iconst (v := 0) d_X2_goesAway_104 rfl (by decide) ?_
  exact k1
theorem sg_X2_goesAway_105 {L : Nat} {xs : Nat → Int32} {σ : ks_St} {mc ms : Nat} {P : ka_O → ks_St → Prop} {s0 : Int32}  (b1 : narrow .boolean (.int s0) = .int s0) (r2 : P (.inl (some (.int s0))) σ) : ks_W L xs mX2_goesAway rm_X2_goesAway 105 [] [.int s0] σ mc ms P := by
  exact ks_iret (ty := .boolean) d_X2_goesAway_105 rfl b1 r2
theorem sg_X2_goesAway_118 {L : Nat} {xs : Nat → Int32} {σ : ks_St} {mc ms : Nat} {P : ka_O → ks_St → Prop} {s0 : Int32}  (b1 : narrow .boolean (.int s0) = .int s0) (r2 : P (.inl (some (.int s0))) σ) : ks_W L xs mX2_goesAway rm_X2_goesAway 118 [] [.int s0] σ mc ms P := by
  exact ks_iret (ty := .boolean) d_X2_goesAway_118 rfl b1 r2
theorem d_X2_rounded_0 : decode cX2_rounded 0 = .ok (.aload_n 0, 1) := by decide +kernel
theorem d_X2_rounded_1 : decode cX2_rounded 1 = .ok (.getfield 35, 3) := by decide +kernel
theorem d_X2_rounded_4 : decode cX2_rounded 4 = .ok (.lconst 0, 1) := by decide +kernel
theorem d_X2_rounded_5 : decode cX2_rounded 5 = .ok (.lcmp, 1) := by decide +kernel
theorem d_X2_rounded_6 : decode cX2_rounded 6 = .ok (.ifCond .ne 13, 3) := by decide +kernel
theorem d_X2_rounded_9 : decode cX2_rounded 9 = .ok (.aload_n 0, 1) := by decide +kernel
theorem d_X2_rounded_10 : decode cX2_rounded 10 = .ok (.aload_n 0, 1) := by decide +kernel
theorem d_X2_rounded_11 : decode cX2_rounded 11 = .ok (.getfield 31, 3) := by decide +kernel
theorem d_X2_rounded_14 : decode cX2_rounded 14 = .ok (.lconst 0, 1) := by decide +kernel
theorem d_X2_rounded_15 : decode cX2_rounded 15 = .ok (.invokevirtual 82, 3) := by decide +kernel
theorem d_X2_rounded_18 : decode cX2_rounded 18 = .ok (.lreturn, 1) := by decide +kernel
theorem d_X2_rounded_19 : decode cX2_rounded 19 = .ok (.aload_n 0, 1) := by decide +kernel
theorem d_X2_rounded_20 : decode cX2_rounded 20 = .ok (.getfield 38, 3) := by decide +kernel
theorem d_X2_rounded_23 : decode cX2_rounded 23 = .ok (.aload_n 0, 1) := by decide +kernel
theorem d_X2_rounded_24 : decode cX2_rounded 24 = .ok (.getfield 35, 3) := by decide +kernel
theorem d_X2_rounded_27 : decode cX2_rounded 27 = .ok (.invokestatic 104, 3) := by decide +kernel
theorem d_X2_rounded_30 : decode cX2_rounded 30 = .ok (.iadd, 1) := by decide +kernel
theorem d_X2_rounded_31 : decode cX2_rounded 31 = .ok (.iconst 1, 1) := by decide +kernel
theorem d_X2_rounded_32 : decode cX2_rounded 32 = .ok (.isub, 1) := by decide +kernel
theorem d_X2_rounded_33 : decode cX2_rounded 33 = .ok (.istore_n 1, 1) := by decide +kernel
theorem d_X2_rounded_34 : decode cX2_rounded 34 = .ok (.iload_n 1, 1) := by decide +kernel
theorem d_X2_rounded_35 : decode cX2_rounded 35 = .ok (.aload_n 0, 1) := by decide +kernel
theorem d_X2_rounded_36 : decode cX2_rounded 36 = .ok (.getfield 16, 3) := by decide +kernel
theorem d_X2_rounded_39 : decode cX2_rounded 39 = .ok (.isub, 1) := by decide +kernel
theorem d_X2_rounded_40 : decode cX2_rounded 40 = .ok (.aload_n 0, 1) := by decide +kernel
theorem d_X2_rounded_41 : decode cX2_rounded 41 = .ok (.getfield 22, 3) := by decide +kernel
theorem d_X2_rounded_44 : decode cX2_rounded 44 = .ok (.invokestatic 109, 3) := by decide +kernel
theorem d_X2_rounded_47 : decode cX2_rounded 47 = .ok (.istore_n 2, 1) := by decide +kernel
theorem d_X2_rounded_48 : decode cX2_rounded 48 = .ok (.iload_n 2, 1) := by decide +kernel
theorem d_X2_rounded_49 : decode cX2_rounded 49 = .ok (.aload_n 0, 1) := by decide +kernel
theorem d_X2_rounded_50 : decode cX2_rounded 50 = .ok (.getfield 38, 3) := by decide +kernel
theorem d_X2_rounded_53 : decode cX2_rounded 53 = .ok (.if_icmp .gt 20, 3) := by decide +kernel
theorem d_X2_rounded_56 : decode cX2_rounded 56 = .ok (.aload_n 0, 1) := by decide +kernel
theorem d_X2_rounded_57 : decode cX2_rounded 57 = .ok (.aload_n 0, 1) := by decide +kernel
theorem d_X2_rounded_58 : decode cX2_rounded 58 = .ok (.getfield 35, 3) := by decide +kernel
theorem d_X2_rounded_61 : decode cX2_rounded 61 = .ok (.aload_n 0, 1) := by decide +kernel
theorem d_X2_rounded_62 : decode cX2_rounded 62 = .ok (.getfield 38, 3) := by decide +kernel
theorem d_X2_rounded_65 : decode cX2_rounded 65 = .ok (.iload_n 2, 1) := by decide +kernel
theorem d_X2_rounded_66 : decode cX2_rounded 66 = .ok (.isub, 1) := by decide +kernel
theorem d_X2_rounded_67 : decode cX2_rounded 67 = .ok (.lshl, 1) := by decide +kernel
theorem d_X2_rounded_68 : decode cX2_rounded 68 = .ok (.iload_n 2, 1) := by decide +kernel
theorem d_X2_rounded_69 : decode cX2_rounded 69 = .ok (.invokevirtual 112, 3) := by decide +kernel
theorem d_X2_rounded_72 : decode cX2_rounded 72 = .ok (.lreturn, 1) := by decide +kernel
theorem d_X2_rounded_73 : decode cX2_rounded 73 = .ok (.iload_n 2, 1) := by decide +kernel
theorem d_X2_rounded_74 : decode cX2_rounded 74 = .ok (.aload_n 0, 1) := by decide +kernel
theorem d_X2_rounded_75 : decode cX2_rounded 75 = .ok (.getfield 38, 3) := by decide +kernel
theorem d_X2_rounded_78 : decode cX2_rounded 78 = .ok (.isub, 1) := by decide +kernel
theorem d_X2_rounded_79 : decode cX2_rounded 79 = .ok (.bipush 62, 2) := by decide +kernel
theorem d_X2_rounded_81 : decode cX2_rounded 81 = .ok (.invokestatic 90, 3) := by decide +kernel
theorem d_X2_rounded_84 : decode cX2_rounded 84 = .ok (.istore_n 3, 1) := by decide +kernel
theorem d_X2_rounded_85 : decode cX2_rounded 85 = .ok (.aload_n 0, 1) := by decide +kernel
theorem d_X2_rounded_86 : decode cX2_rounded 86 = .ok (.getfield 35, 3) := by decide +kernel
theorem d_X2_rounded_89 : decode cX2_rounded 89 = .ok (.iload_n 3, 1) := by decide +kernel
theorem d_X2_rounded_90 : decode cX2_rounded 90 = .ok (.lushr, 1) := by decide +kernel
theorem d_X2_rounded_91 : decode cX2_rounded 91 = .ok (.lstore 4, 2) := by decide +kernel
theorem d_X2_rounded_93 : decode cX2_rounded 93 = .ok (.aload_n 0, 1) := by decide +kernel
theorem d_X2_rounded_94 : decode cX2_rounded 94 = .ok (.getfield 35, 3) := by decide +kernel
theorem d_X2_rounded_97 : decode cX2_rounded 97 = .ok (.lload 4, 2) := by decide +kernel
theorem d_X2_rounded_99 : decode cX2_rounded 99 = .ok (.iload_n 3, 1) := by decide +kernel
theorem d_X2_rounded_100 : decode cX2_rounded 100 = .ok (.lshl, 1) := by decide +kernel
theorem d_X2_rounded_101 : decode cX2_rounded 101 = .ok (.lsub, 1) := by decide +kernel
theorem d_X2_rounded_102 : decode cX2_rounded 102 = .ok (.lstore 6, 2) := by decide +kernel
theorem d_X2_rounded_104 : decode cX2_rounded 104 = .ok (.lload 6, 2) := by decide +kernel
theorem d_X2_rounded_106 : decode cX2_rounded 106 = .ok (.lconst 0, 1) := by decide +kernel
theorem d_X2_rounded_107 : decode cX2_rounded 107 = .ok (.lcmp, 1) := by decide +kernel
theorem d_X2_rounded_108 : decode cX2_rounded 108 = .ok (.ifCond .eq 42, 3) := by decide +kernel
theorem d_X2_rounded_111 : decode cX2_rounded 111 = .ok (.aload_n 0, 1) := by decide +kernel
theorem d_X2_rounded_112 : decode cX2_rounded 112 = .ok (.dup, 1) := by decide +kernel
theorem d_X2_rounded_113 : decode cX2_rounded 113 = .ok (.getfield 7, 3) := by decide +kernel
theorem d_X2_rounded_116 : decode cX2_rounded 116 = .ok (.bipush 16, 2) := by decide +kernel
theorem d_X2_rounded_118 : decode cX2_rounded 118 = .ok (.ior, 1) := by decide +kernel
theorem d_X2_rounded_119 : decode cX2_rounded 119 = .ok (.putfield 7, 3) := by decide +kernel
theorem d_X2_rounded_122 : decode cX2_rounded 122 = .ok (.aload_n 0, 1) := by decide +kernel
theorem d_X2_rounded_123 : decode cX2_rounded 123 = .ok (.dup, 1) := by decide +kernel
theorem d_X2_rounded_124 : decode cX2_rounded 124 = .ok (.getfield 7, 3) := by decide +kernel
theorem d_X2_rounded_127 : decode cX2_rounded 127 = .ok (.iload_n 1, 1) := by decide +kernel
theorem d_X2_rounded_128 : decode cX2_rounded 128 = .ok (.aload_n 0, 1) := by decide +kernel
theorem d_X2_rounded_129 : decode cX2_rounded 129 = .ok (.getfield 22, 3) := by decide +kernel
theorem d_X2_rounded_132 : decode cX2_rounded 132 = .ok (.aload_n 0, 1) := by decide +kernel
theorem d_X2_rounded_133 : decode cX2_rounded 133 = .ok (.getfield 16, 3) := by decide +kernel
theorem d_X2_rounded_136 : decode cX2_rounded 136 = .ok (.iadd, 1) := by decide +kernel
theorem d_X2_rounded_137 : decode cX2_rounded 137 = .ok (.if_icmp .ge 8, 3) := by decide +kernel
theorem d_X2_rounded_140 : decode cX2_rounded 140 = .ok (.bipush 8, 2) := by decide +kernel
theorem d_X2_rounded_142 : decode cX2_rounded 142 = .ok (.goto 4, 3) := by decide +kernel
theorem d_X2_rounded_145 : decode cX2_rounded 145 = .ok (.iconst 0, 1) := by decide +kernel
theorem d_X2_rounded_146 : decode cX2_rounded 146 = .ok (.ior, 1) := by decide +kernel
theorem d_X2_rounded_147 : decode cX2_rounded 147 = .ok (.putfield 7, 3) := by decide +kernel
theorem d_X2_rounded_150 : decode cX2_rounded 150 = .ok (.aload_n 0, 1) := by decide +kernel
theorem d_X2_rounded_151 : decode cX2_rounded 151 = .ok (.lload 4, 2) := by decide +kernel
theorem d_X2_rounded_153 : decode cX2_rounded 153 = .ok (.lload 6, 2) := by decide +kernel
theorem d_X2_rounded_155 : decode cX2_rounded 155 = .ok (.lconst 1, 1) := by decide +kernel
theorem d_X2_rounded_156 : decode cX2_rounded 156 = .ok (.iload_n 3, 1) := by decide +kernel
theorem d_X2_rounded_157 : decode cX2_rounded 157 = .ok (.iconst 1, 1) := by decide +kernel
theorem d_X2_rounded_158 : decode cX2_rounded 158 = .ok (.isub, 1) := by decide +kernel
theorem d_X2_rounded_159 : decode cX2_rounded 159 = .ok (.lshl, 1) := by decide +kernel
theorem d_X2_rounded_160 : decode cX2_rounded 160 = .ok (.invokevirtual 115, 3) := by decide +kernel
theorem d_X2_rounded_163 : decode cX2_rounded 163 = .ok (.istore 8, 2) := by decide +kernel
theorem d_X2_rounded_165 : decode cX2_rounded 165 = .ok (.aload_n 0, 1) := by decide +kernel
theorem d_X2_rounded_166 : decode cX2_rounded 166 = .ok (.iload 8, 2) := by decide +kernel
theorem d_X2_rounded_168 : decode cX2_rounded 168 = .ok (.ifCond .eq 10, 3) := by decide +kernel
theorem d_X2_rounded_171 : decode cX2_rounded 171 = .ok (.lload 4, 2) := by decide +kernel
theorem d_X2_rounded_173 : decode cX2_rounded 173 = .ok (.lconst 1, 1) := by decide +kernel
theorem d_X2_rounded_174 : decode cX2_rounded 174 = .ok (.ladd, 1) := by decide +kernel
theorem d_X2_rounded_175 : decode cX2_rounded 175 = .ok (.goto 5, 3) := by decide +kernel
theorem d_X2_rounded_178 : decode cX2_rounded 178 = .ok (.lload 4, 2) := by decide +kernel
theorem d_X2_rounded_180 : decode cX2_rounded 180 = .ok (.iload_n 2, 1) := by decide +kernel
theorem d_X2_rounded_181 : decode cX2_rounded 181 = .ok (.invokevirtual 112, 3) := by decide +kernel
theorem d_X2_rounded_184 : decode cX2_rounded 184 = .ok (.lreturn, 1) := by decide +kernel
theorem sg_X2_rounded_0 {L : Nat} {xs : Nat → Int32} {σ : ks_St} {mc ms : Nat} {P : ka_O → ks_St → Prop}   (k2 : (¬ (lg_cmp (sj_ σ 1) 0) = 0) → ks_W L xs mX2_rounded rm_X2_rounded 27 [(0, .ref 16)] [.long (sj_ σ 1), .int (si_ σ 13)] σ mc ms P) (k3 : ((lg_cmp (sj_ σ 1) 0) = 0) → ks_W L xs mX2_rounded rm_X2_rounded 15 [] [.long 0, .int (si_ σ 12), .ref 16] σ mc ms P) : ks_W L xs mX2_rounded rm_X2_rounded 0 [(0, .ref 16)] [] σ mc ms P := by
  refine ka_aload_n d_X2_rounded_0 rfl rfl 0 rfl ?_
  refine gf_X2_7 d_X2_rounded_1 rfl fl_X2_35 ?_
  refine ka_lconst (v := 0) d_X2_rounded_4 rfl (by decide) ?_
  refine ka_lcmp d_X2_rounded_5 rfl ?_
  refine ka_if_ne (tgt := 19) d_X2_rounded_6 (by decide) rfl (fun c1 => ?_) (fun c1 => ?_)
  · refine ka_aload_n d_X2_rounded_19 rfl rfl 0 rfl ?_
    refine gf_X2_8 d_X2_rounded_20 rfl fl_X2_38 ?_
    refine ka_aload_n d_X2_rounded_23 rfl rfl 0 rfl ?_
    refine gf_X2_7 d_X2_rounded_24 rfl fl_X2_35 ?_
    exact (k2 c1)
  · refine ka_aload_n d_X2_rounded_9 rfl rfl 0 rfl ?_
    refine ka_aload_n d_X2_rounded_10 rfl rfl 0 rfl ?_
    refine gf_X2_6 d_X2_rounded_11 rfl fl_X2_31 ?_
    refine ka_lconst (v := 0) d_X2_rounded_14 rfl (by decide) ?_
    refine ka_sub [] rfl ?_
    exact (k3 c1)
theorem cs_X2_rounded_15 {L : Nat} {xs : Nat → Int32} {σ : ks_St} {mc ms : Nat} {P : ka_O → ks_St → Prop} {f : Int64 → ks_St → Prop} {s1 : Int32} {s2 : Int64} (hK : ks_M L xs mX2_withSign rm_X2_withSign [.ref 16, .int s1, .long s2] σ (pl_ f)) (kr : ∀ r σ', f r σ' → ks_W L xs mX2_rounded rm_X2_rounded 18 [] [.long r] σ' mc ms P) : ks_W L xs mX2_rounded rm_X2_rounded 15 [] [.long s2, .int s1, .ref 16] σ mc ms P := by
  refine ks_callV (q := 18) (o := 16) (ci := 3) (As := [.int s1, .long s2]) (st := []) d_X2_rounded_15 rfl rfl (by decide) rfl rfl lk_X2_82 ⟨by decide, by decide⟩ (Nat.le_of_ble_eq_true rfl) ⟨Nat.le_refl _, Nat.le_refl _⟩ hK (fun v σ' hq => ?_) (fun E σ' hq => ?_)
  · obtain ⟨r, e, hf⟩ := hq; cases e; exact kr r σ' hf
  · obtain ⟨r, e, hf⟩ := hq; cases e
theorem sg_X2_rounded_18 {L : Nat} {xs : Nat → Int32} {σ : ks_St} {mc ms : Nat} {P : ka_O → ks_St → Prop} {s0 : Int64}  (r1 : P (.inl (some (.long s0))) σ) : ks_W L xs mX2_rounded rm_X2_rounded 18 [] [.long s0] σ mc ms P := by
  exact ks_lret d_X2_rounded_18 rfl r1
theorem cs_X2_rounded_27 {L : Nat} {xs : Nat → Int32} {σ : ks_St} {mc ms : Nat} {P : ka_O → ks_St → Prop} {f : Int32 → ks_St → Prop} {s0 : Int32} {s1 : Int64} (hK : ks_M L xs mX3_lengthOfLimb rm_X3_lengthOfLimb [.long s1] σ (pi_ f)) (kr : ∀ r σ', f r σ' → ks_W L xs mX2_rounded rm_X2_rounded 30 [(0, .ref 16)] [.int r, .int s0] σ' mc ms P) : ks_W L xs mX2_rounded rm_X2_rounded 27 [(0, .ref 16)] [.long s1, .int s0] σ mc ms P := by
  refine ks_callS (q := 30) (As := [.long s1]) (st := [.int s0]) d_X2_rounded_27 rfl rfl lk_X2_104 ⟨by decide, by decide⟩ (Nat.le_of_ble_eq_true rfl) ⟨Nat.le_refl _, Nat.le_refl _⟩ hK (fun v σ' hq => ?_) (fun E σ' hq => ?_)
  · obtain ⟨r, e, hf⟩ := hq; cases e; exact kr r σ' hf
  · obtain ⟨r, e, hf⟩ := hq; cases e
theorem sg_X2_rounded_30 {L : Nat} {xs : Nat → Int32} {σ : ks_St} {mc ms : Nat} {P : ka_O → ks_St → Prop} {s0 : Int32} {s1 : Int32}  (k1 : ks_W L xs mX2_rounded rm_X2_rounded 44 [(0, .ref 16), (1, .int ((s0 + s1) - 1))] [.int (si_ σ 11), .int (((s0 + s1) - 1) - (si_ σ 9))] σ mc ms P) : ks_W L xs mX2_rounded rm_X2_rounded 30 [(0, .ref 16)] [.int s1, .int s0] σ mc ms P := by
  refine ka_iadd d_X2_rounded_30 rfl ?_
  refine ka_iconst (v := 1) d_X2_rounded_31 rfl (by decide) ?_
  refine ka_isub d_X2_rounded_32 rfl ?_
  refine ka_istore_n (ls' := [(1, .int ((s0 + s1) - 1)), (0, .ref 16)]) d_X2_rounded_33 rfl rfl (by decide) rfl ?_
  refine ka_iload_n d_X2_rounded_34 rfl rfl 0 rfl ?_
  refine ka_aload_n d_X2_rounded_35 rfl rfl 1 rfl ?_
  refine gf_X2_2 d_X2_rounded_36 rfl fl_X2_16 ?_
  refine ka_isub d_X2_rounded_39 rfl ?_
  refine ka_aload_n d_X2_rounded_40 rfl rfl 1 rfl ?_
  refine gf_X2_4 d_X2_rounded_41 rfl fl_X2_22 ?_
  refine ka_sub [1, 0] rfl ?_
  exact k1
theorem cs_X2_rounded_44 {L : Nat} {xs : Nat → Int32} {σ : ks_St} {mc ms : Nat} {P : ka_O → ks_St → Prop} {f : Int32 → ks_St → Prop} {x1 : Int32} {s0 : Int32} {s1 : Int32} (hK : ks_M L xs mM_max rm_M_max [.int s0, .int s1] σ (pi_ f)) (kr : ∀ r σ', f r σ' → ks_W L xs mX2_rounded rm_X2_rounded 47 [(0, .ref 16), (1, .int x1)] [.int r] σ' mc ms P) : ks_W L xs mX2_rounded rm_X2_rounded 44 [(0, .ref 16), (1, .int x1)] [.int s1, .int s0] σ mc ms P := by
  refine ks_callS (q := 47) (As := [.int s0, .int s1]) (st := []) d_X2_rounded_44 rfl rfl lk_X2_109 ⟨by decide, by decide⟩ (Nat.le_of_ble_eq_true rfl) ⟨Nat.le_refl _, Nat.le_refl _⟩ hK (fun v σ' hq => ?_) (fun E σ' hq => ?_)
  · obtain ⟨r, e, hf⟩ := hq; cases e; exact kr r σ' hf
  · obtain ⟨r, e, hf⟩ := hq; cases e
theorem sg_X2_rounded_47 {L : Nat} {xs : Nat → Int32} {σ : ks_St} {mc ms : Nat} {P : ka_O → ks_St → Prop} {x1 : Int32} {s0 : Int32}  (k2 : ((si_ σ 13) < s0) → ks_W L xs mX2_rounded rm_X2_rounded 81 [(0, .ref 16), (1, .int x1), (2, .int s0)] [.int 62, .int (s0 - (si_ σ 13))] σ mc ms P) (k3 : (¬ ((si_ σ 13) < s0)) → ks_W L xs mX2_rounded rm_X2_rounded 69 [] [.int s0, .long ((sj_ σ 1) <<< ((((si_ σ 13) - s0)).toInt64 &&& 63)), .ref 16] σ mc ms P) : ks_W L xs mX2_rounded rm_X2_rounded 47 [(0, .ref 16), (1, .int x1)] [.int s0] σ mc ms P := by
  refine ka_istore_n (ls' := [(2, .int s0), (0, .ref 16), (1, .int x1)]) d_X2_rounded_47 rfl rfl (by decide) rfl ?_
  refine ka_iload_n d_X2_rounded_48 rfl rfl 0 rfl ?_
  refine ka_aload_n d_X2_rounded_49 rfl rfl 1 rfl ?_
  refine gf_X2_8 d_X2_rounded_50 rfl fl_X2_38 ?_
  refine ka_icmp_gt (tgt := 73) d_X2_rounded_53 (by decide) rfl (fun c1 => ?_) (fun c1 => ?_)
  · refine ka_iload_n d_X2_rounded_73 rfl rfl 0 rfl ?_
    refine ka_aload_n d_X2_rounded_74 rfl rfl 1 rfl ?_
    refine gf_X2_8 d_X2_rounded_75 rfl fl_X2_38 ?_
    refine ka_isub d_X2_rounded_78 rfl ?_
    refine ka_bipush (v := 62) d_X2_rounded_79 rfl (by decide) ?_
    refine ka_sub [1, 2, 0] rfl ?_
    exact (k2 c1)
  · refine ka_aload_n d_X2_rounded_56 rfl rfl 1 rfl ?_
    refine ka_aload_n d_X2_rounded_57 rfl rfl 1 rfl ?_
    refine gf_X2_7 d_X2_rounded_58 rfl fl_X2_35 ?_
    refine ka_aload_n d_X2_rounded_61 rfl rfl 1 rfl ?_
    refine gf_X2_8 d_X2_rounded_62 rfl fl_X2_38 ?_
    refine ka_iload_n d_X2_rounded_65 rfl rfl 0 rfl ?_
    refine ka_isub d_X2_rounded_66 rfl ?_
    refine ka_lshl d_X2_rounded_67 rfl ?_
    refine ka_iload_n d_X2_rounded_68 rfl rfl 0 rfl ?_
    refine ka_sub [] rfl ?_
    exact (k3 c1)
theorem cs_X2_rounded_69 {L : Nat} {xs : Nat → Int32} {σ : ks_St} {mc ms : Nat} {P : ka_O → ks_St → Prop} {f : Int64 → ks_St → Prop} {s1 : Int64} {s2 : Int32} (hK : ks_M L xs mX2_finite rm_X2_finite [.ref 16, .long s1, .int s2] σ (pl_ f)) (kr : ∀ r σ', f r σ' → ks_W L xs mX2_rounded rm_X2_rounded 72 [] [.long r] σ' mc ms P) : ks_W L xs mX2_rounded rm_X2_rounded 69 [] [.int s2, .long s1, .ref 16] σ mc ms P := by
  refine ks_callV (q := 72) (o := 16) (ci := 3) (As := [.long s1, .int s2]) (st := []) d_X2_rounded_69 rfl rfl (by decide) rfl rfl lk_X2_112 ⟨by decide, by decide⟩ (Nat.le_of_ble_eq_true rfl) ⟨Nat.le_refl _, Nat.le_refl _⟩ hK (fun v σ' hq => ?_) (fun E σ' hq => ?_)
  · obtain ⟨r, e, hf⟩ := hq; cases e; exact kr r σ' hf
  · obtain ⟨r, e, hf⟩ := hq; cases e
theorem sg_X2_rounded_72 {L : Nat} {xs : Nat → Int32} {σ : ks_St} {mc ms : Nat} {P : ka_O → ks_St → Prop} {s0 : Int64}  (r1 : P (.inl (some (.long s0))) σ) : ks_W L xs mX2_rounded rm_X2_rounded 72 [] [.long s0] σ mc ms P := by
  exact ks_lret d_X2_rounded_72 rfl r1
theorem cs_X2_rounded_81 {L : Nat} {xs : Nat → Int32} {σ : ks_St} {mc ms : Nat} {P : ka_O → ks_St → Prop} {f : Int32 → ks_St → Prop} {x1 : Int32} {x2 : Int32} {s0 : Int32} {s1 : Int32} (hK : ks_M L xs mM_min rm_M_min [.int s0, .int s1] σ (pi_ f)) (kr : ∀ r σ', f r σ' → ks_W L xs mX2_rounded rm_X2_rounded 84 [(0, .ref 16), (1, .int x1), (2, .int x2)] [.int r] σ' mc ms P) : ks_W L xs mX2_rounded rm_X2_rounded 81 [(0, .ref 16), (1, .int x1), (2, .int x2)] [.int s1, .int s0] σ mc ms P := by
  refine ks_callS (q := 84) (As := [.int s0, .int s1]) (st := []) d_X2_rounded_81 rfl rfl lk_X2_90 ⟨by decide, by decide⟩ (Nat.le_of_ble_eq_true rfl) ⟨Nat.le_refl _, Nat.le_refl _⟩ hK (fun v σ' hq => ?_) (fun E σ' hq => ?_)
  · obtain ⟨r, e, hf⟩ := hq; cases e; exact kr r σ' hf
  · obtain ⟨r, e, hf⟩ := hq; cases e
theorem sg_X2_rounded_84 {L : Nat} {xs : Nat → Int32} {σ : ks_St} {mc ms : Nat} {P : ka_O → ks_St → Prop} {x1 : Int32} {x2 : Int32} {s0 : Int32}  (k2 : ((lg_cmp ((sj_ σ 1) - (((((sj_ σ 1)).toUInt64 >>> ((s0).toInt64.toUInt64 &&& Int64.toUInt64 63)).toInt64) <<< ((s0).toInt64 &&& 63))) 0) = 0) → ks_W L xs mX2_rounded rm_X2_rounded 150 [(0, .ref 16), (2, .int x2), (3, .int s0), (4, .long ((((sj_ σ 1)).toUInt64 >>> ((s0).toInt64.toUInt64 &&& Int64.toUInt64 63)).toInt64)), (6, .long ((sj_ σ 1) - (((((sj_ σ 1)).toUInt64 >>> ((s0).toInt64.toUInt64 &&& Int64.toUInt64 63)).toInt64) <<< ((s0).toInt64 &&& 63))))] [] σ mc ms P) (k4 : (¬ ((lg_cmp ((sj_ σ 1) - (((((sj_ σ 1)).toUInt64 >>> ((s0).toInt64.toUInt64 &&& Int64.toUInt64 63)).toInt64) <<< ((s0).toInt64 &&& 63))) 0) = 0)) → (((si_ (ui_ σ 7 ((si_ σ 7) ||| 16)) 11) + (si_ (ui_ σ 7 ((si_ σ 7) ||| 16)) 9)) ≤ x1) → ks_W L xs mX2_rounded rm_X2_rounded 146 [(0, .ref 16), (2, .int x2), (3, .int s0), (4, .long ((((sj_ σ 1)).toUInt64 >>> ((s0).toInt64.toUInt64 &&& Int64.toUInt64 63)).toInt64)), (6, .long ((sj_ σ 1) - (((((sj_ σ 1)).toUInt64 >>> ((s0).toInt64.toUInt64 &&& Int64.toUInt64 63)).toInt64) <<< ((s0).toInt64 &&& 63))))] [.int 0, .int (si_ (ui_ σ 7 ((si_ σ 7) ||| 16)) 7), .ref 16] (ui_ σ 7 ((si_ σ 7) ||| 16)) mc ms P) (k5 : (¬ ((lg_cmp ((sj_ σ 1) - (((((sj_ σ 1)).toUInt64 >>> ((s0).toInt64.toUInt64 &&& Int64.toUInt64 63)).toInt64) <<< ((s0).toInt64 &&& 63))) 0) = 0)) → (¬ (((si_ (ui_ σ 7 ((si_ σ 7) ||| 16)) 11) + (si_ (ui_ σ 7 ((si_ σ 7) ||| 16)) 9)) ≤ x1)) → ks_W L xs mX2_rounded rm_X2_rounded 146 [(0, .ref 16), (2, .int x2), (3, .int s0), (4, .long ((((sj_ σ 1)).toUInt64 >>> ((s0).toInt64.toUInt64 &&& Int64.toUInt64 63)).toInt64)), (6, .long ((sj_ σ 1) - (((((sj_ σ 1)).toUInt64 >>> ((s0).toInt64.toUInt64 &&& Int64.toUInt64 63)).toInt64) <<< ((s0).toInt64 &&& 63))))] [.int 8, .int (si_ (ui_ σ 7 ((si_ σ 7) ||| 16)) 7), .ref 16] (ui_ σ 7 ((si_ σ 7) ||| 16)) mc ms P) : ks_W L xs mX2_rounded rm_X2_rounded 84 [(0, .ref 16), (1, .int x1), (2, .int x2)] [.int s0] σ mc ms P := by
  refine ka_istore_n (ls' := [(3, .int s0), (0, .ref 16), (1, .int x1), (2, .int x2)]) d_X2_rounded_84 rfl rfl (by decide) rfl ?_
  refine ka_aload_n d_X2_rounded_85 rfl rfl 1 rfl ?_
  refine gf_X2_7 d_X2_rounded_86 rfl fl_X2_35 ?_
  refine ka_iload_n d_X2_rounded_89 rfl rfl 0 rfl ?_
  refine ka_lushr d_X2_rounded_90 rfl ?_
  refine ka_lstore (ls' := [(4, .long ((((sj_ σ 1)).toUInt64 >>> ((s0).toInt64.toUInt64 &&& Int64.toUInt64 63)).toInt64)), (3, .int s0), (0, .ref 16), (1, .int x1), (2, .int x2)]) d_X2_rounded_91 rfl (by decide) rfl ?_
  refine ka_aload_n d_X2_rounded_93 rfl rfl 2 rfl ?_
  refine gf_X2_7 d_X2_rounded_94 rfl fl_X2_35 ?_
  refine ka_lload d_X2_rounded_97 rfl 0 rfl ?_
  refine ka_iload_n d_X2_rounded_99 rfl rfl 1 rfl ?_
  refine ka_lshl d_X2_rounded_100 rfl ?_
  refine ka_lsub d_X2_rounded_101 rfl ?_
  refine ka_lstore (ls' := [(6, .long ((sj_ σ 1) - (((((sj_ σ 1)).toUInt64 >>> ((s0).toInt64.toUInt64 &&& Int64.toUInt64 63)).toInt64) <<< ((s0).toInt64 &&& 63)))), (4, .long ((((sj_ σ 1)).toUInt64 >>> ((s0).toInt64.toUInt64 &&& Int64.toUInt64 63)).toInt64)), (3, .int s0), (0, .ref 16), (1, .int x1), (2, .int x2)]) d_X2_rounded_102 rfl (by decide) rfl ?_
  refine ka_lload d_X2_rounded_104 rfl 0 rfl ?_
  refine ka_lconst (v := 0) d_X2_rounded_106 rfl (by decide) ?_
  refine ka_lcmp d_X2_rounded_107 rfl ?_
  refine ka_if_eq (tgt := 150) d_X2_rounded_108 (by decide) rfl (fun c1 => ?_) (fun c1 => ?_)
  · refine ka_sub [3, 5, 2, 1, 0] rfl ?_
    exact (k2 c1)
  · refine ka_aload_n d_X2_rounded_111 rfl rfl 3 rfl ?_
    refine ka_dup d_X2_rounded_112 rfl rfl ?_
    refine gf_X2_0 d_X2_rounded_113 rfl fl_X2_7 ?_
    refine ka_bipush (v := 16) d_X2_rounded_116 rfl (by decide) ?_
    refine ka_ior d_X2_rounded_118 rfl ?_
    refine pf_X2_0 d_X2_rounded_119 rfl fl_X2_7 ?_
    refine ka_aload_n d_X2_rounded_122 rfl rfl 3 rfl ?_
    refine ka_dup d_X2_rounded_123 rfl rfl ?_
    refine gf_X2_0 d_X2_rounded_124 rfl fl_X2_7 ?_
    refine ka_iload_n d_X2_rounded_127 rfl rfl 4 rfl ?_
    refine ka_aload_n d_X2_rounded_128 rfl rfl 3 rfl ?_
    refine gf_X2_4 d_X2_rounded_129 rfl fl_X2_22 ?_
    refine ka_aload_n d_X2_rounded_132 rfl rfl 3 rfl ?_
    refine gf_X2_2 d_X2_rounded_133 rfl fl_X2_16 ?_
    refine ka_iadd d_X2_rounded_136 rfl ?_
    refine ka_icmp_ge (tgt := 145) d_X2_rounded_137 (by decide) rfl (fun c3 => ?_) (fun c3 => ?_)
    · refine ka_iconst (v := 0) d_X2_rounded_145 rfl (by decide) ?_
      refine ka_sub [3, 5, 2, 1, 0] rfl ?_
      exact (k4 c1 c3)
    · refine ka_bipush (v := 8) d_X2_rounded_140 rfl (by decide) ?_
      refine ka_goto (q := 146) d_X2_rounded_142 (by decide) ?_
      refine ka_sub [3, 5, 2, 1, 0] rfl ?_
      exact (k5 c1 c3)
theorem sg_X2_rounded_146 {L : Nat} {xs : Nat → Int32} {σ : ks_St} {mc ms : Nat} {P : ka_O → ks_St → Prop} {x2 : Int32} {x3 : Int32} {x4 : Int64} {x6 : Int64} {s1 : Int32} {s2 : Int32}  (k1 : ks_W L xs mX2_rounded rm_X2_rounded 150 [(0, .ref 16), (2, .int x2), (3, .int x3), (4, .long x4), (6, .long x6)] [] (ui_ σ 7 (s1 ||| s2)) mc ms P) : ks_W L xs mX2_rounded rm_X2_rounded 146 [(0, .ref 16), (2, .int x2), (3, .int x3), (4, .long x4), (6, .long x6)] [.int s2, .int s1, .ref 16] σ mc ms P := by
  refine ka_ior d_X2_rounded_146 rfl ?_
  refine pf_X2_0 d_X2_rounded_147 rfl fl_X2_7 ?_
  exact k1
theorem sg_X2_rounded_150 {L : Nat} {xs : Nat → Int32} {σ : ks_St} {mc ms : Nat} {P : ka_O → ks_St → Prop} {x2 : Int32} {x3 : Int32} {x4 : Int64} {x6 : Int64}  (k1 : ks_W L xs mX2_rounded rm_X2_rounded 160 [(0, .ref 16), (2, .int x2), (4, .long x4)] [.long ((1 : Int64) <<< (((x3 - 1)).toInt64 &&& 63)), .long x6, .long x4, .ref 16] σ mc ms P) : ks_W L xs mX2_rounded rm_X2_rounded 150 [(0, .ref 16), (2, .int x2), (3, .int x3), (4, .long x4), (6, .long x6)] [] σ mc ms P := by
  refine ka_aload_n d_X2_rounded_150 rfl rfl 0 rfl ?_
  refine ka_lload d_X2_rounded_151 rfl 3 rfl ?_
  refine ka_lload d_X2_rounded_153 rfl 4 rfl ?_
  refine ka_lconst (v := 1) d_X2_rounded_155 rfl (by decide) ?_
  refine ka_iload_n d_X2_rounded_156 rfl rfl 2 rfl ?_
  refine ka_iconst (v := 1) d_X2_rounded_157 rfl (by decide) ?_
  refine ka_isub d_X2_rounded_158 rfl ?_
  refine ka_lshl d_X2_rounded_159 rfl ?_
  refine ka_sub [0, 1, 3] rfl ?_
  exact k1
theorem cs_X2_rounded_160 {L : Nat} {xs : Nat → Int32} {σ : ks_St} {mc ms : Nat} {P : ka_O → ks_St → Prop} {f : Int32 → ks_St → Prop} {x2 : Int32} {x4 : Int64} {s1 : Int64} {s2 : Int64} {s3 : Int64} (hK : ks_M L xs mX2_goesAway rm_X2_goesAway [.ref 16, .long s1, .long s2, .long s3] σ (pi_ f)) (kr : ∀ r σ', f r σ' → ks_W L xs mX2_rounded rm_X2_rounded 163 [(0, .ref 16), (2, .int x2), (4, .long x4)] [.int r] σ' mc ms P) : ks_W L xs mX2_rounded rm_X2_rounded 160 [(0, .ref 16), (2, .int x2), (4, .long x4)] [.long s3, .long s2, .long s1, .ref 16] σ mc ms P := by
  refine ks_callV (q := 163) (o := 16) (ci := 3) (As := [.long s1, .long s2, .long s3]) (st := []) d_X2_rounded_160 rfl rfl (by decide) rfl rfl lk_X2_115 ⟨by decide, by decide⟩ (Nat.le_of_ble_eq_true rfl) ⟨Nat.le_refl _, Nat.le_refl _⟩ hK (fun v σ' hq => ?_) (fun E σ' hq => ?_)
  · obtain ⟨r, e, hf⟩ := hq; cases e; exact kr r σ' hf
  · obtain ⟨r, e, hf⟩ := hq; cases e
theorem sg_X2_rounded_163 {L : Nat} {xs : Nat → Int32} {σ : ks_St} {mc ms : Nat} {P : ka_O → ks_St → Prop} {x2 : Int32} {x4 : Int64} {s0 : Int32}  (k2 : (s0 = 0) → ks_W L xs mX2_rounded rm_X2_rounded 180 [(2, .int x2)] [.long x4, .ref 16] σ mc ms P) (k3 : (¬ (s0 = 0)) → ks_W L xs mX2_rounded rm_X2_rounded 180 [(2, .int x2)] [.long (x4 + 1), .ref 16] σ mc ms P) : ks_W L xs mX2_rounded rm_X2_rounded 163 [(0, .ref 16), (2, .int x2), (4, .long x4)] [.int s0] σ mc ms P := by
  refine ka_istore (ls' := [(8, .int s0), (0, .ref 16), (2, .int x2), (4, .long x4)]) d_X2_rounded_163 rfl (by decide) rfl ?_
  refine ka_aload_n d_X2_rounded_165 rfl rfl 1 rfl ?_
  refine ka_iload d_X2_rounded_166 rfl 0 rfl ?_
  refine ka_if_eq (tgt := 178) d_X2_rounded_168 (by decide) rfl (fun c1 => ?_) (fun c1 => ?_)
  · refine ka_lload d_X2_rounded_178 rfl 3 rfl ?_
    refine ka_sub [2] rfl ?_
    exact (k2 c1)
  · refine ka_lload d_X2_rounded_171 rfl 3 rfl ?_
    refine ka_lconst (v := 1) d_X2_rounded_173 rfl (by decide) ?_
    refine ka_ladd d_X2_rounded_174 rfl ?_
    refine ka_goto (q := 180) d_X2_rounded_175 (by decide) ?_
    refine ka_sub [2] rfl ?_
    exact (k3 c1)
theorem sg_X2_rounded_180 {L : Nat} {xs : Nat → Int32} {σ : ks_St} {mc ms : Nat} {P : ka_O → ks_St → Prop} {x2 : Int32} {s1 : Int64}  (k1 : ks_W L xs mX2_rounded rm_X2_rounded 181 [] [.int x2, .long s1, .ref 16] σ mc ms P) : ks_W L xs mX2_rounded rm_X2_rounded 180 [(2, .int x2)] [.long s1, .ref 16] σ mc ms P := by
  refine ka_iload_n d_X2_rounded_180 rfl rfl 0 rfl ?_
  refine ka_sub [] rfl ?_
  exact k1
theorem cs_X2_rounded_181 {L : Nat} {xs : Nat → Int32} {σ : ks_St} {mc ms : Nat} {P : ka_O → ks_St → Prop} {f : Int64 → ks_St → Prop} {s1 : Int64} {s2 : Int32} (hK : ks_M L xs mX2_finite rm_X2_finite [.ref 16, .long s1, .int s2] σ (pl_ f)) (kr : ∀ r σ', f r σ' → ks_W L xs mX2_rounded rm_X2_rounded 184 [] [.long r] σ' mc ms P) : ks_W L xs mX2_rounded rm_X2_rounded 181 [] [.int s2, .long s1, .ref 16] σ mc ms P := by
  refine ks_callV (q := 184) (o := 16) (ci := 3) (As := [.long s1, .int s2]) (st := []) d_X2_rounded_181 rfl rfl (by decide) rfl rfl lk_X2_112 ⟨by decide, by decide⟩ (Nat.le_of_ble_eq_true rfl) ⟨Nat.le_refl _, Nat.le_refl _⟩ hK (fun v σ' hq => ?_) (fun E σ' hq => ?_)
  · obtain ⟨r, e, hf⟩ := hq; cases e; exact kr r σ' hf
  · obtain ⟨r, e, hf⟩ := hq; cases e
theorem sg_X2_rounded_184 {L : Nat} {xs : Nat → Int32} {σ : ks_St} {mc ms : Nat} {P : ka_O → ks_St → Prop} {s0 : Int64}  (r1 : P (.inl (some (.long s0))) σ) : ks_W L xs mX2_rounded rm_X2_rounded 184 [] [.long s0] σ mc ms P := by
  exact ks_lret d_X2_rounded_184 rfl r1
theorem d_X2_answer_0 : decode cX2_answer 0 = .ok (.aload_n 0, 1) := by decide +kernel
theorem d_X2_answer_1 : decode cX2_answer 1 = .ok (.iconst 0, 1) := by decide +kernel
theorem d_X2_answer_2 : decode cX2_answer 2 = .ok (.putfield 7, 3) := by decide +kernel
theorem d_X2_answer_5 : decode cX2_answer 5 = .ok (.aload_n 0, 1) := by decide +kernel
theorem d_X2_answer_6 : decode cX2_answer 6 = .ok (.lload_n 2, 1) := by decide +kernel
theorem d_X2_answer_7 : decode cX2_answer 7 = .ok (.invokevirtual 41, 3) := by decide +kernel
theorem d_X2_answer_10 : decode cX2_answer 10 = .ok (.ifCond .ne 12, 3) := by decide +kernel
theorem d_X2_answer_13 : decode cX2_answer 13 = .ok (.aload_n 0, 1) := by decide +kernel
theorem d_X2_answer_14 : decode cX2_answer 14 = .ok (.lload 4, 2) := by decide +kernel
theorem d_X2_answer_16 : decode cX2_answer 16 = .ok (.invokevirtual 41, 3) := by decide +kernel
theorem d_X2_answer_19 : decode cX2_answer 19 = .ok (.ifCond .eq 8, 3) := by decide +kernel
theorem d_X2_answer_22 : decode cX2_answer 22 = .ok (.aload_n 0, 1) := by decide +kernel
theorem d_X2_answer_23 : decode cX2_answer 23 = .ok (.invokevirtual 45, 3) := by decide +kernel
theorem d_X2_answer_26 : decode cX2_answer 26 = .ok (.lreturn, 1) := by decide +kernel
theorem d_X2_answer_27 : decode cX2_answer 27 = .ok (.iload_n 1, 1) := by decide +kernel
theorem d_X2_answer_28 : decode cX2_answer 28 = .ok (.iconst 1, 1) := by decide +kernel
theorem d_X2_answer_29 : decode cX2_answer 29 = .ok (.if_icmp .ne 13, 3) := by decide +kernel
theorem d_X2_answer_32 : decode cX2_answer 32 = .ok (.lload 4, 2) := by decide +kernel
theorem d_X2_answer_34 : decode cX2_answer 34 = .ok (.aload_n 0, 1) := by decide +kernel
theorem d_X2_answer_35 : decode cX2_answer 35 = .ok (.getfield 27, 3) := by decide +kernel
theorem d_X2_answer_38 : decode cX2_answer 38 = .ok (.lxor, 1) := by decide +kernel
theorem d_X2_answer_39 : decode cX2_answer 39 = .ok (.goto 5, 3) := by decide +kernel
theorem d_X2_answer_42 : decode cX2_answer 42 = .ok (.lload 4, 2) := by decide +kernel
theorem d_X2_answer_44 : decode cX2_answer 44 = .ok (.lstore 6, 2) := by decide +kernel
theorem d_X2_answer_46 : decode cX2_answer 46 = .ok (.iload_n 1, 1) := by decide +kernel
theorem d_X2_answer_47 : decode cX2_answer 47 = .ok (.iconst 3, 1) := by decide +kernel
theorem d_X2_answer_48 : decode cX2_answer 48 = .ok (.if_icmp .ne 7, 3) := by decide +kernel
theorem d_X2_answer_51 : decode cX2_answer 51 = .ok (.iconst 1, 1) := by decide +kernel
theorem d_X2_answer_52 : decode cX2_answer 52 = .ok (.goto 4, 3) := by decide +kernel
theorem d_X2_answer_55 : decode cX2_answer 55 = .ok (.iconst 0, 1) := by decide +kernel
theorem d_X2_answer_56 : decode cX2_answer 56 = .ok (.istore 8, 2) := by decide +kernel
theorem d_X2_answer_58 : decode cX2_answer 58 = .ok (.aload_n 0, 1) := by decide +kernel
theorem d_X2_answer_59 : decode cX2_answer 59 = .ok (.lload_n 2, 1) := by decide +kernel
theorem d_X2_answer_60 : decode cX2_answer 60 = .ok (.invokevirtual 49, 3) := by decide +kernel
theorem d_X2_answer_63 : decode cX2_answer 63 = .ok (.ifCond .ne 26, 3) := by decide +kernel
theorem d_X2_answer_66 : decode cX2_answer 66 = .ok (.aload_n 0, 1) := by decide +kernel
theorem d_X2_answer_67 : decode cX2_answer 67 = .ok (.lload 6, 2) := by decide +kernel
theorem d_X2_answer_69 : decode cX2_answer 69 = .ok (.invokevirtual 49, 3) := by decide +kernel
theorem d_X2_answer_72 : decode cX2_answer 72 = .ok (.ifCond .ne 17, 3) := by decide +kernel
theorem d_X2_answer_75 : decode cX2_answer 75 = .ok (.iload 8, 2) := by decide +kernel
theorem d_X2_answer_77 : decode cX2_answer 77 = .ok (.ifCond .eq 21, 3) := by decide +kernel
theorem d_X2_answer_80 : decode cX2_answer 80 = .ok (.aload_n 0, 1) := by decide +kernel
theorem d_X2_answer_81 : decode cX2_answer 81 = .ok (.lload 6, 2) := by decide +kernel
theorem d_X2_answer_83 : decode cX2_answer 83 = .ok (.invokevirtual 52, 3) := by decide +kernel
theorem d_X2_answer_86 : decode cX2_answer 86 = .ok (.ifCond .eq 12, 3) := by decide +kernel
theorem d_X2_answer_89 : decode cX2_answer 89 = .ok (.aload_n 0, 1) := by decide +kernel
theorem d_X2_answer_90 : decode cX2_answer 90 = .ok (.iload_n 1, 1) := by decide +kernel
theorem d_X2_answer_91 : decode cX2_answer 91 = .ok (.lload_n 2, 1) := by decide +kernel
theorem d_X2_answer_92 : decode cX2_answer 92 = .ok (.lload 6, 2) := by decide +kernel
theorem d_X2_answer_94 : decode cX2_answer 94 = .ok (.invokevirtual 55, 3) := by decide +kernel
theorem d_X2_answer_97 : decode cX2_answer 97 = .ok (.lreturn, 1) := by decide +kernel
theorem d_X2_answer_98 : decode cX2_answer 98 = .ok (.iload 8, 2) := by decide +kernel
theorem d_X2_answer_100 : decode cX2_answer 100 = .ok (.ifCond .eq 13, 3) := by decide +kernel
theorem d_X2_answer_103 : decode cX2_answer 103 = .ok (.aload_n 0, 1) := by decide +kernel
theorem d_X2_answer_104 : decode cX2_answer 104 = .ok (.lload_n 2, 1) := by decide +kernel
theorem d_X2_answer_105 : decode cX2_answer 105 = .ok (.lload 6, 2) := by decide +kernel
theorem d_X2_answer_107 : decode cX2_answer 107 = .ok (.invokevirtual 59, 3) := by decide +kernel
theorem d_X2_answer_110 : decode cX2_answer 110 = .ok (.goto 25, 3) := by decide +kernel
theorem d_X2_answer_113 : decode cX2_answer 113 = .ok (.iload_n 1, 1) := by decide +kernel
theorem d_X2_answer_114 : decode cX2_answer 114 = .ok (.iconst 2, 1) := by decide +kernel
theorem d_X2_answer_115 : decode cX2_answer 115 = .ok (.if_icmp .ne 13, 3) := by decide +kernel
theorem d_X2_answer_118 : decode cX2_answer 118 = .ok (.aload_n 0, 1) := by decide +kernel
theorem d_X2_answer_119 : decode cX2_answer 119 = .ok (.lload_n 2, 1) := by decide +kernel
theorem d_X2_answer_120 : decode cX2_answer 120 = .ok (.lload 6, 2) := by decide +kernel
theorem d_X2_answer_122 : decode cX2_answer 122 = .ok (.invokevirtual 63, 3) := by decide +kernel
theorem d_X2_answer_125 : decode cX2_answer 125 = .ok (.goto 10, 3) := by decide +kernel
theorem d_X2_answer_128 : decode cX2_answer 128 = .ok (.aload_n 0, 1) := by decide +kernel
theorem d_X2_answer_129 : decode cX2_answer 129 = .ok (.lload_n 2, 1) := by decide +kernel
theorem d_X2_answer_130 : decode cX2_answer 130 = .ok (.lload 6, 2) := by decide +kernel
theorem d_X2_answer_132 : decode cX2_answer 132 = .ok (.invokevirtual 66, 3) := by decide +kernel
theorem d_X2_answer_135 : decode cX2_answer 135 = .ok (.aload_n 0, 1) := by decide +kernel
theorem d_X2_answer_136 : decode cX2_answer 136 = .ok (.invokevirtual 69, 3) := by decide +kernel
theorem d_X2_answer_139 : decode cX2_answer 139 = .ok (.lreturn, 1) := by decide +kernel
theorem sg_X2_answer_0 {L : Nat} {xs : Nat → Int32} {σ : ks_St} {mc ms : Nat} {P : ka_O → ks_St → Prop} {x1 : Int32} {x2 : Int64} {x4 : Int64}  (k1 : ks_W L xs mX2_answer rm_X2_answer 7 [(0, .ref 16), (1, .int x1), (2, .long x2), (4, .long x4)] [.long x2, .ref 16] (ui_ σ 7 0) mc ms P) : ks_W L xs mX2_answer rm_X2_answer 0 [(0, .ref 16), (1, .int x1), (2, .long x2), (4, .long x4)] [] σ mc ms P := by
  refine ka_aload_n d_X2_answer_0 rfl rfl 0 rfl ?_
  refine ka_iconst (v := 0) d_X2_answer_1 rfl (by decide) ?_
  refine pf_X2_0 d_X2_answer_2 rfl fl_X2_7 ?_
  refine ka_aload_n d_X2_answer_5 rfl rfl 0 rfl ?_
  refine ka_lload_n d_X2_answer_6 rfl rfl 2 rfl ?_
  exact k1
theorem cs_X2_answer_7 {L : Nat} {xs : Nat → Int32} {σ : ks_St} {mc ms : Nat} {P : ka_O → ks_St → Prop} {f : Int32 → ks_St → Prop} {x1 : Int32} {x2 : Int64} {x4 : Int64} {s1 : Int64} (hK : ks_M L xs mX2_isNone rm_X2_isNone [.ref 16, .long s1] σ (pi_ f)) (kr : ∀ r σ', f r σ' → ks_W L xs mX2_answer rm_X2_answer 10 [(0, .ref 16), (1, .int x1), (2, .long x2), (4, .long x4)] [.int r] σ' mc ms P) : ks_W L xs mX2_answer rm_X2_answer 7 [(0, .ref 16), (1, .int x1), (2, .long x2), (4, .long x4)] [.long s1, .ref 16] σ mc ms P := by
  refine ks_callV (q := 10) (o := 16) (ci := 3) (As := [.long s1]) (st := []) d_X2_answer_7 rfl rfl (by decide) rfl rfl lk_X2_41 ⟨by decide, by decide⟩ (Nat.le_of_ble_eq_true rfl) ⟨Nat.le_refl _, Nat.le_refl _⟩ hK (fun v σ' hq => ?_) (fun E σ' hq => ?_)
  · obtain ⟨r, e, hf⟩ := hq; cases e; exact kr r σ' hf
  · obtain ⟨r, e, hf⟩ := hq; cases e
theorem sg_X2_answer_10 {L : Nat} {xs : Nat → Int32} {σ : ks_St} {mc ms : Nat} {P : ka_O → ks_St → Prop} {x1 : Int32} {x2 : Int64} {x4 : Int64} {s0 : Int32}  (k2 : (¬ s0 = 0) → ks_W L xs mX2_answer rm_X2_answer 22 [(0, .ref 16)] [] σ mc ms P) (k3 : (s0 = 0) → ks_W L xs mX2_answer rm_X2_answer 16 [(0, .ref 16), (1, .int x1), (2, .long x2), (4, .long x4)] [.long x4, .ref 16] σ mc ms P) : ks_W L xs mX2_answer rm_X2_answer 10 [(0, .ref 16), (1, .int x1), (2, .long x2), (4, .long x4)] [.int s0] σ mc ms P := by
  refine ka_if_ne (tgt := 22) d_X2_answer_10 (by decide) rfl (fun c1 => ?_) (fun c1 => ?_)
  · refine ka_sub [0] rfl ?_
    exact (k2 c1)
  · refine ka_aload_n d_X2_answer_13 rfl rfl 0 rfl ?_
    refine ka_lload d_X2_answer_14 rfl 3 rfl ?_
    exact (k3 c1)
theorem cs_X2_answer_16 {L : Nat} {xs : Nat → Int32} {σ : ks_St} {mc ms : Nat} {P : ka_O → ks_St → Prop} {f : Int32 → ks_St → Prop} {x1 : Int32} {x2 : Int64} {x4 : Int64} {s1 : Int64} (hK : ks_M L xs mX2_isNone rm_X2_isNone [.ref 16, .long s1] σ (pi_ f)) (kr : ∀ r σ', f r σ' → ks_W L xs mX2_answer rm_X2_answer 19 [(0, .ref 16), (1, .int x1), (2, .long x2), (4, .long x4)] [.int r] σ' mc ms P) : ks_W L xs mX2_answer rm_X2_answer 16 [(0, .ref 16), (1, .int x1), (2, .long x2), (4, .long x4)] [.long s1, .ref 16] σ mc ms P := by
  refine ks_callV (q := 19) (o := 16) (ci := 3) (As := [.long s1]) (st := []) d_X2_answer_16 rfl rfl (by decide) rfl rfl lk_X2_41 ⟨by decide, by decide⟩ (Nat.le_of_ble_eq_true rfl) ⟨Nat.le_refl _, Nat.le_refl _⟩ hK (fun v σ' hq => ?_) (fun E σ' hq => ?_)
  · obtain ⟨r, e, hf⟩ := hq; cases e; exact kr r σ' hf
  · obtain ⟨r, e, hf⟩ := hq; cases e
theorem sg_X2_answer_19 {L : Nat} {xs : Nat → Int32} {σ : ks_St} {mc ms : Nat} {P : ka_O → ks_St → Prop} {x1 : Int32} {x2 : Int64} {x4 : Int64} {s0 : Int32}  (k3 : (s0 = 0) → (¬ x1 = 1) → ks_W L xs mX2_answer rm_X2_answer 44 [(0, .ref 16), (1, .int x1), (2, .long x2)] [.long x4] σ mc ms P) (k4 : (s0 = 0) → (x1 = 1) → ks_W L xs mX2_answer rm_X2_answer 44 [(0, .ref 16), (1, .int x1), (2, .long x2)] [.long (x4 ^^^ (sj_ σ 0))] σ mc ms P) (k5 : (¬ (s0 = 0)) → ks_W L xs mX2_answer rm_X2_answer 22 [(0, .ref 16)] [] σ mc ms P) : ks_W L xs mX2_answer rm_X2_answer 19 [(0, .ref 16), (1, .int x1), (2, .long x2), (4, .long x4)] [.int s0] σ mc ms P := by
  refine ka_if_eq (tgt := 27) d_X2_answer_19 (by decide) rfl (fun c1 => ?_) (fun c1 => ?_)
  · refine ka_iload_n d_X2_answer_27 rfl rfl 1 rfl ?_
    refine ka_iconst (v := 1) d_X2_answer_28 rfl (by decide) ?_
    refine ka_icmp_ne (tgt := 42) d_X2_answer_29 (by decide) rfl (fun c2 => ?_) (fun c2 => ?_)
    · refine ka_lload d_X2_answer_42 rfl 3 rfl ?_
      refine ka_sub [0, 1, 2] rfl ?_
      exact (k3 c1 c2)
    · refine ka_lload d_X2_answer_32 rfl 3 rfl ?_
      refine ka_aload_n d_X2_answer_34 rfl rfl 0 rfl ?_
      refine gf_X2_5 d_X2_answer_35 rfl fl_X2_27 ?_
      refine ka_lxor d_X2_answer_38 rfl ?_
      refine ka_goto (q := 44) d_X2_answer_39 (by decide) ?_
      refine ka_sub [0, 1, 2] rfl ?_
      exact (k4 c1 c2)
  · refine ka_sub [0] rfl ?_
    exact (k5 c1)
theorem sg_X2_answer_22 {L : Nat} {xs : Nat → Int32} {σ : ks_St} {mc ms : Nat} {P : ka_O → ks_St → Prop}   (k1 : ks_W L xs mX2_answer rm_X2_answer 23 [] [.ref 16] σ mc ms P) : ks_W L xs mX2_answer rm_X2_answer 22 [(0, .ref 16)] [] σ mc ms P := by
  refine ka_aload_n d_X2_answer_22 rfl rfl 0 rfl ?_
  refine ka_sub [] rfl ?_
  exact k1
theorem cs_X2_answer_23 {L : Nat} {xs : Nat → Int32} {σ : ks_St} {mc ms : Nat} {P : ka_O → ks_St → Prop} {f : Int64 → ks_St → Prop}  (hK : ks_M L xs mX2_none rm_X2_none [.ref 16] σ (pl_ f)) (kr : ∀ r σ', f r σ' → ks_W L xs mX2_answer rm_X2_answer 26 [] [.long r] σ' mc ms P) : ks_W L xs mX2_answer rm_X2_answer 23 [] [.ref 16] σ mc ms P := by
  refine ks_callV (q := 26) (o := 16) (ci := 3) (As := []) (st := []) d_X2_answer_23 rfl rfl (by decide) rfl rfl lk_X2_45 ⟨by decide, by decide⟩ (Nat.le_of_ble_eq_true rfl) ⟨Nat.le_refl _, Nat.le_refl _⟩ hK (fun v σ' hq => ?_) (fun E σ' hq => ?_)
  · obtain ⟨r, e, hf⟩ := hq; cases e; exact kr r σ' hf
  · obtain ⟨r, e, hf⟩ := hq; cases e
theorem sg_X2_answer_26 {L : Nat} {xs : Nat → Int32} {σ : ks_St} {mc ms : Nat} {P : ka_O → ks_St → Prop} {s0 : Int64}  (r1 : P (.inl (some (.long s0))) σ) : ks_W L xs mX2_answer rm_X2_answer 26 [] [.long s0] σ mc ms P := by
  exact ks_lret d_X2_answer_26 rfl r1
theorem sg_X2_answer_44 {L : Nat} {xs : Nat → Int32} {σ : ks_St} {mc ms : Nat} {P : ka_O → ks_St → Prop} {x1 : Int32} {x2 : Int64} {s0 : Int64}  (k2 : (¬ x1 = 3) → ks_W L xs mX2_answer rm_X2_answer 56 [(0, .ref 16), (1, .int x1), (2, .long x2), (6, .long s0)] [.int 0] σ mc ms P) (k3 : (x1 = 3) → ks_W L xs mX2_answer rm_X2_answer 56 [(0, .ref 16), (1, .int x1), (2, .long x2), (6, .long s0)] [.int 1] σ mc ms P) : ks_W L xs mX2_answer rm_X2_answer 44 [(0, .ref 16), (1, .int x1), (2, .long x2)] [.long s0] σ mc ms P := by
  refine ka_lstore (ls' := [(6, .long s0), (0, .ref 16), (1, .int x1), (2, .long x2)]) d_X2_answer_44 rfl (by decide) rfl ?_
  refine ka_iload_n d_X2_answer_46 rfl rfl 2 rfl ?_
  refine ka_iconst (v := 3) d_X2_answer_47 rfl (by decide) ?_
  refine ka_icmp_ne (tgt := 55) d_X2_answer_48 (by decide) rfl (fun c1 => ?_) (fun c1 => ?_)
  · refine ka_iconst (v := 0) d_X2_answer_55 rfl (by decide) ?_
    refine ka_sub [1, 2, 3, 0] rfl ?_
    exact (k2 c1)
  · refine ka_iconst (v := 1) d_X2_answer_51 rfl (by decide) ?_
    refine ka_goto (q := 56) d_X2_answer_52 (by decide) ?_
    refine ka_sub [1, 2, 3, 0] rfl ?_
    exact (k3 c1)
theorem sg_X2_answer_56 {L : Nat} {xs : Nat → Int32} {σ : ks_St} {mc ms : Nat} {P : ka_O → ks_St → Prop} {x1 : Int32} {x2 : Int64} {x6 : Int64} {s0 : Int32}  (k1 : ks_W L xs mX2_answer rm_X2_answer 60 [(0, .ref 16), (1, .int x1), (2, .long x2), (6, .long x6), (8, .int s0)] [.long x2, .ref 16] σ mc ms P) : ks_W L xs mX2_answer rm_X2_answer 56 [(0, .ref 16), (1, .int x1), (2, .long x2), (6, .long x6)] [.int s0] σ mc ms P := by
  refine ka_istore (ls' := [(8, .int s0), (0, .ref 16), (1, .int x1), (2, .long x2), (6, .long x6)]) d_X2_answer_56 rfl (by decide) rfl ?_
  refine ka_aload_n d_X2_answer_58 rfl rfl 1 rfl ?_
  refine ka_lload_n d_X2_answer_59 rfl rfl 3 rfl ?_
  refine ka_sub [1, 2, 3, 4, 0] rfl ?_
  exact k1
theorem cs_X2_answer_60 {L : Nat} {xs : Nat → Int32} {σ : ks_St} {mc ms : Nat} {P : ka_O → ks_St → Prop} {f : Int32 → ks_St → Prop} {x1 : Int32} {x2 : Int64} {x6 : Int64} {x8 : Int32} {s1 : Int64} (hK : ks_M L xs mX2_isInfinite rm_X2_isInfinite [.ref 16, .long s1] σ (pi_ f)) (kr : ∀ r σ', f r σ' → ks_W L xs mX2_answer rm_X2_answer 63 [(0, .ref 16), (1, .int x1), (2, .long x2), (6, .long x6), (8, .int x8)] [.int r] σ' mc ms P) : ks_W L xs mX2_answer rm_X2_answer 60 [(0, .ref 16), (1, .int x1), (2, .long x2), (6, .long x6), (8, .int x8)] [.long s1, .ref 16] σ mc ms P := by
  refine ks_callV (q := 63) (o := 16) (ci := 3) (As := [.long s1]) (st := []) d_X2_answer_60 rfl rfl (by decide) rfl rfl lk_X2_49 ⟨by decide, by decide⟩ (Nat.le_of_ble_eq_true rfl) ⟨Nat.le_refl _, Nat.le_refl _⟩ hK (fun v σ' hq => ?_) (fun E σ' hq => ?_)
  · obtain ⟨r, e, hf⟩ := hq; cases e; exact kr r σ' hf
  · obtain ⟨r, e, hf⟩ := hq; cases e
theorem sg_X2_answer_63 {L : Nat} {xs : Nat → Int32} {σ : ks_St} {mc ms : Nat} {P : ka_O → ks_St → Prop} {x1 : Int32} {x2 : Int64} {x6 : Int64} {x8 : Int32} {s0 : Int32}  (k2 : (¬ s0 = 0) → ks_W L xs mX2_answer rm_X2_answer 89 [(0, .ref 16), (1, .int x1), (2, .long x2), (6, .long x6)] [] σ mc ms P) (k3 : (s0 = 0) → ks_W L xs mX2_answer rm_X2_answer 69 [(0, .ref 16), (1, .int x1), (2, .long x2), (6, .long x6), (8, .int x8)] [.long x6, .ref 16] σ mc ms P) : ks_W L xs mX2_answer rm_X2_answer 63 [(0, .ref 16), (1, .int x1), (2, .long x2), (6, .long x6), (8, .int x8)] [.int s0] σ mc ms P := by
  refine ka_if_ne (tgt := 89) d_X2_answer_63 (by decide) rfl (fun c1 => ?_) (fun c1 => ?_)
  · refine ka_sub [0, 1, 2, 3] rfl ?_
    exact (k2 c1)
  · refine ka_aload_n d_X2_answer_66 rfl rfl 0 rfl ?_
    refine ka_lload d_X2_answer_67 rfl 3 rfl ?_
    exact (k3 c1)
theorem cs_X2_answer_69 {L : Nat} {xs : Nat → Int32} {σ : ks_St} {mc ms : Nat} {P : ka_O → ks_St → Prop} {f : Int32 → ks_St → Prop} {x1 : Int32} {x2 : Int64} {x6 : Int64} {x8 : Int32} {s1 : Int64} (hK : ks_M L xs mX2_isInfinite rm_X2_isInfinite [.ref 16, .long s1] σ (pi_ f)) (kr : ∀ r σ', f r σ' → ks_W L xs mX2_answer rm_X2_answer 72 [(0, .ref 16), (1, .int x1), (2, .long x2), (6, .long x6), (8, .int x8)] [.int r] σ' mc ms P) : ks_W L xs mX2_answer rm_X2_answer 69 [(0, .ref 16), (1, .int x1), (2, .long x2), (6, .long x6), (8, .int x8)] [.long s1, .ref 16] σ mc ms P := by
  refine ks_callV (q := 72) (o := 16) (ci := 3) (As := [.long s1]) (st := []) d_X2_answer_69 rfl rfl (by decide) rfl rfl lk_X2_49 ⟨by decide, by decide⟩ (Nat.le_of_ble_eq_true rfl) ⟨Nat.le_refl _, Nat.le_refl _⟩ hK (fun v σ' hq => ?_) (fun E σ' hq => ?_)
  · obtain ⟨r, e, hf⟩ := hq; cases e; exact kr r σ' hf
  · obtain ⟨r, e, hf⟩ := hq; cases e
theorem sg_X2_answer_72 {L : Nat} {xs : Nat → Int32} {σ : ks_St} {mc ms : Nat} {P : ka_O → ks_St → Prop} {x1 : Int32} {x2 : Int64} {x6 : Int64} {x8 : Int32} {s0 : Int32}  (k2 : (¬ s0 = 0) → ks_W L xs mX2_answer rm_X2_answer 89 [(0, .ref 16), (1, .int x1), (2, .long x2), (6, .long x6)] [] σ mc ms P) (k4 : (s0 = 0) → (x8 = 0) → ks_W L xs mX2_answer rm_X2_answer 98 [(0, .ref 16), (1, .int x1), (2, .long x2), (6, .long x6), (8, .int x8)] [] σ mc ms P) (k5 : (s0 = 0) → (¬ (x8 = 0)) → ks_W L xs mX2_answer rm_X2_answer 83 [(0, .ref 16), (1, .int x1), (2, .long x2), (6, .long x6), (8, .int x8)] [.long x6, .ref 16] σ mc ms P) : ks_W L xs mX2_answer rm_X2_answer 72 [(0, .ref 16), (1, .int x1), (2, .long x2), (6, .long x6), (8, .int x8)] [.int s0] σ mc ms P := by
  refine ka_if_ne (tgt := 89) d_X2_answer_72 (by decide) rfl (fun c1 => ?_) (fun c1 => ?_)
  · refine ka_sub [0, 1, 2, 3] rfl ?_
    exact (k2 c1)
  · refine ka_iload d_X2_answer_75 rfl 4 rfl ?_
    refine ka_if_eq (tgt := 98) d_X2_answer_77 (by decide) rfl (fun c3 => ?_) (fun c3 => ?_)
    · exact (k4 c1 c3)
    · refine ka_aload_n d_X2_answer_80 rfl rfl 0 rfl ?_
      refine ka_lload d_X2_answer_81 rfl 3 rfl ?_
      exact (k5 c1 c3)
theorem cs_X2_answer_83 {L : Nat} {xs : Nat → Int32} {σ : ks_St} {mc ms : Nat} {P : ka_O → ks_St → Prop} {f : Int32 → ks_St → Prop} {x1 : Int32} {x2 : Int64} {x6 : Int64} {x8 : Int32} {s1 : Int64} (hK : ks_M L xs mX2_isNought rm_X2_isNought [.ref 16, .long s1] σ (pi_ f)) (kr : ∀ r σ', f r σ' → ks_W L xs mX2_answer rm_X2_answer 86 [(0, .ref 16), (1, .int x1), (2, .long x2), (6, .long x6), (8, .int x8)] [.int r] σ' mc ms P) : ks_W L xs mX2_answer rm_X2_answer 83 [(0, .ref 16), (1, .int x1), (2, .long x2), (6, .long x6), (8, .int x8)] [.long s1, .ref 16] σ mc ms P := by
  refine ks_callV (q := 86) (o := 16) (ci := 3) (As := [.long s1]) (st := []) d_X2_answer_83 rfl rfl (by decide) rfl rfl lk_X2_52 ⟨by decide, by decide⟩ (Nat.le_of_ble_eq_true rfl) ⟨Nat.le_refl _, Nat.le_refl _⟩ hK (fun v σ' hq => ?_) (fun E σ' hq => ?_)
  · obtain ⟨r, e, hf⟩ := hq; cases e; exact kr r σ' hf
  · obtain ⟨r, e, hf⟩ := hq; cases e
theorem sg_X2_answer_86 {L : Nat} {xs : Nat → Int32} {σ : ks_St} {mc ms : Nat} {P : ka_O → ks_St → Prop} {x1 : Int32} {x2 : Int64} {x6 : Int64} {x8 : Int32} {s0 : Int32}  (k2 : (s0 = 0) → ks_W L xs mX2_answer rm_X2_answer 98 [(0, .ref 16), (1, .int x1), (2, .long x2), (6, .long x6), (8, .int x8)] [] σ mc ms P) (k3 : (¬ (s0 = 0)) → ks_W L xs mX2_answer rm_X2_answer 89 [(0, .ref 16), (1, .int x1), (2, .long x2), (6, .long x6)] [] σ mc ms P) : ks_W L xs mX2_answer rm_X2_answer 86 [(0, .ref 16), (1, .int x1), (2, .long x2), (6, .long x6), (8, .int x8)] [.int s0] σ mc ms P := by
  refine ka_if_eq (tgt := 98) d_X2_answer_86 (by decide) rfl (fun c1 => ?_) (fun c1 => ?_)
  · exact (k2 c1)
  · refine ka_sub [0, 1, 2, 3] rfl ?_
    exact (k3 c1)
theorem sg_X2_answer_89 {L : Nat} {xs : Nat → Int32} {σ : ks_St} {mc ms : Nat} {P : ka_O → ks_St → Prop} {x1 : Int32} {x2 : Int64} {x6 : Int64}  (k1 : ks_W L xs mX2_answer rm_X2_answer 94 [] [.long x6, .long x2, .int x1, .ref 16] σ mc ms P) : ks_W L xs mX2_answer rm_X2_answer 89 [(0, .ref 16), (1, .int x1), (2, .long x2), (6, .long x6)] [] σ mc ms P := by
  refine ka_aload_n d_X2_answer_89 rfl rfl 0 rfl ?_
  refine ka_iload_n d_X2_answer_90 rfl rfl 1 rfl ?_
  refine ka_lload_n d_X2_answer_91 rfl rfl 2 rfl ?_
  refine ka_lload d_X2_answer_92 rfl 3 rfl ?_
  refine ka_sub [] rfl ?_
  exact k1
theorem cs_X2_answer_94 {L : Nat} {xs : Nat → Int32} {σ : ks_St} {mc ms : Nat} {P : ka_O → ks_St → Prop} {f : Int64 → ks_St → Prop} {s1 : Int32} {s2 : Int64} {s3 : Int64} (hK : ks_M L xs mX2_withoutRounding rm_X2_withoutRounding [.ref 16, .int s1, .long s2, .long s3] σ (pl_ f)) (kr : ∀ r σ', f r σ' → ks_W L xs mX2_answer rm_X2_answer 97 [] [.long r] σ' mc ms P) : ks_W L xs mX2_answer rm_X2_answer 94 [] [.long s3, .long s2, .int s1, .ref 16] σ mc ms P := by
  refine ks_callV (q := 97) (o := 16) (ci := 3) (As := [.int s1, .long s2, .long s3]) (st := []) d_X2_answer_94 rfl rfl (by decide) rfl rfl lk_X2_55 ⟨by decide, by decide⟩ (Nat.le_of_ble_eq_true rfl) ⟨Nat.le_refl _, Nat.le_refl _⟩ hK (fun v σ' hq => ?_) (fun E σ' hq => ?_)
  · obtain ⟨r, e, hf⟩ := hq; cases e; exact kr r σ' hf
  · obtain ⟨r, e, hf⟩ := hq; cases e
theorem sg_X2_answer_97 {L : Nat} {xs : Nat → Int32} {σ : ks_St} {mc ms : Nat} {P : ka_O → ks_St → Prop} {s0 : Int64}  (r1 : P (.inl (some (.long s0))) σ) : ks_W L xs mX2_answer rm_X2_answer 97 [] [.long s0] σ mc ms P := by
  exact ks_lret d_X2_answer_97 rfl r1
theorem sg_X2_answer_98 {L : Nat} {xs : Nat → Int32} {σ : ks_St} {mc ms : Nat} {P : ka_O → ks_St → Prop} {x1 : Int32} {x2 : Int64} {x6 : Int64} {x8 : Int32}  (k3 : (x8 = 0) → (¬ x1 = 2) → ks_W L xs mX2_answer rm_X2_answer 132 [(0, .ref 16)] [.long x6, .long x2, .ref 16] σ mc ms P) (k4 : (x8 = 0) → (x1 = 2) → ks_W L xs mX2_answer rm_X2_answer 122 [(0, .ref 16)] [.long x6, .long x2, .ref 16] σ mc ms P) (k5 : (¬ (x8 = 0)) → ks_W L xs mX2_answer rm_X2_answer 107 [(0, .ref 16)] [.long x6, .long x2, .ref 16] σ mc ms P) : ks_W L xs mX2_answer rm_X2_answer 98 [(0, .ref 16), (1, .int x1), (2, .long x2), (6, .long x6), (8, .int x8)] [] σ mc ms P := by
  refine ka_iload d_X2_answer_98 rfl 4 rfl ?_
  refine ka_if_eq (tgt := 113) d_X2_answer_100 (by decide) rfl (fun c1 => ?_) (fun c1 => ?_)
  · refine ka_iload_n d_X2_answer_113 rfl rfl 1 rfl ?_
    refine ka_iconst (v := 2) d_X2_answer_114 rfl (by decide) ?_
    refine ka_icmp_ne (tgt := 128) d_X2_answer_115 (by decide) rfl (fun c2 => ?_) (fun c2 => ?_)
    · refine ka_aload_n d_X2_answer_128 rfl rfl 0 rfl ?_
      refine ka_lload_n d_X2_answer_129 rfl rfl 2 rfl ?_
      refine ka_lload d_X2_answer_130 rfl 3 rfl ?_
      refine ka_sub [0] rfl ?_
      exact (k3 c1 c2)
    · refine ka_aload_n d_X2_answer_118 rfl rfl 0 rfl ?_
      refine ka_lload_n d_X2_answer_119 rfl rfl 2 rfl ?_
      refine ka_lload d_X2_answer_120 rfl 3 rfl ?_
      refine ka_sub [0] rfl ?_
      exact (k4 c1 c2)
  · refine ka_aload_n d_X2_answer_103 rfl rfl 0 rfl ?_
    refine ka_lload_n d_X2_answer_104 rfl rfl 2 rfl ?_
    refine ka_lload d_X2_answer_105 rfl 3 rfl ?_
    refine ka_sub [0] rfl ?_
    exact (k5 c1)
theorem cs_X2_answer_107 {L : Nat} {xs : Nat → Int32} {σ : ks_St} {mc ms : Nat} {P : ka_O → ks_St → Prop} {f : ks_St → Prop} {s1 : Int64} {s2 : Int64} (hK : ks_M L xs mX2_divide rm_X2_divide [.ref 16, .long s1, .long s2] σ (pv_ f)) (kr : ∀ σ', f σ' → ks_W L xs mX2_answer rm_X2_answer 110 [(0, .ref 16)] [] σ' mc ms P) : ks_W L xs mX2_answer rm_X2_answer 107 [(0, .ref 16)] [.long s2, .long s1, .ref 16] σ mc ms P := by
  refine ks_callV (q := 110) (o := 16) (ci := 3) (As := [.long s1, .long s2]) (st := []) d_X2_answer_107 rfl rfl (by decide) rfl rfl lk_X2_59 ⟨by decide, by decide⟩ (Nat.le_of_ble_eq_true rfl) ⟨Nat.le_refl _, Nat.le_refl _⟩ hK (fun v σ' hq => ?_) (fun E σ' hq => ?_)
  · obtain ⟨e, hf⟩ := hq; cases e; exact kr σ' hf
  · obtain ⟨e, hf⟩ := hq; cases e
theorem sg_X2_answer_110 {L : Nat} {xs : Nat → Int32} {σ : ks_St} {mc ms : Nat} {P : ka_O → ks_St → Prop}   (k1 : ks_W L xs mX2_answer rm_X2_answer 135 [(0, .ref 16)] [] σ mc ms P) : ks_W L xs mX2_answer rm_X2_answer 110 [(0, .ref 16)] [] σ mc ms P := by
  refine ka_goto (q := 135) d_X2_answer_110 (by decide) ?_
  exact k1
theorem cs_X2_answer_122 {L : Nat} {xs : Nat → Int32} {σ : ks_St} {mc ms : Nat} {P : ka_O → ks_St → Prop} {f : ks_St → Prop} {s1 : Int64} {s2 : Int64} (hK : ks_M L xs mX2_multiply rm_X2_multiply [.ref 16, .long s1, .long s2] σ (pv_ f)) (kr : ∀ σ', f σ' → ks_W L xs mX2_answer rm_X2_answer 125 [(0, .ref 16)] [] σ' mc ms P) : ks_W L xs mX2_answer rm_X2_answer 122 [(0, .ref 16)] [.long s2, .long s1, .ref 16] σ mc ms P := by
  refine ks_callV (q := 125) (o := 16) (ci := 3) (As := [.long s1, .long s2]) (st := []) d_X2_answer_122 rfl rfl (by decide) rfl rfl lk_X2_63 ⟨by decide, by decide⟩ (Nat.le_of_ble_eq_true rfl) ⟨Nat.le_refl _, Nat.le_refl _⟩ hK (fun v σ' hq => ?_) (fun E σ' hq => ?_)
  · obtain ⟨e, hf⟩ := hq; cases e; exact kr σ' hf
  · obtain ⟨e, hf⟩ := hq; cases e
theorem sg_X2_answer_125 {L : Nat} {xs : Nat → Int32} {σ : ks_St} {mc ms : Nat} {P : ka_O → ks_St → Prop}   (k1 : ks_W L xs mX2_answer rm_X2_answer 135 [(0, .ref 16)] [] σ mc ms P) : ks_W L xs mX2_answer rm_X2_answer 125 [(0, .ref 16)] [] σ mc ms P := by
  refine ka_goto (q := 135) d_X2_answer_125 (by decide) ?_
  exact k1
theorem cs_X2_answer_132 {L : Nat} {xs : Nat → Int32} {σ : ks_St} {mc ms : Nat} {P : ka_O → ks_St → Prop} {f : ks_St → Prop} {s1 : Int64} {s2 : Int64} (hK : ks_M L xs mX2_add rm_X2_add [.ref 16, .long s1, .long s2] σ (pv_ f)) (kr : ∀ σ', f σ' → ks_W L xs mX2_answer rm_X2_answer 135 [(0, .ref 16)] [] σ' mc ms P) : ks_W L xs mX2_answer rm_X2_answer 132 [(0, .ref 16)] [.long s2, .long s1, .ref 16] σ mc ms P := by
  refine ks_callV (q := 135) (o := 16) (ci := 3) (As := [.long s1, .long s2]) (st := []) d_X2_answer_132 rfl rfl (by decide) rfl rfl lk_X2_66 ⟨by decide, by decide⟩ (Nat.le_of_ble_eq_true rfl) ⟨Nat.le_refl _, Nat.le_refl _⟩ hK (fun v σ' hq => ?_) (fun E σ' hq => ?_)
  · obtain ⟨e, hf⟩ := hq; cases e; exact kr σ' hf
  · obtain ⟨e, hf⟩ := hq; cases e
theorem sg_X2_answer_135 {L : Nat} {xs : Nat → Int32} {σ : ks_St} {mc ms : Nat} {P : ka_O → ks_St → Prop}   (k1 : ks_W L xs mX2_answer rm_X2_answer 136 [] [.ref 16] σ mc ms P) : ks_W L xs mX2_answer rm_X2_answer 135 [(0, .ref 16)] [] σ mc ms P := by
  refine ka_aload_n d_X2_answer_135 rfl rfl 0 rfl ?_
  refine ka_sub [] rfl ?_
  exact k1
theorem cs_X2_answer_136 {L : Nat} {xs : Nat → Int32} {σ : ks_St} {mc ms : Nat} {P : ka_O → ks_St → Prop} {f : Int64 → ks_St → Prop}  (hK : ks_M L xs mX2_rounded rm_X2_rounded [.ref 16] σ (pl_ f)) (kr : ∀ r σ', f r σ' → ks_W L xs mX2_answer rm_X2_answer 139 [] [.long r] σ' mc ms P) : ks_W L xs mX2_answer rm_X2_answer 136 [] [.ref 16] σ mc ms P := by
  refine ks_callV (q := 139) (o := 16) (ci := 3) (As := []) (st := []) d_X2_answer_136 rfl rfl (by decide) rfl rfl lk_X2_69 ⟨by decide, by decide⟩ (Nat.le_of_ble_eq_true rfl) ⟨Nat.le_refl _, Nat.le_refl _⟩ hK (fun v σ' hq => ?_) (fun E σ' hq => ?_)
  · obtain ⟨r, e, hf⟩ := hq; cases e; exact kr r σ' hf
  · obtain ⟨r, e, hf⟩ := hq; cases e
theorem sg_X2_answer_139 {L : Nat} {xs : Nat → Int32} {σ : ks_St} {mc ms : Nat} {P : ka_O → ks_St → Prop} {s0 : Int64}  (r1 : P (.inl (some (.long s0))) σ) : ks_W L xs mX2_answer rm_X2_answer 139 [] [.long s0] σ mc ms P := by
  exact ks_lret d_X2_answer_139 rfl r1
