theorem d_X5_thrown_0 : decode cX5_thrown 0 = .ok (.aload_n 0, 1) := by decide +kernel
theorem d_X5_thrown_1 : decode cX5_thrown 1 = .ok (.getfield 50, 3) := by decide +kernel
theorem d_X5_thrown_4 : decode cX5_thrown 4 = .ok (.ireturn, 1) := by decide +kernel
theorem sg_X5_thrown_0 {L : Nat} {xs : Nat → Int32} {σ : ks_St} {mc ms : Nat} {P : ka_O → ks_St → Prop}   (r1 : P (.inl (some (.int (si_ σ 14)))) σ) : ks_W L xs mX5_thrown rm_X5_thrown 0 [(0, .ref 17)] [] σ mc ms P := by
  refine ka_aload_n d_X5_thrown_0 rfl rfl 0 rfl ?_
  refine gf_X5_0 d_X5_thrown_1 rfl fl_X5_50 ?_
  exact ks_iret (ty := .int) d_X5_thrown_4 rfl rfl r1
theorem d_X5_isWord_0 : decode cX5_isWord 0 = .ok (.iload_n 1, 1) := by decide +kernel
theorem d_X5_isWord_1 : decode cX5_isWord 1 = .ok (.ifCond .lt 15, 3) := by decide +kernel
theorem d_X5_isWord_4 : decode cX5_isWord 4 = .ok (.iload_n 1, 1) := by decide +kernel
theorem d_X5_isWord_5 : decode cX5_isWord 5 = .ok (.aload_n 0, 1) := by decide +kernel
theorem d_X5_isWord_6 : decode cX5_isWord 6 = .ok (.getfield 53, 3) := by decide +kernel
theorem d_X5_isWord_9 : decode cX5_isWord 9 = .ok (.if_icmp .ge 7, 3) := by decide +kernel
theorem d_X5_isWord_12 : decode cX5_isWord 12 = .ok (.iconst 1, 1) := by decide +kernel
theorem d_X5_isWord_13 : decode cX5_isWord 13 = .ok (.goto 4, 3) := by decide +kernel
theorem d_X5_isWord_16 : decode cX5_isWord 16 = .ok (.iconst 0, 1) := by decide +kernel
theorem d_X5_isWord_17 : decode cX5_isWord 17 = .ok (.ireturn, 1) := by decide +kernel
theorem sg_X5_isWord_0 {L : Nat} {xs : Nat → Int32} {σ : ks_St} {mc ms : Nat} {P : ka_O → ks_St → Prop} {x1 : Int32}  (k2 : (x1 < 0) → ks_W L xs mX5_isWord rm_X5_isWord 16 [] [] σ mc ms P) (k4 : (¬ (x1 < 0)) → ((si_ σ 16) ≤ x1) → ks_W L xs mX5_isWord rm_X5_isWord 16 [] [] σ mc ms P) (k5 : (¬ (x1 < 0)) → (¬ ((si_ σ 16) ≤ x1)) → ks_W L xs mX5_isWord rm_X5_isWord 17 [] [.int 1] σ mc ms P) : ks_W L xs mX5_isWord rm_X5_isWord 0 [(0, .ref 17), (1, .int x1)] [] σ mc ms P := by
  refine ka_iload_n d_X5_isWord_0 rfl rfl 1 rfl ?_
  refine ka_if_lt (tgt := 16) d_X5_isWord_1 (by decide) rfl (fun c1 => ?_) (fun c1 => ?_)
  · refine ka_sub [] rfl ?_
    exact (k2 c1)
  · refine ka_iload_n d_X5_isWord_4 rfl rfl 1 rfl ?_
    refine ka_aload_n d_X5_isWord_5 rfl rfl 0 rfl ?_
    refine gf_X5_2 d_X5_isWord_6 rfl fl_X5_53 ?_
    refine ka_icmp_ge (tgt := 16) d_X5_isWord_9 (by decide) rfl (fun c3 => ?_) (fun c3 => ?_)
    · refine ka_sub [] rfl ?_
      exact (k4 c1 c3)
    · refine ka_iconst (v := 1) d_X5_isWord_12 rfl (by decide) ?_
      refine ka_goto (q := 17) d_X5_isWord_13 (by decide) ?_
      refine ka_sub [] rfl ?_
      exact (k5 c1 c3)
theorem sg_X5_isWord_16 {L : Nat} {xs : Nat → Int32} {σ : ks_St} {mc ms : Nat} {P : ka_O → ks_St → Prop}   (k1 : ks_W L xs mX5_isWord rm_X5_isWord 17 [] [.int 0] σ mc ms P) : ks_W L xs mX5_isWord rm_X5_isWord 16 [] [] σ mc ms P := by
  refine ka_iconst (v := 0) d_X5_isWord_16 rfl (by decide) ?_
  exact k1
theorem sg_X5_isWord_17 {L : Nat} {xs : Nat → Int32} {σ : ks_St} {mc ms : Nat} {P : ka_O → ks_St → Prop} {s0 : Int32}  (b1 : narrow .boolean (.int s0) = .int s0) (r2 : P (.inl (some (.int s0))) σ) : ks_W L xs mX5_isWord rm_X5_isWord 17 [] [.int s0] σ mc ms P := by
  exact ks_iret (ty := .boolean) d_X5_isWord_17 rfl b1 r2
theorem d_X5_throwing_0 : decode cX5_throwing 0 = .ok (.aload_n 0, 1) := by decide +kernel
theorem d_X5_throwing_1 : decode cX5_throwing 1 = .ok (.iload_n 1, 1) := by decide +kernel
theorem d_X5_throwing_2 : decode cX5_throwing 2 = .ok (.ifCond .eq 7, 3) := by decide +kernel
theorem d_X5_throwing_5 : decode cX5_throwing 5 = .ok (.iconst 1, 1) := by decide +kernel
theorem d_X5_throwing_6 : decode cX5_throwing 6 = .ok (.goto 29, 3) := by decide +kernel
theorem d_X5_throwing_9 : decode cX5_throwing 9 = .ok (.iload_n 2, 1) := by decide +kernel
theorem d_X5_throwing_10 : decode cX5_throwing 10 = .ok (.ifCond .eq 7, 3) := by decide +kernel
theorem d_X5_throwing_13 : decode cX5_throwing 13 = .ok (.iconst 2, 1) := by decide +kernel
theorem d_X5_throwing_14 : decode cX5_throwing 14 = .ok (.goto 21, 3) := by decide +kernel
theorem d_X5_throwing_17 : decode cX5_throwing 17 = .ok (.iload_n 3, 1) := by decide +kernel
theorem d_X5_throwing_18 : decode cX5_throwing 18 = .ok (.ifCond .eq 7, 3) := by decide +kernel
theorem d_X5_throwing_21 : decode cX5_throwing 21 = .ok (.iconst 3, 1) := by decide +kernel
theorem d_X5_throwing_22 : decode cX5_throwing 22 = .ok (.goto 13, 3) := by decide +kernel
theorem d_X5_throwing_25 : decode cX5_throwing 25 = .ok (.iload 4, 2) := by decide +kernel
theorem d_X5_throwing_27 : decode cX5_throwing 27 = .ok (.ifCond .eq 7, 3) := by decide +kernel
theorem d_X5_throwing_30 : decode cX5_throwing 30 = .ok (.iconst 4, 1) := by decide +kernel
theorem d_X5_throwing_31 : decode cX5_throwing 31 = .ok (.goto 4, 3) := by decide +kernel
theorem d_X5_throwing_34 : decode cX5_throwing 34 = .ok (.iconst 0, 1) := by decide +kernel
theorem d_X5_throwing_35 : decode cX5_throwing 35 = .ok (.putfield 50, 3) := by decide +kernel
theorem d_X5_throwing_38 : decode cX5_throwing 38 = .ok (.aload_n 0, 1) := by decide +kernel
theorem d_X5_throwing_39 : decode cX5_throwing 39 = .ok (.getfield 50, 3) := by decide +kernel
theorem d_X5_throwing_42 : decode cX5_throwing 42 = .ok (.ifCond .le 7, 3) := by decide +kernel
theorem d_X5_throwing_45 : decode cX5_throwing 45 = .ok (.iconst 1, 1) := by decide +kernel
theorem d_X5_throwing_46 : decode cX5_throwing 46 = .ok (.goto 4, 3) := by decide +kernel
theorem d_X5_throwing_49 : decode cX5_throwing 49 = .ok (.iconst 0, 1) := by decide +kernel
theorem d_X5_throwing_50 : decode cX5_throwing 50 = .ok (.ireturn, 1) := by decide +kernel
theorem sg_X5_throwing_0 {L : Nat} {xs : Nat → Int32} {σ : ks_St} {mc ms : Nat} {P : ka_O → ks_St → Prop} {x1 : Int32} {x2 : Int32} {x3 : Int32} {x4 : Int32}  (k5 : (x1 = 0) → (x2 = 0) → (x3 = 0) → (x4 = 0) → ks_W L xs mX5_throwing rm_X5_throwing 35 [(0, .ref 17)] [.int 0, .ref 17] σ mc ms P) (k6 : (x1 = 0) → (x2 = 0) → (x3 = 0) → (¬ (x4 = 0)) → ks_W L xs mX5_throwing rm_X5_throwing 35 [(0, .ref 17)] [.int 4, .ref 17] σ mc ms P) (k7 : (x1 = 0) → (x2 = 0) → (¬ (x3 = 0)) → ks_W L xs mX5_throwing rm_X5_throwing 35 [(0, .ref 17)] [.int 3, .ref 17] σ mc ms P) (k8 : (x1 = 0) → (¬ (x2 = 0)) → ks_W L xs mX5_throwing rm_X5_throwing 35 [(0, .ref 17)] [.int 2, .ref 17] σ mc ms P) (k9 : (¬ (x1 = 0)) → ks_W L xs mX5_throwing rm_X5_throwing 35 [(0, .ref 17)] [.int 1, .ref 17] σ mc ms P) : ks_W L xs mX5_throwing rm_X5_throwing 0 [(0, .ref 17), (1, .int x1), (2, .int x2), (3, .int x3), (4, .int x4)] [] σ mc ms P := by
  refine ka_aload_n d_X5_throwing_0 rfl rfl 0 rfl ?_
  refine ka_iload_n d_X5_throwing_1 rfl rfl 1 rfl ?_
  refine ka_if_eq (tgt := 9) d_X5_throwing_2 (by decide) rfl (fun c1 => ?_) (fun c1 => ?_)
  · refine ka_iload_n d_X5_throwing_9 rfl rfl 2 rfl ?_
    refine ka_if_eq (tgt := 17) d_X5_throwing_10 (by decide) rfl (fun c2 => ?_) (fun c2 => ?_)
    · refine ka_iload_n d_X5_throwing_17 rfl rfl 3 rfl ?_
      refine ka_if_eq (tgt := 25) d_X5_throwing_18 (by decide) rfl (fun c3 => ?_) (fun c3 => ?_)
      · refine ka_iload d_X5_throwing_25 rfl 4 rfl ?_
        refine ka_if_eq (tgt := 34) d_X5_throwing_27 (by decide) rfl (fun c4 => ?_) (fun c4 => ?_)
        · refine ka_iconst (v := 0) d_X5_throwing_34 rfl (by decide) ?_
          refine ka_sub [0] rfl ?_
          exact (k5 c1 c2 c3 c4)
        · refine ka_iconst (v := 4) d_X5_throwing_30 rfl (by decide) ?_
          refine ka_goto (q := 35) d_X5_throwing_31 (by decide) ?_
          refine ka_sub [0] rfl ?_
          exact (k6 c1 c2 c3 c4)
      · refine ka_iconst (v := 3) d_X5_throwing_21 rfl (by decide) ?_
        refine ka_goto (q := 35) d_X5_throwing_22 (by decide) ?_
        refine ka_sub [0] rfl ?_
        exact (k7 c1 c2 c3)
    · refine ka_iconst (v := 2) d_X5_throwing_13 rfl (by decide) ?_
      refine ka_goto (q := 35) d_X5_throwing_14 (by decide) ?_
      refine ka_sub [0] rfl ?_
      exact (k8 c1 c2)
  · refine ka_iconst (v := 1) d_X5_throwing_5 rfl (by decide) ?_
    refine ka_goto (q := 35) d_X5_throwing_6 (by decide) ?_
    refine ka_sub [0] rfl ?_
    exact (k9 c1)
theorem sg_X5_throwing_35 {L : Nat} {xs : Nat → Int32} {σ : ks_St} {mc ms : Nat} {P : ka_O → ks_St → Prop} {s1 : Int32}  (k2 : ((si_ (ui_ σ 14 s1) 14) ≤ 0) → ks_W L xs mX5_throwing rm_X5_throwing 50 [] [.int 0] (ui_ σ 14 s1) mc ms P) (k3 : (¬ ((si_ (ui_ σ 14 s1) 14) ≤ 0)) → ks_W L xs mX5_throwing rm_X5_throwing 50 [] [.int 1] (ui_ σ 14 s1) mc ms P) : ks_W L xs mX5_throwing rm_X5_throwing 35 [(0, .ref 17)] [.int s1, .ref 17] σ mc ms P := by
  refine pf_X5_0 d_X5_throwing_35 rfl fl_X5_50 ?_
  refine ka_aload_n d_X5_throwing_38 rfl rfl 0 rfl ?_
  refine gf_X5_0 d_X5_throwing_39 rfl fl_X5_50 ?_
  refine ka_if_le (tgt := 49) d_X5_throwing_42 (by decide) rfl (fun c1 => ?_) (fun c1 => ?_)
  · refine ka_iconst (v := 0) d_X5_throwing_49 rfl (by decide) ?_
    refine ka_sub [] rfl ?_
    exact (k2 c1)
  · refine ka_iconst (v := 1) d_X5_throwing_45 rfl (by decide) ?_
    refine ka_goto (q := 50) d_X5_throwing_46 (by decide) ?_
    refine ka_sub [] rfl ?_
    exact (k3 c1)
theorem sg_X5_throwing_50 {L : Nat} {xs : Nat → Int32} {σ : ks_St} {mc ms : Nat} {P : ka_O → ks_St → Prop} {s0 : Int32}  (b1 : narrow .boolean (.int s0) = .int s0) (r2 : P (.inl (some (.int s0))) σ) : ks_W L xs mX5_throwing rm_X5_throwing 50 [] [.int s0] σ mc ms P := by
  exact ks_iret (ty := .boolean) d_X5_throwing_50 rfl b1 r2
theorem d_X5_bitOf_0 : decode cX5_bitOf 0 = .ok (.aload_n 0, 1) := by decide +kernel
theorem d_X5_bitOf_1 : decode cX5_bitOf 1 = .ok (.getfield 14, 3) := by decide +kernel
theorem d_X5_bitOf_4 : decode cX5_bitOf 4 = .ok (.sipush 512, 3) := by decide +kernel
theorem d_X5_bitOf_7 : decode cX5_bitOf 7 = .ok (.iload_n 1, 1) := by decide +kernel
theorem d_X5_bitOf_8 : decode cX5_bitOf 8 = .ok (.imul, 1) := by decide +kernel
theorem d_X5_bitOf_9 : decode cX5_bitOf 9 = .ok (.iload_n 2, 1) := by decide +kernel
theorem d_X5_bitOf_10 : decode cX5_bitOf 10 = .ok (.iadd, 1) := by decide +kernel
theorem d_X5_bitOf_11 : decode cX5_bitOf 11 = .ok (.baload, 1) := by decide +kernel
theorem d_X5_bitOf_12 : decode cX5_bitOf 12 = .ok (.ireturn, 1) := by decide +kernel
theorem sg_X5_bitOf_0 {L : Nat} {xs : Nat → Int32} {σ : ks_St} {mc ms : Nat} {P : ka_O → ks_St → Prop} {x1 : Int32} {x2 : Int32}  (v1 : vp_in ((512 * x1) + x2) 307200) (r2 : P (.inl (some (.int (sf_ σ 19 ((512 * x1) + x2).toNatClampNeg)))) σ) : ks_W L xs mX5_bitOf rm_X5_bitOf 0 [(0, .ref 17), (1, .int x1), (2, .int x2)] [] σ mc ms P := by
  refine ka_aload_n d_X5_bitOf_0 rfl rfl 0 rfl ?_
  refine gf_X5_4 d_X5_bitOf_1 rfl fl_X5_14 ?_
  refine ka_sipush (v := 512) d_X5_bitOf_4 rfl (by decide) ?_
  refine ka_iload_n d_X5_bitOf_7 rfl rfl 1 rfl ?_
  refine ka_imul d_X5_bitOf_8 rfl ?_
  refine ka_iload_n d_X5_bitOf_9 rfl rfl 2 rfl ?_
  refine ka_iadd d_X5_bitOf_10 rfl ?_
  refine ks_bald row_19 d_X5_bitOf_11 rfl v1 ?_
  exact ks_iret (ty := .int) d_X5_bitOf_12 rfl rfl r2
theorem d_X5_make_0 : decode cX5_make 0 = .ok (.aload_n 0, 1) := by decide +kernel
theorem d_X5_make_1 : decode cX5_make 1 = .ok (.getfield 7, 3) := by decide +kernel
theorem d_X5_make_4 : decode cX5_make 4 = .ok (.aload_n 0, 1) := by decide +kernel
theorem d_X5_make_5 : decode cX5_make 5 = .ok (.getfield 53, 3) := by decide +kernel
theorem d_X5_make_8 : decode cX5_make 8 = .ok (.iload_n 1, 1) := by decide +kernel
theorem d_X5_make_9 : decode cX5_make 9 = .ok (.iastore, 1) := by decide +kernel
theorem d_X5_make_10 : decode cX5_make 10 = .ok (.iconst 0, 1) := by decide +kernel
theorem d_X5_make_11 : decode cX5_make 11 = .ok (.istore_n 2, 1) := by decide +kernel
theorem d_X5_make_12 : decode cX5_make 12 = .ok (.iload_n 2, 1) := by decide +kernel
theorem d_X5_make_13 : decode cX5_make 13 = .ok (.sipush 512, 3) := by decide +kernel
theorem d_X5_make_16 : decode cX5_make 16 = .ok (.if_icmp .ge 25, 3) := by decide +kernel
theorem d_X5_make_19 : decode cX5_make 19 = .ok (.aload_n 0, 1) := by decide +kernel
theorem d_X5_make_20 : decode cX5_make 20 = .ok (.getfield 14, 3) := by decide +kernel
theorem d_X5_make_23 : decode cX5_make 23 = .ok (.sipush 512, 3) := by decide +kernel
theorem d_X5_make_26 : decode cX5_make 26 = .ok (.aload_n 0, 1) := by decide +kernel
theorem d_X5_make_27 : decode cX5_make 27 = .ok (.getfield 53, 3) := by decide +kernel
theorem d_X5_make_30 : decode cX5_make 30 = .ok (.imul, 1) := by decide +kernel
theorem d_X5_make_31 : decode cX5_make 31 = .ok (.iload_n 2, 1) := by decide +kernel
theorem d_X5_make_32 : decode cX5_make 32 = .ok (.iadd, 1) := by decide +kernel
theorem d_X5_make_33 : decode cX5_make 33 = .ok (.iconst 0, 1) := by decide +kernel
theorem d_X5_make_34 : decode cX5_make 34 = .ok (.bastore, 1) := by decide +kernel
theorem d_X5_make_35 : decode cX5_make 35 = .ok (.iinc 2 1, 3) := by decide +kernel
theorem d_X5_make_38 : decode cX5_make 38 = .ok (.goto (-26), 3) := by decide +kernel
theorem d_X5_make_41 : decode cX5_make 41 = .ok (.aload_n 0, 1) := by decide +kernel
theorem d_X5_make_42 : decode cX5_make 42 = .ok (.dup, 1) := by decide +kernel
theorem d_X5_make_43 : decode cX5_make 43 = .ok (.getfield 53, 3) := by decide +kernel
theorem d_X5_make_46 : decode cX5_make 46 = .ok (.iconst 1, 1) := by decide +kernel
theorem d_X5_make_47 : decode cX5_make 47 = .ok (.iadd, 1) := by decide +kernel
theorem d_X5_make_48 : decode cX5_make 48 = .ok (.putfield 53, 3) := by decide +kernel
theorem d_X5_make_51 : decode cX5_make 51 = .ok (.aload_n 0, 1) := by decide +kernel
theorem d_X5_make_52 : decode cX5_make 52 = .ok (.getfield 53, 3) := by decide +kernel
theorem d_X5_make_55 : decode cX5_make 55 = .ok (.iconst 1, 1) := by decide +kernel
theorem d_X5_make_56 : decode cX5_make 56 = .ok (.isub, 1) := by decide +kernel
theorem d_X5_make_57 : decode cX5_make 57 = .ok (.ireturn, 1) := by decide +kernel
theorem sg_X5_make_0 {L : Nat} {xs : Nat → Int32} {σ : ks_St} {mc ms : Nat} {P : ka_O → ks_St → Prop} {x1 : Int32}  (v1 : vp_in (si_ σ 16) 600) (k2 : ks_W L xs mX5_make rm_X5_make 12 [(0, .ref 17), (2, .int 0)] [] (uf_ σ 18 (upd (sf_ σ 18) (si_ σ 16).toNatClampNeg x1)) mc ms P) : ks_W L xs mX5_make rm_X5_make 0 [(0, .ref 17), (1, .int x1)] [] σ mc ms P := by
  refine ka_aload_n d_X5_make_0 rfl rfl 0 rfl ?_
  refine gf_X5_3 d_X5_make_1 rfl fl_X5_7 ?_
  refine ka_aload_n d_X5_make_4 rfl rfl 0 rfl ?_
  refine gf_X5_2 d_X5_make_5 rfl fl_X5_53 ?_
  refine ka_iload_n d_X5_make_8 rfl rfl 1 rfl ?_
  refine ks_iast row_18 d_X5_make_9 rfl v1 ?_
  refine ka_iconst (v := 0) d_X5_make_10 rfl (by decide) ?_
  refine ka_istore_n (ls' := [(2, .int 0), (0, .ref 17), (1, .int x1)]) d_X5_make_11 rfl rfl (by decide) rfl ?_
  refine ka_sub [1, 0] rfl ?_
  exact k2
theorem sg_X5_make_12 {L : Nat} {xs : Nat → Int32} {σ : ks_St} {mc ms : Nat} {P : ka_O → ks_St → Prop} {x2 : Int32}  (r2 : (512 ≤ x2) → P (.inl (some (.int ((si_ (ui_ σ 16 ((si_ σ 16) + 1)) 16) - 1)))) (ui_ σ 16 ((si_ σ 16) + 1))) (v3 : (¬ (512 ≤ x2)) → vp_in ((512 * (si_ σ 16)) + x2) 307200) (k4 : (¬ (512 ≤ x2)) → ks_W L xs mX5_make rm_X5_make 12 [(0, .ref 17), (2, .int (x2 + 1))] [] (uf_ σ 19 (upd (sf_ σ 19) ((512 * (si_ σ 16)) + x2).toNatClampNeg (vp_nar .byte 0))) mc ms P) : ks_W L xs mX5_make rm_X5_make 12 [(0, .ref 17), (2, .int x2)] [] σ mc ms P := by
  refine ka_iload_n d_X5_make_12 rfl rfl 1 rfl ?_
  refine ka_sipush (v := 512) d_X5_make_13 rfl (by decide) ?_
  refine ka_icmp_ge (tgt := 41) d_X5_make_16 (by decide) rfl (fun c1 => ?_) (fun c1 => ?_)
  · refine ka_aload_n d_X5_make_41 rfl rfl 0 rfl ?_
    refine ka_dup d_X5_make_42 rfl rfl ?_
    refine gf_X5_2 d_X5_make_43 rfl fl_X5_53 ?_
    refine ka_iconst (v := 1) d_X5_make_46 rfl (by decide) ?_
    refine ka_iadd d_X5_make_47 rfl ?_
    refine pf_X5_2 d_X5_make_48 rfl fl_X5_53 ?_
    refine ka_aload_n d_X5_make_51 rfl rfl 0 rfl ?_
    refine gf_X5_2 d_X5_make_52 rfl fl_X5_53 ?_
    refine ka_iconst (v := 1) d_X5_make_55 rfl (by decide) ?_
    refine ka_isub d_X5_make_56 rfl ?_
    exact ks_iret (ty := .int) d_X5_make_57 rfl rfl (r2 c1)
  · refine ka_aload_n d_X5_make_19 rfl rfl 0 rfl ?_
    refine gf_X5_4 d_X5_make_20 rfl fl_X5_14 ?_
    refine ka_sipush (v := 512) d_X5_make_23 rfl (by decide) ?_
    refine ka_aload_n d_X5_make_26 rfl rfl 0 rfl ?_
    refine gf_X5_2 d_X5_make_27 rfl fl_X5_53 ?_
    refine ka_imul d_X5_make_30 rfl ?_
    refine ka_iload_n d_X5_make_31 rfl rfl 1 rfl ?_
    refine ka_iadd d_X5_make_32 rfl ?_
    refine ka_iconst (v := 0) d_X5_make_33 rfl (by decide) ?_
    refine ks_bast row_19 d_X5_make_34 rfl (v3 c1) ?_
    refine ka_iinc (g := 1) (v := x2 + 1) (ls' := [(2, .int (x2 + 1)), (0, .ref 17)]) d_X5_make_35 rfl rfl rfl (by decide) rfl ?_
    refine ka_goto (q := 12) d_X5_make_38 (by decide) ?_
    refine ka_sub [1, 0] rfl ?_
    exact (k4 c1)
theorem d_X5_word_0 : decode cX5_word 0 = .ok (.aload_n 0, 1) := by decide +kernel
theorem d_X5_word_1 : decode cX5_word 1 = .ok (.aload_n 0, 1) := by decide +kernel
theorem d_X5_word_2 : decode cX5_word 2 = .ok (.getfield 53, 3) := by decide +kernel
theorem d_X5_word_5 : decode cX5_word 5 = .ok (.sipush 600, 3) := by decide +kernel
theorem d_X5_word_8 : decode cX5_word 8 = .ok (.if_icmp .ne 7, 3) := by decide +kernel
theorem d_X5_word_11 : decode cX5_word 11 = .ok (.iconst 1, 1) := by decide +kernel
theorem d_X5_word_12 : decode cX5_word 12 = .ok (.goto 4, 3) := by decide +kernel
theorem d_X5_word_15 : decode cX5_word 15 = .ok (.iconst 0, 1) := by decide +kernel
theorem d_X5_word_16 : decode cX5_word 16 = .ok (.iconst 0, 1) := by decide +kernel
theorem d_X5_word_17 : decode cX5_word 17 = .ok (.iconst 0, 1) := by decide +kernel
theorem d_X5_word_18 : decode cX5_word 18 = .ok (.iconst 0, 1) := by decide +kernel
theorem d_X5_word_19 : decode cX5_word 19 = .ok (.invokevirtual 56, 3) := by decide +kernel
theorem d_X5_word_22 : decode cX5_word 22 = .ok (.ifCond .eq 5, 3) := by decide +kernel
theorem d_X5_word_25 : decode cX5_word 25 = .ok (.iconst 0, 1) := by decide +kernel
theorem d_X5_word_26 : decode cX5_word 26 = .ok (.ireturn, 1) := by decide +kernel
theorem d_X5_word_27 : decode cX5_word 27 = .ok (.aload_n 0, 1) := by decide +kernel
theorem d_X5_word_28 : decode cX5_word 28 = .ok (.aload_n 0, 1) := by decide +kernel
theorem d_X5_word_29 : decode cX5_word 29 = .ok (.getfield 46, 3) := by decide +kernel
theorem d_X5_word_32 : decode cX5_word 32 = .ok (.invokevirtual 60, 3) := by decide +kernel
theorem d_X5_word_35 : decode cX5_word 35 = .ok (.ireturn, 1) := by decide +kernel
theorem sg_X5_word_0 {L : Nat} {xs : Nat → Int32} {σ : ks_St} {mc ms : Nat} {P : ka_O → ks_St → Prop}   (k2 : (¬ (si_ σ 16) = 600) → ks_W L xs mX5_word rm_X5_word 16 [(0, .ref 17)] [.int 0, .ref 17] σ mc ms P) (k3 : ((si_ σ 16) = 600) → ks_W L xs mX5_word rm_X5_word 16 [(0, .ref 17)] [.int 1, .ref 17] σ mc ms P) : ks_W L xs mX5_word rm_X5_word 0 [(0, .ref 17)] [] σ mc ms P := by
  refine ka_aload_n d_X5_word_0 rfl rfl 0 rfl ?_
  refine ka_aload_n d_X5_word_1 rfl rfl 0 rfl ?_
  refine gf_X5_2 d_X5_word_2 rfl fl_X5_53 ?_
  refine ka_sipush (v := 600) d_X5_word_5 rfl (by decide) ?_
  refine ka_icmp_ne (tgt := 15) d_X5_word_8 (by decide) rfl (fun c1 => ?_) (fun c1 => ?_)
  · refine ka_iconst (v := 0) d_X5_word_15 rfl (by decide) ?_
    exact (k2 c1)
  · refine ka_iconst (v := 1) d_X5_word_11 rfl (by decide) ?_
    refine ka_goto (q := 16) d_X5_word_12 (by decide) ?_
    exact (k3 c1)
theorem sg_X5_word_16 {L : Nat} {xs : Nat → Int32} {σ : ks_St} {mc ms : Nat} {P : ka_O → ks_St → Prop} {s1 : Int32}  (k1 : ks_W L xs mX5_word rm_X5_word 19 [(0, .ref 17)] [.int 0, .int 0, .int 0, .int s1, .ref 17] σ mc ms P) : ks_W L xs mX5_word rm_X5_word 16 [(0, .ref 17)] [.int s1, .ref 17] σ mc ms P := by
  refine ka_iconst (v := 0) d_X5_word_16 rfl (by decide) ?_
  refine ka_iconst (v := 0) d_X5_word_17 rfl (by decide) ?_
  refine ka_iconst (v := 0) d_X5_word_18 rfl (by decide) ?_
  exact k1
theorem cs_X5_word_19 {L : Nat} {xs : Nat → Int32} {σ : ks_St} {mc ms : Nat} {P : ka_O → ks_St → Prop} {f : Int32 → ks_St → Prop} {s1 : Int32} {s2 : Int32} {s3 : Int32} {s4 : Int32} (hK : ks_M L xs mX5_throwing rm_X5_throwing [.ref 17, .int s1, .int s2, .int s3, .int s4] σ (pi_ f)) (kr : ∀ r σ', f r σ' → ks_W L xs mX5_word rm_X5_word 22 [(0, .ref 17)] [.int r] σ' mc ms P) : ks_W L xs mX5_word rm_X5_word 19 [(0, .ref 17)] [.int s4, .int s3, .int s2, .int s1, .ref 17] σ mc ms P := by
  refine ks_callV (q := 22) (o := 17) (ci := 5) (As := [.int s1, .int s2, .int s3, .int s4]) (st := []) d_X5_word_19 rfl rfl (by decide) rfl rfl lk_X5_56 ⟨by decide, by decide⟩ (Nat.le_of_ble_eq_true rfl) ⟨Nat.le_refl _, Nat.le_refl _⟩ hK (fun v σ' hq => ?_) (fun E σ' hq => ?_)
  · obtain ⟨r, e, hf⟩ := hq; cases e; exact kr r σ' hf
  · obtain ⟨r, e, hf⟩ := hq; cases e
theorem sg_X5_word_22 {L : Nat} {xs : Nat → Int32} {σ : ks_St} {mc ms : Nat} {P : ka_O → ks_St → Prop} {s0 : Int32}  (k2 : (s0 = 0) → ks_W L xs mX5_word rm_X5_word 32 [] [.int (si_ σ 15), .ref 17] σ mc ms P) (r3 : (¬ (s0 = 0)) → P (.inl (some (.int 0))) σ) : ks_W L xs mX5_word rm_X5_word 22 [(0, .ref 17)] [.int s0] σ mc ms P := by
  refine ka_if_eq (tgt := 27) d_X5_word_22 (by decide) rfl (fun c1 => ?_) (fun c1 => ?_)
  · refine ka_aload_n d_X5_word_27 rfl rfl 0 rfl ?_
    refine ka_aload_n d_X5_word_28 rfl rfl 0 rfl ?_
    refine gf_X5_1 d_X5_word_29 rfl fl_X5_46 ?_
    refine ka_sub [] rfl ?_
    exact (k2 c1)
  · refine ka_iconst (v := 0) d_X5_word_25 rfl (by decide) ?_
    exact ks_iret (ty := .int) d_X5_word_26 rfl rfl (r3 c1)
theorem cs_X5_word_32 {L : Nat} {xs : Nat → Int32} {σ : ks_St} {mc ms : Nat} {P : ka_O → ks_St → Prop} {f : Int32 → ks_St → Prop} {s1 : Int32} (hK : ks_M L xs mX5_make rm_X5_make [.ref 17, .int s1] σ (pi_ f)) (kr : ∀ r σ', f r σ' → ks_W L xs mX5_word rm_X5_word 35 [] [.int r] σ' mc ms P) : ks_W L xs mX5_word rm_X5_word 32 [] [.int s1, .ref 17] σ mc ms P := by
  refine ks_callV (q := 35) (o := 17) (ci := 5) (As := [.int s1]) (st := []) d_X5_word_32 rfl rfl (by decide) rfl rfl lk_X5_60 ⟨by decide, by decide⟩ (Nat.le_of_ble_eq_true rfl) ⟨Nat.le_refl _, Nat.le_refl _⟩ hK (fun v σ' hq => ?_) (fun E σ' hq => ?_)
  · obtain ⟨r, e, hf⟩ := hq; cases e; exact kr r σ' hf
  · obtain ⟨r, e, hf⟩ := hq; cases e
theorem sg_X5_word_35 {L : Nat} {xs : Nat → Int32} {σ : ks_St} {mc ms : Nat} {P : ka_O → ks_St → Prop} {s0 : Int32}  (r1 : P (.inl (some (.int s0))) σ) : ks_W L xs mX5_word rm_X5_word 35 [] [.int s0] σ mc ms P := by
  exact ks_iret (ty := .int) d_X5_word_35 rfl rfl r1
theorem d_X5_isLimb_0 : decode cX5_isLimb 0 = .ok (.aload_n 0, 1) := by decide +kernel
theorem d_X5_isLimb_1 : decode cX5_isLimb 1 = .ok (.iload_n 1, 1) := by decide +kernel
theorem d_X5_isLimb_2 : decode cX5_isLimb 2 = .ok (.invokevirtual 64, 3) := by decide +kernel
theorem d_X5_isLimb_5 : decode cX5_isLimb 5 = .ok (.ifCond .eq 27, 3) := by decide +kernel
theorem d_X5_isLimb_8 : decode cX5_isLimb 8 = .ok (.iload_n 2, 1) := by decide +kernel
theorem d_X5_isLimb_9 : decode cX5_isLimb 9 = .ok (.ifCond .lt 23, 3) := by decide +kernel
theorem d_X5_isLimb_12 : decode cX5_isLimb 12 = .ok (.iload_n 2, 1) := by decide +kernel
theorem d_X5_isLimb_13 : decode cX5_isLimb 13 = .ok (.aload_n 0, 1) := by decide +kernel
theorem d_X5_isLimb_14 : decode cX5_isLimb 14 = .ok (.getfield 7, 3) := by decide +kernel
theorem d_X5_isLimb_17 : decode cX5_isLimb 17 = .ok (.iload_n 1, 1) := by decide +kernel
theorem d_X5_isLimb_18 : decode cX5_isLimb 18 = .ok (.iaload, 1) := by decide +kernel
theorem d_X5_isLimb_19 : decode cX5_isLimb 19 = .ok (.bipush 63, 2) := by decide +kernel
theorem d_X5_isLimb_21 : decode cX5_isLimb 21 = .ok (.iadd, 1) := by decide +kernel
theorem d_X5_isLimb_22 : decode cX5_isLimb 22 = .ok (.bipush 64, 2) := by decide +kernel
theorem d_X5_isLimb_24 : decode cX5_isLimb 24 = .ok (.idiv, 1) := by decide +kernel
theorem d_X5_isLimb_25 : decode cX5_isLimb 25 = .ok (.if_icmp .ge 7, 3) := by decide +kernel
theorem d_X5_isLimb_28 : decode cX5_isLimb 28 = .ok (.iconst 1, 1) := by decide +kernel
theorem d_X5_isLimb_29 : decode cX5_isLimb 29 = .ok (.goto 4, 3) := by decide +kernel
theorem d_X5_isLimb_32 : decode cX5_isLimb 32 = .ok (.iconst 0, 1) := by decide +kernel
theorem d_X5_isLimb_33 : decode cX5_isLimb 33 = .ok (.ireturn, 1) := by decide +kernel
theorem sg_X5_isLimb_0 {L : Nat} {xs : Nat → Int32} {σ : ks_St} {mc ms : Nat} {P : ka_O → ks_St → Prop} {x1 : Int32} {x2 : Int32}  (k1 : ks_W L xs mX5_isLimb rm_X5_isLimb 2 [(0, .ref 17), (1, .int x1), (2, .int x2)] [.int x1, .ref 17] σ mc ms P) : ks_W L xs mX5_isLimb rm_X5_isLimb 0 [(0, .ref 17), (1, .int x1), (2, .int x2)] [] σ mc ms P := by
  refine ka_aload_n d_X5_isLimb_0 rfl rfl 0 rfl ?_
  refine ka_iload_n d_X5_isLimb_1 rfl rfl 1 rfl ?_
  exact k1
theorem cs_X5_isLimb_2 {L : Nat} {xs : Nat → Int32} {σ : ks_St} {mc ms : Nat} {P : ka_O → ks_St → Prop} {f : Int32 → ks_St → Prop} {x1 : Int32} {x2 : Int32} {s1 : Int32} (hK : ks_M L xs mX5_isWord rm_X5_isWord [.ref 17, .int s1] σ (pi_ f)) (kr : ∀ r σ', f r σ' → ks_W L xs mX5_isLimb rm_X5_isLimb 5 [(0, .ref 17), (1, .int x1), (2, .int x2)] [.int r] σ' mc ms P) : ks_W L xs mX5_isLimb rm_X5_isLimb 2 [(0, .ref 17), (1, .int x1), (2, .int x2)] [.int s1, .ref 17] σ mc ms P := by
  refine ks_callV (q := 5) (o := 17) (ci := 5) (As := [.int s1]) (st := []) d_X5_isLimb_2 rfl rfl (by decide) rfl rfl lk_X5_64 ⟨by decide, by decide⟩ (Nat.le_of_ble_eq_true rfl) ⟨Nat.le_refl _, Nat.le_refl _⟩ hK (fun v σ' hq => ?_) (fun E σ' hq => ?_)
  · obtain ⟨r, e, hf⟩ := hq; cases e; exact kr r σ' hf
  · obtain ⟨r, e, hf⟩ := hq; cases e
theorem sg_X5_isLimb_5 {L : Nat} {xs : Nat → Int32} {σ : ks_St} {mc ms : Nat} {P : ka_O → ks_St → Prop} {x1 : Int32} {x2 : Int32} {s0 : Int32}  (k2 : (s0 = 0) → ks_W L xs mX5_isLimb rm_X5_isLimb 32 [] [] σ mc ms P) (k4 : (¬ (s0 = 0)) → (x2 < 0) → ks_W L xs mX5_isLimb rm_X5_isLimb 32 [] [] σ mc ms P) (v5 : (¬ (s0 = 0)) → (¬ (x2 < 0)) → vp_in x1 600) (k7 : (¬ (s0 = 0)) → (¬ (x2 < 0)) → ((((sf_ σ 18 x1.toNatClampNeg) + 63) / 64) ≤ x2) → ks_W L xs mX5_isLimb rm_X5_isLimb 32 [] [] σ mc ms P) (k8 : (¬ (s0 = 0)) → (¬ (x2 < 0)) → (¬ ((((sf_ σ 18 x1.toNatClampNeg) + 63) / 64) ≤ x2)) → ks_W L xs mX5_isLimb rm_X5_isLimb 33 [] [.int 1] σ mc ms P) : ks_W L xs mX5_isLimb rm_X5_isLimb 5 [(0, .ref 17), (1, .int x1), (2, .int x2)] [.int s0] σ mc ms P := by
  refine ka_if_eq (tgt := 32) d_X5_isLimb_5 (by decide) rfl (fun c1 => ?_) (fun c1 => ?_)
  · refine ka_sub [] rfl ?_
    exact (k2 c1)
  · refine ka_iload_n d_X5_isLimb_8 rfl rfl 2 rfl ?_
    refine ka_if_lt (tgt := 32) d_X5_isLimb_9 (by decide) rfl (fun c3 => ?_) (fun c3 => ?_)
    · refine ka_sub [] rfl ?_
      exact (k4 c1 c3)
    · refine ka_iload_n d_X5_isLimb_12 rfl rfl 2 rfl ?_
      refine ka_aload_n d_X5_isLimb_13 rfl rfl 0 rfl ?_
      refine gf_X5_3 d_X5_isLimb_14 rfl fl_X5_7 ?_
      refine ka_iload_n d_X5_isLimb_17 rfl rfl 1 rfl ?_
      refine ks_iald row_18 d_X5_isLimb_18 rfl (v5 c1 c3) ?_
      refine ka_bipush (v := 63) d_X5_isLimb_19 rfl (by decide) ?_
      refine ka_iadd d_X5_isLimb_21 rfl ?_
      refine ka_bipush (v := 64) d_X5_isLimb_22 rfl (by decide) ?_
      refine ka_idiv d_X5_isLimb_24 rfl (by decide) ?_
      refine ka_icmp_ge (tgt := 32) d_X5_isLimb_25 (by decide) rfl (fun c6 => ?_) (fun c6 => ?_)
      · refine ka_sub [] rfl ?_
        exact (k7 c1 c3 c6)
      · refine ka_iconst (v := 1) d_X5_isLimb_28 rfl (by decide) ?_
        refine ka_goto (q := 33) d_X5_isLimb_29 (by decide) ?_
        refine ka_sub [] rfl ?_
        exact (k8 c1 c3 c6)
theorem sg_X5_isLimb_32 {L : Nat} {xs : Nat → Int32} {σ : ks_St} {mc ms : Nat} {P : ka_O → ks_St → Prop}   (k1 : ks_W L xs mX5_isLimb rm_X5_isLimb 33 [] [.int 0] σ mc ms P) : ks_W L xs mX5_isLimb rm_X5_isLimb 32 [] [] σ mc ms P := by
  refine ka_iconst (v := 0) d_X5_isLimb_32 rfl (by decide) ?_
  exact k1
theorem sg_X5_isLimb_33 {L : Nat} {xs : Nat → Int32} {σ : ks_St} {mc ms : Nat} {P : ka_O → ks_St → Prop} {s0 : Int32}  (b1 : narrow .boolean (.int s0) = .int s0) (r2 : P (.inl (some (.int s0))) σ) : ks_W L xs mX5_isLimb rm_X5_isLimb 33 [] [.int s0] σ mc ms P := by
  exact ks_iret (ty := .boolean) d_X5_isLimb_33 rfl b1 r2
theorem d_X5_set_0 : decode cX5_set 0 = .ok (.aload_n 0, 1) := by decide +kernel
theorem d_X5_set_1 : decode cX5_set 1 = .ok (.aload_n 0, 1) := by decide +kernel
theorem d_X5_set_2 : decode cX5_set 2 = .ok (.iload_n 1, 1) := by decide +kernel
theorem d_X5_set_3 : decode cX5_set 3 = .ok (.iload_n 2, 1) := by decide +kernel
theorem d_X5_set_4 : decode cX5_set 4 = .ok (.invokevirtual 68, 3) := by decide +kernel
theorem d_X5_set_7 : decode cX5_set 7 = .ok (.ifCond .ne 7, 3) := by decide +kernel
theorem d_X5_set_10 : decode cX5_set 10 = .ok (.iconst 1, 1) := by decide +kernel
theorem d_X5_set_11 : decode cX5_set 11 = .ok (.goto 4, 3) := by decide +kernel
theorem d_X5_set_14 : decode cX5_set 14 = .ok (.iconst 0, 1) := by decide +kernel
theorem d_X5_set_15 : decode cX5_set 15 = .ok (.iconst 0, 1) := by decide +kernel
theorem d_X5_set_16 : decode cX5_set 16 = .ok (.iconst 0, 1) := by decide +kernel
theorem d_X5_set_17 : decode cX5_set 17 = .ok (.iconst 0, 1) := by decide +kernel
theorem d_X5_set_18 : decode cX5_set 18 = .ok (.invokevirtual 56, 3) := by decide +kernel
theorem d_X5_set_21 : decode cX5_set 21 = .ok (.ifCond .eq 5, 3) := by decide +kernel
theorem d_X5_set_24 : decode cX5_set 24 = .ok (.iconst 0, 1) := by decide +kernel
theorem d_X5_set_25 : decode cX5_set 25 = .ok (.ireturn, 1) := by decide +kernel
theorem d_X5_set_26 : decode cX5_set 26 = .ok (.iconst 0, 1) := by decide +kernel
theorem d_X5_set_27 : decode cX5_set 27 = .ok (.istore 5, 2) := by decide +kernel
theorem d_X5_set_29 : decode cX5_set 29 = .ok (.iconst 0, 1) := by decide +kernel
theorem d_X5_set_30 : decode cX5_set 30 = .ok (.istore 6, 2) := by decide +kernel
theorem d_X5_set_32 : decode cX5_set 32 = .ok (.iload 6, 2) := by decide +kernel
theorem d_X5_set_34 : decode cX5_set 34 = .ok (.bipush 64, 2) := by decide +kernel
theorem d_X5_set_36 : decode cX5_set 36 = .ok (.if_icmp .ge 76, 3) := by decide +kernel
theorem d_X5_set_39 : decode cX5_set 39 = .ok (.lload_n 3, 1) := by decide +kernel
theorem d_X5_set_40 : decode cX5_set 40 = .ok (.iload 6, 2) := by decide +kernel
theorem d_X5_set_42 : decode cX5_set 42 = .ok (.lushr, 1) := by decide +kernel
theorem d_X5_set_43 : decode cX5_set 43 = .ok (.lconst 1, 1) := by decide +kernel
theorem d_X5_set_44 : decode cX5_set 44 = .ok (.land, 1) := by decide +kernel
theorem d_X5_set_45 : decode cX5_set 45 = .ok (.l2i, 1) := by decide +kernel
theorem d_X5_set_46 : decode cX5_set 46 = .ok (.istore 7, 2) := by decide +kernel
theorem d_X5_set_48 : decode cX5_set 48 = .ok (.bipush 64, 2) := by decide +kernel
theorem d_X5_set_50 : decode cX5_set 50 = .ok (.iload_n 2, 1) := by decide +kernel
theorem d_X5_set_51 : decode cX5_set 51 = .ok (.imul, 1) := by decide +kernel
theorem d_X5_set_52 : decode cX5_set 52 = .ok (.iload 6, 2) := by decide +kernel
theorem d_X5_set_54 : decode cX5_set 54 = .ok (.iadd, 1) := by decide +kernel
theorem d_X5_set_55 : decode cX5_set 55 = .ok (.aload_n 0, 1) := by decide +kernel
theorem d_X5_set_56 : decode cX5_set 56 = .ok (.getfield 7, 3) := by decide +kernel
theorem d_X5_set_59 : decode cX5_set 59 = .ok (.iload_n 1, 1) := by decide +kernel
theorem d_X5_set_60 : decode cX5_set 60 = .ok (.iaload, 1) := by decide +kernel
theorem d_X5_set_61 : decode cX5_set 61 = .ok (.if_icmp .ge 27, 3) := by decide +kernel
theorem d_X5_set_64 : decode cX5_set 64 = .ok (.aload_n 0, 1) := by decide +kernel
theorem d_X5_set_65 : decode cX5_set 65 = .ok (.getfield 14, 3) := by decide +kernel
theorem d_X5_set_68 : decode cX5_set 68 = .ok (.sipush 512, 3) := by decide +kernel
theorem d_X5_set_71 : decode cX5_set 71 = .ok (.iload_n 1, 1) := by decide +kernel
theorem d_X5_set_72 : decode cX5_set 72 = .ok (.imul, 1) := by decide +kernel
theorem d_X5_set_73 : decode cX5_set 73 = .ok (.bipush 64, 2) := by decide +kernel
theorem d_X5_set_75 : decode cX5_set 75 = .ok (.iload_n 2, 1) := by decide +kernel
theorem d_X5_set_76 : decode cX5_set 76 = .ok (.imul, 1) := by decide +kernel
theorem d_X5_set_77 : decode cX5_set 77 = .ok (.iadd, 1) := by decide +kernel
theorem d_X5_set_78 : decode cX5_set 78 = .ok (.iload 6, 2) := by decide +kernel
theorem d_X5_set_80 : decode cX5_set 80 = .ok (.iadd, 1) := by decide +kernel
theorem d_X5_set_81 : decode cX5_set 81 = .ok (.iload 7, 2) := by decide +kernel
theorem d_X5_set_83 : decode cX5_set 83 = .ok (.i2b, 1) := by decide +kernel
theorem d_X5_set_84 : decode cX5_set 84 = .ok (.bastore, 1) := by decide +kernel
theorem d_X5_set_85 : decode cX5_set 85 = .ok (.goto 21, 3) := by decide +kernel
theorem d_X5_set_88 : decode cX5_set 88 = .ok (.iload 5, 2) := by decide +kernel
theorem d_X5_set_90 : decode cX5_set 90 = .ok (.ifCond .ne 9, 3) := by decide +kernel
theorem d_X5_set_93 : decode cX5_set 93 = .ok (.iload 7, 2) := by decide +kernel
theorem d_X5_set_95 : decode cX5_set 95 = .ok (.iconst 1, 1) := by decide +kernel
theorem d_X5_set_96 : decode cX5_set 96 = .ok (.if_icmp .ne 7, 3) := by decide +kernel
theorem d_X5_set_99 : decode cX5_set 99 = .ok (.iconst 1, 1) := by decide +kernel
theorem d_X5_set_100 : decode cX5_set 100 = .ok (.goto 4, 3) := by decide +kernel
theorem d_X5_set_103 : decode cX5_set 103 = .ok (.iconst 0, 1) := by decide +kernel
theorem d_X5_set_104 : decode cX5_set 104 = .ok (.istore 5, 2) := by decide +kernel
theorem d_X5_set_106 : decode cX5_set 106 = .ok (.iinc 6 1, 3) := by decide +kernel
theorem d_X5_set_109 : decode cX5_set 109 = .ok (.goto (-77), 3) := by decide +kernel
theorem d_X5_set_112 : decode cX5_set 112 = .ok (.iload 5, 2) := by decide +kernel
theorem d_X5_set_114 : decode cX5_set 114 = .ok (.ireturn, 1) := by decide +kernel
theorem sg_X5_set_0 {L : Nat} {xs : Nat → Int32} {σ : ks_St} {mc ms : Nat} {P : ka_O → ks_St → Prop} {x1 : Int32} {x2 : Int32} {x3 : Int64}  (k1 : ks_W L xs mX5_set rm_X5_set 4 [(0, .ref 17), (1, .int x1), (2, .int x2), (3, .long x3)] [.int x2, .int x1, .ref 17, .ref 17] σ mc ms P) : ks_W L xs mX5_set rm_X5_set 0 [(0, .ref 17), (1, .int x1), (2, .int x2), (3, .long x3)] [] σ mc ms P := by
  refine ka_aload_n d_X5_set_0 rfl rfl 0 rfl ?_
  refine ka_aload_n d_X5_set_1 rfl rfl 0 rfl ?_
  refine ka_iload_n d_X5_set_2 rfl rfl 1 rfl ?_
  refine ka_iload_n d_X5_set_3 rfl rfl 2 rfl ?_
  exact k1
theorem cs_X5_set_4 {L : Nat} {xs : Nat → Int32} {σ : ks_St} {mc ms : Nat} {P : ka_O → ks_St → Prop} {f : Int32 → ks_St → Prop} {x1 : Int32} {x2 : Int32} {x3 : Int64} {s2 : Int32} {s3 : Int32} (hK : ks_M L xs mX5_isLimb rm_X5_isLimb [.ref 17, .int s2, .int s3] σ (pi_ f)) (kr : ∀ r σ', f r σ' → ks_W L xs mX5_set rm_X5_set 7 [(0, .ref 17), (1, .int x1), (2, .int x2), (3, .long x3)] [.int r, .ref 17] σ' mc ms P) : ks_W L xs mX5_set rm_X5_set 4 [(0, .ref 17), (1, .int x1), (2, .int x2), (3, .long x3)] [.int s3, .int s2, .ref 17, .ref 17] σ mc ms P := by
  refine ks_callV (q := 7) (o := 17) (ci := 5) (As := [.int s2, .int s3]) (st := [.ref 17]) d_X5_set_4 rfl rfl (by decide) rfl rfl lk_X5_68 ⟨by decide, by decide⟩ (Nat.le_of_ble_eq_true rfl) ⟨Nat.le_refl _, Nat.le_refl _⟩ hK (fun v σ' hq => ?_) (fun E σ' hq => ?_)
  · obtain ⟨r, e, hf⟩ := hq; cases e; exact kr r σ' hf
  · obtain ⟨r, e, hf⟩ := hq; cases e
theorem sg_X5_set_7 {L : Nat} {xs : Nat → Int32} {σ : ks_St} {mc ms : Nat} {P : ka_O → ks_St → Prop} {x1 : Int32} {x2 : Int32} {x3 : Int64} {s1 : Int32}  (k2 : (¬ s1 = 0) → ks_W L xs mX5_set rm_X5_set 15 [(0, .ref 17), (1, .int x1), (2, .int x2), (3, .long x3)] [.int 0, .ref 17] σ mc ms P) (k3 : (s1 = 0) → ks_W L xs mX5_set rm_X5_set 15 [(0, .ref 17), (1, .int x1), (2, .int x2), (3, .long x3)] [.int 1, .ref 17] σ mc ms P) : ks_W L xs mX5_set rm_X5_set 7 [(0, .ref 17), (1, .int x1), (2, .int x2), (3, .long x3)] [.int s1, .ref 17] σ mc ms P := by
  refine ka_if_ne (tgt := 14) d_X5_set_7 (by decide) rfl (fun c1 => ?_) (fun c1 => ?_)
  · refine ka_iconst (v := 0) d_X5_set_14 rfl (by decide) ?_
    exact (k2 c1)
  · refine ka_iconst (v := 1) d_X5_set_10 rfl (by decide) ?_
    refine ka_goto (q := 15) d_X5_set_11 (by decide) ?_
    exact (k3 c1)
theorem sg_X5_set_15 {L : Nat} {xs : Nat → Int32} {σ : ks_St} {mc ms : Nat} {P : ka_O → ks_St → Prop} {x1 : Int32} {x2 : Int32} {x3 : Int64} {s1 : Int32}  (k1 : ks_W L xs mX5_set rm_X5_set 18 [(0, .ref 17), (1, .int x1), (2, .int x2), (3, .long x3)] [.int 0, .int 0, .int 0, .int s1, .ref 17] σ mc ms P) : ks_W L xs mX5_set rm_X5_set 15 [(0, .ref 17), (1, .int x1), (2, .int x2), (3, .long x3)] [.int s1, .ref 17] σ mc ms P := by
  refine ka_iconst (v := 0) d_X5_set_15 rfl (by decide) ?_
  refine ka_iconst (v := 0) d_X5_set_16 rfl (by decide) ?_
  refine ka_iconst (v := 0) d_X5_set_17 rfl (by decide) ?_
  exact k1
theorem cs_X5_set_18 {L : Nat} {xs : Nat → Int32} {σ : ks_St} {mc ms : Nat} {P : ka_O → ks_St → Prop} {f : Int32 → ks_St → Prop} {x1 : Int32} {x2 : Int32} {x3 : Int64} {s1 : Int32} {s2 : Int32} {s3 : Int32} {s4 : Int32} (hK : ks_M L xs mX5_throwing rm_X5_throwing [.ref 17, .int s1, .int s2, .int s3, .int s4] σ (pi_ f)) (kr : ∀ r σ', f r σ' → ks_W L xs mX5_set rm_X5_set 21 [(0, .ref 17), (1, .int x1), (2, .int x2), (3, .long x3)] [.int r] σ' mc ms P) : ks_W L xs mX5_set rm_X5_set 18 [(0, .ref 17), (1, .int x1), (2, .int x2), (3, .long x3)] [.int s4, .int s3, .int s2, .int s1, .ref 17] σ mc ms P := by
  refine ks_callV (q := 21) (o := 17) (ci := 5) (As := [.int s1, .int s2, .int s3, .int s4]) (st := []) d_X5_set_18 rfl rfl (by decide) rfl rfl lk_X5_56 ⟨by decide, by decide⟩ (Nat.le_of_ble_eq_true rfl) ⟨Nat.le_refl _, Nat.le_refl _⟩ hK (fun v σ' hq => ?_) (fun E σ' hq => ?_)
  · obtain ⟨r, e, hf⟩ := hq; cases e; exact kr r σ' hf
  · obtain ⟨r, e, hf⟩ := hq; cases e
theorem sg_X5_set_21 {L : Nat} {xs : Nat → Int32} {σ : ks_St} {mc ms : Nat} {P : ka_O → ks_St → Prop} {x1 : Int32} {x2 : Int32} {x3 : Int64} {s0 : Int32}  (k2 : (s0 = 0) → ks_W L xs mX5_set rm_X5_set 32 [(0, .ref 17), (1, .int x1), (2, .int x2), (3, .long x3), (5, .int 0), (6, .int 0)] [] σ mc ms P) (r3 : (¬ (s0 = 0)) → P (.inl (some (.int 0))) σ) : ks_W L xs mX5_set rm_X5_set 21 [(0, .ref 17), (1, .int x1), (2, .int x2), (3, .long x3)] [.int s0] σ mc ms P := by
  refine ka_if_eq (tgt := 26) d_X5_set_21 (by decide) rfl (fun c1 => ?_) (fun c1 => ?_)
  · refine ka_iconst (v := 0) d_X5_set_26 rfl (by decide) ?_
    refine ka_istore (ls' := [(5, .int 0), (0, .ref 17), (1, .int x1), (2, .int x2), (3, .long x3)]) d_X5_set_27 rfl (by decide) rfl ?_
    refine ka_iconst (v := 0) d_X5_set_29 rfl (by decide) ?_
    refine ka_istore (ls' := [(6, .int 0), (5, .int 0), (0, .ref 17), (1, .int x1), (2, .int x2), (3, .long x3)]) d_X5_set_30 rfl (by decide) rfl ?_
    refine ka_sub [2, 3, 4, 5, 1, 0] rfl ?_
    exact (k2 c1)
  · refine ka_iconst (v := 0) d_X5_set_24 rfl (by decide) ?_
    exact ks_iret (ty := .boolean) d_X5_set_25 rfl rfl (r3 c1)
theorem sg_X5_set_32 {L : Nat} {xs : Nat → Int32} {σ : ks_St} {mc ms : Nat} {P : ka_O → ks_St → Prop} {x1 : Int32} {x2 : Int32} {x3 : Int64} {x5 : Int32} {x6 : Int32}  (b2 : (64 ≤ x6) → narrow .boolean (.int x5) = .int x5) (r3 : (64 ≤ x6) → P (.inl (some (.int x5))) σ) (v4 : (¬ (64 ≤ x6)) → vp_in x1 600) (k7 : (¬ (64 ≤ x6)) → ((sf_ σ 18 x1.toNatClampNeg) ≤ ((64 * x2) + x6)) → (¬ x5 = 0) → ks_W L xs mX5_set rm_X5_set 99 [(0, .ref 17), (1, .int x1), (2, .int x2), (3, .long x3), (6, .int x6)] [] σ mc ms P) (k9 : (¬ (64 ≤ x6)) → ((sf_ σ 18 x1.toNatClampNeg) ≤ ((64 * x2) + x6)) → (x5 = 0) → (¬ (((((x3).toUInt64 >>> ((x6).toInt64.toUInt64 &&& Int64.toUInt64 63)).toInt64) &&& 1).toInt32) = 1) → ks_W L xs mX5_set rm_X5_set 104 [(0, .ref 17), (1, .int x1), (2, .int x2), (3, .long x3), (6, .int x6)] [.int 0] σ mc ms P) (k10 : (¬ (64 ≤ x6)) → ((sf_ σ 18 x1.toNatClampNeg) ≤ ((64 * x2) + x6)) → (x5 = 0) → ((((((x3).toUInt64 >>> ((x6).toInt64.toUInt64 &&& Int64.toUInt64 63)).toInt64) &&& 1).toInt32) = 1) → ks_W L xs mX5_set rm_X5_set 99 [(0, .ref 17), (1, .int x1), (2, .int x2), (3, .long x3), (6, .int x6)] [] σ mc ms P) (v11 : (¬ (64 ≤ x6)) → (¬ ((sf_ σ 18 x1.toNatClampNeg) ≤ ((64 * x2) + x6))) → vp_in (((512 * x1) + (64 * x2)) + x6) 307200) (k12 : (¬ (64 ≤ x6)) → (¬ ((sf_ σ 18 x1.toNatClampNeg) ≤ ((64 * x2) + x6))) → ks_W L xs mX5_set rm_X5_set 106 [(0, .ref 17), (1, .int x1), (2, .int x2), (3, .long x3), (5, .int x5), (6, .int x6)] [] (uf_ σ 19 (upd (sf_ σ 19) (((512 * x1) + (64 * x2)) + x6).toNatClampNeg (vp_nar .byte ((((((x3).toUInt64 >>> ((x6).toInt64.toUInt64 &&& Int64.toUInt64 63)).toInt64) &&& 1).toInt32).toInt8.toInt32)))) mc ms P) : ks_W L xs mX5_set rm_X5_set 32 [(0, .ref 17), (1, .int x1), (2, .int x2), (3, .long x3), (5, .int x5), (6, .int x6)] [] σ mc ms P := by
  refine ka_iload d_X5_set_32 rfl 5 rfl ?_
  refine ka_bipush (v := 64) d_X5_set_34 rfl (by decide) ?_
  refine ka_icmp_ge (tgt := 112) d_X5_set_36 (by decide) rfl (fun c1 => ?_) (fun c1 => ?_)
  · refine ka_iload d_X5_set_112 rfl 4 rfl ?_
    exact ks_iret (ty := .boolean) d_X5_set_114 rfl (b2 c1) (r3 c1)
  · refine ka_lload_n d_X5_set_39 rfl rfl 3 rfl ?_
    refine ka_iload d_X5_set_40 rfl 5 rfl ?_
    refine ka_lushr d_X5_set_42 rfl ?_
    refine ka_lconst (v := 1) d_X5_set_43 rfl (by decide) ?_
    refine ka_land d_X5_set_44 rfl ?_
    refine ka_l2i d_X5_set_45 rfl ?_
    refine ka_istore (ls' := [(7, .int (((((x3).toUInt64 >>> ((x6).toInt64.toUInt64 &&& Int64.toUInt64 63)).toInt64) &&& 1).toInt32)), (0, .ref 17), (1, .int x1), (2, .int x2), (3, .long x3), (5, .int x5), (6, .int x6)]) d_X5_set_46 rfl (by decide) rfl ?_
    refine ka_bipush (v := 64) d_X5_set_48 rfl (by decide) ?_
    refine ka_iload_n d_X5_set_50 rfl rfl 3 rfl ?_
    refine ka_imul d_X5_set_51 rfl ?_
    refine ka_iload d_X5_set_52 rfl 6 rfl ?_
    refine ka_iadd d_X5_set_54 rfl ?_
    refine ka_aload_n d_X5_set_55 rfl rfl 1 rfl ?_
    refine gf_X5_3 d_X5_set_56 rfl fl_X5_7 ?_
    refine ka_iload_n d_X5_set_59 rfl rfl 2 rfl ?_
    refine ks_iald row_18 d_X5_set_60 rfl (v4 c1) ?_
    refine ka_icmp_ge (tgt := 88) d_X5_set_61 (by decide) rfl (fun c5 => ?_) (fun c5 => ?_)
    · refine ka_iload d_X5_set_88 rfl 5 rfl ?_
      refine ka_if_ne (tgt := 99) d_X5_set_90 (by decide) rfl (fun c6 => ?_) (fun c6 => ?_)
      · refine ka_sub [1, 2, 3, 4, 6] rfl ?_
        exact (k7 c1 c5 c6)
      · refine ka_iload d_X5_set_93 rfl 0 rfl ?_
        refine ka_iconst (v := 1) d_X5_set_95 rfl (by decide) ?_
        refine ka_icmp_ne (tgt := 103) d_X5_set_96 (by decide) rfl (fun c8 => ?_) (fun c8 => ?_)
        · refine ka_iconst (v := 0) d_X5_set_103 rfl (by decide) ?_
          refine ka_sub [1, 2, 3, 4, 6] rfl ?_
          exact (k9 c1 c5 c6 c8)
        · refine ka_sub [1, 2, 3, 4, 6] rfl ?_
          exact (k10 c1 c5 c6 c8)
    · refine ka_aload_n d_X5_set_64 rfl rfl 1 rfl ?_
      refine gf_X5_4 d_X5_set_65 rfl fl_X5_14 ?_
      refine ka_sipush (v := 512) d_X5_set_68 rfl (by decide) ?_
      refine ka_iload_n d_X5_set_71 rfl rfl 2 rfl ?_
      refine ka_imul d_X5_set_72 rfl ?_
      refine ka_bipush (v := 64) d_X5_set_73 rfl (by decide) ?_
      refine ka_iload_n d_X5_set_75 rfl rfl 3 rfl ?_
      refine ka_imul d_X5_set_76 rfl ?_
      refine ka_iadd d_X5_set_77 rfl ?_
      refine ka_iload d_X5_set_78 rfl 6 rfl ?_
      refine ka_iadd d_X5_set_80 rfl ?_
      refine ka_iload d_X5_set_81 rfl 0 rfl ?_
      refine ka_i2b d_X5_set_83 rfl ?_
      refine ks_bast row_19 d_X5_set_84 rfl (v11 c1 c5) ?_
      refine ka_goto (q := 106) d_X5_set_85 (by decide) ?_
      refine ka_sub [1, 2, 3, 4, 5, 6] rfl ?_
      exact (k12 c1 c5)
theorem sg_X5_set_99 {L : Nat} {xs : Nat → Int32} {σ : ks_St} {mc ms : Nat} {P : ka_O → ks_St → Prop} {x1 : Int32} {x2 : Int32} {x3 : Int64} {x6 : Int32}  (k1 : ks_W L xs mX5_set rm_X5_set 104 [(0, .ref 17), (1, .int x1), (2, .int x2), (3, .long x3), (6, .int x6)] [.int 1] σ mc ms P) : ks_W L xs mX5_set rm_X5_set 99 [(0, .ref 17), (1, .int x1), (2, .int x2), (3, .long x3), (6, .int x6)] [] σ mc ms P := by
  refine ka_iconst (v := 1) d_X5_set_99 rfl (by decide) ?_
  refine ka_goto (q := 104) d_X5_set_100 (by decide) ?_
  exact k1
theorem sg_X5_set_104 {L : Nat} {xs : Nat → Int32} {σ : ks_St} {mc ms : Nat} {P : ka_O → ks_St → Prop} {x1 : Int32} {x2 : Int32} {x3 : Int64} {x6 : Int32} {s0 : Int32}  (k1 : ks_W L xs mX5_set rm_X5_set 106 [(0, .ref 17), (1, .int x1), (2, .int x2), (3, .long x3), (5, .int s0), (6, .int x6)] [] σ mc ms P) : ks_W L xs mX5_set rm_X5_set 104 [(0, .ref 17), (1, .int x1), (2, .int x2), (3, .long x3), (6, .int x6)] [.int s0] σ mc ms P := by
  refine ka_istore (ls' := [(5, .int s0), (0, .ref 17), (1, .int x1), (2, .int x2), (3, .long x3), (6, .int x6)]) d_X5_set_104 rfl (by decide) rfl ?_
  refine ka_sub [1, 2, 3, 4, 0, 5] rfl ?_
  exact k1
theorem sg_X5_set_106 {L : Nat} {xs : Nat → Int32} {σ : ks_St} {mc ms : Nat} {P : ka_O → ks_St → Prop} {x1 : Int32} {x2 : Int32} {x3 : Int64} {x5 : Int32} {x6 : Int32}  (k1 : ks_W L xs mX5_set rm_X5_set 32 [(0, .ref 17), (1, .int x1), (2, .int x2), (3, .long x3), (5, .int x5), (6, .int (x6 + 1))] [] σ mc ms P) : ks_W L xs mX5_set rm_X5_set 106 [(0, .ref 17), (1, .int x1), (2, .int x2), (3, .long x3), (5, .int x5), (6, .int x6)] [] σ mc ms P := by
  refine ka_iinc (g := 5) (v := x6 + 1) (ls' := [(6, .int (x6 + 1)), (0, .ref 17), (1, .int x1), (2, .int x2), (3, .long x3), (5, .int x5)]) d_X5_set_106 rfl rfl rfl (by decide) rfl ?_
  refine ka_goto (q := 32) d_X5_set_109 (by decide) ?_
  refine ka_sub [1, 2, 3, 4, 5, 0] rfl ?_
  exact k1
theorem d_X5_limb_0 : decode cX5_limb 0 = .ok (.aload_n 0, 1) := by decide +kernel
theorem d_X5_limb_1 : decode cX5_limb 1 = .ok (.aload_n 0, 1) := by decide +kernel
theorem d_X5_limb_2 : decode cX5_limb 2 = .ok (.iload_n 1, 1) := by decide +kernel
theorem d_X5_limb_3 : decode cX5_limb 3 = .ok (.iload_n 2, 1) := by decide +kernel
theorem d_X5_limb_4 : decode cX5_limb 4 = .ok (.invokevirtual 68, 3) := by decide +kernel
theorem d_X5_limb_7 : decode cX5_limb 7 = .ok (.ifCond .ne 7, 3) := by decide +kernel
theorem d_X5_limb_10 : decode cX5_limb 10 = .ok (.iconst 1, 1) := by decide +kernel
theorem d_X5_limb_11 : decode cX5_limb 11 = .ok (.goto 4, 3) := by decide +kernel
theorem d_X5_limb_14 : decode cX5_limb 14 = .ok (.iconst 0, 1) := by decide +kernel
theorem d_X5_limb_15 : decode cX5_limb 15 = .ok (.iconst 0, 1) := by decide +kernel
theorem d_X5_limb_16 : decode cX5_limb 16 = .ok (.iconst 0, 1) := by decide +kernel
theorem d_X5_limb_17 : decode cX5_limb 17 = .ok (.iconst 0, 1) := by decide +kernel
theorem d_X5_limb_18 : decode cX5_limb 18 = .ok (.invokevirtual 56, 3) := by decide +kernel
theorem d_X5_limb_21 : decode cX5_limb 21 = .ok (.ifCond .eq 5, 3) := by decide +kernel
theorem d_X5_limb_24 : decode cX5_limb 24 = .ok (.lconst 0, 1) := by decide +kernel
theorem d_X5_limb_25 : decode cX5_limb 25 = .ok (.lreturn, 1) := by decide +kernel
theorem d_X5_limb_26 : decode cX5_limb 26 = .ok (.lconst 0, 1) := by decide +kernel
theorem d_X5_limb_27 : decode cX5_limb 27 = .ok (.lstore_n 3, 1) := by decide +kernel
theorem d_X5_limb_28 : decode cX5_limb 28 = .ok (.iconst 0, 1) := by decide +kernel
theorem d_X5_limb_29 : decode cX5_limb 29 = .ok (.istore 5, 2) := by decide +kernel
theorem d_X5_limb_31 : decode cX5_limb 31 = .ok (.iload 5, 2) := by decide +kernel
theorem d_X5_limb_33 : decode cX5_limb 33 = .ok (.bipush 64, 2) := by decide +kernel
theorem d_X5_limb_35 : decode cX5_limb 35 = .ok (.if_icmp .ge 44, 3) := by decide +kernel
theorem d_X5_limb_38 : decode cX5_limb 38 = .ok (.bipush 64, 2) := by decide +kernel
theorem d_X5_limb_40 : decode cX5_limb 40 = .ok (.iload_n 2, 1) := by decide +kernel
theorem d_X5_limb_41 : decode cX5_limb 41 = .ok (.imul, 1) := by decide +kernel
theorem d_X5_limb_42 : decode cX5_limb 42 = .ok (.iload 5, 2) := by decide +kernel
theorem d_X5_limb_44 : decode cX5_limb 44 = .ok (.iadd, 1) := by decide +kernel
theorem d_X5_limb_45 : decode cX5_limb 45 = .ok (.aload_n 0, 1) := by decide +kernel
theorem d_X5_limb_46 : decode cX5_limb 46 = .ok (.getfield 7, 3) := by decide +kernel
theorem d_X5_limb_49 : decode cX5_limb 49 = .ok (.iload_n 1, 1) := by decide +kernel
theorem d_X5_limb_50 : decode cX5_limb 50 = .ok (.iaload, 1) := by decide +kernel
theorem d_X5_limb_51 : decode cX5_limb 51 = .ok (.if_icmp .ge 22, 3) := by decide +kernel
theorem d_X5_limb_54 : decode cX5_limb 54 = .ok (.lload_n 3, 1) := by decide +kernel
theorem d_X5_limb_55 : decode cX5_limb 55 = .ok (.aload_n 0, 1) := by decide +kernel
theorem d_X5_limb_56 : decode cX5_limb 56 = .ok (.iload_n 1, 1) := by decide +kernel
theorem d_X5_limb_57 : decode cX5_limb 57 = .ok (.bipush 64, 2) := by decide +kernel
theorem d_X5_limb_59 : decode cX5_limb 59 = .ok (.iload_n 2, 1) := by decide +kernel
theorem d_X5_limb_60 : decode cX5_limb 60 = .ok (.imul, 1) := by decide +kernel
theorem d_X5_limb_61 : decode cX5_limb 61 = .ok (.iload 5, 2) := by decide +kernel
theorem d_X5_limb_63 : decode cX5_limb 63 = .ok (.iadd, 1) := by decide +kernel
theorem d_X5_limb_64 : decode cX5_limb 64 = .ok (.invokevirtual 72, 3) := by decide +kernel
theorem d_X5_limb_67 : decode cX5_limb 67 = .ok (.i2l, 1) := by decide +kernel
theorem d_X5_limb_68 : decode cX5_limb 68 = .ok (.iload 5, 2) := by decide +kernel
theorem d_X5_limb_70 : decode cX5_limb 70 = .ok (.lshl, 1) := by decide +kernel
theorem d_X5_limb_71 : decode cX5_limb 71 = .ok (.lor, 1) := by decide +kernel
theorem d_X5_limb_72 : decode cX5_limb 72 = .ok (.lstore_n 3, 1) := by decide +kernel
theorem d_X5_limb_73 : decode cX5_limb 73 = .ok (.iinc 5 1, 3) := by decide +kernel
theorem d_X5_limb_76 : decode cX5_limb 76 = .ok (.goto (-45), 3) := by decide +kernel
theorem d_X5_limb_79 : decode cX5_limb 79 = .ok (.lload_n 3, 1) := by decide +kernel
theorem d_X5_limb_80 : decode cX5_limb 80 = .ok (.lreturn, 1) := by decide +kernel
theorem sg_X5_limb_0 {L : Nat} {xs : Nat → Int32} {σ : ks_St} {mc ms : Nat} {P : ka_O → ks_St → Prop} {x1 : Int32} {x2 : Int32}  (k1 : ks_W L xs mX5_limb rm_X5_limb 4 [(0, .ref 17), (1, .int x1), (2, .int x2)] [.int x2, .int x1, .ref 17, .ref 17] σ mc ms P) : ks_W L xs mX5_limb rm_X5_limb 0 [(0, .ref 17), (1, .int x1), (2, .int x2)] [] σ mc ms P := by
  refine ka_aload_n d_X5_limb_0 rfl rfl 0 rfl ?_
  refine ka_aload_n d_X5_limb_1 rfl rfl 0 rfl ?_
  refine ka_iload_n d_X5_limb_2 rfl rfl 1 rfl ?_
  refine ka_iload_n d_X5_limb_3 rfl rfl 2 rfl ?_
  exact k1
theorem cs_X5_limb_4 {L : Nat} {xs : Nat → Int32} {σ : ks_St} {mc ms : Nat} {P : ka_O → ks_St → Prop} {f : Int32 → ks_St → Prop} {x1 : Int32} {x2 : Int32} {s2 : Int32} {s3 : Int32} (hK : ks_M L xs mX5_isLimb rm_X5_isLimb [.ref 17, .int s2, .int s3] σ (pi_ f)) (kr : ∀ r σ', f r σ' → ks_W L xs mX5_limb rm_X5_limb 7 [(0, .ref 17), (1, .int x1), (2, .int x2)] [.int r, .ref 17] σ' mc ms P) : ks_W L xs mX5_limb rm_X5_limb 4 [(0, .ref 17), (1, .int x1), (2, .int x2)] [.int s3, .int s2, .ref 17, .ref 17] σ mc ms P := by
  refine ks_callV (q := 7) (o := 17) (ci := 5) (As := [.int s2, .int s3]) (st := [.ref 17]) d_X5_limb_4 rfl rfl (by decide) rfl rfl lk_X5_68 ⟨by decide, by decide⟩ (Nat.le_of_ble_eq_true rfl) ⟨Nat.le_refl _, Nat.le_refl _⟩ hK (fun v σ' hq => ?_) (fun E σ' hq => ?_)
  · obtain ⟨r, e, hf⟩ := hq; cases e; exact kr r σ' hf
  · obtain ⟨r, e, hf⟩ := hq; cases e
theorem sg_X5_limb_7 {L : Nat} {xs : Nat → Int32} {σ : ks_St} {mc ms : Nat} {P : ka_O → ks_St → Prop} {x1 : Int32} {x2 : Int32} {s1 : Int32}  (k2 : (¬ s1 = 0) → ks_W L xs mX5_limb rm_X5_limb 15 [(0, .ref 17), (1, .int x1), (2, .int x2)] [.int 0, .ref 17] σ mc ms P) (k3 : (s1 = 0) → ks_W L xs mX5_limb rm_X5_limb 15 [(0, .ref 17), (1, .int x1), (2, .int x2)] [.int 1, .ref 17] σ mc ms P) : ks_W L xs mX5_limb rm_X5_limb 7 [(0, .ref 17), (1, .int x1), (2, .int x2)] [.int s1, .ref 17] σ mc ms P := by
  refine ka_if_ne (tgt := 14) d_X5_limb_7 (by decide) rfl (fun c1 => ?_) (fun c1 => ?_)
  · refine ka_iconst (v := 0) d_X5_limb_14 rfl (by decide) ?_
    exact (k2 c1)
  · refine ka_iconst (v := 1) d_X5_limb_10 rfl (by decide) ?_
    refine ka_goto (q := 15) d_X5_limb_11 (by decide) ?_
    exact (k3 c1)
theorem sg_X5_limb_15 {L : Nat} {xs : Nat → Int32} {σ : ks_St} {mc ms : Nat} {P : ka_O → ks_St → Prop} {x1 : Int32} {x2 : Int32} {s1 : Int32}  (k1 : ks_W L xs mX5_limb rm_X5_limb 18 [(0, .ref 17), (1, .int x1), (2, .int x2)] [.int 0, .int 0, .int 0, .int s1, .ref 17] σ mc ms P) : ks_W L xs mX5_limb rm_X5_limb 15 [(0, .ref 17), (1, .int x1), (2, .int x2)] [.int s1, .ref 17] σ mc ms P := by
  refine ka_iconst (v := 0) d_X5_limb_15 rfl (by decide) ?_
  refine ka_iconst (v := 0) d_X5_limb_16 rfl (by decide) ?_
  refine ka_iconst (v := 0) d_X5_limb_17 rfl (by decide) ?_
  exact k1
theorem cs_X5_limb_18 {L : Nat} {xs : Nat → Int32} {σ : ks_St} {mc ms : Nat} {P : ka_O → ks_St → Prop} {f : Int32 → ks_St → Prop} {x1 : Int32} {x2 : Int32} {s1 : Int32} {s2 : Int32} {s3 : Int32} {s4 : Int32} (hK : ks_M L xs mX5_throwing rm_X5_throwing [.ref 17, .int s1, .int s2, .int s3, .int s4] σ (pi_ f)) (kr : ∀ r σ', f r σ' → ks_W L xs mX5_limb rm_X5_limb 21 [(0, .ref 17), (1, .int x1), (2, .int x2)] [.int r] σ' mc ms P) : ks_W L xs mX5_limb rm_X5_limb 18 [(0, .ref 17), (1, .int x1), (2, .int x2)] [.int s4, .int s3, .int s2, .int s1, .ref 17] σ mc ms P := by
  refine ks_callV (q := 21) (o := 17) (ci := 5) (As := [.int s1, .int s2, .int s3, .int s4]) (st := []) d_X5_limb_18 rfl rfl (by decide) rfl rfl lk_X5_56 ⟨by decide, by decide⟩ (Nat.le_of_ble_eq_true rfl) ⟨Nat.le_refl _, Nat.le_refl _⟩ hK (fun v σ' hq => ?_) (fun E σ' hq => ?_)
  · obtain ⟨r, e, hf⟩ := hq; cases e; exact kr r σ' hf
  · obtain ⟨r, e, hf⟩ := hq; cases e
theorem sg_X5_limb_21 {L : Nat} {xs : Nat → Int32} {σ : ks_St} {mc ms : Nat} {P : ka_O → ks_St → Prop} {x1 : Int32} {x2 : Int32} {s0 : Int32}  (k2 : (s0 = 0) → ks_W L xs mX5_limb rm_X5_limb 31 [(0, .ref 17), (1, .int x1), (2, .int x2), (3, .long 0), (5, .int 0)] [] σ mc ms P) (r3 : (¬ (s0 = 0)) → P (.inl (some (.long 0))) σ) : ks_W L xs mX5_limb rm_X5_limb 21 [(0, .ref 17), (1, .int x1), (2, .int x2)] [.int s0] σ mc ms P := by
  refine ka_if_eq (tgt := 26) d_X5_limb_21 (by decide) rfl (fun c1 => ?_) (fun c1 => ?_)
  · refine ka_lconst (v := 0) d_X5_limb_26 rfl (by decide) ?_
    refine ka_lstore_n (ls' := [(3, .long 0), (0, .ref 17), (1, .int x1), (2, .int x2)]) d_X5_limb_27 rfl rfl (by decide) rfl ?_
    refine ka_iconst (v := 0) d_X5_limb_28 rfl (by decide) ?_
    refine ka_istore (ls' := [(5, .int 0), (3, .long 0), (0, .ref 17), (1, .int x1), (2, .int x2)]) d_X5_limb_29 rfl (by decide) rfl ?_
    refine ka_sub [2, 3, 4, 1, 0] rfl ?_
    exact (k2 c1)
  · refine ka_lconst (v := 0) d_X5_limb_24 rfl (by decide) ?_
    exact ks_lret d_X5_limb_25 rfl (r3 c1)
theorem sg_X5_limb_31 {L : Nat} {xs : Nat → Int32} {σ : ks_St} {mc ms : Nat} {P : ka_O → ks_St → Prop} {x1 : Int32} {x2 : Int32} {x3 : Int64} {x5 : Int32}  (r2 : (64 ≤ x5) → P (.inl (some (.long x3))) σ) (v3 : (¬ (64 ≤ x5)) → vp_in x1 600) (k5 : (¬ (64 ≤ x5)) → ((sf_ σ 18 x1.toNatClampNeg) ≤ ((64 * x2) + x5)) → ks_W L xs mX5_limb rm_X5_limb 73 [(0, .ref 17), (1, .int x1), (2, .int x2), (3, .long x3), (5, .int x5)] [] σ mc ms P) (k6 : (¬ (64 ≤ x5)) → (¬ ((sf_ σ 18 x1.toNatClampNeg) ≤ ((64 * x2) + x5))) → ks_W L xs mX5_limb rm_X5_limb 64 [(0, .ref 17), (1, .int x1), (2, .int x2), (5, .int x5)] [.int ((64 * x2) + x5), .int x1, .ref 17, .long x3] σ mc ms P) : ks_W L xs mX5_limb rm_X5_limb 31 [(0, .ref 17), (1, .int x1), (2, .int x2), (3, .long x3), (5, .int x5)] [] σ mc ms P := by
  refine ka_iload d_X5_limb_31 rfl 4 rfl ?_
  refine ka_bipush (v := 64) d_X5_limb_33 rfl (by decide) ?_
  refine ka_icmp_ge (tgt := 79) d_X5_limb_35 (by decide) rfl (fun c1 => ?_) (fun c1 => ?_)
  · refine ka_lload_n d_X5_limb_79 rfl rfl 3 rfl ?_
    exact ks_lret d_X5_limb_80 rfl (r2 c1)
  · refine ka_bipush (v := 64) d_X5_limb_38 rfl (by decide) ?_
    refine ka_iload_n d_X5_limb_40 rfl rfl 2 rfl ?_
    refine ka_imul d_X5_limb_41 rfl ?_
    refine ka_iload d_X5_limb_42 rfl 4 rfl ?_
    refine ka_iadd d_X5_limb_44 rfl ?_
    refine ka_aload_n d_X5_limb_45 rfl rfl 0 rfl ?_
    refine gf_X5_3 d_X5_limb_46 rfl fl_X5_7 ?_
    refine ka_iload_n d_X5_limb_49 rfl rfl 1 rfl ?_
    refine ks_iald row_18 d_X5_limb_50 rfl (v3 c1) ?_
    refine ka_icmp_ge (tgt := 73) d_X5_limb_51 (by decide) rfl (fun c4 => ?_) (fun c4 => ?_)
    · exact (k5 c1 c4)
    · refine ka_lload_n d_X5_limb_54 rfl rfl 3 rfl ?_
      refine ka_aload_n d_X5_limb_55 rfl rfl 0 rfl ?_
      refine ka_iload_n d_X5_limb_56 rfl rfl 1 rfl ?_
      refine ka_bipush (v := 64) d_X5_limb_57 rfl (by decide) ?_
      refine ka_iload_n d_X5_limb_59 rfl rfl 2 rfl ?_
      refine ka_imul d_X5_limb_60 rfl ?_
      refine ka_iload d_X5_limb_61 rfl 4 rfl ?_
      refine ka_iadd d_X5_limb_63 rfl ?_
      refine ka_sub [0, 1, 2, 4] rfl ?_
      exact (k6 c1 c4)
theorem cs_X5_limb_64 {L : Nat} {xs : Nat → Int32} {σ : ks_St} {mc ms : Nat} {P : ka_O → ks_St → Prop} {f : Int32 → ks_St → Prop} {x1 : Int32} {x2 : Int32} {x5 : Int32} {s0 : Int64} {s2 : Int32} {s3 : Int32} (hK : ks_M L xs mX5_bitOf rm_X5_bitOf [.ref 17, .int s2, .int s3] σ (pi_ f)) (kr : ∀ r σ', f r σ' → ks_W L xs mX5_limb rm_X5_limb 67 [(0, .ref 17), (1, .int x1), (2, .int x2), (5, .int x5)] [.int r, .long s0] σ' mc ms P) : ks_W L xs mX5_limb rm_X5_limb 64 [(0, .ref 17), (1, .int x1), (2, .int x2), (5, .int x5)] [.int s3, .int s2, .ref 17, .long s0] σ mc ms P := by
  refine ks_callV (q := 67) (o := 17) (ci := 5) (As := [.int s2, .int s3]) (st := [.long s0]) d_X5_limb_64 rfl rfl (by decide) rfl rfl lk_X5_72 ⟨by decide, by decide⟩ (Nat.le_of_ble_eq_true rfl) ⟨Nat.le_refl _, Nat.le_refl _⟩ hK (fun v σ' hq => ?_) (fun E σ' hq => ?_)
  · obtain ⟨r, e, hf⟩ := hq; cases e; exact kr r σ' hf
  · obtain ⟨r, e, hf⟩ := hq; cases e
theorem sg_X5_limb_67 {L : Nat} {xs : Nat → Int32} {σ : ks_St} {mc ms : Nat} {P : ka_O → ks_St → Prop} {x1 : Int32} {x2 : Int32} {x5 : Int32} {s0 : Int64} {s1 : Int32}  (k1 : ks_W L xs mX5_limb rm_X5_limb 73 [(0, .ref 17), (1, .int x1), (2, .int x2), (3, .long (s0 ||| ((s1.toInt64) <<< ((x5).toInt64 &&& 63)))), (5, .int x5)] [] σ mc ms P) : ks_W L xs mX5_limb rm_X5_limb 67 [(0, .ref 17), (1, .int x1), (2, .int x2), (5, .int x5)] [.int s1, .long s0] σ mc ms P := by
  refine ka_i2l d_X5_limb_67 rfl ?_
  refine ka_iload d_X5_limb_68 rfl 3 rfl ?_
  refine ka_lshl d_X5_limb_70 rfl ?_
  refine ka_lor d_X5_limb_71 rfl ?_
  refine ka_lstore_n (ls' := [(3, .long (s0 ||| ((s1.toInt64) <<< ((x5).toInt64 &&& 63)))), (0, .ref 17), (1, .int x1), (2, .int x2), (5, .int x5)]) d_X5_limb_72 rfl rfl (by decide) rfl ?_
  refine ka_sub [1, 2, 3, 0, 4] rfl ?_
  exact k1
theorem sg_X5_limb_73 {L : Nat} {xs : Nat → Int32} {σ : ks_St} {mc ms : Nat} {P : ka_O → ks_St → Prop} {x1 : Int32} {x2 : Int32} {x3 : Int64} {x5 : Int32}  (k1 : ks_W L xs mX5_limb rm_X5_limb 31 [(0, .ref 17), (1, .int x1), (2, .int x2), (3, .long x3), (5, .int (x5 + 1))] [] σ mc ms P) : ks_W L xs mX5_limb rm_X5_limb 73 [(0, .ref 17), (1, .int x1), (2, .int x2), (3, .long x3), (5, .int x5)] [] σ mc ms P := by
  refine ka_iinc (g := 4) (v := x5 + 1) (ls' := [(5, .int (x5 + 1)), (0, .ref 17), (1, .int x1), (2, .int x2), (3, .long x3)]) d_X5_limb_73 rfl rfl rfl (by decide) rfl ?_
  refine ka_goto (q := 31) d_X5_limb_76 (by decide) ?_
  refine ka_sub [1, 2, 3, 4, 0] rfl ?_
  exact k1
theorem d_X5_load_0 : decode cX5_load 0 = .ok (.iconst 0, 1) := by decide +kernel
theorem d_X5_load_1 : decode cX5_load 1 = .ok (.istore_n 3, 1) := by decide +kernel
theorem d_X5_load_2 : decode cX5_load 2 = .ok (.iload_n 3, 1) := by decide +kernel
theorem d_X5_load_3 : decode cX5_load 3 = .ok (.sipush 513, 3) := by decide +kernel
theorem d_X5_load_6 : decode cX5_load 6 = .ok (.if_icmp .ge 61, 3) := by decide +kernel
theorem d_X5_load_9 : decode cX5_load 9 = .ok (.aload_n 0, 1) := by decide +kernel
theorem d_X5_load_10 : decode cX5_load 10 = .ok (.getfield 21, 3) := by decide +kernel
theorem d_X5_load_13 : decode cX5_load 13 = .ok (.iload_n 3, 1) := by decide +kernel
theorem d_X5_load_14 : decode cX5_load 14 = .ok (.iload_n 3, 1) := by decide +kernel
theorem d_X5_load_15 : decode cX5_load 15 = .ok (.aload_n 0, 1) := by decide +kernel
theorem d_X5_load_16 : decode cX5_load 16 = .ok (.getfield 7, 3) := by decide +kernel
theorem d_X5_load_19 : decode cX5_load 19 = .ok (.iload_n 1, 1) := by decide +kernel
theorem d_X5_load_20 : decode cX5_load 20 = .ok (.iaload, 1) := by decide +kernel
theorem d_X5_load_21 : decode cX5_load 21 = .ok (.if_icmp .ge 12, 3) := by decide +kernel
theorem d_X5_load_24 : decode cX5_load 24 = .ok (.aload_n 0, 1) := by decide +kernel
theorem d_X5_load_25 : decode cX5_load 25 = .ok (.iload_n 1, 1) := by decide +kernel
theorem d_X5_load_26 : decode cX5_load 26 = .ok (.iload_n 3, 1) := by decide +kernel
theorem d_X5_load_27 : decode cX5_load 27 = .ok (.invokevirtual 72, 3) := by decide +kernel
theorem d_X5_load_30 : decode cX5_load 30 = .ok (.goto 4, 3) := by decide +kernel
theorem d_X5_load_33 : decode cX5_load 33 = .ok (.iconst 0, 1) := by decide +kernel
theorem d_X5_load_34 : decode cX5_load 34 = .ok (.iastore, 1) := by decide +kernel
theorem d_X5_load_35 : decode cX5_load 35 = .ok (.aload_n 0, 1) := by decide +kernel
theorem d_X5_load_36 : decode cX5_load 36 = .ok (.getfield 24, 3) := by decide +kernel
theorem d_X5_load_39 : decode cX5_load 39 = .ok (.iload_n 3, 1) := by decide +kernel
theorem d_X5_load_40 : decode cX5_load 40 = .ok (.iload_n 3, 1) := by decide +kernel
theorem d_X5_load_41 : decode cX5_load 41 = .ok (.aload_n 0, 1) := by decide +kernel
theorem d_X5_load_42 : decode cX5_load 42 = .ok (.getfield 7, 3) := by decide +kernel
theorem d_X5_load_45 : decode cX5_load 45 = .ok (.iload_n 2, 1) := by decide +kernel
theorem d_X5_load_46 : decode cX5_load 46 = .ok (.iaload, 1) := by decide +kernel
theorem d_X5_load_47 : decode cX5_load 47 = .ok (.if_icmp .ge 12, 3) := by decide +kernel
theorem d_X5_load_50 : decode cX5_load 50 = .ok (.aload_n 0, 1) := by decide +kernel
theorem d_X5_load_51 : decode cX5_load 51 = .ok (.iload_n 2, 1) := by decide +kernel
theorem d_X5_load_52 : decode cX5_load 52 = .ok (.iload_n 3, 1) := by decide +kernel
theorem d_X5_load_53 : decode cX5_load 53 = .ok (.invokevirtual 72, 3) := by decide +kernel
theorem d_X5_load_56 : decode cX5_load 56 = .ok (.goto 4, 3) := by decide +kernel
theorem d_X5_load_59 : decode cX5_load 59 = .ok (.iconst 0, 1) := by decide +kernel
theorem d_X5_load_60 : decode cX5_load 60 = .ok (.iastore, 1) := by decide +kernel
theorem d_X5_load_61 : decode cX5_load 61 = .ok (.iinc 3 1, 3) := by decide +kernel
theorem d_X5_load_64 : decode cX5_load 64 = .ok (.goto (-62), 3) := by decide +kernel
theorem d_X5_load_67 : decode cX5_load 67 = .ok (.iconst 0, 1) := by decide +kernel
theorem d_X5_load_68 : decode cX5_load 68 = .ok (.istore_n 3, 1) := by decide +kernel
theorem d_X5_load_69 : decode cX5_load 69 = .ok (.iload_n 3, 1) := by decide +kernel
theorem d_X5_load_70 : decode cX5_load 70 = .ok (.sipush 1026, 3) := by decide +kernel
theorem d_X5_load_73 : decode cX5_load 73 = .ok (.if_icmp .ge 16, 3) := by decide +kernel
theorem d_X5_load_76 : decode cX5_load 76 = .ok (.aload_n 0, 1) := by decide +kernel
theorem d_X5_load_77 : decode cX5_load 77 = .ok (.getfield 27, 3) := by decide +kernel
theorem d_X5_load_80 : decode cX5_load 80 = .ok (.iload_n 3, 1) := by decide +kernel
theorem d_X5_load_81 : decode cX5_load 81 = .ok (.iconst 0, 1) := by decide +kernel
theorem d_X5_load_82 : decode cX5_load 82 = .ok (.iastore, 1) := by decide +kernel
theorem d_X5_load_83 : decode cX5_load 83 = .ok (.iinc 3 1, 3) := by decide +kernel
theorem d_X5_load_86 : decode cX5_load 86 = .ok (.goto (-17), 3) := by decide +kernel
theorem d_X5_load_89 : decode cX5_load 89 = .ok (.return_, 1) := by decide +kernel
theorem sg_X5_load_0 {L : Nat} {xs : Nat → Int32} {σ : ks_St} {mc ms : Nat} {P : ka_O → ks_St → Prop} {x1 : Int32} {x2 : Int32}  (k1 : ks_W L xs mX5_load rm_X5_load 2 [(0, .ref 17), (1, .int x1), (2, .int x2), (3, .int 0)] [] σ mc ms P) : ks_W L xs mX5_load rm_X5_load 0 [(0, .ref 17), (1, .int x1), (2, .int x2)] [] σ mc ms P := by
  refine ka_iconst (v := 0) d_X5_load_0 rfl (by decide) ?_
  refine ka_istore_n (ls' := [(3, .int 0), (0, .ref 17), (1, .int x1), (2, .int x2)]) d_X5_load_1 rfl rfl (by decide) rfl ?_
  refine ka_sub [1, 2, 3, 0] rfl ?_
  exact k1
theorem sg_X5_load_2 {L : Nat} {xs : Nat → Int32} {σ : ks_St} {mc ms : Nat} {P : ka_O → ks_St → Prop} {x1 : Int32} {x2 : Int32} {x3 : Int32}  (k2 : (513 ≤ x3) → ks_W L xs mX5_load rm_X5_load 69 [(0, .ref 17), (3, .int 0)] [] σ mc ms P) (v3 : (¬ (513 ≤ x3)) → vp_in x1 600) (k5 : (¬ (513 ≤ x3)) → ((sf_ σ 18 x1.toNatClampNeg) ≤ x3) → ks_W L xs mX5_load rm_X5_load 34 [(0, .ref 17), (1, .int x1), (2, .int x2), (3, .int x3)] [.int 0, .int x3, .ref 21] σ mc ms P) (k6 : (¬ (513 ≤ x3)) → (¬ ((sf_ σ 18 x1.toNatClampNeg) ≤ x3)) → ks_W L xs mX5_load rm_X5_load 27 [(0, .ref 17), (1, .int x1), (2, .int x2), (3, .int x3)] [.int x3, .int x1, .ref 17, .int x3, .ref 21] σ mc ms P) : ks_W L xs mX5_load rm_X5_load 2 [(0, .ref 17), (1, .int x1), (2, .int x2), (3, .int x3)] [] σ mc ms P := by
  refine ka_iload_n d_X5_load_2 rfl rfl 3 rfl ?_
  refine ka_sipush (v := 513) d_X5_load_3 rfl (by decide) ?_
  refine ka_icmp_ge (tgt := 67) d_X5_load_6 (by decide) rfl (fun c1 => ?_) (fun c1 => ?_)
  · refine ka_iconst (v := 0) d_X5_load_67 rfl (by decide) ?_
    refine ka_istore_n (ls' := [(3, .int 0), (0, .ref 17), (1, .int x1), (2, .int x2)]) d_X5_load_68 rfl rfl (by decide) rfl ?_
    refine ka_sub [1, 0] rfl ?_
    exact (k2 c1)
  · refine ka_aload_n d_X5_load_9 rfl rfl 0 rfl ?_
    refine gf_X5_7 d_X5_load_10 rfl fl_X5_21 ?_
    refine ka_iload_n d_X5_load_13 rfl rfl 3 rfl ?_
    refine ka_iload_n d_X5_load_14 rfl rfl 3 rfl ?_
    refine ka_aload_n d_X5_load_15 rfl rfl 0 rfl ?_
    refine gf_X5_3 d_X5_load_16 rfl fl_X5_7 ?_
    refine ka_iload_n d_X5_load_19 rfl rfl 1 rfl ?_
    refine ks_iald row_18 d_X5_load_20 rfl (v3 c1) ?_
    refine ka_icmp_ge (tgt := 33) d_X5_load_21 (by decide) rfl (fun c4 => ?_) (fun c4 => ?_)
    · refine ka_iconst (v := 0) d_X5_load_33 rfl (by decide) ?_
      exact (k5 c1 c4)
    · refine ka_aload_n d_X5_load_24 rfl rfl 0 rfl ?_
      refine ka_iload_n d_X5_load_25 rfl rfl 1 rfl ?_
      refine ka_iload_n d_X5_load_26 rfl rfl 3 rfl ?_
      exact (k6 c1 c4)
theorem cs_X5_load_27 {L : Nat} {xs : Nat → Int32} {σ : ks_St} {mc ms : Nat} {P : ka_O → ks_St → Prop} {f : Int32 → ks_St → Prop} {x1 : Int32} {x2 : Int32} {x3 : Int32} {s1 : Int32} {s3 : Int32} {s4 : Int32} (hK : ks_M L xs mX5_bitOf rm_X5_bitOf [.ref 17, .int s3, .int s4] σ (pi_ f)) (kr : ∀ r σ', f r σ' → ks_W L xs mX5_load rm_X5_load 30 [(0, .ref 17), (1, .int x1), (2, .int x2), (3, .int x3)] [.int r, .int s1, .ref 21] σ' mc ms P) : ks_W L xs mX5_load rm_X5_load 27 [(0, .ref 17), (1, .int x1), (2, .int x2), (3, .int x3)] [.int s4, .int s3, .ref 17, .int s1, .ref 21] σ mc ms P := by
  refine ks_callV (q := 30) (o := 17) (ci := 5) (As := [.int s3, .int s4]) (st := [.int s1, .ref 21]) d_X5_load_27 rfl rfl (by decide) rfl rfl lk_X5_72 ⟨by decide, by decide⟩ (Nat.le_of_ble_eq_true rfl) ⟨Nat.le_refl _, Nat.le_refl _⟩ hK (fun v σ' hq => ?_) (fun E σ' hq => ?_)
  · obtain ⟨r, e, hf⟩ := hq; cases e; exact kr r σ' hf
  · obtain ⟨r, e, hf⟩ := hq; cases e
theorem sg_X5_load_30 {L : Nat} {xs : Nat → Int32} {σ : ks_St} {mc ms : Nat} {P : ka_O → ks_St → Prop} {x1 : Int32} {x2 : Int32} {x3 : Int32} {s1 : Int32} {s2 : Int32}  (k1 : ks_W L xs mX5_load rm_X5_load 34 [(0, .ref 17), (1, .int x1), (2, .int x2), (3, .int x3)] [.int s2, .int s1, .ref 21] σ mc ms P) : ks_W L xs mX5_load rm_X5_load 30 [(0, .ref 17), (1, .int x1), (2, .int x2), (3, .int x3)] [.int s2, .int s1, .ref 21] σ mc ms P := by
  refine ka_goto (q := 34) d_X5_load_30 (by decide) ?_
  exact k1
theorem sg_X5_load_34 {L : Nat} {xs : Nat → Int32} {σ : ks_St} {mc ms : Nat} {P : ka_O → ks_St → Prop} {x1 : Int32} {x2 : Int32} {x3 : Int32} {s1 : Int32} {s2 : Int32}  (v1 : vp_in s1 513) (v2 : vp_in x2 600) (k4 : ((sf_ (uf_ σ 21 (upd (sf_ σ 21) s1.toNatClampNeg s2)) 18 x2.toNatClampNeg) ≤ x3) → ks_W L xs mX5_load rm_X5_load 60 [(0, .ref 17), (1, .int x1), (2, .int x2), (3, .int x3)] [.int 0, .int x3, .ref 22] (uf_ σ 21 (upd (sf_ σ 21) s1.toNatClampNeg s2)) mc ms P) (k5 : (¬ ((sf_ (uf_ σ 21 (upd (sf_ σ 21) s1.toNatClampNeg s2)) 18 x2.toNatClampNeg) ≤ x3)) → ks_W L xs mX5_load rm_X5_load 53 [(0, .ref 17), (1, .int x1), (2, .int x2), (3, .int x3)] [.int x3, .int x2, .ref 17, .int x3, .ref 22] (uf_ σ 21 (upd (sf_ σ 21) s1.toNatClampNeg s2)) mc ms P) : ks_W L xs mX5_load rm_X5_load 34 [(0, .ref 17), (1, .int x1), (2, .int x2), (3, .int x3)] [.int s2, .int s1, .ref 21] σ mc ms P := by
  refine ks_iast row_21 d_X5_load_34 rfl v1 ?_
  refine ka_aload_n d_X5_load_35 rfl rfl 0 rfl ?_
  refine gf_X5_8 d_X5_load_36 rfl fl_X5_24 ?_
  refine ka_iload_n d_X5_load_39 rfl rfl 3 rfl ?_
  refine ka_iload_n d_X5_load_40 rfl rfl 3 rfl ?_
  refine ka_aload_n d_X5_load_41 rfl rfl 0 rfl ?_
  refine gf_X5_3 d_X5_load_42 rfl fl_X5_7 ?_
  refine ka_iload_n d_X5_load_45 rfl rfl 2 rfl ?_
  refine ks_iald row_18 d_X5_load_46 rfl v2 ?_
  refine ka_icmp_ge (tgt := 59) d_X5_load_47 (by decide) rfl (fun c3 => ?_) (fun c3 => ?_)
  · refine ka_iconst (v := 0) d_X5_load_59 rfl (by decide) ?_
    exact (k4 c3)
  · refine ka_aload_n d_X5_load_50 rfl rfl 0 rfl ?_
    refine ka_iload_n d_X5_load_51 rfl rfl 2 rfl ?_
    refine ka_iload_n d_X5_load_52 rfl rfl 3 rfl ?_
    exact (k5 c3)
theorem cs_X5_load_53 {L : Nat} {xs : Nat → Int32} {σ : ks_St} {mc ms : Nat} {P : ka_O → ks_St → Prop} {f : Int32 → ks_St → Prop} {x1 : Int32} {x2 : Int32} {x3 : Int32} {s1 : Int32} {s3 : Int32} {s4 : Int32} (hK : ks_M L xs mX5_bitOf rm_X5_bitOf [.ref 17, .int s3, .int s4] σ (pi_ f)) (kr : ∀ r σ', f r σ' → ks_W L xs mX5_load rm_X5_load 56 [(0, .ref 17), (1, .int x1), (2, .int x2), (3, .int x3)] [.int r, .int s1, .ref 22] σ' mc ms P) : ks_W L xs mX5_load rm_X5_load 53 [(0, .ref 17), (1, .int x1), (2, .int x2), (3, .int x3)] [.int s4, .int s3, .ref 17, .int s1, .ref 22] σ mc ms P := by
  refine ks_callV (q := 56) (o := 17) (ci := 5) (As := [.int s3, .int s4]) (st := [.int s1, .ref 22]) d_X5_load_53 rfl rfl (by decide) rfl rfl lk_X5_72 ⟨by decide, by decide⟩ (Nat.le_of_ble_eq_true rfl) ⟨Nat.le_refl _, Nat.le_refl _⟩ hK (fun v σ' hq => ?_) (fun E σ' hq => ?_)
  · obtain ⟨r, e, hf⟩ := hq; cases e; exact kr r σ' hf
  · obtain ⟨r, e, hf⟩ := hq; cases e
theorem sg_X5_load_56 {L : Nat} {xs : Nat → Int32} {σ : ks_St} {mc ms : Nat} {P : ka_O → ks_St → Prop} {x1 : Int32} {x2 : Int32} {x3 : Int32} {s1 : Int32} {s2 : Int32}  (k1 : ks_W L xs mX5_load rm_X5_load 60 [(0, .ref 17), (1, .int x1), (2, .int x2), (3, .int x3)] [.int s2, .int s1, .ref 22] σ mc ms P) : ks_W L xs mX5_load rm_X5_load 56 [(0, .ref 17), (1, .int x1), (2, .int x2), (3, .int x3)] [.int s2, .int s1, .ref 22] σ mc ms P := by
  refine ka_goto (q := 60) d_X5_load_56 (by decide) ?_
  exact k1
theorem sg_X5_load_60 {L : Nat} {xs : Nat → Int32} {σ : ks_St} {mc ms : Nat} {P : ka_O → ks_St → Prop} {x1 : Int32} {x2 : Int32} {x3 : Int32} {s1 : Int32} {s2 : Int32}  (v1 : vp_in s1 513) (k2 : ks_W L xs mX5_load rm_X5_load 2 [(0, .ref 17), (1, .int x1), (2, .int x2), (3, .int (x3 + 1))] [] (uf_ σ 22 (upd (sf_ σ 22) s1.toNatClampNeg s2)) mc ms P) : ks_W L xs mX5_load rm_X5_load 60 [(0, .ref 17), (1, .int x1), (2, .int x2), (3, .int x3)] [.int s2, .int s1, .ref 22] σ mc ms P := by
  refine ks_iast row_22 d_X5_load_60 rfl v1 ?_
  refine ka_iinc (g := 3) (v := x3 + 1) (ls' := [(3, .int (x3 + 1)), (0, .ref 17), (1, .int x1), (2, .int x2)]) d_X5_load_61 rfl rfl rfl (by decide) rfl ?_
  refine ka_goto (q := 2) d_X5_load_64 (by decide) ?_
  refine ka_sub [1, 2, 3, 0] rfl ?_
  exact k2
theorem sg_X5_load_69 {L : Nat} {xs : Nat → Int32} {σ : ks_St} {mc ms : Nat} {P : ka_O → ks_St → Prop} {x3 : Int32}  (r2 : (1026 ≤ x3) → P (.inl none) σ) (v3 : (¬ (1026 ≤ x3)) → vp_in x3 1026) (k4 : (¬ (1026 ≤ x3)) → ks_W L xs mX5_load rm_X5_load 69 [(0, .ref 17), (3, .int (x3 + 1))] [] (uf_ σ 23 (upd (sf_ σ 23) x3.toNatClampNeg 0)) mc ms P) : ks_W L xs mX5_load rm_X5_load 69 [(0, .ref 17), (3, .int x3)] [] σ mc ms P := by
  refine ka_iload_n d_X5_load_69 rfl rfl 1 rfl ?_
  refine ka_sipush (v := 1026) d_X5_load_70 rfl (by decide) ?_
  refine ka_icmp_ge (tgt := 89) d_X5_load_73 (by decide) rfl (fun c1 => ?_) (fun c1 => ?_)
  · exact ks_vret d_X5_load_89 rfl (r2 c1)
  · refine ka_aload_n d_X5_load_76 rfl rfl 0 rfl ?_
    refine gf_X5_9 d_X5_load_77 rfl fl_X5_27 ?_
    refine ka_iload_n d_X5_load_80 rfl rfl 1 rfl ?_
    refine ka_iconst (v := 0) d_X5_load_81 rfl (by decide) ?_
    refine ks_iast row_23 d_X5_load_82 rfl (v3 c1) ?_
    refine ka_iinc (g := 1) (v := x3 + 1) (ls' := [(3, .int (x3 + 1)), (0, .ref 17)]) d_X5_load_83 rfl rfl rfl (by decide) rfl ?_
    refine ka_goto (q := 69) d_X5_load_86 (by decide) ?_
    refine ka_sub [1, 0] rfl ?_
    exact (k4 c1)
theorem d_X5_amounts_0 : decode cX5_amounts 0 = .ok (.aload_n 0, 1) := by decide +kernel
theorem d_X5_amounts_1 : decode cX5_amounts 1 = .ok (.getfield 21, 3) := by decide +kernel
theorem d_X5_amounts_4 : decode cX5_amounts 4 = .ok (.iload_n 1, 1) := by decide +kernel
theorem d_X5_amounts_5 : decode cX5_amounts 5 = .ok (.iconst 1, 1) := by decide +kernel
theorem d_X5_amounts_6 : decode cX5_amounts 6 = .ok (.isub, 1) := by decide +kernel
theorem d_X5_amounts_7 : decode cX5_amounts 7 = .ok (.iaload, 1) := by decide +kernel
theorem d_X5_amounts_8 : decode cX5_amounts 8 = .ok (.istore_n 2, 1) := by decide +kernel
theorem d_X5_amounts_9 : decode cX5_amounts 9 = .ok (.aload_n 0, 1) := by decide +kernel
theorem d_X5_amounts_10 : decode cX5_amounts 10 = .ok (.getfield 24, 3) := by decide +kernel
theorem d_X5_amounts_13 : decode cX5_amounts 13 = .ok (.iload_n 1, 1) := by decide +kernel
theorem d_X5_amounts_14 : decode cX5_amounts 14 = .ok (.iconst 1, 1) := by decide +kernel
theorem d_X5_amounts_15 : decode cX5_amounts 15 = .ok (.isub, 1) := by decide +kernel
theorem d_X5_amounts_16 : decode cX5_amounts 16 = .ok (.iaload, 1) := by decide +kernel
theorem d_X5_amounts_17 : decode cX5_amounts 17 = .ok (.istore_n 3, 1) := by decide +kernel
theorem d_X5_amounts_18 : decode cX5_amounts 18 = .ok (.iload_n 2, 1) := by decide +kernel
theorem d_X5_amounts_19 : decode cX5_amounts 19 = .ok (.iconst 1, 1) := by decide +kernel
theorem d_X5_amounts_20 : decode cX5_amounts 20 = .ok (.if_icmp .ne 7, 3) := by decide +kernel
theorem d_X5_amounts_23 : decode cX5_amounts 23 = .ok (.iconst 1, 1) := by decide +kernel
theorem d_X5_amounts_24 : decode cX5_amounts 24 = .ok (.goto 4, 3) := by decide +kernel
theorem d_X5_amounts_27 : decode cX5_amounts 27 = .ok (.iconst 0, 1) := by decide +kernel
theorem d_X5_amounts_28 : decode cX5_amounts 28 = .ok (.istore 4, 2) := by decide +kernel
theorem d_X5_amounts_30 : decode cX5_amounts 30 = .ok (.iload_n 3, 1) := by decide +kernel
theorem d_X5_amounts_31 : decode cX5_amounts 31 = .ok (.iconst 1, 1) := by decide +kernel
theorem d_X5_amounts_32 : decode cX5_amounts 32 = .ok (.if_icmp .ne 7, 3) := by decide +kernel
theorem d_X5_amounts_35 : decode cX5_amounts 35 = .ok (.iconst 1, 1) := by decide +kernel
theorem d_X5_amounts_36 : decode cX5_amounts 36 = .ok (.goto 4, 3) := by decide +kernel
theorem d_X5_amounts_39 : decode cX5_amounts 39 = .ok (.iconst 0, 1) := by decide +kernel
theorem d_X5_amounts_40 : decode cX5_amounts 40 = .ok (.istore 5, 2) := by decide +kernel
theorem d_X5_amounts_42 : decode cX5_amounts 42 = .ok (.iconst 0, 1) := by decide +kernel
theorem d_X5_amounts_43 : decode cX5_amounts 43 = .ok (.istore 6, 2) := by decide +kernel
theorem d_X5_amounts_45 : decode cX5_amounts 45 = .ok (.iload 6, 2) := by decide +kernel
theorem d_X5_amounts_47 : decode cX5_amounts 47 = .ok (.iload_n 1, 1) := by decide +kernel
theorem d_X5_amounts_48 : decode cX5_amounts 48 = .ok (.if_icmp .ge 97, 3) := by decide +kernel
theorem d_X5_amounts_51 : decode cX5_amounts 51 = .ok (.iload 4, 2) := by decide +kernel
theorem d_X5_amounts_53 : decode cX5_amounts 53 = .ok (.ifCond .eq 15, 3) := by decide +kernel
theorem d_X5_amounts_56 : decode cX5_amounts 56 = .ok (.iconst 1, 1) := by decide +kernel
theorem d_X5_amounts_57 : decode cX5_amounts 57 = .ok (.aload_n 0, 1) := by decide +kernel
theorem d_X5_amounts_58 : decode cX5_amounts 58 = .ok (.getfield 21, 3) := by decide +kernel
theorem d_X5_amounts_61 : decode cX5_amounts 61 = .ok (.iload 6, 2) := by decide +kernel
theorem d_X5_amounts_63 : decode cX5_amounts 63 = .ok (.iaload, 1) := by decide +kernel
theorem d_X5_amounts_64 : decode cX5_amounts 64 = .ok (.isub, 1) := by decide +kernel
theorem d_X5_amounts_65 : decode cX5_amounts 65 = .ok (.goto 10, 3) := by decide +kernel
theorem d_X5_amounts_68 : decode cX5_amounts 68 = .ok (.aload_n 0, 1) := by decide +kernel
theorem d_X5_amounts_69 : decode cX5_amounts 69 = .ok (.getfield 21, 3) := by decide +kernel
theorem d_X5_amounts_72 : decode cX5_amounts 72 = .ok (.iload 6, 2) := by decide +kernel
theorem d_X5_amounts_74 : decode cX5_amounts 74 = .ok (.iaload, 1) := by decide +kernel
theorem d_X5_amounts_75 : decode cX5_amounts 75 = .ok (.iload_n 2, 1) := by decide +kernel
theorem d_X5_amounts_76 : decode cX5_amounts 76 = .ok (.iadd, 1) := by decide +kernel
theorem d_X5_amounts_77 : decode cX5_amounts 77 = .ok (.istore 7, 2) := by decide +kernel
theorem d_X5_amounts_79 : decode cX5_amounts 79 = .ok (.iload 5, 2) := by decide +kernel
theorem d_X5_amounts_81 : decode cX5_amounts 81 = .ok (.ifCond .eq 15, 3) := by decide +kernel
theorem d_X5_amounts_84 : decode cX5_amounts 84 = .ok (.iconst 1, 1) := by decide +kernel
theorem d_X5_amounts_85 : decode cX5_amounts 85 = .ok (.aload_n 0, 1) := by decide +kernel
theorem d_X5_amounts_86 : decode cX5_amounts 86 = .ok (.getfield 24, 3) := by decide +kernel
theorem d_X5_amounts_89 : decode cX5_amounts 89 = .ok (.iload 6, 2) := by decide +kernel
theorem d_X5_amounts_91 : decode cX5_amounts 91 = .ok (.iaload, 1) := by decide +kernel
theorem d_X5_amounts_92 : decode cX5_amounts 92 = .ok (.isub, 1) := by decide +kernel
theorem d_X5_amounts_93 : decode cX5_amounts 93 = .ok (.goto 10, 3) := by decide +kernel
theorem d_X5_amounts_96 : decode cX5_amounts 96 = .ok (.aload_n 0, 1) := by decide +kernel
theorem d_X5_amounts_97 : decode cX5_amounts 97 = .ok (.getfield 24, 3) := by decide +kernel
theorem d_X5_amounts_100 : decode cX5_amounts 100 = .ok (.iload 6, 2) := by decide +kernel
theorem d_X5_amounts_102 : decode cX5_amounts 102 = .ok (.iaload, 1) := by decide +kernel
theorem d_X5_amounts_103 : decode cX5_amounts 103 = .ok (.iload_n 3, 1) := by decide +kernel
theorem d_X5_amounts_104 : decode cX5_amounts 104 = .ok (.iadd, 1) := by decide +kernel
theorem d_X5_amounts_105 : decode cX5_amounts 105 = .ok (.istore 8, 2) := by decide +kernel
theorem d_X5_amounts_107 : decode cX5_amounts 107 = .ok (.aload_n 0, 1) := by decide +kernel
theorem d_X5_amounts_108 : decode cX5_amounts 108 = .ok (.getfield 21, 3) := by decide +kernel
theorem d_X5_amounts_111 : decode cX5_amounts 111 = .ok (.iload 6, 2) := by decide +kernel
theorem d_X5_amounts_113 : decode cX5_amounts 113 = .ok (.iload 7, 2) := by decide +kernel
theorem d_X5_amounts_115 : decode cX5_amounts 115 = .ok (.iconst 1, 1) := by decide +kernel
theorem d_X5_amounts_116 : decode cX5_amounts 116 = .ok (.iand, 1) := by decide +kernel
theorem d_X5_amounts_117 : decode cX5_amounts 117 = .ok (.iastore, 1) := by decide +kernel
theorem d_X5_amounts_118 : decode cX5_amounts 118 = .ok (.iload 7, 2) := by decide +kernel
theorem d_X5_amounts_120 : decode cX5_amounts 120 = .ok (.iconst 1, 1) := by decide +kernel
theorem d_X5_amounts_121 : decode cX5_amounts 121 = .ok (.ishr, 1) := by decide +kernel
theorem d_X5_amounts_122 : decode cX5_amounts 122 = .ok (.istore_n 2, 1) := by decide +kernel
theorem d_X5_amounts_123 : decode cX5_amounts 123 = .ok (.aload_n 0, 1) := by decide +kernel
theorem d_X5_amounts_124 : decode cX5_amounts 124 = .ok (.getfield 24, 3) := by decide +kernel
theorem d_X5_amounts_127 : decode cX5_amounts 127 = .ok (.iload 6, 2) := by decide +kernel
theorem d_X5_amounts_129 : decode cX5_amounts 129 = .ok (.iload 8, 2) := by decide +kernel
theorem d_X5_amounts_131 : decode cX5_amounts 131 = .ok (.iconst 1, 1) := by decide +kernel
theorem d_X5_amounts_132 : decode cX5_amounts 132 = .ok (.iand, 1) := by decide +kernel
theorem d_X5_amounts_133 : decode cX5_amounts 133 = .ok (.iastore, 1) := by decide +kernel
theorem d_X5_amounts_134 : decode cX5_amounts 134 = .ok (.iload 8, 2) := by decide +kernel
theorem d_X5_amounts_136 : decode cX5_amounts 136 = .ok (.iconst 1, 1) := by decide +kernel
theorem d_X5_amounts_137 : decode cX5_amounts 137 = .ok (.ishr, 1) := by decide +kernel
theorem d_X5_amounts_138 : decode cX5_amounts 138 = .ok (.istore_n 3, 1) := by decide +kernel
theorem d_X5_amounts_139 : decode cX5_amounts 139 = .ok (.iinc 6 1, 3) := by decide +kernel
theorem d_X5_amounts_142 : decode cX5_amounts 142 = .ok (.goto (-97), 3) := by decide +kernel
theorem d_X5_amounts_145 : decode cX5_amounts 145 = .ok (.return_, 1) := by decide +kernel
theorem sg_X5_amounts_0 {L : Nat} {xs : Nat → Int32} {σ : ks_St} {mc ms : Nat} {P : ka_O → ks_St → Prop} {x1 : Int32}  (v1 : vp_in (x1 - 1) 513) (v2 : vp_in (x1 - 1) 513) (k4 : (¬ (sf_ σ 21 (x1 - 1).toNatClampNeg) = 1) → ks_W L xs mX5_amounts rm_X5_amounts 28 [(0, .ref 17), (1, .int x1), (2, .int (sf_ σ 21 (x1 - 1).toNatClampNeg)), (3, .int (sf_ σ 22 (x1 - 1).toNatClampNeg))] [.int 0] σ mc ms P) (k5 : ((sf_ σ 21 (x1 - 1).toNatClampNeg) = 1) → ks_W L xs mX5_amounts rm_X5_amounts 28 [(0, .ref 17), (1, .int x1), (2, .int (sf_ σ 21 (x1 - 1).toNatClampNeg)), (3, .int (sf_ σ 22 (x1 - 1).toNatClampNeg))] [.int 1] σ mc ms P) : ks_W L xs mX5_amounts rm_X5_amounts 0 [(0, .ref 17), (1, .int x1)] [] σ mc ms P := by
  refine ka_aload_n d_X5_amounts_0 rfl rfl 0 rfl ?_
  refine gf_X5_7 d_X5_amounts_1 rfl fl_X5_21 ?_
  refine ka_iload_n d_X5_amounts_4 rfl rfl 1 rfl ?_
  refine ka_iconst (v := 1) d_X5_amounts_5 rfl (by decide) ?_
  refine ka_isub d_X5_amounts_6 rfl ?_
  refine ks_iald row_21 d_X5_amounts_7 rfl v1 ?_
  refine ka_istore_n (ls' := [(2, .int (sf_ σ 21 (x1 - 1).toNatClampNeg)), (0, .ref 17), (1, .int x1)]) d_X5_amounts_8 rfl rfl (by decide) rfl ?_
  refine ka_aload_n d_X5_amounts_9 rfl rfl 1 rfl ?_
  refine gf_X5_8 d_X5_amounts_10 rfl fl_X5_24 ?_
  refine ka_iload_n d_X5_amounts_13 rfl rfl 2 rfl ?_
  refine ka_iconst (v := 1) d_X5_amounts_14 rfl (by decide) ?_
  refine ka_isub d_X5_amounts_15 rfl ?_
  refine ks_iald row_22 d_X5_amounts_16 rfl v2 ?_
  refine ka_istore_n (ls' := [(3, .int (sf_ σ 22 (x1 - 1).toNatClampNeg)), (2, .int (sf_ σ 21 (x1 - 1).toNatClampNeg)), (0, .ref 17), (1, .int x1)]) d_X5_amounts_17 rfl rfl (by decide) rfl ?_
  refine ka_iload_n d_X5_amounts_18 rfl rfl 1 rfl ?_
  refine ka_iconst (v := 1) d_X5_amounts_19 rfl (by decide) ?_
  refine ka_icmp_ne (tgt := 27) d_X5_amounts_20 (by decide) rfl (fun c3 => ?_) (fun c3 => ?_)
  · refine ka_iconst (v := 0) d_X5_amounts_27 rfl (by decide) ?_
    refine ka_sub [2, 3, 1, 0] rfl ?_
    exact (k4 c3)
  · refine ka_iconst (v := 1) d_X5_amounts_23 rfl (by decide) ?_
    refine ka_goto (q := 28) d_X5_amounts_24 (by decide) ?_
    refine ka_sub [2, 3, 1, 0] rfl ?_
    exact (k5 c3)
theorem sg_X5_amounts_28 {L : Nat} {xs : Nat → Int32} {σ : ks_St} {mc ms : Nat} {P : ka_O → ks_St → Prop} {x1 : Int32} {x2 : Int32} {x3 : Int32} {s0 : Int32}  (k2 : (¬ x3 = 1) → ks_W L xs mX5_amounts rm_X5_amounts 40 [(0, .ref 17), (1, .int x1), (2, .int x2), (3, .int x3), (4, .int s0)] [.int 0] σ mc ms P) (k3 : (x3 = 1) → ks_W L xs mX5_amounts rm_X5_amounts 40 [(0, .ref 17), (1, .int x1), (2, .int x2), (3, .int x3), (4, .int s0)] [.int 1] σ mc ms P) : ks_W L xs mX5_amounts rm_X5_amounts 28 [(0, .ref 17), (1, .int x1), (2, .int x2), (3, .int x3)] [.int s0] σ mc ms P := by
  refine ka_istore (ls' := [(4, .int s0), (0, .ref 17), (1, .int x1), (2, .int x2), (3, .int x3)]) d_X5_amounts_28 rfl (by decide) rfl ?_
  refine ka_iload_n d_X5_amounts_30 rfl rfl 4 rfl ?_
  refine ka_iconst (v := 1) d_X5_amounts_31 rfl (by decide) ?_
  refine ka_icmp_ne (tgt := 39) d_X5_amounts_32 (by decide) rfl (fun c1 => ?_) (fun c1 => ?_)
  · refine ka_iconst (v := 0) d_X5_amounts_39 rfl (by decide) ?_
    refine ka_sub [1, 2, 3, 4, 0] rfl ?_
    exact (k2 c1)
  · refine ka_iconst (v := 1) d_X5_amounts_35 rfl (by decide) ?_
    refine ka_goto (q := 40) d_X5_amounts_36 (by decide) ?_
    refine ka_sub [1, 2, 3, 4, 0] rfl ?_
    exact (k3 c1)
theorem sg_X5_amounts_40 {L : Nat} {xs : Nat → Int32} {σ : ks_St} {mc ms : Nat} {P : ka_O → ks_St → Prop} {x1 : Int32} {x2 : Int32} {x3 : Int32} {x4 : Int32} {s0 : Int32}  (k1 : ks_W L xs mX5_amounts rm_X5_amounts 45 [(0, .ref 17), (1, .int x1), (2, .int x2), (3, .int x3), (4, .int x4), (5, .int s0), (6, .int 0)] [] σ mc ms P) : ks_W L xs mX5_amounts rm_X5_amounts 40 [(0, .ref 17), (1, .int x1), (2, .int x2), (3, .int x3), (4, .int x4)] [.int s0] σ mc ms P := by
  refine ka_istore (ls' := [(5, .int s0), (0, .ref 17), (1, .int x1), (2, .int x2), (3, .int x3), (4, .int x4)]) d_X5_amounts_40 rfl (by decide) rfl ?_
  refine ka_iconst (v := 0) d_X5_amounts_42 rfl (by decide) ?_
  refine ka_istore (ls' := [(6, .int 0), (5, .int s0), (0, .ref 17), (1, .int x1), (2, .int x2), (3, .int x3), (4, .int x4)]) d_X5_amounts_43 rfl (by decide) rfl ?_
  refine ka_sub [2, 3, 4, 5, 6, 1, 0] rfl ?_
  exact k1
theorem sg_X5_amounts_45 {L : Nat} {xs : Nat → Int32} {σ : ks_St} {mc ms : Nat} {P : ka_O → ks_St → Prop} {x1 : Int32} {x2 : Int32} {x3 : Int32} {x4 : Int32} {x5 : Int32} {x6 : Int32}  (r2 : (x1 ≤ x6) → P (.inl none) σ) (v4 : (¬ (x1 ≤ x6)) → (x4 = 0) → vp_in x6 513) (k5 : (¬ (x1 ≤ x6)) → (x4 = 0) → ks_W L xs mX5_amounts rm_X5_amounts 75 [(0, .ref 17), (1, .int x1), (2, .int x2), (3, .int x3), (4, .int x4), (5, .int x5), (6, .int x6)] [.int (sf_ σ 21 x6.toNatClampNeg)] σ mc ms P) (v6 : (¬ (x1 ≤ x6)) → (¬ (x4 = 0)) → vp_in x6 513) (k7 : (¬ (x1 ≤ x6)) → (¬ (x4 = 0)) → ks_W L xs mX5_amounts rm_X5_amounts 75 [(0, .ref 17), (1, .int x1), (2, .int x2), (3, .int x3), (4, .int x4), (5, .int x5), (6, .int x6)] [.int (1 - (sf_ σ 21 x6.toNatClampNeg))] σ mc ms P) : ks_W L xs mX5_amounts rm_X5_amounts 45 [(0, .ref 17), (1, .int x1), (2, .int x2), (3, .int x3), (4, .int x4), (5, .int x5), (6, .int x6)] [] σ mc ms P := by
  refine ka_iload d_X5_amounts_45 rfl 6 rfl ?_
  refine ka_iload_n d_X5_amounts_47 rfl rfl 1 rfl ?_
  refine ka_icmp_ge (tgt := 145) d_X5_amounts_48 (by decide) rfl (fun c1 => ?_) (fun c1 => ?_)
  · exact ks_vret d_X5_amounts_145 rfl (r2 c1)
  · refine ka_iload d_X5_amounts_51 rfl 4 rfl ?_
    refine ka_if_eq (tgt := 68) d_X5_amounts_53 (by decide) rfl (fun c3 => ?_) (fun c3 => ?_)
    · refine ka_aload_n d_X5_amounts_68 rfl rfl 0 rfl ?_
      refine gf_X5_7 d_X5_amounts_69 rfl fl_X5_21 ?_
      refine ka_iload d_X5_amounts_72 rfl 6 rfl ?_
      refine ks_iald row_21 d_X5_amounts_74 rfl (v4 c1 c3) ?_
      exact (k5 c1 c3)
    · refine ka_iconst (v := 1) d_X5_amounts_56 rfl (by decide) ?_
      refine ka_aload_n d_X5_amounts_57 rfl rfl 0 rfl ?_
      refine gf_X5_7 d_X5_amounts_58 rfl fl_X5_21 ?_
      refine ka_iload d_X5_amounts_61 rfl 6 rfl ?_
      refine ks_iald row_21 d_X5_amounts_63 rfl (v6 c1 c3) ?_
      refine ka_isub d_X5_amounts_64 rfl ?_
      refine ka_goto (q := 75) d_X5_amounts_65 (by decide) ?_
      exact (k7 c1 c3)
theorem sg_X5_amounts_75 {L : Nat} {xs : Nat → Int32} {σ : ks_St} {mc ms : Nat} {P : ka_O → ks_St → Prop} {x1 : Int32} {x2 : Int32} {x3 : Int32} {x4 : Int32} {x5 : Int32} {x6 : Int32} {s0 : Int32}  (v2 : (x5 = 0) → vp_in x6 513) (k3 : (x5 = 0) → ks_W L xs mX5_amounts rm_X5_amounts 103 [(0, .ref 17), (1, .int x1), (3, .int x3), (4, .int x4), (5, .int x5), (6, .int x6), (7, .int (s0 + x2))] [.int (sf_ σ 22 x6.toNatClampNeg)] σ mc ms P) (v4 : (¬ (x5 = 0)) → vp_in x6 513) (k5 : (¬ (x5 = 0)) → ks_W L xs mX5_amounts rm_X5_amounts 103 [(0, .ref 17), (1, .int x1), (3, .int x3), (4, .int x4), (5, .int x5), (6, .int x6), (7, .int (s0 + x2))] [.int (1 - (sf_ σ 22 x6.toNatClampNeg))] σ mc ms P) : ks_W L xs mX5_amounts rm_X5_amounts 75 [(0, .ref 17), (1, .int x1), (2, .int x2), (3, .int x3), (4, .int x4), (5, .int x5), (6, .int x6)] [.int s0] σ mc ms P := by
  refine ka_iload_n d_X5_amounts_75 rfl rfl 2 rfl ?_
  refine ka_iadd d_X5_amounts_76 rfl ?_
  refine ka_istore (ls' := [(7, .int (s0 + x2)), (0, .ref 17), (1, .int x1), (2, .int x2), (3, .int x3), (4, .int x4), (5, .int x5), (6, .int x6)]) d_X5_amounts_77 rfl (by decide) rfl ?_
  refine ka_iload d_X5_amounts_79 rfl 6 rfl ?_
  refine ka_if_eq (tgt := 96) d_X5_amounts_81 (by decide) rfl (fun c1 => ?_) (fun c1 => ?_)
  · refine ka_aload_n d_X5_amounts_96 rfl rfl 1 rfl ?_
    refine gf_X5_8 d_X5_amounts_97 rfl fl_X5_24 ?_
    refine ka_iload d_X5_amounts_100 rfl 7 rfl ?_
    refine ks_iald row_22 d_X5_amounts_102 rfl (v2 c1) ?_
    refine ka_sub [1, 2, 4, 5, 6, 7, 0] rfl ?_
    exact (k3 c1)
  · refine ka_iconst (v := 1) d_X5_amounts_84 rfl (by decide) ?_
    refine ka_aload_n d_X5_amounts_85 rfl rfl 1 rfl ?_
    refine gf_X5_8 d_X5_amounts_86 rfl fl_X5_24 ?_
    refine ka_iload d_X5_amounts_89 rfl 7 rfl ?_
    refine ks_iald row_22 d_X5_amounts_91 rfl (v4 c1) ?_
    refine ka_isub d_X5_amounts_92 rfl ?_
    refine ka_goto (q := 103) d_X5_amounts_93 (by decide) ?_
    refine ka_sub [1, 2, 4, 5, 6, 7, 0] rfl ?_
    exact (k5 c1)
theorem sg_X5_amounts_103 {L : Nat} {xs : Nat → Int32} {σ : ks_St} {mc ms : Nat} {P : ka_O → ks_St → Prop} {x1 : Int32} {x3 : Int32} {x4 : Int32} {x5 : Int32} {x6 : Int32} {x7 : Int32} {s0 : Int32}  (v1 : vp_in x6 513) (v2 : vp_in x6 513) (k3 : ks_W L xs mX5_amounts rm_X5_amounts 45 [(0, .ref 17), (1, .int x1), (2, .int (x7 >>> ((1 : Int32) &&& 31))), (3, .int ((s0 + x3) >>> ((1 : Int32) &&& 31))), (4, .int x4), (5, .int x5), (6, .int (x6 + 1))] [] (uf_ (uf_ σ 21 (upd (sf_ σ 21) x6.toNatClampNeg (x7 &&& 1))) 22 (upd (sf_ (uf_ σ 21 (upd (sf_ σ 21) x6.toNatClampNeg (x7 &&& 1))) 22) x6.toNatClampNeg ((s0 + x3) &&& 1))) mc ms P) : ks_W L xs mX5_amounts rm_X5_amounts 103 [(0, .ref 17), (1, .int x1), (3, .int x3), (4, .int x4), (5, .int x5), (6, .int x6), (7, .int x7)] [.int s0] σ mc ms P := by
  refine ka_iload_n d_X5_amounts_103 rfl rfl 2 rfl ?_
  refine ka_iadd d_X5_amounts_104 rfl ?_
  refine ka_istore (ls' := [(8, .int (s0 + x3)), (0, .ref 17), (1, .int x1), (3, .int x3), (4, .int x4), (5, .int x5), (6, .int x6), (7, .int x7)]) d_X5_amounts_105 rfl (by decide) rfl ?_
  refine ka_aload_n d_X5_amounts_107 rfl rfl 1 rfl ?_
  refine gf_X5_7 d_X5_amounts_108 rfl fl_X5_21 ?_
  refine ka_iload d_X5_amounts_111 rfl 6 rfl ?_
  refine ka_iload d_X5_amounts_113 rfl 7 rfl ?_
  refine ka_iconst (v := 1) d_X5_amounts_115 rfl (by decide) ?_
  refine ka_iand d_X5_amounts_116 rfl ?_
  refine ks_iast row_21 d_X5_amounts_117 rfl v1 ?_
  refine ka_iload d_X5_amounts_118 rfl 7 rfl ?_
  refine ka_iconst (v := 1) d_X5_amounts_120 rfl (by decide) ?_
  refine ka_ishr d_X5_amounts_121 rfl ?_
  refine ka_istore_n (ls' := [(2, .int (x7 >>> ((1 : Int32) &&& 31))), (8, .int (s0 + x3)), (0, .ref 17), (1, .int x1), (3, .int x3), (4, .int x4), (5, .int x5), (6, .int x6), (7, .int x7)]) d_X5_amounts_122 rfl rfl (by decide) rfl ?_
  refine ka_aload_n d_X5_amounts_123 rfl rfl 2 rfl ?_
  refine gf_X5_8 d_X5_amounts_124 rfl fl_X5_24 ?_
  refine ka_iload d_X5_amounts_127 rfl 7 rfl ?_
  refine ka_iload d_X5_amounts_129 rfl 1 rfl ?_
  refine ka_iconst (v := 1) d_X5_amounts_131 rfl (by decide) ?_
  refine ka_iand d_X5_amounts_132 rfl ?_
  refine ks_iast row_22 d_X5_amounts_133 rfl v2 ?_
  refine ka_iload d_X5_amounts_134 rfl 1 rfl ?_
  refine ka_iconst (v := 1) d_X5_amounts_136 rfl (by decide) ?_
  refine ka_ishr d_X5_amounts_137 rfl ?_
  refine ka_istore_n (ls' := [(3, .int ((s0 + x3) >>> ((1 : Int32) &&& 31))), (2, .int (x7 >>> ((1 : Int32) &&& 31))), (8, .int (s0 + x3)), (0, .ref 17), (1, .int x1), (4, .int x4), (5, .int x5), (6, .int x6), (7, .int x7)]) d_X5_amounts_138 rfl rfl (by decide) rfl ?_
  refine ka_iinc (g := 7) (v := x6 + 1) (ls' := [(6, .int (x6 + 1)), (3, .int ((s0 + x3) >>> ((1 : Int32) &&& 31))), (2, .int (x7 >>> ((1 : Int32) &&& 31))), (8, .int (s0 + x3)), (0, .ref 17), (1, .int x1), (4, .int x4), (5, .int x5), (7, .int x7)]) d_X5_amounts_139 rfl rfl rfl (by decide) rfl ?_
  refine ka_goto (q := 45) d_X5_amounts_142 (by decide) ?_
  refine ka_sub [4, 5, 2, 1, 6, 7, 0] rfl ?_
  exact k3
theorem d_X5_turn_0 : decode cX5_turn 0 = .ok (.iconst 1, 1) := by decide +kernel
theorem d_X5_turn_1 : decode cX5_turn 1 = .ok (.istore_n 2, 1) := by decide +kernel
theorem d_X5_turn_2 : decode cX5_turn 2 = .ok (.iconst 0, 1) := by decide +kernel
theorem d_X5_turn_3 : decode cX5_turn 3 = .ok (.istore_n 3, 1) := by decide +kernel
theorem d_X5_turn_4 : decode cX5_turn 4 = .ok (.iload_n 3, 1) := by decide +kernel
theorem d_X5_turn_5 : decode cX5_turn 5 = .ok (.iload_n 1, 1) := by decide +kernel
theorem d_X5_turn_6 : decode cX5_turn 6 = .ok (.if_icmp .ge 36, 3) := by decide +kernel
theorem d_X5_turn_9 : decode cX5_turn 9 = .ok (.iconst 1, 1) := by decide +kernel
theorem d_X5_turn_10 : decode cX5_turn 10 = .ok (.aload_n 0, 1) := by decide +kernel
theorem d_X5_turn_11 : decode cX5_turn 11 = .ok (.getfield 27, 3) := by decide +kernel
theorem d_X5_turn_14 : decode cX5_turn 14 = .ok (.iload_n 3, 1) := by decide +kernel
theorem d_X5_turn_15 : decode cX5_turn 15 = .ok (.iaload, 1) := by decide +kernel
theorem d_X5_turn_16 : decode cX5_turn 16 = .ok (.isub, 1) := by decide +kernel
theorem d_X5_turn_17 : decode cX5_turn 17 = .ok (.iload_n 2, 1) := by decide +kernel
theorem d_X5_turn_18 : decode cX5_turn 18 = .ok (.iadd, 1) := by decide +kernel
theorem d_X5_turn_19 : decode cX5_turn 19 = .ok (.istore 4, 2) := by decide +kernel
theorem d_X5_turn_21 : decode cX5_turn 21 = .ok (.aload_n 0, 1) := by decide +kernel
theorem d_X5_turn_22 : decode cX5_turn 22 = .ok (.getfield 27, 3) := by decide +kernel
theorem d_X5_turn_25 : decode cX5_turn 25 = .ok (.iload_n 3, 1) := by decide +kernel
theorem d_X5_turn_26 : decode cX5_turn 26 = .ok (.iload 4, 2) := by decide +kernel
theorem d_X5_turn_28 : decode cX5_turn 28 = .ok (.iconst 1, 1) := by decide +kernel
theorem d_X5_turn_29 : decode cX5_turn 29 = .ok (.iand, 1) := by decide +kernel
theorem d_X5_turn_30 : decode cX5_turn 30 = .ok (.iastore, 1) := by decide +kernel
theorem d_X5_turn_31 : decode cX5_turn 31 = .ok (.iload 4, 2) := by decide +kernel
theorem d_X5_turn_33 : decode cX5_turn 33 = .ok (.iconst 1, 1) := by decide +kernel
theorem d_X5_turn_34 : decode cX5_turn 34 = .ok (.ishr, 1) := by decide +kernel
theorem d_X5_turn_35 : decode cX5_turn 35 = .ok (.istore_n 2, 1) := by decide +kernel
theorem d_X5_turn_36 : decode cX5_turn 36 = .ok (.iinc 3 1, 3) := by decide +kernel
theorem d_X5_turn_39 : decode cX5_turn 39 = .ok (.goto (-35), 3) := by decide +kernel
theorem d_X5_turn_42 : decode cX5_turn 42 = .ok (.return_, 1) := by decide +kernel
theorem sg_X5_turn_0 {L : Nat} {xs : Nat → Int32} {σ : ks_St} {mc ms : Nat} {P : ka_O → ks_St → Prop} {x1 : Int32}  (k1 : ks_W L xs mX5_turn rm_X5_turn 4 [(0, .ref 17), (1, .int x1), (2, .int 1), (3, .int 0)] [] σ mc ms P) : ks_W L xs mX5_turn rm_X5_turn 0 [(0, .ref 17), (1, .int x1)] [] σ mc ms P := by
  refine ka_iconst (v := 1) d_X5_turn_0 rfl (by decide) ?_
  refine ka_istore_n (ls' := [(2, .int 1), (0, .ref 17), (1, .int x1)]) d_X5_turn_1 rfl rfl (by decide) rfl ?_
  refine ka_iconst (v := 0) d_X5_turn_2 rfl (by decide) ?_
  refine ka_istore_n (ls' := [(3, .int 0), (2, .int 1), (0, .ref 17), (1, .int x1)]) d_X5_turn_3 rfl rfl (by decide) rfl ?_
  refine ka_sub [2, 3, 1, 0] rfl ?_
  exact k1
theorem sg_X5_turn_4 {L : Nat} {xs : Nat → Int32} {σ : ks_St} {mc ms : Nat} {P : ka_O → ks_St → Prop} {x1 : Int32} {x2 : Int32} {x3 : Int32}  (r2 : (x1 ≤ x3) → P (.inl none) σ) (v3 : (¬ (x1 ≤ x3)) → vp_in x3 1026) (v4 : (¬ (x1 ≤ x3)) → vp_in x3 1026) (k5 : (¬ (x1 ≤ x3)) → ks_W L xs mX5_turn rm_X5_turn 4 [(0, .ref 17), (1, .int x1), (2, .int (((1 - (sf_ σ 23 x3.toNatClampNeg)) + x2) >>> ((1 : Int32) &&& 31))), (3, .int (x3 + 1))] [] (uf_ σ 23 (upd (sf_ σ 23) x3.toNatClampNeg (((1 - (sf_ σ 23 x3.toNatClampNeg)) + x2) &&& 1))) mc ms P) : ks_W L xs mX5_turn rm_X5_turn 4 [(0, .ref 17), (1, .int x1), (2, .int x2), (3, .int x3)] [] σ mc ms P := by
  refine ka_iload_n d_X5_turn_4 rfl rfl 3 rfl ?_
  refine ka_iload_n d_X5_turn_5 rfl rfl 1 rfl ?_
  refine ka_icmp_ge (tgt := 42) d_X5_turn_6 (by decide) rfl (fun c1 => ?_) (fun c1 => ?_)
  · exact ks_vret d_X5_turn_42 rfl (r2 c1)
  · refine ka_iconst (v := 1) d_X5_turn_9 rfl (by decide) ?_
    refine ka_aload_n d_X5_turn_10 rfl rfl 0 rfl ?_
    refine gf_X5_9 d_X5_turn_11 rfl fl_X5_27 ?_
    refine ka_iload_n d_X5_turn_14 rfl rfl 3 rfl ?_
    refine ks_iald row_23 d_X5_turn_15 rfl (v3 c1) ?_
    refine ka_isub d_X5_turn_16 rfl ?_
    refine ka_iload_n d_X5_turn_17 rfl rfl 2 rfl ?_
    refine ka_iadd d_X5_turn_18 rfl ?_
    refine ka_istore (ls' := [(4, .int ((1 - (sf_ σ 23 x3.toNatClampNeg)) + x2)), (0, .ref 17), (1, .int x1), (2, .int x2), (3, .int x3)]) d_X5_turn_19 rfl (by decide) rfl ?_
    refine ka_aload_n d_X5_turn_21 rfl rfl 1 rfl ?_
    refine gf_X5_9 d_X5_turn_22 rfl fl_X5_27 ?_
    refine ka_iload_n d_X5_turn_25 rfl rfl 4 rfl ?_
    refine ka_iload d_X5_turn_26 rfl 0 rfl ?_
    refine ka_iconst (v := 1) d_X5_turn_28 rfl (by decide) ?_
    refine ka_iand d_X5_turn_29 rfl ?_
    refine ks_iast row_23 d_X5_turn_30 rfl (v4 c1) ?_
    refine ka_iload d_X5_turn_31 rfl 0 rfl ?_
    refine ka_iconst (v := 1) d_X5_turn_33 rfl (by decide) ?_
    refine ka_ishr d_X5_turn_34 rfl ?_
    refine ka_istore_n (ls' := [(2, .int (((1 - (sf_ σ 23 x3.toNatClampNeg)) + x2) >>> ((1 : Int32) &&& 31))), (4, .int ((1 - (sf_ σ 23 x3.toNatClampNeg)) + x2)), (0, .ref 17), (1, .int x1), (3, .int x3)]) d_X5_turn_35 rfl rfl (by decide) rfl ?_
    refine ka_iinc (g := 4) (v := x3 + 1) (ls' := [(3, .int (x3 + 1)), (2, .int (((1 - (sf_ σ 23 x3.toNatClampNeg)) + x2) >>> ((1 : Int32) &&& 31))), (4, .int ((1 - (sf_ σ 23 x3.toNatClampNeg)) + x2)), (0, .ref 17), (1, .int x1)]) d_X5_turn_36 rfl rfl rfl (by decide) rfl ?_
    refine ka_goto (q := 4) d_X5_turn_39 (by decide) ?_
    refine ka_sub [3, 4, 1, 0] rfl ?_
    exact (k5 c1)
theorem d_X5_add_0 : decode cX5_add 0 = .ok (.iconst 0, 1) := by decide +kernel
theorem d_X5_add_1 : decode cX5_add 1 = .ok (.istore_n 3, 1) := by decide +kernel
theorem d_X5_add_2 : decode cX5_add 2 = .ok (.iconst 0, 1) := by decide +kernel
theorem d_X5_add_3 : decode cX5_add 3 = .ok (.istore 4, 2) := by decide +kernel
theorem d_X5_add_5 : decode cX5_add 5 = .ok (.iload 4, 2) := by decide +kernel
theorem d_X5_add_7 : decode cX5_add 7 = .ok (.iload_n 1, 1) := by decide +kernel
theorem d_X5_add_8 : decode cX5_add 8 = .ok (.if_icmp .ge 85, 3) := by decide +kernel
theorem d_X5_add_11 : decode cX5_add 11 = .ok (.iload_n 2, 1) := by decide +kernel
theorem d_X5_add_12 : decode cX5_add 12 = .ok (.ifCond .eq 23, 3) := by decide +kernel
theorem d_X5_add_15 : decode cX5_add 15 = .ok (.aload_n 0, 1) := by decide +kernel
theorem d_X5_add_16 : decode cX5_add 16 = .ok (.getfield 21, 3) := by decide +kernel
theorem d_X5_add_19 : decode cX5_add 19 = .ok (.iload 4, 2) := by decide +kernel
theorem d_X5_add_21 : decode cX5_add 21 = .ok (.iaload, 1) := by decide +kernel
theorem d_X5_add_22 : decode cX5_add 22 = .ok (.aload_n 0, 1) := by decide +kernel
theorem d_X5_add_23 : decode cX5_add 23 = .ok (.getfield 24, 3) := by decide +kernel
theorem d_X5_add_26 : decode cX5_add 26 = .ok (.iload 4, 2) := by decide +kernel
theorem d_X5_add_28 : decode cX5_add 28 = .ok (.iaload, 1) := by decide +kernel
theorem d_X5_add_29 : decode cX5_add 29 = .ok (.isub, 1) := by decide +kernel
theorem d_X5_add_30 : decode cX5_add 30 = .ok (.iload_n 3, 1) := by decide +kernel
theorem d_X5_add_31 : decode cX5_add 31 = .ok (.isub, 1) := by decide +kernel
theorem d_X5_add_32 : decode cX5_add 32 = .ok (.goto 20, 3) := by decide +kernel
theorem d_X5_add_35 : decode cX5_add 35 = .ok (.aload_n 0, 1) := by decide +kernel
theorem d_X5_add_36 : decode cX5_add 36 = .ok (.getfield 21, 3) := by decide +kernel
theorem d_X5_add_39 : decode cX5_add 39 = .ok (.iload 4, 2) := by decide +kernel
theorem d_X5_add_41 : decode cX5_add 41 = .ok (.iaload, 1) := by decide +kernel
theorem d_X5_add_42 : decode cX5_add 42 = .ok (.aload_n 0, 1) := by decide +kernel
theorem d_X5_add_43 : decode cX5_add 43 = .ok (.getfield 24, 3) := by decide +kernel
theorem d_X5_add_46 : decode cX5_add 46 = .ok (.iload 4, 2) := by decide +kernel
theorem d_X5_add_48 : decode cX5_add 48 = .ok (.iaload, 1) := by decide +kernel
theorem d_X5_add_49 : decode cX5_add 49 = .ok (.iadd, 1) := by decide +kernel
theorem d_X5_add_50 : decode cX5_add 50 = .ok (.iload_n 3, 1) := by decide +kernel
theorem d_X5_add_51 : decode cX5_add 51 = .ok (.iadd, 1) := by decide +kernel
theorem d_X5_add_52 : decode cX5_add 52 = .ok (.istore 5, 2) := by decide +kernel
theorem d_X5_add_54 : decode cX5_add 54 = .ok (.aload_n 0, 1) := by decide +kernel
theorem d_X5_add_55 : decode cX5_add 55 = .ok (.getfield 27, 3) := by decide +kernel
theorem d_X5_add_58 : decode cX5_add 58 = .ok (.iload 4, 2) := by decide +kernel
theorem d_X5_add_60 : decode cX5_add 60 = .ok (.iload 5, 2) := by decide +kernel
theorem d_X5_add_62 : decode cX5_add 62 = .ok (.iconst 1, 1) := by decide +kernel
theorem d_X5_add_63 : decode cX5_add 63 = .ok (.iand, 1) := by decide +kernel
theorem d_X5_add_64 : decode cX5_add 64 = .ok (.iastore, 1) := by decide +kernel
theorem d_X5_add_65 : decode cX5_add 65 = .ok (.iload_n 2, 1) := by decide +kernel
theorem d_X5_add_66 : decode cX5_add 66 = .ok (.ifCond .eq 16, 3) := by decide +kernel
theorem d_X5_add_69 : decode cX5_add 69 = .ok (.iload 5, 2) := by decide +kernel
theorem d_X5_add_71 : decode cX5_add 71 = .ok (.ifCond .ge 7, 3) := by decide +kernel
theorem d_X5_add_74 : decode cX5_add 74 = .ok (.iconst 1, 1) := by decide +kernel
theorem d_X5_add_75 : decode cX5_add 75 = .ok (.goto 11, 3) := by decide +kernel
theorem d_X5_add_78 : decode cX5_add 78 = .ok (.iconst 0, 1) := by decide +kernel
theorem d_X5_add_79 : decode cX5_add 79 = .ok (.goto 7, 3) := by decide +kernel
theorem d_X5_add_82 : decode cX5_add 82 = .ok (.iload 5, 2) := by decide +kernel
theorem d_X5_add_84 : decode cX5_add 84 = .ok (.iconst 1, 1) := by decide +kernel
theorem d_X5_add_85 : decode cX5_add 85 = .ok (.ishr, 1) := by decide +kernel
theorem d_X5_add_86 : decode cX5_add 86 = .ok (.istore_n 3, 1) := by decide +kernel
theorem d_X5_add_87 : decode cX5_add 87 = .ok (.iinc 4 1, 3) := by decide +kernel
theorem d_X5_add_90 : decode cX5_add 90 = .ok (.goto (-85), 3) := by decide +kernel
theorem d_X5_add_93 : decode cX5_add 93 = .ok (.iload_n 3, 1) := by decide +kernel
theorem d_X5_add_94 : decode cX5_add 94 = .ok (.ireturn, 1) := by decide +kernel
theorem sg_X5_add_0 {L : Nat} {xs : Nat → Int32} {σ : ks_St} {mc ms : Nat} {P : ka_O → ks_St → Prop} {x1 : Int32} {x2 : Int32}  (k1 : ks_W L xs mX5_add rm_X5_add 5 [(0, .ref 17), (1, .int x1), (2, .int x2), (3, .int 0), (4, .int 0)] [] σ mc ms P) : ks_W L xs mX5_add rm_X5_add 0 [(0, .ref 17), (1, .int x1), (2, .int x2)] [] σ mc ms P := by
  refine ka_iconst (v := 0) d_X5_add_0 rfl (by decide) ?_
  refine ka_istore_n (ls' := [(3, .int 0), (0, .ref 17), (1, .int x1), (2, .int x2)]) d_X5_add_1 rfl rfl (by decide) rfl ?_
  refine ka_iconst (v := 0) d_X5_add_2 rfl (by decide) ?_
  refine ka_istore (ls' := [(4, .int 0), (3, .int 0), (0, .ref 17), (1, .int x1), (2, .int x2)]) d_X5_add_3 rfl (by decide) rfl ?_
  refine ka_sub [2, 3, 4, 1, 0] rfl ?_
  exact k1
theorem sg_X5_add_5 {L : Nat} {xs : Nat → Int32} {σ : ks_St} {mc ms : Nat} {P : ka_O → ks_St → Prop} {x1 : Int32} {x2 : Int32} {x3 : Int32} {x4 : Int32}  (r2 : (x1 ≤ x4) → P (.inl (some (.int x3))) σ) (v4 : (¬ (x1 ≤ x4)) → (x2 = 0) → vp_in x4 513) (v5 : (¬ (x1 ≤ x4)) → (x2 = 0) → vp_in x4 513) (k6 : (¬ (x1 ≤ x4)) → (x2 = 0) → ks_W L xs mX5_add rm_X5_add 52 [(0, .ref 17), (1, .int x1), (2, .int x2), (4, .int x4)] [.int (((sf_ σ 21 x4.toNatClampNeg) + (sf_ σ 22 x4.toNatClampNeg)) + x3)] σ mc ms P) (v7 : (¬ (x1 ≤ x4)) → (¬ (x2 = 0)) → vp_in x4 513) (v8 : (¬ (x1 ≤ x4)) → (¬ (x2 = 0)) → vp_in x4 513) (k9 : (¬ (x1 ≤ x4)) → (¬ (x2 = 0)) → ks_W L xs mX5_add rm_X5_add 52 [(0, .ref 17), (1, .int x1), (2, .int x2), (4, .int x4)] [.int (((sf_ σ 21 x4.toNatClampNeg) - (sf_ σ 22 x4.toNatClampNeg)) - x3)] σ mc ms P) : ks_W L xs mX5_add rm_X5_add 5 [(0, .ref 17), (1, .int x1), (2, .int x2), (3, .int x3), (4, .int x4)] [] σ mc ms P := by
  refine ka_iload d_X5_add_5 rfl 4 rfl ?_
  refine ka_iload_n d_X5_add_7 rfl rfl 1 rfl ?_
  refine ka_icmp_ge (tgt := 93) d_X5_add_8 (by decide) rfl (fun c1 => ?_) (fun c1 => ?_)
  · refine ka_iload_n d_X5_add_93 rfl rfl 3 rfl ?_
    exact ks_iret (ty := .int) d_X5_add_94 rfl rfl (r2 c1)
  · refine ka_iload_n d_X5_add_11 rfl rfl 2 rfl ?_
    refine ka_if_eq (tgt := 35) d_X5_add_12 (by decide) rfl (fun c3 => ?_) (fun c3 => ?_)
    · refine ka_aload_n d_X5_add_35 rfl rfl 0 rfl ?_
      refine gf_X5_7 d_X5_add_36 rfl fl_X5_21 ?_
      refine ka_iload d_X5_add_39 rfl 4 rfl ?_
      refine ks_iald row_21 d_X5_add_41 rfl (v4 c1 c3) ?_
      refine ka_aload_n d_X5_add_42 rfl rfl 0 rfl ?_
      refine gf_X5_8 d_X5_add_43 rfl fl_X5_24 ?_
      refine ka_iload d_X5_add_46 rfl 4 rfl ?_
      refine ks_iald row_22 d_X5_add_48 rfl (v5 c1 c3) ?_
      refine ka_iadd d_X5_add_49 rfl ?_
      refine ka_iload_n d_X5_add_50 rfl rfl 3 rfl ?_
      refine ka_iadd d_X5_add_51 rfl ?_
      refine ka_sub [0, 1, 2, 4] rfl ?_
      exact (k6 c1 c3)
    · refine ka_aload_n d_X5_add_15 rfl rfl 0 rfl ?_
      refine gf_X5_7 d_X5_add_16 rfl fl_X5_21 ?_
      refine ka_iload d_X5_add_19 rfl 4 rfl ?_
      refine ks_iald row_21 d_X5_add_21 rfl (v7 c1 c3) ?_
      refine ka_aload_n d_X5_add_22 rfl rfl 0 rfl ?_
      refine gf_X5_8 d_X5_add_23 rfl fl_X5_24 ?_
      refine ka_iload d_X5_add_26 rfl 4 rfl ?_
      refine ks_iald row_22 d_X5_add_28 rfl (v8 c1 c3) ?_
      refine ka_isub d_X5_add_29 rfl ?_
      refine ka_iload_n d_X5_add_30 rfl rfl 3 rfl ?_
      refine ka_isub d_X5_add_31 rfl ?_
      refine ka_goto (q := 52) d_X5_add_32 (by decide) ?_
      refine ka_sub [0, 1, 2, 4] rfl ?_
      exact (k9 c1 c3)
theorem sg_X5_add_52 {L : Nat} {xs : Nat → Int32} {σ : ks_St} {mc ms : Nat} {P : ka_O → ks_St → Prop} {x1 : Int32} {x2 : Int32} {x4 : Int32} {s0 : Int32}  (v1 : vp_in x4 1026) (k3 : (x2 = 0) → ks_W L xs mX5_add rm_X5_add 86 [(0, .ref 17), (1, .int x1), (2, .int x2), (4, .int x4)] [.int (s0 >>> ((1 : Int32) &&& 31))] (uf_ σ 23 (upd (sf_ σ 23) x4.toNatClampNeg (s0 &&& 1))) mc ms P) (k5 : (¬ (x2 = 0)) → (0 ≤ s0) → ks_W L xs mX5_add rm_X5_add 86 [(0, .ref 17), (1, .int x1), (2, .int x2), (4, .int x4)] [.int 0] (uf_ σ 23 (upd (sf_ σ 23) x4.toNatClampNeg (s0 &&& 1))) mc ms P) (k6 : (¬ (x2 = 0)) → (¬ (0 ≤ s0)) → ks_W L xs mX5_add rm_X5_add 86 [(0, .ref 17), (1, .int x1), (2, .int x2), (4, .int x4)] [.int 1] (uf_ σ 23 (upd (sf_ σ 23) x4.toNatClampNeg (s0 &&& 1))) mc ms P) : ks_W L xs mX5_add rm_X5_add 52 [(0, .ref 17), (1, .int x1), (2, .int x2), (4, .int x4)] [.int s0] σ mc ms P := by
  refine ka_istore (ls' := [(5, .int s0), (0, .ref 17), (1, .int x1), (2, .int x2), (4, .int x4)]) d_X5_add_52 rfl (by decide) rfl ?_
  refine ka_aload_n d_X5_add_54 rfl rfl 1 rfl ?_
  refine gf_X5_9 d_X5_add_55 rfl fl_X5_27 ?_
  refine ka_iload d_X5_add_58 rfl 4 rfl ?_
  refine ka_iload d_X5_add_60 rfl 0 rfl ?_
  refine ka_iconst (v := 1) d_X5_add_62 rfl (by decide) ?_
  refine ka_iand d_X5_add_63 rfl ?_
  refine ks_iast row_23 d_X5_add_64 rfl v1 ?_
  refine ka_iload_n d_X5_add_65 rfl rfl 3 rfl ?_
  refine ka_if_eq (tgt := 82) d_X5_add_66 (by decide) rfl (fun c2 => ?_) (fun c2 => ?_)
  · refine ka_iload d_X5_add_82 rfl 0 rfl ?_
    refine ka_iconst (v := 1) d_X5_add_84 rfl (by decide) ?_
    refine ka_ishr d_X5_add_85 rfl ?_
    refine ka_sub [1, 2, 3, 4] rfl ?_
    exact (k3 c2)
  · refine ka_iload d_X5_add_69 rfl 0 rfl ?_
    refine ka_if_ge (tgt := 78) d_X5_add_71 (by decide) rfl (fun c4 => ?_) (fun c4 => ?_)
    · refine ka_iconst (v := 0) d_X5_add_78 rfl (by decide) ?_
      refine ka_goto (q := 86) d_X5_add_79 (by decide) ?_
      refine ka_sub [1, 2, 3, 4] rfl ?_
      exact (k5 c2 c4)
    · refine ka_iconst (v := 1) d_X5_add_74 rfl (by decide) ?_
      refine ka_goto (q := 86) d_X5_add_75 (by decide) ?_
      refine ka_sub [1, 2, 3, 4] rfl ?_
      exact (k6 c2 c4)
theorem sg_X5_add_86 {L : Nat} {xs : Nat → Int32} {σ : ks_St} {mc ms : Nat} {P : ka_O → ks_St → Prop} {x1 : Int32} {x2 : Int32} {x4 : Int32} {s0 : Int32}  (k1 : ks_W L xs mX5_add rm_X5_add 5 [(0, .ref 17), (1, .int x1), (2, .int x2), (3, .int s0), (4, .int (x4 + 1))] [] σ mc ms P) : ks_W L xs mX5_add rm_X5_add 86 [(0, .ref 17), (1, .int x1), (2, .int x2), (4, .int x4)] [.int s0] σ mc ms P := by
  refine ka_istore_n (ls' := [(3, .int s0), (0, .ref 17), (1, .int x1), (2, .int x2), (4, .int x4)]) d_X5_add_86 rfl rfl (by decide) rfl ?_
  refine ka_iinc (g := 4) (v := x4 + 1) (ls' := [(4, .int (x4 + 1)), (3, .int s0), (0, .ref 17), (1, .int x1), (2, .int x2)]) d_X5_add_87 rfl rfl rfl (by decide) rfl ?_
  refine ka_goto (q := 5) d_X5_add_90 (by decide) ?_
  refine ka_sub [2, 3, 4, 1, 0] rfl ?_
  exact k1
theorem d_X5_multiply_0 : decode cX5_multiply 0 = .ok (.iconst 0, 1) := by decide +kernel
theorem d_X5_multiply_1 : decode cX5_multiply 1 = .ok (.istore_n 2, 1) := by decide +kernel
theorem d_X5_multiply_2 : decode cX5_multiply 2 = .ok (.iload_n 2, 1) := by decide +kernel
theorem d_X5_multiply_3 : decode cX5_multiply 3 = .ok (.iload_n 1, 1) := by decide +kernel
theorem d_X5_multiply_4 : decode cX5_multiply 4 = .ok (.if_icmp .ge 91, 3) := by decide +kernel
theorem d_X5_multiply_7 : decode cX5_multiply 7 = .ok (.aload_n 0, 1) := by decide +kernel
theorem d_X5_multiply_8 : decode cX5_multiply 8 = .ok (.getfield 24, 3) := by decide +kernel
theorem d_X5_multiply_11 : decode cX5_multiply 11 = .ok (.iload_n 2, 1) := by decide +kernel
theorem d_X5_multiply_12 : decode cX5_multiply 12 = .ok (.iaload, 1) := by decide +kernel
theorem d_X5_multiply_13 : decode cX5_multiply 13 = .ok (.ifCond .ne 6, 3) := by decide +kernel
theorem d_X5_multiply_16 : decode cX5_multiply 16 = .ok (.goto 73, 3) := by decide +kernel
theorem d_X5_multiply_19 : decode cX5_multiply 19 = .ok (.iconst 0, 1) := by decide +kernel
theorem d_X5_multiply_20 : decode cX5_multiply 20 = .ok (.istore_n 3, 1) := by decide +kernel
theorem d_X5_multiply_21 : decode cX5_multiply 21 = .ok (.iconst 0, 1) := by decide +kernel
theorem d_X5_multiply_22 : decode cX5_multiply 22 = .ok (.istore 4, 2) := by decide +kernel
theorem d_X5_multiply_24 : decode cX5_multiply 24 = .ok (.iload 4, 2) := by decide +kernel
theorem d_X5_multiply_26 : decode cX5_multiply 26 = .ok (.iload_n 1, 1) := by decide +kernel
theorem d_X5_multiply_27 : decode cX5_multiply 27 = .ok (.if_icmp .lt 7, 3) := by decide +kernel
theorem d_X5_multiply_30 : decode cX5_multiply 30 = .ok (.iload_n 3, 1) := by decide +kernel
theorem d_X5_multiply_31 : decode cX5_multiply 31 = .ok (.ifCond .le 58, 3) := by decide +kernel
theorem d_X5_multiply_34 : decode cX5_multiply 34 = .ok (.aload_n 0, 1) := by decide +kernel
theorem d_X5_multiply_35 : decode cX5_multiply 35 = .ok (.getfield 27, 3) := by decide +kernel
theorem d_X5_multiply_38 : decode cX5_multiply 38 = .ok (.iload_n 2, 1) := by decide +kernel
theorem d_X5_multiply_39 : decode cX5_multiply 39 = .ok (.iload 4, 2) := by decide +kernel
theorem d_X5_multiply_41 : decode cX5_multiply 41 = .ok (.iadd, 1) := by decide +kernel
theorem d_X5_multiply_42 : decode cX5_multiply 42 = .ok (.iaload, 1) := by decide +kernel
theorem d_X5_multiply_43 : decode cX5_multiply 43 = .ok (.iload 4, 2) := by decide +kernel
theorem d_X5_multiply_45 : decode cX5_multiply 45 = .ok (.iload_n 1, 1) := by decide +kernel
theorem d_X5_multiply_46 : decode cX5_multiply 46 = .ok (.if_icmp .ge 13, 3) := by decide +kernel
theorem d_X5_multiply_49 : decode cX5_multiply 49 = .ok (.aload_n 0, 1) := by decide +kernel
theorem d_X5_multiply_50 : decode cX5_multiply 50 = .ok (.getfield 21, 3) := by decide +kernel
theorem d_X5_multiply_53 : decode cX5_multiply 53 = .ok (.iload 4, 2) := by decide +kernel
theorem d_X5_multiply_55 : decode cX5_multiply 55 = .ok (.iaload, 1) := by decide +kernel
theorem d_X5_multiply_56 : decode cX5_multiply 56 = .ok (.goto 4, 3) := by decide +kernel
theorem d_X5_multiply_59 : decode cX5_multiply 59 = .ok (.iconst 0, 1) := by decide +kernel
theorem d_X5_multiply_60 : decode cX5_multiply 60 = .ok (.iadd, 1) := by decide +kernel
theorem d_X5_multiply_61 : decode cX5_multiply 61 = .ok (.iload_n 3, 1) := by decide +kernel
theorem d_X5_multiply_62 : decode cX5_multiply 62 = .ok (.iadd, 1) := by decide +kernel
theorem d_X5_multiply_63 : decode cX5_multiply 63 = .ok (.istore 5, 2) := by decide +kernel
theorem d_X5_multiply_65 : decode cX5_multiply 65 = .ok (.aload_n 0, 1) := by decide +kernel
theorem d_X5_multiply_66 : decode cX5_multiply 66 = .ok (.getfield 27, 3) := by decide +kernel
theorem d_X5_multiply_69 : decode cX5_multiply 69 = .ok (.iload_n 2, 1) := by decide +kernel
theorem d_X5_multiply_70 : decode cX5_multiply 70 = .ok (.iload 4, 2) := by decide +kernel
theorem d_X5_multiply_72 : decode cX5_multiply 72 = .ok (.iadd, 1) := by decide +kernel
theorem d_X5_multiply_73 : decode cX5_multiply 73 = .ok (.iload 5, 2) := by decide +kernel
theorem d_X5_multiply_75 : decode cX5_multiply 75 = .ok (.iconst 1, 1) := by decide +kernel
theorem d_X5_multiply_76 : decode cX5_multiply 76 = .ok (.iand, 1) := by decide +kernel
theorem d_X5_multiply_77 : decode cX5_multiply 77 = .ok (.iastore, 1) := by decide +kernel
theorem d_X5_multiply_78 : decode cX5_multiply 78 = .ok (.iload 5, 2) := by decide +kernel
theorem d_X5_multiply_80 : decode cX5_multiply 80 = .ok (.iconst 1, 1) := by decide +kernel
theorem d_X5_multiply_81 : decode cX5_multiply 81 = .ok (.ishr, 1) := by decide +kernel
theorem d_X5_multiply_82 : decode cX5_multiply 82 = .ok (.istore_n 3, 1) := by decide +kernel
theorem d_X5_multiply_83 : decode cX5_multiply 83 = .ok (.iinc 4 1, 3) := by decide +kernel
theorem d_X5_multiply_86 : decode cX5_multiply 86 = .ok (.goto (-62), 3) := by decide +kernel
theorem d_X5_multiply_89 : decode cX5_multiply 89 = .ok (.iinc 2 1, 3) := by decide +kernel
theorem d_X5_multiply_92 : decode cX5_multiply 92 = .ok (.goto (-90), 3) := by decide +kernel
theorem d_X5_multiply_95 : decode cX5_multiply 95 = .ok (.return_, 1) := by decide +kernel
theorem sg_X5_multiply_0 {L : Nat} {xs : Nat → Int32} {σ : ks_St} {mc ms : Nat} {P : ka_O → ks_St → Prop} {x1 : Int32}  (k1 : ks_W L xs mX5_multiply rm_X5_multiply 2 [(0, .ref 17), (1, .int x1), (2, .int 0)] [] σ mc ms P) : ks_W L xs mX5_multiply rm_X5_multiply 0 [(0, .ref 17), (1, .int x1)] [] σ mc ms P := by
  refine ka_iconst (v := 0) d_X5_multiply_0 rfl (by decide) ?_
  refine ka_istore_n (ls' := [(2, .int 0), (0, .ref 17), (1, .int x1)]) d_X5_multiply_1 rfl rfl (by decide) rfl ?_
  refine ka_sub [1, 2, 0] rfl ?_
  exact k1
theorem sg_X5_multiply_2 {L : Nat} {xs : Nat → Int32} {σ : ks_St} {mc ms : Nat} {P : ka_O → ks_St → Prop} {x1 : Int32} {x2 : Int32}  (r2 : (x1 ≤ x2) → P (.inl none) σ) (v3 : (¬ (x1 ≤ x2)) → vp_in x2 513) (k5 : (¬ (x1 ≤ x2)) → (¬ (sf_ σ 22 x2.toNatClampNeg) = 0) → ks_W L xs mX5_multiply rm_X5_multiply 24 [(0, .ref 17), (1, .int x1), (2, .int x2), (3, .int 0), (4, .int 0)] [] σ mc ms P) (k6 : (¬ (x1 ≤ x2)) → ((sf_ σ 22 x2.toNatClampNeg) = 0) → ks_W L xs mX5_multiply rm_X5_multiply 89 [(0, .ref 17), (1, .int x1), (2, .int x2)] [] σ mc ms P) : ks_W L xs mX5_multiply rm_X5_multiply 2 [(0, .ref 17), (1, .int x1), (2, .int x2)] [] σ mc ms P := by
  refine ka_iload_n d_X5_multiply_2 rfl rfl 2 rfl ?_
  refine ka_iload_n d_X5_multiply_3 rfl rfl 1 rfl ?_
  refine ka_icmp_ge (tgt := 95) d_X5_multiply_4 (by decide) rfl (fun c1 => ?_) (fun c1 => ?_)
  · exact ks_vret d_X5_multiply_95 rfl (r2 c1)
  · refine ka_aload_n d_X5_multiply_7 rfl rfl 0 rfl ?_
    refine gf_X5_8 d_X5_multiply_8 rfl fl_X5_24 ?_
    refine ka_iload_n d_X5_multiply_11 rfl rfl 2 rfl ?_
    refine ks_iald row_22 d_X5_multiply_12 rfl (v3 c1) ?_
    refine ka_if_ne (tgt := 19) d_X5_multiply_13 (by decide) rfl (fun c4 => ?_) (fun c4 => ?_)
    · refine ka_iconst (v := 0) d_X5_multiply_19 rfl (by decide) ?_
      refine ka_istore_n (ls' := [(3, .int 0), (0, .ref 17), (1, .int x1), (2, .int x2)]) d_X5_multiply_20 rfl rfl (by decide) rfl ?_
      refine ka_iconst (v := 0) d_X5_multiply_21 rfl (by decide) ?_
      refine ka_istore (ls' := [(4, .int 0), (3, .int 0), (0, .ref 17), (1, .int x1), (2, .int x2)]) d_X5_multiply_22 rfl (by decide) rfl ?_
      refine ka_sub [2, 3, 4, 1, 0] rfl ?_
      exact (k5 c1 c4)
    · refine ka_goto (q := 89) d_X5_multiply_16 (by decide) ?_
      exact (k6 c1 c4)
theorem sg_X5_multiply_24 {L : Nat} {xs : Nat → Int32} {σ : ks_St} {mc ms : Nat} {P : ka_O → ks_St → Prop} {x1 : Int32} {x2 : Int32} {x3 : Int32} {x4 : Int32}  (k2 : (x4 < x1) → ks_W L xs mX5_multiply rm_X5_multiply 34 [(0, .ref 17), (1, .int x1), (2, .int x2), (3, .int x3), (4, .int x4)] [] σ mc ms P) (k4 : (¬ (x4 < x1)) → (x3 ≤ 0) → ks_W L xs mX5_multiply rm_X5_multiply 89 [(0, .ref 17), (1, .int x1), (2, .int x2)] [] σ mc ms P) (k5 : (¬ (x4 < x1)) → (¬ (x3 ≤ 0)) → ks_W L xs mX5_multiply rm_X5_multiply 34 [(0, .ref 17), (1, .int x1), (2, .int x2), (3, .int x3), (4, .int x4)] [] σ mc ms P) : ks_W L xs mX5_multiply rm_X5_multiply 24 [(0, .ref 17), (1, .int x1), (2, .int x2), (3, .int x3), (4, .int x4)] [] σ mc ms P := by
  refine ka_iload d_X5_multiply_24 rfl 4 rfl ?_
  refine ka_iload_n d_X5_multiply_26 rfl rfl 1 rfl ?_
  refine ka_icmp_lt (tgt := 34) d_X5_multiply_27 (by decide) rfl (fun c1 => ?_) (fun c1 => ?_)
  · exact (k2 c1)
  · refine ka_iload_n d_X5_multiply_30 rfl rfl 3 rfl ?_
    refine ka_if_le (tgt := 89) d_X5_multiply_31 (by decide) rfl (fun c3 => ?_) (fun c3 => ?_)
    · refine ka_sub [0, 1, 2] rfl ?_
      exact (k4 c1 c3)
    · exact (k5 c1 c3)
theorem sg_X5_multiply_34 {L : Nat} {xs : Nat → Int32} {σ : ks_St} {mc ms : Nat} {P : ka_O → ks_St → Prop} {x1 : Int32} {x2 : Int32} {x3 : Int32} {x4 : Int32}  (v1 : vp_in (x2 + x4) 1026) (k3 : (x1 ≤ x4) → ks_W L xs mX5_multiply rm_X5_multiply 60 [(0, .ref 17), (1, .int x1), (2, .int x2), (3, .int x3), (4, .int x4)] [.int 0, .int (sf_ σ 23 (x2 + x4).toNatClampNeg)] σ mc ms P) (v4 : (¬ (x1 ≤ x4)) → vp_in x4 513) (k5 : (¬ (x1 ≤ x4)) → ks_W L xs mX5_multiply rm_X5_multiply 60 [(0, .ref 17), (1, .int x1), (2, .int x2), (3, .int x3), (4, .int x4)] [.int (sf_ σ 21 x4.toNatClampNeg), .int (sf_ σ 23 (x2 + x4).toNatClampNeg)] σ mc ms P) : ks_W L xs mX5_multiply rm_X5_multiply 34 [(0, .ref 17), (1, .int x1), (2, .int x2), (3, .int x3), (4, .int x4)] [] σ mc ms P := by
  refine ka_aload_n d_X5_multiply_34 rfl rfl 0 rfl ?_
  refine gf_X5_9 d_X5_multiply_35 rfl fl_X5_27 ?_
  refine ka_iload_n d_X5_multiply_38 rfl rfl 2 rfl ?_
  refine ka_iload d_X5_multiply_39 rfl 4 rfl ?_
  refine ka_iadd d_X5_multiply_41 rfl ?_
  refine ks_iald row_23 d_X5_multiply_42 rfl v1 ?_
  refine ka_iload d_X5_multiply_43 rfl 4 rfl ?_
  refine ka_iload_n d_X5_multiply_45 rfl rfl 1 rfl ?_
  refine ka_icmp_ge (tgt := 59) d_X5_multiply_46 (by decide) rfl (fun c2 => ?_) (fun c2 => ?_)
  · refine ka_iconst (v := 0) d_X5_multiply_59 rfl (by decide) ?_
    exact (k3 c2)
  · refine ka_aload_n d_X5_multiply_49 rfl rfl 0 rfl ?_
    refine gf_X5_7 d_X5_multiply_50 rfl fl_X5_21 ?_
    refine ka_iload d_X5_multiply_53 rfl 4 rfl ?_
    refine ks_iald row_21 d_X5_multiply_55 rfl (v4 c2) ?_
    refine ka_goto (q := 60) d_X5_multiply_56 (by decide) ?_
    exact (k5 c2)
theorem sg_X5_multiply_60 {L : Nat} {xs : Nat → Int32} {σ : ks_St} {mc ms : Nat} {P : ka_O → ks_St → Prop} {x1 : Int32} {x2 : Int32} {x3 : Int32} {x4 : Int32} {s0 : Int32} {s1 : Int32}  (v1 : vp_in (x2 + x4) 1026) (k2 : ks_W L xs mX5_multiply rm_X5_multiply 24 [(0, .ref 17), (1, .int x1), (2, .int x2), (3, .int (((s0 + s1) + x3) >>> ((1 : Int32) &&& 31))), (4, .int (x4 + 1))] [] (uf_ σ 23 (upd (sf_ σ 23) (x2 + x4).toNatClampNeg (((s0 + s1) + x3) &&& 1))) mc ms P) : ks_W L xs mX5_multiply rm_X5_multiply 60 [(0, .ref 17), (1, .int x1), (2, .int x2), (3, .int x3), (4, .int x4)] [.int s1, .int s0] σ mc ms P := by
  refine ka_iadd d_X5_multiply_60 rfl ?_
  refine ka_iload_n d_X5_multiply_61 rfl rfl 3 rfl ?_
  refine ka_iadd d_X5_multiply_62 rfl ?_
  refine ka_istore (ls' := [(5, .int ((s0 + s1) + x3)), (0, .ref 17), (1, .int x1), (2, .int x2), (3, .int x3), (4, .int x4)]) d_X5_multiply_63 rfl (by decide) rfl ?_
  refine ka_aload_n d_X5_multiply_65 rfl rfl 1 rfl ?_
  refine gf_X5_9 d_X5_multiply_66 rfl fl_X5_27 ?_
  refine ka_iload_n d_X5_multiply_69 rfl rfl 3 rfl ?_
  refine ka_iload d_X5_multiply_70 rfl 5 rfl ?_
  refine ka_iadd d_X5_multiply_72 rfl ?_
  refine ka_iload d_X5_multiply_73 rfl 0 rfl ?_
  refine ka_iconst (v := 1) d_X5_multiply_75 rfl (by decide) ?_
  refine ka_iand d_X5_multiply_76 rfl ?_
  refine ks_iast row_23 d_X5_multiply_77 rfl v1 ?_
  refine ka_iload d_X5_multiply_78 rfl 0 rfl ?_
  refine ka_iconst (v := 1) d_X5_multiply_80 rfl (by decide) ?_
  refine ka_ishr d_X5_multiply_81 rfl ?_
  refine ka_istore_n (ls' := [(3, .int (((s0 + s1) + x3) >>> ((1 : Int32) &&& 31))), (5, .int ((s0 + s1) + x3)), (0, .ref 17), (1, .int x1), (2, .int x2), (4, .int x4)]) d_X5_multiply_82 rfl rfl (by decide) rfl ?_
  refine ka_iinc (g := 5) (v := x4 + 1) (ls' := [(4, .int (x4 + 1)), (3, .int (((s0 + s1) + x3) >>> ((1 : Int32) &&& 31))), (5, .int ((s0 + s1) + x3)), (0, .ref 17), (1, .int x1), (2, .int x2)]) d_X5_multiply_83 rfl rfl rfl (by decide) rfl ?_
  refine ka_goto (q := 24) d_X5_multiply_86 (by decide) ?_
  refine ka_sub [3, 4, 5, 1, 0] rfl ?_
  exact k2
theorem sg_X5_multiply_89 {L : Nat} {xs : Nat → Int32} {σ : ks_St} {mc ms : Nat} {P : ka_O → ks_St → Prop} {x1 : Int32} {x2 : Int32}  (k1 : ks_W L xs mX5_multiply rm_X5_multiply 2 [(0, .ref 17), (1, .int x1), (2, .int (x2 + 1))] [] σ mc ms P) : ks_W L xs mX5_multiply rm_X5_multiply 89 [(0, .ref 17), (1, .int x1), (2, .int x2)] [] σ mc ms P := by
  refine ka_iinc (g := 2) (v := x2 + 1) (ls' := [(2, .int (x2 + 1)), (0, .ref 17), (1, .int x1)]) d_X5_multiply_89 rfl rfl rfl (by decide) rfl ?_
  refine ka_goto (q := 2) d_X5_multiply_92 (by decide) ?_
  refine ka_sub [1, 2, 0] rfl ?_
  exact k1
theorem d_X5_divide_0 : decode cX5_divide 0 = .ok (.iconst 0, 1) := by decide +kernel
theorem d_X5_divide_1 : decode cX5_divide 1 = .ok (.istore_n 2, 1) := by decide +kernel
theorem d_X5_divide_2 : decode cX5_divide 2 = .ok (.iload_n 2, 1) := by decide +kernel
theorem d_X5_divide_3 : decode cX5_divide 3 = .ok (.sipush 514, 3) := by decide +kernel
theorem d_X5_divide_6 : decode cX5_divide 6 = .ok (.if_icmp .ge 16, 3) := by decide +kernel
theorem d_X5_divide_9 : decode cX5_divide 9 = .ok (.aload_n 0, 1) := by decide +kernel
theorem d_X5_divide_10 : decode cX5_divide 10 = .ok (.getfield 30, 3) := by decide +kernel
theorem d_X5_divide_13 : decode cX5_divide 13 = .ok (.iload_n 2, 1) := by decide +kernel
theorem d_X5_divide_14 : decode cX5_divide 14 = .ok (.iconst 0, 1) := by decide +kernel
theorem d_X5_divide_15 : decode cX5_divide 15 = .ok (.iastore, 1) := by decide +kernel
theorem d_X5_divide_16 : decode cX5_divide 16 = .ok (.iinc 2 1, 3) := by decide +kernel
theorem d_X5_divide_19 : decode cX5_divide 19 = .ok (.goto (-17), 3) := by decide +kernel
theorem d_X5_divide_22 : decode cX5_divide 22 = .ok (.iload_n 1, 1) := by decide +kernel
theorem d_X5_divide_23 : decode cX5_divide 23 = .ok (.iconst 1, 1) := by decide +kernel
theorem d_X5_divide_24 : decode cX5_divide 24 = .ok (.isub, 1) := by decide +kernel
theorem d_X5_divide_25 : decode cX5_divide 25 = .ok (.istore_n 2, 1) := by decide +kernel
theorem d_X5_divide_26 : decode cX5_divide 26 = .ok (.iload_n 2, 1) := by decide +kernel
theorem d_X5_divide_27 : decode cX5_divide 27 = .ok (.ifCond .lt 199, 3) := by decide +kernel
theorem d_X5_divide_30 : decode cX5_divide 30 = .ok (.iload_n 1, 1) := by decide +kernel
theorem d_X5_divide_31 : decode cX5_divide 31 = .ok (.istore_n 3, 1) := by decide +kernel
theorem d_X5_divide_32 : decode cX5_divide 32 = .ok (.iload_n 3, 1) := by decide +kernel
theorem d_X5_divide_33 : decode cX5_divide 33 = .ok (.ifCond .le 23, 3) := by decide +kernel
theorem d_X5_divide_36 : decode cX5_divide 36 = .ok (.aload_n 0, 1) := by decide +kernel
theorem d_X5_divide_37 : decode cX5_divide 37 = .ok (.getfield 30, 3) := by decide +kernel
theorem d_X5_divide_40 : decode cX5_divide 40 = .ok (.iload_n 3, 1) := by decide +kernel
theorem d_X5_divide_41 : decode cX5_divide 41 = .ok (.aload_n 0, 1) := by decide +kernel
theorem d_X5_divide_42 : decode cX5_divide 42 = .ok (.getfield 30, 3) := by decide +kernel
theorem d_X5_divide_45 : decode cX5_divide 45 = .ok (.iload_n 3, 1) := by decide +kernel
theorem d_X5_divide_46 : decode cX5_divide 46 = .ok (.iconst 1, 1) := by decide +kernel
theorem d_X5_divide_47 : decode cX5_divide 47 = .ok (.isub, 1) := by decide +kernel
theorem d_X5_divide_48 : decode cX5_divide 48 = .ok (.iaload, 1) := by decide +kernel
theorem d_X5_divide_49 : decode cX5_divide 49 = .ok (.iastore, 1) := by decide +kernel
theorem d_X5_divide_50 : decode cX5_divide 50 = .ok (.iinc 3 (-1), 3) := by decide +kernel
theorem d_X5_divide_53 : decode cX5_divide 53 = .ok (.goto (-21), 3) := by decide +kernel
theorem d_X5_divide_56 : decode cX5_divide 56 = .ok (.aload_n 0, 1) := by decide +kernel
theorem d_X5_divide_57 : decode cX5_divide 57 = .ok (.getfield 30, 3) := by decide +kernel
theorem d_X5_divide_60 : decode cX5_divide 60 = .ok (.iconst 0, 1) := by decide +kernel
theorem d_X5_divide_61 : decode cX5_divide 61 = .ok (.aload_n 0, 1) := by decide +kernel
theorem d_X5_divide_62 : decode cX5_divide 62 = .ok (.getfield 21, 3) := by decide +kernel
theorem d_X5_divide_65 : decode cX5_divide 65 = .ok (.iload_n 2, 1) := by decide +kernel
theorem d_X5_divide_66 : decode cX5_divide 66 = .ok (.iaload, 1) := by decide +kernel
theorem d_X5_divide_67 : decode cX5_divide 67 = .ok (.iastore, 1) := by decide +kernel
theorem d_X5_divide_68 : decode cX5_divide 68 = .ok (.iload_n 1, 1) := by decide +kernel
theorem d_X5_divide_69 : decode cX5_divide 69 = .ok (.istore_n 3, 1) := by decide +kernel
theorem d_X5_divide_70 : decode cX5_divide 70 = .ok (.iload_n 3, 1) := by decide +kernel
theorem d_X5_divide_71 : decode cX5_divide 71 = .ok (.ifCond .le 33, 3) := by decide +kernel
theorem d_X5_divide_74 : decode cX5_divide 74 = .ok (.aload_n 0, 1) := by decide +kernel
theorem d_X5_divide_75 : decode cX5_divide 75 = .ok (.getfield 30, 3) := by decide +kernel
theorem d_X5_divide_78 : decode cX5_divide 78 = .ok (.iload_n 3, 1) := by decide +kernel
theorem d_X5_divide_79 : decode cX5_divide 79 = .ok (.iaload, 1) := by decide +kernel
theorem d_X5_divide_80 : decode cX5_divide 80 = .ok (.iload_n 3, 1) := by decide +kernel
theorem d_X5_divide_81 : decode cX5_divide 81 = .ok (.iload_n 1, 1) := by decide +kernel
theorem d_X5_divide_82 : decode cX5_divide 82 = .ok (.if_icmp .ge 12, 3) := by decide +kernel
theorem d_X5_divide_85 : decode cX5_divide 85 = .ok (.aload_n 0, 1) := by decide +kernel
theorem d_X5_divide_86 : decode cX5_divide 86 = .ok (.getfield 24, 3) := by decide +kernel
theorem d_X5_divide_89 : decode cX5_divide 89 = .ok (.iload_n 3, 1) := by decide +kernel
theorem d_X5_divide_90 : decode cX5_divide 90 = .ok (.iaload, 1) := by decide +kernel
theorem d_X5_divide_91 : decode cX5_divide 91 = .ok (.goto 4, 3) := by decide +kernel
theorem d_X5_divide_94 : decode cX5_divide 94 = .ok (.iconst 0, 1) := by decide +kernel
theorem d_X5_divide_95 : decode cX5_divide 95 = .ok (.if_icmp .ne 9, 3) := by decide +kernel
theorem d_X5_divide_98 : decode cX5_divide 98 = .ok (.iinc 3 (-1), 3) := by decide +kernel
theorem d_X5_divide_101 : decode cX5_divide 101 = .ok (.goto (-31), 3) := by decide +kernel
theorem d_X5_divide_104 : decode cX5_divide 104 = .ok (.aload_n 0, 1) := by decide +kernel
theorem d_X5_divide_105 : decode cX5_divide 105 = .ok (.getfield 27, 3) := by decide +kernel
theorem d_X5_divide_108 : decode cX5_divide 108 = .ok (.iload_n 2, 1) := by decide +kernel
theorem d_X5_divide_109 : decode cX5_divide 109 = .ok (.aload_n 0, 1) := by decide +kernel
theorem d_X5_divide_110 : decode cX5_divide 110 = .ok (.getfield 30, 3) := by decide +kernel
theorem d_X5_divide_113 : decode cX5_divide 113 = .ok (.iload_n 3, 1) := by decide +kernel
theorem d_X5_divide_114 : decode cX5_divide 114 = .ok (.iaload, 1) := by decide +kernel
theorem d_X5_divide_115 : decode cX5_divide 115 = .ok (.iload_n 3, 1) := by decide +kernel
theorem d_X5_divide_116 : decode cX5_divide 116 = .ok (.iload_n 1, 1) := by decide +kernel
theorem d_X5_divide_117 : decode cX5_divide 117 = .ok (.if_icmp .ge 12, 3) := by decide +kernel
theorem d_X5_divide_120 : decode cX5_divide 120 = .ok (.aload_n 0, 1) := by decide +kernel
theorem d_X5_divide_121 : decode cX5_divide 121 = .ok (.getfield 24, 3) := by decide +kernel
theorem d_X5_divide_124 : decode cX5_divide 124 = .ok (.iload_n 3, 1) := by decide +kernel
theorem d_X5_divide_125 : decode cX5_divide 125 = .ok (.iaload, 1) := by decide +kernel
theorem d_X5_divide_126 : decode cX5_divide 126 = .ok (.goto 4, 3) := by decide +kernel
theorem d_X5_divide_129 : decode cX5_divide 129 = .ok (.iconst 0, 1) := by decide +kernel
theorem d_X5_divide_130 : decode cX5_divide 130 = .ok (.if_icmp .lt 7, 3) := by decide +kernel
theorem d_X5_divide_133 : decode cX5_divide 133 = .ok (.iconst 1, 1) := by decide +kernel
theorem d_X5_divide_134 : decode cX5_divide 134 = .ok (.goto 4, 3) := by decide +kernel
theorem d_X5_divide_137 : decode cX5_divide 137 = .ok (.iconst 0, 1) := by decide +kernel
theorem d_X5_divide_138 : decode cX5_divide 138 = .ok (.iastore, 1) := by decide +kernel
theorem d_X5_divide_139 : decode cX5_divide 139 = .ok (.iconst 0, 1) := by decide +kernel
theorem d_X5_divide_140 : decode cX5_divide 140 = .ok (.istore 4, 2) := by decide +kernel
theorem d_X5_divide_142 : decode cX5_divide 142 = .ok (.iconst 0, 1) := by decide +kernel
theorem d_X5_divide_143 : decode cX5_divide 143 = .ok (.istore 5, 2) := by decide +kernel
theorem d_X5_divide_145 : decode cX5_divide 145 = .ok (.iload 5, 2) := by decide +kernel
theorem d_X5_divide_147 : decode cX5_divide 147 = .ok (.iload_n 1, 1) := by decide +kernel
theorem d_X5_divide_148 : decode cX5_divide 148 = .ok (.if_icmp .gt 72, 3) := by decide +kernel
theorem d_X5_divide_151 : decode cX5_divide 151 = .ok (.aload_n 0, 1) := by decide +kernel
theorem d_X5_divide_152 : decode cX5_divide 152 = .ok (.getfield 27, 3) := by decide +kernel
theorem d_X5_divide_155 : decode cX5_divide 155 = .ok (.iload_n 2, 1) := by decide +kernel
theorem d_X5_divide_156 : decode cX5_divide 156 = .ok (.iaload, 1) := by decide +kernel
theorem d_X5_divide_157 : decode cX5_divide 157 = .ok (.iconst 1, 1) := by decide +kernel
theorem d_X5_divide_158 : decode cX5_divide 158 = .ok (.if_icmp .ne 62, 3) := by decide +kernel
theorem d_X5_divide_161 : decode cX5_divide 161 = .ok (.aload_n 0, 1) := by decide +kernel
theorem d_X5_divide_162 : decode cX5_divide 162 = .ok (.getfield 30, 3) := by decide +kernel
theorem d_X5_divide_165 : decode cX5_divide 165 = .ok (.iload 5, 2) := by decide +kernel
theorem d_X5_divide_167 : decode cX5_divide 167 = .ok (.iaload, 1) := by decide +kernel
theorem d_X5_divide_168 : decode cX5_divide 168 = .ok (.iload 5, 2) := by decide +kernel
theorem d_X5_divide_170 : decode cX5_divide 170 = .ok (.iload_n 1, 1) := by decide +kernel
theorem d_X5_divide_171 : decode cX5_divide 171 = .ok (.if_icmp .ge 13, 3) := by decide +kernel
theorem d_X5_divide_174 : decode cX5_divide 174 = .ok (.aload_n 0, 1) := by decide +kernel
theorem d_X5_divide_175 : decode cX5_divide 175 = .ok (.getfield 24, 3) := by decide +kernel
theorem d_X5_divide_178 : decode cX5_divide 178 = .ok (.iload 5, 2) := by decide +kernel
theorem d_X5_divide_180 : decode cX5_divide 180 = .ok (.iaload, 1) := by decide +kernel
theorem d_X5_divide_181 : decode cX5_divide 181 = .ok (.goto 4, 3) := by decide +kernel
theorem d_X5_divide_184 : decode cX5_divide 184 = .ok (.iconst 0, 1) := by decide +kernel
theorem d_X5_divide_185 : decode cX5_divide 185 = .ok (.isub, 1) := by decide +kernel
theorem d_X5_divide_186 : decode cX5_divide 186 = .ok (.iload 4, 2) := by decide +kernel
theorem d_X5_divide_188 : decode cX5_divide 188 = .ok (.isub, 1) := by decide +kernel
theorem d_X5_divide_189 : decode cX5_divide 189 = .ok (.istore 6, 2) := by decide +kernel
theorem d_X5_divide_191 : decode cX5_divide 191 = .ok (.aload_n 0, 1) := by decide +kernel
theorem d_X5_divide_192 : decode cX5_divide 192 = .ok (.getfield 30, 3) := by decide +kernel
theorem d_X5_divide_195 : decode cX5_divide 195 = .ok (.iload 5, 2) := by decide +kernel
theorem d_X5_divide_197 : decode cX5_divide 197 = .ok (.iload 6, 2) := by decide +kernel
theorem d_X5_divide_199 : decode cX5_divide 199 = .ok (.iconst 1, 1) := by decide +kernel
theorem d_X5_divide_200 : decode cX5_divide 200 = .ok (.iand, 1) := by decide +kernel
theorem d_X5_divide_201 : decode cX5_divide 201 = .ok (.iastore, 1) := by decide +kernel
theorem d_X5_divide_202 : decode cX5_divide 202 = .ok (.iload 6, 2) := by decide +kernel
theorem d_X5_divide_204 : decode cX5_divide 204 = .ok (.ifCond .ge 7, 3) := by decide +kernel
theorem d_X5_divide_207 : decode cX5_divide 207 = .ok (.iconst 1, 1) := by decide +kernel
theorem d_X5_divide_208 : decode cX5_divide 208 = .ok (.goto 4, 3) := by decide +kernel
theorem d_X5_divide_211 : decode cX5_divide 211 = .ok (.iconst 0, 1) := by decide +kernel
theorem d_X5_divide_212 : decode cX5_divide 212 = .ok (.istore 4, 2) := by decide +kernel
theorem d_X5_divide_214 : decode cX5_divide 214 = .ok (.iinc 5 1, 3) := by decide +kernel
theorem d_X5_divide_217 : decode cX5_divide 217 = .ok (.goto (-72), 3) := by decide +kernel
theorem d_X5_divide_220 : decode cX5_divide 220 = .ok (.iinc 2 (-1), 3) := by decide +kernel
theorem d_X5_divide_223 : decode cX5_divide 223 = .ok (.goto (-197), 3) := by decide +kernel
theorem d_X5_divide_226 : decode cX5_divide 226 = .ok (.return_, 1) := by decide +kernel
theorem sg_X5_divide_0 {L : Nat} {xs : Nat → Int32} {σ : ks_St} {mc ms : Nat} {P : ka_O → ks_St → Prop} {x1 : Int32}  (k1 : ks_W L xs mX5_divide rm_X5_divide 2 [(0, .ref 17), (1, .int x1), (2, .int 0)] [] σ mc ms P) : ks_W L xs mX5_divide rm_X5_divide 0 [(0, .ref 17), (1, .int x1)] [] σ mc ms P := by
  refine ka_iconst (v := 0) d_X5_divide_0 rfl (by decide) ?_
  refine ka_istore_n (ls' := [(2, .int 0), (0, .ref 17), (1, .int x1)]) d_X5_divide_1 rfl rfl (by decide) rfl ?_
  refine ka_sub [1, 2, 0] rfl ?_
  exact k1
theorem sg_X5_divide_2 {L : Nat} {xs : Nat → Int32} {σ : ks_St} {mc ms : Nat} {P : ka_O → ks_St → Prop} {x1 : Int32} {x2 : Int32}  (k2 : (514 ≤ x2) → ks_W L xs mX5_divide rm_X5_divide 26 [(0, .ref 17), (1, .int x1), (2, .int (x1 - 1))] [] σ mc ms P) (v3 : (¬ (514 ≤ x2)) → vp_in x2 514) (k4 : (¬ (514 ≤ x2)) → ks_W L xs mX5_divide rm_X5_divide 2 [(0, .ref 17), (1, .int x1), (2, .int (x2 + 1))] [] (uf_ σ 24 (upd (sf_ σ 24) x2.toNatClampNeg 0)) mc ms P) : ks_W L xs mX5_divide rm_X5_divide 2 [(0, .ref 17), (1, .int x1), (2, .int x2)] [] σ mc ms P := by
  refine ka_iload_n d_X5_divide_2 rfl rfl 2 rfl ?_
  refine ka_sipush (v := 514) d_X5_divide_3 rfl (by decide) ?_
  refine ka_icmp_ge (tgt := 22) d_X5_divide_6 (by decide) rfl (fun c1 => ?_) (fun c1 => ?_)
  · refine ka_iload_n d_X5_divide_22 rfl rfl 1 rfl ?_
    refine ka_iconst (v := 1) d_X5_divide_23 rfl (by decide) ?_
    refine ka_isub d_X5_divide_24 rfl ?_
    refine ka_istore_n (ls' := [(2, .int (x1 - 1)), (0, .ref 17), (1, .int x1)]) d_X5_divide_25 rfl rfl (by decide) rfl ?_
    refine ka_sub [1, 2, 0] rfl ?_
    exact (k2 c1)
  · refine ka_aload_n d_X5_divide_9 rfl rfl 0 rfl ?_
    refine gf_X5_10 d_X5_divide_10 rfl fl_X5_30 ?_
    refine ka_iload_n d_X5_divide_13 rfl rfl 2 rfl ?_
    refine ka_iconst (v := 0) d_X5_divide_14 rfl (by decide) ?_
    refine ks_iast row_24 d_X5_divide_15 rfl (v3 c1) ?_
    refine ka_iinc (g := 2) (v := x2 + 1) (ls' := [(2, .int (x2 + 1)), (0, .ref 17), (1, .int x1)]) d_X5_divide_16 rfl rfl rfl (by decide) rfl ?_
    refine ka_goto (q := 2) d_X5_divide_19 (by decide) ?_
    refine ka_sub [1, 2, 0] rfl ?_
    exact (k4 c1)
theorem sg_X5_divide_26 {L : Nat} {xs : Nat → Int32} {σ : ks_St} {mc ms : Nat} {P : ka_O → ks_St → Prop} {x1 : Int32} {x2 : Int32}  (r2 : (x2 < 0) → P (.inl none) σ) (k3 : (¬ (x2 < 0)) → ks_W L xs mX5_divide rm_X5_divide 32 [(0, .ref 17), (1, .int x1), (2, .int x2), (3, .int x1)] [] σ mc ms P) : ks_W L xs mX5_divide rm_X5_divide 26 [(0, .ref 17), (1, .int x1), (2, .int x2)] [] σ mc ms P := by
  refine ka_iload_n d_X5_divide_26 rfl rfl 2 rfl ?_
  refine ka_if_lt (tgt := 226) d_X5_divide_27 (by decide) rfl (fun c1 => ?_) (fun c1 => ?_)
  · exact ks_vret d_X5_divide_226 rfl (r2 c1)
  · refine ka_iload_n d_X5_divide_30 rfl rfl 1 rfl ?_
    refine ka_istore_n (ls' := [(3, .int x1), (0, .ref 17), (1, .int x1), (2, .int x2)]) d_X5_divide_31 rfl rfl (by decide) rfl ?_
    refine ka_sub [1, 2, 3, 0] rfl ?_
    exact (k3 c1)
theorem sg_X5_divide_32 {L : Nat} {xs : Nat → Int32} {σ : ks_St} {mc ms : Nat} {P : ka_O → ks_St → Prop} {x1 : Int32} {x2 : Int32} {x3 : Int32}  (v2 : (x3 ≤ 0) → vp_in x2 513) (k3 : (x3 ≤ 0) → ks_W L xs mX5_divide rm_X5_divide 70 [(0, .ref 17), (1, .int x1), (2, .int x2), (3, .int x1)] [] (uf_ σ 24 (upd (sf_ σ 24) (0 : Int32).toNatClampNeg (sf_ σ 21 x2.toNatClampNeg))) mc ms P) (v4 : (¬ (x3 ≤ 0)) → vp_in (x3 - 1) 514) (v5 : (¬ (x3 ≤ 0)) → vp_in x3 514) (k6 : (¬ (x3 ≤ 0)) → ks_W L xs mX5_divide rm_X5_divide 32 [(0, .ref 17), (1, .int x1), (2, .int x2), (3, .int (x3 + (-1)))] [] (uf_ σ 24 (upd (sf_ σ 24) x3.toNatClampNeg (sf_ σ 24 (x3 - 1).toNatClampNeg))) mc ms P) : ks_W L xs mX5_divide rm_X5_divide 32 [(0, .ref 17), (1, .int x1), (2, .int x2), (3, .int x3)] [] σ mc ms P := by
  refine ka_iload_n d_X5_divide_32 rfl rfl 3 rfl ?_
  refine ka_if_le (tgt := 56) d_X5_divide_33 (by decide) rfl (fun c1 => ?_) (fun c1 => ?_)
  · refine ka_aload_n d_X5_divide_56 rfl rfl 0 rfl ?_
    refine gf_X5_10 d_X5_divide_57 rfl fl_X5_30 ?_
    refine ka_iconst (v := 0) d_X5_divide_60 rfl (by decide) ?_
    refine ka_aload_n d_X5_divide_61 rfl rfl 0 rfl ?_
    refine gf_X5_7 d_X5_divide_62 rfl fl_X5_21 ?_
    refine ka_iload_n d_X5_divide_65 rfl rfl 2 rfl ?_
    refine ks_iald row_21 d_X5_divide_66 rfl (v2 c1) ?_
    refine ks_iast row_24 d_X5_divide_67 rfl (by unfold vp_in; decide) ?_
    refine ka_iload_n d_X5_divide_68 rfl rfl 1 rfl ?_
    refine ka_istore_n (ls' := [(3, .int x1), (0, .ref 17), (1, .int x1), (2, .int x2)]) d_X5_divide_69 rfl rfl (by decide) rfl ?_
    refine ka_sub [1, 2, 3, 0] rfl ?_
    exact (k3 c1)
  · refine ka_aload_n d_X5_divide_36 rfl rfl 0 rfl ?_
    refine gf_X5_10 d_X5_divide_37 rfl fl_X5_30 ?_
    refine ka_iload_n d_X5_divide_40 rfl rfl 3 rfl ?_
    refine ka_aload_n d_X5_divide_41 rfl rfl 0 rfl ?_
    refine gf_X5_10 d_X5_divide_42 rfl fl_X5_30 ?_
    refine ka_iload_n d_X5_divide_45 rfl rfl 3 rfl ?_
    refine ka_iconst (v := 1) d_X5_divide_46 rfl (by decide) ?_
    refine ka_isub d_X5_divide_47 rfl ?_
    refine ks_iald row_24 d_X5_divide_48 rfl (v4 c1) ?_
    refine ks_iast row_24 d_X5_divide_49 rfl (v5 c1) ?_
    refine ka_iinc (g := 3) (v := x3 + (-1)) (ls' := [(3, .int (x3 + (-1))), (0, .ref 17), (1, .int x1), (2, .int x2)]) d_X5_divide_50 rfl rfl rfl (by decide) rfl ?_
    refine ka_goto (q := 32) d_X5_divide_53 (by decide) ?_
    refine ka_sub [1, 2, 3, 0] rfl ?_
    exact (k6 c1)
theorem sg_X5_divide_70 {L : Nat} {xs : Nat → Int32} {σ : ks_St} {mc ms : Nat} {P : ka_O → ks_St → Prop} {x1 : Int32} {x2 : Int32} {x3 : Int32}  (k2 : (x3 ≤ 0) → ks_W L xs mX5_divide rm_X5_divide 104 [(0, .ref 17), (1, .int x1), (2, .int x2), (3, .int x3)] [] σ mc ms P) (v3 : (¬ (x3 ≤ 0)) → vp_in x3 514) (k5 : (¬ (x3 ≤ 0)) → (x1 ≤ x3) → ks_W L xs mX5_divide rm_X5_divide 95 [(0, .ref 17), (1, .int x1), (2, .int x2), (3, .int x3)] [.int 0, .int (sf_ σ 24 x3.toNatClampNeg)] σ mc ms P) (v6 : (¬ (x3 ≤ 0)) → (¬ (x1 ≤ x3)) → vp_in x3 513) (k7 : (¬ (x3 ≤ 0)) → (¬ (x1 ≤ x3)) → ks_W L xs mX5_divide rm_X5_divide 95 [(0, .ref 17), (1, .int x1), (2, .int x2), (3, .int x3)] [.int (sf_ σ 22 x3.toNatClampNeg), .int (sf_ σ 24 x3.toNatClampNeg)] σ mc ms P) : ks_W L xs mX5_divide rm_X5_divide 70 [(0, .ref 17), (1, .int x1), (2, .int x2), (3, .int x3)] [] σ mc ms P := by
  refine ka_iload_n d_X5_divide_70 rfl rfl 3 rfl ?_
  refine ka_if_le (tgt := 104) d_X5_divide_71 (by decide) rfl (fun c1 => ?_) (fun c1 => ?_)
  · exact (k2 c1)
  · refine ka_aload_n d_X5_divide_74 rfl rfl 0 rfl ?_
    refine gf_X5_10 d_X5_divide_75 rfl fl_X5_30 ?_
    refine ka_iload_n d_X5_divide_78 rfl rfl 3 rfl ?_
    refine ks_iald row_24 d_X5_divide_79 rfl (v3 c1) ?_
    refine ka_iload_n d_X5_divide_80 rfl rfl 3 rfl ?_
    refine ka_iload_n d_X5_divide_81 rfl rfl 1 rfl ?_
    refine ka_icmp_ge (tgt := 94) d_X5_divide_82 (by decide) rfl (fun c4 => ?_) (fun c4 => ?_)
    · refine ka_iconst (v := 0) d_X5_divide_94 rfl (by decide) ?_
      exact (k5 c1 c4)
    · refine ka_aload_n d_X5_divide_85 rfl rfl 0 rfl ?_
      refine gf_X5_8 d_X5_divide_86 rfl fl_X5_24 ?_
      refine ka_iload_n d_X5_divide_89 rfl rfl 3 rfl ?_
      refine ks_iald row_22 d_X5_divide_90 rfl (v6 c1 c4) ?_
      refine ka_goto (q := 95) d_X5_divide_91 (by decide) ?_
      exact (k7 c1 c4)
theorem sg_X5_divide_95 {L : Nat} {xs : Nat → Int32} {σ : ks_St} {mc ms : Nat} {P : ka_O → ks_St → Prop} {x1 : Int32} {x2 : Int32} {x3 : Int32} {s0 : Int32} {s1 : Int32}  (k2 : (¬ s0 = s1) → ks_W L xs mX5_divide rm_X5_divide 104 [(0, .ref 17), (1, .int x1), (2, .int x2), (3, .int x3)] [] σ mc ms P) (k3 : (s0 = s1) → ks_W L xs mX5_divide rm_X5_divide 70 [(0, .ref 17), (1, .int x1), (2, .int x2), (3, .int (x3 + (-1)))] [] σ mc ms P) : ks_W L xs mX5_divide rm_X5_divide 95 [(0, .ref 17), (1, .int x1), (2, .int x2), (3, .int x3)] [.int s1, .int s0] σ mc ms P := by
  refine ka_icmp_ne (tgt := 104) d_X5_divide_95 (by decide) rfl (fun c1 => ?_) (fun c1 => ?_)
  · exact (k2 c1)
  · refine ka_iinc (g := 3) (v := x3 + (-1)) (ls' := [(3, .int (x3 + (-1))), (0, .ref 17), (1, .int x1), (2, .int x2)]) d_X5_divide_98 rfl rfl rfl (by decide) rfl ?_
    refine ka_goto (q := 70) d_X5_divide_101 (by decide) ?_
    refine ka_sub [1, 2, 3, 0] rfl ?_
    exact (k3 c1)
theorem sg_X5_divide_104 {L : Nat} {xs : Nat → Int32} {σ : ks_St} {mc ms : Nat} {P : ka_O → ks_St → Prop} {x1 : Int32} {x2 : Int32} {x3 : Int32}  (v1 : vp_in x3 514) (k3 : (x1 ≤ x3) → ks_W L xs mX5_divide rm_X5_divide 130 [(0, .ref 17), (1, .int x1), (2, .int x2)] [.int 0, .int (sf_ σ 24 x3.toNatClampNeg), .int x2, .ref 23] σ mc ms P) (v4 : (¬ (x1 ≤ x3)) → vp_in x3 513) (k5 : (¬ (x1 ≤ x3)) → ks_W L xs mX5_divide rm_X5_divide 130 [(0, .ref 17), (1, .int x1), (2, .int x2)] [.int (sf_ σ 22 x3.toNatClampNeg), .int (sf_ σ 24 x3.toNatClampNeg), .int x2, .ref 23] σ mc ms P) : ks_W L xs mX5_divide rm_X5_divide 104 [(0, .ref 17), (1, .int x1), (2, .int x2), (3, .int x3)] [] σ mc ms P := by
  refine ka_aload_n d_X5_divide_104 rfl rfl 0 rfl ?_
  refine gf_X5_9 d_X5_divide_105 rfl fl_X5_27 ?_
  refine ka_iload_n d_X5_divide_108 rfl rfl 2 rfl ?_
  refine ka_aload_n d_X5_divide_109 rfl rfl 0 rfl ?_
  refine gf_X5_10 d_X5_divide_110 rfl fl_X5_30 ?_
  refine ka_iload_n d_X5_divide_113 rfl rfl 3 rfl ?_
  refine ks_iald row_24 d_X5_divide_114 rfl v1 ?_
  refine ka_iload_n d_X5_divide_115 rfl rfl 3 rfl ?_
  refine ka_iload_n d_X5_divide_116 rfl rfl 1 rfl ?_
  refine ka_icmp_ge (tgt := 129) d_X5_divide_117 (by decide) rfl (fun c2 => ?_) (fun c2 => ?_)
  · refine ka_iconst (v := 0) d_X5_divide_129 rfl (by decide) ?_
    refine ka_sub [0, 1, 2] rfl ?_
    exact (k3 c2)
  · refine ka_aload_n d_X5_divide_120 rfl rfl 0 rfl ?_
    refine gf_X5_8 d_X5_divide_121 rfl fl_X5_24 ?_
    refine ka_iload_n d_X5_divide_124 rfl rfl 3 rfl ?_
    refine ks_iald row_22 d_X5_divide_125 rfl (v4 c2) ?_
    refine ka_goto (q := 130) d_X5_divide_126 (by decide) ?_
    refine ka_sub [0, 1, 2] rfl ?_
    exact (k5 c2)
theorem sg_X5_divide_130 {L : Nat} {xs : Nat → Int32} {σ : ks_St} {mc ms : Nat} {P : ka_O → ks_St → Prop} {x1 : Int32} {x2 : Int32} {s1 : Int32} {s2 : Int32} {s3 : Int32}  (k2 : (s2 < s3) → ks_W L xs mX5_divide rm_X5_divide 138 [(0, .ref 17), (1, .int x1), (2, .int x2)] [.int 0, .int s1, .ref 23] σ mc ms P) (k3 : (¬ (s2 < s3)) → ks_W L xs mX5_divide rm_X5_divide 138 [(0, .ref 17), (1, .int x1), (2, .int x2)] [.int 1, .int s1, .ref 23] σ mc ms P) : ks_W L xs mX5_divide rm_X5_divide 130 [(0, .ref 17), (1, .int x1), (2, .int x2)] [.int s3, .int s2, .int s1, .ref 23] σ mc ms P := by
  refine ka_icmp_lt (tgt := 137) d_X5_divide_130 (by decide) rfl (fun c1 => ?_) (fun c1 => ?_)
  · refine ka_iconst (v := 0) d_X5_divide_137 rfl (by decide) ?_
    exact (k2 c1)
  · refine ka_iconst (v := 1) d_X5_divide_133 rfl (by decide) ?_
    refine ka_goto (q := 138) d_X5_divide_134 (by decide) ?_
    exact (k3 c1)
theorem sg_X5_divide_138 {L : Nat} {xs : Nat → Int32} {σ : ks_St} {mc ms : Nat} {P : ka_O → ks_St → Prop} {x1 : Int32} {x2 : Int32} {s1 : Int32} {s2 : Int32}  (v1 : vp_in s1 1026) (k2 : ks_W L xs mX5_divide rm_X5_divide 145 [(0, .ref 17), (1, .int x1), (2, .int x2), (4, .int 0), (5, .int 0)] [] (uf_ σ 23 (upd (sf_ σ 23) s1.toNatClampNeg s2)) mc ms P) : ks_W L xs mX5_divide rm_X5_divide 138 [(0, .ref 17), (1, .int x1), (2, .int x2)] [.int s2, .int s1, .ref 23] σ mc ms P := by
  refine ks_iast row_23 d_X5_divide_138 rfl v1 ?_
  refine ka_iconst (v := 0) d_X5_divide_139 rfl (by decide) ?_
  refine ka_istore (ls' := [(4, .int 0), (0, .ref 17), (1, .int x1), (2, .int x2)]) d_X5_divide_140 rfl (by decide) rfl ?_
  refine ka_iconst (v := 0) d_X5_divide_142 rfl (by decide) ?_
  refine ka_istore (ls' := [(5, .int 0), (4, .int 0), (0, .ref 17), (1, .int x1), (2, .int x2)]) d_X5_divide_143 rfl (by decide) rfl ?_
  refine ka_sub [2, 3, 4, 1, 0] rfl ?_
  exact k2
theorem sg_X5_divide_145 {L : Nat} {xs : Nat → Int32} {σ : ks_St} {mc ms : Nat} {P : ka_O → ks_St → Prop} {x1 : Int32} {x2 : Int32} {x4 : Int32} {x5 : Int32}  (k2 : (x1 < x5) → ks_W L xs mX5_divide rm_X5_divide 220 [(0, .ref 17), (1, .int x1), (2, .int x2)] [] σ mc ms P) (v3 : (¬ (x1 < x5)) → vp_in x2 1026) (k5 : (¬ (x1 < x5)) → (¬ (sf_ σ 23 x2.toNatClampNeg) = 1) → ks_W L xs mX5_divide rm_X5_divide 220 [(0, .ref 17), (1, .int x1), (2, .int x2)] [] σ mc ms P) (v6 : (¬ (x1 < x5)) → ((sf_ σ 23 x2.toNatClampNeg) = 1) → vp_in x5 514) (k8 : (¬ (x1 < x5)) → ((sf_ σ 23 x2.toNatClampNeg) = 1) → (x1 ≤ x5) → ks_W L xs mX5_divide rm_X5_divide 185 [(0, .ref 17), (1, .int x1), (2, .int x2), (4, .int x4), (5, .int x5)] [.int 0, .int (sf_ σ 24 x5.toNatClampNeg)] σ mc ms P) (v9 : (¬ (x1 < x5)) → ((sf_ σ 23 x2.toNatClampNeg) = 1) → (¬ (x1 ≤ x5)) → vp_in x5 513) (k10 : (¬ (x1 < x5)) → ((sf_ σ 23 x2.toNatClampNeg) = 1) → (¬ (x1 ≤ x5)) → ks_W L xs mX5_divide rm_X5_divide 185 [(0, .ref 17), (1, .int x1), (2, .int x2), (4, .int x4), (5, .int x5)] [.int (sf_ σ 22 x5.toNatClampNeg), .int (sf_ σ 24 x5.toNatClampNeg)] σ mc ms P) : ks_W L xs mX5_divide rm_X5_divide 145 [(0, .ref 17), (1, .int x1), (2, .int x2), (4, .int x4), (5, .int x5)] [] σ mc ms P := by
  refine ka_iload d_X5_divide_145 rfl 4 rfl ?_
  refine ka_iload_n d_X5_divide_147 rfl rfl 1 rfl ?_
  refine ka_icmp_gt (tgt := 220) d_X5_divide_148 (by decide) rfl (fun c1 => ?_) (fun c1 => ?_)
  · refine ka_sub [0, 1, 2] rfl ?_
    exact (k2 c1)
  · refine ka_aload_n d_X5_divide_151 rfl rfl 0 rfl ?_
    refine gf_X5_9 d_X5_divide_152 rfl fl_X5_27 ?_
    refine ka_iload_n d_X5_divide_155 rfl rfl 2 rfl ?_
    refine ks_iald row_23 d_X5_divide_156 rfl (v3 c1) ?_
    refine ka_iconst (v := 1) d_X5_divide_157 rfl (by decide) ?_
    refine ka_icmp_ne (tgt := 220) d_X5_divide_158 (by decide) rfl (fun c4 => ?_) (fun c4 => ?_)
    · refine ka_sub [0, 1, 2] rfl ?_
      exact (k5 c1 c4)
    · refine ka_aload_n d_X5_divide_161 rfl rfl 0 rfl ?_
      refine gf_X5_10 d_X5_divide_162 rfl fl_X5_30 ?_
      refine ka_iload d_X5_divide_165 rfl 4 rfl ?_
      refine ks_iald row_24 d_X5_divide_167 rfl (v6 c1 c4) ?_
      refine ka_iload d_X5_divide_168 rfl 4 rfl ?_
      refine ka_iload_n d_X5_divide_170 rfl rfl 1 rfl ?_
      refine ka_icmp_ge (tgt := 184) d_X5_divide_171 (by decide) rfl (fun c7 => ?_) (fun c7 => ?_)
      · refine ka_iconst (v := 0) d_X5_divide_184 rfl (by decide) ?_
        exact (k8 c1 c4 c7)
      · refine ka_aload_n d_X5_divide_174 rfl rfl 0 rfl ?_
        refine gf_X5_8 d_X5_divide_175 rfl fl_X5_24 ?_
        refine ka_iload d_X5_divide_178 rfl 4 rfl ?_
        refine ks_iald row_22 d_X5_divide_180 rfl (v9 c1 c4 c7) ?_
        refine ka_goto (q := 185) d_X5_divide_181 (by decide) ?_
        exact (k10 c1 c4 c7)
theorem sg_X5_divide_185 {L : Nat} {xs : Nat → Int32} {σ : ks_St} {mc ms : Nat} {P : ka_O → ks_St → Prop} {x1 : Int32} {x2 : Int32} {x4 : Int32} {x5 : Int32} {s0 : Int32} {s1 : Int32}  (v1 : vp_in x5 514) (k3 : (0 ≤ ((s0 - s1) - x4)) → ks_W L xs mX5_divide rm_X5_divide 212 [(0, .ref 17), (1, .int x1), (2, .int x2), (5, .int x5)] [.int 0] (uf_ σ 24 (upd (sf_ σ 24) x5.toNatClampNeg (((s0 - s1) - x4) &&& 1))) mc ms P) (k4 : (¬ (0 ≤ ((s0 - s1) - x4))) → ks_W L xs mX5_divide rm_X5_divide 212 [(0, .ref 17), (1, .int x1), (2, .int x2), (5, .int x5)] [.int 1] (uf_ σ 24 (upd (sf_ σ 24) x5.toNatClampNeg (((s0 - s1) - x4) &&& 1))) mc ms P) : ks_W L xs mX5_divide rm_X5_divide 185 [(0, .ref 17), (1, .int x1), (2, .int x2), (4, .int x4), (5, .int x5)] [.int s1, .int s0] σ mc ms P := by
  refine ka_isub d_X5_divide_185 rfl ?_
  refine ka_iload d_X5_divide_186 rfl 3 rfl ?_
  refine ka_isub d_X5_divide_188 rfl ?_
  refine ka_istore (ls' := [(6, .int ((s0 - s1) - x4)), (0, .ref 17), (1, .int x1), (2, .int x2), (4, .int x4), (5, .int x5)]) d_X5_divide_189 rfl (by decide) rfl ?_
  refine ka_aload_n d_X5_divide_191 rfl rfl 1 rfl ?_
  refine gf_X5_10 d_X5_divide_192 rfl fl_X5_30 ?_
  refine ka_iload d_X5_divide_195 rfl 5 rfl ?_
  refine ka_iload d_X5_divide_197 rfl 0 rfl ?_
  refine ka_iconst (v := 1) d_X5_divide_199 rfl (by decide) ?_
  refine ka_iand d_X5_divide_200 rfl ?_
  refine ks_iast row_24 d_X5_divide_201 rfl v1 ?_
  refine ka_iload d_X5_divide_202 rfl 0 rfl ?_
  refine ka_if_ge (tgt := 211) d_X5_divide_204 (by decide) rfl (fun c2 => ?_) (fun c2 => ?_)
  · refine ka_iconst (v := 0) d_X5_divide_211 rfl (by decide) ?_
    refine ka_sub [1, 2, 3, 5] rfl ?_
    exact (k3 c2)
  · refine ka_iconst (v := 1) d_X5_divide_207 rfl (by decide) ?_
    refine ka_goto (q := 212) d_X5_divide_208 (by decide) ?_
    refine ka_sub [1, 2, 3, 5] rfl ?_
    exact (k4 c2)
theorem sg_X5_divide_212 {L : Nat} {xs : Nat → Int32} {σ : ks_St} {mc ms : Nat} {P : ka_O → ks_St → Prop} {x1 : Int32} {x2 : Int32} {x5 : Int32} {s0 : Int32}  (k1 : ks_W L xs mX5_divide rm_X5_divide 145 [(0, .ref 17), (1, .int x1), (2, .int x2), (4, .int s0), (5, .int (x5 + 1))] [] σ mc ms P) : ks_W L xs mX5_divide rm_X5_divide 212 [(0, .ref 17), (1, .int x1), (2, .int x2), (5, .int x5)] [.int s0] σ mc ms P := by
  refine ka_istore (ls' := [(4, .int s0), (0, .ref 17), (1, .int x1), (2, .int x2), (5, .int x5)]) d_X5_divide_212 rfl (by decide) rfl ?_
  refine ka_iinc (g := 4) (v := x5 + 1) (ls' := [(5, .int (x5 + 1)), (4, .int s0), (0, .ref 17), (1, .int x1), (2, .int x2)]) d_X5_divide_214 rfl rfl rfl (by decide) rfl ?_
  refine ka_goto (q := 145) d_X5_divide_217 (by decide) ?_
  refine ka_sub [2, 3, 4, 1, 0] rfl ?_
  exact k1
theorem sg_X5_divide_220 {L : Nat} {xs : Nat → Int32} {σ : ks_St} {mc ms : Nat} {P : ka_O → ks_St → Prop} {x1 : Int32} {x2 : Int32}  (k1 : ks_W L xs mX5_divide rm_X5_divide 26 [(0, .ref 17), (1, .int x1), (2, .int (x2 + (-1)))] [] σ mc ms P) : ks_W L xs mX5_divide rm_X5_divide 220 [(0, .ref 17), (1, .int x1), (2, .int x2)] [] σ mc ms P := by
  refine ka_iinc (g := 2) (v := x2 + (-1)) (ls' := [(2, .int (x2 + (-1))), (0, .ref 17), (1, .int x1)]) d_X5_divide_220 rfl rfl rfl (by decide) rfl ?_
  refine ka_goto (q := 26) d_X5_divide_223 (by decide) ?_
  refine ka_sub [1, 2, 0] rfl ?_
  exact k1
theorem d_X5_takeRest_0 : decode cX5_takeRest 0 = .ok (.iconst 0, 1) := by decide +kernel
theorem d_X5_takeRest_1 : decode cX5_takeRest 1 = .ok (.istore_n 2, 1) := by decide +kernel
theorem d_X5_takeRest_2 : decode cX5_takeRest 2 = .ok (.iload_n 2, 1) := by decide +kernel
theorem d_X5_takeRest_3 : decode cX5_takeRest 3 = .ok (.iload_n 1, 1) := by decide +kernel
theorem d_X5_takeRest_4 : decode cX5_takeRest 4 = .ok (.if_icmp .ge 21, 3) := by decide +kernel
theorem d_X5_takeRest_7 : decode cX5_takeRest 7 = .ok (.aload_n 0, 1) := by decide +kernel
theorem d_X5_takeRest_8 : decode cX5_takeRest 8 = .ok (.getfield 27, 3) := by decide +kernel
theorem d_X5_takeRest_11 : decode cX5_takeRest 11 = .ok (.iload_n 2, 1) := by decide +kernel
theorem d_X5_takeRest_12 : decode cX5_takeRest 12 = .ok (.aload_n 0, 1) := by decide +kernel
theorem d_X5_takeRest_13 : decode cX5_takeRest 13 = .ok (.getfield 30, 3) := by decide +kernel
theorem d_X5_takeRest_16 : decode cX5_takeRest 16 = .ok (.iload_n 2, 1) := by decide +kernel
theorem d_X5_takeRest_17 : decode cX5_takeRest 17 = .ok (.iaload, 1) := by decide +kernel
theorem d_X5_takeRest_18 : decode cX5_takeRest 18 = .ok (.iastore, 1) := by decide +kernel
theorem d_X5_takeRest_19 : decode cX5_takeRest 19 = .ok (.iinc 2 1, 3) := by decide +kernel
theorem d_X5_takeRest_22 : decode cX5_takeRest 22 = .ok (.goto (-20), 3) := by decide +kernel
theorem d_X5_takeRest_25 : decode cX5_takeRest 25 = .ok (.return_, 1) := by decide +kernel
theorem sg_X5_takeRest_0 {L : Nat} {xs : Nat → Int32} {σ : ks_St} {mc ms : Nat} {P : ka_O → ks_St → Prop} {x1 : Int32}  (k1 : ks_W L xs mX5_takeRest rm_X5_takeRest 2 [(0, .ref 17), (1, .int x1), (2, .int 0)] [] σ mc ms P) : ks_W L xs mX5_takeRest rm_X5_takeRest 0 [(0, .ref 17), (1, .int x1)] [] σ mc ms P := by
  refine ka_iconst (v := 0) d_X5_takeRest_0 rfl (by decide) ?_
  refine ka_istore_n (ls' := [(2, .int 0), (0, .ref 17), (1, .int x1)]) d_X5_takeRest_1 rfl rfl (by decide) rfl ?_
  refine ka_sub [1, 2, 0] rfl ?_
  exact k1
theorem sg_X5_takeRest_2 {L : Nat} {xs : Nat → Int32} {σ : ks_St} {mc ms : Nat} {P : ka_O → ks_St → Prop} {x1 : Int32} {x2 : Int32}  (r2 : (x1 ≤ x2) → P (.inl none) σ) (v3 : (¬ (x1 ≤ x2)) → vp_in x2 514) (v4 : (¬ (x1 ≤ x2)) → vp_in x2 1026) (k5 : (¬ (x1 ≤ x2)) → ks_W L xs mX5_takeRest rm_X5_takeRest 2 [(0, .ref 17), (1, .int x1), (2, .int (x2 + 1))] [] (uf_ σ 23 (upd (sf_ σ 23) x2.toNatClampNeg (sf_ σ 24 x2.toNatClampNeg))) mc ms P) : ks_W L xs mX5_takeRest rm_X5_takeRest 2 [(0, .ref 17), (1, .int x1), (2, .int x2)] [] σ mc ms P := by
  refine ka_iload_n d_X5_takeRest_2 rfl rfl 2 rfl ?_
  refine ka_iload_n d_X5_takeRest_3 rfl rfl 1 rfl ?_
  refine ka_icmp_ge (tgt := 25) d_X5_takeRest_4 (by decide) rfl (fun c1 => ?_) (fun c1 => ?_)
  · exact ks_vret d_X5_takeRest_25 rfl (r2 c1)
  · refine ka_aload_n d_X5_takeRest_7 rfl rfl 0 rfl ?_
    refine gf_X5_9 d_X5_takeRest_8 rfl fl_X5_27 ?_
    refine ka_iload_n d_X5_takeRest_11 rfl rfl 2 rfl ?_
    refine ka_aload_n d_X5_takeRest_12 rfl rfl 0 rfl ?_
    refine gf_X5_10 d_X5_takeRest_13 rfl fl_X5_30 ?_
    refine ka_iload_n d_X5_takeRest_16 rfl rfl 2 rfl ?_
    refine ks_iald row_24 d_X5_takeRest_17 rfl (v3 c1) ?_
    refine ks_iast row_23 d_X5_takeRest_18 rfl (v4 c1) ?_
    refine ka_iinc (g := 2) (v := x2 + 1) (ls' := [(2, .int (x2 + 1)), (0, .ref 17), (1, .int x1)]) d_X5_takeRest_19 rfl rfl rfl (by decide) rfl ?_
    refine ka_goto (q := 2) d_X5_takeRest_22 (by decide) ?_
    refine ka_sub [1, 2, 0] rfl ?_
    exact (k5 c1)
theorem d_X5_amountOfB_0 : decode cX5_amountOfB 0 = .ok (.iconst 0, 1) := by decide +kernel
theorem d_X5_amountOfB_1 : decode cX5_amountOfB 1 = .ok (.istore_n 2, 1) := by decide +kernel
theorem d_X5_amountOfB_2 : decode cX5_amountOfB 2 = .ok (.iload_n 1, 1) := by decide +kernel
theorem d_X5_amountOfB_3 : decode cX5_amountOfB 3 = .ok (.iconst 1, 1) := by decide +kernel
theorem d_X5_amountOfB_4 : decode cX5_amountOfB 4 = .ok (.isub, 1) := by decide +kernel
theorem d_X5_amountOfB_5 : decode cX5_amountOfB 5 = .ok (.istore_n 3, 1) := by decide +kernel
theorem d_X5_amountOfB_6 : decode cX5_amountOfB 6 = .ok (.iload_n 3, 1) := by decide +kernel
theorem d_X5_amountOfB_7 : decode cX5_amountOfB 7 = .ok (.ifCond .lt 33, 3) := by decide +kernel
theorem d_X5_amountOfB_10 : decode cX5_amountOfB 10 = .ok (.iload_n 2, 1) := by decide +kernel
theorem d_X5_amountOfB_11 : decode cX5_amountOfB 11 = .ok (.sipush 999, 3) := by decide +kernel
theorem d_X5_amountOfB_14 : decode cX5_amountOfB 14 = .ok (.if_icmp .le 9, 3) := by decide +kernel
theorem d_X5_amountOfB_17 : decode cX5_amountOfB 17 = .ok (.sipush 2000, 3) := by decide +kernel
theorem d_X5_amountOfB_20 : decode cX5_amountOfB 20 = .ok (.goto 13, 3) := by decide +kernel
theorem d_X5_amountOfB_23 : decode cX5_amountOfB 23 = .ok (.iconst 2, 1) := by decide +kernel
theorem d_X5_amountOfB_24 : decode cX5_amountOfB 24 = .ok (.iload_n 2, 1) := by decide +kernel
theorem d_X5_amountOfB_25 : decode cX5_amountOfB 25 = .ok (.imul, 1) := by decide +kernel
theorem d_X5_amountOfB_26 : decode cX5_amountOfB 26 = .ok (.aload_n 0, 1) := by decide +kernel
theorem d_X5_amountOfB_27 : decode cX5_amountOfB 27 = .ok (.getfield 24, 3) := by decide +kernel
theorem d_X5_amountOfB_30 : decode cX5_amountOfB 30 = .ok (.iload_n 3, 1) := by decide +kernel
theorem d_X5_amountOfB_31 : decode cX5_amountOfB 31 = .ok (.iaload, 1) := by decide +kernel
theorem d_X5_amountOfB_32 : decode cX5_amountOfB 32 = .ok (.iadd, 1) := by decide +kernel
theorem d_X5_amountOfB_33 : decode cX5_amountOfB 33 = .ok (.istore_n 2, 1) := by decide +kernel
theorem d_X5_amountOfB_34 : decode cX5_amountOfB 34 = .ok (.iinc 3 (-1), 3) := by decide +kernel
theorem d_X5_amountOfB_37 : decode cX5_amountOfB 37 = .ok (.goto (-31), 3) := by decide +kernel
theorem d_X5_amountOfB_40 : decode cX5_amountOfB 40 = .ok (.iload_n 2, 1) := by decide +kernel
theorem d_X5_amountOfB_41 : decode cX5_amountOfB 41 = .ok (.ireturn, 1) := by decide +kernel
theorem sg_X5_amountOfB_0 {L : Nat} {xs : Nat → Int32} {σ : ks_St} {mc ms : Nat} {P : ka_O → ks_St → Prop} {x1 : Int32}  (k1 : ks_W L xs mX5_amountOfB rm_X5_amountOfB 6 [(0, .ref 17), (2, .int 0), (3, .int (x1 - 1))] [] σ mc ms P) : ks_W L xs mX5_amountOfB rm_X5_amountOfB 0 [(0, .ref 17), (1, .int x1)] [] σ mc ms P := by
  refine ka_iconst (v := 0) d_X5_amountOfB_0 rfl (by decide) ?_
  refine ka_istore_n (ls' := [(2, .int 0), (0, .ref 17), (1, .int x1)]) d_X5_amountOfB_1 rfl rfl (by decide) rfl ?_
  refine ka_iload_n d_X5_amountOfB_2 rfl rfl 2 rfl ?_
  refine ka_iconst (v := 1) d_X5_amountOfB_3 rfl (by decide) ?_
  refine ka_isub d_X5_amountOfB_4 rfl ?_
  refine ka_istore_n (ls' := [(3, .int (x1 - 1)), (2, .int 0), (0, .ref 17), (1, .int x1)]) d_X5_amountOfB_5 rfl rfl (by decide) rfl ?_
  refine ka_sub [2, 1, 0] rfl ?_
  exact k1
theorem sg_X5_amountOfB_6 {L : Nat} {xs : Nat → Int32} {σ : ks_St} {mc ms : Nat} {P : ka_O → ks_St → Prop} {x2 : Int32} {x3 : Int32}  (r2 : (x3 < 0) → P (.inl (some (.int x2))) σ) (v4 : (¬ (x3 < 0)) → (x2 ≤ 999) → vp_in x3 513) (k5 : (¬ (x3 < 0)) → (x2 ≤ 999) → ks_W L xs mX5_amountOfB rm_X5_amountOfB 33 [(0, .ref 17), (3, .int x3)] [.int ((2 * x2) + (sf_ σ 22 x3.toNatClampNeg))] σ mc ms P) (k6 : (¬ (x3 < 0)) → (¬ (x2 ≤ 999)) → ks_W L xs mX5_amountOfB rm_X5_amountOfB 33 [(0, .ref 17), (3, .int x3)] [.int 2000] σ mc ms P) : ks_W L xs mX5_amountOfB rm_X5_amountOfB 6 [(0, .ref 17), (2, .int x2), (3, .int x3)] [] σ mc ms P := by
  refine ka_iload_n d_X5_amountOfB_6 rfl rfl 2 rfl ?_
  refine ka_if_lt (tgt := 40) d_X5_amountOfB_7 (by decide) rfl (fun c1 => ?_) (fun c1 => ?_)
  · refine ka_iload_n d_X5_amountOfB_40 rfl rfl 1 rfl ?_
    exact ks_iret (ty := .int) d_X5_amountOfB_41 rfl rfl (r2 c1)
  · refine ka_iload_n d_X5_amountOfB_10 rfl rfl 1 rfl ?_
    refine ka_sipush (v := 999) d_X5_amountOfB_11 rfl (by decide) ?_
    refine ka_icmp_le (tgt := 23) d_X5_amountOfB_14 (by decide) rfl (fun c3 => ?_) (fun c3 => ?_)
    · refine ka_iconst (v := 2) d_X5_amountOfB_23 rfl (by decide) ?_
      refine ka_iload_n d_X5_amountOfB_24 rfl rfl 1 rfl ?_
      refine ka_imul d_X5_amountOfB_25 rfl ?_
      refine ka_aload_n d_X5_amountOfB_26 rfl rfl 0 rfl ?_
      refine gf_X5_8 d_X5_amountOfB_27 rfl fl_X5_24 ?_
      refine ka_iload_n d_X5_amountOfB_30 rfl rfl 2 rfl ?_
      refine ks_iald row_22 d_X5_amountOfB_31 rfl (v4 c1 c3) ?_
      refine ka_iadd d_X5_amountOfB_32 rfl ?_
      refine ka_sub [0, 2] rfl ?_
      exact (k5 c1 c3)
    · refine ka_sipush (v := 2000) d_X5_amountOfB_17 rfl (by decide) ?_
      refine ka_goto (q := 33) d_X5_amountOfB_20 (by decide) ?_
      refine ka_sub [0, 2] rfl ?_
      exact (k6 c1 c3)
theorem sg_X5_amountOfB_33 {L : Nat} {xs : Nat → Int32} {σ : ks_St} {mc ms : Nat} {P : ka_O → ks_St → Prop} {x3 : Int32} {s0 : Int32}  (k1 : ks_W L xs mX5_amountOfB rm_X5_amountOfB 6 [(0, .ref 17), (2, .int s0), (3, .int (x3 + (-1)))] [] σ mc ms P) : ks_W L xs mX5_amountOfB rm_X5_amountOfB 33 [(0, .ref 17), (3, .int x3)] [.int s0] σ mc ms P := by
  refine ka_istore_n (ls' := [(2, .int s0), (0, .ref 17), (3, .int x3)]) d_X5_amountOfB_33 rfl rfl (by decide) rfl ?_
  refine ka_iinc (g := 2) (v := x3 + (-1)) (ls' := [(3, .int (x3 + (-1))), (2, .int s0), (0, .ref 17)]) d_X5_amountOfB_34 rfl rfl rfl (by decide) rfl ?_
  refine ka_goto (q := 6) d_X5_amountOfB_37 (by decide) ?_
  refine ka_sub [2, 1, 0] rfl ?_
  exact k1
theorem d_X5_bAround_0 : decode cX5_bAround 0 = .ok (.iconst 0, 1) := by decide +kernel
theorem d_X5_bAround_1 : decode cX5_bAround 1 = .ok (.istore_n 2, 1) := by decide +kernel
theorem d_X5_bAround_2 : decode cX5_bAround 2 = .ok (.iload_n 1, 1) := by decide +kernel
theorem d_X5_bAround_3 : decode cX5_bAround 3 = .ok (.iconst 1, 1) := by decide +kernel
theorem d_X5_bAround_4 : decode cX5_bAround 4 = .ok (.isub, 1) := by decide +kernel
theorem d_X5_bAround_5 : decode cX5_bAround 5 = .ok (.istore_n 3, 1) := by decide +kernel
theorem d_X5_bAround_6 : decode cX5_bAround 6 = .ok (.iload_n 3, 1) := by decide +kernel
theorem d_X5_bAround_7 : decode cX5_bAround 7 = .ok (.ifCond .lt 22, 3) := by decide +kernel
theorem d_X5_bAround_10 : decode cX5_bAround 10 = .ok (.iconst 2, 1) := by decide +kernel
theorem d_X5_bAround_11 : decode cX5_bAround 11 = .ok (.iload_n 2, 1) := by decide +kernel
theorem d_X5_bAround_12 : decode cX5_bAround 12 = .ok (.imul, 1) := by decide +kernel
theorem d_X5_bAround_13 : decode cX5_bAround 13 = .ok (.aload_n 0, 1) := by decide +kernel
theorem d_X5_bAround_14 : decode cX5_bAround 14 = .ok (.getfield 24, 3) := by decide +kernel
theorem d_X5_bAround_17 : decode cX5_bAround 17 = .ok (.iload_n 3, 1) := by decide +kernel
theorem d_X5_bAround_18 : decode cX5_bAround 18 = .ok (.iaload, 1) := by decide +kernel
theorem d_X5_bAround_19 : decode cX5_bAround 19 = .ok (.iadd, 1) := by decide +kernel
theorem d_X5_bAround_20 : decode cX5_bAround 20 = .ok (.iload_n 1, 1) := by decide +kernel
theorem d_X5_bAround_21 : decode cX5_bAround 21 = .ok (.irem, 1) := by decide +kernel
theorem d_X5_bAround_22 : decode cX5_bAround 22 = .ok (.istore_n 2, 1) := by decide +kernel
theorem d_X5_bAround_23 : decode cX5_bAround 23 = .ok (.iinc 3 (-1), 3) := by decide +kernel
theorem d_X5_bAround_26 : decode cX5_bAround 26 = .ok (.goto (-20), 3) := by decide +kernel
theorem d_X5_bAround_29 : decode cX5_bAround 29 = .ok (.iload_n 2, 1) := by decide +kernel
theorem d_X5_bAround_30 : decode cX5_bAround 30 = .ok (.ireturn, 1) := by decide +kernel
theorem sg_X5_bAround_0 {L : Nat} {xs : Nat → Int32} {σ : ks_St} {mc ms : Nat} {P : ka_O → ks_St → Prop} {x1 : Int32}  (k1 : ks_W L xs mX5_bAround rm_X5_bAround 6 [(0, .ref 17), (1, .int x1), (2, .int 0), (3, .int (x1 - 1))] [] σ mc ms P) : ks_W L xs mX5_bAround rm_X5_bAround 0 [(0, .ref 17), (1, .int x1)] [] σ mc ms P := by
  refine ka_iconst (v := 0) d_X5_bAround_0 rfl (by decide) ?_
  refine ka_istore_n (ls' := [(2, .int 0), (0, .ref 17), (1, .int x1)]) d_X5_bAround_1 rfl rfl (by decide) rfl ?_
  refine ka_iload_n d_X5_bAround_2 rfl rfl 2 rfl ?_
  refine ka_iconst (v := 1) d_X5_bAround_3 rfl (by decide) ?_
  refine ka_isub d_X5_bAround_4 rfl ?_
  refine ka_istore_n (ls' := [(3, .int (x1 - 1)), (2, .int 0), (0, .ref 17), (1, .int x1)]) d_X5_bAround_5 rfl rfl (by decide) rfl ?_
  refine ka_sub [2, 3, 1, 0] rfl ?_
  exact k1
theorem sg_X5_bAround_6 {L : Nat} {xs : Nat → Int32} {σ : ks_St} {mc ms : Nat} {P : ka_O → ks_St → Prop} {x1 : Int32} {x2 : Int32} {x3 : Int32}  (r2 : (x3 < 0) → P (.inl (some (.int x2))) σ) (v3 : (¬ (x3 < 0)) → vp_in x3 513) (z4 : (¬ (x3 < 0)) → ¬ x1 = 0) (k5 : (¬ (x3 < 0)) → ks_W L xs mX5_bAround rm_X5_bAround 6 [(0, .ref 17), (1, .int x1), (2, .int (((2 * x2) + (sf_ σ 22 x3.toNatClampNeg)) - ((2 * x2) + (sf_ σ 22 x3.toNatClampNeg)) / x1 * x1)), (3, .int (x3 + (-1)))] [] σ mc ms P) : ks_W L xs mX5_bAround rm_X5_bAround 6 [(0, .ref 17), (1, .int x1), (2, .int x2), (3, .int x3)] [] σ mc ms P := by
  refine ka_iload_n d_X5_bAround_6 rfl rfl 3 rfl ?_
  refine ka_if_lt (tgt := 29) d_X5_bAround_7 (by decide) rfl (fun c1 => ?_) (fun c1 => ?_)
  · refine ka_iload_n d_X5_bAround_29 rfl rfl 2 rfl ?_
    exact ks_iret (ty := .int) d_X5_bAround_30 rfl rfl (r2 c1)
  · refine ka_iconst (v := 2) d_X5_bAround_10 rfl (by decide) ?_
    refine ka_iload_n d_X5_bAround_11 rfl rfl 2 rfl ?_
    refine ka_imul d_X5_bAround_12 rfl ?_
    refine ka_aload_n d_X5_bAround_13 rfl rfl 0 rfl ?_
    refine gf_X5_8 d_X5_bAround_14 rfl fl_X5_24 ?_
    refine ka_iload_n d_X5_bAround_17 rfl rfl 3 rfl ?_
    refine ks_iald row_22 d_X5_bAround_18 rfl (v3 c1) ?_
    refine ka_iadd d_X5_bAround_19 rfl ?_
    refine ka_iload_n d_X5_bAround_20 rfl rfl 1 rfl ?_
    refine ka_irem d_X5_bAround_21 rfl (z4 c1) ?_
    refine ka_istore_n (ls' := [(2, .int (((2 * x2) + (sf_ σ 22 x3.toNatClampNeg)) - ((2 * x2) + (sf_ σ 22 x3.toNatClampNeg)) / x1 * x1)), (0, .ref 17), (1, .int x1), (3, .int x3)]) d_X5_bAround_22 rfl rfl (by decide) rfl ?_
    refine ka_iinc (g := 3) (v := x3 + (-1)) (ls' := [(3, .int (x3 + (-1))), (2, .int (((2 * x2) + (sf_ σ 22 x3.toNatClampNeg)) - ((2 * x2) + (sf_ σ 22 x3.toNatClampNeg)) / x1 * x1)), (0, .ref 17), (1, .int x1)]) d_X5_bAround_23 rfl rfl rfl (by decide) rfl ?_
    refine ka_goto (q := 6) d_X5_bAround_26 (by decide) ?_
    refine ka_sub [2, 3, 1, 0] rfl ?_
    exact (k5 c1)
theorem d_X5_isNought_0 : decode cX5_isNought 0 = .ok (.iconst 1, 1) := by decide +kernel
theorem d_X5_isNought_1 : decode cX5_isNought 1 = .ok (.istore 4, 2) := by decide +kernel
theorem d_X5_isNought_3 : decode cX5_isNought 3 = .ok (.iload_n 2, 1) := by decide +kernel
theorem d_X5_isNought_4 : decode cX5_isNought 4 = .ok (.istore 5, 2) := by decide +kernel
theorem d_X5_isNought_6 : decode cX5_isNought 6 = .ok (.iload 5, 2) := by decide +kernel
theorem d_X5_isNought_8 : decode cX5_isNought 8 = .ok (.iload_n 3, 1) := by decide +kernel
theorem d_X5_isNought_9 : decode cX5_isNought 9 = .ok (.if_icmp .ge 28, 3) := by decide +kernel
theorem d_X5_isNought_12 : decode cX5_isNought 12 = .ok (.iload 4, 2) := by decide +kernel
theorem d_X5_isNought_14 : decode cX5_isNought 14 = .ok (.ifCond .eq 14, 3) := by decide +kernel
theorem d_X5_isNought_17 : decode cX5_isNought 17 = .ok (.aload_n 1, 1) := by decide +kernel
theorem d_X5_isNought_18 : decode cX5_isNought 18 = .ok (.iload 5, 2) := by decide +kernel
theorem d_X5_isNought_20 : decode cX5_isNought 20 = .ok (.iaload, 1) := by decide +kernel
theorem d_X5_isNought_21 : decode cX5_isNought 21 = .ok (.ifCond .ne 7, 3) := by decide +kernel
theorem d_X5_isNought_24 : decode cX5_isNought 24 = .ok (.iconst 1, 1) := by decide +kernel
theorem d_X5_isNought_25 : decode cX5_isNought 25 = .ok (.goto 4, 3) := by decide +kernel
theorem d_X5_isNought_28 : decode cX5_isNought 28 = .ok (.iconst 0, 1) := by decide +kernel
theorem d_X5_isNought_29 : decode cX5_isNought 29 = .ok (.istore 4, 2) := by decide +kernel
theorem d_X5_isNought_31 : decode cX5_isNought 31 = .ok (.iinc 5 1, 3) := by decide +kernel
theorem d_X5_isNought_34 : decode cX5_isNought 34 = .ok (.goto (-28), 3) := by decide +kernel
theorem d_X5_isNought_37 : decode cX5_isNought 37 = .ok (.iload 4, 2) := by decide +kernel
theorem d_X5_isNought_39 : decode cX5_isNought 39 = .ok (.ireturn, 1) := by decide +kernel
theorem sg_X5_isNought_0 {L : Nat} {xs : Nat → Int32} {σ : ks_St} {mc ms : Nat} {P : ka_O → ks_St → Prop} {a1 na1 : Nat} {x2 : Int32} {x3 : Int32} (ha1 : ri_ a1 na1) (k1 : ks_W L xs mX5_isNought rm_X5_isNought 6 [(1, .ref a1), (3, .int x3), (4, .int 1), (5, .int x2)] [] σ mc ms P) : ks_W L xs mX5_isNought rm_X5_isNought 0 [(1, .ref a1), (2, .int x2), (3, .int x3)] [] σ mc ms P := by
  refine ka_iconst (v := 1) d_X5_isNought_0 rfl (by decide) ?_
  refine ka_istore (ls' := [(4, .int 1), (1, .ref a1), (2, .int x2), (3, .int x3)]) d_X5_isNought_1 rfl (by decide) rfl ?_
  refine ka_iload_n d_X5_isNought_3 rfl rfl 2 rfl ?_
  refine ka_istore (ls' := [(5, .int x2), (4, .int 1), (1, .ref a1), (2, .int x2), (3, .int x3)]) d_X5_isNought_4 rfl (by decide) rfl ?_
  refine ka_sub [2, 4, 1, 0] rfl ?_
  exact k1
theorem sg_X5_isNought_6 {L : Nat} {xs : Nat → Int32} {σ : ks_St} {mc ms : Nat} {P : ka_O → ks_St → Prop} {a1 na1 : Nat} {x3 : Int32} {x4 : Int32} {x5 : Int32} (ha1 : ri_ a1 na1) (b2 : (x3 ≤ x5) → narrow .boolean (.int x4) = .int x4) (r3 : (x3 ≤ x5) → P (.inl (some (.int x4))) σ) (k5 : (¬ (x3 ≤ x5)) → (x4 = 0) → ks_W L xs mX5_isNought rm_X5_isNought 28 [(1, .ref a1), (3, .int x3), (5, .int x5)] [] σ mc ms P) (v6 : (¬ (x3 ≤ x5)) → (¬ (x4 = 0)) → vp_in x5 na1) (k8 : (¬ (x3 ≤ x5)) → (¬ (x4 = 0)) → (¬ (sf_ σ a1 x5.toNatClampNeg) = 0) → ks_W L xs mX5_isNought rm_X5_isNought 28 [(1, .ref a1), (3, .int x3), (5, .int x5)] [] σ mc ms P) (k9 : (¬ (x3 ≤ x5)) → (¬ (x4 = 0)) → ((sf_ σ a1 x5.toNatClampNeg) = 0) → ks_W L xs mX5_isNought rm_X5_isNought 29 [(1, .ref a1), (3, .int x3), (5, .int x5)] [.int 1] σ mc ms P) : ks_W L xs mX5_isNought rm_X5_isNought 6 [(1, .ref a1), (3, .int x3), (4, .int x4), (5, .int x5)] [] σ mc ms P := by
  refine ka_iload d_X5_isNought_6 rfl 3 rfl ?_
  refine ka_iload_n d_X5_isNought_8 rfl rfl 1 rfl ?_
  refine ka_icmp_ge (tgt := 37) d_X5_isNought_9 (by decide) rfl (fun c1 => ?_) (fun c1 => ?_)
  · refine ka_iload d_X5_isNought_37 rfl 2 rfl ?_
    exact ks_iret (ty := .boolean) d_X5_isNought_39 rfl (b2 c1) (r3 c1)
  · refine ka_iload d_X5_isNought_12 rfl 2 rfl ?_
    refine ka_if_eq (tgt := 28) d_X5_isNought_14 (by decide) rfl (fun c4 => ?_) (fun c4 => ?_)
    · refine ka_sub [0, 1, 3] rfl ?_
      exact (k5 c1 c4)
    · refine ka_aload_n d_X5_isNought_17 rfl rfl 0 rfl ?_
      refine ka_iload d_X5_isNought_18 rfl 3 rfl ?_
      refine ks_iald ha1 d_X5_isNought_20 rfl (v6 c1 c4) ?_
      refine ka_if_ne (tgt := 28) d_X5_isNought_21 (by decide) rfl (fun c7 => ?_) (fun c7 => ?_)
      · refine ka_sub [0, 1, 3] rfl ?_
        exact (k8 c1 c4 c7)
      · refine ka_iconst (v := 1) d_X5_isNought_24 rfl (by decide) ?_
        refine ka_goto (q := 29) d_X5_isNought_25 (by decide) ?_
        refine ka_sub [0, 1, 3] rfl ?_
        exact (k9 c1 c4 c7)
theorem sg_X5_isNought_28 {L : Nat} {xs : Nat → Int32} {σ : ks_St} {mc ms : Nat} {P : ka_O → ks_St → Prop} {a1 na1 : Nat} {x3 : Int32} {x5 : Int32} (ha1 : ri_ a1 na1) (k1 : ks_W L xs mX5_isNought rm_X5_isNought 29 [(1, .ref a1), (3, .int x3), (5, .int x5)] [.int 0] σ mc ms P) : ks_W L xs mX5_isNought rm_X5_isNought 28 [(1, .ref a1), (3, .int x3), (5, .int x5)] [] σ mc ms P := by
  refine ka_iconst (v := 0) d_X5_isNought_28 rfl (by decide) ?_
  exact k1
theorem sg_X5_isNought_29 {L : Nat} {xs : Nat → Int32} {σ : ks_St} {mc ms : Nat} {P : ka_O → ks_St → Prop} {a1 na1 : Nat} {x3 : Int32} {x5 : Int32} {s0 : Int32} (ha1 : ri_ a1 na1) (k1 : ks_W L xs mX5_isNought rm_X5_isNought 6 [(1, .ref a1), (3, .int x3), (4, .int s0), (5, .int (x5 + 1))] [] σ mc ms P) : ks_W L xs mX5_isNought rm_X5_isNought 29 [(1, .ref a1), (3, .int x3), (5, .int x5)] [.int s0] σ mc ms P := by
  refine ka_istore (ls' := [(4, .int s0), (1, .ref a1), (3, .int x3), (5, .int x5)]) d_X5_isNought_29 rfl (by decide) rfl ?_
  refine ka_iinc (g := 3) (v := x5 + 1) (ls' := [(5, .int (x5 + 1)), (4, .int s0), (1, .ref a1), (3, .int x3)]) d_X5_isNought_31 rfl rfl rfl (by decide) rfl ?_
  refine ka_goto (q := 6) d_X5_isNought_34 (by decide) ?_
  refine ka_sub [2, 3, 1, 0] rfl ?_
  exact k1
theorem d_X5_fits_0 : decode cX5_fits 0 = .ok (.aload_n 0, 1) := by decide +kernel
theorem d_X5_fits_1 : decode cX5_fits 1 = .ok (.aload_n 0, 1) := by decide +kernel
theorem d_X5_fits_2 : decode cX5_fits 2 = .ok (.getfield 27, 3) := by decide +kernel
theorem d_X5_fits_5 : decode cX5_fits 5 = .ok (.iload_n 1, 1) := by decide +kernel
theorem d_X5_fits_6 : decode cX5_fits 6 = .ok (.iconst 1, 1) := by decide +kernel
theorem d_X5_fits_7 : decode cX5_fits 7 = .ok (.isub, 1) := by decide +kernel
theorem d_X5_fits_8 : decode cX5_fits 8 = .ok (.iconst 2, 1) := by decide +kernel
theorem d_X5_fits_9 : decode cX5_fits 9 = .ok (.iload_n 1, 1) := by decide +kernel
theorem d_X5_fits_10 : decode cX5_fits 10 = .ok (.imul, 1) := by decide +kernel
theorem d_X5_fits_11 : decode cX5_fits 11 = .ok (.invokevirtual 76, 3) := by decide +kernel
theorem d_X5_fits_14 : decode cX5_fits 14 = .ok (.ifCond .ne 49, 3) := by decide +kernel
theorem d_X5_fits_17 : decode cX5_fits 17 = .ok (.iload_n 2, 1) := by decide +kernel
theorem d_X5_fits_18 : decode cX5_fits 18 = .ok (.ifCond .eq 49, 3) := by decide +kernel
theorem d_X5_fits_21 : decode cX5_fits 21 = .ok (.aload_n 0, 1) := by decide +kernel
theorem d_X5_fits_22 : decode cX5_fits 22 = .ok (.getfield 27, 3) := by decide +kernel
theorem d_X5_fits_25 : decode cX5_fits 25 = .ok (.iload_n 1, 1) := by decide +kernel
theorem d_X5_fits_26 : decode cX5_fits 26 = .ok (.iconst 1, 1) := by decide +kernel
theorem d_X5_fits_27 : decode cX5_fits 27 = .ok (.isub, 1) := by decide +kernel
theorem d_X5_fits_28 : decode cX5_fits 28 = .ok (.iaload, 1) := by decide +kernel
theorem d_X5_fits_29 : decode cX5_fits 29 = .ok (.iconst 1, 1) := by decide +kernel
theorem d_X5_fits_30 : decode cX5_fits 30 = .ok (.if_icmp .ne 37, 3) := by decide +kernel
theorem d_X5_fits_33 : decode cX5_fits 33 = .ok (.aload_n 0, 1) := by decide +kernel
theorem d_X5_fits_34 : decode cX5_fits 34 = .ok (.aload_n 0, 1) := by decide +kernel
theorem d_X5_fits_35 : decode cX5_fits 35 = .ok (.getfield 27, 3) := by decide +kernel
theorem d_X5_fits_38 : decode cX5_fits 38 = .ok (.iconst 0, 1) := by decide +kernel
theorem d_X5_fits_39 : decode cX5_fits 39 = .ok (.iload_n 1, 1) := by decide +kernel
theorem d_X5_fits_40 : decode cX5_fits 40 = .ok (.iconst 1, 1) := by decide +kernel
theorem d_X5_fits_41 : decode cX5_fits 41 = .ok (.isub, 1) := by decide +kernel
theorem d_X5_fits_42 : decode cX5_fits 42 = .ok (.invokevirtual 76, 3) := by decide +kernel
theorem d_X5_fits_45 : decode cX5_fits 45 = .ok (.ifCond .eq 22, 3) := by decide +kernel
theorem d_X5_fits_48 : decode cX5_fits 48 = .ok (.aload_n 0, 1) := by decide +kernel
theorem d_X5_fits_49 : decode cX5_fits 49 = .ok (.aload_n 0, 1) := by decide +kernel
theorem d_X5_fits_50 : decode cX5_fits 50 = .ok (.getfield 27, 3) := by decide +kernel
theorem d_X5_fits_53 : decode cX5_fits 53 = .ok (.iload_n 1, 1) := by decide +kernel
theorem d_X5_fits_54 : decode cX5_fits 54 = .ok (.iconst 2, 1) := by decide +kernel
theorem d_X5_fits_55 : decode cX5_fits 55 = .ok (.iload_n 1, 1) := by decide +kernel
theorem d_X5_fits_56 : decode cX5_fits 56 = .ok (.imul, 1) := by decide +kernel
theorem d_X5_fits_57 : decode cX5_fits 57 = .ok (.invokevirtual 76, 3) := by decide +kernel
theorem d_X5_fits_60 : decode cX5_fits 60 = .ok (.ifCond .eq 7, 3) := by decide +kernel
theorem d_X5_fits_63 : decode cX5_fits 63 = .ok (.iconst 1, 1) := by decide +kernel
theorem d_X5_fits_64 : decode cX5_fits 64 = .ok (.goto 4, 3) := by decide +kernel
theorem d_X5_fits_67 : decode cX5_fits 67 = .ok (.iconst 0, 1) := by decide +kernel
theorem d_X5_fits_68 : decode cX5_fits 68 = .ok (.ireturn, 1) := by decide +kernel
theorem sg_X5_fits_0 {L : Nat} {xs : Nat → Int32} {σ : ks_St} {mc ms : Nat} {P : ka_O → ks_St → Prop} {x1 : Int32} {x2 : Int32}  (k1 : ks_W L xs mX5_fits rm_X5_fits 11 [(0, .ref 17), (1, .int x1), (2, .int x2)] [.int (2 * x1), .int (x1 - 1), .ref 23, .ref 17] σ mc ms P) : ks_W L xs mX5_fits rm_X5_fits 0 [(0, .ref 17), (1, .int x1), (2, .int x2)] [] σ mc ms P := by
  refine ka_aload_n d_X5_fits_0 rfl rfl 0 rfl ?_
  refine ka_aload_n d_X5_fits_1 rfl rfl 0 rfl ?_
  refine gf_X5_9 d_X5_fits_2 rfl fl_X5_27 ?_
  refine ka_iload_n d_X5_fits_5 rfl rfl 1 rfl ?_
  refine ka_iconst (v := 1) d_X5_fits_6 rfl (by decide) ?_
  refine ka_isub d_X5_fits_7 rfl ?_
  refine ka_iconst (v := 2) d_X5_fits_8 rfl (by decide) ?_
  refine ka_iload_n d_X5_fits_9 rfl rfl 1 rfl ?_
  refine ka_imul d_X5_fits_10 rfl ?_
  exact k1
theorem cs_X5_fits_11 {L : Nat} {xs : Nat → Int32} {σ : ks_St} {mc ms : Nat} {P : ka_O → ks_St → Prop} {f : Int32 → ks_St → Prop} {x1 : Int32} {x2 : Int32} {s2 : Int32} {s3 : Int32} (hK : ks_M L xs mX5_isNought rm_X5_isNought [.ref 17, .ref 23, .int s2, .int s3] σ (pi_ f)) (kr : ∀ r σ', f r σ' → ks_W L xs mX5_fits rm_X5_fits 14 [(0, .ref 17), (1, .int x1), (2, .int x2)] [.int r] σ' mc ms P) : ks_W L xs mX5_fits rm_X5_fits 11 [(0, .ref 17), (1, .int x1), (2, .int x2)] [.int s3, .int s2, .ref 23, .ref 17] σ mc ms P := by
  refine ks_callV (q := 14) (o := 17) (ci := 5) (As := [.ref 23, .int s2, .int s3]) (st := []) d_X5_fits_11 rfl rfl (by decide) rfl rfl lk_X5_76 ⟨by decide, by decide⟩ (Nat.le_of_ble_eq_true rfl) ⟨Nat.le_refl _, Nat.le_refl _⟩ hK (fun v σ' hq => ?_) (fun E σ' hq => ?_)
  · obtain ⟨r, e, hf⟩ := hq; cases e; exact kr r σ' hf
  · obtain ⟨r, e, hf⟩ := hq; cases e
theorem sg_X5_fits_14 {L : Nat} {xs : Nat → Int32} {σ : ks_St} {mc ms : Nat} {P : ka_O → ks_St → Prop} {x1 : Int32} {x2 : Int32} {s0 : Int32}  (k2 : (¬ s0 = 0) → ks_W L xs mX5_fits rm_X5_fits 63 [] [] σ mc ms P) (k4 : (s0 = 0) → (x2 = 0) → ks_W L xs mX5_fits rm_X5_fits 67 [] [] σ mc ms P) (v5 : (s0 = 0) → (¬ (x2 = 0)) → vp_in (x1 - 1) 1026) (k7 : (s0 = 0) → (¬ (x2 = 0)) → (¬ (sf_ σ 23 (x1 - 1).toNatClampNeg) = 1) → ks_W L xs mX5_fits rm_X5_fits 67 [] [] σ mc ms P) (k8 : (s0 = 0) → (¬ (x2 = 0)) → ((sf_ σ 23 (x1 - 1).toNatClampNeg) = 1) → ks_W L xs mX5_fits rm_X5_fits 42 [(0, .ref 17), (1, .int x1)] [.int (x1 - 1), .int 0, .ref 23, .ref 17] σ mc ms P) : ks_W L xs mX5_fits rm_X5_fits 14 [(0, .ref 17), (1, .int x1), (2, .int x2)] [.int s0] σ mc ms P := by
  refine ka_if_ne (tgt := 63) d_X5_fits_14 (by decide) rfl (fun c1 => ?_) (fun c1 => ?_)
  · refine ka_sub [] rfl ?_
    exact (k2 c1)
  · refine ka_iload_n d_X5_fits_17 rfl rfl 2 rfl ?_
    refine ka_if_eq (tgt := 67) d_X5_fits_18 (by decide) rfl (fun c3 => ?_) (fun c3 => ?_)
    · refine ka_sub [] rfl ?_
      exact (k4 c1 c3)
    · refine ka_aload_n d_X5_fits_21 rfl rfl 0 rfl ?_
      refine gf_X5_9 d_X5_fits_22 rfl fl_X5_27 ?_
      refine ka_iload_n d_X5_fits_25 rfl rfl 1 rfl ?_
      refine ka_iconst (v := 1) d_X5_fits_26 rfl (by decide) ?_
      refine ka_isub d_X5_fits_27 rfl ?_
      refine ks_iald row_23 d_X5_fits_28 rfl (v5 c1 c3) ?_
      refine ka_iconst (v := 1) d_X5_fits_29 rfl (by decide) ?_
      refine ka_icmp_ne (tgt := 67) d_X5_fits_30 (by decide) rfl (fun c6 => ?_) (fun c6 => ?_)
      · refine ka_sub [] rfl ?_
        exact (k7 c1 c3 c6)
      · refine ka_aload_n d_X5_fits_33 rfl rfl 0 rfl ?_
        refine ka_aload_n d_X5_fits_34 rfl rfl 0 rfl ?_
        refine gf_X5_9 d_X5_fits_35 rfl fl_X5_27 ?_
        refine ka_iconst (v := 0) d_X5_fits_38 rfl (by decide) ?_
        refine ka_iload_n d_X5_fits_39 rfl rfl 1 rfl ?_
        refine ka_iconst (v := 1) d_X5_fits_40 rfl (by decide) ?_
        refine ka_isub d_X5_fits_41 rfl ?_
        refine ka_sub [0, 1] rfl ?_
        exact (k8 c1 c3 c6)
theorem cs_X5_fits_42 {L : Nat} {xs : Nat → Int32} {σ : ks_St} {mc ms : Nat} {P : ka_O → ks_St → Prop} {f : Int32 → ks_St → Prop} {x1 : Int32} {s2 : Int32} {s3 : Int32} (hK : ks_M L xs mX5_isNought rm_X5_isNought [.ref 17, .ref 23, .int s2, .int s3] σ (pi_ f)) (kr : ∀ r σ', f r σ' → ks_W L xs mX5_fits rm_X5_fits 45 [(0, .ref 17), (1, .int x1)] [.int r] σ' mc ms P) : ks_W L xs mX5_fits rm_X5_fits 42 [(0, .ref 17), (1, .int x1)] [.int s3, .int s2, .ref 23, .ref 17] σ mc ms P := by
  refine ks_callV (q := 45) (o := 17) (ci := 5) (As := [.ref 23, .int s2, .int s3]) (st := []) d_X5_fits_42 rfl rfl (by decide) rfl rfl lk_X5_76 ⟨by decide, by decide⟩ (Nat.le_of_ble_eq_true rfl) ⟨Nat.le_refl _, Nat.le_refl _⟩ hK (fun v σ' hq => ?_) (fun E σ' hq => ?_)
  · obtain ⟨r, e, hf⟩ := hq; cases e; exact kr r σ' hf
  · obtain ⟨r, e, hf⟩ := hq; cases e
theorem sg_X5_fits_45 {L : Nat} {xs : Nat → Int32} {σ : ks_St} {mc ms : Nat} {P : ka_O → ks_St → Prop} {x1 : Int32} {s0 : Int32}  (k2 : (s0 = 0) → ks_W L xs mX5_fits rm_X5_fits 67 [] [] σ mc ms P) (k3 : (¬ (s0 = 0)) → ks_W L xs mX5_fits rm_X5_fits 57 [] [.int (2 * x1), .int x1, .ref 23, .ref 17] σ mc ms P) : ks_W L xs mX5_fits rm_X5_fits 45 [(0, .ref 17), (1, .int x1)] [.int s0] σ mc ms P := by
  refine ka_if_eq (tgt := 67) d_X5_fits_45 (by decide) rfl (fun c1 => ?_) (fun c1 => ?_)
  · refine ka_sub [] rfl ?_
    exact (k2 c1)
  · refine ka_aload_n d_X5_fits_48 rfl rfl 0 rfl ?_
    refine ka_aload_n d_X5_fits_49 rfl rfl 0 rfl ?_
    refine gf_X5_9 d_X5_fits_50 rfl fl_X5_27 ?_
    refine ka_iload_n d_X5_fits_53 rfl rfl 1 rfl ?_
    refine ka_iconst (v := 2) d_X5_fits_54 rfl (by decide) ?_
    refine ka_iload_n d_X5_fits_55 rfl rfl 1 rfl ?_
    refine ka_imul d_X5_fits_56 rfl ?_
    refine ka_sub [] rfl ?_
    exact (k3 c1)
theorem cs_X5_fits_57 {L : Nat} {xs : Nat → Int32} {σ : ks_St} {mc ms : Nat} {P : ka_O → ks_St → Prop} {f : Int32 → ks_St → Prop} {s2 : Int32} {s3 : Int32} (hK : ks_M L xs mX5_isNought rm_X5_isNought [.ref 17, .ref 23, .int s2, .int s3] σ (pi_ f)) (kr : ∀ r σ', f r σ' → ks_W L xs mX5_fits rm_X5_fits 60 [] [.int r] σ' mc ms P) : ks_W L xs mX5_fits rm_X5_fits 57 [] [.int s3, .int s2, .ref 23, .ref 17] σ mc ms P := by
  refine ks_callV (q := 60) (o := 17) (ci := 5) (As := [.ref 23, .int s2, .int s3]) (st := []) d_X5_fits_57 rfl rfl (by decide) rfl rfl lk_X5_76 ⟨by decide, by decide⟩ (Nat.le_of_ble_eq_true rfl) ⟨Nat.le_refl _, Nat.le_refl _⟩ hK (fun v σ' hq => ?_) (fun E σ' hq => ?_)
  · obtain ⟨r, e, hf⟩ := hq; cases e; exact kr r σ' hf
  · obtain ⟨r, e, hf⟩ := hq; cases e
theorem sg_X5_fits_60 {L : Nat} {xs : Nat → Int32} {σ : ks_St} {mc ms : Nat} {P : ka_O → ks_St → Prop} {s0 : Int32}  (k2 : (s0 = 0) → ks_W L xs mX5_fits rm_X5_fits 67 [] [] σ mc ms P) (k3 : (¬ (s0 = 0)) → ks_W L xs mX5_fits rm_X5_fits 63 [] [] σ mc ms P) : ks_W L xs mX5_fits rm_X5_fits 60 [] [.int s0] σ mc ms P := by
  refine ka_if_eq (tgt := 67) d_X5_fits_60 (by decide) rfl (fun c1 => ?_) (fun c1 => ?_)
  · exact (k2 c1)
  · exact (k3 c1)
theorem sg_X5_fits_63 {L : Nat} {xs : Nat → Int32} {σ : ks_St} {mc ms : Nat} {P : ka_O → ks_St → Prop}   (k1 : ks_W L xs mX5_fits rm_X5_fits 68 [] [.int 1] σ mc ms P) : ks_W L xs mX5_fits rm_X5_fits 63 [] [] σ mc ms P := by
  refine ka_iconst (v := 1) d_X5_fits_63 rfl (by decide) ?_
  refine ka_goto (q := 68) d_X5_fits_64 (by decide) ?_
  exact k1
theorem sg_X5_fits_67 {L : Nat} {xs : Nat → Int32} {σ : ks_St} {mc ms : Nat} {P : ka_O → ks_St → Prop}   (k1 : ks_W L xs mX5_fits rm_X5_fits 68 [] [.int 0] σ mc ms P) : ks_W L xs mX5_fits rm_X5_fits 67 [] [] σ mc ms P := by
  refine ka_iconst (v := 0) d_X5_fits_67 rfl (by decide) ?_
  exact k1
theorem sg_X5_fits_68 {L : Nat} {xs : Nat → Int32} {σ : ks_St} {mc ms : Nat} {P : ka_O → ks_St → Prop} {s0 : Int32}  (b1 : narrow .boolean (.int s0) = .int s0) (r2 : P (.inl (some (.int s0))) σ) : ks_W L xs mX5_fits rm_X5_fits 68 [] [.int s0] σ mc ms P := by
  exact ks_iret (ty := .boolean) d_X5_fits_68 rfl b1 r2
theorem d_X5_sums_0 : decode cX5_sums 0 = .ok (.iload_n 1, 1) := by decide +kernel
theorem d_X5_sums_1 : decode cX5_sums 1 = .ok (.iconst 2, 1) := by decide +kernel
theorem d_X5_sums_2 : decode cX5_sums 2 = .ok (.if_icmp .ge 115, 3) := by decide +kernel
theorem d_X5_sums_5 : decode cX5_sums 5 = .ok (.aload_n 0, 1) := by decide +kernel
theorem d_X5_sums_6 : decode cX5_sums 6 = .ok (.getfield 18, 3) := by decide +kernel
theorem d_X5_sums_9 : decode cX5_sums 9 = .ok (.iconst 0, 1) := by decide +kernel
theorem d_X5_sums_10 : decode cX5_sums 10 = .ok (.aload_n 0, 1) := by decide +kernel
theorem d_X5_sums_11 : decode cX5_sums 11 = .ok (.iload_n 2, 1) := by decide +kernel
theorem d_X5_sums_12 : decode cX5_sums 12 = .ok (.iload_n 1, 1) := by decide +kernel
theorem d_X5_sums_13 : decode cX5_sums 13 = .ok (.iconst 1, 1) := by decide +kernel
theorem d_X5_sums_14 : decode cX5_sums 14 = .ok (.if_icmp .ne 7, 3) := by decide +kernel
theorem d_X5_sums_17 : decode cX5_sums 17 = .ok (.iconst 1, 1) := by decide +kernel
theorem d_X5_sums_18 : decode cX5_sums 18 = .ok (.goto 4, 3) := by decide +kernel
theorem d_X5_sums_21 : decode cX5_sums 21 = .ok (.iconst 0, 1) := by decide +kernel
theorem d_X5_sums_22 : decode cX5_sums 22 = .ok (.invokevirtual 80, 3) := by decide +kernel
theorem d_X5_sums_25 : decode cX5_sums 25 = .ok (.iastore, 1) := by decide +kernel
theorem d_X5_sums_26 : decode cX5_sums 26 = .ok (.iload_n 1, 1) := by decide +kernel
theorem d_X5_sums_27 : decode cX5_sums 27 = .ok (.ifCond .ne 30, 3) := by decide +kernel
theorem d_X5_sums_30 : decode cX5_sums 30 = .ok (.aload_n 0, 1) := by decide +kernel
theorem d_X5_sums_31 : decode cX5_sums 31 = .ok (.getfield 21, 3) := by decide +kernel
theorem d_X5_sums_34 : decode cX5_sums 34 = .ok (.iload_n 2, 1) := by decide +kernel
theorem d_X5_sums_35 : decode cX5_sums 35 = .ok (.iconst 1, 1) := by decide +kernel
theorem d_X5_sums_36 : decode cX5_sums 36 = .ok (.isub, 1) := by decide +kernel
theorem d_X5_sums_37 : decode cX5_sums 37 = .ok (.iaload, 1) := by decide +kernel
theorem d_X5_sums_38 : decode cX5_sums 38 = .ok (.aload_n 0, 1) := by decide +kernel
theorem d_X5_sums_39 : decode cX5_sums 39 = .ok (.getfield 24, 3) := by decide +kernel
theorem d_X5_sums_42 : decode cX5_sums 42 = .ok (.iload_n 2, 1) := by decide +kernel
theorem d_X5_sums_43 : decode cX5_sums 43 = .ok (.iconst 1, 1) := by decide +kernel
theorem d_X5_sums_44 : decode cX5_sums 44 = .ok (.isub, 1) := by decide +kernel
theorem d_X5_sums_45 : decode cX5_sums 45 = .ok (.iaload, 1) := by decide +kernel
theorem d_X5_sums_46 : decode cX5_sums 46 = .ok (.if_icmp .ne 7, 3) := by decide +kernel
theorem d_X5_sums_49 : decode cX5_sums 49 = .ok (.iconst 1, 1) := by decide +kernel
theorem d_X5_sums_50 : decode cX5_sums 50 = .ok (.goto 31, 3) := by decide +kernel
theorem d_X5_sums_53 : decode cX5_sums 53 = .ok (.iconst 0, 1) := by decide +kernel
theorem d_X5_sums_54 : decode cX5_sums 54 = .ok (.goto 27, 3) := by decide +kernel
theorem d_X5_sums_57 : decode cX5_sums 57 = .ok (.aload_n 0, 1) := by decide +kernel
theorem d_X5_sums_58 : decode cX5_sums 58 = .ok (.getfield 21, 3) := by decide +kernel
theorem d_X5_sums_61 : decode cX5_sums 61 = .ok (.iload_n 2, 1) := by decide +kernel
theorem d_X5_sums_62 : decode cX5_sums 62 = .ok (.iconst 1, 1) := by decide +kernel
theorem d_X5_sums_63 : decode cX5_sums 63 = .ok (.isub, 1) := by decide +kernel
theorem d_X5_sums_64 : decode cX5_sums 64 = .ok (.iaload, 1) := by decide +kernel
theorem d_X5_sums_65 : decode cX5_sums 65 = .ok (.aload_n 0, 1) := by decide +kernel
theorem d_X5_sums_66 : decode cX5_sums 66 = .ok (.getfield 24, 3) := by decide +kernel
theorem d_X5_sums_69 : decode cX5_sums 69 = .ok (.iload_n 2, 1) := by decide +kernel
theorem d_X5_sums_70 : decode cX5_sums 70 = .ok (.iconst 1, 1) := by decide +kernel
theorem d_X5_sums_71 : decode cX5_sums 71 = .ok (.isub, 1) := by decide +kernel
theorem d_X5_sums_72 : decode cX5_sums 72 = .ok (.iaload, 1) := by decide +kernel
theorem d_X5_sums_73 : decode cX5_sums 73 = .ok (.if_icmp .eq 7, 3) := by decide +kernel
theorem d_X5_sums_76 : decode cX5_sums 76 = .ok (.iconst 1, 1) := by decide +kernel
theorem d_X5_sums_77 : decode cX5_sums 77 = .ok (.goto 4, 3) := by decide +kernel
theorem d_X5_sums_80 : decode cX5_sums 80 = .ok (.iconst 0, 1) := by decide +kernel
theorem d_X5_sums_81 : decode cX5_sums 81 = .ok (.istore_n 3, 1) := by decide +kernel
theorem d_X5_sums_82 : decode cX5_sums 82 = .ok (.aload_n 0, 1) := by decide +kernel
theorem d_X5_sums_83 : decode cX5_sums 83 = .ok (.getfield 18, 3) := by decide +kernel
theorem d_X5_sums_86 : decode cX5_sums 86 = .ok (.iconst 1, 1) := by decide +kernel
theorem d_X5_sums_87 : decode cX5_sums 87 = .ok (.iload_n 3, 1) := by decide +kernel
theorem d_X5_sums_88 : decode cX5_sums 88 = .ok (.ifCond .eq 26, 3) := by decide +kernel
theorem d_X5_sums_91 : decode cX5_sums 91 = .ok (.aload_n 0, 1) := by decide +kernel
theorem d_X5_sums_92 : decode cX5_sums 92 = .ok (.getfield 27, 3) := by decide +kernel
theorem d_X5_sums_95 : decode cX5_sums 95 = .ok (.iload_n 2, 1) := by decide +kernel
theorem d_X5_sums_96 : decode cX5_sums 96 = .ok (.iconst 1, 1) := by decide +kernel
theorem d_X5_sums_97 : decode cX5_sums 97 = .ok (.isub, 1) := by decide +kernel
theorem d_X5_sums_98 : decode cX5_sums 98 = .ok (.iaload, 1) := by decide +kernel
theorem d_X5_sums_99 : decode cX5_sums 99 = .ok (.aload_n 0, 1) := by decide +kernel
theorem d_X5_sums_100 : decode cX5_sums 100 = .ok (.getfield 21, 3) := by decide +kernel
theorem d_X5_sums_103 : decode cX5_sums 103 = .ok (.iload_n 2, 1) := by decide +kernel
theorem d_X5_sums_104 : decode cX5_sums 104 = .ok (.iconst 1, 1) := by decide +kernel
theorem d_X5_sums_105 : decode cX5_sums 105 = .ok (.isub, 1) := by decide +kernel
theorem d_X5_sums_106 : decode cX5_sums 106 = .ok (.iaload, 1) := by decide +kernel
theorem d_X5_sums_107 : decode cX5_sums 107 = .ok (.if_icmp .eq 7, 3) := by decide +kernel
theorem d_X5_sums_110 : decode cX5_sums 110 = .ok (.iconst 1, 1) := by decide +kernel
theorem d_X5_sums_111 : decode cX5_sums 111 = .ok (.goto 4, 3) := by decide +kernel
theorem d_X5_sums_114 : decode cX5_sums 114 = .ok (.iconst 0, 1) := by decide +kernel
theorem d_X5_sums_115 : decode cX5_sums 115 = .ok (.iastore, 1) := by decide +kernel
theorem d_X5_sums_116 : decode cX5_sums 116 = .ok (.return_, 1) := by decide +kernel
theorem d_X5_sums_117 : decode cX5_sums 117 = .ok (.iload_n 1, 1) := by decide +kernel
theorem d_X5_sums_118 : decode cX5_sums 118 = .ok (.iconst 2, 1) := by decide +kernel
theorem d_X5_sums_119 : decode cX5_sums 119 = .ok (.if_icmp .ne 62, 3) := by decide +kernel
theorem d_X5_sums_122 : decode cX5_sums 122 = .ok (.aload_n 0, 1) := by decide +kernel
theorem d_X5_sums_123 : decode cX5_sums 123 = .ok (.getfield 21, 3) := by decide +kernel
theorem d_X5_sums_126 : decode cX5_sums 126 = .ok (.iload_n 2, 1) := by decide +kernel
theorem d_X5_sums_127 : decode cX5_sums 127 = .ok (.iconst 1, 1) := by decide +kernel
theorem d_X5_sums_128 : decode cX5_sums 128 = .ok (.isub, 1) := by decide +kernel
theorem d_X5_sums_129 : decode cX5_sums 129 = .ok (.iaload, 1) := by decide +kernel
theorem d_X5_sums_130 : decode cX5_sums 130 = .ok (.istore_n 3, 1) := by decide +kernel
theorem d_X5_sums_131 : decode cX5_sums 131 = .ok (.aload_n 0, 1) := by decide +kernel
theorem d_X5_sums_132 : decode cX5_sums 132 = .ok (.getfield 24, 3) := by decide +kernel
theorem d_X5_sums_135 : decode cX5_sums 135 = .ok (.iload_n 2, 1) := by decide +kernel
theorem d_X5_sums_136 : decode cX5_sums 136 = .ok (.iconst 1, 1) := by decide +kernel
theorem d_X5_sums_137 : decode cX5_sums 137 = .ok (.isub, 1) := by decide +kernel
theorem d_X5_sums_138 : decode cX5_sums 138 = .ok (.iaload, 1) := by decide +kernel
theorem d_X5_sums_139 : decode cX5_sums 139 = .ok (.istore 4, 2) := by decide +kernel
theorem d_X5_sums_141 : decode cX5_sums 141 = .ok (.aload_n 0, 1) := by decide +kernel
theorem d_X5_sums_142 : decode cX5_sums 142 = .ok (.iload_n 2, 1) := by decide +kernel
theorem d_X5_sums_143 : decode cX5_sums 143 = .ok (.invokevirtual 84, 3) := by decide +kernel
theorem d_X5_sums_146 : decode cX5_sums 146 = .ok (.aload_n 0, 1) := by decide +kernel
theorem d_X5_sums_147 : decode cX5_sums 147 = .ok (.iload_n 2, 1) := by decide +kernel
theorem d_X5_sums_148 : decode cX5_sums 148 = .ok (.invokevirtual 88, 3) := by decide +kernel
theorem d_X5_sums_151 : decode cX5_sums 151 = .ok (.aload_n 0, 1) := by decide +kernel
theorem d_X5_sums_152 : decode cX5_sums 152 = .ok (.getfield 18, 3) := by decide +kernel
theorem d_X5_sums_155 : decode cX5_sums 155 = .ok (.iconst 1, 1) := by decide +kernel
theorem d_X5_sums_156 : decode cX5_sums 156 = .ok (.aload_n 0, 1) := by decide +kernel
theorem d_X5_sums_157 : decode cX5_sums 157 = .ok (.iload_n 2, 1) := by decide +kernel
theorem d_X5_sums_158 : decode cX5_sums 158 = .ok (.iload_n 3, 1) := by decide +kernel
theorem d_X5_sums_159 : decode cX5_sums 159 = .ok (.iload 4, 2) := by decide +kernel
theorem d_X5_sums_161 : decode cX5_sums 161 = .ok (.if_icmp .eq 7, 3) := by decide +kernel
theorem d_X5_sums_164 : decode cX5_sums 164 = .ok (.iconst 1, 1) := by decide +kernel
theorem d_X5_sums_165 : decode cX5_sums 165 = .ok (.goto 4, 3) := by decide +kernel
theorem d_X5_sums_168 : decode cX5_sums 168 = .ok (.iconst 0, 1) := by decide +kernel
theorem d_X5_sums_169 : decode cX5_sums 169 = .ok (.invokevirtual 91, 3) := by decide +kernel
theorem d_X5_sums_172 : decode cX5_sums 172 = .ok (.ifCond .eq 7, 3) := by decide +kernel
theorem d_X5_sums_175 : decode cX5_sums 175 = .ok (.iconst 0, 1) := by decide +kernel
theorem d_X5_sums_176 : decode cX5_sums 176 = .ok (.goto 4, 3) := by decide +kernel
theorem d_X5_sums_179 : decode cX5_sums 179 = .ok (.iconst 1, 1) := by decide +kernel
theorem d_X5_sums_180 : decode cX5_sums 180 = .ok (.iastore, 1) := by decide +kernel
theorem d_X5_sums_181 : decode cX5_sums 181 = .ok (.return_, 1) := by decide +kernel
theorem sg_X5_sums_0 {L : Nat} {xs : Nat → Int32} {σ : ks_St} {mc ms : Nat} {P : ka_O → ks_St → Prop} {x1 : Int32} {x2 : Int32}  (k3 : (2 ≤ x1) → (¬ x1 = 2) → ks_W L xs mX5_sums rm_X5_sums 181 [] [] σ mc ms P) (v4 : (2 ≤ x1) → (x1 = 2) → vp_in (x2 - 1) 513) (v5 : (2 ≤ x1) → (x1 = 2) → vp_in (x2 - 1) 513) (k6 : (2 ≤ x1) → (x1 = 2) → ks_W L xs mX5_sums rm_X5_sums 143 [(0, .ref 17), (2, .int x2), (3, .int (sf_ σ 21 (x2 - 1).toNatClampNeg)), (4, .int (sf_ σ 22 (x2 - 1).toNatClampNeg))] [.int x2, .ref 17] σ mc ms P) (k8 : (¬ (2 ≤ x1)) → (¬ x1 = 1) → ks_W L xs mX5_sums rm_X5_sums 22 [(0, .ref 17), (1, .int x1), (2, .int x2)] [.int 0, .int x2, .ref 17, .int 0, .ref 20] σ mc ms P) (k9 : (¬ (2 ≤ x1)) → (x1 = 1) → ks_W L xs mX5_sums rm_X5_sums 22 [(0, .ref 17), (1, .int x1), (2, .int x2)] [.int 1, .int x2, .ref 17, .int 0, .ref 20] σ mc ms P) : ks_W L xs mX5_sums rm_X5_sums 0 [(0, .ref 17), (1, .int x1), (2, .int x2)] [] σ mc ms P := by
  refine ka_iload_n d_X5_sums_0 rfl rfl 1 rfl ?_
  refine ka_iconst (v := 2) d_X5_sums_1 rfl (by decide) ?_
  refine ka_icmp_ge (tgt := 117) d_X5_sums_2 (by decide) rfl (fun c1 => ?_) (fun c1 => ?_)
  · refine ka_iload_n d_X5_sums_117 rfl rfl 1 rfl ?_
    refine ka_iconst (v := 2) d_X5_sums_118 rfl (by decide) ?_
    refine ka_icmp_ne (tgt := 181) d_X5_sums_119 (by decide) rfl (fun c2 => ?_) (fun c2 => ?_)
    · refine ka_sub [] rfl ?_
      exact (k3 c1 c2)
    · refine ka_aload_n d_X5_sums_122 rfl rfl 0 rfl ?_
      refine gf_X5_7 d_X5_sums_123 rfl fl_X5_21 ?_
      refine ka_iload_n d_X5_sums_126 rfl rfl 2 rfl ?_
      refine ka_iconst (v := 1) d_X5_sums_127 rfl (by decide) ?_
      refine ka_isub d_X5_sums_128 rfl ?_
      refine ks_iald row_21 d_X5_sums_129 rfl (v4 c1 c2) ?_
      refine ka_istore_n (ls' := [(3, .int (sf_ σ 21 (x2 - 1).toNatClampNeg)), (0, .ref 17), (1, .int x1), (2, .int x2)]) d_X5_sums_130 rfl rfl (by decide) rfl ?_
      refine ka_aload_n d_X5_sums_131 rfl rfl 1 rfl ?_
      refine gf_X5_8 d_X5_sums_132 rfl fl_X5_24 ?_
      refine ka_iload_n d_X5_sums_135 rfl rfl 3 rfl ?_
      refine ka_iconst (v := 1) d_X5_sums_136 rfl (by decide) ?_
      refine ka_isub d_X5_sums_137 rfl ?_
      refine ks_iald row_22 d_X5_sums_138 rfl (v5 c1 c2) ?_
      refine ka_istore (ls' := [(4, .int (sf_ σ 22 (x2 - 1).toNatClampNeg)), (3, .int (sf_ σ 21 (x2 - 1).toNatClampNeg)), (0, .ref 17), (1, .int x1), (2, .int x2)]) d_X5_sums_139 rfl (by decide) rfl ?_
      refine ka_aload_n d_X5_sums_141 rfl rfl 2 rfl ?_
      refine ka_iload_n d_X5_sums_142 rfl rfl 4 rfl ?_
      refine ka_sub [2, 4, 1, 0] rfl ?_
      exact (k6 c1 c2)
  · refine ka_aload_n d_X5_sums_5 rfl rfl 0 rfl ?_
    refine gf_X5_5 d_X5_sums_6 rfl fl_X5_18 ?_
    refine ka_iconst (v := 0) d_X5_sums_9 rfl (by decide) ?_
    refine ka_aload_n d_X5_sums_10 rfl rfl 0 rfl ?_
    refine ka_iload_n d_X5_sums_11 rfl rfl 2 rfl ?_
    refine ka_iload_n d_X5_sums_12 rfl rfl 1 rfl ?_
    refine ka_iconst (v := 1) d_X5_sums_13 rfl (by decide) ?_
    refine ka_icmp_ne (tgt := 21) d_X5_sums_14 (by decide) rfl (fun c7 => ?_) (fun c7 => ?_)
    · refine ka_iconst (v := 0) d_X5_sums_21 rfl (by decide) ?_
      exact (k8 c1 c7)
    · refine ka_iconst (v := 1) d_X5_sums_17 rfl (by decide) ?_
      refine ka_goto (q := 22) d_X5_sums_18 (by decide) ?_
      exact (k9 c1 c7)
theorem cs_X5_sums_22 {L : Nat} {xs : Nat → Int32} {σ : ks_St} {mc ms : Nat} {P : ka_O → ks_St → Prop} {f : Int32 → ks_St → Prop} {x1 : Int32} {x2 : Int32} {s1 : Int32} {s3 : Int32} {s4 : Int32} (hK : ks_M L xs mX5_add rm_X5_add [.ref 17, .int s3, .int s4] σ (pi_ f)) (kr : ∀ r σ', f r σ' → ks_W L xs mX5_sums rm_X5_sums 25 [(0, .ref 17), (1, .int x1), (2, .int x2)] [.int r, .int s1, .ref 20] σ' mc ms P) : ks_W L xs mX5_sums rm_X5_sums 22 [(0, .ref 17), (1, .int x1), (2, .int x2)] [.int s4, .int s3, .ref 17, .int s1, .ref 20] σ mc ms P := by
  refine ks_callV (q := 25) (o := 17) (ci := 5) (As := [.int s3, .int s4]) (st := [.int s1, .ref 20]) d_X5_sums_22 rfl rfl (by decide) rfl rfl lk_X5_80 ⟨by decide, by decide⟩ (Nat.le_of_ble_eq_true rfl) ⟨Nat.le_refl _, Nat.le_refl _⟩ hK (fun v σ' hq => ?_) (fun E σ' hq => ?_)
  · obtain ⟨r, e, hf⟩ := hq; cases e; exact kr r σ' hf
  · obtain ⟨r, e, hf⟩ := hq; cases e
theorem sg_X5_sums_25 {L : Nat} {xs : Nat → Int32} {σ : ks_St} {mc ms : Nat} {P : ka_O → ks_St → Prop} {x1 : Int32} {x2 : Int32} {s1 : Int32} {s2 : Int32}  (v1 : vp_in s1 4) (v3 : (¬ x1 = 0) → vp_in (x2 - 1) 513) (v4 : (¬ x1 = 0) → vp_in (x2 - 1) 513) (k6 : (¬ x1 = 0) → ((sf_ (uf_ σ 20 (upd (sf_ σ 20) s1.toNatClampNeg s2)) 21 (x2 - 1).toNatClampNeg) = (sf_ (uf_ σ 20 (upd (sf_ σ 20) s1.toNatClampNeg s2)) 22 (x2 - 1).toNatClampNeg)) → ks_W L xs mX5_sums rm_X5_sums 81 [(0, .ref 17), (2, .int x2)] [.int 0] (uf_ σ 20 (upd (sf_ σ 20) s1.toNatClampNeg s2)) mc ms P) (k7 : (¬ x1 = 0) → (¬ ((sf_ (uf_ σ 20 (upd (sf_ σ 20) s1.toNatClampNeg s2)) 21 (x2 - 1).toNatClampNeg) = (sf_ (uf_ σ 20 (upd (sf_ σ 20) s1.toNatClampNeg s2)) 22 (x2 - 1).toNatClampNeg))) → ks_W L xs mX5_sums rm_X5_sums 81 [(0, .ref 17), (2, .int x2)] [.int 1] (uf_ σ 20 (upd (sf_ σ 20) s1.toNatClampNeg s2)) mc ms P) (v8 : (x1 = 0) → vp_in (x2 - 1) 513) (v9 : (x1 = 0) → vp_in (x2 - 1) 513) (k11 : (x1 = 0) → (¬ (sf_ (uf_ σ 20 (upd (sf_ σ 20) s1.toNatClampNeg s2)) 21 (x2 - 1).toNatClampNeg) = (sf_ (uf_ σ 20 (upd (sf_ σ 20) s1.toNatClampNeg s2)) 22 (x2 - 1).toNatClampNeg)) → ks_W L xs mX5_sums rm_X5_sums 81 [(0, .ref 17), (2, .int x2)] [.int 0] (uf_ σ 20 (upd (sf_ σ 20) s1.toNatClampNeg s2)) mc ms P) (k12 : (x1 = 0) → ((sf_ (uf_ σ 20 (upd (sf_ σ 20) s1.toNatClampNeg s2)) 21 (x2 - 1).toNatClampNeg) = (sf_ (uf_ σ 20 (upd (sf_ σ 20) s1.toNatClampNeg s2)) 22 (x2 - 1).toNatClampNeg)) → ks_W L xs mX5_sums rm_X5_sums 81 [(0, .ref 17), (2, .int x2)] [.int 1] (uf_ σ 20 (upd (sf_ σ 20) s1.toNatClampNeg s2)) mc ms P) : ks_W L xs mX5_sums rm_X5_sums 25 [(0, .ref 17), (1, .int x1), (2, .int x2)] [.int s2, .int s1, .ref 20] σ mc ms P := by
  refine ks_iast row_20 d_X5_sums_25 rfl v1 ?_
  refine ka_iload_n d_X5_sums_26 rfl rfl 1 rfl ?_
  refine ka_if_ne (tgt := 57) d_X5_sums_27 (by decide) rfl (fun c2 => ?_) (fun c2 => ?_)
  · refine ka_aload_n d_X5_sums_57 rfl rfl 0 rfl ?_
    refine gf_X5_7 d_X5_sums_58 rfl fl_X5_21 ?_
    refine ka_iload_n d_X5_sums_61 rfl rfl 2 rfl ?_
    refine ka_iconst (v := 1) d_X5_sums_62 rfl (by decide) ?_
    refine ka_isub d_X5_sums_63 rfl ?_
    refine ks_iald row_21 d_X5_sums_64 rfl (v3 c2) ?_
    refine ka_aload_n d_X5_sums_65 rfl rfl 0 rfl ?_
    refine gf_X5_8 d_X5_sums_66 rfl fl_X5_24 ?_
    refine ka_iload_n d_X5_sums_69 rfl rfl 2 rfl ?_
    refine ka_iconst (v := 1) d_X5_sums_70 rfl (by decide) ?_
    refine ka_isub d_X5_sums_71 rfl ?_
    refine ks_iald row_22 d_X5_sums_72 rfl (v4 c2) ?_
    refine ka_icmp_eq (tgt := 80) d_X5_sums_73 (by decide) rfl (fun c5 => ?_) (fun c5 => ?_)
    · refine ka_iconst (v := 0) d_X5_sums_80 rfl (by decide) ?_
      refine ka_sub [0, 2] rfl ?_
      exact (k6 c2 c5)
    · refine ka_iconst (v := 1) d_X5_sums_76 rfl (by decide) ?_
      refine ka_goto (q := 81) d_X5_sums_77 (by decide) ?_
      refine ka_sub [0, 2] rfl ?_
      exact (k7 c2 c5)
  · refine ka_aload_n d_X5_sums_30 rfl rfl 0 rfl ?_
    refine gf_X5_7 d_X5_sums_31 rfl fl_X5_21 ?_
    refine ka_iload_n d_X5_sums_34 rfl rfl 2 rfl ?_
    refine ka_iconst (v := 1) d_X5_sums_35 rfl (by decide) ?_
    refine ka_isub d_X5_sums_36 rfl ?_
    refine ks_iald row_21 d_X5_sums_37 rfl (v8 c2) ?_
    refine ka_aload_n d_X5_sums_38 rfl rfl 0 rfl ?_
    refine gf_X5_8 d_X5_sums_39 rfl fl_X5_24 ?_
    refine ka_iload_n d_X5_sums_42 rfl rfl 2 rfl ?_
    refine ka_iconst (v := 1) d_X5_sums_43 rfl (by decide) ?_
    refine ka_isub d_X5_sums_44 rfl ?_
    refine ks_iald row_22 d_X5_sums_45 rfl (v9 c2) ?_
    refine ka_icmp_ne (tgt := 53) d_X5_sums_46 (by decide) rfl (fun c10 => ?_) (fun c10 => ?_)
    · refine ka_iconst (v := 0) d_X5_sums_53 rfl (by decide) ?_
      refine ka_goto (q := 81) d_X5_sums_54 (by decide) ?_
      refine ka_sub [0, 2] rfl ?_
      exact (k11 c2 c10)
    · refine ka_iconst (v := 1) d_X5_sums_49 rfl (by decide) ?_
      refine ka_goto (q := 81) d_X5_sums_50 (by decide) ?_
      refine ka_sub [0, 2] rfl ?_
      exact (k12 c2 c10)
theorem sg_X5_sums_81 {L : Nat} {xs : Nat → Int32} {σ : ks_St} {mc ms : Nat} {P : ka_O → ks_St → Prop} {x2 : Int32} {s0 : Int32}  (k2 : (s0 = 0) → ks_W L xs mX5_sums rm_X5_sums 114 [] [.int 1, .ref 20] σ mc ms P) (v3 : (¬ (s0 = 0)) → vp_in (x2 - 1) 1026) (v4 : (¬ (s0 = 0)) → vp_in (x2 - 1) 513) (k6 : (¬ (s0 = 0)) → ((sf_ σ 23 (x2 - 1).toNatClampNeg) = (sf_ σ 21 (x2 - 1).toNatClampNeg)) → ks_W L xs mX5_sums rm_X5_sums 114 [] [.int 1, .ref 20] σ mc ms P) (k7 : (¬ (s0 = 0)) → (¬ ((sf_ σ 23 (x2 - 1).toNatClampNeg) = (sf_ σ 21 (x2 - 1).toNatClampNeg))) → ks_W L xs mX5_sums rm_X5_sums 115 [] [.int 1, .int 1, .ref 20] σ mc ms P) : ks_W L xs mX5_sums rm_X5_sums 81 [(0, .ref 17), (2, .int x2)] [.int s0] σ mc ms P := by
  refine ka_istore_n (ls' := [(3, .int s0), (0, .ref 17), (2, .int x2)]) d_X5_sums_81 rfl rfl (by decide) rfl ?_
  refine ka_aload_n d_X5_sums_82 rfl rfl 1 rfl ?_
  refine gf_X5_5 d_X5_sums_83 rfl fl_X5_18 ?_
  refine ka_iconst (v := 1) d_X5_sums_86 rfl (by decide) ?_
  refine ka_iload_n d_X5_sums_87 rfl rfl 0 rfl ?_
  refine ka_if_eq (tgt := 114) d_X5_sums_88 (by decide) rfl (fun c1 => ?_) (fun c1 => ?_)
  · refine ka_sub [] rfl ?_
    exact (k2 c1)
  · refine ka_aload_n d_X5_sums_91 rfl rfl 1 rfl ?_
    refine gf_X5_9 d_X5_sums_92 rfl fl_X5_27 ?_
    refine ka_iload_n d_X5_sums_95 rfl rfl 2 rfl ?_
    refine ka_iconst (v := 1) d_X5_sums_96 rfl (by decide) ?_
    refine ka_isub d_X5_sums_97 rfl ?_
    refine ks_iald row_23 d_X5_sums_98 rfl (v3 c1) ?_
    refine ka_aload_n d_X5_sums_99 rfl rfl 1 rfl ?_
    refine gf_X5_7 d_X5_sums_100 rfl fl_X5_21 ?_
    refine ka_iload_n d_X5_sums_103 rfl rfl 2 rfl ?_
    refine ka_iconst (v := 1) d_X5_sums_104 rfl (by decide) ?_
    refine ka_isub d_X5_sums_105 rfl ?_
    refine ks_iald row_21 d_X5_sums_106 rfl (v4 c1) ?_
    refine ka_icmp_eq (tgt := 114) d_X5_sums_107 (by decide) rfl (fun c5 => ?_) (fun c5 => ?_)
    · refine ka_sub [] rfl ?_
      exact (k6 c1 c5)
    · refine ka_iconst (v := 1) d_X5_sums_110 rfl (by decide) ?_
      refine ka_goto (q := 115) d_X5_sums_111 (by decide) ?_
      refine ka_sub [] rfl ?_
      exact (k7 c1 c5)
theorem sg_X5_sums_114 {L : Nat} {xs : Nat → Int32} {σ : ks_St} {mc ms : Nat} {P : ka_O → ks_St → Prop} {s1 : Int32}  (k1 : ks_W L xs mX5_sums rm_X5_sums 115 [] [.int 0, .int s1, .ref 20] σ mc ms P) : ks_W L xs mX5_sums rm_X5_sums 114 [] [.int s1, .ref 20] σ mc ms P := by
  refine ka_iconst (v := 0) d_X5_sums_114 rfl (by decide) ?_
  exact k1
theorem sg_X5_sums_115 {L : Nat} {xs : Nat → Int32} {σ : ks_St} {mc ms : Nat} {P : ka_O → ks_St → Prop} {s1 : Int32} {s2 : Int32}  (v1 : vp_in s1 4) (r2 : P (.inl none) (uf_ σ 20 (upd (sf_ σ 20) s1.toNatClampNeg s2))) : ks_W L xs mX5_sums rm_X5_sums 115 [] [.int s2, .int s1, .ref 20] σ mc ms P := by
  refine ks_iast row_20 d_X5_sums_115 rfl v1 ?_
  exact ks_vret d_X5_sums_116 rfl r2
theorem cs_X5_sums_143 {L : Nat} {xs : Nat → Int32} {σ : ks_St} {mc ms : Nat} {P : ka_O → ks_St → Prop} {f : ks_St → Prop} {x2 : Int32} {x3 : Int32} {x4 : Int32} {s1 : Int32} (hK : ks_M L xs mX5_amounts rm_X5_amounts [.ref 17, .int s1] σ (pv_ f)) (kr : ∀ σ', f σ' → ks_W L xs mX5_sums rm_X5_sums 146 [(0, .ref 17), (2, .int x2), (3, .int x3), (4, .int x4)] [] σ' mc ms P) : ks_W L xs mX5_sums rm_X5_sums 143 [(0, .ref 17), (2, .int x2), (3, .int x3), (4, .int x4)] [.int s1, .ref 17] σ mc ms P := by
  refine ks_callV (q := 146) (o := 17) (ci := 5) (As := [.int s1]) (st := []) d_X5_sums_143 rfl rfl (by decide) rfl rfl lk_X5_84 ⟨by decide, by decide⟩ (Nat.le_of_ble_eq_true rfl) ⟨Nat.le_refl _, Nat.le_refl _⟩ hK (fun v σ' hq => ?_) (fun E σ' hq => ?_)
  · obtain ⟨e, hf⟩ := hq; cases e; exact kr σ' hf
  · obtain ⟨e, hf⟩ := hq; cases e
theorem sg_X5_sums_146 {L : Nat} {xs : Nat → Int32} {σ : ks_St} {mc ms : Nat} {P : ka_O → ks_St → Prop} {x2 : Int32} {x3 : Int32} {x4 : Int32}  (k1 : ks_W L xs mX5_sums rm_X5_sums 148 [(0, .ref 17), (2, .int x2), (3, .int x3), (4, .int x4)] [.int x2, .ref 17] σ mc ms P) : ks_W L xs mX5_sums rm_X5_sums 146 [(0, .ref 17), (2, .int x2), (3, .int x3), (4, .int x4)] [] σ mc ms P := by
  refine ka_aload_n d_X5_sums_146 rfl rfl 0 rfl ?_
  refine ka_iload_n d_X5_sums_147 rfl rfl 1 rfl ?_
  exact k1
theorem cs_X5_sums_148 {L : Nat} {xs : Nat → Int32} {σ : ks_St} {mc ms : Nat} {P : ka_O → ks_St → Prop} {f : ks_St → Prop} {x2 : Int32} {x3 : Int32} {x4 : Int32} {s1 : Int32} (hK : ks_M L xs mX5_multiply rm_X5_multiply [.ref 17, .int s1] σ (pv_ f)) (kr : ∀ σ', f σ' → ks_W L xs mX5_sums rm_X5_sums 151 [(0, .ref 17), (2, .int x2), (3, .int x3), (4, .int x4)] [] σ' mc ms P) : ks_W L xs mX5_sums rm_X5_sums 148 [(0, .ref 17), (2, .int x2), (3, .int x3), (4, .int x4)] [.int s1, .ref 17] σ mc ms P := by
  refine ks_callV (q := 151) (o := 17) (ci := 5) (As := [.int s1]) (st := []) d_X5_sums_148 rfl rfl (by decide) rfl rfl lk_X5_88 ⟨by decide, by decide⟩ (Nat.le_of_ble_eq_true rfl) ⟨Nat.le_refl _, Nat.le_refl _⟩ hK (fun v σ' hq => ?_) (fun E σ' hq => ?_)
  · obtain ⟨e, hf⟩ := hq; cases e; exact kr σ' hf
  · obtain ⟨e, hf⟩ := hq; cases e
theorem sg_X5_sums_151 {L : Nat} {xs : Nat → Int32} {σ : ks_St} {mc ms : Nat} {P : ka_O → ks_St → Prop} {x2 : Int32} {x3 : Int32} {x4 : Int32}  (k2 : (x3 = x4) → ks_W L xs mX5_sums rm_X5_sums 169 [] [.int 0, .int x2, .ref 17, .int 1, .ref 20] σ mc ms P) (k3 : (¬ (x3 = x4)) → ks_W L xs mX5_sums rm_X5_sums 169 [] [.int 1, .int x2, .ref 17, .int 1, .ref 20] σ mc ms P) : ks_W L xs mX5_sums rm_X5_sums 151 [(0, .ref 17), (2, .int x2), (3, .int x3), (4, .int x4)] [] σ mc ms P := by
  refine ka_aload_n d_X5_sums_151 rfl rfl 0 rfl ?_
  refine gf_X5_5 d_X5_sums_152 rfl fl_X5_18 ?_
  refine ka_iconst (v := 1) d_X5_sums_155 rfl (by decide) ?_
  refine ka_aload_n d_X5_sums_156 rfl rfl 0 rfl ?_
  refine ka_iload_n d_X5_sums_157 rfl rfl 1 rfl ?_
  refine ka_iload_n d_X5_sums_158 rfl rfl 2 rfl ?_
  refine ka_iload d_X5_sums_159 rfl 3 rfl ?_
  refine ka_icmp_eq (tgt := 168) d_X5_sums_161 (by decide) rfl (fun c1 => ?_) (fun c1 => ?_)
  · refine ka_iconst (v := 0) d_X5_sums_168 rfl (by decide) ?_
    refine ka_sub [] rfl ?_
    exact (k2 c1)
  · refine ka_iconst (v := 1) d_X5_sums_164 rfl (by decide) ?_
    refine ka_goto (q := 169) d_X5_sums_165 (by decide) ?_
    refine ka_sub [] rfl ?_
    exact (k3 c1)
theorem cs_X5_sums_169 {L : Nat} {xs : Nat → Int32} {σ : ks_St} {mc ms : Nat} {P : ka_O → ks_St → Prop} {f : Int32 → ks_St → Prop} {s1 : Int32} {s3 : Int32} {s4 : Int32} (hK : ks_M L xs mX5_fits rm_X5_fits [.ref 17, .int s3, .int s4] σ (pi_ f)) (kr : ∀ r σ', f r σ' → ks_W L xs mX5_sums rm_X5_sums 172 [] [.int r, .int s1, .ref 20] σ' mc ms P) : ks_W L xs mX5_sums rm_X5_sums 169 [] [.int s4, .int s3, .ref 17, .int s1, .ref 20] σ mc ms P := by
  refine ks_callV (q := 172) (o := 17) (ci := 5) (As := [.int s3, .int s4]) (st := [.int s1, .ref 20]) d_X5_sums_169 rfl rfl (by decide) rfl rfl lk_X5_91 ⟨by decide, by decide⟩ (Nat.le_of_ble_eq_true rfl) ⟨Nat.le_refl _, Nat.le_refl _⟩ hK (fun v σ' hq => ?_) (fun E σ' hq => ?_)
  · obtain ⟨r, e, hf⟩ := hq; cases e; exact kr r σ' hf
  · obtain ⟨r, e, hf⟩ := hq; cases e
theorem sg_X5_sums_172 {L : Nat} {xs : Nat → Int32} {σ : ks_St} {mc ms : Nat} {P : ka_O → ks_St → Prop} {s1 : Int32} {s2 : Int32}  (k2 : (s2 = 0) → ks_W L xs mX5_sums rm_X5_sums 180 [] [.int 1, .int s1, .ref 20] σ mc ms P) (k3 : (¬ (s2 = 0)) → ks_W L xs mX5_sums rm_X5_sums 180 [] [.int 0, .int s1, .ref 20] σ mc ms P) : ks_W L xs mX5_sums rm_X5_sums 172 [] [.int s2, .int s1, .ref 20] σ mc ms P := by
  refine ka_if_eq (tgt := 179) d_X5_sums_172 (by decide) rfl (fun c1 => ?_) (fun c1 => ?_)
  · refine ka_iconst (v := 1) d_X5_sums_179 rfl (by decide) ?_
    exact (k2 c1)
  · refine ka_iconst (v := 0) d_X5_sums_175 rfl (by decide) ?_
    refine ka_goto (q := 180) d_X5_sums_176 (by decide) ?_
    exact (k3 c1)
theorem sg_X5_sums_180 {L : Nat} {xs : Nat → Int32} {σ : ks_St} {mc ms : Nat} {P : ka_O → ks_St → Prop} {s1 : Int32} {s2 : Int32}  (v1 : vp_in s1 4) (k2 : ks_W L xs mX5_sums rm_X5_sums 181 [] [] (uf_ σ 20 (upd (sf_ σ 20) s1.toNatClampNeg s2)) mc ms P) : ks_W L xs mX5_sums rm_X5_sums 180 [] [.int s2, .int s1, .ref 20] σ mc ms P := by
  refine ks_iast row_20 d_X5_sums_180 rfl v1 ?_
  exact k2
theorem sg_X5_sums_181 {L : Nat} {xs : Nat → Int32} {σ : ks_St} {mc ms : Nat} {P : ka_O → ks_St → Prop}   (r1 : P (.inl none) σ) : ks_W L xs mX5_sums rm_X5_sums 181 [] [] σ mc ms P := by
  exact ks_vret d_X5_sums_181 rfl r1
theorem d_X5_quotients_0 : decode cX5_quotients 0 = .ok (.aload_n 0, 1) := by decide +kernel
theorem d_X5_quotients_1 : decode cX5_quotients 1 = .ok (.getfield 21, 3) := by decide +kernel
theorem d_X5_quotients_4 : decode cX5_quotients 4 = .ok (.iload_n 2, 1) := by decide +kernel
theorem d_X5_quotients_5 : decode cX5_quotients 5 = .ok (.iconst 1, 1) := by decide +kernel
theorem d_X5_quotients_6 : decode cX5_quotients 6 = .ok (.isub, 1) := by decide +kernel
theorem d_X5_quotients_7 : decode cX5_quotients 7 = .ok (.iaload, 1) := by decide +kernel
theorem d_X5_quotients_8 : decode cX5_quotients 8 = .ok (.istore_n 3, 1) := by decide +kernel
theorem d_X5_quotients_9 : decode cX5_quotients 9 = .ok (.aload_n 0, 1) := by decide +kernel
theorem d_X5_quotients_10 : decode cX5_quotients 10 = .ok (.getfield 24, 3) := by decide +kernel
theorem d_X5_quotients_13 : decode cX5_quotients 13 = .ok (.iload_n 2, 1) := by decide +kernel
theorem d_X5_quotients_14 : decode cX5_quotients 14 = .ok (.iconst 1, 1) := by decide +kernel
theorem d_X5_quotients_15 : decode cX5_quotients 15 = .ok (.isub, 1) := by decide +kernel
theorem d_X5_quotients_16 : decode cX5_quotients 16 = .ok (.iaload, 1) := by decide +kernel
theorem d_X5_quotients_17 : decode cX5_quotients 17 = .ok (.istore 4, 2) := by decide +kernel
theorem d_X5_quotients_19 : decode cX5_quotients 19 = .ok (.iload_n 1, 1) := by decide +kernel
theorem d_X5_quotients_20 : decode cX5_quotients 20 = .ok (.iconst 5, 1) := by decide +kernel
theorem d_X5_quotients_21 : decode cX5_quotients 21 = .ok (.if_icmp .le 8, 3) := by decide +kernel
theorem d_X5_quotients_24 : decode cX5_quotients 24 = .ok (.aload_n 0, 1) := by decide +kernel
theorem d_X5_quotients_25 : decode cX5_quotients 25 = .ok (.iload_n 2, 1) := by decide +kernel
theorem d_X5_quotients_26 : decode cX5_quotients 26 = .ok (.invokevirtual 84, 3) := by decide +kernel
theorem d_X5_quotients_29 : decode cX5_quotients 29 = .ok (.aload_n 0, 1) := by decide +kernel
theorem d_X5_quotients_30 : decode cX5_quotients 30 = .ok (.iload_n 2, 1) := by decide +kernel
theorem d_X5_quotients_31 : decode cX5_quotients 31 = .ok (.invokevirtual 95, 3) := by decide +kernel
theorem d_X5_quotients_34 : decode cX5_quotients 34 = .ok (.iload_n 1, 1) := by decide +kernel
theorem d_X5_quotients_35 : decode cX5_quotients 35 = .ok (.bipush 6, 2) := by decide +kernel
theorem d_X5_quotients_37 : decode cX5_quotients 37 = .ok (.if_icmp .ne 32, 3) := by decide +kernel
theorem d_X5_quotients_40 : decode cX5_quotients 40 = .ok (.aload_n 0, 1) := by decide +kernel
theorem d_X5_quotients_41 : decode cX5_quotients 41 = .ok (.getfield 18, 3) := by decide +kernel
theorem d_X5_quotients_44 : decode cX5_quotients 44 = .ok (.iconst 1, 1) := by decide +kernel
theorem d_X5_quotients_45 : decode cX5_quotients 45 = .ok (.iload_n 3, 1) := by decide +kernel
theorem d_X5_quotients_46 : decode cX5_quotients 46 = .ok (.iload 4, 2) := by decide +kernel
theorem d_X5_quotients_48 : decode cX5_quotients 48 = .ok (.if_icmp .ne 19, 3) := by decide +kernel
theorem d_X5_quotients_51 : decode cX5_quotients 51 = .ok (.aload_n 0, 1) := by decide +kernel
theorem d_X5_quotients_52 : decode cX5_quotients 52 = .ok (.getfield 27, 3) := by decide +kernel
theorem d_X5_quotients_55 : decode cX5_quotients 55 = .ok (.iload_n 2, 1) := by decide +kernel
theorem d_X5_quotients_56 : decode cX5_quotients 56 = .ok (.iconst 1, 1) := by decide +kernel
theorem d_X5_quotients_57 : decode cX5_quotients 57 = .ok (.isub, 1) := by decide +kernel
theorem d_X5_quotients_58 : decode cX5_quotients 58 = .ok (.iaload, 1) := by decide +kernel
theorem d_X5_quotients_59 : decode cX5_quotients 59 = .ok (.iconst 1, 1) := by decide +kernel
theorem d_X5_quotients_60 : decode cX5_quotients 60 = .ok (.if_icmp .ne 7, 3) := by decide +kernel
theorem d_X5_quotients_63 : decode cX5_quotients 63 = .ok (.iconst 1, 1) := by decide +kernel
theorem d_X5_quotients_64 : decode cX5_quotients 64 = .ok (.goto 4, 3) := by decide +kernel
theorem d_X5_quotients_67 : decode cX5_quotients 67 = .ok (.iconst 0, 1) := by decide +kernel
theorem d_X5_quotients_68 : decode cX5_quotients 68 = .ok (.iastore, 1) := by decide +kernel
theorem d_X5_quotients_69 : decode cX5_quotients 69 = .ok (.iload_n 1, 1) := by decide +kernel
theorem d_X5_quotients_70 : decode cX5_quotients 70 = .ok (.iconst 5, 1) := by decide +kernel
theorem d_X5_quotients_71 : decode cX5_quotients 71 = .ok (.if_icmp .eq 9, 3) := by decide +kernel
theorem d_X5_quotients_74 : decode cX5_quotients 74 = .ok (.iload_n 1, 1) := by decide +kernel
theorem d_X5_quotients_75 : decode cX5_quotients 75 = .ok (.bipush 7, 2) := by decide +kernel
theorem d_X5_quotients_77 : decode cX5_quotients 77 = .ok (.if_icmp .ne 8, 3) := by decide +kernel
theorem d_X5_quotients_80 : decode cX5_quotients 80 = .ok (.aload_n 0, 1) := by decide +kernel
theorem d_X5_quotients_81 : decode cX5_quotients 81 = .ok (.iload_n 2, 1) := by decide +kernel
theorem d_X5_quotients_82 : decode cX5_quotients 82 = .ok (.invokevirtual 98, 3) := by decide +kernel
theorem d_X5_quotients_85 : decode cX5_quotients 85 = .ok (.iload_n 1, 1) := by decide +kernel
theorem d_X5_quotients_86 : decode cX5_quotients 86 = .ok (.bipush 6, 2) := by decide +kernel
theorem d_X5_quotients_88 : decode cX5_quotients 88 = .ok (.if_icmp .ne 9, 3) := by decide +kernel
theorem d_X5_quotients_91 : decode cX5_quotients 91 = .ok (.iload_n 3, 1) := by decide +kernel
theorem d_X5_quotients_92 : decode cX5_quotients 92 = .ok (.iload 4, 2) := by decide +kernel
theorem d_X5_quotients_94 : decode cX5_quotients 94 = .ok (.if_icmp .ne 14, 3) := by decide +kernel
theorem d_X5_quotients_97 : decode cX5_quotients 97 = .ok (.iload_n 1, 1) := by decide +kernel
theorem d_X5_quotients_98 : decode cX5_quotients 98 = .ok (.bipush 7, 2) := by decide +kernel
theorem d_X5_quotients_100 : decode cX5_quotients 100 = .ok (.if_icmp .ne 13, 3) := by decide +kernel
theorem d_X5_quotients_103 : decode cX5_quotients 103 = .ok (.iload_n 3, 1) := by decide +kernel
theorem d_X5_quotients_104 : decode cX5_quotients 104 = .ok (.iconst 1, 1) := by decide +kernel
theorem d_X5_quotients_105 : decode cX5_quotients 105 = .ok (.if_icmp .ne 8, 3) := by decide +kernel
theorem d_X5_quotients_108 : decode cX5_quotients 108 = .ok (.aload_n 0, 1) := by decide +kernel
theorem d_X5_quotients_109 : decode cX5_quotients 109 = .ok (.iload_n 2, 1) := by decide +kernel
theorem d_X5_quotients_110 : decode cX5_quotients 110 = .ok (.invokevirtual 101, 3) := by decide +kernel
theorem d_X5_quotients_113 : decode cX5_quotients 113 = .ok (.return_, 1) := by decide +kernel
theorem sg_X5_quotients_0 {L : Nat} {xs : Nat → Int32} {σ : ks_St} {mc ms : Nat} {P : ka_O → ks_St → Prop} {x1 : Int32} {x2 : Int32}  (v1 : vp_in (x2 - 1) 513) (v2 : vp_in (x2 - 1) 513) (k4 : (x1 ≤ 5) → ks_W L xs mX5_quotients rm_X5_quotients 29 [(0, .ref 17), (1, .int x1), (2, .int x2), (3, .int (sf_ σ 21 (x2 - 1).toNatClampNeg)), (4, .int (sf_ σ 22 (x2 - 1).toNatClampNeg))] [] σ mc ms P) (k5 : (¬ (x1 ≤ 5)) → ks_W L xs mX5_quotients rm_X5_quotients 26 [(0, .ref 17), (1, .int x1), (2, .int x2), (3, .int (sf_ σ 21 (x2 - 1).toNatClampNeg)), (4, .int (sf_ σ 22 (x2 - 1).toNatClampNeg))] [.int x2, .ref 17] σ mc ms P) : ks_W L xs mX5_quotients rm_X5_quotients 0 [(0, .ref 17), (1, .int x1), (2, .int x2)] [] σ mc ms P := by
  refine ka_aload_n d_X5_quotients_0 rfl rfl 0 rfl ?_
  refine gf_X5_7 d_X5_quotients_1 rfl fl_X5_21 ?_
  refine ka_iload_n d_X5_quotients_4 rfl rfl 2 rfl ?_
  refine ka_iconst (v := 1) d_X5_quotients_5 rfl (by decide) ?_
  refine ka_isub d_X5_quotients_6 rfl ?_
  refine ks_iald row_21 d_X5_quotients_7 rfl v1 ?_
  refine ka_istore_n (ls' := [(3, .int (sf_ σ 21 (x2 - 1).toNatClampNeg)), (0, .ref 17), (1, .int x1), (2, .int x2)]) d_X5_quotients_8 rfl rfl (by decide) rfl ?_
  refine ka_aload_n d_X5_quotients_9 rfl rfl 1 rfl ?_
  refine gf_X5_8 d_X5_quotients_10 rfl fl_X5_24 ?_
  refine ka_iload_n d_X5_quotients_13 rfl rfl 3 rfl ?_
  refine ka_iconst (v := 1) d_X5_quotients_14 rfl (by decide) ?_
  refine ka_isub d_X5_quotients_15 rfl ?_
  refine ks_iald row_22 d_X5_quotients_16 rfl v2 ?_
  refine ka_istore (ls' := [(4, .int (sf_ σ 22 (x2 - 1).toNatClampNeg)), (3, .int (sf_ σ 21 (x2 - 1).toNatClampNeg)), (0, .ref 17), (1, .int x1), (2, .int x2)]) d_X5_quotients_17 rfl (by decide) rfl ?_
  refine ka_iload_n d_X5_quotients_19 rfl rfl 3 rfl ?_
  refine ka_iconst (v := 5) d_X5_quotients_20 rfl (by decide) ?_
  refine ka_icmp_le (tgt := 29) d_X5_quotients_21 (by decide) rfl (fun c3 => ?_) (fun c3 => ?_)
  · refine ka_sub [2, 3, 4, 1, 0] rfl ?_
    exact (k4 c3)
  · refine ka_aload_n d_X5_quotients_24 rfl rfl 2 rfl ?_
    refine ka_iload_n d_X5_quotients_25 rfl rfl 4 rfl ?_
    refine ka_sub [2, 3, 4, 1, 0] rfl ?_
    exact (k5 c3)
theorem cs_X5_quotients_26 {L : Nat} {xs : Nat → Int32} {σ : ks_St} {mc ms : Nat} {P : ka_O → ks_St → Prop} {f : ks_St → Prop} {x1 : Int32} {x2 : Int32} {x3 : Int32} {x4 : Int32} {s1 : Int32} (hK : ks_M L xs mX5_amounts rm_X5_amounts [.ref 17, .int s1] σ (pv_ f)) (kr : ∀ σ', f σ' → ks_W L xs mX5_quotients rm_X5_quotients 29 [(0, .ref 17), (1, .int x1), (2, .int x2), (3, .int x3), (4, .int x4)] [] σ' mc ms P) : ks_W L xs mX5_quotients rm_X5_quotients 26 [(0, .ref 17), (1, .int x1), (2, .int x2), (3, .int x3), (4, .int x4)] [.int s1, .ref 17] σ mc ms P := by
  refine ks_callV (q := 29) (o := 17) (ci := 5) (As := [.int s1]) (st := []) d_X5_quotients_26 rfl rfl (by decide) rfl rfl lk_X5_84 ⟨by decide, by decide⟩ (Nat.le_of_ble_eq_true rfl) ⟨Nat.le_refl _, Nat.le_refl _⟩ hK (fun v σ' hq => ?_) (fun E σ' hq => ?_)
  · obtain ⟨e, hf⟩ := hq; cases e; exact kr σ' hf
  · obtain ⟨e, hf⟩ := hq; cases e
theorem sg_X5_quotients_29 {L : Nat} {xs : Nat → Int32} {σ : ks_St} {mc ms : Nat} {P : ka_O → ks_St → Prop} {x1 : Int32} {x2 : Int32} {x3 : Int32} {x4 : Int32}  (k1 : ks_W L xs mX5_quotients rm_X5_quotients 31 [(0, .ref 17), (1, .int x1), (2, .int x2), (3, .int x3), (4, .int x4)] [.int x2, .ref 17] σ mc ms P) : ks_W L xs mX5_quotients rm_X5_quotients 29 [(0, .ref 17), (1, .int x1), (2, .int x2), (3, .int x3), (4, .int x4)] [] σ mc ms P := by
  refine ka_aload_n d_X5_quotients_29 rfl rfl 0 rfl ?_
  refine ka_iload_n d_X5_quotients_30 rfl rfl 2 rfl ?_
  exact k1
theorem cs_X5_quotients_31 {L : Nat} {xs : Nat → Int32} {σ : ks_St} {mc ms : Nat} {P : ka_O → ks_St → Prop} {f : ks_St → Prop} {x1 : Int32} {x2 : Int32} {x3 : Int32} {x4 : Int32} {s1 : Int32} (hK : ks_M L xs mX5_divide rm_X5_divide [.ref 17, .int s1] σ (pv_ f)) (kr : ∀ σ', f σ' → ks_W L xs mX5_quotients rm_X5_quotients 34 [(0, .ref 17), (1, .int x1), (2, .int x2), (3, .int x3), (4, .int x4)] [] σ' mc ms P) : ks_W L xs mX5_quotients rm_X5_quotients 31 [(0, .ref 17), (1, .int x1), (2, .int x2), (3, .int x3), (4, .int x4)] [.int s1, .ref 17] σ mc ms P := by
  refine ks_callV (q := 34) (o := 17) (ci := 5) (As := [.int s1]) (st := []) d_X5_quotients_31 rfl rfl (by decide) rfl rfl lk_X5_95 ⟨by decide, by decide⟩ (Nat.le_of_ble_eq_true rfl) ⟨Nat.le_refl _, Nat.le_refl _⟩ hK (fun v σ' hq => ?_) (fun E σ' hq => ?_)
  · obtain ⟨e, hf⟩ := hq; cases e; exact kr σ' hf
  · obtain ⟨e, hf⟩ := hq; cases e
theorem sg_X5_quotients_34 {L : Nat} {xs : Nat → Int32} {σ : ks_St} {mc ms : Nat} {P : ka_O → ks_St → Prop} {x1 : Int32} {x2 : Int32} {x3 : Int32} {x4 : Int32}  (k2 : (¬ x1 = 6) → ks_W L xs mX5_quotients rm_X5_quotients 69 [(0, .ref 17), (1, .int x1), (2, .int x2), (3, .int x3), (4, .int x4)] [] σ mc ms P) (k4 : (x1 = 6) → (¬ x3 = x4) → ks_W L xs mX5_quotients rm_X5_quotients 67 [(0, .ref 17), (1, .int x1), (2, .int x2), (3, .int x3), (4, .int x4)] [.int 1, .ref 20] σ mc ms P) (v5 : (x1 = 6) → (x3 = x4) → vp_in (x2 - 1) 1026) (k7 : (x1 = 6) → (x3 = x4) → (¬ (sf_ σ 23 (x2 - 1).toNatClampNeg) = 1) → ks_W L xs mX5_quotients rm_X5_quotients 67 [(0, .ref 17), (1, .int x1), (2, .int x2), (3, .int x3), (4, .int x4)] [.int 1, .ref 20] σ mc ms P) (k8 : (x1 = 6) → (x3 = x4) → ((sf_ σ 23 (x2 - 1).toNatClampNeg) = 1) → ks_W L xs mX5_quotients rm_X5_quotients 68 [(0, .ref 17), (1, .int x1), (2, .int x2), (3, .int x3), (4, .int x4)] [.int 1, .int 1, .ref 20] σ mc ms P) : ks_W L xs mX5_quotients rm_X5_quotients 34 [(0, .ref 17), (1, .int x1), (2, .int x2), (3, .int x3), (4, .int x4)] [] σ mc ms P := by
  refine ka_iload_n d_X5_quotients_34 rfl rfl 1 rfl ?_
  refine ka_bipush (v := 6) d_X5_quotients_35 rfl (by decide) ?_
  refine ka_icmp_ne (tgt := 69) d_X5_quotients_37 (by decide) rfl (fun c1 => ?_) (fun c1 => ?_)
  · exact (k2 c1)
  · refine ka_aload_n d_X5_quotients_40 rfl rfl 0 rfl ?_
    refine gf_X5_5 d_X5_quotients_41 rfl fl_X5_18 ?_
    refine ka_iconst (v := 1) d_X5_quotients_44 rfl (by decide) ?_
    refine ka_iload_n d_X5_quotients_45 rfl rfl 3 rfl ?_
    refine ka_iload d_X5_quotients_46 rfl 4 rfl ?_
    refine ka_icmp_ne (tgt := 67) d_X5_quotients_48 (by decide) rfl (fun c3 => ?_) (fun c3 => ?_)
    · exact (k4 c1 c3)
    · refine ka_aload_n d_X5_quotients_51 rfl rfl 0 rfl ?_
      refine gf_X5_9 d_X5_quotients_52 rfl fl_X5_27 ?_
      refine ka_iload_n d_X5_quotients_55 rfl rfl 2 rfl ?_
      refine ka_iconst (v := 1) d_X5_quotients_56 rfl (by decide) ?_
      refine ka_isub d_X5_quotients_57 rfl ?_
      refine ks_iald row_23 d_X5_quotients_58 rfl (v5 c1 c3) ?_
      refine ka_iconst (v := 1) d_X5_quotients_59 rfl (by decide) ?_
      refine ka_icmp_ne (tgt := 67) d_X5_quotients_60 (by decide) rfl (fun c6 => ?_) (fun c6 => ?_)
      · exact (k7 c1 c3 c6)
      · refine ka_iconst (v := 1) d_X5_quotients_63 rfl (by decide) ?_
        refine ka_goto (q := 68) d_X5_quotients_64 (by decide) ?_
        exact (k8 c1 c3 c6)
theorem sg_X5_quotients_67 {L : Nat} {xs : Nat → Int32} {σ : ks_St} {mc ms : Nat} {P : ka_O → ks_St → Prop} {x1 : Int32} {x2 : Int32} {x3 : Int32} {x4 : Int32} {s1 : Int32}  (k1 : ks_W L xs mX5_quotients rm_X5_quotients 68 [(0, .ref 17), (1, .int x1), (2, .int x2), (3, .int x3), (4, .int x4)] [.int 0, .int s1, .ref 20] σ mc ms P) : ks_W L xs mX5_quotients rm_X5_quotients 67 [(0, .ref 17), (1, .int x1), (2, .int x2), (3, .int x3), (4, .int x4)] [.int s1, .ref 20] σ mc ms P := by
  refine ka_iconst (v := 0) d_X5_quotients_67 rfl (by decide) ?_
  exact k1
theorem sg_X5_quotients_68 {L : Nat} {xs : Nat → Int32} {σ : ks_St} {mc ms : Nat} {P : ka_O → ks_St → Prop} {x1 : Int32} {x2 : Int32} {x3 : Int32} {x4 : Int32} {s1 : Int32} {s2 : Int32}  (v1 : vp_in s1 4) (k2 : ks_W L xs mX5_quotients rm_X5_quotients 69 [(0, .ref 17), (1, .int x1), (2, .int x2), (3, .int x3), (4, .int x4)] [] (uf_ σ 20 (upd (sf_ σ 20) s1.toNatClampNeg s2)) mc ms P) : ks_W L xs mX5_quotients rm_X5_quotients 68 [(0, .ref 17), (1, .int x1), (2, .int x2), (3, .int x3), (4, .int x4)] [.int s2, .int s1, .ref 20] σ mc ms P := by
  refine ks_iast row_20 d_X5_quotients_68 rfl v1 ?_
  exact k2
theorem sg_X5_quotients_69 {L : Nat} {xs : Nat → Int32} {σ : ks_St} {mc ms : Nat} {P : ka_O → ks_St → Prop} {x1 : Int32} {x2 : Int32} {x3 : Int32} {x4 : Int32}  (k2 : (x1 = 5) → ks_W L xs mX5_quotients rm_X5_quotients 80 [(0, .ref 17), (1, .int x1), (2, .int x2), (3, .int x3), (4, .int x4)] [] σ mc ms P) (k4 : (¬ (x1 = 5)) → (¬ x1 = 7) → ks_W L xs mX5_quotients rm_X5_quotients 85 [(0, .ref 17), (1, .int x1), (2, .int x2), (3, .int x3), (4, .int x4)] [] σ mc ms P) (k5 : (¬ (x1 = 5)) → (x1 = 7) → ks_W L xs mX5_quotients rm_X5_quotients 80 [(0, .ref 17), (1, .int x1), (2, .int x2), (3, .int x3), (4, .int x4)] [] σ mc ms P) : ks_W L xs mX5_quotients rm_X5_quotients 69 [(0, .ref 17), (1, .int x1), (2, .int x2), (3, .int x3), (4, .int x4)] [] σ mc ms P := by
  refine ka_iload_n d_X5_quotients_69 rfl rfl 1 rfl ?_
  refine ka_iconst (v := 5) d_X5_quotients_70 rfl (by decide) ?_
  refine ka_icmp_eq (tgt := 80) d_X5_quotients_71 (by decide) rfl (fun c1 => ?_) (fun c1 => ?_)
  · exact (k2 c1)
  · refine ka_iload_n d_X5_quotients_74 rfl rfl 1 rfl ?_
    refine ka_bipush (v := 7) d_X5_quotients_75 rfl (by decide) ?_
    refine ka_icmp_ne (tgt := 85) d_X5_quotients_77 (by decide) rfl (fun c3 => ?_) (fun c3 => ?_)
    · exact (k4 c1 c3)
    · exact (k5 c1 c3)
theorem sg_X5_quotients_80 {L : Nat} {xs : Nat → Int32} {σ : ks_St} {mc ms : Nat} {P : ka_O → ks_St → Prop} {x1 : Int32} {x2 : Int32} {x3 : Int32} {x4 : Int32}  (k1 : ks_W L xs mX5_quotients rm_X5_quotients 82 [(0, .ref 17), (1, .int x1), (2, .int x2), (3, .int x3), (4, .int x4)] [.int x2, .ref 17] σ mc ms P) : ks_W L xs mX5_quotients rm_X5_quotients 80 [(0, .ref 17), (1, .int x1), (2, .int x2), (3, .int x3), (4, .int x4)] [] σ mc ms P := by
  refine ka_aload_n d_X5_quotients_80 rfl rfl 0 rfl ?_
  refine ka_iload_n d_X5_quotients_81 rfl rfl 2 rfl ?_
  exact k1
theorem cs_X5_quotients_82 {L : Nat} {xs : Nat → Int32} {σ : ks_St} {mc ms : Nat} {P : ka_O → ks_St → Prop} {f : ks_St → Prop} {x1 : Int32} {x2 : Int32} {x3 : Int32} {x4 : Int32} {s1 : Int32} (hK : ks_M L xs mX5_takeRest rm_X5_takeRest [.ref 17, .int s1] σ (pv_ f)) (kr : ∀ σ', f σ' → ks_W L xs mX5_quotients rm_X5_quotients 85 [(0, .ref 17), (1, .int x1), (2, .int x2), (3, .int x3), (4, .int x4)] [] σ' mc ms P) : ks_W L xs mX5_quotients rm_X5_quotients 82 [(0, .ref 17), (1, .int x1), (2, .int x2), (3, .int x3), (4, .int x4)] [.int s1, .ref 17] σ mc ms P := by
  refine ks_callV (q := 85) (o := 17) (ci := 5) (As := [.int s1]) (st := []) d_X5_quotients_82 rfl rfl (by decide) rfl rfl lk_X5_98 ⟨by decide, by decide⟩ (Nat.le_of_ble_eq_true rfl) ⟨Nat.le_refl _, Nat.le_refl _⟩ hK (fun v σ' hq => ?_) (fun E σ' hq => ?_)
  · obtain ⟨e, hf⟩ := hq; cases e; exact kr σ' hf
  · obtain ⟨e, hf⟩ := hq; cases e
theorem sg_X5_quotients_85 {L : Nat} {xs : Nat → Int32} {σ : ks_St} {mc ms : Nat} {P : ka_O → ks_St → Prop} {x1 : Int32} {x2 : Int32} {x3 : Int32} {x4 : Int32}  (k2 : (¬ x1 = 6) → ks_W L xs mX5_quotients rm_X5_quotients 97 [(0, .ref 17), (1, .int x1), (2, .int x2), (3, .int x3)] [] σ mc ms P) (k4 : (x1 = 6) → (¬ x3 = x4) → ks_W L xs mX5_quotients rm_X5_quotients 108 [(0, .ref 17), (2, .int x2)] [] σ mc ms P) (k5 : (x1 = 6) → (x3 = x4) → ks_W L xs mX5_quotients rm_X5_quotients 97 [(0, .ref 17), (1, .int x1), (2, .int x2), (3, .int x3)] [] σ mc ms P) : ks_W L xs mX5_quotients rm_X5_quotients 85 [(0, .ref 17), (1, .int x1), (2, .int x2), (3, .int x3), (4, .int x4)] [] σ mc ms P := by
  refine ka_iload_n d_X5_quotients_85 rfl rfl 1 rfl ?_
  refine ka_bipush (v := 6) d_X5_quotients_86 rfl (by decide) ?_
  refine ka_icmp_ne (tgt := 97) d_X5_quotients_88 (by decide) rfl (fun c1 => ?_) (fun c1 => ?_)
  · refine ka_sub [0, 1, 2, 3] rfl ?_
    exact (k2 c1)
  · refine ka_iload_n d_X5_quotients_91 rfl rfl 3 rfl ?_
    refine ka_iload d_X5_quotients_92 rfl 4 rfl ?_
    refine ka_icmp_ne (tgt := 108) d_X5_quotients_94 (by decide) rfl (fun c3 => ?_) (fun c3 => ?_)
    · refine ka_sub [0, 2] rfl ?_
      exact (k4 c1 c3)
    · refine ka_sub [0, 1, 2, 3] rfl ?_
      exact (k5 c1 c3)
theorem sg_X5_quotients_97 {L : Nat} {xs : Nat → Int32} {σ : ks_St} {mc ms : Nat} {P : ka_O → ks_St → Prop} {x1 : Int32} {x2 : Int32} {x3 : Int32}  (k2 : (¬ x1 = 7) → ks_W L xs mX5_quotients rm_X5_quotients 113 [] [] σ mc ms P) (k4 : (x1 = 7) → (¬ x3 = 1) → ks_W L xs mX5_quotients rm_X5_quotients 113 [] [] σ mc ms P) (k5 : (x1 = 7) → (x3 = 1) → ks_W L xs mX5_quotients rm_X5_quotients 108 [(0, .ref 17), (2, .int x2)] [] σ mc ms P) : ks_W L xs mX5_quotients rm_X5_quotients 97 [(0, .ref 17), (1, .int x1), (2, .int x2), (3, .int x3)] [] σ mc ms P := by
  refine ka_iload_n d_X5_quotients_97 rfl rfl 1 rfl ?_
  refine ka_bipush (v := 7) d_X5_quotients_98 rfl (by decide) ?_
  refine ka_icmp_ne (tgt := 113) d_X5_quotients_100 (by decide) rfl (fun c1 => ?_) (fun c1 => ?_)
  · refine ka_sub [] rfl ?_
    exact (k2 c1)
  · refine ka_iload_n d_X5_quotients_103 rfl rfl 3 rfl ?_
    refine ka_iconst (v := 1) d_X5_quotients_104 rfl (by decide) ?_
    refine ka_icmp_ne (tgt := 113) d_X5_quotients_105 (by decide) rfl (fun c3 => ?_) (fun c3 => ?_)
    · refine ka_sub [] rfl ?_
      exact (k4 c1 c3)
    · refine ka_sub [0, 2] rfl ?_
      exact (k5 c1 c3)
theorem sg_X5_quotients_108 {L : Nat} {xs : Nat → Int32} {σ : ks_St} {mc ms : Nat} {P : ka_O → ks_St → Prop} {x2 : Int32}  (k1 : ks_W L xs mX5_quotients rm_X5_quotients 110 [] [.int x2, .ref 17] σ mc ms P) : ks_W L xs mX5_quotients rm_X5_quotients 108 [(0, .ref 17), (2, .int x2)] [] σ mc ms P := by
  refine ka_aload_n d_X5_quotients_108 rfl rfl 0 rfl ?_
  refine ka_iload_n d_X5_quotients_109 rfl rfl 1 rfl ?_
  refine ka_sub [] rfl ?_
  exact k1
theorem cs_X5_quotients_110 {L : Nat} {xs : Nat → Int32} {σ : ks_St} {mc ms : Nat} {P : ka_O → ks_St → Prop} {f : ks_St → Prop} {s1 : Int32} (hK : ks_M L xs mX5_turn rm_X5_turn [.ref 17, .int s1] σ (pv_ f)) (kr : ∀ σ', f σ' → ks_W L xs mX5_quotients rm_X5_quotients 113 [] [] σ' mc ms P) : ks_W L xs mX5_quotients rm_X5_quotients 110 [] [.int s1, .ref 17] σ mc ms P := by
  refine ks_callV (q := 113) (o := 17) (ci := 5) (As := [.int s1]) (st := []) d_X5_quotients_110 rfl rfl (by decide) rfl rfl lk_X5_101 ⟨by decide, by decide⟩ (Nat.le_of_ble_eq_true rfl) ⟨Nat.le_refl _, Nat.le_refl _⟩ hK (fun v σ' hq => ?_) (fun E σ' hq => ?_)
  · obtain ⟨e, hf⟩ := hq; cases e; exact kr σ' hf
  · obtain ⟨e, hf⟩ := hq; cases e
theorem sg_X5_quotients_113 {L : Nat} {xs : Nat → Int32} {σ : ks_St} {mc ms : Nat} {P : ka_O → ks_St → Prop}   (r1 : P (.inl none) σ) : ks_W L xs mX5_quotients rm_X5_quotients 113 [] [] σ mc ms P := by
  exact ks_vret d_X5_quotients_113 rfl r1
theorem d_X5_moves_0 : decode cX5_moves 0 = .ok (.aload_n 0, 1) := by decide +kernel
theorem d_X5_moves_1 : decode cX5_moves 1 = .ok (.iload_n 2, 1) := by decide +kernel
theorem d_X5_moves_2 : decode cX5_moves 2 = .ok (.invokevirtual 104, 3) := by decide +kernel
theorem d_X5_moves_5 : decode cX5_moves 5 = .ok (.istore_n 3, 1) := by decide +kernel
theorem d_X5_moves_6 : decode cX5_moves 6 = .ok (.iload_n 1, 1) := by decide +kernel
theorem d_X5_moves_7 : decode cX5_moves 7 = .ok (.bipush 10, 2) := by decide +kernel
theorem d_X5_moves_9 : decode cX5_moves 9 = .ok (.if_icmp .ne 14, 3) := by decide +kernel
theorem d_X5_moves_12 : decode cX5_moves 12 = .ok (.aload_n 0, 1) := by decide +kernel
theorem d_X5_moves_13 : decode cX5_moves 13 = .ok (.getfield 21, 3) := by decide +kernel
theorem d_X5_moves_16 : decode cX5_moves 16 = .ok (.iload_n 2, 1) := by decide +kernel
theorem d_X5_moves_17 : decode cX5_moves 17 = .ok (.iconst 1, 1) := by decide +kernel
theorem d_X5_moves_18 : decode cX5_moves 18 = .ok (.isub, 1) := by decide +kernel
theorem d_X5_moves_19 : decode cX5_moves 19 = .ok (.iaload, 1) := by decide +kernel
theorem d_X5_moves_20 : decode cX5_moves 20 = .ok (.goto 4, 3) := by decide +kernel
theorem d_X5_moves_23 : decode cX5_moves 23 = .ok (.iconst 0, 1) := by decide +kernel
theorem d_X5_moves_24 : decode cX5_moves 24 = .ok (.istore 4, 2) := by decide +kernel
theorem d_X5_moves_26 : decode cX5_moves 26 = .ok (.iconst 0, 1) := by decide +kernel
theorem d_X5_moves_27 : decode cX5_moves 27 = .ok (.istore 5, 2) := by decide +kernel
theorem d_X5_moves_29 : decode cX5_moves 29 = .ok (.iload 5, 2) := by decide +kernel
theorem d_X5_moves_31 : decode cX5_moves 31 = .ok (.iload_n 2, 1) := by decide +kernel
theorem d_X5_moves_32 : decode cX5_moves 32 = .ok (.if_icmp .ge 73, 3) := by decide +kernel
theorem d_X5_moves_35 : decode cX5_moves 35 = .ok (.iload_n 1, 1) := by decide +kernel
theorem d_X5_moves_36 : decode cX5_moves 36 = .ok (.bipush 8, 2) := by decide +kernel
theorem d_X5_moves_38 : decode cX5_moves 38 = .ok (.if_icmp .ne 32, 3) := by decide +kernel
theorem d_X5_moves_41 : decode cX5_moves 41 = .ok (.aload_n 0, 1) := by decide +kernel
theorem d_X5_moves_42 : decode cX5_moves 42 = .ok (.getfield 27, 3) := by decide +kernel
theorem d_X5_moves_45 : decode cX5_moves 45 = .ok (.iload 5, 2) := by decide +kernel
theorem d_X5_moves_47 : decode cX5_moves 47 = .ok (.iload 5, 2) := by decide +kernel
theorem d_X5_moves_49 : decode cX5_moves 49 = .ok (.iload_n 3, 1) := by decide +kernel
theorem d_X5_moves_50 : decode cX5_moves 50 = .ok (.if_icmp .lt 15, 3) := by decide +kernel
theorem d_X5_moves_53 : decode cX5_moves 53 = .ok (.aload_n 0, 1) := by decide +kernel
theorem d_X5_moves_54 : decode cX5_moves 54 = .ok (.getfield 21, 3) := by decide +kernel
theorem d_X5_moves_57 : decode cX5_moves 57 = .ok (.iload 5, 2) := by decide +kernel
theorem d_X5_moves_59 : decode cX5_moves 59 = .ok (.iload_n 3, 1) := by decide +kernel
theorem d_X5_moves_60 : decode cX5_moves 60 = .ok (.isub, 1) := by decide +kernel
theorem d_X5_moves_61 : decode cX5_moves 61 = .ok (.iaload, 1) := by decide +kernel
theorem d_X5_moves_62 : decode cX5_moves 62 = .ok (.goto 4, 3) := by decide +kernel
theorem d_X5_moves_65 : decode cX5_moves 65 = .ok (.iconst 0, 1) := by decide +kernel
theorem d_X5_moves_66 : decode cX5_moves 66 = .ok (.iastore, 1) := by decide +kernel
theorem d_X5_moves_67 : decode cX5_moves 67 = .ok (.goto 32, 3) := by decide +kernel
theorem d_X5_moves_70 : decode cX5_moves 70 = .ok (.aload_n 0, 1) := by decide +kernel
theorem d_X5_moves_71 : decode cX5_moves 71 = .ok (.getfield 27, 3) := by decide +kernel
theorem d_X5_moves_74 : decode cX5_moves 74 = .ok (.iload 5, 2) := by decide +kernel
theorem d_X5_moves_76 : decode cX5_moves 76 = .ok (.iload 5, 2) := by decide +kernel
theorem d_X5_moves_78 : decode cX5_moves 78 = .ok (.iload_n 3, 1) := by decide +kernel
theorem d_X5_moves_79 : decode cX5_moves 79 = .ok (.iadd, 1) := by decide +kernel
theorem d_X5_moves_80 : decode cX5_moves 80 = .ok (.iload_n 2, 1) := by decide +kernel
theorem d_X5_moves_81 : decode cX5_moves 81 = .ok (.if_icmp .ge 15, 3) := by decide +kernel
theorem d_X5_moves_84 : decode cX5_moves 84 = .ok (.aload_n 0, 1) := by decide +kernel
theorem d_X5_moves_85 : decode cX5_moves 85 = .ok (.getfield 21, 3) := by decide +kernel
theorem d_X5_moves_88 : decode cX5_moves 88 = .ok (.iload 5, 2) := by decide +kernel
theorem d_X5_moves_90 : decode cX5_moves 90 = .ok (.iload_n 3, 1) := by decide +kernel
theorem d_X5_moves_91 : decode cX5_moves 91 = .ok (.iadd, 1) := by decide +kernel
theorem d_X5_moves_92 : decode cX5_moves 92 = .ok (.iaload, 1) := by decide +kernel
theorem d_X5_moves_93 : decode cX5_moves 93 = .ok (.goto 5, 3) := by decide +kernel
theorem d_X5_moves_96 : decode cX5_moves 96 = .ok (.iload 4, 2) := by decide +kernel
theorem d_X5_moves_98 : decode cX5_moves 98 = .ok (.iastore, 1) := by decide +kernel
theorem d_X5_moves_99 : decode cX5_moves 99 = .ok (.iinc 5 1, 3) := by decide +kernel
theorem d_X5_moves_102 : decode cX5_moves 102 = .ok (.goto (-73), 3) := by decide +kernel
theorem d_X5_moves_105 : decode cX5_moves 105 = .ok (.aload_n 0, 1) := by decide +kernel
theorem d_X5_moves_106 : decode cX5_moves 106 = .ok (.getfield 18, 3) := by decide +kernel
theorem d_X5_moves_109 : decode cX5_moves 109 = .ok (.iconst 0, 1) := by decide +kernel
theorem d_X5_moves_110 : decode cX5_moves 110 = .ok (.iload_n 3, 1) := by decide +kernel
theorem d_X5_moves_111 : decode cX5_moves 111 = .ok (.ifCond .ne 7, 3) := by decide +kernel
theorem d_X5_moves_114 : decode cX5_moves 114 = .ok (.iconst 0, 1) := by decide +kernel
theorem d_X5_moves_115 : decode cX5_moves 115 = .ok (.goto 38, 3) := by decide +kernel
theorem d_X5_moves_118 : decode cX5_moves 118 = .ok (.iload_n 3, 1) := by decide +kernel
theorem d_X5_moves_119 : decode cX5_moves 119 = .ok (.iload_n 2, 1) := by decide +kernel
theorem d_X5_moves_120 : decode cX5_moves 120 = .ok (.if_icmp .le 8, 3) := by decide +kernel
theorem d_X5_moves_123 : decode cX5_moves 123 = .ok (.iload 4, 2) := by decide +kernel
theorem d_X5_moves_125 : decode cX5_moves 125 = .ok (.goto 28, 3) := by decide +kernel
theorem d_X5_moves_128 : decode cX5_moves 128 = .ok (.iload_n 1, 1) := by decide +kernel
theorem d_X5_moves_129 : decode cX5_moves 129 = .ok (.bipush 8, 2) := by decide +kernel
theorem d_X5_moves_131 : decode cX5_moves 131 = .ok (.if_icmp .ne 14, 3) := by decide +kernel
theorem d_X5_moves_134 : decode cX5_moves 134 = .ok (.aload_n 0, 1) := by decide +kernel
theorem d_X5_moves_135 : decode cX5_moves 135 = .ok (.getfield 21, 3) := by decide +kernel
theorem d_X5_moves_138 : decode cX5_moves 138 = .ok (.iload_n 2, 1) := by decide +kernel
theorem d_X5_moves_139 : decode cX5_moves 139 = .ok (.iload_n 3, 1) := by decide +kernel
theorem d_X5_moves_140 : decode cX5_moves 140 = .ok (.isub, 1) := by decide +kernel
theorem d_X5_moves_141 : decode cX5_moves 141 = .ok (.iaload, 1) := by decide +kernel
theorem d_X5_moves_142 : decode cX5_moves 142 = .ok (.goto 11, 3) := by decide +kernel
theorem d_X5_moves_145 : decode cX5_moves 145 = .ok (.aload_n 0, 1) := by decide +kernel
theorem d_X5_moves_146 : decode cX5_moves 146 = .ok (.getfield 21, 3) := by decide +kernel
theorem d_X5_moves_149 : decode cX5_moves 149 = .ok (.iload_n 3, 1) := by decide +kernel
theorem d_X5_moves_150 : decode cX5_moves 150 = .ok (.iconst 1, 1) := by decide +kernel
theorem d_X5_moves_151 : decode cX5_moves 151 = .ok (.isub, 1) := by decide +kernel
theorem d_X5_moves_152 : decode cX5_moves 152 = .ok (.iaload, 1) := by decide +kernel
theorem d_X5_moves_153 : decode cX5_moves 153 = .ok (.iastore, 1) := by decide +kernel
theorem d_X5_moves_154 : decode cX5_moves 154 = .ok (.return_, 1) := by decide +kernel
theorem sg_X5_moves_0 {L : Nat} {xs : Nat → Int32} {σ : ks_St} {mc ms : Nat} {P : ka_O → ks_St → Prop} {x1 : Int32} {x2 : Int32}  (k1 : ks_W L xs mX5_moves rm_X5_moves 2 [(0, .ref 17), (1, .int x1), (2, .int x2)] [.int x2, .ref 17] σ mc ms P) : ks_W L xs mX5_moves rm_X5_moves 0 [(0, .ref 17), (1, .int x1), (2, .int x2)] [] σ mc ms P := by
  refine ka_aload_n d_X5_moves_0 rfl rfl 0 rfl ?_
  refine ka_iload_n d_X5_moves_1 rfl rfl 2 rfl ?_
  exact k1
theorem cs_X5_moves_2 {L : Nat} {xs : Nat → Int32} {σ : ks_St} {mc ms : Nat} {P : ka_O → ks_St → Prop} {f : Int32 → ks_St → Prop} {x1 : Int32} {x2 : Int32} {s1 : Int32} (hK : ks_M L xs mX5_amountOfB rm_X5_amountOfB [.ref 17, .int s1] σ (pi_ f)) (kr : ∀ r σ', f r σ' → ks_W L xs mX5_moves rm_X5_moves 5 [(0, .ref 17), (1, .int x1), (2, .int x2)] [.int r] σ' mc ms P) : ks_W L xs mX5_moves rm_X5_moves 2 [(0, .ref 17), (1, .int x1), (2, .int x2)] [.int s1, .ref 17] σ mc ms P := by
  refine ks_callV (q := 5) (o := 17) (ci := 5) (As := [.int s1]) (st := []) d_X5_moves_2 rfl rfl (by decide) rfl rfl lk_X5_104 ⟨by decide, by decide⟩ (Nat.le_of_ble_eq_true rfl) ⟨Nat.le_refl _, Nat.le_refl _⟩ hK (fun v σ' hq => ?_) (fun E σ' hq => ?_)
  · obtain ⟨r, e, hf⟩ := hq; cases e; exact kr r σ' hf
  · obtain ⟨r, e, hf⟩ := hq; cases e
theorem sg_X5_moves_5 {L : Nat} {xs : Nat → Int32} {σ : ks_St} {mc ms : Nat} {P : ka_O → ks_St → Prop} {x1 : Int32} {x2 : Int32} {s0 : Int32}  (k2 : (¬ x1 = 10) → ks_W L xs mX5_moves rm_X5_moves 24 [(0, .ref 17), (1, .int x1), (2, .int x2), (3, .int s0)] [.int 0] σ mc ms P) (v3 : (x1 = 10) → vp_in (x2 - 1) 513) (k4 : (x1 = 10) → ks_W L xs mX5_moves rm_X5_moves 24 [(0, .ref 17), (1, .int x1), (2, .int x2), (3, .int s0)] [.int (sf_ σ 21 (x2 - 1).toNatClampNeg)] σ mc ms P) : ks_W L xs mX5_moves rm_X5_moves 5 [(0, .ref 17), (1, .int x1), (2, .int x2)] [.int s0] σ mc ms P := by
  refine ka_istore_n (ls' := [(3, .int s0), (0, .ref 17), (1, .int x1), (2, .int x2)]) d_X5_moves_5 rfl rfl (by decide) rfl ?_
  refine ka_iload_n d_X5_moves_6 rfl rfl 2 rfl ?_
  refine ka_bipush (v := 10) d_X5_moves_7 rfl (by decide) ?_
  refine ka_icmp_ne (tgt := 23) d_X5_moves_9 (by decide) rfl (fun c1 => ?_) (fun c1 => ?_)
  · refine ka_iconst (v := 0) d_X5_moves_23 rfl (by decide) ?_
    refine ka_sub [1, 2, 3, 0] rfl ?_
    exact (k2 c1)
  · refine ka_aload_n d_X5_moves_12 rfl rfl 1 rfl ?_
    refine gf_X5_7 d_X5_moves_13 rfl fl_X5_21 ?_
    refine ka_iload_n d_X5_moves_16 rfl rfl 3 rfl ?_
    refine ka_iconst (v := 1) d_X5_moves_17 rfl (by decide) ?_
    refine ka_isub d_X5_moves_18 rfl ?_
    refine ks_iald row_21 d_X5_moves_19 rfl (v3 c1) ?_
    refine ka_goto (q := 24) d_X5_moves_20 (by decide) ?_
    refine ka_sub [1, 2, 3, 0] rfl ?_
    exact (k4 c1)
theorem sg_X5_moves_24 {L : Nat} {xs : Nat → Int32} {σ : ks_St} {mc ms : Nat} {P : ka_O → ks_St → Prop} {x1 : Int32} {x2 : Int32} {x3 : Int32} {s0 : Int32}  (k1 : ks_W L xs mX5_moves rm_X5_moves 29 [(0, .ref 17), (1, .int x1), (2, .int x2), (3, .int x3), (4, .int s0), (5, .int 0)] [] σ mc ms P) : ks_W L xs mX5_moves rm_X5_moves 24 [(0, .ref 17), (1, .int x1), (2, .int x2), (3, .int x3)] [.int s0] σ mc ms P := by
  refine ka_istore (ls' := [(4, .int s0), (0, .ref 17), (1, .int x1), (2, .int x2), (3, .int x3)]) d_X5_moves_24 rfl (by decide) rfl ?_
  refine ka_iconst (v := 0) d_X5_moves_26 rfl (by decide) ?_
  refine ka_istore (ls' := [(5, .int 0), (4, .int s0), (0, .ref 17), (1, .int x1), (2, .int x2), (3, .int x3)]) d_X5_moves_27 rfl (by decide) rfl ?_
  refine ka_sub [2, 3, 4, 5, 1, 0] rfl ?_
  exact k1
theorem sg_X5_moves_29 {L : Nat} {xs : Nat → Int32} {σ : ks_St} {mc ms : Nat} {P : ka_O → ks_St → Prop} {x1 : Int32} {x2 : Int32} {x3 : Int32} {x4 : Int32} {x5 : Int32}  (v5 : (x2 ≤ x5) → (¬ x3 = 0) → (x3 ≤ x2) → (¬ x1 = 8) → vp_in (x3 - 1) 513) (k6 : (x2 ≤ x5) → (¬ x3 = 0) → (x3 ≤ x2) → (¬ x1 = 8) → ks_W L xs mX5_moves rm_X5_moves 153 [] [.int (sf_ σ 21 (x3 - 1).toNatClampNeg), .int 0, .ref 20] σ mc ms P) (v7 : (x2 ≤ x5) → (¬ x3 = 0) → (x3 ≤ x2) → (x1 = 8) → vp_in (x2 - x3) 513) (k8 : (x2 ≤ x5) → (¬ x3 = 0) → (x3 ≤ x2) → (x1 = 8) → ks_W L xs mX5_moves rm_X5_moves 153 [] [.int (sf_ σ 21 (x2 - x3).toNatClampNeg), .int 0, .ref 20] σ mc ms P) (k9 : (x2 ≤ x5) → (¬ x3 = 0) → (¬ (x3 ≤ x2)) → ks_W L xs mX5_moves rm_X5_moves 153 [] [.int x4, .int 0, .ref 20] σ mc ms P) (k10 : (x2 ≤ x5) → (x3 = 0) → ks_W L xs mX5_moves rm_X5_moves 153 [] [.int 0, .int 0, .ref 20] σ mc ms P) (k13 : (¬ (x2 ≤ x5)) → (¬ x1 = 8) → (x2 ≤ (x5 + x3)) → ks_W L xs mX5_moves rm_X5_moves 98 [(0, .ref 17), (1, .int x1), (2, .int x2), (3, .int x3), (4, .int x4), (5, .int x5)] [.int x4, .int x5, .ref 23] σ mc ms P) (v14 : (¬ (x2 ≤ x5)) → (¬ x1 = 8) → (¬ (x2 ≤ (x5 + x3))) → vp_in (x5 + x3) 513) (k15 : (¬ (x2 ≤ x5)) → (¬ x1 = 8) → (¬ (x2 ≤ (x5 + x3))) → ks_W L xs mX5_moves rm_X5_moves 98 [(0, .ref 17), (1, .int x1), (2, .int x2), (3, .int x3), (4, .int x4), (5, .int x5)] [.int (sf_ σ 21 (x5 + x3).toNatClampNeg), .int x5, .ref 23] σ mc ms P) (k17 : (¬ (x2 ≤ x5)) → (x1 = 8) → (x5 < x3) → ks_W L xs mX5_moves rm_X5_moves 66 [(0, .ref 17), (1, .int x1), (2, .int x2), (3, .int x3), (4, .int x4), (5, .int x5)] [.int 0, .int x5, .ref 23] σ mc ms P) (v18 : (¬ (x2 ≤ x5)) → (x1 = 8) → (¬ (x5 < x3)) → vp_in (x5 - x3) 513) (k19 : (¬ (x2 ≤ x5)) → (x1 = 8) → (¬ (x5 < x3)) → ks_W L xs mX5_moves rm_X5_moves 66 [(0, .ref 17), (1, .int x1), (2, .int x2), (3, .int x3), (4, .int x4), (5, .int x5)] [.int (sf_ σ 21 (x5 - x3).toNatClampNeg), .int x5, .ref 23] σ mc ms P) : ks_W L xs mX5_moves rm_X5_moves 29 [(0, .ref 17), (1, .int x1), (2, .int x2), (3, .int x3), (4, .int x4), (5, .int x5)] [] σ mc ms P := by
  refine ka_iload d_X5_moves_29 rfl 5 rfl ?_
  refine ka_iload_n d_X5_moves_31 rfl rfl 2 rfl ?_
  refine ka_icmp_ge (tgt := 105) d_X5_moves_32 (by decide) rfl (fun c1 => ?_) (fun c1 => ?_)
  · refine ka_aload_n d_X5_moves_105 rfl rfl 0 rfl ?_
    refine gf_X5_5 d_X5_moves_106 rfl fl_X5_18 ?_
    refine ka_iconst (v := 0) d_X5_moves_109 rfl (by decide) ?_
    refine ka_iload_n d_X5_moves_110 rfl rfl 3 rfl ?_
    refine ka_if_ne (tgt := 118) d_X5_moves_111 (by decide) rfl (fun c2 => ?_) (fun c2 => ?_)
    · refine ka_iload_n d_X5_moves_118 rfl rfl 3 rfl ?_
      refine ka_iload_n d_X5_moves_119 rfl rfl 2 rfl ?_
      refine ka_icmp_le (tgt := 128) d_X5_moves_120 (by decide) rfl (fun c3 => ?_) (fun c3 => ?_)
      · refine ka_iload_n d_X5_moves_128 rfl rfl 1 rfl ?_
        refine ka_bipush (v := 8) d_X5_moves_129 rfl (by decide) ?_
        refine ka_icmp_ne (tgt := 145) d_X5_moves_131 (by decide) rfl (fun c4 => ?_) (fun c4 => ?_)
        · refine ka_aload_n d_X5_moves_145 rfl rfl 0 rfl ?_
          refine gf_X5_7 d_X5_moves_146 rfl fl_X5_21 ?_
          refine ka_iload_n d_X5_moves_149 rfl rfl 3 rfl ?_
          refine ka_iconst (v := 1) d_X5_moves_150 rfl (by decide) ?_
          refine ka_isub d_X5_moves_151 rfl ?_
          refine ks_iald row_21 d_X5_moves_152 rfl (v5 c1 c2 c3 c4) ?_
          refine ka_sub [] rfl ?_
          exact (k6 c1 c2 c3 c4)
        · refine ka_aload_n d_X5_moves_134 rfl rfl 0 rfl ?_
          refine gf_X5_7 d_X5_moves_135 rfl fl_X5_21 ?_
          refine ka_iload_n d_X5_moves_138 rfl rfl 2 rfl ?_
          refine ka_iload_n d_X5_moves_139 rfl rfl 3 rfl ?_
          refine ka_isub d_X5_moves_140 rfl ?_
          refine ks_iald row_21 d_X5_moves_141 rfl (v7 c1 c2 c3 c4) ?_
          refine ka_goto (q := 153) d_X5_moves_142 (by decide) ?_
          refine ka_sub [] rfl ?_
          exact (k8 c1 c2 c3 c4)
      · refine ka_iload d_X5_moves_123 rfl 4 rfl ?_
        refine ka_goto (q := 153) d_X5_moves_125 (by decide) ?_
        refine ka_sub [] rfl ?_
        exact (k9 c1 c2 c3)
    · refine ka_iconst (v := 0) d_X5_moves_114 rfl (by decide) ?_
      refine ka_goto (q := 153) d_X5_moves_115 (by decide) ?_
      refine ka_sub [] rfl ?_
      exact (k10 c1 c2)
  · refine ka_iload_n d_X5_moves_35 rfl rfl 1 rfl ?_
    refine ka_bipush (v := 8) d_X5_moves_36 rfl (by decide) ?_
    refine ka_icmp_ne (tgt := 70) d_X5_moves_38 (by decide) rfl (fun c11 => ?_) (fun c11 => ?_)
    · refine ka_aload_n d_X5_moves_70 rfl rfl 0 rfl ?_
      refine gf_X5_9 d_X5_moves_71 rfl fl_X5_27 ?_
      refine ka_iload d_X5_moves_74 rfl 5 rfl ?_
      refine ka_iload d_X5_moves_76 rfl 5 rfl ?_
      refine ka_iload_n d_X5_moves_78 rfl rfl 3 rfl ?_
      refine ka_iadd d_X5_moves_79 rfl ?_
      refine ka_iload_n d_X5_moves_80 rfl rfl 2 rfl ?_
      refine ka_icmp_ge (tgt := 96) d_X5_moves_81 (by decide) rfl (fun c12 => ?_) (fun c12 => ?_)
      · refine ka_iload d_X5_moves_96 rfl 4 rfl ?_
        exact (k13 c1 c11 c12)
      · refine ka_aload_n d_X5_moves_84 rfl rfl 0 rfl ?_
        refine gf_X5_7 d_X5_moves_85 rfl fl_X5_21 ?_
        refine ka_iload d_X5_moves_88 rfl 5 rfl ?_
        refine ka_iload_n d_X5_moves_90 rfl rfl 3 rfl ?_
        refine ka_iadd d_X5_moves_91 rfl ?_
        refine ks_iald row_21 d_X5_moves_92 rfl (v14 c1 c11 c12) ?_
        refine ka_goto (q := 98) d_X5_moves_93 (by decide) ?_
        exact (k15 c1 c11 c12)
    · refine ka_aload_n d_X5_moves_41 rfl rfl 0 rfl ?_
      refine gf_X5_9 d_X5_moves_42 rfl fl_X5_27 ?_
      refine ka_iload d_X5_moves_45 rfl 5 rfl ?_
      refine ka_iload d_X5_moves_47 rfl 5 rfl ?_
      refine ka_iload_n d_X5_moves_49 rfl rfl 3 rfl ?_
      refine ka_icmp_lt (tgt := 65) d_X5_moves_50 (by decide) rfl (fun c16 => ?_) (fun c16 => ?_)
      · refine ka_iconst (v := 0) d_X5_moves_65 rfl (by decide) ?_
        exact (k17 c1 c11 c16)
      · refine ka_aload_n d_X5_moves_53 rfl rfl 0 rfl ?_
        refine gf_X5_7 d_X5_moves_54 rfl fl_X5_21 ?_
        refine ka_iload d_X5_moves_57 rfl 5 rfl ?_
        refine ka_iload_n d_X5_moves_59 rfl rfl 3 rfl ?_
        refine ka_isub d_X5_moves_60 rfl ?_
        refine ks_iald row_21 d_X5_moves_61 rfl (v18 c1 c11 c16) ?_
        refine ka_goto (q := 66) d_X5_moves_62 (by decide) ?_
        exact (k19 c1 c11 c16)
theorem sg_X5_moves_66 {L : Nat} {xs : Nat → Int32} {σ : ks_St} {mc ms : Nat} {P : ka_O → ks_St → Prop} {x1 : Int32} {x2 : Int32} {x3 : Int32} {x4 : Int32} {x5 : Int32} {s1 : Int32} {s2 : Int32}  (v1 : vp_in s1 1026) (k2 : ks_W L xs mX5_moves rm_X5_moves 99 [(0, .ref 17), (1, .int x1), (2, .int x2), (3, .int x3), (4, .int x4), (5, .int x5)] [] (uf_ σ 23 (upd (sf_ σ 23) s1.toNatClampNeg s2)) mc ms P) : ks_W L xs mX5_moves rm_X5_moves 66 [(0, .ref 17), (1, .int x1), (2, .int x2), (3, .int x3), (4, .int x4), (5, .int x5)] [.int s2, .int s1, .ref 23] σ mc ms P := by
  refine ks_iast row_23 d_X5_moves_66 rfl v1 ?_
  refine ka_goto (q := 99) d_X5_moves_67 (by decide) ?_
  exact k2
theorem sg_X5_moves_98 {L : Nat} {xs : Nat → Int32} {σ : ks_St} {mc ms : Nat} {P : ka_O → ks_St → Prop} {x1 : Int32} {x2 : Int32} {x3 : Int32} {x4 : Int32} {x5 : Int32} {s1 : Int32} {s2 : Int32}  (v1 : vp_in s1 1026) (k2 : ks_W L xs mX5_moves rm_X5_moves 99 [(0, .ref 17), (1, .int x1), (2, .int x2), (3, .int x3), (4, .int x4), (5, .int x5)] [] (uf_ σ 23 (upd (sf_ σ 23) s1.toNatClampNeg s2)) mc ms P) : ks_W L xs mX5_moves rm_X5_moves 98 [(0, .ref 17), (1, .int x1), (2, .int x2), (3, .int x3), (4, .int x4), (5, .int x5)] [.int s2, .int s1, .ref 23] σ mc ms P := by
  refine ks_iast row_23 d_X5_moves_98 rfl v1 ?_
  exact k2
theorem sg_X5_moves_99 {L : Nat} {xs : Nat → Int32} {σ : ks_St} {mc ms : Nat} {P : ka_O → ks_St → Prop} {x1 : Int32} {x2 : Int32} {x3 : Int32} {x4 : Int32} {x5 : Int32}  (k1 : ks_W L xs mX5_moves rm_X5_moves 29 [(0, .ref 17), (1, .int x1), (2, .int x2), (3, .int x3), (4, .int x4), (5, .int (x5 + 1))] [] σ mc ms P) : ks_W L xs mX5_moves rm_X5_moves 99 [(0, .ref 17), (1, .int x1), (2, .int x2), (3, .int x3), (4, .int x4), (5, .int x5)] [] σ mc ms P := by
  refine ka_iinc (g := 5) (v := x5 + 1) (ls' := [(5, .int (x5 + 1)), (0, .ref 17), (1, .int x1), (2, .int x2), (3, .int x3), (4, .int x4)]) d_X5_moves_99 rfl rfl rfl (by decide) rfl ?_
  refine ka_goto (q := 29) d_X5_moves_102 (by decide) ?_
  refine ka_sub [1, 2, 3, 4, 5, 0] rfl ?_
  exact k1
theorem sg_X5_moves_153 {L : Nat} {xs : Nat → Int32} {σ : ks_St} {mc ms : Nat} {P : ka_O → ks_St → Prop} {s1 : Int32} {s2 : Int32}  (v1 : vp_in s1 4) (r2 : P (.inl none) (uf_ σ 20 (upd (sf_ σ 20) s1.toNatClampNeg s2))) : ks_W L xs mX5_moves rm_X5_moves 153 [] [.int s2, .int s1, .ref 20] σ mc ms P := by
  refine ks_iast row_20 d_X5_moves_153 rfl v1 ?_
  exact ks_vret d_X5_moves_154 rfl r2
theorem d_X5_others_0 : decode cX5_others 0 = .ok (.iload_n 1, 1) := by decide +kernel
theorem d_X5_others_1 : decode cX5_others 1 = .ok (.bipush 11, 2) := by decide +kernel
theorem d_X5_others_3 : decode cX5_others 3 = .ok (.if_icmp .ne 11, 3) := by decide +kernel
theorem d_X5_others_6 : decode cX5_others 6 = .ok (.aload_n 0, 1) := by decide +kernel
theorem d_X5_others_7 : decode cX5_others 7 = .ok (.iload_n 2, 1) := by decide +kernel
theorem d_X5_others_8 : decode cX5_others 8 = .ok (.invokevirtual 107, 3) := by decide +kernel
theorem d_X5_others_11 : decode cX5_others 11 = .ok (.goto 22, 3) := by decide +kernel
theorem d_X5_others_14 : decode cX5_others 14 = .ok (.iload_n 1, 1) := by decide +kernel
theorem d_X5_others_15 : decode cX5_others 15 = .ok (.bipush 12, 2) := by decide +kernel
theorem d_X5_others_17 : decode cX5_others 17 = .ok (.if_icmp .ne 15, 3) := by decide +kernel
theorem d_X5_others_20 : decode cX5_others 20 = .ok (.iload_n 2, 1) := by decide +kernel
theorem d_X5_others_21 : decode cX5_others 21 = .ok (.aload_n 0, 1) := by decide +kernel
theorem d_X5_others_22 : decode cX5_others 22 = .ok (.iload_n 2, 1) := by decide +kernel
theorem d_X5_others_23 : decode cX5_others 23 = .ok (.invokevirtual 107, 3) := by decide +kernel
theorem d_X5_others_26 : decode cX5_others 26 = .ok (.isub, 1) := by decide +kernel
theorem d_X5_others_27 : decode cX5_others 27 = .ok (.iload_n 2, 1) := by decide +kernel
theorem d_X5_others_28 : decode cX5_others 28 = .ok (.irem, 1) := by decide +kernel
theorem d_X5_others_29 : decode cX5_others 29 = .ok (.goto 4, 3) := by decide +kernel
theorem d_X5_others_32 : decode cX5_others 32 = .ok (.iconst 0, 1) := by decide +kernel
theorem d_X5_others_33 : decode cX5_others 33 = .ok (.istore_n 3, 1) := by decide +kernel
theorem d_X5_others_34 : decode cX5_others 34 = .ok (.iconst 0, 1) := by decide +kernel
theorem d_X5_others_35 : decode cX5_others 35 = .ok (.istore 4, 2) := by decide +kernel
theorem d_X5_others_37 : decode cX5_others 37 = .ok (.iload 4, 2) := by decide +kernel
theorem d_X5_others_39 : decode cX5_others 39 = .ok (.iload_n 2, 1) := by decide +kernel
theorem d_X5_others_40 : decode cX5_others 40 = .ok (.if_icmp .ge 221, 3) := by decide +kernel
theorem d_X5_others_43 : decode cX5_others 43 = .ok (.iload_n 1, 1) := by decide +kernel
theorem d_X5_others_44 : decode cX5_others 44 = .ok (.tableswitch 180 11 17 #[44, 44, 65, 90, 115, 140, 159], 44) := by decide +kernel
theorem d_X5_others_88 : decode cX5_others 88 = .ok (.aload_n 0, 1) := by decide +kernel
theorem d_X5_others_89 : decode cX5_others 89 = .ok (.getfield 27, 3) := by decide +kernel
theorem d_X5_others_92 : decode cX5_others 92 = .ok (.iload 4, 2) := by decide +kernel
theorem d_X5_others_94 : decode cX5_others 94 = .ok (.iload_n 3, 1) := by decide +kernel
theorem d_X5_others_95 : decode cX5_others 95 = .ok (.iadd, 1) := by decide +kernel
theorem d_X5_others_96 : decode cX5_others 96 = .ok (.iload_n 2, 1) := by decide +kernel
theorem d_X5_others_97 : decode cX5_others 97 = .ok (.irem, 1) := by decide +kernel
theorem d_X5_others_98 : decode cX5_others 98 = .ok (.aload_n 0, 1) := by decide +kernel
theorem d_X5_others_99 : decode cX5_others 99 = .ok (.getfield 21, 3) := by decide +kernel
theorem d_X5_others_102 : decode cX5_others 102 = .ok (.iload 4, 2) := by decide +kernel
theorem d_X5_others_104 : decode cX5_others 104 = .ok (.iaload, 1) := by decide +kernel
theorem d_X5_others_105 : decode cX5_others 105 = .ok (.iastore, 1) := by decide +kernel
theorem d_X5_others_106 : decode cX5_others 106 = .ok (.goto 149, 3) := by decide +kernel
theorem d_X5_others_109 : decode cX5_others 109 = .ok (.aload_n 0, 1) := by decide +kernel
theorem d_X5_others_110 : decode cX5_others 110 = .ok (.getfield 27, 3) := by decide +kernel
theorem d_X5_others_113 : decode cX5_others 113 = .ok (.iload 4, 2) := by decide +kernel
theorem d_X5_others_115 : decode cX5_others 115 = .ok (.aload_n 0, 1) := by decide +kernel
theorem d_X5_others_116 : decode cX5_others 116 = .ok (.getfield 21, 3) := by decide +kernel
theorem d_X5_others_119 : decode cX5_others 119 = .ok (.iload 4, 2) := by decide +kernel
theorem d_X5_others_121 : decode cX5_others 121 = .ok (.iaload, 1) := by decide +kernel
theorem d_X5_others_122 : decode cX5_others 122 = .ok (.aload_n 0, 1) := by decide +kernel
theorem d_X5_others_123 : decode cX5_others 123 = .ok (.getfield 24, 3) := by decide +kernel
theorem d_X5_others_126 : decode cX5_others 126 = .ok (.iload 4, 2) := by decide +kernel
theorem d_X5_others_128 : decode cX5_others 128 = .ok (.iaload, 1) := by decide +kernel
theorem d_X5_others_129 : decode cX5_others 129 = .ok (.iand, 1) := by decide +kernel
theorem d_X5_others_130 : decode cX5_others 130 = .ok (.iastore, 1) := by decide +kernel
theorem d_X5_others_131 : decode cX5_others 131 = .ok (.goto 124, 3) := by decide +kernel
theorem d_X5_others_134 : decode cX5_others 134 = .ok (.aload_n 0, 1) := by decide +kernel
theorem d_X5_others_135 : decode cX5_others 135 = .ok (.getfield 27, 3) := by decide +kernel
theorem d_X5_others_138 : decode cX5_others 138 = .ok (.iload 4, 2) := by decide +kernel
theorem d_X5_others_140 : decode cX5_others 140 = .ok (.aload_n 0, 1) := by decide +kernel
theorem d_X5_others_141 : decode cX5_others 141 = .ok (.getfield 21, 3) := by decide +kernel
theorem d_X5_others_144 : decode cX5_others 144 = .ok (.iload 4, 2) := by decide +kernel
theorem d_X5_others_146 : decode cX5_others 146 = .ok (.iaload, 1) := by decide +kernel
theorem d_X5_others_147 : decode cX5_others 147 = .ok (.aload_n 0, 1) := by decide +kernel
theorem d_X5_others_148 : decode cX5_others 148 = .ok (.getfield 24, 3) := by decide +kernel
theorem d_X5_others_151 : decode cX5_others 151 = .ok (.iload 4, 2) := by decide +kernel
theorem d_X5_others_153 : decode cX5_others 153 = .ok (.iaload, 1) := by decide +kernel
theorem d_X5_others_154 : decode cX5_others 154 = .ok (.ior, 1) := by decide +kernel
theorem d_X5_others_155 : decode cX5_others 155 = .ok (.iastore, 1) := by decide +kernel
theorem d_X5_others_156 : decode cX5_others 156 = .ok (.goto 99, 3) := by decide +kernel
theorem d_X5_others_159 : decode cX5_others 159 = .ok (.aload_n 0, 1) := by decide +kernel
theorem d_X5_others_160 : decode cX5_others 160 = .ok (.getfield 27, 3) := by decide +kernel
theorem d_X5_others_163 : decode cX5_others 163 = .ok (.iload 4, 2) := by decide +kernel
theorem d_X5_others_165 : decode cX5_others 165 = .ok (.aload_n 0, 1) := by decide +kernel
theorem d_X5_others_166 : decode cX5_others 166 = .ok (.getfield 21, 3) := by decide +kernel
theorem d_X5_others_169 : decode cX5_others 169 = .ok (.iload 4, 2) := by decide +kernel
theorem d_X5_others_171 : decode cX5_others 171 = .ok (.iaload, 1) := by decide +kernel
theorem d_X5_others_172 : decode cX5_others 172 = .ok (.aload_n 0, 1) := by decide +kernel
theorem d_X5_others_173 : decode cX5_others 173 = .ok (.getfield 24, 3) := by decide +kernel
theorem d_X5_others_176 : decode cX5_others 176 = .ok (.iload 4, 2) := by decide +kernel
theorem d_X5_others_178 : decode cX5_others 178 = .ok (.iaload, 1) := by decide +kernel
theorem d_X5_others_179 : decode cX5_others 179 = .ok (.ixor, 1) := by decide +kernel
theorem d_X5_others_180 : decode cX5_others 180 = .ok (.iastore, 1) := by decide +kernel
theorem d_X5_others_181 : decode cX5_others 181 = .ok (.goto 74, 3) := by decide +kernel
theorem d_X5_others_184 : decode cX5_others 184 = .ok (.aload_n 0, 1) := by decide +kernel
theorem d_X5_others_185 : decode cX5_others 185 = .ok (.getfield 27, 3) := by decide +kernel
theorem d_X5_others_188 : decode cX5_others 188 = .ok (.iload 4, 2) := by decide +kernel
theorem d_X5_others_190 : decode cX5_others 190 = .ok (.iconst 1, 1) := by decide +kernel
theorem d_X5_others_191 : decode cX5_others 191 = .ok (.aload_n 0, 1) := by decide +kernel
theorem d_X5_others_192 : decode cX5_others 192 = .ok (.getfield 21, 3) := by decide +kernel
theorem d_X5_others_195 : decode cX5_others 195 = .ok (.iload 4, 2) := by decide +kernel
theorem d_X5_others_197 : decode cX5_others 197 = .ok (.iaload, 1) := by decide +kernel
theorem d_X5_others_198 : decode cX5_others 198 = .ok (.isub, 1) := by decide +kernel
theorem d_X5_others_199 : decode cX5_others 199 = .ok (.iastore, 1) := by decide +kernel
theorem d_X5_others_200 : decode cX5_others 200 = .ok (.goto 55, 3) := by decide +kernel
theorem d_X5_others_203 : decode cX5_others 203 = .ok (.aload_n 0, 1) := by decide +kernel
theorem d_X5_others_204 : decode cX5_others 204 = .ok (.getfield 27, 3) := by decide +kernel
theorem d_X5_others_207 : decode cX5_others 207 = .ok (.iload 4, 2) := by decide +kernel
theorem d_X5_others_209 : decode cX5_others 209 = .ok (.aload_n 0, 1) := by decide +kernel
theorem d_X5_others_210 : decode cX5_others 210 = .ok (.getfield 21, 3) := by decide +kernel
theorem d_X5_others_213 : decode cX5_others 213 = .ok (.iload_n 2, 1) := by decide +kernel
theorem d_X5_others_214 : decode cX5_others 214 = .ok (.iconst 1, 1) := by decide +kernel
theorem d_X5_others_215 : decode cX5_others 215 = .ok (.isub, 1) := by decide +kernel
theorem d_X5_others_216 : decode cX5_others 216 = .ok (.iload 4, 2) := by decide +kernel
theorem d_X5_others_218 : decode cX5_others 218 = .ok (.isub, 1) := by decide +kernel
theorem d_X5_others_219 : decode cX5_others 219 = .ok (.iaload, 1) := by decide +kernel
theorem d_X5_others_220 : decode cX5_others 220 = .ok (.iastore, 1) := by decide +kernel
theorem d_X5_others_221 : decode cX5_others 221 = .ok (.goto 34, 3) := by decide +kernel
theorem d_X5_others_224 : decode cX5_others 224 = .ok (.aload_n 0, 1) := by decide +kernel
theorem d_X5_others_225 : decode cX5_others 225 = .ok (.getfield 27, 3) := by decide +kernel
theorem d_X5_others_228 : decode cX5_others 228 = .ok (.iload 4, 2) := by decide +kernel
theorem d_X5_others_230 : decode cX5_others 230 = .ok (.aload_n 0, 1) := by decide +kernel
theorem d_X5_others_231 : decode cX5_others 231 = .ok (.getfield 21, 3) := by decide +kernel
theorem d_X5_others_234 : decode cX5_others 234 = .ok (.iload_n 2, 1) := by decide +kernel
theorem d_X5_others_235 : decode cX5_others 235 = .ok (.bipush 8, 2) := by decide +kernel
theorem d_X5_others_237 : decode cX5_others 237 = .ok (.isub, 1) := by decide +kernel
theorem d_X5_others_238 : decode cX5_others 238 = .ok (.iload 4, 2) := by decide +kernel
theorem d_X5_others_240 : decode cX5_others 240 = .ok (.bipush 8, 2) := by decide +kernel
theorem d_X5_others_242 : decode cX5_others 242 = .ok (.idiv, 1) := by decide +kernel
theorem d_X5_others_243 : decode cX5_others 243 = .ok (.bipush 8, 2) := by decide +kernel
theorem d_X5_others_245 : decode cX5_others 245 = .ok (.imul, 1) := by decide +kernel
theorem d_X5_others_246 : decode cX5_others 246 = .ok (.isub, 1) := by decide +kernel
theorem d_X5_others_247 : decode cX5_others 247 = .ok (.iload 4, 2) := by decide +kernel
theorem d_X5_others_249 : decode cX5_others 249 = .ok (.bipush 8, 2) := by decide +kernel
theorem d_X5_others_251 : decode cX5_others 251 = .ok (.irem, 1) := by decide +kernel
theorem d_X5_others_252 : decode cX5_others 252 = .ok (.iadd, 1) := by decide +kernel
theorem d_X5_others_253 : decode cX5_others 253 = .ok (.iaload, 1) := by decide +kernel
theorem d_X5_others_254 : decode cX5_others 254 = .ok (.iastore, 1) := by decide +kernel
theorem d_X5_others_255 : decode cX5_others 255 = .ok (.iinc 4 1, 3) := by decide +kernel
theorem d_X5_others_258 : decode cX5_others 258 = .ok (.goto (-221), 3) := by decide +kernel
theorem d_X5_others_261 : decode cX5_others 261 = .ok (.return_, 1) := by decide +kernel
theorem sg_X5_others_0 {L : Nat} {xs : Nat → Int32} {σ : ks_St} {mc ms : Nat} {P : ka_O → ks_St → Prop} {x1 : Int32} {x2 : Int32}  (k3 : (¬ x1 = 11) → (¬ x1 = 12) → ks_W L xs mX5_others rm_X5_others 33 [(0, .ref 17), (1, .int x1), (2, .int x2)] [.int 0] σ mc ms P) (k4 : (¬ x1 = 11) → (x1 = 12) → ks_W L xs mX5_others rm_X5_others 23 [(0, .ref 17), (1, .int x1), (2, .int x2)] [.int x2, .ref 17, .int x2] σ mc ms P) (k5 : (x1 = 11) → ks_W L xs mX5_others rm_X5_others 8 [(0, .ref 17), (1, .int x1), (2, .int x2)] [.int x2, .ref 17] σ mc ms P) : ks_W L xs mX5_others rm_X5_others 0 [(0, .ref 17), (1, .int x1), (2, .int x2)] [] σ mc ms P := by
  refine ka_iload_n d_X5_others_0 rfl rfl 1 rfl ?_
  refine ka_bipush (v := 11) d_X5_others_1 rfl (by decide) ?_
  refine ka_icmp_ne (tgt := 14) d_X5_others_3 (by decide) rfl (fun c1 => ?_) (fun c1 => ?_)
  · refine ka_iload_n d_X5_others_14 rfl rfl 1 rfl ?_
    refine ka_bipush (v := 12) d_X5_others_15 rfl (by decide) ?_
    refine ka_icmp_ne (tgt := 32) d_X5_others_17 (by decide) rfl (fun c2 => ?_) (fun c2 => ?_)
    · refine ka_iconst (v := 0) d_X5_others_32 rfl (by decide) ?_
      exact (k3 c1 c2)
    · refine ka_iload_n d_X5_others_20 rfl rfl 2 rfl ?_
      refine ka_aload_n d_X5_others_21 rfl rfl 0 rfl ?_
      refine ka_iload_n d_X5_others_22 rfl rfl 2 rfl ?_
      exact (k4 c1 c2)
  · refine ka_aload_n d_X5_others_6 rfl rfl 0 rfl ?_
    refine ka_iload_n d_X5_others_7 rfl rfl 2 rfl ?_
    exact (k5 c1)
theorem cs_X5_others_8 {L : Nat} {xs : Nat → Int32} {σ : ks_St} {mc ms : Nat} {P : ka_O → ks_St → Prop} {f : Int32 → ks_St → Prop} {x1 : Int32} {x2 : Int32} {s1 : Int32} (hK : ks_M L xs mX5_bAround rm_X5_bAround [.ref 17, .int s1] σ (pi_ f)) (kr : ∀ r σ', f r σ' → ks_W L xs mX5_others rm_X5_others 11 [(0, .ref 17), (1, .int x1), (2, .int x2)] [.int r] σ' mc ms P) : ks_W L xs mX5_others rm_X5_others 8 [(0, .ref 17), (1, .int x1), (2, .int x2)] [.int s1, .ref 17] σ mc ms P := by
  refine ks_callV (q := 11) (o := 17) (ci := 5) (As := [.int s1]) (st := []) d_X5_others_8 rfl rfl (by decide) rfl rfl lk_X5_107 ⟨by decide, by decide⟩ (Nat.le_of_ble_eq_true rfl) ⟨Nat.le_refl _, Nat.le_refl _⟩ hK (fun v σ' hq => ?_) (fun E σ' hq => ?_)
  · obtain ⟨r, e, hf⟩ := hq; cases e; exact kr r σ' hf
  · obtain ⟨r, e, hf⟩ := hq; cases e
theorem sg_X5_others_11 {L : Nat} {xs : Nat → Int32} {σ : ks_St} {mc ms : Nat} {P : ka_O → ks_St → Prop} {x1 : Int32} {x2 : Int32} {s0 : Int32}  (k1 : ks_W L xs mX5_others rm_X5_others 33 [(0, .ref 17), (1, .int x1), (2, .int x2)] [.int s0] σ mc ms P) : ks_W L xs mX5_others rm_X5_others 11 [(0, .ref 17), (1, .int x1), (2, .int x2)] [.int s0] σ mc ms P := by
  refine ka_goto (q := 33) d_X5_others_11 (by decide) ?_
  exact k1
theorem cs_X5_others_23 {L : Nat} {xs : Nat → Int32} {σ : ks_St} {mc ms : Nat} {P : ka_O → ks_St → Prop} {f : Int32 → ks_St → Prop} {x1 : Int32} {x2 : Int32} {s0 : Int32} {s2 : Int32} (hK : ks_M L xs mX5_bAround rm_X5_bAround [.ref 17, .int s2] σ (pi_ f)) (kr : ∀ r σ', f r σ' → ks_W L xs mX5_others rm_X5_others 26 [(0, .ref 17), (1, .int x1), (2, .int x2)] [.int r, .int s0] σ' mc ms P) : ks_W L xs mX5_others rm_X5_others 23 [(0, .ref 17), (1, .int x1), (2, .int x2)] [.int s2, .ref 17, .int s0] σ mc ms P := by
  refine ks_callV (q := 26) (o := 17) (ci := 5) (As := [.int s2]) (st := [.int s0]) d_X5_others_23 rfl rfl (by decide) rfl rfl lk_X5_107 ⟨by decide, by decide⟩ (Nat.le_of_ble_eq_true rfl) ⟨Nat.le_refl _, Nat.le_refl _⟩ hK (fun v σ' hq => ?_) (fun E σ' hq => ?_)
  · obtain ⟨r, e, hf⟩ := hq; cases e; exact kr r σ' hf
  · obtain ⟨r, e, hf⟩ := hq; cases e
theorem sg_X5_others_26 {L : Nat} {xs : Nat → Int32} {σ : ks_St} {mc ms : Nat} {P : ka_O → ks_St → Prop} {x1 : Int32} {x2 : Int32} {s0 : Int32} {s1 : Int32}  (z1 : ¬ x2 = 0) (k2 : ks_W L xs mX5_others rm_X5_others 33 [(0, .ref 17), (1, .int x1), (2, .int x2)] [.int ((s0 - s1) - (s0 - s1) / x2 * x2)] σ mc ms P) : ks_W L xs mX5_others rm_X5_others 26 [(0, .ref 17), (1, .int x1), (2, .int x2)] [.int s1, .int s0] σ mc ms P := by
  refine ka_isub d_X5_others_26 rfl ?_
  refine ka_iload_n d_X5_others_27 rfl rfl 2 rfl ?_
  refine ka_irem d_X5_others_28 rfl z1 ?_
  refine ka_goto (q := 33) d_X5_others_29 (by decide) ?_
  exact k2
theorem sg_X5_others_33 {L : Nat} {xs : Nat → Int32} {σ : ks_St} {mc ms : Nat} {P : ka_O → ks_St → Prop} {x1 : Int32} {x2 : Int32} {s0 : Int32}  (k1 : ks_W L xs mX5_others rm_X5_others 37 [(0, .ref 17), (1, .int x1), (2, .int x2), (3, .int s0), (4, .int 0)] [] σ mc ms P) : ks_W L xs mX5_others rm_X5_others 33 [(0, .ref 17), (1, .int x1), (2, .int x2)] [.int s0] σ mc ms P := by
  refine ka_istore_n (ls' := [(3, .int s0), (0, .ref 17), (1, .int x1), (2, .int x2)]) d_X5_others_33 rfl rfl (by decide) rfl ?_
  refine ka_iconst (v := 0) d_X5_others_34 rfl (by decide) ?_
  refine ka_istore (ls' := [(4, .int 0), (3, .int s0), (0, .ref 17), (1, .int x1), (2, .int x2)]) d_X5_others_35 rfl (by decide) rfl ?_
  refine ka_sub [2, 3, 4, 1, 0] rfl ?_
  exact k1
theorem sg_X5_others_37 {L : Nat} {xs : Nat → Int32} {σ : ks_St} {mc ms : Nat} {P : ka_O → ks_St → Prop} {x1 : Int32} {x2 : Int32} {x3 : Int32} {x4 : Int32}  (r2 : (x2 ≤ x4) → P (.inl none) σ) (z4 : (¬ (x2 ≤ x4)) → (x1 = 11) → ¬ x2 = 0) (v5 : (¬ (x2 ≤ x4)) → (x1 = 11) → vp_in x4 513) (v6 : (¬ (x2 ≤ x4)) → (x1 = 11) → vp_in ((x4 + x3) - (x4 + x3) / x2 * x2) 1026) (k7 : (¬ (x2 ≤ x4)) → (x1 = 11) → ks_W L xs mX5_others rm_X5_others 255 [(0, .ref 17), (1, .int x1), (2, .int x2), (3, .int x3), (4, .int x4)] [] (uf_ σ 23 (upd (sf_ σ 23) ((x4 + x3) - (x4 + x3) / x2 * x2).toNatClampNeg (sf_ σ 21 x4.toNatClampNeg))) mc ms P) (z9 : (¬ (x2 ≤ x4)) → (¬ x1 = 11) → (x1 = 12) → ¬ x2 = 0) (v10 : (¬ (x2 ≤ x4)) → (¬ x1 = 11) → (x1 = 12) → vp_in x4 513) (v11 : (¬ (x2 ≤ x4)) → (¬ x1 = 11) → (x1 = 12) → vp_in ((x4 + x3) - (x4 + x3) / x2 * x2) 1026) (k12 : (¬ (x2 ≤ x4)) → (¬ x1 = 11) → (x1 = 12) → ks_W L xs mX5_others rm_X5_others 255 [(0, .ref 17), (1, .int x1), (2, .int x2), (3, .int x3), (4, .int x4)] [] (uf_ σ 23 (upd (sf_ σ 23) ((x4 + x3) - (x4 + x3) / x2 * x2).toNatClampNeg (sf_ σ 21 x4.toNatClampNeg))) mc ms P) (v14 : (¬ (x2 ≤ x4)) → (¬ x1 = 11) → (¬ x1 = 12) → (x1 = 13) → vp_in x4 513) (v15 : (¬ (x2 ≤ x4)) → (¬ x1 = 11) → (¬ x1 = 12) → (x1 = 13) → vp_in x4 513) (v16 : (¬ (x2 ≤ x4)) → (¬ x1 = 11) → (¬ x1 = 12) → (x1 = 13) → vp_in x4 1026) (k17 : (¬ (x2 ≤ x4)) → (¬ x1 = 11) → (¬ x1 = 12) → (x1 = 13) → ks_W L xs mX5_others rm_X5_others 255 [(0, .ref 17), (1, .int x1), (2, .int x2), (3, .int x3), (4, .int x4)] [] (uf_ σ 23 (upd (sf_ σ 23) x4.toNatClampNeg ((sf_ σ 21 x4.toNatClampNeg) &&& (sf_ σ 22 x4.toNatClampNeg)))) mc ms P) (v19 : (¬ (x2 ≤ x4)) → (¬ x1 = 11) → (¬ x1 = 12) → (¬ x1 = 13) → (x1 = 14) → vp_in x4 513) (v20 : (¬ (x2 ≤ x4)) → (¬ x1 = 11) → (¬ x1 = 12) → (¬ x1 = 13) → (x1 = 14) → vp_in x4 513) (v21 : (¬ (x2 ≤ x4)) → (¬ x1 = 11) → (¬ x1 = 12) → (¬ x1 = 13) → (x1 = 14) → vp_in x4 1026) (k22 : (¬ (x2 ≤ x4)) → (¬ x1 = 11) → (¬ x1 = 12) → (¬ x1 = 13) → (x1 = 14) → ks_W L xs mX5_others rm_X5_others 255 [(0, .ref 17), (1, .int x1), (2, .int x2), (3, .int x3), (4, .int x4)] [] (uf_ σ 23 (upd (sf_ σ 23) x4.toNatClampNeg ((sf_ σ 21 x4.toNatClampNeg) ||| (sf_ σ 22 x4.toNatClampNeg)))) mc ms P) (v24 : (¬ (x2 ≤ x4)) → (¬ x1 = 11) → (¬ x1 = 12) → (¬ x1 = 13) → (¬ x1 = 14) → (x1 = 15) → vp_in x4 513) (v25 : (¬ (x2 ≤ x4)) → (¬ x1 = 11) → (¬ x1 = 12) → (¬ x1 = 13) → (¬ x1 = 14) → (x1 = 15) → vp_in x4 513) (v26 : (¬ (x2 ≤ x4)) → (¬ x1 = 11) → (¬ x1 = 12) → (¬ x1 = 13) → (¬ x1 = 14) → (x1 = 15) → vp_in x4 1026) (k27 : (¬ (x2 ≤ x4)) → (¬ x1 = 11) → (¬ x1 = 12) → (¬ x1 = 13) → (¬ x1 = 14) → (x1 = 15) → ks_W L xs mX5_others rm_X5_others 255 [(0, .ref 17), (1, .int x1), (2, .int x2), (3, .int x3), (4, .int x4)] [] (uf_ σ 23 (upd (sf_ σ 23) x4.toNatClampNeg ((sf_ σ 21 x4.toNatClampNeg) ^^^ (sf_ σ 22 x4.toNatClampNeg)))) mc ms P) (v29 : (¬ (x2 ≤ x4)) → (¬ x1 = 11) → (¬ x1 = 12) → (¬ x1 = 13) → (¬ x1 = 14) → (¬ x1 = 15) → (x1 = 16) → vp_in x4 513) (v30 : (¬ (x2 ≤ x4)) → (¬ x1 = 11) → (¬ x1 = 12) → (¬ x1 = 13) → (¬ x1 = 14) → (¬ x1 = 15) → (x1 = 16) → vp_in x4 1026) (k31 : (¬ (x2 ≤ x4)) → (¬ x1 = 11) → (¬ x1 = 12) → (¬ x1 = 13) → (¬ x1 = 14) → (¬ x1 = 15) → (x1 = 16) → ks_W L xs mX5_others rm_X5_others 255 [(0, .ref 17), (1, .int x1), (2, .int x2), (3, .int x3), (4, .int x4)] [] (uf_ σ 23 (upd (sf_ σ 23) x4.toNatClampNeg (1 - (sf_ σ 21 x4.toNatClampNeg)))) mc ms P) (v33 : (¬ (x2 ≤ x4)) → (¬ x1 = 11) → (¬ x1 = 12) → (¬ x1 = 13) → (¬ x1 = 14) → (¬ x1 = 15) → (¬ x1 = 16) → (x1 = 17) → vp_in ((x2 - 1) - x4) 513) (v34 : (¬ (x2 ≤ x4)) → (¬ x1 = 11) → (¬ x1 = 12) → (¬ x1 = 13) → (¬ x1 = 14) → (¬ x1 = 15) → (¬ x1 = 16) → (x1 = 17) → vp_in x4 1026) (k35 : (¬ (x2 ≤ x4)) → (¬ x1 = 11) → (¬ x1 = 12) → (¬ x1 = 13) → (¬ x1 = 14) → (¬ x1 = 15) → (¬ x1 = 16) → (x1 = 17) → ks_W L xs mX5_others rm_X5_others 255 [(0, .ref 17), (1, .int x1), (2, .int x2), (3, .int x3), (4, .int x4)] [] (uf_ σ 23 (upd (sf_ σ 23) x4.toNatClampNeg (sf_ σ 21 ((x2 - 1) - x4).toNatClampNeg))) mc ms P) (v36 : (¬ (x2 ≤ x4)) → (¬ x1 = 11) → (¬ x1 = 12) → (¬ x1 = 13) → (¬ x1 = 14) → (¬ x1 = 15) → (¬ x1 = 16) → (¬ x1 = 17) → vp_in (((x2 - 8) - ((x4 / 8) * 8)) + (x4 - x4 / 8 * 8)) 513) (v37 : (¬ (x2 ≤ x4)) → (¬ x1 = 11) → (¬ x1 = 12) → (¬ x1 = 13) → (¬ x1 = 14) → (¬ x1 = 15) → (¬ x1 = 16) → (¬ x1 = 17) → vp_in x4 1026) (k38 : (¬ (x2 ≤ x4)) → (¬ x1 = 11) → (¬ x1 = 12) → (¬ x1 = 13) → (¬ x1 = 14) → (¬ x1 = 15) → (¬ x1 = 16) → (¬ x1 = 17) → ks_W L xs mX5_others rm_X5_others 255 [(0, .ref 17), (1, .int x1), (2, .int x2), (3, .int x3), (4, .int x4)] [] (uf_ σ 23 (upd (sf_ σ 23) x4.toNatClampNeg (sf_ σ 21 (((x2 - 8) - ((x4 / 8) * 8)) + (x4 - x4 / 8 * 8)).toNatClampNeg))) mc ms P) : ks_W L xs mX5_others rm_X5_others 37 [(0, .ref 17), (1, .int x1), (2, .int x2), (3, .int x3), (4, .int x4)] [] σ mc ms P := by
  refine ka_iload d_X5_others_37 rfl 4 rfl ?_
  refine ka_iload_n d_X5_others_39 rfl rfl 2 rfl ?_
  refine ka_icmp_ge (tgt := 261) d_X5_others_40 (by decide) rfl (fun c1 => ?_) (fun c1 => ?_)
  · exact ks_vret d_X5_others_261 rfl (r2 c1)
  · refine ka_iload_n d_X5_others_43 rfl rfl 1 rfl ?_
    by_cases c3 : x1 = 11
    · refine ka_tabIn (q := 88) d_X5_others_44 (by rw [c3]; decide) (by rw [c3]; decide) (by rw [c3]; rfl) (by decide) ?_
      refine ka_aload_n d_X5_others_88 rfl rfl 0 rfl ?_
      refine gf_X5_9 d_X5_others_89 rfl fl_X5_27 ?_
      refine ka_iload d_X5_others_92 rfl 4 rfl ?_
      refine ka_iload_n d_X5_others_94 rfl rfl 3 rfl ?_
      refine ka_iadd d_X5_others_95 rfl ?_
      refine ka_iload_n d_X5_others_96 rfl rfl 2 rfl ?_
      refine ka_irem d_X5_others_97 rfl (z4 c1 c3) ?_
      refine ka_aload_n d_X5_others_98 rfl rfl 0 rfl ?_
      refine gf_X5_7 d_X5_others_99 rfl fl_X5_21 ?_
      refine ka_iload d_X5_others_102 rfl 4 rfl ?_
      refine ks_iald row_21 d_X5_others_104 rfl (v5 c1 c3) ?_
      refine ks_iast row_23 d_X5_others_105 rfl (v6 c1 c3) ?_
      refine ka_goto (q := 255) d_X5_others_106 (by decide) ?_
      exact (k7 c1 c3)
    by_cases c8 : x1 = 12
    · refine ka_tabIn (q := 88) d_X5_others_44 (by rw [c8]; decide) (by rw [c8]; decide) (by rw [c8]; rfl) (by decide) ?_
      refine ka_aload_n d_X5_others_88 rfl rfl 0 rfl ?_
      refine gf_X5_9 d_X5_others_89 rfl fl_X5_27 ?_
      refine ka_iload d_X5_others_92 rfl 4 rfl ?_
      refine ka_iload_n d_X5_others_94 rfl rfl 3 rfl ?_
      refine ka_iadd d_X5_others_95 rfl ?_
      refine ka_iload_n d_X5_others_96 rfl rfl 2 rfl ?_
      refine ka_irem d_X5_others_97 rfl (z9 c1 c3 c8) ?_
      refine ka_aload_n d_X5_others_98 rfl rfl 0 rfl ?_
      refine gf_X5_7 d_X5_others_99 rfl fl_X5_21 ?_
      refine ka_iload d_X5_others_102 rfl 4 rfl ?_
      refine ks_iald row_21 d_X5_others_104 rfl (v10 c1 c3 c8) ?_
      refine ks_iast row_23 d_X5_others_105 rfl (v11 c1 c3 c8) ?_
      refine ka_goto (q := 255) d_X5_others_106 (by decide) ?_
      exact (k12 c1 c3 c8)
    by_cases c13 : x1 = 13
    · refine ka_tabIn (q := 109) d_X5_others_44 (by rw [c13]; decide) (by rw [c13]; decide) (by rw [c13]; rfl) (by decide) ?_
      refine ka_aload_n d_X5_others_109 rfl rfl 0 rfl ?_
      refine gf_X5_9 d_X5_others_110 rfl fl_X5_27 ?_
      refine ka_iload d_X5_others_113 rfl 4 rfl ?_
      refine ka_aload_n d_X5_others_115 rfl rfl 0 rfl ?_
      refine gf_X5_7 d_X5_others_116 rfl fl_X5_21 ?_
      refine ka_iload d_X5_others_119 rfl 4 rfl ?_
      refine ks_iald row_21 d_X5_others_121 rfl (v14 c1 c3 c8 c13) ?_
      refine ka_aload_n d_X5_others_122 rfl rfl 0 rfl ?_
      refine gf_X5_8 d_X5_others_123 rfl fl_X5_24 ?_
      refine ka_iload d_X5_others_126 rfl 4 rfl ?_
      refine ks_iald row_22 d_X5_others_128 rfl (v15 c1 c3 c8 c13) ?_
      refine ka_iand d_X5_others_129 rfl ?_
      refine ks_iast row_23 d_X5_others_130 rfl (v16 c1 c3 c8 c13) ?_
      refine ka_goto (q := 255) d_X5_others_131 (by decide) ?_
      exact (k17 c1 c3 c8 c13)
    by_cases c18 : x1 = 14
    · refine ka_tabIn (q := 134) d_X5_others_44 (by rw [c18]; decide) (by rw [c18]; decide) (by rw [c18]; rfl) (by decide) ?_
      refine ka_aload_n d_X5_others_134 rfl rfl 0 rfl ?_
      refine gf_X5_9 d_X5_others_135 rfl fl_X5_27 ?_
      refine ka_iload d_X5_others_138 rfl 4 rfl ?_
      refine ka_aload_n d_X5_others_140 rfl rfl 0 rfl ?_
      refine gf_X5_7 d_X5_others_141 rfl fl_X5_21 ?_
      refine ka_iload d_X5_others_144 rfl 4 rfl ?_
      refine ks_iald row_21 d_X5_others_146 rfl (v19 c1 c3 c8 c13 c18) ?_
      refine ka_aload_n d_X5_others_147 rfl rfl 0 rfl ?_
      refine gf_X5_8 d_X5_others_148 rfl fl_X5_24 ?_
      refine ka_iload d_X5_others_151 rfl 4 rfl ?_
      refine ks_iald row_22 d_X5_others_153 rfl (v20 c1 c3 c8 c13 c18) ?_
      refine ka_ior d_X5_others_154 rfl ?_
      refine ks_iast row_23 d_X5_others_155 rfl (v21 c1 c3 c8 c13 c18) ?_
      refine ka_goto (q := 255) d_X5_others_156 (by decide) ?_
      exact (k22 c1 c3 c8 c13 c18)
    by_cases c23 : x1 = 15
    · refine ka_tabIn (q := 159) d_X5_others_44 (by rw [c23]; decide) (by rw [c23]; decide) (by rw [c23]; rfl) (by decide) ?_
      refine ka_aload_n d_X5_others_159 rfl rfl 0 rfl ?_
      refine gf_X5_9 d_X5_others_160 rfl fl_X5_27 ?_
      refine ka_iload d_X5_others_163 rfl 4 rfl ?_
      refine ka_aload_n d_X5_others_165 rfl rfl 0 rfl ?_
      refine gf_X5_7 d_X5_others_166 rfl fl_X5_21 ?_
      refine ka_iload d_X5_others_169 rfl 4 rfl ?_
      refine ks_iald row_21 d_X5_others_171 rfl (v24 c1 c3 c8 c13 c18 c23) ?_
      refine ka_aload_n d_X5_others_172 rfl rfl 0 rfl ?_
      refine gf_X5_8 d_X5_others_173 rfl fl_X5_24 ?_
      refine ka_iload d_X5_others_176 rfl 4 rfl ?_
      refine ks_iald row_22 d_X5_others_178 rfl (v25 c1 c3 c8 c13 c18 c23) ?_
      refine ka_ixor d_X5_others_179 rfl ?_
      refine ks_iast row_23 d_X5_others_180 rfl (v26 c1 c3 c8 c13 c18 c23) ?_
      refine ka_goto (q := 255) d_X5_others_181 (by decide) ?_
      exact (k27 c1 c3 c8 c13 c18 c23)
    by_cases c28 : x1 = 16
    · refine ka_tabIn (q := 184) d_X5_others_44 (by rw [c28]; decide) (by rw [c28]; decide) (by rw [c28]; rfl) (by decide) ?_
      refine ka_aload_n d_X5_others_184 rfl rfl 0 rfl ?_
      refine gf_X5_9 d_X5_others_185 rfl fl_X5_27 ?_
      refine ka_iload d_X5_others_188 rfl 4 rfl ?_
      refine ka_iconst (v := 1) d_X5_others_190 rfl (by decide) ?_
      refine ka_aload_n d_X5_others_191 rfl rfl 0 rfl ?_
      refine gf_X5_7 d_X5_others_192 rfl fl_X5_21 ?_
      refine ka_iload d_X5_others_195 rfl 4 rfl ?_
      refine ks_iald row_21 d_X5_others_197 rfl (v29 c1 c3 c8 c13 c18 c23 c28) ?_
      refine ka_isub d_X5_others_198 rfl ?_
      refine ks_iast row_23 d_X5_others_199 rfl (v30 c1 c3 c8 c13 c18 c23 c28) ?_
      refine ka_goto (q := 255) d_X5_others_200 (by decide) ?_
      exact (k31 c1 c3 c8 c13 c18 c23 c28)
    by_cases c32 : x1 = 17
    · refine ka_tabIn (q := 203) d_X5_others_44 (by rw [c32]; decide) (by rw [c32]; decide) (by rw [c32]; rfl) (by decide) ?_
      refine ka_aload_n d_X5_others_203 rfl rfl 0 rfl ?_
      refine gf_X5_9 d_X5_others_204 rfl fl_X5_27 ?_
      refine ka_iload d_X5_others_207 rfl 4 rfl ?_
      refine ka_aload_n d_X5_others_209 rfl rfl 0 rfl ?_
      refine gf_X5_7 d_X5_others_210 rfl fl_X5_21 ?_
      refine ka_iload_n d_X5_others_213 rfl rfl 2 rfl ?_
      refine ka_iconst (v := 1) d_X5_others_214 rfl (by decide) ?_
      refine ka_isub d_X5_others_215 rfl ?_
      refine ka_iload d_X5_others_216 rfl 4 rfl ?_
      refine ka_isub d_X5_others_218 rfl ?_
      refine ks_iald row_21 d_X5_others_219 rfl (v33 c1 c3 c8 c13 c18 c23 c28 c32) ?_
      refine ks_iast row_23 d_X5_others_220 rfl (v34 c1 c3 c8 c13 c18 c23 c28 c32) ?_
      refine ka_goto (q := 255) d_X5_others_221 (by decide) ?_
      exact (k35 c1 c3 c8 c13 c18 c23 c28 c32)
    refine ka_tabOut (q := 224) d_X5_others_44 (by have nc3 := lv_neT (a := 11) c3 (by decide); have nc8 := lv_neT (a := 12) c8 (by decide); have nc13 := lv_neT (a := 13) c13 (by decide); have nc18 := lv_neT (a := 14) c18 (by decide); have nc23 := lv_neT (a := 15) c23 (by decide); have nc28 := lv_neT (a := 16) c28 (by decide); have nc32 := lv_neT (a := 17) c32 (by decide); omega) (by decide) ?_
    refine ka_aload_n d_X5_others_224 rfl rfl 0 rfl ?_
    refine gf_X5_9 d_X5_others_225 rfl fl_X5_27 ?_
    refine ka_iload d_X5_others_228 rfl 4 rfl ?_
    refine ka_aload_n d_X5_others_230 rfl rfl 0 rfl ?_
    refine gf_X5_7 d_X5_others_231 rfl fl_X5_21 ?_
    refine ka_iload_n d_X5_others_234 rfl rfl 2 rfl ?_
    refine ka_bipush (v := 8) d_X5_others_235 rfl (by decide) ?_
    refine ka_isub d_X5_others_237 rfl ?_
    refine ka_iload d_X5_others_238 rfl 4 rfl ?_
    refine ka_bipush (v := 8) d_X5_others_240 rfl (by decide) ?_
    refine ka_idiv d_X5_others_242 rfl (by decide) ?_
    refine ka_bipush (v := 8) d_X5_others_243 rfl (by decide) ?_
    refine ka_imul d_X5_others_245 rfl ?_
    refine ka_isub d_X5_others_246 rfl ?_
    refine ka_iload d_X5_others_247 rfl 4 rfl ?_
    refine ka_bipush (v := 8) d_X5_others_249 rfl (by decide) ?_
    refine ka_irem d_X5_others_251 rfl (by decide) ?_
    refine ka_iadd d_X5_others_252 rfl ?_
    refine ks_iald row_21 d_X5_others_253 rfl (v36 c1 c3 c8 c13 c18 c23 c28 c32) ?_
    refine ks_iast row_23 d_X5_others_254 rfl (v37 c1 c3 c8 c13 c18 c23 c28 c32) ?_
    exact (k38 c1 c3 c8 c13 c18 c23 c28 c32)
theorem sg_X5_others_255 {L : Nat} {xs : Nat → Int32} {σ : ks_St} {mc ms : Nat} {P : ka_O → ks_St → Prop} {x1 : Int32} {x2 : Int32} {x3 : Int32} {x4 : Int32}  (k1 : ks_W L xs mX5_others rm_X5_others 37 [(0, .ref 17), (1, .int x1), (2, .int x2), (3, .int x3), (4, .int (x4 + 1))] [] σ mc ms P) : ks_W L xs mX5_others rm_X5_others 255 [(0, .ref 17), (1, .int x1), (2, .int x2), (3, .int x3), (4, .int x4)] [] σ mc ms P := by
  refine ka_iinc (g := 4) (v := x4 + 1) (ls' := [(4, .int (x4 + 1)), (0, .ref 17), (1, .int x1), (2, .int x2), (3, .int x3)]) d_X5_others_255 rfl rfl rfl (by decide) rfl ?_
  refine ka_goto (q := 37) d_X5_others_258 (by decide) ?_
  refine ka_sub [1, 2, 3, 4, 0] rfl ?_
  exact k1
theorem d_X5_keep_0 : decode cX5_keep 0 = .ok (.aload_n 0, 1) := by decide +kernel
theorem d_X5_keep_1 : decode cX5_keep 1 = .ok (.iload_n 2, 1) := by decide +kernel
theorem d_X5_keep_2 : decode cX5_keep 2 = .ok (.invokevirtual 60, 3) := by decide +kernel
theorem d_X5_keep_5 : decode cX5_keep 5 = .ok (.istore_n 3, 1) := by decide +kernel
theorem d_X5_keep_6 : decode cX5_keep 6 = .ok (.iconst 0, 1) := by decide +kernel
theorem d_X5_keep_7 : decode cX5_keep 7 = .ok (.istore 4, 2) := by decide +kernel
theorem d_X5_keep_9 : decode cX5_keep 9 = .ok (.iload 4, 2) := by decide +kernel
theorem d_X5_keep_11 : decode cX5_keep 11 = .ok (.iload_n 2, 1) := by decide +kernel
theorem d_X5_keep_12 : decode cX5_keep 12 = .ok (.if_icmp .ge 32, 3) := by decide +kernel
theorem d_X5_keep_15 : decode cX5_keep 15 = .ok (.aload_n 0, 1) := by decide +kernel
theorem d_X5_keep_16 : decode cX5_keep 16 = .ok (.getfield 14, 3) := by decide +kernel
theorem d_X5_keep_19 : decode cX5_keep 19 = .ok (.sipush 512, 3) := by decide +kernel
theorem d_X5_keep_22 : decode cX5_keep 22 = .ok (.iload_n 3, 1) := by decide +kernel
theorem d_X5_keep_23 : decode cX5_keep 23 = .ok (.imul, 1) := by decide +kernel
theorem d_X5_keep_24 : decode cX5_keep 24 = .ok (.iload 4, 2) := by decide +kernel
theorem d_X5_keep_26 : decode cX5_keep 26 = .ok (.iadd, 1) := by decide +kernel
theorem d_X5_keep_27 : decode cX5_keep 27 = .ok (.aload_n 0, 1) := by decide +kernel
theorem d_X5_keep_28 : decode cX5_keep 28 = .ok (.getfield 27, 3) := by decide +kernel
theorem d_X5_keep_31 : decode cX5_keep 31 = .ok (.iload_n 1, 1) := by decide +kernel
theorem d_X5_keep_32 : decode cX5_keep 32 = .ok (.iload 4, 2) := by decide +kernel
theorem d_X5_keep_34 : decode cX5_keep 34 = .ok (.iadd, 1) := by decide +kernel
theorem d_X5_keep_35 : decode cX5_keep 35 = .ok (.iaload, 1) := by decide +kernel
theorem d_X5_keep_36 : decode cX5_keep 36 = .ok (.i2b, 1) := by decide +kernel
theorem d_X5_keep_37 : decode cX5_keep 37 = .ok (.bastore, 1) := by decide +kernel
theorem d_X5_keep_38 : decode cX5_keep 38 = .ok (.iinc 4 1, 3) := by decide +kernel
theorem d_X5_keep_41 : decode cX5_keep 41 = .ok (.goto (-32), 3) := by decide +kernel
theorem d_X5_keep_44 : decode cX5_keep 44 = .ok (.iload_n 3, 1) := by decide +kernel
theorem d_X5_keep_45 : decode cX5_keep 45 = .ok (.ireturn, 1) := by decide +kernel
theorem sg_X5_keep_0 {L : Nat} {xs : Nat → Int32} {σ : ks_St} {mc ms : Nat} {P : ka_O → ks_St → Prop} {x1 : Int32} {x2 : Int32}  (k1 : ks_W L xs mX5_keep rm_X5_keep 2 [(0, .ref 17), (1, .int x1), (2, .int x2)] [.int x2, .ref 17] σ mc ms P) : ks_W L xs mX5_keep rm_X5_keep 0 [(0, .ref 17), (1, .int x1), (2, .int x2)] [] σ mc ms P := by
  refine ka_aload_n d_X5_keep_0 rfl rfl 0 rfl ?_
  refine ka_iload_n d_X5_keep_1 rfl rfl 2 rfl ?_
  exact k1
theorem cs_X5_keep_2 {L : Nat} {xs : Nat → Int32} {σ : ks_St} {mc ms : Nat} {P : ka_O → ks_St → Prop} {f : Int32 → ks_St → Prop} {x1 : Int32} {x2 : Int32} {s1 : Int32} (hK : ks_M L xs mX5_make rm_X5_make [.ref 17, .int s1] σ (pi_ f)) (kr : ∀ r σ', f r σ' → ks_W L xs mX5_keep rm_X5_keep 5 [(0, .ref 17), (1, .int x1), (2, .int x2)] [.int r] σ' mc ms P) : ks_W L xs mX5_keep rm_X5_keep 2 [(0, .ref 17), (1, .int x1), (2, .int x2)] [.int s1, .ref 17] σ mc ms P := by
  refine ks_callV (q := 5) (o := 17) (ci := 5) (As := [.int s1]) (st := []) d_X5_keep_2 rfl rfl (by decide) rfl rfl lk_X5_60 ⟨by decide, by decide⟩ (Nat.le_of_ble_eq_true rfl) ⟨Nat.le_refl _, Nat.le_refl _⟩ hK (fun v σ' hq => ?_) (fun E σ' hq => ?_)
  · obtain ⟨r, e, hf⟩ := hq; cases e; exact kr r σ' hf
  · obtain ⟨r, e, hf⟩ := hq; cases e
theorem sg_X5_keep_5 {L : Nat} {xs : Nat → Int32} {σ : ks_St} {mc ms : Nat} {P : ka_O → ks_St → Prop} {x1 : Int32} {x2 : Int32} {s0 : Int32}  (k1 : ks_W L xs mX5_keep rm_X5_keep 9 [(0, .ref 17), (1, .int x1), (2, .int x2), (3, .int s0), (4, .int 0)] [] σ mc ms P) : ks_W L xs mX5_keep rm_X5_keep 5 [(0, .ref 17), (1, .int x1), (2, .int x2)] [.int s0] σ mc ms P := by
  refine ka_istore_n (ls' := [(3, .int s0), (0, .ref 17), (1, .int x1), (2, .int x2)]) d_X5_keep_5 rfl rfl (by decide) rfl ?_
  refine ka_iconst (v := 0) d_X5_keep_6 rfl (by decide) ?_
  refine ka_istore (ls' := [(4, .int 0), (3, .int s0), (0, .ref 17), (1, .int x1), (2, .int x2)]) d_X5_keep_7 rfl (by decide) rfl ?_
  refine ka_sub [2, 3, 4, 1, 0] rfl ?_
  exact k1
theorem sg_X5_keep_9 {L : Nat} {xs : Nat → Int32} {σ : ks_St} {mc ms : Nat} {P : ka_O → ks_St → Prop} {x1 : Int32} {x2 : Int32} {x3 : Int32} {x4 : Int32}  (r2 : (x2 ≤ x4) → P (.inl (some (.int x3))) σ) (v3 : (¬ (x2 ≤ x4)) → vp_in (x1 + x4) 1026) (v4 : (¬ (x2 ≤ x4)) → vp_in ((512 * x3) + x4) 307200) (k5 : (¬ (x2 ≤ x4)) → ks_W L xs mX5_keep rm_X5_keep 9 [(0, .ref 17), (1, .int x1), (2, .int x2), (3, .int x3), (4, .int (x4 + 1))] [] (uf_ σ 19 (upd (sf_ σ 19) ((512 * x3) + x4).toNatClampNeg (vp_nar .byte ((sf_ σ 23 (x1 + x4).toNatClampNeg).toInt8.toInt32)))) mc ms P) : ks_W L xs mX5_keep rm_X5_keep 9 [(0, .ref 17), (1, .int x1), (2, .int x2), (3, .int x3), (4, .int x4)] [] σ mc ms P := by
  refine ka_iload d_X5_keep_9 rfl 4 rfl ?_
  refine ka_iload_n d_X5_keep_11 rfl rfl 2 rfl ?_
  refine ka_icmp_ge (tgt := 44) d_X5_keep_12 (by decide) rfl (fun c1 => ?_) (fun c1 => ?_)
  · refine ka_iload_n d_X5_keep_44 rfl rfl 3 rfl ?_
    exact ks_iret (ty := .int) d_X5_keep_45 rfl rfl (r2 c1)
  · refine ka_aload_n d_X5_keep_15 rfl rfl 0 rfl ?_
    refine gf_X5_4 d_X5_keep_16 rfl fl_X5_14 ?_
    refine ka_sipush (v := 512) d_X5_keep_19 rfl (by decide) ?_
    refine ka_iload_n d_X5_keep_22 rfl rfl 3 rfl ?_
    refine ka_imul d_X5_keep_23 rfl ?_
    refine ka_iload d_X5_keep_24 rfl 4 rfl ?_
    refine ka_iadd d_X5_keep_26 rfl ?_
    refine ka_aload_n d_X5_keep_27 rfl rfl 0 rfl ?_
    refine gf_X5_9 d_X5_keep_28 rfl fl_X5_27 ?_
    refine ka_iload_n d_X5_keep_31 rfl rfl 1 rfl ?_
    refine ka_iload d_X5_keep_32 rfl 4 rfl ?_
    refine ka_iadd d_X5_keep_34 rfl ?_
    refine ks_iald row_23 d_X5_keep_35 rfl (v3 c1) ?_
    refine ka_i2b d_X5_keep_36 rfl ?_
    refine ks_bast row_19 d_X5_keep_37 rfl (v4 c1) ?_
    refine ka_iinc (g := 4) (v := x4 + 1) (ls' := [(4, .int (x4 + 1)), (0, .ref 17), (1, .int x1), (2, .int x2), (3, .int x3)]) d_X5_keep_38 rfl rfl rfl (by decide) rfl ?_
    refine ka_goto (q := 9) d_X5_keep_41 (by decide) ?_
    refine ka_sub [1, 2, 3, 4, 0] rfl ?_
    exact (k5 c1)
