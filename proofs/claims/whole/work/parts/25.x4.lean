theorem d_X4_requireRoom_0 : decode cX4_requireRoom 0 = .ok (.aload_n 0, 1) := by decide +kernel
theorem d_X4_requireRoom_1 : decode cX4_requireRoom 1 = .ok (.getfield 17, 3) := by decide +kernel
theorem d_X4_requireRoom_4 : decode cX4_requireRoom 4 = .ok (.sipush 600, 3) := by decide +kernel
theorem d_X4_requireRoom_7 : decode cX4_requireRoom 7 = .ok (.if_icmp .lt 13, 3) := by decide +kernel
theorem d_X4_requireRoom_10 : decode cX4_requireRoom 10 = .ok (.new 180, 3) := by decide +kernel
theorem d_X4_requireRoom_13 : decode cX4_requireRoom 13 = .ok (.dup, 1) := by decide +kernel
theorem d_X4_requireRoom_14 : decode cX4_requireRoom 14 = .ok (.ldc 182, 2) := by decide +kernel
theorem d_X4_requireRoom_16 : decode cX4_requireRoom 16 = .ok (.invokespecial 184, 3) := by decide +kernel
theorem d_X4_requireRoom_19 : decode cX4_requireRoom 19 = .ok (.athrow, 1) := by decide +kernel
theorem d_X4_requireRoom_20 : decode cX4_requireRoom 20 = .ok (.return_, 1) := by decide +kernel
theorem sg_X4_requireRoom_0 {L : Nat} {xs : Nat → Int32} {σ : ks_St} {mc ms : Nat} {P : ka_O → ks_St → Prop}   (hmc : 1 ≤ mc) (hms : 6 ≤ ms) (r2 : ((si_ σ 1) < 600) → P (.inl none) σ) (t3 : (¬ ((si_ σ 1) < 600)) → P (.inr "java/lang/UnsupportedOperationException") σ) : ks_W L xs mX4_requireRoom rm_X4_requireRoom 0 [(0, .ref 0)] [] σ mc ms P := by
  refine ka_aload_n d_X4_requireRoom_0 rfl rfl 0 rfl ?_
  refine gf_X4_3 d_X4_requireRoom_1 rfl fl_X4_17 ?_
  refine ka_sipush (v := 600) d_X4_requireRoom_4 rfl (by decide) ?_
  refine ka_icmp_lt (tgt := 20) d_X4_requireRoom_7 (by decide) rfl (fun c1 => ?_) (fun c1 => ?_)
  · exact ks_vret d_X4_requireRoom_20 rfl (r2 c1)
  · exact ks_throw d_X4_requireRoom_10 d_X4_requireRoom_13 d_X4_requireRoom_14 d_X4_requireRoom_16 d_X4_requireRoom_19 (text := "there are 600 words") (by decide) th_uoe rfl (by decide) (Nat.le_of_ble_eq_true rfl) hmc hms (t3 c1)
theorem d_X4_keepMade_0 : decode cX4_keepMade 0 = .ok (.aload_n 0, 1) := by decide +kernel
theorem d_X4_keepMade_1 : decode cX4_keepMade 1 = .ok (.getfield 17, 3) := by decide +kernel
theorem d_X4_keepMade_4 : decode cX4_keepMade 4 = .ok (.istore_n 2, 1) := by decide +kernel
theorem d_X4_keepMade_5 : decode cX4_keepMade 5 = .ok (.aload_n 0, 1) := by decide +kernel
theorem d_X4_keepMade_6 : decode cX4_keepMade 6 = .ok (.getfield 27, 3) := by decide +kernel
theorem d_X4_keepMade_9 : decode cX4_keepMade 9 = .ok (.iload_n 1, 1) := by decide +kernel
theorem d_X4_keepMade_10 : decode cX4_keepMade 10 = .ok (.invokestatic 191, 3) := by decide +kernel
theorem d_X4_keepMade_13 : decode cX4_keepMade 13 = .ok (.aload_n 0, 1) := by decide +kernel
theorem d_X4_keepMade_14 : decode cX4_keepMade 14 = .ok (.getfield 27, 3) := by decide +kernel
theorem d_X4_keepMade_17 : decode cX4_keepMade 17 = .ok (.iconst 0, 1) := by decide +kernel
theorem d_X4_keepMade_18 : decode cX4_keepMade 18 = .ok (.aload_n 0, 1) := by decide +kernel
theorem d_X4_keepMade_19 : decode cX4_keepMade 19 = .ok (.getfield 13, 3) := by decide +kernel
theorem d_X4_keepMade_22 : decode cX4_keepMade 22 = .ok (.iload_n 2, 1) := by decide +kernel
theorem d_X4_keepMade_23 : decode cX4_keepMade 23 = .ok (.bipush 8, 2) := by decide +kernel
theorem d_X4_keepMade_25 : decode cX4_keepMade 25 = .ok (.imul, 1) := by decide +kernel
theorem d_X4_keepMade_26 : decode cX4_keepMade 26 = .ok (.bipush 8, 2) := by decide +kernel
theorem d_X4_keepMade_28 : decode cX4_keepMade 28 = .ok (.invokestatic 185, 3) := by decide +kernel
theorem d_X4_keepMade_31 : decode cX4_keepMade 31 = .ok (.aload_n 0, 1) := by decide +kernel
theorem d_X4_keepMade_32 : decode cX4_keepMade 32 = .ok (.getfield 9, 3) := by decide +kernel
theorem d_X4_keepMade_35 : decode cX4_keepMade 35 = .ok (.iload_n 2, 1) := by decide +kernel
theorem d_X4_keepMade_36 : decode cX4_keepMade 36 = .ok (.iload_n 1, 1) := by decide +kernel
theorem d_X4_keepMade_37 : decode cX4_keepMade 37 = .ok (.iastore, 1) := by decide +kernel
theorem d_X4_keepMade_38 : decode cX4_keepMade 38 = .ok (.aload_n 0, 1) := by decide +kernel
theorem d_X4_keepMade_39 : decode cX4_keepMade 39 = .ok (.iload_n 2, 1) := by decide +kernel
theorem d_X4_keepMade_40 : decode cX4_keepMade 40 = .ok (.iconst 1, 1) := by decide +kernel
theorem d_X4_keepMade_41 : decode cX4_keepMade 41 = .ok (.iadd, 1) := by decide +kernel
theorem d_X4_keepMade_42 : decode cX4_keepMade 42 = .ok (.putfield 17, 3) := by decide +kernel
theorem d_X4_keepMade_45 : decode cX4_keepMade 45 = .ok (.iload_n 2, 1) := by decide +kernel
theorem d_X4_keepMade_46 : decode cX4_keepMade 46 = .ok (.ireturn, 1) := by decide +kernel
theorem sg_X4_keepMade_0 {L : Nat} {xs : Nat → Int32} {σ : ks_St} {mc ms : Nat} {P : ka_O → ks_St → Prop} {x1 : Int32}  (k1 : ks_W L xs mX4_keepMade rm_X4_keepMade 10 [(0, .ref 0), (1, .int x1), (2, .int (si_ σ 1))] [.int x1, .ref 5] σ mc ms P) : ks_W L xs mX4_keepMade rm_X4_keepMade 0 [(0, .ref 0), (1, .int x1)] [] σ mc ms P := by
  refine ka_aload_n d_X4_keepMade_0 rfl rfl 0 rfl ?_
  refine gf_X4_3 d_X4_keepMade_1 rfl fl_X4_17 ?_
  refine ka_istore_n (ls' := [(2, .int (si_ σ 1)), (0, .ref 0), (1, .int x1)]) d_X4_keepMade_4 rfl rfl (by decide) rfl ?_
  refine ka_aload_n d_X4_keepMade_5 rfl rfl 1 rfl ?_
  refine gf_X4_6 d_X4_keepMade_6 rfl fl_X4_27 ?_
  refine ka_iload_n d_X4_keepMade_9 rfl rfl 2 rfl ?_
  refine ka_sub [1, 2, 0] rfl ?_
  exact k1
theorem cs_X4_keepMade_10 {L : Nat} {xs : Nat → Int32} {σ : ks_St} {mc ms : Nat} {P : ka_O → ks_St → Prop} {f : ks_St → Prop} {x1 : Int32} {x2 : Int32} {s1 : Int32} (hK : ks_M L xs mX3_cut rm_X3_cut [.ref 5, .int s1] σ (pv_ f)) (kr : ∀ σ', f σ' → ks_W L xs mX4_keepMade rm_X4_keepMade 13 [(0, .ref 0), (1, .int x1), (2, .int x2)] [] σ' mc ms P) : ks_W L xs mX4_keepMade rm_X4_keepMade 10 [(0, .ref 0), (1, .int x1), (2, .int x2)] [.int s1, .ref 5] σ mc ms P := by
  refine ks_callS (q := 13) (As := [.ref 5, .int s1]) (st := []) d_X4_keepMade_10 rfl rfl lk_X4_191 ⟨by decide, by decide⟩ (Nat.le_of_ble_eq_true rfl) ⟨Nat.le_refl _, Nat.le_refl _⟩ hK (fun v σ' hq => ?_) (fun E σ' hq => ?_)
  · obtain ⟨e, hf⟩ := hq; cases e; exact kr σ' hf
  · obtain ⟨e, hf⟩ := hq; cases e
theorem sg_X4_keepMade_13 {L : Nat} {xs : Nat → Int32} {σ : ks_St} {mc ms : Nat} {P : ka_O → ks_St → Prop} {x1 : Int32} {x2 : Int32}  (a1 : (¬ (0 : Int32) < 0 ∧ ¬ (x2 * 8) < 0 ∧ ¬ (8 : Int32) < 0 ∧ (0 : Int32).toNatClampNeg + (8 : Int32).toNatClampNeg ≤ 9 ∧ (x2 * 8).toNatClampNeg + (8 : Int32).toNatClampNeg ≤ 4800)) (v2 : vp_in x2 600) (r3 : P (.inl (some (.int x2))) (ui_ (uf_ (ug_ σ 2 (va_cpy (sg_ σ 5) (sg_ σ 2) (0 : Int32).toNatClampNeg (x2 * 8).toNatClampNeg (8 : Int32).toNatClampNeg)) 1 (upd (sf_ (ug_ σ 2 (va_cpy (sg_ σ 5) (sg_ σ 2) (0 : Int32).toNatClampNeg (x2 * 8).toNatClampNeg (8 : Int32).toNatClampNeg)) 1) x2.toNatClampNeg x1)) 1 (x2 + 1))) : ks_W L xs mX4_keepMade rm_X4_keepMade 13 [(0, .ref 0), (1, .int x1), (2, .int x2)] [] σ mc ms P := by
  refine ka_aload_n d_X4_keepMade_13 rfl rfl 0 rfl ?_
  refine gf_X4_6 d_X4_keepMade_14 rfl fl_X4_27 ?_
  refine ka_iconst (v := 0) d_X4_keepMade_17 rfl (by decide) ?_
  refine ka_aload_n d_X4_keepMade_18 rfl rfl 0 rfl ?_
  refine gf_X4_2 d_X4_keepMade_19 rfl fl_X4_13 ?_
  refine ka_iload_n d_X4_keepMade_22 rfl rfl 2 rfl ?_
  refine ka_bipush (v := 8) d_X4_keepMade_23 rfl (by decide) ?_
  refine ka_imul d_X4_keepMade_25 rfl ?_
  refine ka_bipush (v := 8) d_X4_keepMade_26 rfl (by decide) ?_
  refine ks_copyl row_5 row_2 d_X4_keepMade_28 rfl kp_X4_185 a1.1 a1.2.1 a1.2.2.1 a1.2.2.2.1 a1.2.2.2.2 (by decide) (Nat.le_of_ble_eq_true rfl) ?_
  refine ka_aload_n d_X4_keepMade_31 rfl rfl 0 rfl ?_
  refine gf_X4_1 d_X4_keepMade_32 rfl fl_X4_9 ?_
  refine ka_iload_n d_X4_keepMade_35 rfl rfl 2 rfl ?_
  refine ka_iload_n d_X4_keepMade_36 rfl rfl 1 rfl ?_
  refine ks_iast row_1 d_X4_keepMade_37 rfl v2 ?_
  refine ka_aload_n d_X4_keepMade_38 rfl rfl 0 rfl ?_
  refine ka_iload_n d_X4_keepMade_39 rfl rfl 2 rfl ?_
  refine ka_iconst (v := 1) d_X4_keepMade_40 rfl (by decide) ?_
  refine ka_iadd d_X4_keepMade_41 rfl ?_
  refine pf_X4_3 d_X4_keepMade_42 rfl fl_X4_17 ?_
  refine ka_iload_n d_X4_keepMade_45 rfl rfl 2 rfl ?_
  exact ks_iret (ty := .int) d_X4_keepMade_46 rfl rfl r3
theorem d_X4_word_0 : decode cX4_word 0 = .ok (.aload_n 0, 1) := by decide +kernel
theorem d_X4_word_1 : decode cX4_word 1 = .ok (.invokevirtual 53, 3) := by decide +kernel
theorem d_X4_word_4 : decode cX4_word 4 = .ok (.aload_n 0, 1) := by decide +kernel
theorem d_X4_word_5 : decode cX4_word 5 = .ok (.getfield 27, 3) := by decide +kernel
theorem d_X4_word_8 : decode cX4_word 8 = .ok (.invokestatic 56, 3) := by decide +kernel
theorem d_X4_word_11 : decode cX4_word 11 = .ok (.aload_n 0, 1) := by decide +kernel
theorem d_X4_word_12 : decode cX4_word 12 = .ok (.aload_n 0, 1) := by decide +kernel
theorem d_X4_word_13 : decode cX4_word 13 = .ok (.getfield 50, 3) := by decide +kernel
theorem d_X4_word_16 : decode cX4_word 16 = .ok (.invokevirtual 62, 3) := by decide +kernel
theorem d_X4_word_19 : decode cX4_word 19 = .ok (.ireturn, 1) := by decide +kernel
theorem sg_X4_word_0 {L : Nat} {xs : Nat → Int32} {σ : ks_St} {mc ms : Nat} {P : ka_O → ks_St → Prop}   (k1 : ks_W L xs mX4_word rm_X4_word 1 [(0, .ref 0)] [.ref 0] σ mc ms P) : ks_W L xs mX4_word rm_X4_word 0 [(0, .ref 0)] [] σ mc ms P := by
  refine ka_aload_n d_X4_word_0 rfl rfl 0 rfl ?_
  exact k1
theorem cs_X4_word_1 {L : Nat} {xs : Nat → Int32} {σ : ks_St} {mc ms : Nat} {P : ka_O → ks_St → Prop} {f : ks_St → Prop} {g : String → ks_St → Prop}  (hK : ks_M L xs mX4_requireRoom rm_X4_requireRoom [.ref 0] σ (px_ (pv_ f) g)) (kx : ∀ E σ', g E σ' → P (.inr E) σ') (kr : ∀ σ', f σ' → ks_W L xs mX4_word rm_X4_word 4 [(0, .ref 0)] [] σ' mc ms P) : ks_W L xs mX4_word rm_X4_word 1 [(0, .ref 0)] [.ref 0] σ (mc + 1) (ms + 6) P := by
  refine ks_callV (q := 4) (o := 0) (ci := 4) (As := []) (st := []) d_X4_word_1 rfl rfl (by decide) rfl rfl lk_X4_53 ⟨by decide, by decide⟩ (Nat.le_of_ble_eq_true rfl) ⟨Nat.le_refl _, Nat.le_refl _⟩ hK (fun v σ' hq => ?_) (fun E σ' hq => ?_)
  · rcases hq with hq | ⟨E, e, -⟩
    · obtain ⟨e, hf⟩ := hq; cases e; exact kr σ' hf
    · cases e
  · rcases hq with hq | ⟨E', e, hg⟩
    · obtain ⟨e, hf⟩ := hq; cases e
    · cases e; exact ⟨rfl, kx _ σ' hg⟩
theorem sg_X4_word_4 {L : Nat} {xs : Nat → Int32} {σ : ks_St} {mc ms : Nat} {P : ka_O → ks_St → Prop}   (k1 : ks_W L xs mX4_word rm_X4_word 8 [(0, .ref 0)] [.ref 5] σ mc ms P) : ks_W L xs mX4_word rm_X4_word 4 [(0, .ref 0)] [] σ mc ms P := by
  refine ka_aload_n d_X4_word_4 rfl rfl 0 rfl ?_
  refine gf_X4_6 d_X4_word_5 rfl fl_X4_27 ?_
  exact k1
theorem cs_X4_word_8 {L : Nat} {xs : Nat → Int32} {σ : ks_St} {mc ms : Nat} {P : ka_O → ks_St → Prop} {f : ks_St → Prop}  (hK : ks_M L xs mX3_clear rm_X3_clear [.ref 5] σ (pv_ f)) (kr : ∀ σ', f σ' → ks_W L xs mX4_word rm_X4_word 11 [(0, .ref 0)] [] σ' mc ms P) : ks_W L xs mX4_word rm_X4_word 8 [(0, .ref 0)] [.ref 5] σ mc ms P := by
  refine ks_callS (q := 11) (As := [.ref 5]) (st := []) d_X4_word_8 rfl rfl lk_X4_56 ⟨by decide, by decide⟩ (Nat.le_of_ble_eq_true rfl) ⟨Nat.le_refl _, Nat.le_refl _⟩ hK (fun v σ' hq => ?_) (fun E σ' hq => ?_)
  · obtain ⟨e, hf⟩ := hq; cases e; exact kr σ' hf
  · obtain ⟨e, hf⟩ := hq; cases e
theorem sg_X4_word_11 {L : Nat} {xs : Nat → Int32} {σ : ks_St} {mc ms : Nat} {P : ka_O → ks_St → Prop}   (k1 : ks_W L xs mX4_word rm_X4_word 16 [] [.int (si_ σ 0), .ref 0] σ mc ms P) : ks_W L xs mX4_word rm_X4_word 11 [(0, .ref 0)] [] σ mc ms P := by
  refine ka_aload_n d_X4_word_11 rfl rfl 0 rfl ?_
  refine ka_aload_n d_X4_word_12 rfl rfl 0 rfl ?_
  refine gf_X4_0 d_X4_word_13 rfl fl_X4_50 ?_
  refine ka_sub [] rfl ?_
  exact k1
theorem cs_X4_word_16 {L : Nat} {xs : Nat → Int32} {σ : ks_St} {mc ms : Nat} {P : ka_O → ks_St → Prop} {f : Int32 → ks_St → Prop} {s1 : Int32} (hK : ks_M L xs mX4_keepMade rm_X4_keepMade [.ref 0, .int s1] σ (pi_ f)) (kr : ∀ r σ', f r σ' → ks_W L xs mX4_word rm_X4_word 19 [] [.int r] σ' mc ms P) : ks_W L xs mX4_word rm_X4_word 16 [] [.int s1, .ref 0] σ mc ms P := by
  refine ks_callV (q := 19) (o := 0) (ci := 4) (As := [.int s1]) (st := []) d_X4_word_16 rfl rfl (by decide) rfl rfl lk_X4_62 ⟨by decide, by decide⟩ (Nat.le_of_ble_eq_true rfl) ⟨Nat.le_refl _, Nat.le_refl _⟩ hK (fun v σ' hq => ?_) (fun E σ' hq => ?_)
  · obtain ⟨r, e, hf⟩ := hq; cases e; exact kr r σ' hf
  · obtain ⟨r, e, hf⟩ := hq; cases e
theorem sg_X4_word_19 {L : Nat} {xs : Nat → Int32} {σ : ks_St} {mc ms : Nat} {P : ka_O → ks_St → Prop} {s0 : Int32}  (r1 : P (.inl (some (.int s0))) σ) : ks_W L xs mX4_word rm_X4_word 19 [] [.int s0] σ mc ms P := by
  exact ks_iret (ty := .int) d_X4_word_19 rfl rfl r1
theorem d_X4_requireWord_0 : decode cX4_requireWord 0 = .ok (.iload_n 1, 1) := by decide +kernel
theorem d_X4_requireWord_1 : decode cX4_requireWord 1 = .ok (.ifCond .lt 11, 3) := by decide +kernel
theorem d_X4_requireWord_4 : decode cX4_requireWord 4 = .ok (.iload_n 1, 1) := by decide +kernel
theorem d_X4_requireWord_5 : decode cX4_requireWord 5 = .ok (.aload_n 0, 1) := by decide +kernel
theorem d_X4_requireWord_6 : decode cX4_requireWord 6 = .ok (.getfield 17, 3) := by decide +kernel
theorem d_X4_requireWord_9 : decode cX4_requireWord 9 = .ok (.if_icmp .lt 13, 3) := by decide +kernel
theorem d_X4_requireWord_12 : decode cX4_requireWord 12 = .ok (.new 169, 3) := by decide +kernel
theorem d_X4_requireWord_15 : decode cX4_requireWord 15 = .ok (.dup, 1) := by decide +kernel
theorem d_X4_requireWord_16 : decode cX4_requireWord 16 = .ok (.ldc 171, 2) := by decide +kernel
theorem d_X4_requireWord_18 : decode cX4_requireWord 18 = .ok (.invokespecial 173, 3) := by decide +kernel
theorem d_X4_requireWord_21 : decode cX4_requireWord 21 = .ok (.athrow, 1) := by decide +kernel
theorem d_X4_requireWord_22 : decode cX4_requireWord 22 = .ok (.return_, 1) := by decide +kernel
theorem sg_X4_requireWord_0 {L : Nat} {xs : Nat → Int32} {σ : ks_St} {mc ms : Nat} {P : ka_O → ks_St → Prop} {x1 : Int32}  (k2 : (x1 < 0) → ks_W L xs mX4_requireWord rm_X4_requireWord 12 [] [] σ mc ms P) (r4 : (¬ (x1 < 0)) → (x1 < (si_ σ 1)) → P (.inl none) σ) (k5 : (¬ (x1 < 0)) → (¬ (x1 < (si_ σ 1))) → ks_W L xs mX4_requireWord rm_X4_requireWord 12 [] [] σ mc ms P) : ks_W L xs mX4_requireWord rm_X4_requireWord 0 [(0, .ref 0), (1, .int x1)] [] σ mc ms P := by
  refine ka_iload_n d_X4_requireWord_0 rfl rfl 1 rfl ?_
  refine ka_if_lt (tgt := 12) d_X4_requireWord_1 (by decide) rfl (fun c1 => ?_) (fun c1 => ?_)
  · refine ka_sub [] rfl ?_
    exact (k2 c1)
  · refine ka_iload_n d_X4_requireWord_4 rfl rfl 1 rfl ?_
    refine ka_aload_n d_X4_requireWord_5 rfl rfl 0 rfl ?_
    refine gf_X4_3 d_X4_requireWord_6 rfl fl_X4_17 ?_
    refine ka_icmp_lt (tgt := 22) d_X4_requireWord_9 (by decide) rfl (fun c3 => ?_) (fun c3 => ?_)
    · exact ks_vret d_X4_requireWord_22 rfl (r4 c1 c3)
    · refine ka_sub [] rfl ?_
      exact (k5 c1 c3)
theorem sg_X4_requireWord_12 {L : Nat} {xs : Nat → Int32} {σ : ks_St} {mc ms : Nat} {P : ka_O → ks_St → Prop}   (hmc : 1 ≤ mc) (hms : 6 ≤ ms) (t1 : P (.inr "java/lang/ArrayIndexOutOfBoundsException") σ) : ks_W L xs mX4_requireWord rm_X4_requireWord 12 [] [] σ mc ms P := by
  exact ks_throw d_X4_requireWord_12 d_X4_requireWord_15 d_X4_requireWord_16 d_X4_requireWord_18 d_X4_requireWord_21 (text := "there is no such word") (by decide) th_aio rfl (by decide) (Nat.le_of_ble_eq_true rfl) hmc hms t1
theorem d_X4_requireLimb_0 : decode cX4_requireLimb 0 = .ok (.iload_n 2, 1) := by decide +kernel
theorem d_X4_requireLimb_1 : decode cX4_requireLimb 1 = .ok (.ifCond .lt 22, 3) := by decide +kernel
theorem d_X4_requireLimb_4 : decode cX4_requireLimb 4 = .ok (.iload_n 2, 1) := by decide +kernel
theorem d_X4_requireLimb_5 : decode cX4_requireLimb 5 = .ok (.bipush 8, 2) := by decide +kernel
theorem d_X4_requireLimb_7 : decode cX4_requireLimb 7 = .ok (.if_icmp .ge 16, 3) := by decide +kernel
theorem d_X4_requireLimb_10 : decode cX4_requireLimb 10 = .ok (.iload_n 2, 1) := by decide +kernel
theorem d_X4_requireLimb_11 : decode cX4_requireLimb 11 = .ok (.bipush 64, 2) := by decide +kernel
theorem d_X4_requireLimb_13 : decode cX4_requireLimb 13 = .ok (.imul, 1) := by decide +kernel
theorem d_X4_requireLimb_14 : decode cX4_requireLimb 14 = .ok (.aload_n 0, 1) := by decide +kernel
theorem d_X4_requireLimb_15 : decode cX4_requireLimb 15 = .ok (.getfield 9, 3) := by decide +kernel
theorem d_X4_requireLimb_18 : decode cX4_requireLimb 18 = .ok (.iload_n 1, 1) := by decide +kernel
theorem d_X4_requireLimb_19 : decode cX4_requireLimb 19 = .ok (.iaload, 1) := by decide +kernel
theorem d_X4_requireLimb_20 : decode cX4_requireLimb 20 = .ok (.if_icmp .lt 13, 3) := by decide +kernel
theorem d_X4_requireLimb_23 : decode cX4_requireLimb 23 = .ok (.new 169, 3) := by decide +kernel
theorem d_X4_requireLimb_26 : decode cX4_requireLimb 26 = .ok (.dup, 1) := by decide +kernel
theorem d_X4_requireLimb_27 : decode cX4_requireLimb 27 = .ok (.ldc 174, 2) := by decide +kernel
theorem d_X4_requireLimb_29 : decode cX4_requireLimb 29 = .ok (.invokespecial 173, 3) := by decide +kernel
theorem d_X4_requireLimb_32 : decode cX4_requireLimb 32 = .ok (.athrow, 1) := by decide +kernel
theorem d_X4_requireLimb_33 : decode cX4_requireLimb 33 = .ok (.return_, 1) := by decide +kernel
theorem sg_X4_requireLimb_0 {L : Nat} {xs : Nat → Int32} {σ : ks_St} {mc ms : Nat} {P : ka_O → ks_St → Prop} {x1 : Int32} {x2 : Int32}  (k2 : (x2 < 0) → ks_W L xs mX4_requireLimb rm_X4_requireLimb 23 [] [] σ mc ms P) (k4 : (¬ (x2 < 0)) → (8 ≤ x2) → ks_W L xs mX4_requireLimb rm_X4_requireLimb 23 [] [] σ mc ms P) (v5 : (¬ (x2 < 0)) → (¬ (8 ≤ x2)) → vp_in x1 600) (r7 : (¬ (x2 < 0)) → (¬ (8 ≤ x2)) → ((x2 * 64) < (sf_ σ 1 x1.toNatClampNeg)) → P (.inl none) σ) (k8 : (¬ (x2 < 0)) → (¬ (8 ≤ x2)) → (¬ ((x2 * 64) < (sf_ σ 1 x1.toNatClampNeg))) → ks_W L xs mX4_requireLimb rm_X4_requireLimb 23 [] [] σ mc ms P) : ks_W L xs mX4_requireLimb rm_X4_requireLimb 0 [(0, .ref 0), (1, .int x1), (2, .int x2)] [] σ mc ms P := by
  refine ka_iload_n d_X4_requireLimb_0 rfl rfl 2 rfl ?_
  refine ka_if_lt (tgt := 23) d_X4_requireLimb_1 (by decide) rfl (fun c1 => ?_) (fun c1 => ?_)
  · refine ka_sub [] rfl ?_
    exact (k2 c1)
  · refine ka_iload_n d_X4_requireLimb_4 rfl rfl 2 rfl ?_
    refine ka_bipush (v := 8) d_X4_requireLimb_5 rfl (by decide) ?_
    refine ka_icmp_ge (tgt := 23) d_X4_requireLimb_7 (by decide) rfl (fun c3 => ?_) (fun c3 => ?_)
    · refine ka_sub [] rfl ?_
      exact (k4 c1 c3)
    · refine ka_iload_n d_X4_requireLimb_10 rfl rfl 2 rfl ?_
      refine ka_bipush (v := 64) d_X4_requireLimb_11 rfl (by decide) ?_
      refine ka_imul d_X4_requireLimb_13 rfl ?_
      refine ka_aload_n d_X4_requireLimb_14 rfl rfl 0 rfl ?_
      refine gf_X4_1 d_X4_requireLimb_15 rfl fl_X4_9 ?_
      refine ka_iload_n d_X4_requireLimb_18 rfl rfl 1 rfl ?_
      refine ks_iald row_1 d_X4_requireLimb_19 rfl (v5 c1 c3) ?_
      refine ka_icmp_lt (tgt := 33) d_X4_requireLimb_20 (by decide) rfl (fun c6 => ?_) (fun c6 => ?_)
      · exact ks_vret d_X4_requireLimb_33 rfl (r7 c1 c3 c6)
      · refine ka_sub [] rfl ?_
        exact (k8 c1 c3 c6)
theorem sg_X4_requireLimb_23 {L : Nat} {xs : Nat → Int32} {σ : ks_St} {mc ms : Nat} {P : ka_O → ks_St → Prop}   (hmc : 1 ≤ mc) (hms : 6 ≤ ms) (t1 : P (.inr "java/lang/ArrayIndexOutOfBoundsException") σ) : ks_W L xs mX4_requireLimb rm_X4_requireLimb 23 [] [] σ mc ms P := by
  exact ks_throw d_X4_requireLimb_23 d_X4_requireLimb_26 d_X4_requireLimb_27 d_X4_requireLimb_29 d_X4_requireLimb_32 (text := "there is no such limb") (by decide) th_aio rfl (by decide) (Nat.le_of_ble_eq_true rfl) hmc hms t1
theorem d_X4_set_0 : decode cX4_set 0 = .ok (.aload_n 0, 1) := by decide +kernel
theorem d_X4_set_1 : decode cX4_set 1 = .ok (.iload_n 1, 1) := by decide +kernel
theorem d_X4_set_2 : decode cX4_set 2 = .ok (.invokevirtual 66, 3) := by decide +kernel
theorem d_X4_set_5 : decode cX4_set 5 = .ok (.aload_n 0, 1) := by decide +kernel
theorem d_X4_set_6 : decode cX4_set 6 = .ok (.iload_n 1, 1) := by decide +kernel
theorem d_X4_set_7 : decode cX4_set 7 = .ok (.iload_n 2, 1) := by decide +kernel
theorem d_X4_set_8 : decode cX4_set 8 = .ok (.invokevirtual 70, 3) := by decide +kernel
theorem d_X4_set_11 : decode cX4_set 11 = .ok (.lload_n 3, 1) := by decide +kernel
theorem d_X4_set_12 : decode cX4_set 12 = .ok (.aload_n 0, 1) := by decide +kernel
theorem d_X4_set_13 : decode cX4_set 13 = .ok (.getfield 9, 3) := by decide +kernel
theorem d_X4_set_16 : decode cX4_set 16 = .ok (.iload_n 1, 1) := by decide +kernel
theorem d_X4_set_17 : decode cX4_set 17 = .ok (.iaload, 1) := by decide +kernel
theorem d_X4_set_18 : decode cX4_set 18 = .ok (.iload_n 2, 1) := by decide +kernel
theorem d_X4_set_19 : decode cX4_set 19 = .ok (.invokestatic 74, 3) := by decide +kernel
theorem d_X4_set_22 : decode cX4_set 22 = .ok (.land, 1) := by decide +kernel
theorem d_X4_set_23 : decode cX4_set 23 = .ok (.lstore 5, 2) := by decide +kernel
theorem d_X4_set_25 : decode cX4_set 25 = .ok (.aload_n 0, 1) := by decide +kernel
theorem d_X4_set_26 : decode cX4_set 26 = .ok (.getfield 13, 3) := by decide +kernel
theorem d_X4_set_29 : decode cX4_set 29 = .ok (.iload_n 1, 1) := by decide +kernel
theorem d_X4_set_30 : decode cX4_set 30 = .ok (.bipush 8, 2) := by decide +kernel
theorem d_X4_set_32 : decode cX4_set 32 = .ok (.imul, 1) := by decide +kernel
theorem d_X4_set_33 : decode cX4_set 33 = .ok (.iload_n 2, 1) := by decide +kernel
theorem d_X4_set_34 : decode cX4_set 34 = .ok (.iadd, 1) := by decide +kernel
theorem d_X4_set_35 : decode cX4_set 35 = .ok (.lload 5, 2) := by decide +kernel
theorem d_X4_set_37 : decode cX4_set 37 = .ok (.lastore, 1) := by decide +kernel
theorem d_X4_set_38 : decode cX4_set 38 = .ok (.lload 5, 2) := by decide +kernel
theorem d_X4_set_40 : decode cX4_set 40 = .ok (.lload_n 3, 1) := by decide +kernel
theorem d_X4_set_41 : decode cX4_set 41 = .ok (.lcmp, 1) := by decide +kernel
theorem d_X4_set_42 : decode cX4_set 42 = .ok (.ifCond .eq 7, 3) := by decide +kernel
theorem d_X4_set_45 : decode cX4_set 45 = .ok (.iconst 1, 1) := by decide +kernel
theorem d_X4_set_46 : decode cX4_set 46 = .ok (.goto 4, 3) := by decide +kernel
theorem d_X4_set_49 : decode cX4_set 49 = .ok (.iconst 0, 1) := by decide +kernel
theorem d_X4_set_50 : decode cX4_set 50 = .ok (.ireturn, 1) := by decide +kernel
theorem sg_X4_set_0 {L : Nat} {xs : Nat → Int32} {σ : ks_St} {mc ms : Nat} {P : ka_O → ks_St → Prop} {x1 : Int32} {x2 : Int32} {x3 : Int64}  (k1 : ks_W L xs mX4_set rm_X4_set 2 [(0, .ref 0), (1, .int x1), (2, .int x2), (3, .long x3)] [.int x1, .ref 0] σ mc ms P) : ks_W L xs mX4_set rm_X4_set 0 [(0, .ref 0), (1, .int x1), (2, .int x2), (3, .long x3)] [] σ mc ms P := by
  refine ka_aload_n d_X4_set_0 rfl rfl 0 rfl ?_
  refine ka_iload_n d_X4_set_1 rfl rfl 1 rfl ?_
  exact k1
theorem cs_X4_set_2 {L : Nat} {xs : Nat → Int32} {σ : ks_St} {mc ms : Nat} {P : ka_O → ks_St → Prop} {f : ks_St → Prop} {g : String → ks_St → Prop} {x1 : Int32} {x2 : Int32} {x3 : Int64} {s1 : Int32} (hK : ks_M L xs mX4_requireWord rm_X4_requireWord [.ref 0, .int s1] σ (px_ (pv_ f) g)) (kx : ∀ E σ', g E σ' → P (.inr E) σ') (kr : ∀ σ', f σ' → ks_W L xs mX4_set rm_X4_set 5 [(0, .ref 0), (1, .int x1), (2, .int x2), (3, .long x3)] [] σ' mc ms P) : ks_W L xs mX4_set rm_X4_set 2 [(0, .ref 0), (1, .int x1), (2, .int x2), (3, .long x3)] [.int s1, .ref 0] σ (mc + 1) (ms + 6) P := by
  refine ks_callV (q := 5) (o := 0) (ci := 4) (As := [.int s1]) (st := []) d_X4_set_2 rfl rfl (by decide) rfl rfl lk_X4_66 ⟨by decide, by decide⟩ (Nat.le_of_ble_eq_true rfl) ⟨Nat.le_refl _, Nat.le_refl _⟩ hK (fun v σ' hq => ?_) (fun E σ' hq => ?_)
  · rcases hq with hq | ⟨E, e, -⟩
    · obtain ⟨e, hf⟩ := hq; cases e; exact kr σ' hf
    · cases e
  · rcases hq with hq | ⟨E', e, hg⟩
    · obtain ⟨e, hf⟩ := hq; cases e
    · cases e; exact ⟨rfl, kx _ σ' hg⟩
theorem sg_X4_set_5 {L : Nat} {xs : Nat → Int32} {σ : ks_St} {mc ms : Nat} {P : ka_O → ks_St → Prop} {x1 : Int32} {x2 : Int32} {x3 : Int64}  (k1 : ks_W L xs mX4_set rm_X4_set 8 [(0, .ref 0), (1, .int x1), (2, .int x2), (3, .long x3)] [.int x2, .int x1, .ref 0] σ mc ms P) : ks_W L xs mX4_set rm_X4_set 5 [(0, .ref 0), (1, .int x1), (2, .int x2), (3, .long x3)] [] σ mc ms P := by
  refine ka_aload_n d_X4_set_5 rfl rfl 0 rfl ?_
  refine ka_iload_n d_X4_set_6 rfl rfl 1 rfl ?_
  refine ka_iload_n d_X4_set_7 rfl rfl 2 rfl ?_
  exact k1
theorem cs_X4_set_8 {L : Nat} {xs : Nat → Int32} {σ : ks_St} {mc ms : Nat} {P : ka_O → ks_St → Prop} {f : ks_St → Prop} {g : String → ks_St → Prop} {x1 : Int32} {x2 : Int32} {x3 : Int64} {s1 : Int32} {s2 : Int32} (hK : ks_M L xs mX4_requireLimb rm_X4_requireLimb [.ref 0, .int s1, .int s2] σ (px_ (pv_ f) g)) (kx : ∀ E σ', g E σ' → P (.inr E) σ') (kr : ∀ σ', f σ' → ks_W L xs mX4_set rm_X4_set 11 [(0, .ref 0), (1, .int x1), (2, .int x2), (3, .long x3)] [] σ' mc ms P) : ks_W L xs mX4_set rm_X4_set 8 [(0, .ref 0), (1, .int x1), (2, .int x2), (3, .long x3)] [.int s2, .int s1, .ref 0] σ (mc + 1) (ms + 6) P := by
  refine ks_callV (q := 11) (o := 0) (ci := 4) (As := [.int s1, .int s2]) (st := []) d_X4_set_8 rfl rfl (by decide) rfl rfl lk_X4_70 ⟨by decide, by decide⟩ (Nat.le_of_ble_eq_true rfl) ⟨Nat.le_refl _, Nat.le_refl _⟩ hK (fun v σ' hq => ?_) (fun E σ' hq => ?_)
  · rcases hq with hq | ⟨E, e, -⟩
    · obtain ⟨e, hf⟩ := hq; cases e; exact kr σ' hf
    · cases e
  · rcases hq with hq | ⟨E', e, hg⟩
    · obtain ⟨e, hf⟩ := hq; cases e
    · cases e; exact ⟨rfl, kx _ σ' hg⟩
theorem sg_X4_set_11 {L : Nat} {xs : Nat → Int32} {σ : ks_St} {mc ms : Nat} {P : ka_O → ks_St → Prop} {x1 : Int32} {x2 : Int32} {x3 : Int64}  (v1 : vp_in x1 600) (k2 : ks_W L xs mX4_set rm_X4_set 19 [(0, .ref 0), (1, .int x1), (2, .int x2), (3, .long x3)] [.int x2, .int (sf_ σ 1 x1.toNatClampNeg), .long x3] σ mc ms P) : ks_W L xs mX4_set rm_X4_set 11 [(0, .ref 0), (1, .int x1), (2, .int x2), (3, .long x3)] [] σ mc ms P := by
  refine ka_lload_n d_X4_set_11 rfl rfl 3 rfl ?_
  refine ka_aload_n d_X4_set_12 rfl rfl 0 rfl ?_
  refine gf_X4_1 d_X4_set_13 rfl fl_X4_9 ?_
  refine ka_iload_n d_X4_set_16 rfl rfl 1 rfl ?_
  refine ks_iald row_1 d_X4_set_17 rfl v1 ?_
  refine ka_iload_n d_X4_set_18 rfl rfl 2 rfl ?_
  exact k2
theorem cs_X4_set_19 {L : Nat} {xs : Nat → Int32} {σ : ks_St} {mc ms : Nat} {P : ka_O → ks_St → Prop} {f : Int64 → ks_St → Prop} {x1 : Int32} {x2 : Int32} {x3 : Int64} {s0 : Int64} {s1 : Int32} {s2 : Int32} (hK : ks_M L xs mX3_maskOf rm_X3_maskOf [.int s1, .int s2] σ (pl_ f)) (kr : ∀ r σ', f r σ' → ks_W L xs mX4_set rm_X4_set 22 [(0, .ref 0), (1, .int x1), (2, .int x2), (3, .long x3)] [.long r, .long s0] σ' mc ms P) : ks_W L xs mX4_set rm_X4_set 19 [(0, .ref 0), (1, .int x1), (2, .int x2), (3, .long x3)] [.int s2, .int s1, .long s0] σ mc ms P := by
  refine ks_callS (q := 22) (As := [.int s1, .int s2]) (st := [.long s0]) d_X4_set_19 rfl rfl lk_X4_74 ⟨by decide, by decide⟩ (Nat.le_of_ble_eq_true rfl) ⟨Nat.le_refl _, Nat.le_refl _⟩ hK (fun v σ' hq => ?_) (fun E σ' hq => ?_)
  · obtain ⟨r, e, hf⟩ := hq; cases e; exact kr r σ' hf
  · obtain ⟨r, e, hf⟩ := hq; cases e
theorem sg_X4_set_22 {L : Nat} {xs : Nat → Int32} {σ : ks_St} {mc ms : Nat} {P : ka_O → ks_St → Prop} {x1 : Int32} {x2 : Int32} {x3 : Int64} {s0 : Int64} {s1 : Int64}  (v1 : vp_in ((x1 * 8) + x2) 4800) (k3 : ((lg_cmp (s0 &&& s1) x3) = 0) → ks_W L xs mX4_set rm_X4_set 50 [] [.int 0] (ug_ σ 2 (vp_updL (sg_ σ 2) ((x1 * 8) + x2).toNatClampNeg (s0 &&& s1))) mc ms P) (k4 : (¬ ((lg_cmp (s0 &&& s1) x3) = 0)) → ks_W L xs mX4_set rm_X4_set 50 [] [.int 1] (ug_ σ 2 (vp_updL (sg_ σ 2) ((x1 * 8) + x2).toNatClampNeg (s0 &&& s1))) mc ms P) : ks_W L xs mX4_set rm_X4_set 22 [(0, .ref 0), (1, .int x1), (2, .int x2), (3, .long x3)] [.long s1, .long s0] σ mc ms P := by
  refine ka_land d_X4_set_22 rfl ?_
  refine ka_lstore (ls' := [(5, .long (s0 &&& s1)), (0, .ref 0), (1, .int x1), (2, .int x2), (3, .long x3)]) d_X4_set_23 rfl (by decide) rfl ?_
  refine ka_aload_n d_X4_set_25 rfl rfl 1 rfl ?_
  refine gf_X4_2 d_X4_set_26 rfl fl_X4_13 ?_
  refine ka_iload_n d_X4_set_29 rfl rfl 2 rfl ?_
  refine ka_bipush (v := 8) d_X4_set_30 rfl (by decide) ?_
  refine ka_imul d_X4_set_32 rfl ?_
  refine ka_iload_n d_X4_set_33 rfl rfl 3 rfl ?_
  refine ka_iadd d_X4_set_34 rfl ?_
  refine ka_lload d_X4_set_35 rfl 0 rfl ?_
  refine ks_last row_2 d_X4_set_37 rfl v1 ?_
  refine ka_lload d_X4_set_38 rfl 0 rfl ?_
  refine ka_lload_n d_X4_set_40 rfl rfl 4 rfl ?_
  refine ka_lcmp d_X4_set_41 rfl ?_
  refine ka_if_eq (tgt := 49) d_X4_set_42 (by decide) rfl (fun c2 => ?_) (fun c2 => ?_)
  · refine ka_iconst (v := 0) d_X4_set_49 rfl (by decide) ?_
    refine ka_sub [] rfl ?_
    exact (k3 c2)
  · refine ka_iconst (v := 1) d_X4_set_45 rfl (by decide) ?_
    refine ka_goto (q := 50) d_X4_set_46 (by decide) ?_
    refine ka_sub [] rfl ?_
    exact (k4 c2)
theorem sg_X4_set_50 {L : Nat} {xs : Nat → Int32} {σ : ks_St} {mc ms : Nat} {P : ka_O → ks_St → Prop} {s0 : Int32}  (b1 : narrow .boolean (.int s0) = .int s0) (r2 : P (.inl (some (.int s0))) σ) : ks_W L xs mX4_set rm_X4_set 50 [] [.int s0] σ mc ms P := by
  exact ks_iret (ty := .boolean) d_X4_set_50 rfl b1 r2
theorem d_X4_requireKind_0 : decode cX4_requireKind 0 = .ok (.iload_n 1, 1) := by decide +kernel
theorem d_X4_requireKind_1 : decode cX4_requireKind 1 = .ok (.ifCond .lt 8, 3) := by decide +kernel
theorem d_X4_requireKind_4 : decode cX4_requireKind 4 = .ok (.iload_n 1, 1) := by decide +kernel
theorem d_X4_requireKind_5 : decode cX4_requireKind 5 = .ok (.iload_n 2, 1) := by decide +kernel
theorem d_X4_requireKind_6 : decode cX4_requireKind 6 = .ok (.if_icmp .le 13, 3) := by decide +kernel
theorem d_X4_requireKind_9 : decode cX4_requireKind 9 = .ok (.new 84, 3) := by decide +kernel
theorem d_X4_requireKind_12 : decode cX4_requireKind 12 = .ok (.dup, 1) := by decide +kernel
theorem d_X4_requireKind_13 : decode cX4_requireKind 13 = .ok (.ldc 176, 2) := by decide +kernel
theorem d_X4_requireKind_15 : decode cX4_requireKind 15 = .ok (.invokespecial 88, 3) := by decide +kernel
theorem d_X4_requireKind_18 : decode cX4_requireKind 18 = .ok (.athrow, 1) := by decide +kernel
theorem d_X4_requireKind_19 : decode cX4_requireKind 19 = .ok (.return_, 1) := by decide +kernel
theorem sg_X4_requireKind_0 {L : Nat} {xs : Nat → Int32} {σ : ks_St} {mc ms : Nat} {P : ka_O → ks_St → Prop} {x1 : Int32} {x2 : Int32}  (k2 : (x1 < 0) → ks_W L xs mX4_requireKind rm_X4_requireKind 9 [] [] σ mc ms P) (r4 : (¬ (x1 < 0)) → (x1 ≤ x2) → P (.inl none) σ) (k5 : (¬ (x1 < 0)) → (¬ (x1 ≤ x2)) → ks_W L xs mX4_requireKind rm_X4_requireKind 9 [] [] σ mc ms P) : ks_W L xs mX4_requireKind rm_X4_requireKind 0 [(1, .int x1), (2, .int x2)] [] σ mc ms P := by
  refine ka_iload_n d_X4_requireKind_0 rfl rfl 0 rfl ?_
  refine ka_if_lt (tgt := 9) d_X4_requireKind_1 (by decide) rfl (fun c1 => ?_) (fun c1 => ?_)
  · refine ka_sub [] rfl ?_
    exact (k2 c1)
  · refine ka_iload_n d_X4_requireKind_4 rfl rfl 0 rfl ?_
    refine ka_iload_n d_X4_requireKind_5 rfl rfl 1 rfl ?_
    refine ka_icmp_le (tgt := 19) d_X4_requireKind_6 (by decide) rfl (fun c3 => ?_) (fun c3 => ?_)
    · exact ks_vret d_X4_requireKind_19 rfl (r4 c1 c3)
    · refine ka_sub [] rfl ?_
      exact (k5 c1 c3)
theorem sg_X4_requireKind_9 {L : Nat} {xs : Nat → Int32} {σ : ks_St} {mc ms : Nat} {P : ka_O → ks_St → Prop}   (hmc : 1 ≤ mc) (hms : 6 ≤ ms) (t1 : P (.inr "java/lang/IllegalArgumentException") σ) : ks_W L xs mX4_requireKind rm_X4_requireKind 9 [] [] σ mc ms P := by
  exact ks_throw d_X4_requireKind_9 d_X4_requireKind_12 d_X4_requireKind_13 d_X4_requireKind_15 d_X4_requireKind_18 (text := "there is no such kind or way") (by decide) th_iae rfl (by decide) (Nat.le_of_ble_eq_true rfl) hmc hms t1
theorem d_X4_requireOneWidth_0 : decode cX4_requireOneWidth 0 = .ok (.aload_n 0, 1) := by decide +kernel
theorem d_X4_requireOneWidth_1 : decode cX4_requireOneWidth 1 = .ok (.getfield 9, 3) := by decide +kernel
theorem d_X4_requireOneWidth_4 : decode cX4_requireOneWidth 4 = .ok (.iload_n 1, 1) := by decide +kernel
theorem d_X4_requireOneWidth_5 : decode cX4_requireOneWidth 5 = .ok (.iaload, 1) := by decide +kernel
theorem d_X4_requireOneWidth_6 : decode cX4_requireOneWidth 6 = .ok (.aload_n 0, 1) := by decide +kernel
theorem d_X4_requireOneWidth_7 : decode cX4_requireOneWidth 7 = .ok (.getfield 9, 3) := by decide +kernel
theorem d_X4_requireOneWidth_10 : decode cX4_requireOneWidth 10 = .ok (.iload_n 2, 1) := by decide +kernel
theorem d_X4_requireOneWidth_11 : decode cX4_requireOneWidth 11 = .ok (.iaload, 1) := by decide +kernel
theorem d_X4_requireOneWidth_12 : decode cX4_requireOneWidth 12 = .ok (.if_icmp .eq 13, 3) := by decide +kernel
theorem d_X4_requireOneWidth_15 : decode cX4_requireOneWidth 15 = .ok (.new 84, 3) := by decide +kernel
theorem d_X4_requireOneWidth_18 : decode cX4_requireOneWidth 18 = .ok (.dup, 1) := by decide +kernel
theorem d_X4_requireOneWidth_19 : decode cX4_requireOneWidth 19 = .ok (.ldc 178, 2) := by decide +kernel
theorem d_X4_requireOneWidth_21 : decode cX4_requireOneWidth 21 = .ok (.invokespecial 88, 3) := by decide +kernel
theorem d_X4_requireOneWidth_24 : decode cX4_requireOneWidth 24 = .ok (.athrow, 1) := by decide +kernel
theorem d_X4_requireOneWidth_25 : decode cX4_requireOneWidth 25 = .ok (.return_, 1) := by decide +kernel
theorem sg_X4_requireOneWidth_0 {L : Nat} {xs : Nat → Int32} {σ : ks_St} {mc ms : Nat} {P : ka_O → ks_St → Prop} {x1 : Int32} {x2 : Int32}  (hmc : 1 ≤ mc) (hms : 6 ≤ ms) (v1 : vp_in x1 600) (v2 : vp_in x2 600) (r4 : ((sf_ σ 1 x1.toNatClampNeg) = (sf_ σ 1 x2.toNatClampNeg)) → P (.inl none) σ) (t5 : (¬ ((sf_ σ 1 x1.toNatClampNeg) = (sf_ σ 1 x2.toNatClampNeg))) → P (.inr "java/lang/IllegalArgumentException") σ) : ks_W L xs mX4_requireOneWidth rm_X4_requireOneWidth 0 [(0, .ref 0), (1, .int x1), (2, .int x2)] [] σ mc ms P := by
  refine ka_aload_n d_X4_requireOneWidth_0 rfl rfl 0 rfl ?_
  refine gf_X4_1 d_X4_requireOneWidth_1 rfl fl_X4_9 ?_
  refine ka_iload_n d_X4_requireOneWidth_4 rfl rfl 1 rfl ?_
  refine ks_iald row_1 d_X4_requireOneWidth_5 rfl v1 ?_
  refine ka_aload_n d_X4_requireOneWidth_6 rfl rfl 0 rfl ?_
  refine gf_X4_1 d_X4_requireOneWidth_7 rfl fl_X4_9 ?_
  refine ka_iload_n d_X4_requireOneWidth_10 rfl rfl 2 rfl ?_
  refine ks_iald row_1 d_X4_requireOneWidth_11 rfl v2 ?_
  refine ka_icmp_eq (tgt := 25) d_X4_requireOneWidth_12 (by decide) rfl (fun c3 => ?_) (fun c3 => ?_)
  · exact ks_vret d_X4_requireOneWidth_25 rfl (r4 c3)
  · exact ks_throw d_X4_requireOneWidth_15 d_X4_requireOneWidth_18 d_X4_requireOneWidth_19 d_X4_requireOneWidth_21 d_X4_requireOneWidth_24 (text := "the words have not one width") (by decide) th_iae rfl (by decide) (Nat.le_of_ble_eq_true rfl) hmc hms (t5 c3)
theorem d_X4_load_0 : decode cX4_load 0 = .ok (.aload_n 0, 1) := by decide +kernel
theorem d_X4_load_1 : decode cX4_load 1 = .ok (.getfield 13, 3) := by decide +kernel
theorem d_X4_load_4 : decode cX4_load 4 = .ok (.iload_n 1, 1) := by decide +kernel
theorem d_X4_load_5 : decode cX4_load 5 = .ok (.bipush 8, 2) := by decide +kernel
theorem d_X4_load_7 : decode cX4_load 7 = .ok (.imul, 1) := by decide +kernel
theorem d_X4_load_8 : decode cX4_load 8 = .ok (.aload_n 2, 1) := by decide +kernel
theorem d_X4_load_9 : decode cX4_load 9 = .ok (.iconst 0, 1) := by decide +kernel
theorem d_X4_load_10 : decode cX4_load 10 = .ok (.bipush 8, 2) := by decide +kernel
theorem d_X4_load_12 : decode cX4_load 12 = .ok (.invokestatic 185, 3) := by decide +kernel
theorem d_X4_load_15 : decode cX4_load 15 = .ok (.aload_n 2, 1) := by decide +kernel
theorem d_X4_load_16 : decode cX4_load 16 = .ok (.bipush 8, 2) := by decide +kernel
theorem d_X4_load_18 : decode cX4_load 18 = .ok (.lconst 0, 1) := by decide +kernel
theorem d_X4_load_19 : decode cX4_load 19 = .ok (.lastore, 1) := by decide +kernel
theorem d_X4_load_20 : decode cX4_load 20 = .ok (.return_, 1) := by decide +kernel
theorem sg_X4_load_0 {L : Nat} {xs : Nat → Int32} {σ : ks_St} {mc ms : Nat} {P : ka_O → ks_St → Prop} {x1 : Int32} {a2 na2 : Nat} (ha2 : rl_ a2 na2) (a1 : (¬ (x1 * 8) < 0 ∧ ¬ (0 : Int32) < 0 ∧ ¬ (8 : Int32) < 0 ∧ (x1 * 8).toNatClampNeg + (8 : Int32).toNatClampNeg ≤ 4800 ∧ (0 : Int32).toNatClampNeg + (8 : Int32).toNatClampNeg ≤ na2)) (v2 : vp_in 8 na2) (r3 : P (.inl none) (ug_ (ug_ σ a2 (va_cpy (sg_ σ 2) (sg_ σ a2) (x1 * 8).toNatClampNeg (0 : Int32).toNatClampNeg (8 : Int32).toNatClampNeg)) a2 (vp_updL (sg_ (ug_ σ a2 (va_cpy (sg_ σ 2) (sg_ σ a2) (x1 * 8).toNatClampNeg (0 : Int32).toNatClampNeg (8 : Int32).toNatClampNeg)) a2) (8 : Int32).toNatClampNeg 0))) : ks_W L xs mX4_load rm_X4_load 0 [(0, .ref 0), (1, .int x1), (2, .ref a2)] [] σ mc ms P := by
  refine ka_aload_n d_X4_load_0 rfl rfl 0 rfl ?_
  refine gf_X4_2 d_X4_load_1 rfl fl_X4_13 ?_
  refine ka_iload_n d_X4_load_4 rfl rfl 1 rfl ?_
  refine ka_bipush (v := 8) d_X4_load_5 rfl (by decide) ?_
  refine ka_imul d_X4_load_7 rfl ?_
  refine ka_aload_n d_X4_load_8 rfl rfl 2 rfl ?_
  refine ka_iconst (v := 0) d_X4_load_9 rfl (by decide) ?_
  refine ka_bipush (v := 8) d_X4_load_10 rfl (by decide) ?_
  refine ks_copyl row_2 ha2 d_X4_load_12 rfl kp_X4_185 a1.1 a1.2.1 a1.2.2.1 a1.2.2.2.1 a1.2.2.2.2 (by decide) (Nat.le_of_ble_eq_true rfl) ?_
  refine ka_aload_n d_X4_load_15 rfl rfl 2 rfl ?_
  refine ka_bipush (v := 8) d_X4_load_16 rfl (by decide) ?_
  refine ka_lconst (v := 0) d_X4_load_18 rfl (by decide) ?_
  refine ks_last ha2 d_X4_load_19 rfl v2 ?_
  exact ks_vret d_X4_load_20 rfl r3
theorem d_X4_op_0 : decode cX4_op 0 = .ok (.iload_n 1, 1) := by decide +kernel
theorem d_X4_op_1 : decode cX4_op 1 = .ok (.bipush 16, 2) := by decide +kernel
theorem d_X4_op_3 : decode cX4_op 3 = .ok (.if_icmp .lt 13, 3) := by decide +kernel
theorem d_X4_op_6 : decode cX4_op 6 = .ok (.iload_n 1, 1) := by decide +kernel
theorem d_X4_op_7 : decode cX4_op 7 = .ok (.bipush 18, 2) := by decide +kernel
theorem d_X4_op_9 : decode cX4_op 9 = .ok (.if_icmp .gt 7, 3) := by decide +kernel
theorem d_X4_op_12 : decode cX4_op 12 = .ok (.iconst 1, 1) := by decide +kernel
theorem d_X4_op_13 : decode cX4_op 13 = .ok (.goto 4, 3) := by decide +kernel
theorem d_X4_op_16 : decode cX4_op 16 = .ok (.iconst 0, 1) := by decide +kernel
theorem d_X4_op_17 : decode cX4_op 17 = .ok (.istore 4, 2) := by decide +kernel
theorem d_X4_op_19 : decode cX4_op 19 = .ok (.aload_n 0, 1) := by decide +kernel
theorem d_X4_op_20 : decode cX4_op 20 = .ok (.iload_n 2, 1) := by decide +kernel
theorem d_X4_op_21 : decode cX4_op 21 = .ok (.invokevirtual 66, 3) := by decide +kernel
theorem d_X4_op_24 : decode cX4_op 24 = .ok (.iload 4, 2) := by decide +kernel
theorem d_X4_op_26 : decode cX4_op 26 = .ok (.ifCond .ne 8, 3) := by decide +kernel
theorem d_X4_op_29 : decode cX4_op 29 = .ok (.aload_n 0, 1) := by decide +kernel
theorem d_X4_op_30 : decode cX4_op 30 = .ok (.iload_n 3, 1) := by decide +kernel
theorem d_X4_op_31 : decode cX4_op 31 = .ok (.invokevirtual 66, 3) := by decide +kernel
theorem d_X4_op_34 : decode cX4_op 34 = .ok (.aload_n 0, 1) := by decide +kernel
theorem d_X4_op_35 : decode cX4_op 35 = .ok (.iload_n 1, 1) := by decide +kernel
theorem d_X4_op_36 : decode cX4_op 36 = .ok (.bipush 18, 2) := by decide +kernel
theorem d_X4_op_38 : decode cX4_op 38 = .ok (.invokevirtual 78, 3) := by decide +kernel
theorem d_X4_op_41 : decode cX4_op 41 = .ok (.iload 4, 2) := by decide +kernel
theorem d_X4_op_43 : decode cX4_op 43 = .ok (.ifCond .ne 9, 3) := by decide +kernel
theorem d_X4_op_46 : decode cX4_op 46 = .ok (.aload_n 0, 1) := by decide +kernel
theorem d_X4_op_47 : decode cX4_op 47 = .ok (.iload_n 2, 1) := by decide +kernel
theorem d_X4_op_48 : decode cX4_op 48 = .ok (.iload_n 3, 1) := by decide +kernel
theorem d_X4_op_49 : decode cX4_op 49 = .ok (.invokevirtual 81, 3) := by decide +kernel
theorem d_X4_op_52 : decode cX4_op 52 = .ok (.iload_n 1, 1) := by decide +kernel
theorem d_X4_op_53 : decode cX4_op 53 = .ok (.bipush 18, 2) := by decide +kernel
theorem d_X4_op_55 : decode cX4_op 55 = .ok (.if_icmp .ne 25, 3) := by decide +kernel
theorem d_X4_op_58 : decode cX4_op 58 = .ok (.aload_n 0, 1) := by decide +kernel
theorem d_X4_op_59 : decode cX4_op 59 = .ok (.getfield 9, 3) := by decide +kernel
theorem d_X4_op_62 : decode cX4_op 62 = .ok (.iload_n 2, 1) := by decide +kernel
theorem d_X4_op_63 : decode cX4_op 63 = .ok (.iaload, 1) := by decide +kernel
theorem d_X4_op_64 : decode cX4_op 64 = .ok (.bipush 7, 2) := by decide +kernel
theorem d_X4_op_66 : decode cX4_op 66 = .ok (.iand, 1) := by decide +kernel
theorem d_X4_op_67 : decode cX4_op 67 = .ok (.ifCond .eq 13, 3) := by decide +kernel
theorem d_X4_op_70 : decode cX4_op 70 = .ok (.new 84, 3) := by decide +kernel
theorem d_X4_op_73 : decode cX4_op 73 = .ok (.dup, 1) := by decide +kernel
theorem d_X4_op_74 : decode cX4_op 74 = .ok (.ldc 86, 2) := by decide +kernel
theorem d_X4_op_76 : decode cX4_op 76 = .ok (.invokespecial 88, 3) := by decide +kernel
theorem d_X4_op_79 : decode cX4_op 79 = .ok (.athrow, 1) := by decide +kernel
theorem d_X4_op_80 : decode cX4_op 80 = .ok (.aload_n 0, 1) := by decide +kernel
theorem d_X4_op_81 : decode cX4_op 81 = .ok (.iload_n 2, 1) := by decide +kernel
theorem d_X4_op_82 : decode cX4_op 82 = .ok (.aload_n 0, 1) := by decide +kernel
theorem d_X4_op_83 : decode cX4_op 83 = .ok (.getfield 21, 3) := by decide +kernel
theorem d_X4_op_86 : decode cX4_op 86 = .ok (.invokevirtual 91, 3) := by decide +kernel
theorem d_X4_op_89 : decode cX4_op 89 = .ok (.aload_n 0, 1) := by decide +kernel
theorem d_X4_op_90 : decode cX4_op 90 = .ok (.iload 4, 2) := by decide +kernel
theorem d_X4_op_92 : decode cX4_op 92 = .ok (.ifCond .eq 7, 3) := by decide +kernel
theorem d_X4_op_95 : decode cX4_op 95 = .ok (.iload_n 2, 1) := by decide +kernel
theorem d_X4_op_96 : decode cX4_op 96 = .ok (.goto 4, 3) := by decide +kernel
theorem d_X4_op_99 : decode cX4_op 99 = .ok (.iload_n 3, 1) := by decide +kernel
theorem d_X4_op_100 : decode cX4_op 100 = .ok (.aload_n 0, 1) := by decide +kernel
theorem d_X4_op_101 : decode cX4_op 101 = .ok (.getfield 24, 3) := by decide +kernel
theorem d_X4_op_104 : decode cX4_op 104 = .ok (.invokevirtual 91, 3) := by decide +kernel
theorem d_X4_op_107 : decode cX4_op 107 = .ok (.iload_n 1, 1) := by decide +kernel
theorem d_X4_op_108 : decode cX4_op 108 = .ok (.iconst 4, 1) := by decide +kernel
theorem d_X4_op_109 : decode cX4_op 109 = .ok (.if_icmp .lt 29, 3) := by decide +kernel
theorem d_X4_op_112 : decode cX4_op 112 = .ok (.iload_n 1, 1) := by decide +kernel
theorem d_X4_op_113 : decode cX4_op 113 = .ok (.bipush 7, 2) := by decide +kernel
theorem d_X4_op_115 : decode cX4_op 115 = .ok (.if_icmp .gt 23, 3) := by decide +kernel
theorem d_X4_op_118 : decode cX4_op 118 = .ok (.aload_n 0, 1) := by decide +kernel
theorem d_X4_op_119 : decode cX4_op 119 = .ok (.getfield 24, 3) := by decide +kernel
theorem d_X4_op_122 : decode cX4_op 122 = .ok (.invokestatic 95, 3) := by decide +kernel
theorem d_X4_op_125 : decode cX4_op 125 = .ok (.ifCond .eq 13, 3) := by decide +kernel
theorem d_X4_op_128 : decode cX4_op 128 = .ok (.new 99, 3) := by decide +kernel
theorem d_X4_op_131 : decode cX4_op 131 = .ok (.dup, 1) := by decide +kernel
theorem d_X4_op_132 : decode cX4_op 132 = .ok (.ldc 101, 2) := by decide +kernel
theorem d_X4_op_134 : decode cX4_op 134 = .ok (.invokespecial 103, 3) := by decide +kernel
theorem d_X4_op_137 : decode cX4_op 137 = .ok (.athrow, 1) := by decide +kernel
theorem d_X4_op_138 : decode cX4_op 138 = .ok (.aload_n 0, 1) := by decide +kernel
theorem d_X4_op_139 : decode cX4_op 139 = .ok (.invokevirtual 53, 3) := by decide +kernel
theorem d_X4_op_142 : decode cX4_op 142 = .ok (.aload_n 0, 1) := by decide +kernel
theorem d_X4_op_143 : decode cX4_op 143 = .ok (.getfield 33, 3) := by decide +kernel
theorem d_X4_op_146 : decode cX4_op 146 = .ok (.iload_n 1, 1) := by decide +kernel
theorem d_X4_op_147 : decode cX4_op 147 = .ok (.aload_n 0, 1) := by decide +kernel
theorem d_X4_op_148 : decode cX4_op 148 = .ok (.getfield 9, 3) := by decide +kernel
theorem d_X4_op_151 : decode cX4_op 151 = .ok (.iload_n 2, 1) := by decide +kernel
theorem d_X4_op_152 : decode cX4_op 152 = .ok (.iaload, 1) := by decide +kernel
theorem d_X4_op_153 : decode cX4_op 153 = .ok (.aload_n 0, 1) := by decide +kernel
theorem d_X4_op_154 : decode cX4_op 154 = .ok (.getfield 21, 3) := by decide +kernel
theorem d_X4_op_157 : decode cX4_op 157 = .ok (.aload_n 0, 1) := by decide +kernel
theorem d_X4_op_158 : decode cX4_op 158 = .ok (.getfield 24, 3) := by decide +kernel
theorem d_X4_op_161 : decode cX4_op 161 = .ok (.aload_n 0, 1) := by decide +kernel
theorem d_X4_op_162 : decode cX4_op 162 = .ok (.getfield 27, 3) := by decide +kernel
theorem d_X4_op_165 : decode cX4_op 165 = .ok (.invokevirtual 104, 3) := by decide +kernel
theorem d_X4_op_168 : decode cX4_op 168 = .ok (.aload_n 0, 1) := by decide +kernel
theorem d_X4_op_169 : decode cX4_op 169 = .ok (.aload_n 0, 1) := by decide +kernel
theorem d_X4_op_170 : decode cX4_op 170 = .ok (.getfield 9, 3) := by decide +kernel
theorem d_X4_op_173 : decode cX4_op 173 = .ok (.iload_n 2, 1) := by decide +kernel
theorem d_X4_op_174 : decode cX4_op 174 = .ok (.iaload, 1) := by decide +kernel
theorem d_X4_op_175 : decode cX4_op 175 = .ok (.invokevirtual 62, 3) := by decide +kernel
theorem d_X4_op_178 : decode cX4_op 178 = .ok (.ireturn, 1) := by decide +kernel
theorem sg_X4_op_0 {L : Nat} {xs : Nat → Int32} {σ : ks_St} {mc ms : Nat} {P : ka_O → ks_St → Prop} {x1 : Int32} {x2 : Int32} {x3 : Int32}  (k2 : (x1 < 16) → ks_W L xs mX4_op rm_X4_op 16 [(0, .ref 0), (1, .int x1), (2, .int x2), (3, .int x3)] [] σ mc ms P) (k4 : (¬ (x1 < 16)) → (18 < x1) → ks_W L xs mX4_op rm_X4_op 16 [(0, .ref 0), (1, .int x1), (2, .int x2), (3, .int x3)] [] σ mc ms P) (k5 : (¬ (x1 < 16)) → (¬ (18 < x1)) → ks_W L xs mX4_op rm_X4_op 17 [(0, .ref 0), (1, .int x1), (2, .int x2), (3, .int x3)] [.int 1] σ mc ms P) : ks_W L xs mX4_op rm_X4_op 0 [(0, .ref 0), (1, .int x1), (2, .int x2), (3, .int x3)] [] σ mc ms P := by
  refine ka_iload_n d_X4_op_0 rfl rfl 1 rfl ?_
  refine ka_bipush (v := 16) d_X4_op_1 rfl (by decide) ?_
  refine ka_icmp_lt (tgt := 16) d_X4_op_3 (by decide) rfl (fun c1 => ?_) (fun c1 => ?_)
  · exact (k2 c1)
  · refine ka_iload_n d_X4_op_6 rfl rfl 1 rfl ?_
    refine ka_bipush (v := 18) d_X4_op_7 rfl (by decide) ?_
    refine ka_icmp_gt (tgt := 16) d_X4_op_9 (by decide) rfl (fun c3 => ?_) (fun c3 => ?_)
    · exact (k4 c1 c3)
    · refine ka_iconst (v := 1) d_X4_op_12 rfl (by decide) ?_
      refine ka_goto (q := 17) d_X4_op_13 (by decide) ?_
      exact (k5 c1 c3)
theorem sg_X4_op_16 {L : Nat} {xs : Nat → Int32} {σ : ks_St} {mc ms : Nat} {P : ka_O → ks_St → Prop} {x1 : Int32} {x2 : Int32} {x3 : Int32}  (k1 : ks_W L xs mX4_op rm_X4_op 17 [(0, .ref 0), (1, .int x1), (2, .int x2), (3, .int x3)] [.int 0] σ mc ms P) : ks_W L xs mX4_op rm_X4_op 16 [(0, .ref 0), (1, .int x1), (2, .int x2), (3, .int x3)] [] σ mc ms P := by
  refine ka_iconst (v := 0) d_X4_op_16 rfl (by decide) ?_
  exact k1
theorem sg_X4_op_17 {L : Nat} {xs : Nat → Int32} {σ : ks_St} {mc ms : Nat} {P : ka_O → ks_St → Prop} {x1 : Int32} {x2 : Int32} {x3 : Int32} {s0 : Int32}  (k1 : ks_W L xs mX4_op rm_X4_op 21 [(0, .ref 0), (1, .int x1), (2, .int x2), (3, .int x3), (4, .int s0)] [.int x2, .ref 0] σ mc ms P) : ks_W L xs mX4_op rm_X4_op 17 [(0, .ref 0), (1, .int x1), (2, .int x2), (3, .int x3)] [.int s0] σ mc ms P := by
  refine ka_istore (ls' := [(4, .int s0), (0, .ref 0), (1, .int x1), (2, .int x2), (3, .int x3)]) d_X4_op_17 rfl (by decide) rfl ?_
  refine ka_aload_n d_X4_op_19 rfl rfl 1 rfl ?_
  refine ka_iload_n d_X4_op_20 rfl rfl 3 rfl ?_
  refine ka_sub [1, 2, 3, 4, 0] rfl ?_
  exact k1
theorem cs_X4_op_21 {L : Nat} {xs : Nat → Int32} {σ : ks_St} {mc ms : Nat} {P : ka_O → ks_St → Prop} {f : ks_St → Prop} {g : String → ks_St → Prop} {x1 : Int32} {x2 : Int32} {x3 : Int32} {x4 : Int32} {s1 : Int32} (hK : ks_M L xs mX4_requireWord rm_X4_requireWord [.ref 0, .int s1] σ (px_ (pv_ f) g)) (kx : ∀ E σ', g E σ' → P (.inr E) σ') (kr : ∀ σ', f σ' → ks_W L xs mX4_op rm_X4_op 24 [(0, .ref 0), (1, .int x1), (2, .int x2), (3, .int x3), (4, .int x4)] [] σ' mc ms P) : ks_W L xs mX4_op rm_X4_op 21 [(0, .ref 0), (1, .int x1), (2, .int x2), (3, .int x3), (4, .int x4)] [.int s1, .ref 0] σ (mc + 1) (ms + 6) P := by
  refine ks_callV (q := 24) (o := 0) (ci := 4) (As := [.int s1]) (st := []) d_X4_op_21 rfl rfl (by decide) rfl rfl lk_X4_66 ⟨by decide, by decide⟩ (Nat.le_of_ble_eq_true rfl) ⟨Nat.le_refl _, Nat.le_refl _⟩ hK (fun v σ' hq => ?_) (fun E σ' hq => ?_)
  · rcases hq with hq | ⟨E, e, -⟩
    · obtain ⟨e, hf⟩ := hq; cases e; exact kr σ' hf
    · cases e
  · rcases hq with hq | ⟨E', e, hg⟩
    · obtain ⟨e, hf⟩ := hq; cases e
    · cases e; exact ⟨rfl, kx _ σ' hg⟩
theorem sg_X4_op_24 {L : Nat} {xs : Nat → Int32} {σ : ks_St} {mc ms : Nat} {P : ka_O → ks_St → Prop} {x1 : Int32} {x2 : Int32} {x3 : Int32} {x4 : Int32}  (k2 : (¬ x4 = 0) → ks_W L xs mX4_op rm_X4_op 34 [(0, .ref 0), (1, .int x1), (2, .int x2), (3, .int x3), (4, .int x4)] [] σ mc ms P) (k3 : (x4 = 0) → ks_W L xs mX4_op rm_X4_op 31 [(0, .ref 0), (1, .int x1), (2, .int x2), (3, .int x3), (4, .int x4)] [.int x3, .ref 0] σ mc ms P) : ks_W L xs mX4_op rm_X4_op 24 [(0, .ref 0), (1, .int x1), (2, .int x2), (3, .int x3), (4, .int x4)] [] σ mc ms P := by
  refine ka_iload d_X4_op_24 rfl 4 rfl ?_
  refine ka_if_ne (tgt := 34) d_X4_op_26 (by decide) rfl (fun c1 => ?_) (fun c1 => ?_)
  · exact (k2 c1)
  · refine ka_aload_n d_X4_op_29 rfl rfl 0 rfl ?_
    refine ka_iload_n d_X4_op_30 rfl rfl 3 rfl ?_
    exact (k3 c1)
theorem cs_X4_op_31 {L : Nat} {xs : Nat → Int32} {σ : ks_St} {mc ms : Nat} {P : ka_O → ks_St → Prop} {f : ks_St → Prop} {g : String → ks_St → Prop} {x1 : Int32} {x2 : Int32} {x3 : Int32} {x4 : Int32} {s1 : Int32} (hK : ks_M L xs mX4_requireWord rm_X4_requireWord [.ref 0, .int s1] σ (px_ (pv_ f) g)) (kx : ∀ E σ', g E σ' → P (.inr E) σ') (kr : ∀ σ', f σ' → ks_W L xs mX4_op rm_X4_op 34 [(0, .ref 0), (1, .int x1), (2, .int x2), (3, .int x3), (4, .int x4)] [] σ' mc ms P) : ks_W L xs mX4_op rm_X4_op 31 [(0, .ref 0), (1, .int x1), (2, .int x2), (3, .int x3), (4, .int x4)] [.int s1, .ref 0] σ (mc + 1) (ms + 6) P := by
  refine ks_callV (q := 34) (o := 0) (ci := 4) (As := [.int s1]) (st := []) d_X4_op_31 rfl rfl (by decide) rfl rfl lk_X4_66 ⟨by decide, by decide⟩ (Nat.le_of_ble_eq_true rfl) ⟨Nat.le_refl _, Nat.le_refl _⟩ hK (fun v σ' hq => ?_) (fun E σ' hq => ?_)
  · rcases hq with hq | ⟨E, e, -⟩
    · obtain ⟨e, hf⟩ := hq; cases e; exact kr σ' hf
    · cases e
  · rcases hq with hq | ⟨E', e, hg⟩
    · obtain ⟨e, hf⟩ := hq; cases e
    · cases e; exact ⟨rfl, kx _ σ' hg⟩
theorem sg_X4_op_34 {L : Nat} {xs : Nat → Int32} {σ : ks_St} {mc ms : Nat} {P : ka_O → ks_St → Prop} {x1 : Int32} {x2 : Int32} {x3 : Int32} {x4 : Int32}  (k1 : ks_W L xs mX4_op rm_X4_op 38 [(0, .ref 0), (1, .int x1), (2, .int x2), (3, .int x3), (4, .int x4)] [.int 18, .int x1, .ref 0] σ mc ms P) : ks_W L xs mX4_op rm_X4_op 34 [(0, .ref 0), (1, .int x1), (2, .int x2), (3, .int x3), (4, .int x4)] [] σ mc ms P := by
  refine ka_aload_n d_X4_op_34 rfl rfl 0 rfl ?_
  refine ka_iload_n d_X4_op_35 rfl rfl 1 rfl ?_
  refine ka_bipush (v := 18) d_X4_op_36 rfl (by decide) ?_
  exact k1
theorem cs_X4_op_38 {L : Nat} {xs : Nat → Int32} {σ : ks_St} {mc ms : Nat} {P : ka_O → ks_St → Prop} {f : ks_St → Prop} {g : String → ks_St → Prop} {x1 : Int32} {x2 : Int32} {x3 : Int32} {x4 : Int32} {s1 : Int32} {s2 : Int32} (hK : ks_M L xs mX4_requireKind rm_X4_requireKind [.ref 0, .int s1, .int s2] σ (px_ (pv_ f) g)) (kx : ∀ E σ', g E σ' → P (.inr E) σ') (kr : ∀ σ', f σ' → ks_W L xs mX4_op rm_X4_op 41 [(0, .ref 0), (1, .int x1), (2, .int x2), (3, .int x3), (4, .int x4)] [] σ' mc ms P) : ks_W L xs mX4_op rm_X4_op 38 [(0, .ref 0), (1, .int x1), (2, .int x2), (3, .int x3), (4, .int x4)] [.int s2, .int s1, .ref 0] σ (mc + 1) (ms + 6) P := by
  refine ks_callV (q := 41) (o := 0) (ci := 4) (As := [.int s1, .int s2]) (st := []) d_X4_op_38 rfl rfl (by decide) rfl rfl lk_X4_78 ⟨by decide, by decide⟩ (Nat.le_of_ble_eq_true rfl) ⟨Nat.le_refl _, Nat.le_refl _⟩ hK (fun v σ' hq => ?_) (fun E σ' hq => ?_)
  · rcases hq with hq | ⟨E, e, -⟩
    · obtain ⟨e, hf⟩ := hq; cases e; exact kr σ' hf
    · cases e
  · rcases hq with hq | ⟨E', e, hg⟩
    · obtain ⟨e, hf⟩ := hq; cases e
    · cases e; exact ⟨rfl, kx _ σ' hg⟩
theorem sg_X4_op_41 {L : Nat} {xs : Nat → Int32} {σ : ks_St} {mc ms : Nat} {P : ka_O → ks_St → Prop} {x1 : Int32} {x2 : Int32} {x3 : Int32} {x4 : Int32}  (k2 : (¬ x4 = 0) → ks_W L xs mX4_op rm_X4_op 52 [(0, .ref 0), (1, .int x1), (2, .int x2), (3, .int x3), (4, .int x4)] [] σ mc ms P) (k3 : (x4 = 0) → ks_W L xs mX4_op rm_X4_op 49 [(0, .ref 0), (1, .int x1), (2, .int x2), (3, .int x3), (4, .int x4)] [.int x3, .int x2, .ref 0] σ mc ms P) : ks_W L xs mX4_op rm_X4_op 41 [(0, .ref 0), (1, .int x1), (2, .int x2), (3, .int x3), (4, .int x4)] [] σ mc ms P := by
  refine ka_iload d_X4_op_41 rfl 4 rfl ?_
  refine ka_if_ne (tgt := 52) d_X4_op_43 (by decide) rfl (fun c1 => ?_) (fun c1 => ?_)
  · exact (k2 c1)
  · refine ka_aload_n d_X4_op_46 rfl rfl 0 rfl ?_
    refine ka_iload_n d_X4_op_47 rfl rfl 2 rfl ?_
    refine ka_iload_n d_X4_op_48 rfl rfl 3 rfl ?_
    exact (k3 c1)
theorem cs_X4_op_49 {L : Nat} {xs : Nat → Int32} {σ : ks_St} {mc ms : Nat} {P : ka_O → ks_St → Prop} {f : ks_St → Prop} {g : String → ks_St → Prop} {x1 : Int32} {x2 : Int32} {x3 : Int32} {x4 : Int32} {s1 : Int32} {s2 : Int32} (hK : ks_M L xs mX4_requireOneWidth rm_X4_requireOneWidth [.ref 0, .int s1, .int s2] σ (px_ (pv_ f) g)) (kx : ∀ E σ', g E σ' → P (.inr E) σ') (kr : ∀ σ', f σ' → ks_W L xs mX4_op rm_X4_op 52 [(0, .ref 0), (1, .int x1), (2, .int x2), (3, .int x3), (4, .int x4)] [] σ' mc ms P) : ks_W L xs mX4_op rm_X4_op 49 [(0, .ref 0), (1, .int x1), (2, .int x2), (3, .int x3), (4, .int x4)] [.int s2, .int s1, .ref 0] σ (mc + 1) (ms + 6) P := by
  refine ks_callV (q := 52) (o := 0) (ci := 4) (As := [.int s1, .int s2]) (st := []) d_X4_op_49 rfl rfl (by decide) rfl rfl lk_X4_81 ⟨by decide, by decide⟩ (Nat.le_of_ble_eq_true rfl) ⟨Nat.le_refl _, Nat.le_refl _⟩ hK (fun v σ' hq => ?_) (fun E σ' hq => ?_)
  · rcases hq with hq | ⟨E, e, -⟩
    · obtain ⟨e, hf⟩ := hq; cases e; exact kr σ' hf
    · cases e
  · rcases hq with hq | ⟨E', e, hg⟩
    · obtain ⟨e, hf⟩ := hq; cases e
    · cases e; exact ⟨rfl, kx _ σ' hg⟩
theorem sg_X4_op_52 {L : Nat} {xs : Nat → Int32} {σ : ks_St} {mc ms : Nat} {P : ka_O → ks_St → Prop} {x1 : Int32} {x2 : Int32} {x3 : Int32} {x4 : Int32}  (hmc : 1 ≤ mc) (hms : 6 ≤ ms) (k2 : (¬ x1 = 18) → ks_W L xs mX4_op rm_X4_op 80 [(0, .ref 0), (1, .int x1), (2, .int x2), (3, .int x3), (4, .int x4)] [] σ mc ms P) (v3 : (x1 = 18) → vp_in x2 600) (k5 : (x1 = 18) → (((sf_ σ 1 x2.toNatClampNeg) &&& 7) = 0) → ks_W L xs mX4_op rm_X4_op 80 [(0, .ref 0), (1, .int x1), (2, .int x2), (3, .int x3), (4, .int x4)] [] σ mc ms P) (t6 : (x1 = 18) → (¬ (((sf_ σ 1 x2.toNatClampNeg) &&& 7) = 0)) → P (.inr "java/lang/IllegalArgumentException") σ) : ks_W L xs mX4_op rm_X4_op 52 [(0, .ref 0), (1, .int x1), (2, .int x2), (3, .int x3), (4, .int x4)] [] σ mc ms P := by
  refine ka_iload_n d_X4_op_52 rfl rfl 1 rfl ?_
  refine ka_bipush (v := 18) d_X4_op_53 rfl (by decide) ?_
  refine ka_icmp_ne (tgt := 80) d_X4_op_55 (by decide) rfl (fun c1 => ?_) (fun c1 => ?_)
  · exact (k2 c1)
  · refine ka_aload_n d_X4_op_58 rfl rfl 0 rfl ?_
    refine gf_X4_1 d_X4_op_59 rfl fl_X4_9 ?_
    refine ka_iload_n d_X4_op_62 rfl rfl 2 rfl ?_
    refine ks_iald row_1 d_X4_op_63 rfl (v3 c1) ?_
    refine ka_bipush (v := 7) d_X4_op_64 rfl (by decide) ?_
    refine ka_iand d_X4_op_66 rfl ?_
    refine ka_if_eq (tgt := 80) d_X4_op_67 (by decide) rfl (fun c4 => ?_) (fun c4 => ?_)
    · exact (k5 c1 c4)
    · exact ks_throw d_X4_op_70 d_X4_op_73 d_X4_op_74 d_X4_op_76 d_X4_op_79 (text := "the word has no whole bytes") (by decide) th_iae rfl (by decide) (Nat.le_of_ble_eq_true rfl) hmc hms (t6 c1 c4)
theorem sg_X4_op_80 {L : Nat} {xs : Nat → Int32} {σ : ks_St} {mc ms : Nat} {P : ka_O → ks_St → Prop} {x1 : Int32} {x2 : Int32} {x3 : Int32} {x4 : Int32}  (k1 : ks_W L xs mX4_op rm_X4_op 86 [(0, .ref 0), (1, .int x1), (2, .int x2), (3, .int x3), (4, .int x4)] [.ref 3, .int x2, .ref 0] σ mc ms P) : ks_W L xs mX4_op rm_X4_op 80 [(0, .ref 0), (1, .int x1), (2, .int x2), (3, .int x3), (4, .int x4)] [] σ mc ms P := by
  refine ka_aload_n d_X4_op_80 rfl rfl 0 rfl ?_
  refine ka_iload_n d_X4_op_81 rfl rfl 2 rfl ?_
  refine ka_aload_n d_X4_op_82 rfl rfl 0 rfl ?_
  refine gf_X4_4 d_X4_op_83 rfl fl_X4_21 ?_
  exact k1
theorem cs_X4_op_86 {L : Nat} {xs : Nat → Int32} {σ : ks_St} {mc ms : Nat} {P : ka_O → ks_St → Prop} {f : ks_St → Prop} {x1 : Int32} {x2 : Int32} {x3 : Int32} {x4 : Int32} {s1 : Int32} (hK : ks_M L xs mX4_load rm_X4_load [.ref 0, .int s1, .ref 3] σ (pv_ f)) (kr : ∀ σ', f σ' → ks_W L xs mX4_op rm_X4_op 89 [(0, .ref 0), (1, .int x1), (2, .int x2), (3, .int x3), (4, .int x4)] [] σ' mc ms P) : ks_W L xs mX4_op rm_X4_op 86 [(0, .ref 0), (1, .int x1), (2, .int x2), (3, .int x3), (4, .int x4)] [.ref 3, .int s1, .ref 0] σ mc ms P := by
  refine ks_callV (q := 89) (o := 0) (ci := 4) (As := [.int s1, .ref 3]) (st := []) d_X4_op_86 rfl rfl (by decide) rfl rfl lk_X4_91 ⟨by decide, by decide⟩ (Nat.le_of_ble_eq_true rfl) ⟨Nat.le_refl _, Nat.le_refl _⟩ hK (fun v σ' hq => ?_) (fun E σ' hq => ?_)
  · obtain ⟨e, hf⟩ := hq; cases e; exact kr σ' hf
  · obtain ⟨e, hf⟩ := hq; cases e
theorem sg_X4_op_89 {L : Nat} {xs : Nat → Int32} {σ : ks_St} {mc ms : Nat} {P : ka_O → ks_St → Prop} {x1 : Int32} {x2 : Int32} {x3 : Int32} {x4 : Int32}  (k2 : (x4 = 0) → ks_W L xs mX4_op rm_X4_op 100 [(0, .ref 0), (1, .int x1), (2, .int x2)] [.int x3, .ref 0] σ mc ms P) (k3 : (¬ (x4 = 0)) → ks_W L xs mX4_op rm_X4_op 100 [(0, .ref 0), (1, .int x1), (2, .int x2)] [.int x2, .ref 0] σ mc ms P) : ks_W L xs mX4_op rm_X4_op 89 [(0, .ref 0), (1, .int x1), (2, .int x2), (3, .int x3), (4, .int x4)] [] σ mc ms P := by
  refine ka_aload_n d_X4_op_89 rfl rfl 0 rfl ?_
  refine ka_iload d_X4_op_90 rfl 4 rfl ?_
  refine ka_if_eq (tgt := 99) d_X4_op_92 (by decide) rfl (fun c1 => ?_) (fun c1 => ?_)
  · refine ka_iload_n d_X4_op_99 rfl rfl 3 rfl ?_
    refine ka_sub [0, 1, 2] rfl ?_
    exact (k2 c1)
  · refine ka_iload_n d_X4_op_95 rfl rfl 2 rfl ?_
    refine ka_goto (q := 100) d_X4_op_96 (by decide) ?_
    refine ka_sub [0, 1, 2] rfl ?_
    exact (k3 c1)
theorem sg_X4_op_100 {L : Nat} {xs : Nat → Int32} {σ : ks_St} {mc ms : Nat} {P : ka_O → ks_St → Prop} {x1 : Int32} {x2 : Int32} {s1 : Int32}  (k1 : ks_W L xs mX4_op rm_X4_op 104 [(0, .ref 0), (1, .int x1), (2, .int x2)] [.ref 4, .int s1, .ref 0] σ mc ms P) : ks_W L xs mX4_op rm_X4_op 100 [(0, .ref 0), (1, .int x1), (2, .int x2)] [.int s1, .ref 0] σ mc ms P := by
  refine ka_aload_n d_X4_op_100 rfl rfl 0 rfl ?_
  refine gf_X4_5 d_X4_op_101 rfl fl_X4_24 ?_
  exact k1
theorem cs_X4_op_104 {L : Nat} {xs : Nat → Int32} {σ : ks_St} {mc ms : Nat} {P : ka_O → ks_St → Prop} {f : ks_St → Prop} {x1 : Int32} {x2 : Int32} {s1 : Int32} (hK : ks_M L xs mX4_load rm_X4_load [.ref 0, .int s1, .ref 4] σ (pv_ f)) (kr : ∀ σ', f σ' → ks_W L xs mX4_op rm_X4_op 107 [(0, .ref 0), (1, .int x1), (2, .int x2)] [] σ' mc ms P) : ks_W L xs mX4_op rm_X4_op 104 [(0, .ref 0), (1, .int x1), (2, .int x2)] [.ref 4, .int s1, .ref 0] σ mc ms P := by
  refine ks_callV (q := 107) (o := 0) (ci := 4) (As := [.int s1, .ref 4]) (st := []) d_X4_op_104 rfl rfl (by decide) rfl rfl lk_X4_91 ⟨by decide, by decide⟩ (Nat.le_of_ble_eq_true rfl) ⟨Nat.le_refl _, Nat.le_refl _⟩ hK (fun v σ' hq => ?_) (fun E σ' hq => ?_)
  · obtain ⟨e, hf⟩ := hq; cases e; exact kr σ' hf
  · obtain ⟨e, hf⟩ := hq; cases e
theorem sg_X4_op_107 {L : Nat} {xs : Nat → Int32} {σ : ks_St} {mc ms : Nat} {P : ka_O → ks_St → Prop} {x1 : Int32} {x2 : Int32}  (k2 : (x1 < 4) → ks_W L xs mX4_op rm_X4_op 138 [(0, .ref 0), (1, .int x1), (2, .int x2)] [] σ mc ms P) (k4 : (¬ (x1 < 4)) → (7 < x1) → ks_W L xs mX4_op rm_X4_op 138 [(0, .ref 0), (1, .int x1), (2, .int x2)] [] σ mc ms P) (k5 : (¬ (x1 < 4)) → (¬ (7 < x1)) → ks_W L xs mX4_op rm_X4_op 122 [(0, .ref 0), (1, .int x1), (2, .int x2)] [.ref 4] σ mc ms P) : ks_W L xs mX4_op rm_X4_op 107 [(0, .ref 0), (1, .int x1), (2, .int x2)] [] σ mc ms P := by
  refine ka_iload_n d_X4_op_107 rfl rfl 1 rfl ?_
  refine ka_iconst (v := 4) d_X4_op_108 rfl (by decide) ?_
  refine ka_icmp_lt (tgt := 138) d_X4_op_109 (by decide) rfl (fun c1 => ?_) (fun c1 => ?_)
  · exact (k2 c1)
  · refine ka_iload_n d_X4_op_112 rfl rfl 1 rfl ?_
    refine ka_bipush (v := 7) d_X4_op_113 rfl (by decide) ?_
    refine ka_icmp_gt (tgt := 138) d_X4_op_115 (by decide) rfl (fun c3 => ?_) (fun c3 => ?_)
    · exact (k4 c1 c3)
    · refine ka_aload_n d_X4_op_118 rfl rfl 0 rfl ?_
      refine gf_X4_5 d_X4_op_119 rfl fl_X4_24 ?_
      exact (k5 c1 c3)
theorem cs_X4_op_122 {L : Nat} {xs : Nat → Int32} {σ : ks_St} {mc ms : Nat} {P : ka_O → ks_St → Prop} {f : Int32 → ks_St → Prop} {x1 : Int32} {x2 : Int32} (hK : ks_M L xs mX3_isNought rm_X3_isNought [.ref 4] σ (pi_ f)) (kr : ∀ r σ', f r σ' → ks_W L xs mX4_op rm_X4_op 125 [(0, .ref 0), (1, .int x1), (2, .int x2)] [.int r] σ' mc ms P) : ks_W L xs mX4_op rm_X4_op 122 [(0, .ref 0), (1, .int x1), (2, .int x2)] [.ref 4] σ mc ms P := by
  refine ks_callS (q := 125) (As := [.ref 4]) (st := []) d_X4_op_122 rfl rfl lk_X4_95 ⟨by decide, by decide⟩ (Nat.le_of_ble_eq_true rfl) ⟨Nat.le_refl _, Nat.le_refl _⟩ hK (fun v σ' hq => ?_) (fun E σ' hq => ?_)
  · obtain ⟨r, e, hf⟩ := hq; cases e; exact kr r σ' hf
  · obtain ⟨r, e, hf⟩ := hq; cases e
theorem sg_X4_op_125 {L : Nat} {xs : Nat → Int32} {σ : ks_St} {mc ms : Nat} {P : ka_O → ks_St → Prop} {x1 : Int32} {x2 : Int32} {s0 : Int32}  (hmc : 1 ≤ mc) (hms : 6 ≤ ms) (k2 : (s0 = 0) → ks_W L xs mX4_op rm_X4_op 138 [(0, .ref 0), (1, .int x1), (2, .int x2)] [] σ mc ms P) (t3 : (¬ (s0 = 0)) → P (.inr "java/lang/ArithmeticException") σ) : ks_W L xs mX4_op rm_X4_op 125 [(0, .ref 0), (1, .int x1), (2, .int x2)] [.int s0] σ mc ms P := by
  refine ka_if_eq (tgt := 138) d_X4_op_125 (by decide) rfl (fun c1 => ?_) (fun c1 => ?_)
  · exact (k2 c1)
  · exact ks_throw d_X4_op_128 d_X4_op_131 d_X4_op_132 d_X4_op_134 d_X4_op_137 (text := "a quotient or rest by 0") (by decide) th_ari rfl (by decide) (Nat.le_of_ble_eq_true rfl) hmc hms (t3 c1)
theorem sg_X4_op_138 {L : Nat} {xs : Nat → Int32} {σ : ks_St} {mc ms : Nat} {P : ka_O → ks_St → Prop} {x1 : Int32} {x2 : Int32}  (k1 : ks_W L xs mX4_op rm_X4_op 139 [(0, .ref 0), (1, .int x1), (2, .int x2)] [.ref 0] σ mc ms P) : ks_W L xs mX4_op rm_X4_op 138 [(0, .ref 0), (1, .int x1), (2, .int x2)] [] σ mc ms P := by
  refine ka_aload_n d_X4_op_138 rfl rfl 0 rfl ?_
  exact k1
theorem cs_X4_op_139 {L : Nat} {xs : Nat → Int32} {σ : ks_St} {mc ms : Nat} {P : ka_O → ks_St → Prop} {f : ks_St → Prop} {g : String → ks_St → Prop} {x1 : Int32} {x2 : Int32} (hK : ks_M L xs mX4_requireRoom rm_X4_requireRoom [.ref 0] σ (px_ (pv_ f) g)) (kx : ∀ E σ', g E σ' → P (.inr E) σ') (kr : ∀ σ', f σ' → ks_W L xs mX4_op rm_X4_op 142 [(0, .ref 0), (1, .int x1), (2, .int x2)] [] σ' mc ms P) : ks_W L xs mX4_op rm_X4_op 139 [(0, .ref 0), (1, .int x1), (2, .int x2)] [.ref 0] σ (mc + 1) (ms + 6) P := by
  refine ks_callV (q := 142) (o := 0) (ci := 4) (As := []) (st := []) d_X4_op_139 rfl rfl (by decide) rfl rfl lk_X4_53 ⟨by decide, by decide⟩ (Nat.le_of_ble_eq_true rfl) ⟨Nat.le_refl _, Nat.le_refl _⟩ hK (fun v σ' hq => ?_) (fun E σ' hq => ?_)
  · rcases hq with hq | ⟨E, e, -⟩
    · obtain ⟨e, hf⟩ := hq; cases e; exact kr σ' hf
    · cases e
  · rcases hq with hq | ⟨E', e, hg⟩
    · obtain ⟨e, hf⟩ := hq; cases e
    · cases e; exact ⟨rfl, kx _ σ' hg⟩
theorem sg_X4_op_142 {L : Nat} {xs : Nat → Int32} {σ : ks_St} {mc ms : Nat} {P : ka_O → ks_St → Prop} {x1 : Int32} {x2 : Int32}  (v1 : vp_in x2 600) (k2 : ks_W L xs mX4_op rm_X4_op 165 [(0, .ref 0), (2, .int x2)] [.ref 5, .ref 4, .ref 3, .int (sf_ σ 1 x2.toNatClampNeg), .int x1, .ref 6] σ mc ms P) : ks_W L xs mX4_op rm_X4_op 142 [(0, .ref 0), (1, .int x1), (2, .int x2)] [] σ mc ms P := by
  refine ka_aload_n d_X4_op_142 rfl rfl 0 rfl ?_
  refine gf_X4_7 d_X4_op_143 rfl fl_X4_33 ?_
  refine ka_iload_n d_X4_op_146 rfl rfl 1 rfl ?_
  refine ka_aload_n d_X4_op_147 rfl rfl 0 rfl ?_
  refine gf_X4_1 d_X4_op_148 rfl fl_X4_9 ?_
  refine ka_iload_n d_X4_op_151 rfl rfl 2 rfl ?_
  refine ks_iald row_1 d_X4_op_152 rfl v1 ?_
  refine ka_aload_n d_X4_op_153 rfl rfl 0 rfl ?_
  refine gf_X4_4 d_X4_op_154 rfl fl_X4_21 ?_
  refine ka_aload_n d_X4_op_157 rfl rfl 0 rfl ?_
  refine gf_X4_5 d_X4_op_158 rfl fl_X4_24 ?_
  refine ka_aload_n d_X4_op_161 rfl rfl 0 rfl ?_
  refine gf_X4_6 d_X4_op_162 rfl fl_X4_27 ?_
  refine ka_sub [0, 2] rfl ?_
  exact k2
theorem cs_X4_op_165 {L : Nat} {xs : Nat → Int32} {σ : ks_St} {mc ms : Nat} {P : ka_O → ks_St → Prop} {f : ks_St → Prop} {x2 : Int32} {s1 : Int32} {s2 : Int32} (hK : ks_M L xs mX1_run rm_X1_run [.ref 6, .int s1, .int s2, .ref 3, .ref 4, .ref 5] σ (pv_ f)) (kr : ∀ σ', f σ' → ks_W L xs mX4_op rm_X4_op 168 [(0, .ref 0), (2, .int x2)] [] σ' mc ms P) : ks_W L xs mX4_op rm_X4_op 165 [(0, .ref 0), (2, .int x2)] [.ref 5, .ref 4, .ref 3, .int s2, .int s1, .ref 6] σ mc ms P := by
  refine ks_callV (q := 168) (o := 6) (ci := 2) (As := [.int s1, .int s2, .ref 3, .ref 4, .ref 5]) (st := []) d_X4_op_165 rfl rfl (by decide) rfl rfl lk_X4_104 ⟨by decide, by decide⟩ (Nat.le_of_ble_eq_true rfl) ⟨Nat.le_refl _, Nat.le_refl _⟩ hK (fun v σ' hq => ?_) (fun E σ' hq => ?_)
  · obtain ⟨e, hf⟩ := hq; cases e; exact kr σ' hf
  · obtain ⟨e, hf⟩ := hq; cases e
theorem sg_X4_op_168 {L : Nat} {xs : Nat → Int32} {σ : ks_St} {mc ms : Nat} {P : ka_O → ks_St → Prop} {x2 : Int32}  (v1 : vp_in x2 600) (k2 : ks_W L xs mX4_op rm_X4_op 175 [] [.int (sf_ σ 1 x2.toNatClampNeg), .ref 0] σ mc ms P) : ks_W L xs mX4_op rm_X4_op 168 [(0, .ref 0), (2, .int x2)] [] σ mc ms P := by
  refine ka_aload_n d_X4_op_168 rfl rfl 0 rfl ?_
  refine ka_aload_n d_X4_op_169 rfl rfl 0 rfl ?_
  refine gf_X4_1 d_X4_op_170 rfl fl_X4_9 ?_
  refine ka_iload_n d_X4_op_173 rfl rfl 1 rfl ?_
  refine ks_iald row_1 d_X4_op_174 rfl v1 ?_
  refine ka_sub [] rfl ?_
  exact k2
theorem cs_X4_op_175 {L : Nat} {xs : Nat → Int32} {σ : ks_St} {mc ms : Nat} {P : ka_O → ks_St → Prop} {f : Int32 → ks_St → Prop} {s1 : Int32} (hK : ks_M L xs mX4_keepMade rm_X4_keepMade [.ref 0, .int s1] σ (pi_ f)) (kr : ∀ r σ', f r σ' → ks_W L xs mX4_op rm_X4_op 178 [] [.int r] σ' mc ms P) : ks_W L xs mX4_op rm_X4_op 175 [] [.int s1, .ref 0] σ mc ms P := by
  refine ks_callV (q := 178) (o := 0) (ci := 4) (As := [.int s1]) (st := []) d_X4_op_175 rfl rfl (by decide) rfl rfl lk_X4_62 ⟨by decide, by decide⟩ (Nat.le_of_ble_eq_true rfl) ⟨Nat.le_refl _, Nat.le_refl _⟩ hK (fun v σ' hq => ?_) (fun E σ' hq => ?_)
  · obtain ⟨r, e, hf⟩ := hq; cases e; exact kr r σ' hf
  · obtain ⟨r, e, hf⟩ := hq; cases e
theorem sg_X4_op_178 {L : Nat} {xs : Nat → Int32} {σ : ks_St} {mc ms : Nat} {P : ka_O → ks_St → Prop} {s0 : Int32}  (r1 : P (.inl (some (.int s0))) σ) : ks_W L xs mX4_op rm_X4_op 178 [] [.int s0] σ mc ms P := by
  exact ks_iret (ty := .int) d_X4_op_178 rfl rfl r1
theorem d_X4_flag_0 : decode cX4_flag 0 = .ok (.iload_n 1, 1) := by decide +kernel
theorem d_X4_flag_1 : decode cX4_flag 1 = .ok (.tableswitch 63 0 3 #[31, 39, 47, 55], 31) := by decide +kernel
theorem d_X4_flag_32 : decode cX4_flag 32 = .ok (.aload_n 0, 1) := by decide +kernel
theorem d_X4_flag_33 : decode cX4_flag 33 = .ok (.getfield 33, 3) := by decide +kernel
theorem d_X4_flag_36 : decode cX4_flag 36 = .ok (.getfield 108, 3) := by decide +kernel
theorem d_X4_flag_39 : decode cX4_flag 39 = .ok (.ireturn, 1) := by decide +kernel
theorem d_X4_flag_40 : decode cX4_flag 40 = .ok (.aload_n 0, 1) := by decide +kernel
theorem d_X4_flag_41 : decode cX4_flag 41 = .ok (.getfield 33, 3) := by decide +kernel
theorem d_X4_flag_44 : decode cX4_flag 44 = .ok (.getfield 111, 3) := by decide +kernel
theorem d_X4_flag_47 : decode cX4_flag 47 = .ok (.ireturn, 1) := by decide +kernel
theorem d_X4_flag_48 : decode cX4_flag 48 = .ok (.aload_n 0, 1) := by decide +kernel
theorem d_X4_flag_49 : decode cX4_flag 49 = .ok (.getfield 33, 3) := by decide +kernel
theorem d_X4_flag_52 : decode cX4_flag 52 = .ok (.getfield 114, 3) := by decide +kernel
theorem d_X4_flag_55 : decode cX4_flag 55 = .ok (.ireturn, 1) := by decide +kernel
theorem d_X4_flag_56 : decode cX4_flag 56 = .ok (.aload_n 0, 1) := by decide +kernel
theorem d_X4_flag_57 : decode cX4_flag 57 = .ok (.getfield 33, 3) := by decide +kernel
theorem d_X4_flag_60 : decode cX4_flag 60 = .ok (.getfield 117, 3) := by decide +kernel
theorem d_X4_flag_63 : decode cX4_flag 63 = .ok (.ireturn, 1) := by decide +kernel
theorem d_X4_flag_64 : decode cX4_flag 64 = .ok (.new 84, 3) := by decide +kernel
theorem d_X4_flag_67 : decode cX4_flag 67 = .ok (.dup, 1) := by decide +kernel
theorem d_X4_flag_68 : decode cX4_flag 68 = .ok (.ldc 120, 2) := by decide +kernel
theorem d_X4_flag_70 : decode cX4_flag 70 = .ok (.invokespecial 88, 3) := by decide +kernel
theorem d_X4_flag_73 : decode cX4_flag 73 = .ok (.athrow, 1) := by decide +kernel
theorem sg_X4_flag_0 {L : Nat} {xs : Nat → Int32} {σ : ks_St} {mc ms : Nat} {P : ka_O → ks_St → Prop} {x1 : Int32}  (hmc : 1 ≤ mc) (hms : 6 ≤ ms) (r2 : (x1 = 0) → P (.inl (some (.int (si_ σ 2)))) σ) (r4 : (¬ x1 = 0) → (x1 = 1) → P (.inl (some (.int (si_ σ 3)))) σ) (r6 : (¬ x1 = 0) → (¬ x1 = 1) → (x1 = 2) → P (.inl (some (.int (si_ σ 4)))) σ) (r8 : (¬ x1 = 0) → (¬ x1 = 1) → (¬ x1 = 2) → (x1 = 3) → P (.inl (some (.int (si_ σ 5)))) σ) (t9 : (¬ x1 = 0) → (¬ x1 = 1) → (¬ x1 = 2) → (¬ x1 = 3) → P (.inr "java/lang/IllegalArgumentException") σ) : ks_W L xs mX4_flag rm_X4_flag 0 [(0, .ref 0), (1, .int x1)] [] σ mc ms P := by
  refine ka_iload_n d_X4_flag_0 rfl rfl 1 rfl ?_
  by_cases c1 : x1 = 0
  · refine ka_tabIn (q := 32) d_X4_flag_1 (by rw [c1]; decide) (by rw [c1]; decide) (by rw [c1]; rfl) (by decide) ?_
    refine ka_aload_n d_X4_flag_32 rfl rfl 0 rfl ?_
    refine gf_X4_7 d_X4_flag_33 rfl fl_X4_33 ?_
    refine gf_X1_0 d_X4_flag_36 rfl fl_X4_108 ?_
    exact ks_iret (ty := .int) d_X4_flag_39 rfl rfl (r2 c1)
  by_cases c3 : x1 = 1
  · refine ka_tabIn (q := 40) d_X4_flag_1 (by rw [c3]; decide) (by rw [c3]; decide) (by rw [c3]; rfl) (by decide) ?_
    refine ka_aload_n d_X4_flag_40 rfl rfl 0 rfl ?_
    refine gf_X4_7 d_X4_flag_41 rfl fl_X4_33 ?_
    refine gf_X1_1 d_X4_flag_44 rfl fl_X4_111 ?_
    exact ks_iret (ty := .int) d_X4_flag_47 rfl rfl (r4 c1 c3)
  by_cases c5 : x1 = 2
  · refine ka_tabIn (q := 48) d_X4_flag_1 (by rw [c5]; decide) (by rw [c5]; decide) (by rw [c5]; rfl) (by decide) ?_
    refine ka_aload_n d_X4_flag_48 rfl rfl 0 rfl ?_
    refine gf_X4_7 d_X4_flag_49 rfl fl_X4_33 ?_
    refine gf_X1_2 d_X4_flag_52 rfl fl_X4_114 ?_
    exact ks_iret (ty := .int) d_X4_flag_55 rfl rfl (r6 c1 c3 c5)
  by_cases c7 : x1 = 3
  · refine ka_tabIn (q := 56) d_X4_flag_1 (by rw [c7]; decide) (by rw [c7]; decide) (by rw [c7]; rfl) (by decide) ?_
    refine ka_aload_n d_X4_flag_56 rfl rfl 0 rfl ?_
    refine gf_X4_7 d_X4_flag_57 rfl fl_X4_33 ?_
    refine gf_X1_3 d_X4_flag_60 rfl fl_X4_117 ?_
    exact ks_iret (ty := .int) d_X4_flag_63 rfl rfl (r8 c1 c3 c5 c7)
  refine ka_tabOut (q := 64) d_X4_flag_1 (by have nc1 := lv_neT (a := 0) c1 (by decide); have nc3 := lv_neT (a := 1) c3 (by decide); have nc5 := lv_neT (a := 2) c5 (by decide); have nc7 := lv_neT (a := 3) c7 (by decide); omega) (by decide) ?_
  exact ks_throw d_X4_flag_64 d_X4_flag_67 d_X4_flag_68 d_X4_flag_70 d_X4_flag_73 (text := "there is no such flag") (by decide) th_iae rfl (by decide) (Nat.le_of_ble_eq_true rfl) hmc hms (t9 c1 c3 c5 c7)
theorem d_X4_field_0 : decode cX4_field 0 = .ok (.aload_n 0, 1) := by decide +kernel
theorem d_X4_field_1 : decode cX4_field 1 = .ok (.iload_n 1, 1) := by decide +kernel
theorem d_X4_field_2 : decode cX4_field 2 = .ok (.invokevirtual 66, 3) := by decide +kernel
theorem d_X4_field_5 : decode cX4_field 5 = .ok (.iload_n 2, 1) := by decide +kernel
theorem d_X4_field_6 : decode cX4_field 6 = .ok (.ifCond .lt 18, 3) := by decide +kernel
theorem d_X4_field_9 : decode cX4_field 9 = .ok (.iload_n 3, 1) := by decide +kernel
theorem d_X4_field_10 : decode cX4_field 10 = .ok (.aload_n 0, 1) := by decide +kernel
theorem d_X4_field_11 : decode cX4_field 11 = .ok (.getfield 9, 3) := by decide +kernel
theorem d_X4_field_14 : decode cX4_field 14 = .ok (.iload_n 1, 1) := by decide +kernel
theorem d_X4_field_15 : decode cX4_field 15 = .ok (.iaload, 1) := by decide +kernel
theorem d_X4_field_16 : decode cX4_field 16 = .ok (.if_icmp .ge 8, 3) := by decide +kernel
theorem d_X4_field_19 : decode cX4_field 19 = .ok (.iload_n 2, 1) := by decide +kernel
theorem d_X4_field_20 : decode cX4_field 20 = .ok (.iload_n 3, 1) := by decide +kernel
theorem d_X4_field_21 : decode cX4_field 21 = .ok (.if_icmp .le 13, 3) := by decide +kernel
theorem d_X4_field_24 : decode cX4_field 24 = .ok (.new 84, 3) := by decide +kernel
theorem d_X4_field_27 : decode cX4_field 27 = .ok (.dup, 1) := by decide +kernel
theorem d_X4_field_28 : decode cX4_field 28 = .ok (.ldc 122, 2) := by decide +kernel
theorem d_X4_field_30 : decode cX4_field 30 = .ok (.invokespecial 88, 3) := by decide +kernel
theorem d_X4_field_33 : decode cX4_field 33 = .ok (.athrow, 1) := by decide +kernel
theorem d_X4_field_34 : decode cX4_field 34 = .ok (.aload_n 0, 1) := by decide +kernel
theorem d_X4_field_35 : decode cX4_field 35 = .ok (.invokevirtual 53, 3) := by decide +kernel
theorem d_X4_field_38 : decode cX4_field 38 = .ok (.aload_n 0, 1) := by decide +kernel
theorem d_X4_field_39 : decode cX4_field 39 = .ok (.iload_n 1, 1) := by decide +kernel
theorem d_X4_field_40 : decode cX4_field 40 = .ok (.aload_n 0, 1) := by decide +kernel
theorem d_X4_field_41 : decode cX4_field 41 = .ok (.getfield 21, 3) := by decide +kernel
theorem d_X4_field_44 : decode cX4_field 44 = .ok (.invokevirtual 91, 3) := by decide +kernel
theorem d_X4_field_47 : decode cX4_field 47 = .ok (.aload_n 0, 1) := by decide +kernel
theorem d_X4_field_48 : decode cX4_field 48 = .ok (.getfield 21, 3) := by decide +kernel
theorem d_X4_field_51 : decode cX4_field 51 = .ok (.iload_n 2, 1) := by decide +kernel
theorem d_X4_field_52 : decode cX4_field 52 = .ok (.ineg, 1) := by decide +kernel
theorem d_X4_field_53 : decode cX4_field 53 = .ok (.aload_n 0, 1) := by decide +kernel
theorem d_X4_field_54 : decode cX4_field 54 = .ok (.getfield 27, 3) := by decide +kernel
theorem d_X4_field_57 : decode cX4_field 57 = .ok (.invokestatic 124, 3) := by decide +kernel
theorem d_X4_field_60 : decode cX4_field 60 = .ok (.aload_n 0, 1) := by decide +kernel
theorem d_X4_field_61 : decode cX4_field 61 = .ok (.iload_n 3, 1) := by decide +kernel
theorem d_X4_field_62 : decode cX4_field 62 = .ok (.iload_n 2, 1) := by decide +kernel
theorem d_X4_field_63 : decode cX4_field 63 = .ok (.isub, 1) := by decide +kernel
theorem d_X4_field_64 : decode cX4_field 64 = .ok (.iconst 1, 1) := by decide +kernel
theorem d_X4_field_65 : decode cX4_field 65 = .ok (.iadd, 1) := by decide +kernel
theorem d_X4_field_66 : decode cX4_field 66 = .ok (.invokevirtual 62, 3) := by decide +kernel
theorem d_X4_field_69 : decode cX4_field 69 = .ok (.ireturn, 1) := by decide +kernel
theorem sg_X4_field_0 {L : Nat} {xs : Nat → Int32} {σ : ks_St} {mc ms : Nat} {P : ka_O → ks_St → Prop} {x1 : Int32} {x2 : Int32} {x3 : Int32}  (k1 : ks_W L xs mX4_field rm_X4_field 2 [(0, .ref 0), (1, .int x1), (2, .int x2), (3, .int x3)] [.int x1, .ref 0] σ mc ms P) : ks_W L xs mX4_field rm_X4_field 0 [(0, .ref 0), (1, .int x1), (2, .int x2), (3, .int x3)] [] σ mc ms P := by
  refine ka_aload_n d_X4_field_0 rfl rfl 0 rfl ?_
  refine ka_iload_n d_X4_field_1 rfl rfl 1 rfl ?_
  exact k1
theorem cs_X4_field_2 {L : Nat} {xs : Nat → Int32} {σ : ks_St} {mc ms : Nat} {P : ka_O → ks_St → Prop} {f : ks_St → Prop} {g : String → ks_St → Prop} {x1 : Int32} {x2 : Int32} {x3 : Int32} {s1 : Int32} (hK : ks_M L xs mX4_requireWord rm_X4_requireWord [.ref 0, .int s1] σ (px_ (pv_ f) g)) (kx : ∀ E σ', g E σ' → P (.inr E) σ') (kr : ∀ σ', f σ' → ks_W L xs mX4_field rm_X4_field 5 [(0, .ref 0), (1, .int x1), (2, .int x2), (3, .int x3)] [] σ' mc ms P) : ks_W L xs mX4_field rm_X4_field 2 [(0, .ref 0), (1, .int x1), (2, .int x2), (3, .int x3)] [.int s1, .ref 0] σ (mc + 1) (ms + 6) P := by
  refine ks_callV (q := 5) (o := 0) (ci := 4) (As := [.int s1]) (st := []) d_X4_field_2 rfl rfl (by decide) rfl rfl lk_X4_66 ⟨by decide, by decide⟩ (Nat.le_of_ble_eq_true rfl) ⟨Nat.le_refl _, Nat.le_refl _⟩ hK (fun v σ' hq => ?_) (fun E σ' hq => ?_)
  · rcases hq with hq | ⟨E, e, -⟩
    · obtain ⟨e, hf⟩ := hq; cases e; exact kr σ' hf
    · cases e
  · rcases hq with hq | ⟨E', e, hg⟩
    · obtain ⟨e, hf⟩ := hq; cases e
    · cases e; exact ⟨rfl, kx _ σ' hg⟩
theorem sg_X4_field_5 {L : Nat} {xs : Nat → Int32} {σ : ks_St} {mc ms : Nat} {P : ka_O → ks_St → Prop} {x1 : Int32} {x2 : Int32} {x3 : Int32}  (k2 : (x2 < 0) → ks_W L xs mX4_field rm_X4_field 24 [] [] σ mc ms P) (v3 : (¬ (x2 < 0)) → vp_in x1 600) (k5 : (¬ (x2 < 0)) → ((sf_ σ 1 x1.toNatClampNeg) ≤ x3) → ks_W L xs mX4_field rm_X4_field 24 [] [] σ mc ms P) (k7 : (¬ (x2 < 0)) → (¬ ((sf_ σ 1 x1.toNatClampNeg) ≤ x3)) → (x2 ≤ x3) → ks_W L xs mX4_field rm_X4_field 35 [(0, .ref 0), (1, .int x1), (2, .int x2), (3, .int x3)] [.ref 0] σ mc ms P) (k8 : (¬ (x2 < 0)) → (¬ ((sf_ σ 1 x1.toNatClampNeg) ≤ x3)) → (¬ (x2 ≤ x3)) → ks_W L xs mX4_field rm_X4_field 24 [] [] σ mc ms P) : ks_W L xs mX4_field rm_X4_field 5 [(0, .ref 0), (1, .int x1), (2, .int x2), (3, .int x3)] [] σ mc ms P := by
  refine ka_iload_n d_X4_field_5 rfl rfl 2 rfl ?_
  refine ka_if_lt (tgt := 24) d_X4_field_6 (by decide) rfl (fun c1 => ?_) (fun c1 => ?_)
  · refine ka_sub [] rfl ?_
    exact (k2 c1)
  · refine ka_iload_n d_X4_field_9 rfl rfl 3 rfl ?_
    refine ka_aload_n d_X4_field_10 rfl rfl 0 rfl ?_
    refine gf_X4_1 d_X4_field_11 rfl fl_X4_9 ?_
    refine ka_iload_n d_X4_field_14 rfl rfl 1 rfl ?_
    refine ks_iald row_1 d_X4_field_15 rfl (v3 c1) ?_
    refine ka_icmp_ge (tgt := 24) d_X4_field_16 (by decide) rfl (fun c4 => ?_) (fun c4 => ?_)
    · refine ka_sub [] rfl ?_
      exact (k5 c1 c4)
    · refine ka_iload_n d_X4_field_19 rfl rfl 2 rfl ?_
      refine ka_iload_n d_X4_field_20 rfl rfl 3 rfl ?_
      refine ka_icmp_le (tgt := 34) d_X4_field_21 (by decide) rfl (fun c6 => ?_) (fun c6 => ?_)
      · refine ka_aload_n d_X4_field_34 rfl rfl 0 rfl ?_
        exact (k7 c1 c4 c6)
      · refine ka_sub [] rfl ?_
        exact (k8 c1 c4 c6)
theorem sg_X4_field_24 {L : Nat} {xs : Nat → Int32} {σ : ks_St} {mc ms : Nat} {P : ka_O → ks_St → Prop}   (hmc : 1 ≤ mc) (hms : 6 ≤ ms) (t1 : P (.inr "java/lang/IllegalArgumentException") σ) : ks_W L xs mX4_field rm_X4_field 24 [] [] σ mc ms P := by
  exact ks_throw d_X4_field_24 d_X4_field_27 d_X4_field_28 d_X4_field_30 d_X4_field_33 (text := "the word has no such field") (by decide) th_iae rfl (by decide) (Nat.le_of_ble_eq_true rfl) hmc hms t1
theorem cs_X4_field_35 {L : Nat} {xs : Nat → Int32} {σ : ks_St} {mc ms : Nat} {P : ka_O → ks_St → Prop} {f : ks_St → Prop} {g : String → ks_St → Prop} {x1 : Int32} {x2 : Int32} {x3 : Int32} (hK : ks_M L xs mX4_requireRoom rm_X4_requireRoom [.ref 0] σ (px_ (pv_ f) g)) (kx : ∀ E σ', g E σ' → P (.inr E) σ') (kr : ∀ σ', f σ' → ks_W L xs mX4_field rm_X4_field 38 [(0, .ref 0), (1, .int x1), (2, .int x2), (3, .int x3)] [] σ' mc ms P) : ks_W L xs mX4_field rm_X4_field 35 [(0, .ref 0), (1, .int x1), (2, .int x2), (3, .int x3)] [.ref 0] σ (mc + 1) (ms + 6) P := by
  refine ks_callV (q := 38) (o := 0) (ci := 4) (As := []) (st := []) d_X4_field_35 rfl rfl (by decide) rfl rfl lk_X4_53 ⟨by decide, by decide⟩ (Nat.le_of_ble_eq_true rfl) ⟨Nat.le_refl _, Nat.le_refl _⟩ hK (fun v σ' hq => ?_) (fun E σ' hq => ?_)
  · rcases hq with hq | ⟨E, e, -⟩
    · obtain ⟨e, hf⟩ := hq; cases e; exact kr σ' hf
    · cases e
  · rcases hq with hq | ⟨E', e, hg⟩
    · obtain ⟨e, hf⟩ := hq; cases e
    · cases e; exact ⟨rfl, kx _ σ' hg⟩
theorem sg_X4_field_38 {L : Nat} {xs : Nat → Int32} {σ : ks_St} {mc ms : Nat} {P : ka_O → ks_St → Prop} {x1 : Int32} {x2 : Int32} {x3 : Int32}  (k1 : ks_W L xs mX4_field rm_X4_field 44 [(0, .ref 0), (2, .int x2), (3, .int x3)] [.ref 3, .int x1, .ref 0] σ mc ms P) : ks_W L xs mX4_field rm_X4_field 38 [(0, .ref 0), (1, .int x1), (2, .int x2), (3, .int x3)] [] σ mc ms P := by
  refine ka_aload_n d_X4_field_38 rfl rfl 0 rfl ?_
  refine ka_iload_n d_X4_field_39 rfl rfl 1 rfl ?_
  refine ka_aload_n d_X4_field_40 rfl rfl 0 rfl ?_
  refine gf_X4_4 d_X4_field_41 rfl fl_X4_21 ?_
  refine ka_sub [0, 2, 3] rfl ?_
  exact k1
theorem cs_X4_field_44 {L : Nat} {xs : Nat → Int32} {σ : ks_St} {mc ms : Nat} {P : ka_O → ks_St → Prop} {f : ks_St → Prop} {x2 : Int32} {x3 : Int32} {s1 : Int32} (hK : ks_M L xs mX4_load rm_X4_load [.ref 0, .int s1, .ref 3] σ (pv_ f)) (kr : ∀ σ', f σ' → ks_W L xs mX4_field rm_X4_field 47 [(0, .ref 0), (2, .int x2), (3, .int x3)] [] σ' mc ms P) : ks_W L xs mX4_field rm_X4_field 44 [(0, .ref 0), (2, .int x2), (3, .int x3)] [.ref 3, .int s1, .ref 0] σ mc ms P := by
  refine ks_callV (q := 47) (o := 0) (ci := 4) (As := [.int s1, .ref 3]) (st := []) d_X4_field_44 rfl rfl (by decide) rfl rfl lk_X4_91 ⟨by decide, by decide⟩ (Nat.le_of_ble_eq_true rfl) ⟨Nat.le_refl _, Nat.le_refl _⟩ hK (fun v σ' hq => ?_) (fun E σ' hq => ?_)
  · obtain ⟨e, hf⟩ := hq; cases e; exact kr σ' hf
  · obtain ⟨e, hf⟩ := hq; cases e
theorem sg_X4_field_47 {L : Nat} {xs : Nat → Int32} {σ : ks_St} {mc ms : Nat} {P : ka_O → ks_St → Prop} {x2 : Int32} {x3 : Int32}  (k1 : ks_W L xs mX4_field rm_X4_field 57 [(0, .ref 0), (2, .int x2), (3, .int x3)] [.ref 5, .int (-x2), .ref 3] σ mc ms P) : ks_W L xs mX4_field rm_X4_field 47 [(0, .ref 0), (2, .int x2), (3, .int x3)] [] σ mc ms P := by
  refine ka_aload_n d_X4_field_47 rfl rfl 0 rfl ?_
  refine gf_X4_4 d_X4_field_48 rfl fl_X4_21 ?_
  refine ka_iload_n d_X4_field_51 rfl rfl 1 rfl ?_
  refine ka_ineg d_X4_field_52 rfl ?_
  refine ka_aload_n d_X4_field_53 rfl rfl 0 rfl ?_
  refine gf_X4_6 d_X4_field_54 rfl fl_X4_27 ?_
  exact k1
theorem cs_X4_field_57 {L : Nat} {xs : Nat → Int32} {σ : ks_St} {mc ms : Nat} {P : ka_O → ks_St → Prop} {f : ks_St → Prop} {x2 : Int32} {x3 : Int32} {s1 : Int32} (hK : ks_M L xs mX3_moveUp rm_X3_moveUp [.ref 3, .int s1, .ref 5] σ (pv_ f)) (kr : ∀ σ', f σ' → ks_W L xs mX4_field rm_X4_field 60 [(0, .ref 0), (2, .int x2), (3, .int x3)] [] σ' mc ms P) : ks_W L xs mX4_field rm_X4_field 57 [(0, .ref 0), (2, .int x2), (3, .int x3)] [.ref 5, .int s1, .ref 3] σ mc ms P := by
  refine ks_callS (q := 60) (As := [.ref 3, .int s1, .ref 5]) (st := []) d_X4_field_57 rfl rfl lk_X4_124 ⟨by decide, by decide⟩ (Nat.le_of_ble_eq_true rfl) ⟨Nat.le_refl _, Nat.le_refl _⟩ hK (fun v σ' hq => ?_) (fun E σ' hq => ?_)
  · obtain ⟨e, hf⟩ := hq; cases e; exact kr σ' hf
  · obtain ⟨e, hf⟩ := hq; cases e
theorem sg_X4_field_60 {L : Nat} {xs : Nat → Int32} {σ : ks_St} {mc ms : Nat} {P : ka_O → ks_St → Prop} {x2 : Int32} {x3 : Int32}  (k1 : ks_W L xs mX4_field rm_X4_field 66 [] [.int ((x3 - x2) + 1), .ref 0] σ mc ms P) : ks_W L xs mX4_field rm_X4_field 60 [(0, .ref 0), (2, .int x2), (3, .int x3)] [] σ mc ms P := by
  refine ka_aload_n d_X4_field_60 rfl rfl 0 rfl ?_
  refine ka_iload_n d_X4_field_61 rfl rfl 2 rfl ?_
  refine ka_iload_n d_X4_field_62 rfl rfl 1 rfl ?_
  refine ka_isub d_X4_field_63 rfl ?_
  refine ka_iconst (v := 1) d_X4_field_64 rfl (by decide) ?_
  refine ka_iadd d_X4_field_65 rfl ?_
  refine ka_sub [] rfl ?_
  exact k1
theorem cs_X4_field_66 {L : Nat} {xs : Nat → Int32} {σ : ks_St} {mc ms : Nat} {P : ka_O → ks_St → Prop} {f : Int32 → ks_St → Prop} {s1 : Int32} (hK : ks_M L xs mX4_keepMade rm_X4_keepMade [.ref 0, .int s1] σ (pi_ f)) (kr : ∀ r σ', f r σ' → ks_W L xs mX4_field rm_X4_field 69 [] [.int r] σ' mc ms P) : ks_W L xs mX4_field rm_X4_field 66 [] [.int s1, .ref 0] σ mc ms P := by
  refine ks_callV (q := 69) (o := 0) (ci := 4) (As := [.int s1]) (st := []) d_X4_field_66 rfl rfl (by decide) rfl rfl lk_X4_62 ⟨by decide, by decide⟩ (Nat.le_of_ble_eq_true rfl) ⟨Nat.le_refl _, Nat.le_refl _⟩ hK (fun v σ' hq => ?_) (fun E σ' hq => ?_)
  · obtain ⟨r, e, hf⟩ := hq; cases e; exact kr r σ' hf
  · obtain ⟨r, e, hf⟩ := hq; cases e
theorem sg_X4_field_69 {L : Nat} {xs : Nat → Int32} {σ : ks_St} {mc ms : Nat} {P : ka_O → ks_St → Prop} {s0 : Int32}  (r1 : P (.inl (some (.int s0))) σ) : ks_W L xs mX4_field rm_X4_field 69 [] [.int s0] σ mc ms P := by
  exact ks_iret (ty := .int) d_X4_field_69 rfl rfl r1
theorem d_X4_join_0 : decode cX4_join 0 = .ok (.aload_n 0, 1) := by decide +kernel
theorem d_X4_join_1 : decode cX4_join 1 = .ok (.iload_n 1, 1) := by decide +kernel
theorem d_X4_join_2 : decode cX4_join 2 = .ok (.invokevirtual 66, 3) := by decide +kernel
theorem d_X4_join_5 : decode cX4_join 5 = .ok (.aload_n 0, 1) := by decide +kernel
theorem d_X4_join_6 : decode cX4_join 6 = .ok (.iload_n 2, 1) := by decide +kernel
theorem d_X4_join_7 : decode cX4_join 7 = .ok (.invokevirtual 66, 3) := by decide +kernel
theorem d_X4_join_10 : decode cX4_join 10 = .ok (.aload_n 0, 1) := by decide +kernel
theorem d_X4_join_11 : decode cX4_join 11 = .ok (.getfield 9, 3) := by decide +kernel
theorem d_X4_join_14 : decode cX4_join 14 = .ok (.iload_n 1, 1) := by decide +kernel
theorem d_X4_join_15 : decode cX4_join 15 = .ok (.iaload, 1) := by decide +kernel
theorem d_X4_join_16 : decode cX4_join 16 = .ok (.aload_n 0, 1) := by decide +kernel
theorem d_X4_join_17 : decode cX4_join 17 = .ok (.getfield 9, 3) := by decide +kernel
theorem d_X4_join_20 : decode cX4_join 20 = .ok (.iload_n 2, 1) := by decide +kernel
theorem d_X4_join_21 : decode cX4_join 21 = .ok (.iaload, 1) := by decide +kernel
theorem d_X4_join_22 : decode cX4_join 22 = .ok (.iadd, 1) := by decide +kernel
theorem d_X4_join_23 : decode cX4_join 23 = .ok (.istore_n 3, 1) := by decide +kernel
theorem d_X4_join_24 : decode cX4_join 24 = .ok (.iload_n 3, 1) := by decide +kernel
theorem d_X4_join_25 : decode cX4_join 25 = .ok (.sipush 512, 3) := by decide +kernel
theorem d_X4_join_28 : decode cX4_join 28 = .ok (.if_icmp .le 13, 3) := by decide +kernel
theorem d_X4_join_31 : decode cX4_join 31 = .ok (.new 84, 3) := by decide +kernel
theorem d_X4_join_34 : decode cX4_join 34 = .ok (.dup, 1) := by decide +kernel
theorem d_X4_join_35 : decode cX4_join 35 = .ok (.ldc 128, 2) := by decide +kernel
theorem d_X4_join_37 : decode cX4_join 37 = .ok (.invokespecial 88, 3) := by decide +kernel
theorem d_X4_join_40 : decode cX4_join 40 = .ok (.athrow, 1) := by decide +kernel
theorem d_X4_join_41 : decode cX4_join 41 = .ok (.aload_n 0, 1) := by decide +kernel
theorem d_X4_join_42 : decode cX4_join 42 = .ok (.invokevirtual 53, 3) := by decide +kernel
theorem d_X4_join_45 : decode cX4_join 45 = .ok (.aload_n 0, 1) := by decide +kernel
theorem d_X4_join_46 : decode cX4_join 46 = .ok (.iload_n 1, 1) := by decide +kernel
theorem d_X4_join_47 : decode cX4_join 47 = .ok (.aload_n 0, 1) := by decide +kernel
theorem d_X4_join_48 : decode cX4_join 48 = .ok (.getfield 21, 3) := by decide +kernel
theorem d_X4_join_51 : decode cX4_join 51 = .ok (.invokevirtual 91, 3) := by decide +kernel
theorem d_X4_join_54 : decode cX4_join 54 = .ok (.aload_n 0, 1) := by decide +kernel
theorem d_X4_join_55 : decode cX4_join 55 = .ok (.iload_n 2, 1) := by decide +kernel
theorem d_X4_join_56 : decode cX4_join 56 = .ok (.aload_n 0, 1) := by decide +kernel
theorem d_X4_join_57 : decode cX4_join 57 = .ok (.getfield 27, 3) := by decide +kernel
theorem d_X4_join_60 : decode cX4_join 60 = .ok (.invokevirtual 91, 3) := by decide +kernel
theorem d_X4_join_63 : decode cX4_join 63 = .ok (.aload_n 0, 1) := by decide +kernel
theorem d_X4_join_64 : decode cX4_join 64 = .ok (.getfield 21, 3) := by decide +kernel
theorem d_X4_join_67 : decode cX4_join 67 = .ok (.aload_n 0, 1) := by decide +kernel
theorem d_X4_join_68 : decode cX4_join 68 = .ok (.getfield 9, 3) := by decide +kernel
theorem d_X4_join_71 : decode cX4_join 71 = .ok (.iload_n 2, 1) := by decide +kernel
theorem d_X4_join_72 : decode cX4_join 72 = .ok (.iaload, 1) := by decide +kernel
theorem d_X4_join_73 : decode cX4_join 73 = .ok (.aload_n 0, 1) := by decide +kernel
theorem d_X4_join_74 : decode cX4_join 74 = .ok (.getfield 27, 3) := by decide +kernel
theorem d_X4_join_77 : decode cX4_join 77 = .ok (.invokestatic 130, 3) := by decide +kernel
theorem d_X4_join_80 : decode cX4_join 80 = .ok (.aload_n 0, 1) := by decide +kernel
theorem d_X4_join_81 : decode cX4_join 81 = .ok (.iload_n 3, 1) := by decide +kernel
theorem d_X4_join_82 : decode cX4_join 82 = .ok (.invokevirtual 62, 3) := by decide +kernel
theorem d_X4_join_85 : decode cX4_join 85 = .ok (.ireturn, 1) := by decide +kernel
theorem sg_X4_join_0 {L : Nat} {xs : Nat → Int32} {σ : ks_St} {mc ms : Nat} {P : ka_O → ks_St → Prop} {x1 : Int32} {x2 : Int32}  (k1 : ks_W L xs mX4_join rm_X4_join 2 [(0, .ref 0), (1, .int x1), (2, .int x2)] [.int x1, .ref 0] σ mc ms P) : ks_W L xs mX4_join rm_X4_join 0 [(0, .ref 0), (1, .int x1), (2, .int x2)] [] σ mc ms P := by
  refine ka_aload_n d_X4_join_0 rfl rfl 0 rfl ?_
  refine ka_iload_n d_X4_join_1 rfl rfl 1 rfl ?_
  exact k1
theorem cs_X4_join_2 {L : Nat} {xs : Nat → Int32} {σ : ks_St} {mc ms : Nat} {P : ka_O → ks_St → Prop} {f : ks_St → Prop} {g : String → ks_St → Prop} {x1 : Int32} {x2 : Int32} {s1 : Int32} (hK : ks_M L xs mX4_requireWord rm_X4_requireWord [.ref 0, .int s1] σ (px_ (pv_ f) g)) (kx : ∀ E σ', g E σ' → P (.inr E) σ') (kr : ∀ σ', f σ' → ks_W L xs mX4_join rm_X4_join 5 [(0, .ref 0), (1, .int x1), (2, .int x2)] [] σ' mc ms P) : ks_W L xs mX4_join rm_X4_join 2 [(0, .ref 0), (1, .int x1), (2, .int x2)] [.int s1, .ref 0] σ (mc + 1) (ms + 6) P := by
  refine ks_callV (q := 5) (o := 0) (ci := 4) (As := [.int s1]) (st := []) d_X4_join_2 rfl rfl (by decide) rfl rfl lk_X4_66 ⟨by decide, by decide⟩ (Nat.le_of_ble_eq_true rfl) ⟨Nat.le_refl _, Nat.le_refl _⟩ hK (fun v σ' hq => ?_) (fun E σ' hq => ?_)
  · rcases hq with hq | ⟨E, e, -⟩
    · obtain ⟨e, hf⟩ := hq; cases e; exact kr σ' hf
    · cases e
  · rcases hq with hq | ⟨E', e, hg⟩
    · obtain ⟨e, hf⟩ := hq; cases e
    · cases e; exact ⟨rfl, kx _ σ' hg⟩
theorem sg_X4_join_5 {L : Nat} {xs : Nat → Int32} {σ : ks_St} {mc ms : Nat} {P : ka_O → ks_St → Prop} {x1 : Int32} {x2 : Int32}  (k1 : ks_W L xs mX4_join rm_X4_join 7 [(0, .ref 0), (1, .int x1), (2, .int x2)] [.int x2, .ref 0] σ mc ms P) : ks_W L xs mX4_join rm_X4_join 5 [(0, .ref 0), (1, .int x1), (2, .int x2)] [] σ mc ms P := by
  refine ka_aload_n d_X4_join_5 rfl rfl 0 rfl ?_
  refine ka_iload_n d_X4_join_6 rfl rfl 2 rfl ?_
  exact k1
theorem cs_X4_join_7 {L : Nat} {xs : Nat → Int32} {σ : ks_St} {mc ms : Nat} {P : ka_O → ks_St → Prop} {f : ks_St → Prop} {g : String → ks_St → Prop} {x1 : Int32} {x2 : Int32} {s1 : Int32} (hK : ks_M L xs mX4_requireWord rm_X4_requireWord [.ref 0, .int s1] σ (px_ (pv_ f) g)) (kx : ∀ E σ', g E σ' → P (.inr E) σ') (kr : ∀ σ', f σ' → ks_W L xs mX4_join rm_X4_join 10 [(0, .ref 0), (1, .int x1), (2, .int x2)] [] σ' mc ms P) : ks_W L xs mX4_join rm_X4_join 7 [(0, .ref 0), (1, .int x1), (2, .int x2)] [.int s1, .ref 0] σ (mc + 1) (ms + 6) P := by
  refine ks_callV (q := 10) (o := 0) (ci := 4) (As := [.int s1]) (st := []) d_X4_join_7 rfl rfl (by decide) rfl rfl lk_X4_66 ⟨by decide, by decide⟩ (Nat.le_of_ble_eq_true rfl) ⟨Nat.le_refl _, Nat.le_refl _⟩ hK (fun v σ' hq => ?_) (fun E σ' hq => ?_)
  · rcases hq with hq | ⟨E, e, -⟩
    · obtain ⟨e, hf⟩ := hq; cases e; exact kr σ' hf
    · cases e
  · rcases hq with hq | ⟨E', e, hg⟩
    · obtain ⟨e, hf⟩ := hq; cases e
    · cases e; exact ⟨rfl, kx _ σ' hg⟩
theorem sg_X4_join_10 {L : Nat} {xs : Nat → Int32} {σ : ks_St} {mc ms : Nat} {P : ka_O → ks_St → Prop} {x1 : Int32} {x2 : Int32}  (hmc : 1 ≤ mc) (hms : 6 ≤ ms) (v1 : vp_in x1 600) (v2 : vp_in x2 600) (k4 : (((sf_ σ 1 x1.toNatClampNeg) + (sf_ σ 1 x2.toNatClampNeg)) ≤ 512) → ks_W L xs mX4_join rm_X4_join 42 [(0, .ref 0), (1, .int x1), (2, .int x2), (3, .int ((sf_ σ 1 x1.toNatClampNeg) + (sf_ σ 1 x2.toNatClampNeg)))] [.ref 0] σ mc ms P) (t5 : (¬ (((sf_ σ 1 x1.toNatClampNeg) + (sf_ σ 1 x2.toNatClampNeg)) ≤ 512)) → P (.inr "java/lang/IllegalArgumentException") σ) : ks_W L xs mX4_join rm_X4_join 10 [(0, .ref 0), (1, .int x1), (2, .int x2)] [] σ mc ms P := by
  refine ka_aload_n d_X4_join_10 rfl rfl 0 rfl ?_
  refine gf_X4_1 d_X4_join_11 rfl fl_X4_9 ?_
  refine ka_iload_n d_X4_join_14 rfl rfl 1 rfl ?_
  refine ks_iald row_1 d_X4_join_15 rfl v1 ?_
  refine ka_aload_n d_X4_join_16 rfl rfl 0 rfl ?_
  refine gf_X4_1 d_X4_join_17 rfl fl_X4_9 ?_
  refine ka_iload_n d_X4_join_20 rfl rfl 2 rfl ?_
  refine ks_iald row_1 d_X4_join_21 rfl v2 ?_
  refine ka_iadd d_X4_join_22 rfl ?_
  refine ka_istore_n (ls' := [(3, .int ((sf_ σ 1 x1.toNatClampNeg) + (sf_ σ 1 x2.toNatClampNeg))), (0, .ref 0), (1, .int x1), (2, .int x2)]) d_X4_join_23 rfl rfl (by decide) rfl ?_
  refine ka_iload_n d_X4_join_24 rfl rfl 0 rfl ?_
  refine ka_sipush (v := 512) d_X4_join_25 rfl (by decide) ?_
  refine ka_icmp_le (tgt := 41) d_X4_join_28 (by decide) rfl (fun c3 => ?_) (fun c3 => ?_)
  · refine ka_aload_n d_X4_join_41 rfl rfl 1 rfl ?_
    refine ka_sub [1, 2, 3, 0] rfl ?_
    exact (k4 c3)
  · exact ks_throw d_X4_join_31 d_X4_join_34 d_X4_join_35 d_X4_join_37 d_X4_join_40 (text := "both have more than 512 bits") (by decide) th_iae rfl (by decide) (Nat.le_of_ble_eq_true rfl) hmc hms (t5 c3)
theorem cs_X4_join_42 {L : Nat} {xs : Nat → Int32} {σ : ks_St} {mc ms : Nat} {P : ka_O → ks_St → Prop} {f : ks_St → Prop} {g : String → ks_St → Prop} {x1 : Int32} {x2 : Int32} {x3 : Int32} (hK : ks_M L xs mX4_requireRoom rm_X4_requireRoom [.ref 0] σ (px_ (pv_ f) g)) (kx : ∀ E σ', g E σ' → P (.inr E) σ') (kr : ∀ σ', f σ' → ks_W L xs mX4_join rm_X4_join 45 [(0, .ref 0), (1, .int x1), (2, .int x2), (3, .int x3)] [] σ' mc ms P) : ks_W L xs mX4_join rm_X4_join 42 [(0, .ref 0), (1, .int x1), (2, .int x2), (3, .int x3)] [.ref 0] σ (mc + 1) (ms + 6) P := by
  refine ks_callV (q := 45) (o := 0) (ci := 4) (As := []) (st := []) d_X4_join_42 rfl rfl (by decide) rfl rfl lk_X4_53 ⟨by decide, by decide⟩ (Nat.le_of_ble_eq_true rfl) ⟨Nat.le_refl _, Nat.le_refl _⟩ hK (fun v σ' hq => ?_) (fun E σ' hq => ?_)
  · rcases hq with hq | ⟨E, e, -⟩
    · obtain ⟨e, hf⟩ := hq; cases e; exact kr σ' hf
    · cases e
  · rcases hq with hq | ⟨E', e, hg⟩
    · obtain ⟨e, hf⟩ := hq; cases e
    · cases e; exact ⟨rfl, kx _ σ' hg⟩
theorem sg_X4_join_45 {L : Nat} {xs : Nat → Int32} {σ : ks_St} {mc ms : Nat} {P : ka_O → ks_St → Prop} {x1 : Int32} {x2 : Int32} {x3 : Int32}  (k1 : ks_W L xs mX4_join rm_X4_join 51 [(0, .ref 0), (2, .int x2), (3, .int x3)] [.ref 3, .int x1, .ref 0] σ mc ms P) : ks_W L xs mX4_join rm_X4_join 45 [(0, .ref 0), (1, .int x1), (2, .int x2), (3, .int x3)] [] σ mc ms P := by
  refine ka_aload_n d_X4_join_45 rfl rfl 0 rfl ?_
  refine ka_iload_n d_X4_join_46 rfl rfl 1 rfl ?_
  refine ka_aload_n d_X4_join_47 rfl rfl 0 rfl ?_
  refine gf_X4_4 d_X4_join_48 rfl fl_X4_21 ?_
  refine ka_sub [0, 2, 3] rfl ?_
  exact k1
theorem cs_X4_join_51 {L : Nat} {xs : Nat → Int32} {σ : ks_St} {mc ms : Nat} {P : ka_O → ks_St → Prop} {f : ks_St → Prop} {x2 : Int32} {x3 : Int32} {s1 : Int32} (hK : ks_M L xs mX4_load rm_X4_load [.ref 0, .int s1, .ref 3] σ (pv_ f)) (kr : ∀ σ', f σ' → ks_W L xs mX4_join rm_X4_join 54 [(0, .ref 0), (2, .int x2), (3, .int x3)] [] σ' mc ms P) : ks_W L xs mX4_join rm_X4_join 51 [(0, .ref 0), (2, .int x2), (3, .int x3)] [.ref 3, .int s1, .ref 0] σ mc ms P := by
  refine ks_callV (q := 54) (o := 0) (ci := 4) (As := [.int s1, .ref 3]) (st := []) d_X4_join_51 rfl rfl (by decide) rfl rfl lk_X4_91 ⟨by decide, by decide⟩ (Nat.le_of_ble_eq_true rfl) ⟨Nat.le_refl _, Nat.le_refl _⟩ hK (fun v σ' hq => ?_) (fun E σ' hq => ?_)
  · obtain ⟨e, hf⟩ := hq; cases e; exact kr σ' hf
  · obtain ⟨e, hf⟩ := hq; cases e
theorem sg_X4_join_54 {L : Nat} {xs : Nat → Int32} {σ : ks_St} {mc ms : Nat} {P : ka_O → ks_St → Prop} {x2 : Int32} {x3 : Int32}  (k1 : ks_W L xs mX4_join rm_X4_join 60 [(0, .ref 0), (2, .int x2), (3, .int x3)] [.ref 5, .int x2, .ref 0] σ mc ms P) : ks_W L xs mX4_join rm_X4_join 54 [(0, .ref 0), (2, .int x2), (3, .int x3)] [] σ mc ms P := by
  refine ka_aload_n d_X4_join_54 rfl rfl 0 rfl ?_
  refine ka_iload_n d_X4_join_55 rfl rfl 1 rfl ?_
  refine ka_aload_n d_X4_join_56 rfl rfl 0 rfl ?_
  refine gf_X4_6 d_X4_join_57 rfl fl_X4_27 ?_
  exact k1
theorem cs_X4_join_60 {L : Nat} {xs : Nat → Int32} {σ : ks_St} {mc ms : Nat} {P : ka_O → ks_St → Prop} {f : ks_St → Prop} {x2 : Int32} {x3 : Int32} {s1 : Int32} (hK : ks_M L xs mX4_load rm_X4_load [.ref 0, .int s1, .ref 5] σ (pv_ f)) (kr : ∀ σ', f σ' → ks_W L xs mX4_join rm_X4_join 63 [(0, .ref 0), (2, .int x2), (3, .int x3)] [] σ' mc ms P) : ks_W L xs mX4_join rm_X4_join 60 [(0, .ref 0), (2, .int x2), (3, .int x3)] [.ref 5, .int s1, .ref 0] σ mc ms P := by
  refine ks_callV (q := 63) (o := 0) (ci := 4) (As := [.int s1, .ref 5]) (st := []) d_X4_join_60 rfl rfl (by decide) rfl rfl lk_X4_91 ⟨by decide, by decide⟩ (Nat.le_of_ble_eq_true rfl) ⟨Nat.le_refl _, Nat.le_refl _⟩ hK (fun v σ' hq => ?_) (fun E σ' hq => ?_)
  · obtain ⟨e, hf⟩ := hq; cases e; exact kr σ' hf
  · obtain ⟨e, hf⟩ := hq; cases e
theorem sg_X4_join_63 {L : Nat} {xs : Nat → Int32} {σ : ks_St} {mc ms : Nat} {P : ka_O → ks_St → Prop} {x2 : Int32} {x3 : Int32}  (v1 : vp_in x2 600) (k2 : ks_W L xs mX4_join rm_X4_join 77 [(0, .ref 0), (3, .int x3)] [.ref 5, .int (sf_ σ 1 x2.toNatClampNeg), .ref 3] σ mc ms P) : ks_W L xs mX4_join rm_X4_join 63 [(0, .ref 0), (2, .int x2), (3, .int x3)] [] σ mc ms P := by
  refine ka_aload_n d_X4_join_63 rfl rfl 0 rfl ?_
  refine gf_X4_4 d_X4_join_64 rfl fl_X4_21 ?_
  refine ka_aload_n d_X4_join_67 rfl rfl 0 rfl ?_
  refine gf_X4_1 d_X4_join_68 rfl fl_X4_9 ?_
  refine ka_iload_n d_X4_join_71 rfl rfl 1 rfl ?_
  refine ks_iald row_1 d_X4_join_72 rfl v1 ?_
  refine ka_aload_n d_X4_join_73 rfl rfl 0 rfl ?_
  refine gf_X4_6 d_X4_join_74 rfl fl_X4_27 ?_
  refine ka_sub [0, 2] rfl ?_
  exact k2
theorem cs_X4_join_77 {L : Nat} {xs : Nat → Int32} {σ : ks_St} {mc ms : Nat} {P : ka_O → ks_St → Prop} {f : ks_St → Prop} {x3 : Int32} {s1 : Int32} (hK : ks_M L xs mX3_orMovedUp rm_X3_orMovedUp [.ref 3, .int s1, .ref 5] σ (pv_ f)) (kr : ∀ σ', f σ' → ks_W L xs mX4_join rm_X4_join 80 [(0, .ref 0), (3, .int x3)] [] σ' mc ms P) : ks_W L xs mX4_join rm_X4_join 77 [(0, .ref 0), (3, .int x3)] [.ref 5, .int s1, .ref 3] σ mc ms P := by
  refine ks_callS (q := 80) (As := [.ref 3, .int s1, .ref 5]) (st := []) d_X4_join_77 rfl rfl lk_X4_130 ⟨by decide, by decide⟩ (Nat.le_of_ble_eq_true rfl) ⟨Nat.le_refl _, Nat.le_refl _⟩ hK (fun v σ' hq => ?_) (fun E σ' hq => ?_)
  · obtain ⟨e, hf⟩ := hq; cases e; exact kr σ' hf
  · obtain ⟨e, hf⟩ := hq; cases e
theorem sg_X4_join_80 {L : Nat} {xs : Nat → Int32} {σ : ks_St} {mc ms : Nat} {P : ka_O → ks_St → Prop} {x3 : Int32}  (k1 : ks_W L xs mX4_join rm_X4_join 82 [] [.int x3, .ref 0] σ mc ms P) : ks_W L xs mX4_join rm_X4_join 80 [(0, .ref 0), (3, .int x3)] [] σ mc ms P := by
  refine ka_aload_n d_X4_join_80 rfl rfl 0 rfl ?_
  refine ka_iload_n d_X4_join_81 rfl rfl 1 rfl ?_
  refine ka_sub [] rfl ?_
  exact k1
theorem cs_X4_join_82 {L : Nat} {xs : Nat → Int32} {σ : ks_St} {mc ms : Nat} {P : ka_O → ks_St → Prop} {f : Int32 → ks_St → Prop} {s1 : Int32} (hK : ks_M L xs mX4_keepMade rm_X4_keepMade [.ref 0, .int s1] σ (pi_ f)) (kr : ∀ r σ', f r σ' → ks_W L xs mX4_join rm_X4_join 85 [] [.int r] σ' mc ms P) : ks_W L xs mX4_join rm_X4_join 82 [] [.int s1, .ref 0] σ mc ms P := by
  refine ks_callV (q := 85) (o := 0) (ci := 4) (As := [.int s1]) (st := []) d_X4_join_82 rfl rfl (by decide) rfl rfl lk_X4_62 ⟨by decide, by decide⟩ (Nat.le_of_ble_eq_true rfl) ⟨Nat.le_refl _, Nat.le_refl _⟩ hK (fun v σ' hq => ?_) (fun E σ' hq => ?_)
  · obtain ⟨r, e, hf⟩ := hq; cases e; exact kr r σ' hf
  · obtain ⟨r, e, hf⟩ := hq; cases e
theorem sg_X4_join_85 {L : Nat} {xs : Nat → Int32} {σ : ks_St} {mc ms : Nat} {P : ka_O → ks_St → Prop} {s0 : Int32}  (r1 : P (.inl (some (.int s0))) σ) : ks_W L xs mX4_join rm_X4_join 85 [] [.int s0] σ mc ms P := by
  exact ks_iret (ty := .int) d_X4_join_85 rfl rfl r1
theorem d_X4_hasBit_0 : decode cX4_hasBit 0 = .ok (.aload_n 0, 1) := by decide +kernel
theorem d_X4_hasBit_1 : decode cX4_hasBit 1 = .ok (.getfield 13, 3) := by decide +kernel
theorem d_X4_hasBit_4 : decode cX4_hasBit 4 = .ok (.iload_n 1, 1) := by decide +kernel
theorem d_X4_hasBit_5 : decode cX4_hasBit 5 = .ok (.bipush 8, 2) := by decide +kernel
theorem d_X4_hasBit_7 : decode cX4_hasBit 7 = .ok (.imul, 1) := by decide +kernel
theorem d_X4_hasBit_8 : decode cX4_hasBit 8 = .ok (.iload_n 2, 1) := by decide +kernel
theorem d_X4_hasBit_9 : decode cX4_hasBit 9 = .ok (.bipush 6, 2) := by decide +kernel
theorem d_X4_hasBit_11 : decode cX4_hasBit 11 = .ok (.ishr, 1) := by decide +kernel
theorem d_X4_hasBit_12 : decode cX4_hasBit 12 = .ok (.iadd, 1) := by decide +kernel
theorem d_X4_hasBit_13 : decode cX4_hasBit 13 = .ok (.laload, 1) := by decide +kernel
theorem d_X4_hasBit_14 : decode cX4_hasBit 14 = .ok (.iload_n 2, 1) := by decide +kernel
theorem d_X4_hasBit_15 : decode cX4_hasBit 15 = .ok (.bipush 63, 2) := by decide +kernel
theorem d_X4_hasBit_17 : decode cX4_hasBit 17 = .ok (.iand, 1) := by decide +kernel
theorem d_X4_hasBit_18 : decode cX4_hasBit 18 = .ok (.lushr, 1) := by decide +kernel
theorem d_X4_hasBit_19 : decode cX4_hasBit 19 = .ok (.lconst 1, 1) := by decide +kernel
theorem d_X4_hasBit_20 : decode cX4_hasBit 20 = .ok (.land, 1) := by decide +kernel
theorem d_X4_hasBit_21 : decode cX4_hasBit 21 = .ok (.lconst 0, 1) := by decide +kernel
theorem d_X4_hasBit_22 : decode cX4_hasBit 22 = .ok (.lcmp, 1) := by decide +kernel
theorem d_X4_hasBit_23 : decode cX4_hasBit 23 = .ok (.ifCond .eq 7, 3) := by decide +kernel
theorem d_X4_hasBit_26 : decode cX4_hasBit 26 = .ok (.iconst 1, 1) := by decide +kernel
theorem d_X4_hasBit_27 : decode cX4_hasBit 27 = .ok (.goto 4, 3) := by decide +kernel
theorem d_X4_hasBit_30 : decode cX4_hasBit 30 = .ok (.iconst 0, 1) := by decide +kernel
theorem d_X4_hasBit_31 : decode cX4_hasBit 31 = .ok (.ireturn, 1) := by decide +kernel
theorem sg_X4_hasBit_0 {L : Nat} {xs : Nat → Int32} {σ : ks_St} {mc ms : Nat} {P : ka_O → ks_St → Prop} {x1 : Int32} {x2 : Int32}  (v1 : vp_in ((x1 * 8) + (x2 >>> ((6 : Int32) &&& 31))) 4800) (k3 : ((lg_cmp (((((sg_ σ 2 ((x1 * 8) + (x2 >>> ((6 : Int32) &&& 31))).toNatClampNeg)).toUInt64 >>> (((x2 &&& 63)).toInt64.toUInt64 &&& Int64.toUInt64 63)).toInt64) &&& 1) 0) = 0) → ks_W L xs mX4_hasBit rm_X4_hasBit 31 [] [.int 0] σ mc ms P) (k4 : (¬ ((lg_cmp (((((sg_ σ 2 ((x1 * 8) + (x2 >>> ((6 : Int32) &&& 31))).toNatClampNeg)).toUInt64 >>> (((x2 &&& 63)).toInt64.toUInt64 &&& Int64.toUInt64 63)).toInt64) &&& 1) 0) = 0)) → ks_W L xs mX4_hasBit rm_X4_hasBit 31 [] [.int 1] σ mc ms P) : ks_W L xs mX4_hasBit rm_X4_hasBit 0 [(0, .ref 0), (1, .int x1), (2, .int x2)] [] σ mc ms P := by
  refine ka_aload_n d_X4_hasBit_0 rfl rfl 0 rfl ?_
  refine gf_X4_2 d_X4_hasBit_1 rfl fl_X4_13 ?_
  refine ka_iload_n d_X4_hasBit_4 rfl rfl 1 rfl ?_
  refine ka_bipush (v := 8) d_X4_hasBit_5 rfl (by decide) ?_
  refine ka_imul d_X4_hasBit_7 rfl ?_
  refine ka_iload_n d_X4_hasBit_8 rfl rfl 2 rfl ?_
  refine ka_bipush (v := 6) d_X4_hasBit_9 rfl (by decide) ?_
  refine ka_ishr d_X4_hasBit_11 rfl ?_
  refine ka_iadd d_X4_hasBit_12 rfl ?_
  refine ks_lald row_2 d_X4_hasBit_13 rfl v1 ?_
  refine ka_iload_n d_X4_hasBit_14 rfl rfl 2 rfl ?_
  refine ka_bipush (v := 63) d_X4_hasBit_15 rfl (by decide) ?_
  refine ka_iand d_X4_hasBit_17 rfl ?_
  refine ka_lushr d_X4_hasBit_18 rfl ?_
  refine ka_lconst (v := 1) d_X4_hasBit_19 rfl (by decide) ?_
  refine ka_land d_X4_hasBit_20 rfl ?_
  refine ka_lconst (v := 0) d_X4_hasBit_21 rfl (by decide) ?_
  refine ka_lcmp d_X4_hasBit_22 rfl ?_
  refine ka_if_eq (tgt := 30) d_X4_hasBit_23 (by decide) rfl (fun c2 => ?_) (fun c2 => ?_)
  · refine ka_iconst (v := 0) d_X4_hasBit_30 rfl (by decide) ?_
    refine ka_sub [] rfl ?_
    exact (k3 c2)
  · refine ka_iconst (v := 1) d_X4_hasBit_26 rfl (by decide) ?_
    refine ka_goto (q := 31) d_X4_hasBit_27 (by decide) ?_
    refine ka_sub [] rfl ?_
    exact (k4 c2)
theorem sg_X4_hasBit_31 {L : Nat} {xs : Nat → Int32} {σ : ks_St} {mc ms : Nat} {P : ka_O → ks_St → Prop} {s0 : Int32}  (b1 : narrow .boolean (.int s0) = .int s0) (r2 : P (.inl (some (.int s0))) σ) : ks_W L xs mX4_hasBit rm_X4_hasBit 31 [] [.int s0] σ mc ms P := by
  exact ks_iret (ty := .boolean) d_X4_hasBit_31 rfl b1 r2
theorem d_X4_isNegative_0 : decode cX4_isNegative 0 = .ok (.aload_n 0, 1) := by decide +kernel
theorem d_X4_isNegative_1 : decode cX4_isNegative 1 = .ok (.iload_n 1, 1) := by decide +kernel
theorem d_X4_isNegative_2 : decode cX4_isNegative 2 = .ok (.aload_n 0, 1) := by decide +kernel
theorem d_X4_isNegative_3 : decode cX4_isNegative 3 = .ok (.getfield 9, 3) := by decide +kernel
theorem d_X4_isNegative_6 : decode cX4_isNegative 6 = .ok (.iload_n 1, 1) := by decide +kernel
theorem d_X4_isNegative_7 : decode cX4_isNegative 7 = .ok (.iaload, 1) := by decide +kernel
theorem d_X4_isNegative_8 : decode cX4_isNegative 8 = .ok (.iconst 1, 1) := by decide +kernel
theorem d_X4_isNegative_9 : decode cX4_isNegative 9 = .ok (.isub, 1) := by decide +kernel
theorem d_X4_isNegative_10 : decode cX4_isNegative 10 = .ok (.invokevirtual 147, 3) := by decide +kernel
theorem d_X4_isNegative_13 : decode cX4_isNegative 13 = .ok (.ireturn, 1) := by decide +kernel
theorem sg_X4_isNegative_0 {L : Nat} {xs : Nat → Int32} {σ : ks_St} {mc ms : Nat} {P : ka_O → ks_St → Prop} {x1 : Int32}  (v1 : vp_in x1 600) (k2 : ks_W L xs mX4_isNegative rm_X4_isNegative 10 [] [.int ((sf_ σ 1 x1.toNatClampNeg) - 1), .int x1, .ref 0] σ mc ms P) : ks_W L xs mX4_isNegative rm_X4_isNegative 0 [(0, .ref 0), (1, .int x1)] [] σ mc ms P := by
  refine ka_aload_n d_X4_isNegative_0 rfl rfl 0 rfl ?_
  refine ka_iload_n d_X4_isNegative_1 rfl rfl 1 rfl ?_
  refine ka_aload_n d_X4_isNegative_2 rfl rfl 0 rfl ?_
  refine gf_X4_1 d_X4_isNegative_3 rfl fl_X4_9 ?_
  refine ka_iload_n d_X4_isNegative_6 rfl rfl 1 rfl ?_
  refine ks_iald row_1 d_X4_isNegative_7 rfl v1 ?_
  refine ka_iconst (v := 1) d_X4_isNegative_8 rfl (by decide) ?_
  refine ka_isub d_X4_isNegative_9 rfl ?_
  refine ka_sub [] rfl ?_
  exact k2
theorem cs_X4_isNegative_10 {L : Nat} {xs : Nat → Int32} {σ : ks_St} {mc ms : Nat} {P : ka_O → ks_St → Prop} {f : Int32 → ks_St → Prop} {s1 : Int32} {s2 : Int32} (hK : ks_M L xs mX4_hasBit rm_X4_hasBit [.ref 0, .int s1, .int s2] σ (pi_ f)) (kr : ∀ r σ', f r σ' → ks_W L xs mX4_isNegative rm_X4_isNegative 13 [] [.int r] σ' mc ms P) : ks_W L xs mX4_isNegative rm_X4_isNegative 10 [] [.int s2, .int s1, .ref 0] σ mc ms P := by
  refine ks_callV (q := 13) (o := 0) (ci := 4) (As := [.int s1, .int s2]) (st := []) d_X4_isNegative_10 rfl rfl (by decide) rfl rfl lk_X4_147 ⟨by decide, by decide⟩ (Nat.le_of_ble_eq_true rfl) ⟨Nat.le_refl _, Nat.le_refl _⟩ hK (fun v σ' hq => ?_) (fun E σ' hq => ?_)
  · obtain ⟨r, e, hf⟩ := hq; cases e; exact kr r σ' hf
  · obtain ⟨r, e, hf⟩ := hq; cases e
theorem sg_X4_isNegative_13 {L : Nat} {xs : Nat → Int32} {σ : ks_St} {mc ms : Nat} {P : ka_O → ks_St → Prop} {s0 : Int32}  (b1 : narrow .boolean (.int s0) = .int s0) (r2 : P (.inl (some (.int s0))) σ) : ks_W L xs mX4_isNegative rm_X4_isNegative 13 [] [.int s0] σ mc ms P := by
  exact ks_iret (ty := .boolean) d_X4_isNegative_13 rfl b1 r2
theorem d_X4_extend_0 : decode cX4_extend 0 = .ok (.aload_n 0, 1) := by decide +kernel
theorem d_X4_extend_1 : decode cX4_extend 1 = .ok (.iload_n 1, 1) := by decide +kernel
theorem d_X4_extend_2 : decode cX4_extend 2 = .ok (.invokevirtual 66, 3) := by decide +kernel
theorem d_X4_extend_5 : decode cX4_extend 5 = .ok (.iload_n 2, 1) := by decide +kernel
theorem d_X4_extend_6 : decode cX4_extend 6 = .ok (.aload_n 0, 1) := by decide +kernel
theorem d_X4_extend_7 : decode cX4_extend 7 = .ok (.getfield 9, 3) := by decide +kernel
theorem d_X4_extend_10 : decode cX4_extend 10 = .ok (.iload_n 1, 1) := by decide +kernel
theorem d_X4_extend_11 : decode cX4_extend 11 = .ok (.iaload, 1) := by decide +kernel
theorem d_X4_extend_12 : decode cX4_extend 12 = .ok (.if_icmp .lt 10, 3) := by decide +kernel
theorem d_X4_extend_15 : decode cX4_extend 15 = .ok (.iload_n 2, 1) := by decide +kernel
theorem d_X4_extend_16 : decode cX4_extend 16 = .ok (.sipush 512, 3) := by decide +kernel
theorem d_X4_extend_19 : decode cX4_extend 19 = .ok (.if_icmp .le 13, 3) := by decide +kernel
theorem d_X4_extend_22 : decode cX4_extend 22 = .ok (.new 84, 3) := by decide +kernel
theorem d_X4_extend_25 : decode cX4_extend 25 = .ok (.dup, 1) := by decide +kernel
theorem d_X4_extend_26 : decode cX4_extend 26 = .ok (.ldc 133, 2) := by decide +kernel
theorem d_X4_extend_28 : decode cX4_extend 28 = .ok (.invokespecial 88, 3) := by decide +kernel
theorem d_X4_extend_31 : decode cX4_extend 31 = .ok (.athrow, 1) := by decide +kernel
theorem d_X4_extend_32 : decode cX4_extend 32 = .ok (.aload_n 0, 1) := by decide +kernel
theorem d_X4_extend_33 : decode cX4_extend 33 = .ok (.invokevirtual 53, 3) := by decide +kernel
theorem d_X4_extend_36 : decode cX4_extend 36 = .ok (.aload_n 0, 1) := by decide +kernel
theorem d_X4_extend_37 : decode cX4_extend 37 = .ok (.iload_n 1, 1) := by decide +kernel
theorem d_X4_extend_38 : decode cX4_extend 38 = .ok (.aload_n 0, 1) := by decide +kernel
theorem d_X4_extend_39 : decode cX4_extend 39 = .ok (.getfield 27, 3) := by decide +kernel
theorem d_X4_extend_42 : decode cX4_extend 42 = .ok (.invokevirtual 91, 3) := by decide +kernel
theorem d_X4_extend_45 : decode cX4_extend 45 = .ok (.iload_n 3, 1) := by decide +kernel
theorem d_X4_extend_46 : decode cX4_extend 46 = .ok (.ifCond .eq 24, 3) := by decide +kernel
theorem d_X4_extend_49 : decode cX4_extend 49 = .ok (.aload_n 0, 1) := by decide +kernel
theorem d_X4_extend_50 : decode cX4_extend 50 = .ok (.iload_n 1, 1) := by decide +kernel
theorem d_X4_extend_51 : decode cX4_extend 51 = .ok (.invokevirtual 135, 3) := by decide +kernel
theorem d_X4_extend_54 : decode cX4_extend 54 = .ok (.ifCond .eq 16, 3) := by decide +kernel
theorem d_X4_extend_57 : decode cX4_extend 57 = .ok (.aload_n 0, 1) := by decide +kernel
theorem d_X4_extend_58 : decode cX4_extend 58 = .ok (.getfield 27, 3) := by decide +kernel
theorem d_X4_extend_61 : decode cX4_extend 61 = .ok (.aload_n 0, 1) := by decide +kernel
theorem d_X4_extend_62 : decode cX4_extend 62 = .ok (.getfield 9, 3) := by decide +kernel
theorem d_X4_extend_65 : decode cX4_extend 65 = .ok (.iload_n 1, 1) := by decide +kernel
theorem d_X4_extend_66 : decode cX4_extend 66 = .ok (.iaload, 1) := by decide +kernel
theorem d_X4_extend_67 : decode cX4_extend 67 = .ok (.invokestatic 139, 3) := by decide +kernel
theorem d_X4_extend_70 : decode cX4_extend 70 = .ok (.aload_n 0, 1) := by decide +kernel
theorem d_X4_extend_71 : decode cX4_extend 71 = .ok (.iload_n 2, 1) := by decide +kernel
theorem d_X4_extend_72 : decode cX4_extend 72 = .ok (.invokevirtual 62, 3) := by decide +kernel
theorem d_X4_extend_75 : decode cX4_extend 75 = .ok (.ireturn, 1) := by decide +kernel
theorem sg_X4_extend_0 {L : Nat} {xs : Nat → Int32} {σ : ks_St} {mc ms : Nat} {P : ka_O → ks_St → Prop} {x1 : Int32} {x2 : Int32} {x3 : Int32}  (k1 : ks_W L xs mX4_extend rm_X4_extend 2 [(0, .ref 0), (1, .int x1), (2, .int x2), (3, .int x3)] [.int x1, .ref 0] σ mc ms P) : ks_W L xs mX4_extend rm_X4_extend 0 [(0, .ref 0), (1, .int x1), (2, .int x2), (3, .int x3)] [] σ mc ms P := by
  refine ka_aload_n d_X4_extend_0 rfl rfl 0 rfl ?_
  refine ka_iload_n d_X4_extend_1 rfl rfl 1 rfl ?_
  exact k1
theorem cs_X4_extend_2 {L : Nat} {xs : Nat → Int32} {σ : ks_St} {mc ms : Nat} {P : ka_O → ks_St → Prop} {f : ks_St → Prop} {g : String → ks_St → Prop} {x1 : Int32} {x2 : Int32} {x3 : Int32} {s1 : Int32} (hK : ks_M L xs mX4_requireWord rm_X4_requireWord [.ref 0, .int s1] σ (px_ (pv_ f) g)) (kx : ∀ E σ', g E σ' → P (.inr E) σ') (kr : ∀ σ', f σ' → ks_W L xs mX4_extend rm_X4_extend 5 [(0, .ref 0), (1, .int x1), (2, .int x2), (3, .int x3)] [] σ' mc ms P) : ks_W L xs mX4_extend rm_X4_extend 2 [(0, .ref 0), (1, .int x1), (2, .int x2), (3, .int x3)] [.int s1, .ref 0] σ (mc + 1) (ms + 6) P := by
  refine ks_callV (q := 5) (o := 0) (ci := 4) (As := [.int s1]) (st := []) d_X4_extend_2 rfl rfl (by decide) rfl rfl lk_X4_66 ⟨by decide, by decide⟩ (Nat.le_of_ble_eq_true rfl) ⟨Nat.le_refl _, Nat.le_refl _⟩ hK (fun v σ' hq => ?_) (fun E σ' hq => ?_)
  · rcases hq with hq | ⟨E, e, -⟩
    · obtain ⟨e, hf⟩ := hq; cases e; exact kr σ' hf
    · cases e
  · rcases hq with hq | ⟨E', e, hg⟩
    · obtain ⟨e, hf⟩ := hq; cases e
    · cases e; exact ⟨rfl, kx _ σ' hg⟩
theorem sg_X4_extend_5 {L : Nat} {xs : Nat → Int32} {σ : ks_St} {mc ms : Nat} {P : ka_O → ks_St → Prop} {x1 : Int32} {x2 : Int32} {x3 : Int32}  (v1 : vp_in x1 600) (k3 : (x2 < (sf_ σ 1 x1.toNatClampNeg)) → ks_W L xs mX4_extend rm_X4_extend 22 [] [] σ mc ms P) (k5 : (¬ (x2 < (sf_ σ 1 x1.toNatClampNeg))) → (x2 ≤ 512) → ks_W L xs mX4_extend rm_X4_extend 33 [(0, .ref 0), (1, .int x1), (2, .int x2), (3, .int x3)] [.ref 0] σ mc ms P) (k6 : (¬ (x2 < (sf_ σ 1 x1.toNatClampNeg))) → (¬ (x2 ≤ 512)) → ks_W L xs mX4_extend rm_X4_extend 22 [] [] σ mc ms P) : ks_W L xs mX4_extend rm_X4_extend 5 [(0, .ref 0), (1, .int x1), (2, .int x2), (3, .int x3)] [] σ mc ms P := by
  refine ka_iload_n d_X4_extend_5 rfl rfl 2 rfl ?_
  refine ka_aload_n d_X4_extend_6 rfl rfl 0 rfl ?_
  refine gf_X4_1 d_X4_extend_7 rfl fl_X4_9 ?_
  refine ka_iload_n d_X4_extend_10 rfl rfl 1 rfl ?_
  refine ks_iald row_1 d_X4_extend_11 rfl v1 ?_
  refine ka_icmp_lt (tgt := 22) d_X4_extend_12 (by decide) rfl (fun c2 => ?_) (fun c2 => ?_)
  · refine ka_sub [] rfl ?_
    exact (k3 c2)
  · refine ka_iload_n d_X4_extend_15 rfl rfl 2 rfl ?_
    refine ka_sipush (v := 512) d_X4_extend_16 rfl (by decide) ?_
    refine ka_icmp_le (tgt := 32) d_X4_extend_19 (by decide) rfl (fun c4 => ?_) (fun c4 => ?_)
    · refine ka_aload_n d_X4_extend_32 rfl rfl 0 rfl ?_
      exact (k5 c2 c4)
    · refine ka_sub [] rfl ?_
      exact (k6 c2 c4)
theorem sg_X4_extend_22 {L : Nat} {xs : Nat → Int32} {σ : ks_St} {mc ms : Nat} {P : ka_O → ks_St → Prop}   (hmc : 1 ≤ mc) (hms : 6 ≤ ms) (t1 : P (.inr "java/lang/IllegalArgumentException") σ) : ks_W L xs mX4_extend rm_X4_extend 22 [] [] σ mc ms P := by
  exact ks_throw d_X4_extend_22 d_X4_extend_25 d_X4_extend_26 d_X4_extend_28 d_X4_extend_31 (text := "the word can't have that width") (by decide) th_iae rfl (by decide) (Nat.le_of_ble_eq_true rfl) hmc hms t1
theorem cs_X4_extend_33 {L : Nat} {xs : Nat → Int32} {σ : ks_St} {mc ms : Nat} {P : ka_O → ks_St → Prop} {f : ks_St → Prop} {g : String → ks_St → Prop} {x1 : Int32} {x2 : Int32} {x3 : Int32} (hK : ks_M L xs mX4_requireRoom rm_X4_requireRoom [.ref 0] σ (px_ (pv_ f) g)) (kx : ∀ E σ', g E σ' → P (.inr E) σ') (kr : ∀ σ', f σ' → ks_W L xs mX4_extend rm_X4_extend 36 [(0, .ref 0), (1, .int x1), (2, .int x2), (3, .int x3)] [] σ' mc ms P) : ks_W L xs mX4_extend rm_X4_extend 33 [(0, .ref 0), (1, .int x1), (2, .int x2), (3, .int x3)] [.ref 0] σ (mc + 1) (ms + 6) P := by
  refine ks_callV (q := 36) (o := 0) (ci := 4) (As := []) (st := []) d_X4_extend_33 rfl rfl (by decide) rfl rfl lk_X4_53 ⟨by decide, by decide⟩ (Nat.le_of_ble_eq_true rfl) ⟨Nat.le_refl _, Nat.le_refl _⟩ hK (fun v σ' hq => ?_) (fun E σ' hq => ?_)
  · rcases hq with hq | ⟨E, e, -⟩
    · obtain ⟨e, hf⟩ := hq; cases e; exact kr σ' hf
    · cases e
  · rcases hq with hq | ⟨E', e, hg⟩
    · obtain ⟨e, hf⟩ := hq; cases e
    · cases e; exact ⟨rfl, kx _ σ' hg⟩
theorem sg_X4_extend_36 {L : Nat} {xs : Nat → Int32} {σ : ks_St} {mc ms : Nat} {P : ka_O → ks_St → Prop} {x1 : Int32} {x2 : Int32} {x3 : Int32}  (k1 : ks_W L xs mX4_extend rm_X4_extend 42 [(0, .ref 0), (1, .int x1), (2, .int x2), (3, .int x3)] [.ref 5, .int x1, .ref 0] σ mc ms P) : ks_W L xs mX4_extend rm_X4_extend 36 [(0, .ref 0), (1, .int x1), (2, .int x2), (3, .int x3)] [] σ mc ms P := by
  refine ka_aload_n d_X4_extend_36 rfl rfl 0 rfl ?_
  refine ka_iload_n d_X4_extend_37 rfl rfl 1 rfl ?_
  refine ka_aload_n d_X4_extend_38 rfl rfl 0 rfl ?_
  refine gf_X4_6 d_X4_extend_39 rfl fl_X4_27 ?_
  exact k1
theorem cs_X4_extend_42 {L : Nat} {xs : Nat → Int32} {σ : ks_St} {mc ms : Nat} {P : ka_O → ks_St → Prop} {f : ks_St → Prop} {x1 : Int32} {x2 : Int32} {x3 : Int32} {s1 : Int32} (hK : ks_M L xs mX4_load rm_X4_load [.ref 0, .int s1, .ref 5] σ (pv_ f)) (kr : ∀ σ', f σ' → ks_W L xs mX4_extend rm_X4_extend 45 [(0, .ref 0), (1, .int x1), (2, .int x2), (3, .int x3)] [] σ' mc ms P) : ks_W L xs mX4_extend rm_X4_extend 42 [(0, .ref 0), (1, .int x1), (2, .int x2), (3, .int x3)] [.ref 5, .int s1, .ref 0] σ mc ms P := by
  refine ks_callV (q := 45) (o := 0) (ci := 4) (As := [.int s1, .ref 5]) (st := []) d_X4_extend_42 rfl rfl (by decide) rfl rfl lk_X4_91 ⟨by decide, by decide⟩ (Nat.le_of_ble_eq_true rfl) ⟨Nat.le_refl _, Nat.le_refl _⟩ hK (fun v σ' hq => ?_) (fun E σ' hq => ?_)
  · obtain ⟨e, hf⟩ := hq; cases e; exact kr σ' hf
  · obtain ⟨e, hf⟩ := hq; cases e
theorem sg_X4_extend_45 {L : Nat} {xs : Nat → Int32} {σ : ks_St} {mc ms : Nat} {P : ka_O → ks_St → Prop} {x1 : Int32} {x2 : Int32} {x3 : Int32}  (k2 : (x3 = 0) → ks_W L xs mX4_extend rm_X4_extend 70 [(0, .ref 0), (2, .int x2)] [] σ mc ms P) (k3 : (¬ (x3 = 0)) → ks_W L xs mX4_extend rm_X4_extend 51 [(0, .ref 0), (1, .int x1), (2, .int x2)] [.int x1, .ref 0] σ mc ms P) : ks_W L xs mX4_extend rm_X4_extend 45 [(0, .ref 0), (1, .int x1), (2, .int x2), (3, .int x3)] [] σ mc ms P := by
  refine ka_iload_n d_X4_extend_45 rfl rfl 3 rfl ?_
  refine ka_if_eq (tgt := 70) d_X4_extend_46 (by decide) rfl (fun c1 => ?_) (fun c1 => ?_)
  · refine ka_sub [0, 2] rfl ?_
    exact (k2 c1)
  · refine ka_aload_n d_X4_extend_49 rfl rfl 0 rfl ?_
    refine ka_iload_n d_X4_extend_50 rfl rfl 1 rfl ?_
    refine ka_sub [0, 1, 2] rfl ?_
    exact (k3 c1)
theorem cs_X4_extend_51 {L : Nat} {xs : Nat → Int32} {σ : ks_St} {mc ms : Nat} {P : ka_O → ks_St → Prop} {f : Int32 → ks_St → Prop} {x1 : Int32} {x2 : Int32} {s1 : Int32} (hK : ks_M L xs mX4_isNegative rm_X4_isNegative [.ref 0, .int s1] σ (pi_ f)) (kr : ∀ r σ', f r σ' → ks_W L xs mX4_extend rm_X4_extend 54 [(0, .ref 0), (1, .int x1), (2, .int x2)] [.int r] σ' mc ms P) : ks_W L xs mX4_extend rm_X4_extend 51 [(0, .ref 0), (1, .int x1), (2, .int x2)] [.int s1, .ref 0] σ mc ms P := by
  refine ks_callV (q := 54) (o := 0) (ci := 4) (As := [.int s1]) (st := []) d_X4_extend_51 rfl rfl (by decide) rfl rfl lk_X4_135 ⟨by decide, by decide⟩ (Nat.le_of_ble_eq_true rfl) ⟨Nat.le_refl _, Nat.le_refl _⟩ hK (fun v σ' hq => ?_) (fun E σ' hq => ?_)
  · obtain ⟨r, e, hf⟩ := hq; cases e; exact kr r σ' hf
  · obtain ⟨r, e, hf⟩ := hq; cases e
theorem sg_X4_extend_54 {L : Nat} {xs : Nat → Int32} {σ : ks_St} {mc ms : Nat} {P : ka_O → ks_St → Prop} {x1 : Int32} {x2 : Int32} {s0 : Int32}  (k2 : (s0 = 0) → ks_W L xs mX4_extend rm_X4_extend 70 [(0, .ref 0), (2, .int x2)] [] σ mc ms P) (v3 : (¬ (s0 = 0)) → vp_in x1 600) (k4 : (¬ (s0 = 0)) → ks_W L xs mX4_extend rm_X4_extend 67 [(0, .ref 0), (2, .int x2)] [.int (sf_ σ 1 x1.toNatClampNeg), .ref 5] σ mc ms P) : ks_W L xs mX4_extend rm_X4_extend 54 [(0, .ref 0), (1, .int x1), (2, .int x2)] [.int s0] σ mc ms P := by
  refine ka_if_eq (tgt := 70) d_X4_extend_54 (by decide) rfl (fun c1 => ?_) (fun c1 => ?_)
  · refine ka_sub [0, 2] rfl ?_
    exact (k2 c1)
  · refine ka_aload_n d_X4_extend_57 rfl rfl 0 rfl ?_
    refine gf_X4_6 d_X4_extend_58 rfl fl_X4_27 ?_
    refine ka_aload_n d_X4_extend_61 rfl rfl 0 rfl ?_
    refine gf_X4_1 d_X4_extend_62 rfl fl_X4_9 ?_
    refine ka_iload_n d_X4_extend_65 rfl rfl 1 rfl ?_
    refine ks_iald row_1 d_X4_extend_66 rfl (v3 c1) ?_
    refine ka_sub [0, 2] rfl ?_
    exact (k4 c1)
theorem cs_X4_extend_67 {L : Nat} {xs : Nat → Int32} {σ : ks_St} {mc ms : Nat} {P : ka_O → ks_St → Prop} {f : ks_St → Prop} {x2 : Int32} {s1 : Int32} (hK : ks_M L xs mX3_fillFrom rm_X3_fillFrom [.ref 5, .int s1] σ (pv_ f)) (kr : ∀ σ', f σ' → ks_W L xs mX4_extend rm_X4_extend 70 [(0, .ref 0), (2, .int x2)] [] σ' mc ms P) : ks_W L xs mX4_extend rm_X4_extend 67 [(0, .ref 0), (2, .int x2)] [.int s1, .ref 5] σ mc ms P := by
  refine ks_callS (q := 70) (As := [.ref 5, .int s1]) (st := []) d_X4_extend_67 rfl rfl lk_X4_139 ⟨by decide, by decide⟩ (Nat.le_of_ble_eq_true rfl) ⟨Nat.le_refl _, Nat.le_refl _⟩ hK (fun v σ' hq => ?_) (fun E σ' hq => ?_)
  · obtain ⟨e, hf⟩ := hq; cases e; exact kr σ' hf
  · obtain ⟨e, hf⟩ := hq; cases e
theorem sg_X4_extend_70 {L : Nat} {xs : Nat → Int32} {σ : ks_St} {mc ms : Nat} {P : ka_O → ks_St → Prop} {x2 : Int32}  (k1 : ks_W L xs mX4_extend rm_X4_extend 72 [] [.int x2, .ref 0] σ mc ms P) : ks_W L xs mX4_extend rm_X4_extend 70 [(0, .ref 0), (2, .int x2)] [] σ mc ms P := by
  refine ka_aload_n d_X4_extend_70 rfl rfl 0 rfl ?_
  refine ka_iload_n d_X4_extend_71 rfl rfl 1 rfl ?_
  refine ka_sub [] rfl ?_
  exact k1
theorem cs_X4_extend_72 {L : Nat} {xs : Nat → Int32} {σ : ks_St} {mc ms : Nat} {P : ka_O → ks_St → Prop} {f : Int32 → ks_St → Prop} {s1 : Int32} (hK : ks_M L xs mX4_keepMade rm_X4_keepMade [.ref 0, .int s1] σ (pi_ f)) (kr : ∀ r σ', f r σ' → ks_W L xs mX4_extend rm_X4_extend 75 [] [.int r] σ' mc ms P) : ks_W L xs mX4_extend rm_X4_extend 72 [] [.int s1, .ref 0] σ mc ms P := by
  refine ks_callV (q := 75) (o := 0) (ci := 4) (As := [.int s1]) (st := []) d_X4_extend_72 rfl rfl (by decide) rfl rfl lk_X4_62 ⟨by decide, by decide⟩ (Nat.le_of_ble_eq_true rfl) ⟨Nat.le_refl _, Nat.le_refl _⟩ hK (fun v σ' hq => ?_) (fun E σ' hq => ?_)
  · obtain ⟨r, e, hf⟩ := hq; cases e; exact kr r σ' hf
  · obtain ⟨r, e, hf⟩ := hq; cases e
theorem sg_X4_extend_75 {L : Nat} {xs : Nat → Int32} {σ : ks_St} {mc ms : Nat} {P : ka_O → ks_St → Prop} {s0 : Int32}  (r1 : P (.inl (some (.int s0))) σ) : ks_W L xs mX4_extend rm_X4_extend 75 [] [.int s0] σ mc ms P := by
  exact ks_iret (ty := .int) d_X4_extend_75 rfl rfl r1
theorem d_X4_compare_0 : decode cX4_compare 0 = .ok (.aload_n 0, 1) := by decide +kernel
theorem d_X4_compare_1 : decode cX4_compare 1 = .ok (.iload_n 1, 1) := by decide +kernel
theorem d_X4_compare_2 : decode cX4_compare 2 = .ok (.invokevirtual 66, 3) := by decide +kernel
theorem d_X4_compare_5 : decode cX4_compare 5 = .ok (.aload_n 0, 1) := by decide +kernel
theorem d_X4_compare_6 : decode cX4_compare 6 = .ok (.iload_n 2, 1) := by decide +kernel
theorem d_X4_compare_7 : decode cX4_compare 7 = .ok (.invokevirtual 66, 3) := by decide +kernel
theorem d_X4_compare_10 : decode cX4_compare 10 = .ok (.aload_n 0, 1) := by decide +kernel
theorem d_X4_compare_11 : decode cX4_compare 11 = .ok (.iload_n 1, 1) := by decide +kernel
theorem d_X4_compare_12 : decode cX4_compare 12 = .ok (.iload_n 2, 1) := by decide +kernel
theorem d_X4_compare_13 : decode cX4_compare 13 = .ok (.invokevirtual 81, 3) := by decide +kernel
theorem d_X4_compare_16 : decode cX4_compare 16 = .ok (.iload_n 3, 1) := by decide +kernel
theorem d_X4_compare_17 : decode cX4_compare 17 = .ok (.ifCond .eq 30, 3) := by decide +kernel
theorem d_X4_compare_20 : decode cX4_compare 20 = .ok (.aload_n 0, 1) := by decide +kernel
theorem d_X4_compare_21 : decode cX4_compare 21 = .ok (.iload_n 1, 1) := by decide +kernel
theorem d_X4_compare_22 : decode cX4_compare 22 = .ok (.invokevirtual 135, 3) := by decide +kernel
theorem d_X4_compare_25 : decode cX4_compare 25 = .ok (.aload_n 0, 1) := by decide +kernel
theorem d_X4_compare_26 : decode cX4_compare 26 = .ok (.iload_n 2, 1) := by decide +kernel
theorem d_X4_compare_27 : decode cX4_compare 27 = .ok (.invokevirtual 135, 3) := by decide +kernel
theorem d_X4_compare_30 : decode cX4_compare 30 = .ok (.if_icmp .eq 17, 3) := by decide +kernel
theorem d_X4_compare_33 : decode cX4_compare 33 = .ok (.aload_n 0, 1) := by decide +kernel
theorem d_X4_compare_34 : decode cX4_compare 34 = .ok (.iload_n 1, 1) := by decide +kernel
theorem d_X4_compare_35 : decode cX4_compare 35 = .ok (.invokevirtual 135, 3) := by decide +kernel
theorem d_X4_compare_38 : decode cX4_compare 38 = .ok (.ifCond .eq 7, 3) := by decide +kernel
theorem d_X4_compare_41 : decode cX4_compare 41 = .ok (.iconst (-1), 1) := by decide +kernel
theorem d_X4_compare_42 : decode cX4_compare 42 = .ok (.goto 4, 3) := by decide +kernel
theorem d_X4_compare_45 : decode cX4_compare 45 = .ok (.iconst 1, 1) := by decide +kernel
theorem d_X4_compare_46 : decode cX4_compare 46 = .ok (.ireturn, 1) := by decide +kernel
theorem d_X4_compare_47 : decode cX4_compare 47 = .ok (.bipush 7, 2) := by decide +kernel
theorem d_X4_compare_49 : decode cX4_compare 49 = .ok (.istore 4, 2) := by decide +kernel
theorem d_X4_compare_51 : decode cX4_compare 51 = .ok (.iload 4, 2) := by decide +kernel
theorem d_X4_compare_53 : decode cX4_compare 53 = .ok (.ifCond .lt 67, 3) := by decide +kernel
theorem d_X4_compare_56 : decode cX4_compare 56 = .ok (.aload_n 0, 1) := by decide +kernel
theorem d_X4_compare_57 : decode cX4_compare 57 = .ok (.getfield 13, 3) := by decide +kernel
theorem d_X4_compare_60 : decode cX4_compare 60 = .ok (.iload_n 1, 1) := by decide +kernel
theorem d_X4_compare_61 : decode cX4_compare 61 = .ok (.bipush 8, 2) := by decide +kernel
theorem d_X4_compare_63 : decode cX4_compare 63 = .ok (.imul, 1) := by decide +kernel
theorem d_X4_compare_64 : decode cX4_compare 64 = .ok (.iload 4, 2) := by decide +kernel
theorem d_X4_compare_66 : decode cX4_compare 66 = .ok (.iadd, 1) := by decide +kernel
theorem d_X4_compare_67 : decode cX4_compare 67 = .ok (.laload, 1) := by decide +kernel
theorem d_X4_compare_68 : decode cX4_compare 68 = .ok (.lstore 5, 2) := by decide +kernel
theorem d_X4_compare_70 : decode cX4_compare 70 = .ok (.aload_n 0, 1) := by decide +kernel
theorem d_X4_compare_71 : decode cX4_compare 71 = .ok (.getfield 13, 3) := by decide +kernel
theorem d_X4_compare_74 : decode cX4_compare 74 = .ok (.iload_n 2, 1) := by decide +kernel
theorem d_X4_compare_75 : decode cX4_compare 75 = .ok (.bipush 8, 2) := by decide +kernel
theorem d_X4_compare_77 : decode cX4_compare 77 = .ok (.imul, 1) := by decide +kernel
theorem d_X4_compare_78 : decode cX4_compare 78 = .ok (.iload 4, 2) := by decide +kernel
theorem d_X4_compare_80 : decode cX4_compare 80 = .ok (.iadd, 1) := by decide +kernel
theorem d_X4_compare_81 : decode cX4_compare 81 = .ok (.laload, 1) := by decide +kernel
theorem d_X4_compare_82 : decode cX4_compare 82 = .ok (.lstore 7, 2) := by decide +kernel
theorem d_X4_compare_84 : decode cX4_compare 84 = .ok (.lload 5, 2) := by decide +kernel
theorem d_X4_compare_86 : decode cX4_compare 86 = .ok (.lload 7, 2) := by decide +kernel
theorem d_X4_compare_88 : decode cX4_compare 88 = .ok (.lcmp, 1) := by decide +kernel
theorem d_X4_compare_89 : decode cX4_compare 89 = .ok (.ifCond .eq 25, 3) := by decide +kernel
theorem d_X4_compare_92 : decode cX4_compare 92 = .ok (.lload 5, 2) := by decide +kernel
theorem d_X4_compare_94 : decode cX4_compare 94 = .ok (.ldc2_w 143, 3) := by decide +kernel
theorem d_X4_compare_97 : decode cX4_compare 97 = .ok (.lxor, 1) := by decide +kernel
theorem d_X4_compare_98 : decode cX4_compare 98 = .ok (.lload 7, 2) := by decide +kernel
theorem d_X4_compare_100 : decode cX4_compare 100 = .ok (.ldc2_w 143, 3) := by decide +kernel
theorem d_X4_compare_103 : decode cX4_compare 103 = .ok (.lxor, 1) := by decide +kernel
theorem d_X4_compare_104 : decode cX4_compare 104 = .ok (.lcmp, 1) := by decide +kernel
theorem d_X4_compare_105 : decode cX4_compare 105 = .ok (.ifCond .ge 7, 3) := by decide +kernel
theorem d_X4_compare_108 : decode cX4_compare 108 = .ok (.iconst (-1), 1) := by decide +kernel
theorem d_X4_compare_109 : decode cX4_compare 109 = .ok (.goto 4, 3) := by decide +kernel
theorem d_X4_compare_112 : decode cX4_compare 112 = .ok (.iconst 1, 1) := by decide +kernel
theorem d_X4_compare_113 : decode cX4_compare 113 = .ok (.ireturn, 1) := by decide +kernel
theorem d_X4_compare_114 : decode cX4_compare 114 = .ok (.iinc 4 (-1), 3) := by decide +kernel
theorem d_X4_compare_117 : decode cX4_compare 117 = .ok (.goto (-66), 3) := by decide +kernel
theorem d_X4_compare_120 : decode cX4_compare 120 = .ok (.iconst 0, 1) := by decide +kernel
theorem d_X4_compare_121 : decode cX4_compare 121 = .ok (.ireturn, 1) := by decide +kernel
theorem sg_X4_compare_0 {L : Nat} {xs : Nat → Int32} {σ : ks_St} {mc ms : Nat} {P : ka_O → ks_St → Prop} {x1 : Int32} {x2 : Int32} {x3 : Int32}  (k1 : ks_W L xs mX4_compare rm_X4_compare 2 [(0, .ref 0), (1, .int x1), (2, .int x2), (3, .int x3)] [.int x1, .ref 0] σ mc ms P) : ks_W L xs mX4_compare rm_X4_compare 0 [(0, .ref 0), (1, .int x1), (2, .int x2), (3, .int x3)] [] σ mc ms P := by
  refine ka_aload_n d_X4_compare_0 rfl rfl 0 rfl ?_
  refine ka_iload_n d_X4_compare_1 rfl rfl 1 rfl ?_
  exact k1
theorem cs_X4_compare_2 {L : Nat} {xs : Nat → Int32} {σ : ks_St} {mc ms : Nat} {P : ka_O → ks_St → Prop} {f : ks_St → Prop} {g : String → ks_St → Prop} {x1 : Int32} {x2 : Int32} {x3 : Int32} {s1 : Int32} (hK : ks_M L xs mX4_requireWord rm_X4_requireWord [.ref 0, .int s1] σ (px_ (pv_ f) g)) (kx : ∀ E σ', g E σ' → P (.inr E) σ') (kr : ∀ σ', f σ' → ks_W L xs mX4_compare rm_X4_compare 5 [(0, .ref 0), (1, .int x1), (2, .int x2), (3, .int x3)] [] σ' mc ms P) : ks_W L xs mX4_compare rm_X4_compare 2 [(0, .ref 0), (1, .int x1), (2, .int x2), (3, .int x3)] [.int s1, .ref 0] σ (mc + 1) (ms + 6) P := by
  refine ks_callV (q := 5) (o := 0) (ci := 4) (As := [.int s1]) (st := []) d_X4_compare_2 rfl rfl (by decide) rfl rfl lk_X4_66 ⟨by decide, by decide⟩ (Nat.le_of_ble_eq_true rfl) ⟨Nat.le_refl _, Nat.le_refl _⟩ hK (fun v σ' hq => ?_) (fun E σ' hq => ?_)
  · rcases hq with hq | ⟨E, e, -⟩
    · obtain ⟨e, hf⟩ := hq; cases e; exact kr σ' hf
    · cases e
  · rcases hq with hq | ⟨E', e, hg⟩
    · obtain ⟨e, hf⟩ := hq; cases e
    · cases e; exact ⟨rfl, kx _ σ' hg⟩
theorem sg_X4_compare_5 {L : Nat} {xs : Nat → Int32} {σ : ks_St} {mc ms : Nat} {P : ka_O → ks_St → Prop} {x1 : Int32} {x2 : Int32} {x3 : Int32}  (k1 : ks_W L xs mX4_compare rm_X4_compare 7 [(0, .ref 0), (1, .int x1), (2, .int x2), (3, .int x3)] [.int x2, .ref 0] σ mc ms P) : ks_W L xs mX4_compare rm_X4_compare 5 [(0, .ref 0), (1, .int x1), (2, .int x2), (3, .int x3)] [] σ mc ms P := by
  refine ka_aload_n d_X4_compare_5 rfl rfl 0 rfl ?_
  refine ka_iload_n d_X4_compare_6 rfl rfl 2 rfl ?_
  exact k1
theorem cs_X4_compare_7 {L : Nat} {xs : Nat → Int32} {σ : ks_St} {mc ms : Nat} {P : ka_O → ks_St → Prop} {f : ks_St → Prop} {g : String → ks_St → Prop} {x1 : Int32} {x2 : Int32} {x3 : Int32} {s1 : Int32} (hK : ks_M L xs mX4_requireWord rm_X4_requireWord [.ref 0, .int s1] σ (px_ (pv_ f) g)) (kx : ∀ E σ', g E σ' → P (.inr E) σ') (kr : ∀ σ', f σ' → ks_W L xs mX4_compare rm_X4_compare 10 [(0, .ref 0), (1, .int x1), (2, .int x2), (3, .int x3)] [] σ' mc ms P) : ks_W L xs mX4_compare rm_X4_compare 7 [(0, .ref 0), (1, .int x1), (2, .int x2), (3, .int x3)] [.int s1, .ref 0] σ (mc + 1) (ms + 6) P := by
  refine ks_callV (q := 10) (o := 0) (ci := 4) (As := [.int s1]) (st := []) d_X4_compare_7 rfl rfl (by decide) rfl rfl lk_X4_66 ⟨by decide, by decide⟩ (Nat.le_of_ble_eq_true rfl) ⟨Nat.le_refl _, Nat.le_refl _⟩ hK (fun v σ' hq => ?_) (fun E σ' hq => ?_)
  · rcases hq with hq | ⟨E, e, -⟩
    · obtain ⟨e, hf⟩ := hq; cases e; exact kr σ' hf
    · cases e
  · rcases hq with hq | ⟨E', e, hg⟩
    · obtain ⟨e, hf⟩ := hq; cases e
    · cases e; exact ⟨rfl, kx _ σ' hg⟩
theorem sg_X4_compare_10 {L : Nat} {xs : Nat → Int32} {σ : ks_St} {mc ms : Nat} {P : ka_O → ks_St → Prop} {x1 : Int32} {x2 : Int32} {x3 : Int32}  (k1 : ks_W L xs mX4_compare rm_X4_compare 13 [(0, .ref 0), (1, .int x1), (2, .int x2), (3, .int x3)] [.int x2, .int x1, .ref 0] σ mc ms P) : ks_W L xs mX4_compare rm_X4_compare 10 [(0, .ref 0), (1, .int x1), (2, .int x2), (3, .int x3)] [] σ mc ms P := by
  refine ka_aload_n d_X4_compare_10 rfl rfl 0 rfl ?_
  refine ka_iload_n d_X4_compare_11 rfl rfl 1 rfl ?_
  refine ka_iload_n d_X4_compare_12 rfl rfl 2 rfl ?_
  exact k1
theorem cs_X4_compare_13 {L : Nat} {xs : Nat → Int32} {σ : ks_St} {mc ms : Nat} {P : ka_O → ks_St → Prop} {f : ks_St → Prop} {g : String → ks_St → Prop} {x1 : Int32} {x2 : Int32} {x3 : Int32} {s1 : Int32} {s2 : Int32} (hK : ks_M L xs mX4_requireOneWidth rm_X4_requireOneWidth [.ref 0, .int s1, .int s2] σ (px_ (pv_ f) g)) (kx : ∀ E σ', g E σ' → P (.inr E) σ') (kr : ∀ σ', f σ' → ks_W L xs mX4_compare rm_X4_compare 16 [(0, .ref 0), (1, .int x1), (2, .int x2), (3, .int x3)] [] σ' mc ms P) : ks_W L xs mX4_compare rm_X4_compare 13 [(0, .ref 0), (1, .int x1), (2, .int x2), (3, .int x3)] [.int s2, .int s1, .ref 0] σ (mc + 1) (ms + 6) P := by
  refine ks_callV (q := 16) (o := 0) (ci := 4) (As := [.int s1, .int s2]) (st := []) d_X4_compare_13 rfl rfl (by decide) rfl rfl lk_X4_81 ⟨by decide, by decide⟩ (Nat.le_of_ble_eq_true rfl) ⟨Nat.le_refl _, Nat.le_refl _⟩ hK (fun v σ' hq => ?_) (fun E σ' hq => ?_)
  · rcases hq with hq | ⟨E, e, -⟩
    · obtain ⟨e, hf⟩ := hq; cases e; exact kr σ' hf
    · cases e
  · rcases hq with hq | ⟨E', e, hg⟩
    · obtain ⟨e, hf⟩ := hq; cases e
    · cases e; exact ⟨rfl, kx _ σ' hg⟩
theorem sg_X4_compare_16 {L : Nat} {xs : Nat → Int32} {σ : ks_St} {mc ms : Nat} {P : ka_O → ks_St → Prop} {x1 : Int32} {x2 : Int32} {x3 : Int32}  (k2 : (x3 = 0) → ks_W L xs mX4_compare rm_X4_compare 47 [(0, .ref 0), (1, .int x1), (2, .int x2)] [] σ mc ms P) (k3 : (¬ (x3 = 0)) → ks_W L xs mX4_compare rm_X4_compare 22 [(0, .ref 0), (1, .int x1), (2, .int x2)] [.int x1, .ref 0] σ mc ms P) : ks_W L xs mX4_compare rm_X4_compare 16 [(0, .ref 0), (1, .int x1), (2, .int x2), (3, .int x3)] [] σ mc ms P := by
  refine ka_iload_n d_X4_compare_16 rfl rfl 3 rfl ?_
  refine ka_if_eq (tgt := 47) d_X4_compare_17 (by decide) rfl (fun c1 => ?_) (fun c1 => ?_)
  · refine ka_sub [0, 1, 2] rfl ?_
    exact (k2 c1)
  · refine ka_aload_n d_X4_compare_20 rfl rfl 0 rfl ?_
    refine ka_iload_n d_X4_compare_21 rfl rfl 1 rfl ?_
    refine ka_sub [0, 1, 2] rfl ?_
    exact (k3 c1)
theorem cs_X4_compare_22 {L : Nat} {xs : Nat → Int32} {σ : ks_St} {mc ms : Nat} {P : ka_O → ks_St → Prop} {f : Int32 → ks_St → Prop} {x1 : Int32} {x2 : Int32} {s1 : Int32} (hK : ks_M L xs mX4_isNegative rm_X4_isNegative [.ref 0, .int s1] σ (pi_ f)) (kr : ∀ r σ', f r σ' → ks_W L xs mX4_compare rm_X4_compare 25 [(0, .ref 0), (1, .int x1), (2, .int x2)] [.int r] σ' mc ms P) : ks_W L xs mX4_compare rm_X4_compare 22 [(0, .ref 0), (1, .int x1), (2, .int x2)] [.int s1, .ref 0] σ mc ms P := by
  refine ks_callV (q := 25) (o := 0) (ci := 4) (As := [.int s1]) (st := []) d_X4_compare_22 rfl rfl (by decide) rfl rfl lk_X4_135 ⟨by decide, by decide⟩ (Nat.le_of_ble_eq_true rfl) ⟨Nat.le_refl _, Nat.le_refl _⟩ hK (fun v σ' hq => ?_) (fun E σ' hq => ?_)
  · obtain ⟨r, e, hf⟩ := hq; cases e; exact kr r σ' hf
  · obtain ⟨r, e, hf⟩ := hq; cases e
theorem sg_X4_compare_25 {L : Nat} {xs : Nat → Int32} {σ : ks_St} {mc ms : Nat} {P : ka_O → ks_St → Prop} {x1 : Int32} {x2 : Int32} {s0 : Int32}  (k1 : ks_W L xs mX4_compare rm_X4_compare 27 [(0, .ref 0), (1, .int x1), (2, .int x2)] [.int x2, .ref 0, .int s0] σ mc ms P) : ks_W L xs mX4_compare rm_X4_compare 25 [(0, .ref 0), (1, .int x1), (2, .int x2)] [.int s0] σ mc ms P := by
  refine ka_aload_n d_X4_compare_25 rfl rfl 0 rfl ?_
  refine ka_iload_n d_X4_compare_26 rfl rfl 2 rfl ?_
  exact k1
theorem cs_X4_compare_27 {L : Nat} {xs : Nat → Int32} {σ : ks_St} {mc ms : Nat} {P : ka_O → ks_St → Prop} {f : Int32 → ks_St → Prop} {x1 : Int32} {x2 : Int32} {s0 : Int32} {s2 : Int32} (hK : ks_M L xs mX4_isNegative rm_X4_isNegative [.ref 0, .int s2] σ (pi_ f)) (kr : ∀ r σ', f r σ' → ks_W L xs mX4_compare rm_X4_compare 30 [(0, .ref 0), (1, .int x1), (2, .int x2)] [.int r, .int s0] σ' mc ms P) : ks_W L xs mX4_compare rm_X4_compare 27 [(0, .ref 0), (1, .int x1), (2, .int x2)] [.int s2, .ref 0, .int s0] σ mc ms P := by
  refine ks_callV (q := 30) (o := 0) (ci := 4) (As := [.int s2]) (st := [.int s0]) d_X4_compare_27 rfl rfl (by decide) rfl rfl lk_X4_135 ⟨by decide, by decide⟩ (Nat.le_of_ble_eq_true rfl) ⟨Nat.le_refl _, Nat.le_refl _⟩ hK (fun v σ' hq => ?_) (fun E σ' hq => ?_)
  · obtain ⟨r, e, hf⟩ := hq; cases e; exact kr r σ' hf
  · obtain ⟨r, e, hf⟩ := hq; cases e
theorem sg_X4_compare_30 {L : Nat} {xs : Nat → Int32} {σ : ks_St} {mc ms : Nat} {P : ka_O → ks_St → Prop} {x1 : Int32} {x2 : Int32} {s0 : Int32} {s1 : Int32}  (k2 : (s0 = s1) → ks_W L xs mX4_compare rm_X4_compare 47 [(0, .ref 0), (1, .int x1), (2, .int x2)] [] σ mc ms P) (k3 : (¬ (s0 = s1)) → ks_W L xs mX4_compare rm_X4_compare 35 [] [.int x1, .ref 0] σ mc ms P) : ks_W L xs mX4_compare rm_X4_compare 30 [(0, .ref 0), (1, .int x1), (2, .int x2)] [.int s1, .int s0] σ mc ms P := by
  refine ka_icmp_eq (tgt := 47) d_X4_compare_30 (by decide) rfl (fun c1 => ?_) (fun c1 => ?_)
  · exact (k2 c1)
  · refine ka_aload_n d_X4_compare_33 rfl rfl 0 rfl ?_
    refine ka_iload_n d_X4_compare_34 rfl rfl 1 rfl ?_
    refine ka_sub [] rfl ?_
    exact (k3 c1)
theorem cs_X4_compare_35 {L : Nat} {xs : Nat → Int32} {σ : ks_St} {mc ms : Nat} {P : ka_O → ks_St → Prop} {f : Int32 → ks_St → Prop} {s1 : Int32} (hK : ks_M L xs mX4_isNegative rm_X4_isNegative [.ref 0, .int s1] σ (pi_ f)) (kr : ∀ r σ', f r σ' → ks_W L xs mX4_compare rm_X4_compare 38 [] [.int r] σ' mc ms P) : ks_W L xs mX4_compare rm_X4_compare 35 [] [.int s1, .ref 0] σ mc ms P := by
  refine ks_callV (q := 38) (o := 0) (ci := 4) (As := [.int s1]) (st := []) d_X4_compare_35 rfl rfl (by decide) rfl rfl lk_X4_135 ⟨by decide, by decide⟩ (Nat.le_of_ble_eq_true rfl) ⟨Nat.le_refl _, Nat.le_refl _⟩ hK (fun v σ' hq => ?_) (fun E σ' hq => ?_)
  · obtain ⟨r, e, hf⟩ := hq; cases e; exact kr r σ' hf
  · obtain ⟨r, e, hf⟩ := hq; cases e
theorem sg_X4_compare_38 {L : Nat} {xs : Nat → Int32} {σ : ks_St} {mc ms : Nat} {P : ka_O → ks_St → Prop} {s0 : Int32}  (k2 : (s0 = 0) → ks_W L xs mX4_compare rm_X4_compare 46 [] [.int 1] σ mc ms P) (k3 : (¬ (s0 = 0)) → ks_W L xs mX4_compare rm_X4_compare 46 [] [.int ((-1))] σ mc ms P) : ks_W L xs mX4_compare rm_X4_compare 38 [] [.int s0] σ mc ms P := by
  refine ka_if_eq (tgt := 45) d_X4_compare_38 (by decide) rfl (fun c1 => ?_) (fun c1 => ?_)
  · refine ka_iconst (v := 1) d_X4_compare_45 rfl (by decide) ?_
    exact (k2 c1)
  · refine ka_iconst (v := -1) d_X4_compare_41 rfl (by decide) ?_
    refine ka_goto (q := 46) d_X4_compare_42 (by decide) ?_
    exact (k3 c1)
theorem sg_X4_compare_46 {L : Nat} {xs : Nat → Int32} {σ : ks_St} {mc ms : Nat} {P : ka_O → ks_St → Prop} {s0 : Int32}  (r1 : P (.inl (some (.int s0))) σ) : ks_W L xs mX4_compare rm_X4_compare 46 [] [.int s0] σ mc ms P := by
  exact ks_iret (ty := .int) d_X4_compare_46 rfl rfl r1
theorem sg_X4_compare_47 {L : Nat} {xs : Nat → Int32} {σ : ks_St} {mc ms : Nat} {P : ka_O → ks_St → Prop} {x1 : Int32} {x2 : Int32}  (k1 : ks_W L xs mX4_compare rm_X4_compare 51 [(0, .ref 0), (1, .int x1), (2, .int x2), (4, .int 7)] [] σ mc ms P) : ks_W L xs mX4_compare rm_X4_compare 47 [(0, .ref 0), (1, .int x1), (2, .int x2)] [] σ mc ms P := by
  refine ka_bipush (v := 7) d_X4_compare_47 rfl (by decide) ?_
  refine ka_istore (ls' := [(4, .int 7), (0, .ref 0), (1, .int x1), (2, .int x2)]) d_X4_compare_49 rfl (by decide) rfl ?_
  refine ka_sub [1, 2, 3, 0] rfl ?_
  exact k1
theorem sg_X4_compare_51 {L : Nat} {xs : Nat → Int32} {σ : ks_St} {mc ms : Nat} {P : ka_O → ks_St → Prop} {x1 : Int32} {x2 : Int32} {x4 : Int32}  (r2 : (x4 < 0) → P (.inl (some (.int 0))) σ) (v3 : (¬ (x4 < 0)) → vp_in ((x1 * 8) + x4) 4800) (v4 : (¬ (x4 < 0)) → vp_in ((x2 * 8) + x4) 4800) (k6 : (¬ (x4 < 0)) → ((lg_cmp (sg_ σ 2 ((x1 * 8) + x4).toNatClampNeg) (sg_ σ 2 ((x2 * 8) + x4).toNatClampNeg)) = 0) → ks_W L xs mX4_compare rm_X4_compare 51 [(0, .ref 0), (1, .int x1), (2, .int x2), (4, .int (x4 + (-1)))] [] σ mc ms P) (k8 : (¬ (x4 < 0)) → (¬ ((lg_cmp (sg_ σ 2 ((x1 * 8) + x4).toNatClampNeg) (sg_ σ 2 ((x2 * 8) + x4).toNatClampNeg)) = 0)) → (0 ≤ (lg_cmp ((sg_ σ 2 ((x1 * 8) + x4).toNatClampNeg) ^^^ ((-9223372036854775808))) ((sg_ σ 2 ((x2 * 8) + x4).toNatClampNeg) ^^^ ((-9223372036854775808))))) → ks_W L xs mX4_compare rm_X4_compare 113 [] [.int 1] σ mc ms P) (k9 : (¬ (x4 < 0)) → (¬ ((lg_cmp (sg_ σ 2 ((x1 * 8) + x4).toNatClampNeg) (sg_ σ 2 ((x2 * 8) + x4).toNatClampNeg)) = 0)) → (¬ (0 ≤ (lg_cmp ((sg_ σ 2 ((x1 * 8) + x4).toNatClampNeg) ^^^ ((-9223372036854775808))) ((sg_ σ 2 ((x2 * 8) + x4).toNatClampNeg) ^^^ ((-9223372036854775808)))))) → ks_W L xs mX4_compare rm_X4_compare 113 [] [.int ((-1))] σ mc ms P) : ks_W L xs mX4_compare rm_X4_compare 51 [(0, .ref 0), (1, .int x1), (2, .int x2), (4, .int x4)] [] σ mc ms P := by
  refine ka_iload d_X4_compare_51 rfl 3 rfl ?_
  refine ka_if_lt (tgt := 120) d_X4_compare_53 (by decide) rfl (fun c1 => ?_) (fun c1 => ?_)
  · refine ka_iconst (v := 0) d_X4_compare_120 rfl (by decide) ?_
    exact ks_iret (ty := .int) d_X4_compare_121 rfl rfl (r2 c1)
  · refine ka_aload_n d_X4_compare_56 rfl rfl 0 rfl ?_
    refine gf_X4_2 d_X4_compare_57 rfl fl_X4_13 ?_
    refine ka_iload_n d_X4_compare_60 rfl rfl 1 rfl ?_
    refine ka_bipush (v := 8) d_X4_compare_61 rfl (by decide) ?_
    refine ka_imul d_X4_compare_63 rfl ?_
    refine ka_iload d_X4_compare_64 rfl 3 rfl ?_
    refine ka_iadd d_X4_compare_66 rfl ?_
    refine ks_lald row_2 d_X4_compare_67 rfl (v3 c1) ?_
    refine ka_lstore (ls' := [(5, .long (sg_ σ 2 ((x1 * 8) + x4).toNatClampNeg)), (0, .ref 0), (1, .int x1), (2, .int x2), (4, .int x4)]) d_X4_compare_68 rfl (by decide) rfl ?_
    refine ka_aload_n d_X4_compare_70 rfl rfl 1 rfl ?_
    refine gf_X4_2 d_X4_compare_71 rfl fl_X4_13 ?_
    refine ka_iload_n d_X4_compare_74 rfl rfl 3 rfl ?_
    refine ka_bipush (v := 8) d_X4_compare_75 rfl (by decide) ?_
    refine ka_imul d_X4_compare_77 rfl ?_
    refine ka_iload d_X4_compare_78 rfl 4 rfl ?_
    refine ka_iadd d_X4_compare_80 rfl ?_
    refine ks_lald row_2 d_X4_compare_81 rfl (v4 c1) ?_
    refine ka_lstore (ls' := [(7, .long (sg_ σ 2 ((x2 * 8) + x4).toNatClampNeg)), (5, .long (sg_ σ 2 ((x1 * 8) + x4).toNatClampNeg)), (0, .ref 0), (1, .int x1), (2, .int x2), (4, .int x4)]) d_X4_compare_82 rfl (by decide) rfl ?_
    refine ka_lload d_X4_compare_84 rfl 1 rfl ?_
    refine ka_lload d_X4_compare_86 rfl 0 rfl ?_
    refine ka_lcmp d_X4_compare_88 rfl ?_
    refine ka_if_eq (tgt := 114) d_X4_compare_89 (by decide) rfl (fun c5 => ?_) (fun c5 => ?_)
    · refine ka_iinc (g := 5) (v := x4 + (-1)) (ls' := [(4, .int (x4 + (-1))), (7, .long (sg_ σ 2 ((x2 * 8) + x4).toNatClampNeg)), (5, .long (sg_ σ 2 ((x1 * 8) + x4).toNatClampNeg)), (0, .ref 0), (1, .int x1), (2, .int x2)]) d_X4_compare_114 rfl rfl rfl (by decide) rfl ?_
      refine ka_goto (q := 51) d_X4_compare_117 (by decide) ?_
      refine ka_sub [3, 4, 5, 0] rfl ?_
      exact (k6 c1 c5)
    · refine ka_lload d_X4_compare_92 rfl 1 rfl ?_
      refine ka_ldc2 (v := -9223372036854775808) d_X4_compare_94 rfl kl_X4_143 ?_
      refine ka_lxor d_X4_compare_97 rfl ?_
      refine ka_lload d_X4_compare_98 rfl 0 rfl ?_
      refine ka_ldc2 (v := -9223372036854775808) d_X4_compare_100 rfl kl_X4_143 ?_
      refine ka_lxor d_X4_compare_103 rfl ?_
      refine ka_lcmp d_X4_compare_104 rfl ?_
      refine ka_if_ge (tgt := 112) d_X4_compare_105 (by decide) rfl (fun c7 => ?_) (fun c7 => ?_)
      · refine ka_iconst (v := 1) d_X4_compare_112 rfl (by decide) ?_
        refine ka_sub [] rfl ?_
        exact (k8 c1 c5 c7)
      · refine ka_iconst (v := -1) d_X4_compare_108 rfl (by decide) ?_
        refine ka_goto (q := 113) d_X4_compare_109 (by decide) ?_
        refine ka_sub [] rfl ?_
        exact (k9 c1 c5 c7)
theorem sg_X4_compare_113 {L : Nat} {xs : Nat → Int32} {σ : ks_St} {mc ms : Nat} {P : ka_O → ks_St → Prop} {s0 : Int32}  (r1 : P (.inl (some (.int s0))) σ) : ks_W L xs mX4_compare rm_X4_compare 113 [] [.int s0] σ mc ms P := by
  exact ks_iret (ty := .int) d_X4_compare_113 rfl rfl r1
theorem d_X4_bit_0 : decode cX4_bit 0 = .ok (.aload_n 0, 1) := by decide +kernel
theorem d_X4_bit_1 : decode cX4_bit 1 = .ok (.iload_n 1, 1) := by decide +kernel
theorem d_X4_bit_2 : decode cX4_bit 2 = .ok (.invokevirtual 66, 3) := by decide +kernel
theorem d_X4_bit_5 : decode cX4_bit 5 = .ok (.iload_n 2, 1) := by decide +kernel
theorem d_X4_bit_6 : decode cX4_bit 6 = .ok (.ifCond .lt 13, 3) := by decide +kernel
theorem d_X4_bit_9 : decode cX4_bit 9 = .ok (.iload_n 2, 1) := by decide +kernel
theorem d_X4_bit_10 : decode cX4_bit 10 = .ok (.aload_n 0, 1) := by decide +kernel
theorem d_X4_bit_11 : decode cX4_bit 11 = .ok (.getfield 9, 3) := by decide +kernel
theorem d_X4_bit_14 : decode cX4_bit 14 = .ok (.iload_n 1, 1) := by decide +kernel
theorem d_X4_bit_15 : decode cX4_bit 15 = .ok (.iaload, 1) := by decide +kernel
theorem d_X4_bit_16 : decode cX4_bit 16 = .ok (.if_icmp .lt 13, 3) := by decide +kernel
theorem d_X4_bit_19 : decode cX4_bit 19 = .ok (.new 84, 3) := by decide +kernel
theorem d_X4_bit_22 : decode cX4_bit 22 = .ok (.dup, 1) := by decide +kernel
theorem d_X4_bit_23 : decode cX4_bit 23 = .ok (.ldc 145, 2) := by decide +kernel
theorem d_X4_bit_25 : decode cX4_bit 25 = .ok (.invokespecial 88, 3) := by decide +kernel
theorem d_X4_bit_28 : decode cX4_bit 28 = .ok (.athrow, 1) := by decide +kernel
theorem d_X4_bit_29 : decode cX4_bit 29 = .ok (.aload_n 0, 1) := by decide +kernel
theorem d_X4_bit_30 : decode cX4_bit 30 = .ok (.iload_n 1, 1) := by decide +kernel
theorem d_X4_bit_31 : decode cX4_bit 31 = .ok (.iload_n 2, 1) := by decide +kernel
theorem d_X4_bit_32 : decode cX4_bit 32 = .ok (.invokevirtual 147, 3) := by decide +kernel
theorem d_X4_bit_35 : decode cX4_bit 35 = .ok (.ireturn, 1) := by decide +kernel
theorem sg_X4_bit_0 {L : Nat} {xs : Nat → Int32} {σ : ks_St} {mc ms : Nat} {P : ka_O → ks_St → Prop} {x1 : Int32} {x2 : Int32}  (k1 : ks_W L xs mX4_bit rm_X4_bit 2 [(0, .ref 0), (1, .int x1), (2, .int x2)] [.int x1, .ref 0] σ mc ms P) : ks_W L xs mX4_bit rm_X4_bit 0 [(0, .ref 0), (1, .int x1), (2, .int x2)] [] σ mc ms P := by
  refine ka_aload_n d_X4_bit_0 rfl rfl 0 rfl ?_
  refine ka_iload_n d_X4_bit_1 rfl rfl 1 rfl ?_
  exact k1
theorem cs_X4_bit_2 {L : Nat} {xs : Nat → Int32} {σ : ks_St} {mc ms : Nat} {P : ka_O → ks_St → Prop} {f : ks_St → Prop} {g : String → ks_St → Prop} {x1 : Int32} {x2 : Int32} {s1 : Int32} (hK : ks_M L xs mX4_requireWord rm_X4_requireWord [.ref 0, .int s1] σ (px_ (pv_ f) g)) (kx : ∀ E σ', g E σ' → P (.inr E) σ') (kr : ∀ σ', f σ' → ks_W L xs mX4_bit rm_X4_bit 5 [(0, .ref 0), (1, .int x1), (2, .int x2)] [] σ' mc ms P) : ks_W L xs mX4_bit rm_X4_bit 2 [(0, .ref 0), (1, .int x1), (2, .int x2)] [.int s1, .ref 0] σ (mc + 1) (ms + 6) P := by
  refine ks_callV (q := 5) (o := 0) (ci := 4) (As := [.int s1]) (st := []) d_X4_bit_2 rfl rfl (by decide) rfl rfl lk_X4_66 ⟨by decide, by decide⟩ (Nat.le_of_ble_eq_true rfl) ⟨Nat.le_refl _, Nat.le_refl _⟩ hK (fun v σ' hq => ?_) (fun E σ' hq => ?_)
  · rcases hq with hq | ⟨E, e, -⟩
    · obtain ⟨e, hf⟩ := hq; cases e; exact kr σ' hf
    · cases e
  · rcases hq with hq | ⟨E', e, hg⟩
    · obtain ⟨e, hf⟩ := hq; cases e
    · cases e; exact ⟨rfl, kx _ σ' hg⟩
theorem sg_X4_bit_5 {L : Nat} {xs : Nat → Int32} {σ : ks_St} {mc ms : Nat} {P : ka_O → ks_St → Prop} {x1 : Int32} {x2 : Int32}  (k2 : (x2 < 0) → ks_W L xs mX4_bit rm_X4_bit 19 [] [] σ mc ms P) (v3 : (¬ (x2 < 0)) → vp_in x1 600) (k5 : (¬ (x2 < 0)) → (x2 < (sf_ σ 1 x1.toNatClampNeg)) → ks_W L xs mX4_bit rm_X4_bit 32 [] [.int x2, .int x1, .ref 0] σ mc ms P) (k6 : (¬ (x2 < 0)) → (¬ (x2 < (sf_ σ 1 x1.toNatClampNeg))) → ks_W L xs mX4_bit rm_X4_bit 19 [] [] σ mc ms P) : ks_W L xs mX4_bit rm_X4_bit 5 [(0, .ref 0), (1, .int x1), (2, .int x2)] [] σ mc ms P := by
  refine ka_iload_n d_X4_bit_5 rfl rfl 2 rfl ?_
  refine ka_if_lt (tgt := 19) d_X4_bit_6 (by decide) rfl (fun c1 => ?_) (fun c1 => ?_)
  · refine ka_sub [] rfl ?_
    exact (k2 c1)
  · refine ka_iload_n d_X4_bit_9 rfl rfl 2 rfl ?_
    refine ka_aload_n d_X4_bit_10 rfl rfl 0 rfl ?_
    refine gf_X4_1 d_X4_bit_11 rfl fl_X4_9 ?_
    refine ka_iload_n d_X4_bit_14 rfl rfl 1 rfl ?_
    refine ks_iald row_1 d_X4_bit_15 rfl (v3 c1) ?_
    refine ka_icmp_lt (tgt := 29) d_X4_bit_16 (by decide) rfl (fun c4 => ?_) (fun c4 => ?_)
    · refine ka_aload_n d_X4_bit_29 rfl rfl 0 rfl ?_
      refine ka_iload_n d_X4_bit_30 rfl rfl 1 rfl ?_
      refine ka_iload_n d_X4_bit_31 rfl rfl 2 rfl ?_
      refine ka_sub [] rfl ?_
      exact (k5 c1 c4)
    · refine ka_sub [] rfl ?_
      exact (k6 c1 c4)
theorem sg_X4_bit_19 {L : Nat} {xs : Nat → Int32} {σ : ks_St} {mc ms : Nat} {P : ka_O → ks_St → Prop}   (hmc : 1 ≤ mc) (hms : 6 ≤ ms) (t1 : P (.inr "java/lang/IllegalArgumentException") σ) : ks_W L xs mX4_bit rm_X4_bit 19 [] [] σ mc ms P := by
  exact ks_throw d_X4_bit_19 d_X4_bit_22 d_X4_bit_23 d_X4_bit_25 d_X4_bit_28 (text := "the word has no such bit") (by decide) th_iae rfl (by decide) (Nat.le_of_ble_eq_true rfl) hmc hms t1
theorem cs_X4_bit_32 {L : Nat} {xs : Nat → Int32} {σ : ks_St} {mc ms : Nat} {P : ka_O → ks_St → Prop} {f : Int32 → ks_St → Prop} {s1 : Int32} {s2 : Int32} (hK : ks_M L xs mX4_hasBit rm_X4_hasBit [.ref 0, .int s1, .int s2] σ (pi_ f)) (kr : ∀ r σ', f r σ' → ks_W L xs mX4_bit rm_X4_bit 35 [] [.int r] σ' mc ms P) : ks_W L xs mX4_bit rm_X4_bit 32 [] [.int s2, .int s1, .ref 0] σ mc ms P := by
  refine ks_callV (q := 35) (o := 0) (ci := 4) (As := [.int s1, .int s2]) (st := []) d_X4_bit_32 rfl rfl (by decide) rfl rfl lk_X4_147 ⟨by decide, by decide⟩ (Nat.le_of_ble_eq_true rfl) ⟨Nat.le_refl _, Nat.le_refl _⟩ hK (fun v σ' hq => ?_) (fun E σ' hq => ?_)
  · obtain ⟨r, e, hf⟩ := hq; cases e; exact kr r σ' hf
  · obtain ⟨r, e, hf⟩ := hq; cases e
theorem sg_X4_bit_35 {L : Nat} {xs : Nat → Int32} {σ : ks_St} {mc ms : Nat} {P : ka_O → ks_St → Prop} {s0 : Int32}  (b1 : narrow .boolean (.int s0) = .int s0) (r2 : P (.inl (some (.int s0))) σ) : ks_W L xs mX4_bit rm_X4_bit 35 [] [.int s0] σ mc ms P := by
  exact ks_iret (ty := .boolean) d_X4_bit_35 rfl b1 r2
theorem d_X4_limb_0 : decode cX4_limb 0 = .ok (.aload_n 0, 1) := by decide +kernel
theorem d_X4_limb_1 : decode cX4_limb 1 = .ok (.iload_n 1, 1) := by decide +kernel
theorem d_X4_limb_2 : decode cX4_limb 2 = .ok (.invokevirtual 66, 3) := by decide +kernel
theorem d_X4_limb_5 : decode cX4_limb 5 = .ok (.aload_n 0, 1) := by decide +kernel
theorem d_X4_limb_6 : decode cX4_limb 6 = .ok (.iload_n 1, 1) := by decide +kernel
theorem d_X4_limb_7 : decode cX4_limb 7 = .ok (.iload_n 2, 1) := by decide +kernel
theorem d_X4_limb_8 : decode cX4_limb 8 = .ok (.invokevirtual 70, 3) := by decide +kernel
theorem d_X4_limb_11 : decode cX4_limb 11 = .ok (.aload_n 0, 1) := by decide +kernel
theorem d_X4_limb_12 : decode cX4_limb 12 = .ok (.getfield 13, 3) := by decide +kernel
theorem d_X4_limb_15 : decode cX4_limb 15 = .ok (.iload_n 1, 1) := by decide +kernel
theorem d_X4_limb_16 : decode cX4_limb 16 = .ok (.bipush 8, 2) := by decide +kernel
theorem d_X4_limb_18 : decode cX4_limb 18 = .ok (.imul, 1) := by decide +kernel
theorem d_X4_limb_19 : decode cX4_limb 19 = .ok (.iload_n 2, 1) := by decide +kernel
theorem d_X4_limb_20 : decode cX4_limb 20 = .ok (.iadd, 1) := by decide +kernel
theorem d_X4_limb_21 : decode cX4_limb 21 = .ok (.laload, 1) := by decide +kernel
theorem d_X4_limb_22 : decode cX4_limb 22 = .ok (.lreturn, 1) := by decide +kernel
theorem sg_X4_limb_0 {L : Nat} {xs : Nat → Int32} {σ : ks_St} {mc ms : Nat} {P : ka_O → ks_St → Prop} {x1 : Int32} {x2 : Int32}  (k1 : ks_W L xs mX4_limb rm_X4_limb 2 [(0, .ref 0), (1, .int x1), (2, .int x2)] [.int x1, .ref 0] σ mc ms P) : ks_W L xs mX4_limb rm_X4_limb 0 [(0, .ref 0), (1, .int x1), (2, .int x2)] [] σ mc ms P := by
  refine ka_aload_n d_X4_limb_0 rfl rfl 0 rfl ?_
  refine ka_iload_n d_X4_limb_1 rfl rfl 1 rfl ?_
  exact k1
theorem cs_X4_limb_2 {L : Nat} {xs : Nat → Int32} {σ : ks_St} {mc ms : Nat} {P : ka_O → ks_St → Prop} {f : ks_St → Prop} {g : String → ks_St → Prop} {x1 : Int32} {x2 : Int32} {s1 : Int32} (hK : ks_M L xs mX4_requireWord rm_X4_requireWord [.ref 0, .int s1] σ (px_ (pv_ f) g)) (kx : ∀ E σ', g E σ' → P (.inr E) σ') (kr : ∀ σ', f σ' → ks_W L xs mX4_limb rm_X4_limb 5 [(0, .ref 0), (1, .int x1), (2, .int x2)] [] σ' mc ms P) : ks_W L xs mX4_limb rm_X4_limb 2 [(0, .ref 0), (1, .int x1), (2, .int x2)] [.int s1, .ref 0] σ (mc + 1) (ms + 6) P := by
  refine ks_callV (q := 5) (o := 0) (ci := 4) (As := [.int s1]) (st := []) d_X4_limb_2 rfl rfl (by decide) rfl rfl lk_X4_66 ⟨by decide, by decide⟩ (Nat.le_of_ble_eq_true rfl) ⟨Nat.le_refl _, Nat.le_refl _⟩ hK (fun v σ' hq => ?_) (fun E σ' hq => ?_)
  · rcases hq with hq | ⟨E, e, -⟩
    · obtain ⟨e, hf⟩ := hq; cases e; exact kr σ' hf
    · cases e
  · rcases hq with hq | ⟨E', e, hg⟩
    · obtain ⟨e, hf⟩ := hq; cases e
    · cases e; exact ⟨rfl, kx _ σ' hg⟩
theorem sg_X4_limb_5 {L : Nat} {xs : Nat → Int32} {σ : ks_St} {mc ms : Nat} {P : ka_O → ks_St → Prop} {x1 : Int32} {x2 : Int32}  (k1 : ks_W L xs mX4_limb rm_X4_limb 8 [(0, .ref 0), (1, .int x1), (2, .int x2)] [.int x2, .int x1, .ref 0] σ mc ms P) : ks_W L xs mX4_limb rm_X4_limb 5 [(0, .ref 0), (1, .int x1), (2, .int x2)] [] σ mc ms P := by
  refine ka_aload_n d_X4_limb_5 rfl rfl 0 rfl ?_
  refine ka_iload_n d_X4_limb_6 rfl rfl 1 rfl ?_
  refine ka_iload_n d_X4_limb_7 rfl rfl 2 rfl ?_
  exact k1
theorem cs_X4_limb_8 {L : Nat} {xs : Nat → Int32} {σ : ks_St} {mc ms : Nat} {P : ka_O → ks_St → Prop} {f : ks_St → Prop} {g : String → ks_St → Prop} {x1 : Int32} {x2 : Int32} {s1 : Int32} {s2 : Int32} (hK : ks_M L xs mX4_requireLimb rm_X4_requireLimb [.ref 0, .int s1, .int s2] σ (px_ (pv_ f) g)) (kx : ∀ E σ', g E σ' → P (.inr E) σ') (kr : ∀ σ', f σ' → ks_W L xs mX4_limb rm_X4_limb 11 [(0, .ref 0), (1, .int x1), (2, .int x2)] [] σ' mc ms P) : ks_W L xs mX4_limb rm_X4_limb 8 [(0, .ref 0), (1, .int x1), (2, .int x2)] [.int s2, .int s1, .ref 0] σ (mc + 1) (ms + 6) P := by
  refine ks_callV (q := 11) (o := 0) (ci := 4) (As := [.int s1, .int s2]) (st := []) d_X4_limb_8 rfl rfl (by decide) rfl rfl lk_X4_70 ⟨by decide, by decide⟩ (Nat.le_of_ble_eq_true rfl) ⟨Nat.le_refl _, Nat.le_refl _⟩ hK (fun v σ' hq => ?_) (fun E σ' hq => ?_)
  · rcases hq with hq | ⟨E, e, -⟩
    · obtain ⟨e, hf⟩ := hq; cases e; exact kr σ' hf
    · cases e
  · rcases hq with hq | ⟨E', e, hg⟩
    · obtain ⟨e, hf⟩ := hq; cases e
    · cases e; exact ⟨rfl, kx _ σ' hg⟩
theorem sg_X4_limb_11 {L : Nat} {xs : Nat → Int32} {σ : ks_St} {mc ms : Nat} {P : ka_O → ks_St → Prop} {x1 : Int32} {x2 : Int32}  (v1 : vp_in ((x1 * 8) + x2) 4800) (r2 : P (.inl (some (.long (sg_ σ 2 ((x1 * 8) + x2).toNatClampNeg)))) σ) : ks_W L xs mX4_limb rm_X4_limb 11 [(0, .ref 0), (1, .int x1), (2, .int x2)] [] σ mc ms P := by
  refine ka_aload_n d_X4_limb_11 rfl rfl 0 rfl ?_
  refine gf_X4_2 d_X4_limb_12 rfl fl_X4_13 ?_
  refine ka_iload_n d_X4_limb_15 rfl rfl 1 rfl ?_
  refine ka_bipush (v := 8) d_X4_limb_16 rfl (by decide) ?_
  refine ka_imul d_X4_limb_18 rfl ?_
  refine ka_iload_n d_X4_limb_19 rfl rfl 2 rfl ?_
  refine ka_iadd d_X4_limb_20 rfl ?_
  refine ks_lald row_2 d_X4_limb_21 rfl v1 ?_
  exact ks_lret d_X4_limb_22 rfl r2
theorem d_X4_real_0 : decode cX4_real 0 = .ok (.aload_n 0, 1) := by decide +kernel
theorem d_X4_real_1 : decode cX4_real 1 = .ok (.iload_n 2, 1) := by decide +kernel
theorem d_X4_real_2 : decode cX4_real 2 = .ok (.invokevirtual 66, 3) := by decide +kernel
theorem d_X4_real_5 : decode cX4_real 5 = .ok (.aload_n 0, 1) := by decide +kernel
theorem d_X4_real_6 : decode cX4_real 6 = .ok (.iload_n 3, 1) := by decide +kernel
theorem d_X4_real_7 : decode cX4_real 7 = .ok (.invokevirtual 66, 3) := by decide +kernel
theorem d_X4_real_10 : decode cX4_real 10 = .ok (.aload_n 0, 1) := by decide +kernel
theorem d_X4_real_11 : decode cX4_real 11 = .ok (.iload_n 1, 1) := by decide +kernel
theorem d_X4_real_12 : decode cX4_real 12 = .ok (.iconst 3, 1) := by decide +kernel
theorem d_X4_real_13 : decode cX4_real 13 = .ok (.invokevirtual 78, 3) := by decide +kernel
theorem d_X4_real_16 : decode cX4_real 16 = .ok (.aload_n 0, 1) := by decide +kernel
theorem d_X4_real_17 : decode cX4_real 17 = .ok (.iload 4, 2) := by decide +kernel
theorem d_X4_real_19 : decode cX4_real 19 = .ok (.iconst 4, 1) := by decide +kernel
theorem d_X4_real_20 : decode cX4_real 20 = .ok (.invokevirtual 78, 3) := by decide +kernel
theorem d_X4_real_23 : decode cX4_real 23 = .ok (.aload_n 0, 1) := by decide +kernel
theorem d_X4_real_24 : decode cX4_real 24 = .ok (.iload_n 2, 1) := by decide +kernel
theorem d_X4_real_25 : decode cX4_real 25 = .ok (.iload_n 3, 1) := by decide +kernel
theorem d_X4_real_26 : decode cX4_real 26 = .ok (.invokevirtual 81, 3) := by decide +kernel
theorem d_X4_real_29 : decode cX4_real 29 = .ok (.aload_n 0, 1) := by decide +kernel
theorem d_X4_real_30 : decode cX4_real 30 = .ok (.getfield 9, 3) := by decide +kernel
theorem d_X4_real_33 : decode cX4_real 33 = .ok (.iload_n 2, 1) := by decide +kernel
theorem d_X4_real_34 : decode cX4_real 34 = .ok (.iaload, 1) := by decide +kernel
theorem d_X4_real_35 : decode cX4_real 35 = .ok (.istore 5, 2) := by decide +kernel
theorem d_X4_real_37 : decode cX4_real 37 = .ok (.iload 5, 2) := by decide +kernel
theorem d_X4_real_39 : decode cX4_real 39 = .ok (.bipush 8, 2) := by decide +kernel
theorem d_X4_real_41 : decode cX4_real 41 = .ok (.if_icmp .eq 27, 3) := by decide +kernel
theorem d_X4_real_44 : decode cX4_real 44 = .ok (.iload 5, 2) := by decide +kernel
theorem d_X4_real_46 : decode cX4_real 46 = .ok (.bipush 16, 2) := by decide +kernel
theorem d_X4_real_48 : decode cX4_real 48 = .ok (.if_icmp .eq 20, 3) := by decide +kernel
theorem d_X4_real_51 : decode cX4_real 51 = .ok (.iload 5, 2) := by decide +kernel
theorem d_X4_real_53 : decode cX4_real 53 = .ok (.bipush 32, 2) := by decide +kernel
theorem d_X4_real_55 : decode cX4_real 55 = .ok (.if_icmp .eq 13, 3) := by decide +kernel
theorem d_X4_real_58 : decode cX4_real 58 = .ok (.new 84, 3) := by decide +kernel
theorem d_X4_real_61 : decode cX4_real 61 = .ok (.dup, 1) := by decide +kernel
theorem d_X4_real_62 : decode cX4_real 62 = .ok (.ldc 151, 2) := by decide +kernel
theorem d_X4_real_64 : decode cX4_real 64 = .ok (.invokespecial 88, 3) := by decide +kernel
theorem d_X4_real_67 : decode cX4_real 67 = .ok (.athrow, 1) := by decide +kernel
theorem d_X4_real_68 : decode cX4_real 68 = .ok (.aload_n 0, 1) := by decide +kernel
theorem d_X4_real_69 : decode cX4_real 69 = .ok (.invokevirtual 53, 3) := by decide +kernel
theorem d_X4_real_72 : decode cX4_real 72 = .ok (.aload_n 0, 1) := by decide +kernel
theorem d_X4_real_73 : decode cX4_real 73 = .ok (.getfield 40, 3) := by decide +kernel
theorem d_X4_real_76 : decode cX4_real 76 = .ok (.iload 5, 2) := by decide +kernel
theorem d_X4_real_78 : decode cX4_real 78 = .ok (.iload 4, 2) := by decide +kernel
theorem d_X4_real_80 : decode cX4_real 80 = .ok (.invokevirtual 153, 3) := by decide +kernel
theorem d_X4_real_83 : decode cX4_real 83 = .ok (.aload_n 0, 1) := by decide +kernel
theorem d_X4_real_84 : decode cX4_real 84 = .ok (.getfield 27, 3) := by decide +kernel
theorem d_X4_real_87 : decode cX4_real 87 = .ok (.iconst 0, 1) := by decide +kernel
theorem d_X4_real_88 : decode cX4_real 88 = .ok (.aload_n 0, 1) := by decide +kernel
theorem d_X4_real_89 : decode cX4_real 89 = .ok (.getfield 40, 3) := by decide +kernel
theorem d_X4_real_92 : decode cX4_real 92 = .ok (.iload_n 1, 1) := by decide +kernel
theorem d_X4_real_93 : decode cX4_real 93 = .ok (.aload_n 0, 1) := by decide +kernel
theorem d_X4_real_94 : decode cX4_real 94 = .ok (.getfield 13, 3) := by decide +kernel
theorem d_X4_real_97 : decode cX4_real 97 = .ok (.iload_n 2, 1) := by decide +kernel
theorem d_X4_real_98 : decode cX4_real 98 = .ok (.bipush 8, 2) := by decide +kernel
theorem d_X4_real_100 : decode cX4_real 100 = .ok (.imul, 1) := by decide +kernel
theorem d_X4_real_101 : decode cX4_real 101 = .ok (.laload, 1) := by decide +kernel
theorem d_X4_real_102 : decode cX4_real 102 = .ok (.aload_n 0, 1) := by decide +kernel
theorem d_X4_real_103 : decode cX4_real 103 = .ok (.getfield 13, 3) := by decide +kernel
theorem d_X4_real_106 : decode cX4_real 106 = .ok (.iload_n 3, 1) := by decide +kernel
theorem d_X4_real_107 : decode cX4_real 107 = .ok (.bipush 8, 2) := by decide +kernel
theorem d_X4_real_109 : decode cX4_real 109 = .ok (.imul, 1) := by decide +kernel
theorem d_X4_real_110 : decode cX4_real 110 = .ok (.laload, 1) := by decide +kernel
theorem d_X4_real_111 : decode cX4_real 111 = .ok (.invokevirtual 156, 3) := by decide +kernel
theorem d_X4_real_114 : decode cX4_real 114 = .ok (.lastore, 1) := by decide +kernel
theorem d_X4_real_115 : decode cX4_real 115 = .ok (.aload_n 0, 1) := by decide +kernel
theorem d_X4_real_116 : decode cX4_real 116 = .ok (.iload 5, 2) := by decide +kernel
theorem d_X4_real_118 : decode cX4_real 118 = .ok (.invokevirtual 62, 3) := by decide +kernel
theorem d_X4_real_121 : decode cX4_real 121 = .ok (.ireturn, 1) := by decide +kernel
theorem sg_X4_real_0 {L : Nat} {xs : Nat → Int32} {σ : ks_St} {mc ms : Nat} {P : ka_O → ks_St → Prop} {x1 : Int32} {x2 : Int32} {x3 : Int32} {x4 : Int32}  (k1 : ks_W L xs mX4_real rm_X4_real 2 [(0, .ref 0), (1, .int x1), (2, .int x2), (3, .int x3), (4, .int x4)] [.int x2, .ref 0] σ mc ms P) : ks_W L xs mX4_real rm_X4_real 0 [(0, .ref 0), (1, .int x1), (2, .int x2), (3, .int x3), (4, .int x4)] [] σ mc ms P := by
  refine ka_aload_n d_X4_real_0 rfl rfl 0 rfl ?_
  refine ka_iload_n d_X4_real_1 rfl rfl 2 rfl ?_
  exact k1
theorem cs_X4_real_2 {L : Nat} {xs : Nat → Int32} {σ : ks_St} {mc ms : Nat} {P : ka_O → ks_St → Prop} {f : ks_St → Prop} {g : String → ks_St → Prop} {x1 : Int32} {x2 : Int32} {x3 : Int32} {x4 : Int32} {s1 : Int32} (hK : ks_M L xs mX4_requireWord rm_X4_requireWord [.ref 0, .int s1] σ (px_ (pv_ f) g)) (kx : ∀ E σ', g E σ' → P (.inr E) σ') (kr : ∀ σ', f σ' → ks_W L xs mX4_real rm_X4_real 5 [(0, .ref 0), (1, .int x1), (2, .int x2), (3, .int x3), (4, .int x4)] [] σ' mc ms P) : ks_W L xs mX4_real rm_X4_real 2 [(0, .ref 0), (1, .int x1), (2, .int x2), (3, .int x3), (4, .int x4)] [.int s1, .ref 0] σ (mc + 1) (ms + 6) P := by
  refine ks_callV (q := 5) (o := 0) (ci := 4) (As := [.int s1]) (st := []) d_X4_real_2 rfl rfl (by decide) rfl rfl lk_X4_66 ⟨by decide, by decide⟩ (Nat.le_of_ble_eq_true rfl) ⟨Nat.le_refl _, Nat.le_refl _⟩ hK (fun v σ' hq => ?_) (fun E σ' hq => ?_)
  · rcases hq with hq | ⟨E, e, -⟩
    · obtain ⟨e, hf⟩ := hq; cases e; exact kr σ' hf
    · cases e
  · rcases hq with hq | ⟨E', e, hg⟩
    · obtain ⟨e, hf⟩ := hq; cases e
    · cases e; exact ⟨rfl, kx _ σ' hg⟩
theorem sg_X4_real_5 {L : Nat} {xs : Nat → Int32} {σ : ks_St} {mc ms : Nat} {P : ka_O → ks_St → Prop} {x1 : Int32} {x2 : Int32} {x3 : Int32} {x4 : Int32}  (k1 : ks_W L xs mX4_real rm_X4_real 7 [(0, .ref 0), (1, .int x1), (2, .int x2), (3, .int x3), (4, .int x4)] [.int x3, .ref 0] σ mc ms P) : ks_W L xs mX4_real rm_X4_real 5 [(0, .ref 0), (1, .int x1), (2, .int x2), (3, .int x3), (4, .int x4)] [] σ mc ms P := by
  refine ka_aload_n d_X4_real_5 rfl rfl 0 rfl ?_
  refine ka_iload_n d_X4_real_6 rfl rfl 3 rfl ?_
  exact k1
theorem cs_X4_real_7 {L : Nat} {xs : Nat → Int32} {σ : ks_St} {mc ms : Nat} {P : ka_O → ks_St → Prop} {f : ks_St → Prop} {g : String → ks_St → Prop} {x1 : Int32} {x2 : Int32} {x3 : Int32} {x4 : Int32} {s1 : Int32} (hK : ks_M L xs mX4_requireWord rm_X4_requireWord [.ref 0, .int s1] σ (px_ (pv_ f) g)) (kx : ∀ E σ', g E σ' → P (.inr E) σ') (kr : ∀ σ', f σ' → ks_W L xs mX4_real rm_X4_real 10 [(0, .ref 0), (1, .int x1), (2, .int x2), (3, .int x3), (4, .int x4)] [] σ' mc ms P) : ks_W L xs mX4_real rm_X4_real 7 [(0, .ref 0), (1, .int x1), (2, .int x2), (3, .int x3), (4, .int x4)] [.int s1, .ref 0] σ (mc + 1) (ms + 6) P := by
  refine ks_callV (q := 10) (o := 0) (ci := 4) (As := [.int s1]) (st := []) d_X4_real_7 rfl rfl (by decide) rfl rfl lk_X4_66 ⟨by decide, by decide⟩ (Nat.le_of_ble_eq_true rfl) ⟨Nat.le_refl _, Nat.le_refl _⟩ hK (fun v σ' hq => ?_) (fun E σ' hq => ?_)
  · rcases hq with hq | ⟨E, e, -⟩
    · obtain ⟨e, hf⟩ := hq; cases e; exact kr σ' hf
    · cases e
  · rcases hq with hq | ⟨E', e, hg⟩
    · obtain ⟨e, hf⟩ := hq; cases e
    · cases e; exact ⟨rfl, kx _ σ' hg⟩
theorem sg_X4_real_10 {L : Nat} {xs : Nat → Int32} {σ : ks_St} {mc ms : Nat} {P : ka_O → ks_St → Prop} {x1 : Int32} {x2 : Int32} {x3 : Int32} {x4 : Int32}  (k1 : ks_W L xs mX4_real rm_X4_real 13 [(0, .ref 0), (1, .int x1), (2, .int x2), (3, .int x3), (4, .int x4)] [.int 3, .int x1, .ref 0] σ mc ms P) : ks_W L xs mX4_real rm_X4_real 10 [(0, .ref 0), (1, .int x1), (2, .int x2), (3, .int x3), (4, .int x4)] [] σ mc ms P := by
  refine ka_aload_n d_X4_real_10 rfl rfl 0 rfl ?_
  refine ka_iload_n d_X4_real_11 rfl rfl 1 rfl ?_
  refine ka_iconst (v := 3) d_X4_real_12 rfl (by decide) ?_
  exact k1
theorem cs_X4_real_13 {L : Nat} {xs : Nat → Int32} {σ : ks_St} {mc ms : Nat} {P : ka_O → ks_St → Prop} {f : ks_St → Prop} {g : String → ks_St → Prop} {x1 : Int32} {x2 : Int32} {x3 : Int32} {x4 : Int32} {s1 : Int32} {s2 : Int32} (hK : ks_M L xs mX4_requireKind rm_X4_requireKind [.ref 0, .int s1, .int s2] σ (px_ (pv_ f) g)) (kx : ∀ E σ', g E σ' → P (.inr E) σ') (kr : ∀ σ', f σ' → ks_W L xs mX4_real rm_X4_real 16 [(0, .ref 0), (1, .int x1), (2, .int x2), (3, .int x3), (4, .int x4)] [] σ' mc ms P) : ks_W L xs mX4_real rm_X4_real 13 [(0, .ref 0), (1, .int x1), (2, .int x2), (3, .int x3), (4, .int x4)] [.int s2, .int s1, .ref 0] σ (mc + 1) (ms + 6) P := by
  refine ks_callV (q := 16) (o := 0) (ci := 4) (As := [.int s1, .int s2]) (st := []) d_X4_real_13 rfl rfl (by decide) rfl rfl lk_X4_78 ⟨by decide, by decide⟩ (Nat.le_of_ble_eq_true rfl) ⟨Nat.le_refl _, Nat.le_refl _⟩ hK (fun v σ' hq => ?_) (fun E σ' hq => ?_)
  · rcases hq with hq | ⟨E, e, -⟩
    · obtain ⟨e, hf⟩ := hq; cases e; exact kr σ' hf
    · cases e
  · rcases hq with hq | ⟨E', e, hg⟩
    · obtain ⟨e, hf⟩ := hq; cases e
    · cases e; exact ⟨rfl, kx _ σ' hg⟩
theorem sg_X4_real_16 {L : Nat} {xs : Nat → Int32} {σ : ks_St} {mc ms : Nat} {P : ka_O → ks_St → Prop} {x1 : Int32} {x2 : Int32} {x3 : Int32} {x4 : Int32}  (k1 : ks_W L xs mX4_real rm_X4_real 20 [(0, .ref 0), (1, .int x1), (2, .int x2), (3, .int x3), (4, .int x4)] [.int 4, .int x4, .ref 0] σ mc ms P) : ks_W L xs mX4_real rm_X4_real 16 [(0, .ref 0), (1, .int x1), (2, .int x2), (3, .int x3), (4, .int x4)] [] σ mc ms P := by
  refine ka_aload_n d_X4_real_16 rfl rfl 0 rfl ?_
  refine ka_iload d_X4_real_17 rfl 4 rfl ?_
  refine ka_iconst (v := 4) d_X4_real_19 rfl (by decide) ?_
  exact k1
theorem cs_X4_real_20 {L : Nat} {xs : Nat → Int32} {σ : ks_St} {mc ms : Nat} {P : ka_O → ks_St → Prop} {f : ks_St → Prop} {g : String → ks_St → Prop} {x1 : Int32} {x2 : Int32} {x3 : Int32} {x4 : Int32} {s1 : Int32} {s2 : Int32} (hK : ks_M L xs mX4_requireKind rm_X4_requireKind [.ref 0, .int s1, .int s2] σ (px_ (pv_ f) g)) (kx : ∀ E σ', g E σ' → P (.inr E) σ') (kr : ∀ σ', f σ' → ks_W L xs mX4_real rm_X4_real 23 [(0, .ref 0), (1, .int x1), (2, .int x2), (3, .int x3), (4, .int x4)] [] σ' mc ms P) : ks_W L xs mX4_real rm_X4_real 20 [(0, .ref 0), (1, .int x1), (2, .int x2), (3, .int x3), (4, .int x4)] [.int s2, .int s1, .ref 0] σ (mc + 1) (ms + 6) P := by
  refine ks_callV (q := 23) (o := 0) (ci := 4) (As := [.int s1, .int s2]) (st := []) d_X4_real_20 rfl rfl (by decide) rfl rfl lk_X4_78 ⟨by decide, by decide⟩ (Nat.le_of_ble_eq_true rfl) ⟨Nat.le_refl _, Nat.le_refl _⟩ hK (fun v σ' hq => ?_) (fun E σ' hq => ?_)
  · rcases hq with hq | ⟨E, e, -⟩
    · obtain ⟨e, hf⟩ := hq; cases e; exact kr σ' hf
    · cases e
  · rcases hq with hq | ⟨E', e, hg⟩
    · obtain ⟨e, hf⟩ := hq; cases e
    · cases e; exact ⟨rfl, kx _ σ' hg⟩
theorem sg_X4_real_23 {L : Nat} {xs : Nat → Int32} {σ : ks_St} {mc ms : Nat} {P : ka_O → ks_St → Prop} {x1 : Int32} {x2 : Int32} {x3 : Int32} {x4 : Int32}  (k1 : ks_W L xs mX4_real rm_X4_real 26 [(0, .ref 0), (1, .int x1), (2, .int x2), (3, .int x3), (4, .int x4)] [.int x3, .int x2, .ref 0] σ mc ms P) : ks_W L xs mX4_real rm_X4_real 23 [(0, .ref 0), (1, .int x1), (2, .int x2), (3, .int x3), (4, .int x4)] [] σ mc ms P := by
  refine ka_aload_n d_X4_real_23 rfl rfl 0 rfl ?_
  refine ka_iload_n d_X4_real_24 rfl rfl 2 rfl ?_
  refine ka_iload_n d_X4_real_25 rfl rfl 3 rfl ?_
  exact k1
theorem cs_X4_real_26 {L : Nat} {xs : Nat → Int32} {σ : ks_St} {mc ms : Nat} {P : ka_O → ks_St → Prop} {f : ks_St → Prop} {g : String → ks_St → Prop} {x1 : Int32} {x2 : Int32} {x3 : Int32} {x4 : Int32} {s1 : Int32} {s2 : Int32} (hK : ks_M L xs mX4_requireOneWidth rm_X4_requireOneWidth [.ref 0, .int s1, .int s2] σ (px_ (pv_ f) g)) (kx : ∀ E σ', g E σ' → P (.inr E) σ') (kr : ∀ σ', f σ' → ks_W L xs mX4_real rm_X4_real 29 [(0, .ref 0), (1, .int x1), (2, .int x2), (3, .int x3), (4, .int x4)] [] σ' mc ms P) : ks_W L xs mX4_real rm_X4_real 26 [(0, .ref 0), (1, .int x1), (2, .int x2), (3, .int x3), (4, .int x4)] [.int s2, .int s1, .ref 0] σ (mc + 1) (ms + 6) P := by
  refine ks_callV (q := 29) (o := 0) (ci := 4) (As := [.int s1, .int s2]) (st := []) d_X4_real_26 rfl rfl (by decide) rfl rfl lk_X4_81 ⟨by decide, by decide⟩ (Nat.le_of_ble_eq_true rfl) ⟨Nat.le_refl _, Nat.le_refl _⟩ hK (fun v σ' hq => ?_) (fun E σ' hq => ?_)
  · rcases hq with hq | ⟨E, e, -⟩
    · obtain ⟨e, hf⟩ := hq; cases e; exact kr σ' hf
    · cases e
  · rcases hq with hq | ⟨E', e, hg⟩
    · obtain ⟨e, hf⟩ := hq; cases e
    · cases e; exact ⟨rfl, kx _ σ' hg⟩
theorem sg_X4_real_29 {L : Nat} {xs : Nat → Int32} {σ : ks_St} {mc ms : Nat} {P : ka_O → ks_St → Prop} {x1 : Int32} {x2 : Int32} {x3 : Int32} {x4 : Int32}  (hmc : 1 ≤ mc) (hms : 6 ≤ ms) (v1 : vp_in x2 600) (k3 : ((sf_ σ 1 x2.toNatClampNeg) = 8) → ks_W L xs mX4_real rm_X4_real 68 [(0, .ref 0), (1, .int x1), (2, .int x2), (3, .int x3), (4, .int x4), (5, .int (sf_ σ 1 x2.toNatClampNeg))] [] σ mc ms P) (k5 : (¬ ((sf_ σ 1 x2.toNatClampNeg) = 8)) → ((sf_ σ 1 x2.toNatClampNeg) = 16) → ks_W L xs mX4_real rm_X4_real 68 [(0, .ref 0), (1, .int x1), (2, .int x2), (3, .int x3), (4, .int x4), (5, .int (sf_ σ 1 x2.toNatClampNeg))] [] σ mc ms P) (k7 : (¬ ((sf_ σ 1 x2.toNatClampNeg) = 8)) → (¬ ((sf_ σ 1 x2.toNatClampNeg) = 16)) → ((sf_ σ 1 x2.toNatClampNeg) = 32) → ks_W L xs mX4_real rm_X4_real 68 [(0, .ref 0), (1, .int x1), (2, .int x2), (3, .int x3), (4, .int x4), (5, .int (sf_ σ 1 x2.toNatClampNeg))] [] σ mc ms P) (t8 : (¬ ((sf_ σ 1 x2.toNatClampNeg) = 8)) → (¬ ((sf_ σ 1 x2.toNatClampNeg) = 16)) → (¬ ((sf_ σ 1 x2.toNatClampNeg) = 32)) → P (.inr "java/lang/IllegalArgumentException") σ) : ks_W L xs mX4_real rm_X4_real 29 [(0, .ref 0), (1, .int x1), (2, .int x2), (3, .int x3), (4, .int x4)] [] σ mc ms P := by
  refine ka_aload_n d_X4_real_29 rfl rfl 0 rfl ?_
  refine gf_X4_1 d_X4_real_30 rfl fl_X4_9 ?_
  refine ka_iload_n d_X4_real_33 rfl rfl 2 rfl ?_
  refine ks_iald row_1 d_X4_real_34 rfl v1 ?_
  refine ka_istore (ls' := [(5, .int (sf_ σ 1 x2.toNatClampNeg)), (0, .ref 0), (1, .int x1), (2, .int x2), (3, .int x3), (4, .int x4)]) d_X4_real_35 rfl (by decide) rfl ?_
  refine ka_iload d_X4_real_37 rfl 0 rfl ?_
  refine ka_bipush (v := 8) d_X4_real_39 rfl (by decide) ?_
  refine ka_icmp_eq (tgt := 68) d_X4_real_41 (by decide) rfl (fun c2 => ?_) (fun c2 => ?_)
  · refine ka_sub [1, 2, 3, 4, 5, 0] rfl ?_
    exact (k3 c2)
  · refine ka_iload d_X4_real_44 rfl 0 rfl ?_
    refine ka_bipush (v := 16) d_X4_real_46 rfl (by decide) ?_
    refine ka_icmp_eq (tgt := 68) d_X4_real_48 (by decide) rfl (fun c4 => ?_) (fun c4 => ?_)
    · refine ka_sub [1, 2, 3, 4, 5, 0] rfl ?_
      exact (k5 c2 c4)
    · refine ka_iload d_X4_real_51 rfl 0 rfl ?_
      refine ka_bipush (v := 32) d_X4_real_53 rfl (by decide) ?_
      refine ka_icmp_eq (tgt := 68) d_X4_real_55 (by decide) rfl (fun c6 => ?_) (fun c6 => ?_)
      · refine ka_sub [1, 2, 3, 4, 5, 0] rfl ?_
        exact (k7 c2 c4 c6)
      · exact ks_throw d_X4_real_58 d_X4_real_61 d_X4_real_62 d_X4_real_64 d_X4_real_67 (text := "the words are too wide or too narrow for a point") (by decide) th_iae rfl (by decide) (Nat.le_of_ble_eq_true rfl) hmc hms (t8 c2 c4 c6)
theorem sg_X4_real_68 {L : Nat} {xs : Nat → Int32} {σ : ks_St} {mc ms : Nat} {P : ka_O → ks_St → Prop} {x1 : Int32} {x2 : Int32} {x3 : Int32} {x4 : Int32} {x5 : Int32}  (k1 : ks_W L xs mX4_real rm_X4_real 69 [(0, .ref 0), (1, .int x1), (2, .int x2), (3, .int x3), (4, .int x4), (5, .int x5)] [.ref 0] σ mc ms P) : ks_W L xs mX4_real rm_X4_real 68 [(0, .ref 0), (1, .int x1), (2, .int x2), (3, .int x3), (4, .int x4), (5, .int x5)] [] σ mc ms P := by
  refine ka_aload_n d_X4_real_68 rfl rfl 0 rfl ?_
  exact k1
theorem cs_X4_real_69 {L : Nat} {xs : Nat → Int32} {σ : ks_St} {mc ms : Nat} {P : ka_O → ks_St → Prop} {f : ks_St → Prop} {g : String → ks_St → Prop} {x1 : Int32} {x2 : Int32} {x3 : Int32} {x4 : Int32} {x5 : Int32} (hK : ks_M L xs mX4_requireRoom rm_X4_requireRoom [.ref 0] σ (px_ (pv_ f) g)) (kx : ∀ E σ', g E σ' → P (.inr E) σ') (kr : ∀ σ', f σ' → ks_W L xs mX4_real rm_X4_real 72 [(0, .ref 0), (1, .int x1), (2, .int x2), (3, .int x3), (4, .int x4), (5, .int x5)] [] σ' mc ms P) : ks_W L xs mX4_real rm_X4_real 69 [(0, .ref 0), (1, .int x1), (2, .int x2), (3, .int x3), (4, .int x4), (5, .int x5)] [.ref 0] σ (mc + 1) (ms + 6) P := by
  refine ks_callV (q := 72) (o := 0) (ci := 4) (As := []) (st := []) d_X4_real_69 rfl rfl (by decide) rfl rfl lk_X4_53 ⟨by decide, by decide⟩ (Nat.le_of_ble_eq_true rfl) ⟨Nat.le_refl _, Nat.le_refl _⟩ hK (fun v σ' hq => ?_) (fun E σ' hq => ?_)
  · rcases hq with hq | ⟨E, e, -⟩
    · obtain ⟨e, hf⟩ := hq; cases e; exact kr σ' hf
    · cases e
  · rcases hq with hq | ⟨E', e, hg⟩
    · obtain ⟨e, hf⟩ := hq; cases e
    · cases e; exact ⟨rfl, kx _ σ' hg⟩
theorem sg_X4_real_72 {L : Nat} {xs : Nat → Int32} {σ : ks_St} {mc ms : Nat} {P : ka_O → ks_St → Prop} {x1 : Int32} {x2 : Int32} {x3 : Int32} {x4 : Int32} {x5 : Int32}  (k1 : ks_W L xs mX4_real rm_X4_real 80 [(0, .ref 0), (1, .int x1), (2, .int x2), (3, .int x3), (5, .int x5)] [.int x4, .int x5, .ref 16] σ mc ms P) : ks_W L xs mX4_real rm_X4_real 72 [(0, .ref 0), (1, .int x1), (2, .int x2), (3, .int x3), (4, .int x4), (5, .int x5)] [] σ mc ms P := by
  refine ka_aload_n d_X4_real_72 rfl rfl 0 rfl ?_
  refine gf_X4_8 d_X4_real_73 rfl fl_X4_40 ?_
  refine ka_iload d_X4_real_76 rfl 5 rfl ?_
  refine ka_iload d_X4_real_78 rfl 4 rfl ?_
  refine ka_sub [0, 1, 2, 3, 5] rfl ?_
  exact k1
theorem cs_X4_real_80 {L : Nat} {xs : Nat → Int32} {σ : ks_St} {mc ms : Nat} {P : ka_O → ks_St → Prop} {f : ks_St → Prop} {x1 : Int32} {x2 : Int32} {x3 : Int32} {x5 : Int32} {s1 : Int32} {s2 : Int32} (hK : ks_M L xs mX2_choose rm_X2_choose [.ref 16, .int s1, .int s2] σ (pv_ f)) (kr : ∀ σ', f σ' → ks_W L xs mX4_real rm_X4_real 83 [(0, .ref 0), (1, .int x1), (2, .int x2), (3, .int x3), (5, .int x5)] [] σ' mc ms P) : ks_W L xs mX4_real rm_X4_real 80 [(0, .ref 0), (1, .int x1), (2, .int x2), (3, .int x3), (5, .int x5)] [.int s2, .int s1, .ref 16] σ mc ms P := by
  refine ks_callV (q := 83) (o := 16) (ci := 3) (As := [.int s1, .int s2]) (st := []) d_X4_real_80 rfl rfl (by decide) rfl rfl lk_X4_153 ⟨by decide, by decide⟩ (Nat.le_of_ble_eq_true rfl) ⟨Nat.le_refl _, Nat.le_refl _⟩ hK (fun v σ' hq => ?_) (fun E σ' hq => ?_)
  · obtain ⟨e, hf⟩ := hq; cases e; exact kr σ' hf
  · obtain ⟨e, hf⟩ := hq; cases e
theorem sg_X4_real_83 {L : Nat} {xs : Nat → Int32} {σ : ks_St} {mc ms : Nat} {P : ka_O → ks_St → Prop} {x1 : Int32} {x2 : Int32} {x3 : Int32} {x5 : Int32}  (v1 : vp_in (x2 * 8) 4800) (v2 : vp_in (x3 * 8) 4800) (k3 : ks_W L xs mX4_real rm_X4_real 111 [(0, .ref 0), (5, .int x5)] [.long (sg_ σ 2 (x3 * 8).toNatClampNeg), .long (sg_ σ 2 (x2 * 8).toNatClampNeg), .int x1, .ref 16, .int 0, .ref 5] σ mc ms P) : ks_W L xs mX4_real rm_X4_real 83 [(0, .ref 0), (1, .int x1), (2, .int x2), (3, .int x3), (5, .int x5)] [] σ mc ms P := by
  refine ka_aload_n d_X4_real_83 rfl rfl 0 rfl ?_
  refine gf_X4_6 d_X4_real_84 rfl fl_X4_27 ?_
  refine ka_iconst (v := 0) d_X4_real_87 rfl (by decide) ?_
  refine ka_aload_n d_X4_real_88 rfl rfl 0 rfl ?_
  refine gf_X4_8 d_X4_real_89 rfl fl_X4_40 ?_
  refine ka_iload_n d_X4_real_92 rfl rfl 1 rfl ?_
  refine ka_aload_n d_X4_real_93 rfl rfl 0 rfl ?_
  refine gf_X4_2 d_X4_real_94 rfl fl_X4_13 ?_
  refine ka_iload_n d_X4_real_97 rfl rfl 2 rfl ?_
  refine ka_bipush (v := 8) d_X4_real_98 rfl (by decide) ?_
  refine ka_imul d_X4_real_100 rfl ?_
  refine ks_lald row_2 d_X4_real_101 rfl v1 ?_
  refine ka_aload_n d_X4_real_102 rfl rfl 0 rfl ?_
  refine gf_X4_2 d_X4_real_103 rfl fl_X4_13 ?_
  refine ka_iload_n d_X4_real_106 rfl rfl 3 rfl ?_
  refine ka_bipush (v := 8) d_X4_real_107 rfl (by decide) ?_
  refine ka_imul d_X4_real_109 rfl ?_
  refine ks_lald row_2 d_X4_real_110 rfl v2 ?_
  refine ka_sub [0, 4] rfl ?_
  exact k3
theorem cs_X4_real_111 {L : Nat} {xs : Nat → Int32} {σ : ks_St} {mc ms : Nat} {P : ka_O → ks_St → Prop} {f : Int64 → ks_St → Prop} {x5 : Int32} {s1 : Int32} {s3 : Int32} {s4 : Int64} {s5 : Int64} (hK : ks_M L xs mX2_answer rm_X2_answer [.ref 16, .int s3, .long s4, .long s5] σ (pl_ f)) (kr : ∀ r σ', f r σ' → ks_W L xs mX4_real rm_X4_real 114 [(0, .ref 0), (5, .int x5)] [.long r, .int s1, .ref 5] σ' mc ms P) : ks_W L xs mX4_real rm_X4_real 111 [(0, .ref 0), (5, .int x5)] [.long s5, .long s4, .int s3, .ref 16, .int s1, .ref 5] σ mc ms P := by
  refine ks_callV (q := 114) (o := 16) (ci := 3) (As := [.int s3, .long s4, .long s5]) (st := [.int s1, .ref 5]) d_X4_real_111 rfl rfl (by decide) rfl rfl lk_X4_156 ⟨by decide, by decide⟩ (Nat.le_of_ble_eq_true rfl) ⟨Nat.le_refl _, Nat.le_refl _⟩ hK (fun v σ' hq => ?_) (fun E σ' hq => ?_)
  · obtain ⟨r, e, hf⟩ := hq; cases e; exact kr r σ' hf
  · obtain ⟨r, e, hf⟩ := hq; cases e
theorem sg_X4_real_114 {L : Nat} {xs : Nat → Int32} {σ : ks_St} {mc ms : Nat} {P : ka_O → ks_St → Prop} {x5 : Int32} {s1 : Int32} {s2 : Int64}  (v1 : vp_in s1 9) (k2 : ks_W L xs mX4_real rm_X4_real 118 [] [.int x5, .ref 0] (ug_ σ 5 (vp_updL (sg_ σ 5) s1.toNatClampNeg s2)) mc ms P) : ks_W L xs mX4_real rm_X4_real 114 [(0, .ref 0), (5, .int x5)] [.long s2, .int s1, .ref 5] σ mc ms P := by
  refine ks_last row_5 d_X4_real_114 rfl v1 ?_
  refine ka_aload_n d_X4_real_115 rfl rfl 0 rfl ?_
  refine ka_iload d_X4_real_116 rfl 1 rfl ?_
  refine ka_sub [] rfl ?_
  exact k2
theorem cs_X4_real_118 {L : Nat} {xs : Nat → Int32} {σ : ks_St} {mc ms : Nat} {P : ka_O → ks_St → Prop} {f : Int32 → ks_St → Prop} {s1 : Int32} (hK : ks_M L xs mX4_keepMade rm_X4_keepMade [.ref 0, .int s1] σ (pi_ f)) (kr : ∀ r σ', f r σ' → ks_W L xs mX4_real rm_X4_real 121 [] [.int r] σ' mc ms P) : ks_W L xs mX4_real rm_X4_real 118 [] [.int s1, .ref 0] σ mc ms P := by
  refine ks_callV (q := 121) (o := 0) (ci := 4) (As := [.int s1]) (st := []) d_X4_real_118 rfl rfl (by decide) rfl rfl lk_X4_62 ⟨by decide, by decide⟩ (Nat.le_of_ble_eq_true rfl) ⟨Nat.le_refl _, Nat.le_refl _⟩ hK (fun v σ' hq => ?_) (fun E σ' hq => ?_)
  · obtain ⟨r, e, hf⟩ := hq; cases e; exact kr r σ' hf
  · obtain ⟨r, e, hf⟩ := hq; cases e
theorem sg_X4_real_121 {L : Nat} {xs : Nat → Int32} {σ : ks_St} {mc ms : Nat} {P : ka_O → ks_St → Prop} {s0 : Int32}  (r1 : P (.inl (some (.int s0))) σ) : ks_W L xs mX4_real rm_X4_real 121 [] [.int s0] σ mc ms P := by
  exact ks_iret (ty := .int) d_X4_real_121 rfl rfl r1
theorem d_X4_flags_0 : decode cX4_flags 0 = .ok (.aload_n 0, 1) := by decide +kernel
theorem d_X4_flags_1 : decode cX4_flags 1 = .ok (.getfield 40, 3) := by decide +kernel
theorem d_X4_flags_4 : decode cX4_flags 4 = .ok (.getfield 160, 3) := by decide +kernel
theorem d_X4_flags_7 : decode cX4_flags 7 = .ok (.ireturn, 1) := by decide +kernel
theorem sg_X4_flags_0 {L : Nat} {xs : Nat → Int32} {σ : ks_St} {mc ms : Nat} {P : ka_O → ks_St → Prop}   (r1 : P (.inl (some (.int (si_ σ 7)))) σ) : ks_W L xs mX4_flags rm_X4_flags 0 [(0, .ref 0)] [] σ mc ms P := by
  refine ka_aload_n d_X4_flags_0 rfl rfl 0 rfl ?_
  refine gf_X4_8 d_X4_flags_1 rfl fl_X4_40 ?_
  refine gf_X2_0 d_X4_flags_4 rfl fl_X4_160 ?_
  exact ks_iret (ty := .int) d_X4_flags_7 rfl rfl r1
theorem d_X4_count_0 : decode cX4_count 0 = .ok (.aload_n 0, 1) := by decide +kernel
theorem d_X4_count_1 : decode cX4_count 1 = .ok (.iload_n 1, 1) := by decide +kernel
theorem d_X4_count_2 : decode cX4_count 2 = .ok (.invokevirtual 66, 3) := by decide +kernel
theorem d_X4_count_5 : decode cX4_count 5 = .ok (.iconst 0, 1) := by decide +kernel
theorem d_X4_count_6 : decode cX4_count 6 = .ok (.istore_n 2, 1) := by decide +kernel
theorem d_X4_count_7 : decode cX4_count 7 = .ok (.iconst 0, 1) := by decide +kernel
theorem d_X4_count_8 : decode cX4_count 8 = .ok (.istore_n 3, 1) := by decide +kernel
theorem d_X4_count_9 : decode cX4_count 9 = .ok (.iload_n 3, 1) := by decide +kernel
theorem d_X4_count_10 : decode cX4_count 10 = .ok (.bipush 8, 2) := by decide +kernel
theorem d_X4_count_12 : decode cX4_count 12 = .ok (.if_icmp .ge 26, 3) := by decide +kernel
theorem d_X4_count_15 : decode cX4_count 15 = .ok (.iload_n 2, 1) := by decide +kernel
theorem d_X4_count_16 : decode cX4_count 16 = .ok (.aload_n 0, 1) := by decide +kernel
theorem d_X4_count_17 : decode cX4_count 17 = .ok (.getfield 13, 3) := by decide +kernel
theorem d_X4_count_20 : decode cX4_count 20 = .ok (.iload_n 1, 1) := by decide +kernel
theorem d_X4_count_21 : decode cX4_count 21 = .ok (.bipush 8, 2) := by decide +kernel
theorem d_X4_count_23 : decode cX4_count 23 = .ok (.imul, 1) := by decide +kernel
theorem d_X4_count_24 : decode cX4_count 24 = .ok (.iload_n 3, 1) := by decide +kernel
theorem d_X4_count_25 : decode cX4_count 25 = .ok (.iadd, 1) := by decide +kernel
theorem d_X4_count_26 : decode cX4_count 26 = .ok (.laload, 1) := by decide +kernel
theorem d_X4_count_27 : decode cX4_count 27 = .ok (.invokestatic 163, 3) := by decide +kernel
theorem d_X4_count_30 : decode cX4_count 30 = .ok (.iadd, 1) := by decide +kernel
theorem d_X4_count_31 : decode cX4_count 31 = .ok (.istore_n 2, 1) := by decide +kernel
theorem d_X4_count_32 : decode cX4_count 32 = .ok (.iinc 3 1, 3) := by decide +kernel
theorem d_X4_count_35 : decode cX4_count 35 = .ok (.goto (-26), 3) := by decide +kernel
theorem d_X4_count_38 : decode cX4_count 38 = .ok (.iload_n 2, 1) := by decide +kernel
theorem d_X4_count_39 : decode cX4_count 39 = .ok (.ireturn, 1) := by decide +kernel
theorem sg_X4_count_0 {L : Nat} {xs : Nat → Int32} {σ : ks_St} {mc ms : Nat} {P : ka_O → ks_St → Prop} {x1 : Int32}  (k1 : ks_W L xs mX4_count rm_X4_count 2 [(0, .ref 0), (1, .int x1)] [.int x1, .ref 0] σ mc ms P) : ks_W L xs mX4_count rm_X4_count 0 [(0, .ref 0), (1, .int x1)] [] σ mc ms P := by
  refine ka_aload_n d_X4_count_0 rfl rfl 0 rfl ?_
  refine ka_iload_n d_X4_count_1 rfl rfl 1 rfl ?_
  exact k1
theorem cs_X4_count_2 {L : Nat} {xs : Nat → Int32} {σ : ks_St} {mc ms : Nat} {P : ka_O → ks_St → Prop} {f : ks_St → Prop} {g : String → ks_St → Prop} {x1 : Int32} {s1 : Int32} (hK : ks_M L xs mX4_requireWord rm_X4_requireWord [.ref 0, .int s1] σ (px_ (pv_ f) g)) (kx : ∀ E σ', g E σ' → P (.inr E) σ') (kr : ∀ σ', f σ' → ks_W L xs mX4_count rm_X4_count 5 [(0, .ref 0), (1, .int x1)] [] σ' mc ms P) : ks_W L xs mX4_count rm_X4_count 2 [(0, .ref 0), (1, .int x1)] [.int s1, .ref 0] σ (mc + 1) (ms + 6) P := by
  refine ks_callV (q := 5) (o := 0) (ci := 4) (As := [.int s1]) (st := []) d_X4_count_2 rfl rfl (by decide) rfl rfl lk_X4_66 ⟨by decide, by decide⟩ (Nat.le_of_ble_eq_true rfl) ⟨Nat.le_refl _, Nat.le_refl _⟩ hK (fun v σ' hq => ?_) (fun E σ' hq => ?_)
  · rcases hq with hq | ⟨E, e, -⟩
    · obtain ⟨e, hf⟩ := hq; cases e; exact kr σ' hf
    · cases e
  · rcases hq with hq | ⟨E', e, hg⟩
    · obtain ⟨e, hf⟩ := hq; cases e
    · cases e; exact ⟨rfl, kx _ σ' hg⟩
theorem sg_X4_count_5 {L : Nat} {xs : Nat → Int32} {σ : ks_St} {mc ms : Nat} {P : ka_O → ks_St → Prop} {x1 : Int32}  (k1 : ks_W L xs mX4_count rm_X4_count 9 [(0, .ref 0), (1, .int x1), (2, .int 0), (3, .int 0)] [] σ mc ms P) : ks_W L xs mX4_count rm_X4_count 5 [(0, .ref 0), (1, .int x1)] [] σ mc ms P := by
  refine ka_iconst (v := 0) d_X4_count_5 rfl (by decide) ?_
  refine ka_istore_n (ls' := [(2, .int 0), (0, .ref 0), (1, .int x1)]) d_X4_count_6 rfl rfl (by decide) rfl ?_
  refine ka_iconst (v := 0) d_X4_count_7 rfl (by decide) ?_
  refine ka_istore_n (ls' := [(3, .int 0), (2, .int 0), (0, .ref 0), (1, .int x1)]) d_X4_count_8 rfl rfl (by decide) rfl ?_
  refine ka_sub [2, 3, 1, 0] rfl ?_
  exact k1
theorem sg_X4_count_9 {L : Nat} {xs : Nat → Int32} {σ : ks_St} {mc ms : Nat} {P : ka_O → ks_St → Prop} {x1 : Int32} {x2 : Int32} {x3 : Int32}  (r2 : (8 ≤ x3) → P (.inl (some (.int x2))) σ) (v3 : (¬ (8 ≤ x3)) → vp_in ((x1 * 8) + x3) 4800) (k4 : (¬ (8 ≤ x3)) → ks_W L xs mX4_count rm_X4_count 27 [(0, .ref 0), (1, .int x1), (3, .int x3)] [.long (sg_ σ 2 ((x1 * 8) + x3).toNatClampNeg), .int x2] σ mc ms P) : ks_W L xs mX4_count rm_X4_count 9 [(0, .ref 0), (1, .int x1), (2, .int x2), (3, .int x3)] [] σ mc ms P := by
  refine ka_iload_n d_X4_count_9 rfl rfl 3 rfl ?_
  refine ka_bipush (v := 8) d_X4_count_10 rfl (by decide) ?_
  refine ka_icmp_ge (tgt := 38) d_X4_count_12 (by decide) rfl (fun c1 => ?_) (fun c1 => ?_)
  · refine ka_iload_n d_X4_count_38 rfl rfl 2 rfl ?_
    exact ks_iret (ty := .int) d_X4_count_39 rfl rfl (r2 c1)
  · refine ka_iload_n d_X4_count_15 rfl rfl 2 rfl ?_
    refine ka_aload_n d_X4_count_16 rfl rfl 0 rfl ?_
    refine gf_X4_2 d_X4_count_17 rfl fl_X4_13 ?_
    refine ka_iload_n d_X4_count_20 rfl rfl 1 rfl ?_
    refine ka_bipush (v := 8) d_X4_count_21 rfl (by decide) ?_
    refine ka_imul d_X4_count_23 rfl ?_
    refine ka_iload_n d_X4_count_24 rfl rfl 3 rfl ?_
    refine ka_iadd d_X4_count_25 rfl ?_
    refine ks_lald row_2 d_X4_count_26 rfl (v3 c1) ?_
    refine ka_sub [0, 1, 3] rfl ?_
    exact (k4 c1)
theorem cs_X4_count_27 {L : Nat} {xs : Nat → Int32} {σ : ks_St} {mc ms : Nat} {P : ka_O → ks_St → Prop} {f : Int32 → ks_St → Prop} {x1 : Int32} {x3 : Int32} {s0 : Int32} {s1 : Int64} (hK : ks_M L xs mJ13_bitCount_95d88 rm_J13_bitCount_95d88 [.long s1] σ (pi_ f)) (kr : ∀ r σ', f r σ' → ks_W L xs mX4_count rm_X4_count 30 [(0, .ref 0), (1, .int x1), (3, .int x3)] [.int r, .int s0] σ' mc ms P) : ks_W L xs mX4_count rm_X4_count 27 [(0, .ref 0), (1, .int x1), (3, .int x3)] [.long s1, .int s0] σ mc ms P := by
  refine ks_callS (q := 30) (As := [.long s1]) (st := [.int s0]) d_X4_count_27 rfl rfl lk_X4_163 ⟨by decide, by decide⟩ (Nat.le_of_ble_eq_true rfl) ⟨Nat.le_refl _, Nat.le_refl _⟩ hK (fun v σ' hq => ?_) (fun E σ' hq => ?_)
  · obtain ⟨r, e, hf⟩ := hq; cases e; exact kr r σ' hf
  · obtain ⟨r, e, hf⟩ := hq; cases e
theorem sg_X4_count_30 {L : Nat} {xs : Nat → Int32} {σ : ks_St} {mc ms : Nat} {P : ka_O → ks_St → Prop} {x1 : Int32} {x3 : Int32} {s0 : Int32} {s1 : Int32}  (k1 : ks_W L xs mX4_count rm_X4_count 9 [(0, .ref 0), (1, .int x1), (2, .int (s0 + s1)), (3, .int (x3 + 1))] [] σ mc ms P) : ks_W L xs mX4_count rm_X4_count 30 [(0, .ref 0), (1, .int x1), (3, .int x3)] [.int s1, .int s0] σ mc ms P := by
  refine ka_iadd d_X4_count_30 rfl ?_
  refine ka_istore_n (ls' := [(2, .int (s0 + s1)), (0, .ref 0), (1, .int x1), (3, .int x3)]) d_X4_count_31 rfl rfl (by decide) rfl ?_
  refine ka_iinc (g := 3) (v := x3 + 1) (ls' := [(3, .int (x3 + 1)), (2, .int (s0 + s1)), (0, .ref 0), (1, .int x1)]) d_X4_count_32 rfl rfl rfl (by decide) rfl ?_
  refine ka_goto (q := 9) d_X4_count_35 (by decide) ?_
  refine ka_sub [2, 3, 1, 0] rfl ?_
  exact k1
theorem d_X4_width_0 : decode cX4_width 0 = .ok (.aload_n 0, 1) := by decide +kernel
theorem d_X4_width_1 : decode cX4_width 1 = .ok (.iload_n 1, 1) := by decide +kernel
theorem d_X4_width_2 : decode cX4_width 2 = .ok (.invokevirtual 66, 3) := by decide +kernel
theorem d_X4_width_5 : decode cX4_width 5 = .ok (.aload_n 0, 1) := by decide +kernel
theorem d_X4_width_6 : decode cX4_width 6 = .ok (.getfield 9, 3) := by decide +kernel
theorem d_X4_width_9 : decode cX4_width 9 = .ok (.iload_n 1, 1) := by decide +kernel
theorem d_X4_width_10 : decode cX4_width 10 = .ok (.iaload, 1) := by decide +kernel
theorem d_X4_width_11 : decode cX4_width 11 = .ok (.ireturn, 1) := by decide +kernel
theorem sg_X4_width_0 {L : Nat} {xs : Nat → Int32} {σ : ks_St} {mc ms : Nat} {P : ka_O → ks_St → Prop} {x1 : Int32}  (k1 : ks_W L xs mX4_width rm_X4_width 2 [(0, .ref 0), (1, .int x1)] [.int x1, .ref 0] σ mc ms P) : ks_W L xs mX4_width rm_X4_width 0 [(0, .ref 0), (1, .int x1)] [] σ mc ms P := by
  refine ka_aload_n d_X4_width_0 rfl rfl 0 rfl ?_
  refine ka_iload_n d_X4_width_1 rfl rfl 1 rfl ?_
  exact k1
theorem cs_X4_width_2 {L : Nat} {xs : Nat → Int32} {σ : ks_St} {mc ms : Nat} {P : ka_O → ks_St → Prop} {f : ks_St → Prop} {g : String → ks_St → Prop} {x1 : Int32} {s1 : Int32} (hK : ks_M L xs mX4_requireWord rm_X4_requireWord [.ref 0, .int s1] σ (px_ (pv_ f) g)) (kx : ∀ E σ', g E σ' → P (.inr E) σ') (kr : ∀ σ', f σ' → ks_W L xs mX4_width rm_X4_width 5 [(0, .ref 0), (1, .int x1)] [] σ' mc ms P) : ks_W L xs mX4_width rm_X4_width 2 [(0, .ref 0), (1, .int x1)] [.int s1, .ref 0] σ (mc + 1) (ms + 6) P := by
  refine ks_callV (q := 5) (o := 0) (ci := 4) (As := [.int s1]) (st := []) d_X4_width_2 rfl rfl (by decide) rfl rfl lk_X4_66 ⟨by decide, by decide⟩ (Nat.le_of_ble_eq_true rfl) ⟨Nat.le_refl _, Nat.le_refl _⟩ hK (fun v σ' hq => ?_) (fun E σ' hq => ?_)
  · rcases hq with hq | ⟨E, e, -⟩
    · obtain ⟨e, hf⟩ := hq; cases e; exact kr σ' hf
    · cases e
  · rcases hq with hq | ⟨E', e, hg⟩
    · obtain ⟨e, hf⟩ := hq; cases e
    · cases e; exact ⟨rfl, kx _ σ' hg⟩
theorem sg_X4_width_5 {L : Nat} {xs : Nat → Int32} {σ : ks_St} {mc ms : Nat} {P : ka_O → ks_St → Prop} {x1 : Int32}  (v1 : vp_in x1 600) (r2 : P (.inl (some (.int (sf_ σ 1 x1.toNatClampNeg)))) σ) : ks_W L xs mX4_width rm_X4_width 5 [(0, .ref 0), (1, .int x1)] [] σ mc ms P := by
  refine ka_aload_n d_X4_width_5 rfl rfl 0 rfl ?_
  refine gf_X4_1 d_X4_width_6 rfl fl_X4_9 ?_
  refine ka_iload_n d_X4_width_9 rfl rfl 1 rfl ?_
  refine ks_iald row_1 d_X4_width_10 rfl v1 ?_
  exact ks_iret (ty := .int) d_X4_width_11 rfl rfl r2
