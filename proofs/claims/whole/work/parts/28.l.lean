theorem d_L_cell_0 : decode cL_cell 0 = .ok (.iload_n 1, 1) := by decide +kernel
theorem d_L_cell_1 : decode cL_cell 1 = .ok (.aload_n 0, 1) := by decide +kernel
theorem d_L_cell_2 : decode cL_cell 2 = .ok (.arraylength, 1) := by decide +kernel
theorem d_L_cell_3 : decode cL_cell 3 = .ok (.if_icmp .ge 9, 3) := by decide +kernel
theorem d_L_cell_6 : decode cL_cell 6 = .ok (.aload_n 0, 1) := by decide +kernel
theorem d_L_cell_7 : decode cL_cell 7 = .ok (.iload_n 1, 1) := by decide +kernel
theorem d_L_cell_8 : decode cL_cell 8 = .ok (.iaload, 1) := by decide +kernel
theorem d_L_cell_9 : decode cL_cell 9 = .ok (.goto 4, 3) := by decide +kernel
theorem d_L_cell_12 : decode cL_cell 12 = .ok (.iconst 0, 1) := by decide +kernel
theorem d_L_cell_13 : decode cL_cell 13 = .ok (.ireturn, 1) := by decide +kernel
theorem sg_L_cell_0 {L : Nat} {xs : Nat → Int32} {σ : ks_St} {mc ms : Nat} {P : ka_O → ks_St → Prop} {x1 : Int32}  (k2 : ((nI L) ≤ x1) → ks_W L xs mL_cell rm_L_cell 13 [] [.int 0] σ mc ms P) (v3 : (¬ ((nI L) ≤ x1)) → vp_in x1 L) (k4 : (¬ ((nI L) ≤ x1)) → ks_W L xs mL_cell rm_L_cell 13 [] [.int (xs x1.toNatClampNeg)] σ mc ms P) : ks_W L xs mL_cell rm_L_cell 0 [(0, .ref ka_S), (1, .int x1)] [] σ mc ms P := by
  refine ka_iload_n d_L_cell_0 rfl rfl 1 rfl ?_
  refine ka_aload_n d_L_cell_1 rfl rfl 0 rfl ?_
  refine ka_slen d_L_cell_2 rfl ?_
  refine ka_icmp_ge (tgt := 12) d_L_cell_3 (by decide) rfl (fun c1 => ?_) (fun c1 => ?_)
  · refine ka_iconst (v := 0) d_L_cell_12 rfl (by decide) ?_
    refine ka_sub [] rfl ?_
    exact (k2 c1)
  · refine ka_aload_n d_L_cell_6 rfl rfl 0 rfl ?_
    refine ka_iload_n d_L_cell_7 rfl rfl 1 rfl ?_
    refine ka_sld d_L_cell_8 rfl (v3 c1) ?_
    refine ka_goto (q := 13) d_L_cell_9 (by decide) ?_
    refine ka_sub [] rfl ?_
    exact (k4 c1)
theorem sg_L_cell_13 {L : Nat} {xs : Nat → Int32} {σ : ks_St} {mc ms : Nat} {P : ka_O → ks_St → Prop} {s0 : Int32}  (r1 : P (.inl (some (.int s0))) σ) : ks_W L xs mL_cell rm_L_cell 13 [] [.int s0] σ mc ms P := by
  exact ks_iret (ty := .int) d_L_cell_13 rfl rfl r1
theorem d_L_word_0 : decode cL_word 0 = .ok (.aload_n 1, 1) := by decide +kernel
theorem d_L_word_1 : decode cL_word 1 = .ok (.iconst 0, 1) := by decide +kernel
theorem d_L_word_2 : decode cL_word 2 = .ok (.aload_n 0, 1) := by decide +kernel
theorem d_L_word_3 : decode cL_word 3 = .ok (.invokevirtual 7, 3) := by decide +kernel
theorem d_L_word_6 : decode cL_word 6 = .ok (.i2l, 1) := by decide +kernel
theorem d_L_word_7 : decode cL_word 7 = .ok (.lastore, 1) := by decide +kernel
theorem d_L_word_8 : decode cL_word 8 = .ok (.goto 6, 3) := by decide +kernel
theorem d_L_word_14 : decode cL_word 14 = .ok (.iconst 0, 1) := by decide +kernel
theorem d_L_word_15 : decode cL_word 15 = .ok (.ireturn, 1) := by decide +kernel
theorem sg_L_word_0 {L : Nat} {xs : Nat → Int32} {σ : ks_St} {mc ms : Nat} {P : ka_O → ks_St → Prop} {a1 na1 : Nat} (ha1 : rl_ a1 na1) (k1 : ks_W L xs mL_word rm_L_word 3 [] [.ref 0, .int 0, .ref a1] σ mc ms P) : ks_W L xs mL_word rm_L_word 0 [(0, .ref 0), (1, .ref a1)] [] σ mc ms P := by
  refine ka_aload_n d_L_word_0 rfl rfl 1 rfl ?_
  refine ka_iconst (v := 0) d_L_word_1 rfl (by decide) ?_
  refine ka_aload_n d_L_word_2 rfl rfl 0 rfl ?_
  refine ka_sub [] rfl ?_
  exact k1
theorem cs_L_word_3 {L : Nat} {xs : Nat → Int32} {σ : ks_St} {mc ms : Nat} {P : ka_O → ks_St → Prop} {f : Int32 → ks_St → Prop} {g : String → ks_St → Prop} {a1 : Nat} {s1 : Int32} (hK : ks_M L xs mX4_word rm_X4_word [.ref 0] σ (px_ (pi_ f) g)) (kx : ∀ E σ', g E σ' → ∃ v, ka_ctc mL_word 3 E v ∧ P (.inl (some (.int v))) σ') (kr : ∀ r σ', f r σ' → ks_W L xs mL_word rm_L_word 6 [] [.int r, .int s1, .ref a1] σ' mc ms P) : ks_W L xs mL_word rm_L_word 3 [] [.ref 0, .int s1, .ref a1] σ (mc + 1) (ms + 6) P := by
  refine ks_callVC (q := 6) (o := 0) (ci := 4) (As := []) (st := [.int s1, .ref a1]) d_L_word_3 rfl rfl (by decide) rfl rfl lk_L_7 ⟨by decide, by decide⟩ (Nat.le_of_ble_eq_true rfl) ⟨Nat.le_refl _, Nat.le_refl _⟩ rfl hK (fun v σ' hq => ?_) (fun E σ' hq => ?_)
  · rcases hq with hq | ⟨E, e, -⟩
    · obtain ⟨r, e, hf⟩ := hq; cases e; exact kr r σ' hf
    · cases e
  · rcases hq with hq | ⟨E', e, hg⟩
    · obtain ⟨r, e, hf⟩ := hq; cases e
    · cases e; exact kx _ σ' hg
theorem sg_L_word_6 {L : Nat} {xs : Nat → Int32} {σ : ks_St} {mc ms : Nat} {P : ka_O → ks_St → Prop} {a1 na1 : Nat} {s1 : Int32} {s2 : Int32} (ha1 : rl_ a1 na1) (v1 : vp_in s1 na1) (r2 : P (.inl (some (.int 0))) (ug_ σ a1 (vp_updL (sg_ σ a1) s1.toNatClampNeg (s2.toInt64)))) : ks_W L xs mL_word rm_L_word 6 [] [.int s2, .int s1, .ref a1] σ mc ms P := by
  refine ka_i2l d_L_word_6 rfl ?_
  refine ks_last ha1 d_L_word_7 rfl v1 ?_
  refine ka_goto (q := 14) d_L_word_8 (by decide) ?_
  refine ka_iconst (v := 0) d_L_word_14 rfl (by decide) ?_
  exact ks_iret (ty := .int) d_L_word_15 rfl rfl r2
theorem d_L_set_0 : decode cL_set 0 = .ok (.aload 5, 2) := by decide +kernel
theorem d_L_set_2 : decode cL_set 2 = .ok (.iconst 0, 1) := by decide +kernel
theorem d_L_set_3 : decode cL_set 3 = .ok (.aload_n 0, 1) := by decide +kernel
theorem d_L_set_4 : decode cL_set 4 = .ok (.iload_n 1, 1) := by decide +kernel
theorem d_L_set_5 : decode cL_set 5 = .ok (.iload_n 2, 1) := by decide +kernel
theorem d_L_set_6 : decode cL_set 6 = .ok (.lload_n 3, 1) := by decide +kernel
theorem d_L_set_7 : decode cL_set 7 = .ok (.invokevirtual 15, 3) := by decide +kernel
theorem d_L_set_10 : decode cL_set 10 = .ok (.ifCond .eq 7, 3) := by decide +kernel
theorem d_L_set_13 : decode cL_set 13 = .ok (.lconst 1, 1) := by decide +kernel
theorem d_L_set_14 : decode cL_set 14 = .ok (.goto 4, 3) := by decide +kernel
theorem d_L_set_17 : decode cL_set 17 = .ok (.lconst 0, 1) := by decide +kernel
theorem d_L_set_18 : decode cL_set 18 = .ok (.lastore, 1) := by decide +kernel
theorem d_L_set_19 : decode cL_set 19 = .ok (.goto 7, 3) := by decide +kernel
theorem d_L_set_26 : decode cL_set 26 = .ok (.iconst 0, 1) := by decide +kernel
theorem d_L_set_27 : decode cL_set 27 = .ok (.ireturn, 1) := by decide +kernel
theorem sg_L_set_0 {L : Nat} {xs : Nat → Int32} {σ : ks_St} {mc ms : Nat} {P : ka_O → ks_St → Prop} {x1 : Int32} {x2 : Int32} {x3 : Int64} {a5 na5 : Nat} (ha5 : rl_ a5 na5) (k1 : ks_W L xs mL_set rm_L_set 7 [] [.long x3, .int x2, .int x1, .ref 0, .int 0, .ref a5] σ mc ms P) : ks_W L xs mL_set rm_L_set 0 [(0, .ref 0), (1, .int x1), (2, .int x2), (3, .long x3), (5, .ref a5)] [] σ mc ms P := by
  refine ka_aload d_L_set_0 rfl 4 rfl ?_
  refine ka_iconst (v := 0) d_L_set_2 rfl (by decide) ?_
  refine ka_aload_n d_L_set_3 rfl rfl 0 rfl ?_
  refine ka_iload_n d_L_set_4 rfl rfl 1 rfl ?_
  refine ka_iload_n d_L_set_5 rfl rfl 2 rfl ?_
  refine ka_lload_n d_L_set_6 rfl rfl 3 rfl ?_
  refine ka_sub [] rfl ?_
  exact k1
theorem cs_L_set_7 {L : Nat} {xs : Nat → Int32} {σ : ks_St} {mc ms : Nat} {P : ka_O → ks_St → Prop} {f : Int32 → ks_St → Prop} {g : String → ks_St → Prop} {a5 : Nat} {s1 : Int32} {s3 : Int32} {s4 : Int32} {s5 : Int64} (hK : ks_M L xs mX4_set rm_X4_set [.ref 0, .int s3, .int s4, .long s5] σ (px_ (pi_ f) g)) (kx : ∀ E σ', g E σ' → ∃ v, ka_ctc mL_set 7 E v ∧ P (.inl (some (.int v))) σ') (kr : ∀ r σ', f r σ' → ks_W L xs mL_set rm_L_set 10 [] [.int r, .int s1, .ref a5] σ' mc ms P) : ks_W L xs mL_set rm_L_set 7 [] [.long s5, .int s4, .int s3, .ref 0, .int s1, .ref a5] σ (mc + 2) (ms + 12) P := by
  refine ks_callVC (q := 10) (o := 0) (ci := 4) (As := [.int s3, .int s4, .long s5]) (st := [.int s1, .ref a5]) d_L_set_7 rfl rfl (by decide) rfl rfl lk_L_15 ⟨by decide, by decide⟩ (Nat.le_of_ble_eq_true rfl) ⟨Nat.le_refl _, Nat.le_refl _⟩ rfl hK (fun v σ' hq => ?_) (fun E σ' hq => ?_)
  · rcases hq with hq | ⟨E, e, -⟩
    · obtain ⟨r, e, hf⟩ := hq; cases e; exact kr r σ' hf
    · cases e
  · rcases hq with hq | ⟨E', e, hg⟩
    · obtain ⟨r, e, hf⟩ := hq; cases e
    · cases e; exact kx _ σ' hg
theorem sg_L_set_10 {L : Nat} {xs : Nat → Int32} {σ : ks_St} {mc ms : Nat} {P : ka_O → ks_St → Prop} {a5 na5 : Nat} {s1 : Int32} {s2 : Int32} (ha5 : rl_ a5 na5) (k2 : (s2 = 0) → ks_W L xs mL_set rm_L_set 18 [] [.long 0, .int s1, .ref a5] σ mc ms P) (k3 : (¬ (s2 = 0)) → ks_W L xs mL_set rm_L_set 18 [] [.long 1, .int s1, .ref a5] σ mc ms P) : ks_W L xs mL_set rm_L_set 10 [] [.int s2, .int s1, .ref a5] σ mc ms P := by
  refine ka_if_eq (tgt := 17) d_L_set_10 (by decide) rfl (fun c1 => ?_) (fun c1 => ?_)
  · refine ka_lconst (v := 0) d_L_set_17 rfl (by decide) ?_
    exact (k2 c1)
  · refine ka_lconst (v := 1) d_L_set_13 rfl (by decide) ?_
    refine ka_goto (q := 18) d_L_set_14 (by decide) ?_
    exact (k3 c1)
theorem sg_L_set_18 {L : Nat} {xs : Nat → Int32} {σ : ks_St} {mc ms : Nat} {P : ka_O → ks_St → Prop} {a5 na5 : Nat} {s1 : Int32} {s2 : Int64} (ha5 : rl_ a5 na5) (v1 : vp_in s1 na5) (r2 : P (.inl (some (.int 0))) (ug_ σ a5 (vp_updL (sg_ σ a5) s1.toNatClampNeg s2))) : ks_W L xs mL_set rm_L_set 18 [] [.long s2, .int s1, .ref a5] σ mc ms P := by
  refine ks_last ha5 d_L_set_18 rfl v1 ?_
  refine ka_goto (q := 26) d_L_set_19 (by decide) ?_
  refine ka_iconst (v := 0) d_L_set_26 rfl (by decide) ?_
  exact ks_iret (ty := .int) d_L_set_27 rfl rfl r2
theorem d_L_op_0 : decode cL_op 0 = .ok (.aload 4, 2) := by decide +kernel
theorem d_L_op_2 : decode cL_op 2 = .ok (.iconst 0, 1) := by decide +kernel
theorem d_L_op_3 : decode cL_op 3 = .ok (.aload_n 0, 1) := by decide +kernel
theorem d_L_op_4 : decode cL_op 4 = .ok (.iload_n 1, 1) := by decide +kernel
theorem d_L_op_5 : decode cL_op 5 = .ok (.iload_n 2, 1) := by decide +kernel
theorem d_L_op_6 : decode cL_op 6 = .ok (.iload_n 3, 1) := by decide +kernel
theorem d_L_op_7 : decode cL_op 7 = .ok (.invokevirtual 21, 3) := by decide +kernel
theorem d_L_op_10 : decode cL_op 10 = .ok (.i2l, 1) := by decide +kernel
theorem d_L_op_11 : decode cL_op 11 = .ok (.lastore, 1) := by decide +kernel
theorem d_L_op_12 : decode cL_op 12 = .ok (.goto 19, 3) := by decide +kernel
theorem d_L_op_31 : decode cL_op 31 = .ok (.iconst 0, 1) := by decide +kernel
theorem d_L_op_32 : decode cL_op 32 = .ok (.ireturn, 1) := by decide +kernel
theorem sg_L_op_0 {L : Nat} {xs : Nat → Int32} {σ : ks_St} {mc ms : Nat} {P : ka_O → ks_St → Prop} {x1 : Int32} {x2 : Int32} {x3 : Int32} {a4 na4 : Nat} (ha4 : rl_ a4 na4) (k1 : ks_W L xs mL_op rm_L_op 7 [] [.int x3, .int x2, .int x1, .ref 0, .int 0, .ref a4] σ mc ms P) : ks_W L xs mL_op rm_L_op 0 [(0, .ref 0), (1, .int x1), (2, .int x2), (3, .int x3), (4, .ref a4)] [] σ mc ms P := by
  refine ka_aload d_L_op_0 rfl 4 rfl ?_
  refine ka_iconst (v := 0) d_L_op_2 rfl (by decide) ?_
  refine ka_aload_n d_L_op_3 rfl rfl 0 rfl ?_
  refine ka_iload_n d_L_op_4 rfl rfl 1 rfl ?_
  refine ka_iload_n d_L_op_5 rfl rfl 2 rfl ?_
  refine ka_iload_n d_L_op_6 rfl rfl 3 rfl ?_
  refine ka_sub [] rfl ?_
  exact k1
theorem cs_L_op_7 {L : Nat} {xs : Nat → Int32} {σ : ks_St} {mc ms : Nat} {P : ka_O → ks_St → Prop} {f : Int32 → ks_St → Prop} {g : String → ks_St → Prop} {a4 : Nat} {s1 : Int32} {s3 : Int32} {s4 : Int32} {s5 : Int32} (hK : ks_M L xs mX4_op rm_X4_op [.ref 0, .int s3, .int s4, .int s5] σ (px_ (pi_ f) g)) (kx : ∀ E σ', g E σ' → ∃ v, ka_ctc mL_op 7 E v ∧ P (.inl (some (.int v))) σ') (kr : ∀ r σ', f r σ' → ks_W L xs mL_op rm_L_op 10 [] [.int r, .int s1, .ref a4] σ' mc ms P) : ks_W L xs mL_op rm_L_op 7 [] [.int s5, .int s4, .int s3, .ref 0, .int s1, .ref a4] σ (mc + 7) (ms + 42) P := by
  refine ks_callVC (q := 10) (o := 0) (ci := 4) (As := [.int s3, .int s4, .int s5]) (st := [.int s1, .ref a4]) d_L_op_7 rfl rfl (by decide) rfl rfl lk_L_21 ⟨by decide, by decide⟩ (Nat.le_of_ble_eq_true rfl) ⟨Nat.le_refl _, Nat.le_refl _⟩ rfl hK (fun v σ' hq => ?_) (fun E σ' hq => ?_)
  · rcases hq with hq | ⟨E, e, -⟩
    · obtain ⟨r, e, hf⟩ := hq; cases e; exact kr r σ' hf
    · cases e
  · rcases hq with hq | ⟨E', e, hg⟩
    · obtain ⟨r, e, hf⟩ := hq; cases e
    · cases e; exact kx _ σ' hg
theorem sg_L_op_10 {L : Nat} {xs : Nat → Int32} {σ : ks_St} {mc ms : Nat} {P : ka_O → ks_St → Prop} {a4 na4 : Nat} {s1 : Int32} {s2 : Int32} (ha4 : rl_ a4 na4) (v1 : vp_in s1 na4) (r2 : P (.inl (some (.int 0))) (ug_ σ a4 (vp_updL (sg_ σ a4) s1.toNatClampNeg (s2.toInt64)))) : ks_W L xs mL_op rm_L_op 10 [] [.int s2, .int s1, .ref a4] σ mc ms P := by
  refine ka_i2l d_L_op_10 rfl ?_
  refine ks_last ha4 d_L_op_11 rfl v1 ?_
  refine ka_goto (q := 31) d_L_op_12 (by decide) ?_
  refine ka_iconst (v := 0) d_L_op_31 rfl (by decide) ?_
  exact ks_iret (ty := .int) d_L_op_32 rfl rfl r2
theorem d_L_flag_0 : decode cL_flag 0 = .ok (.aload_n 2, 1) := by decide +kernel
theorem d_L_flag_1 : decode cL_flag 1 = .ok (.iconst 0, 1) := by decide +kernel
theorem d_L_flag_2 : decode cL_flag 2 = .ok (.aload_n 0, 1) := by decide +kernel
theorem d_L_flag_3 : decode cL_flag 3 = .ok (.iload_n 1, 1) := by decide +kernel
theorem d_L_flag_4 : decode cL_flag 4 = .ok (.invokevirtual 29, 3) := by decide +kernel
theorem d_L_flag_7 : decode cL_flag 7 = .ok (.i2l, 1) := by decide +kernel
theorem d_L_flag_8 : decode cL_flag 8 = .ok (.lastore, 1) := by decide +kernel
theorem d_L_flag_9 : decode cL_flag 9 = .ok (.goto 6, 3) := by decide +kernel
theorem d_L_flag_15 : decode cL_flag 15 = .ok (.iconst 0, 1) := by decide +kernel
theorem d_L_flag_16 : decode cL_flag 16 = .ok (.ireturn, 1) := by decide +kernel
theorem sg_L_flag_0 {L : Nat} {xs : Nat → Int32} {σ : ks_St} {mc ms : Nat} {P : ka_O → ks_St → Prop} {x1 : Int32} {a2 na2 : Nat} (ha2 : rl_ a2 na2) (k1 : ks_W L xs mL_flag rm_L_flag 4 [] [.int x1, .ref 0, .int 0, .ref a2] σ mc ms P) : ks_W L xs mL_flag rm_L_flag 0 [(0, .ref 0), (1, .int x1), (2, .ref a2)] [] σ mc ms P := by
  refine ka_aload_n d_L_flag_0 rfl rfl 2 rfl ?_
  refine ka_iconst (v := 0) d_L_flag_1 rfl (by decide) ?_
  refine ka_aload_n d_L_flag_2 rfl rfl 0 rfl ?_
  refine ka_iload_n d_L_flag_3 rfl rfl 1 rfl ?_
  refine ka_sub [] rfl ?_
  exact k1
theorem cs_L_flag_4 {L : Nat} {xs : Nat → Int32} {σ : ks_St} {mc ms : Nat} {P : ka_O → ks_St → Prop} {f : Int32 → ks_St → Prop} {g : String → ks_St → Prop} {a2 : Nat} {s1 : Int32} {s3 : Int32} (hK : ks_M L xs mX4_flag rm_X4_flag [.ref 0, .int s3] σ (px_ (pi_ f) g)) (kx : ∀ E σ', g E σ' → ∃ v, ka_ctc mL_flag 4 E v ∧ P (.inl (some (.int v))) σ') (kr : ∀ r σ', f r σ' → ks_W L xs mL_flag rm_L_flag 7 [] [.int r, .int s1, .ref a2] σ' mc ms P) : ks_W L xs mL_flag rm_L_flag 4 [] [.int s3, .ref 0, .int s1, .ref a2] σ (mc + 1) (ms + 6) P := by
  refine ks_callVC (q := 7) (o := 0) (ci := 4) (As := [.int s3]) (st := [.int s1, .ref a2]) d_L_flag_4 rfl rfl (by decide) rfl rfl lk_L_29 ⟨by decide, by decide⟩ (Nat.le_of_ble_eq_true rfl) ⟨Nat.le_refl _, Nat.le_refl _⟩ rfl hK (fun v σ' hq => ?_) (fun E σ' hq => ?_)
  · rcases hq with hq | ⟨E, e, -⟩
    · obtain ⟨r, e, hf⟩ := hq; cases e; exact kr r σ' hf
    · cases e
  · rcases hq with hq | ⟨E', e, hg⟩
    · obtain ⟨r, e, hf⟩ := hq; cases e
    · cases e; exact kx _ σ' hg
theorem sg_L_flag_7 {L : Nat} {xs : Nat → Int32} {σ : ks_St} {mc ms : Nat} {P : ka_O → ks_St → Prop} {a2 na2 : Nat} {s1 : Int32} {s2 : Int32} (ha2 : rl_ a2 na2) (v1 : vp_in s1 na2) (r2 : P (.inl (some (.int 0))) (ug_ σ a2 (vp_updL (sg_ σ a2) s1.toNatClampNeg (s2.toInt64)))) : ks_W L xs mL_flag rm_L_flag 7 [] [.int s2, .int s1, .ref a2] σ mc ms P := by
  refine ka_i2l d_L_flag_7 rfl ?_
  refine ks_last ha2 d_L_flag_8 rfl v1 ?_
  refine ka_goto (q := 15) d_L_flag_9 (by decide) ?_
  refine ka_iconst (v := 0) d_L_flag_15 rfl (by decide) ?_
  exact ks_iret (ty := .int) d_L_flag_16 rfl rfl r2
theorem d_L_field_0 : decode cL_field 0 = .ok (.aload 4, 2) := by decide +kernel
theorem d_L_field_2 : decode cL_field 2 = .ok (.iconst 0, 1) := by decide +kernel
theorem d_L_field_3 : decode cL_field 3 = .ok (.aload_n 0, 1) := by decide +kernel
theorem d_L_field_4 : decode cL_field 4 = .ok (.iload_n 1, 1) := by decide +kernel
theorem d_L_field_5 : decode cL_field 5 = .ok (.iload_n 2, 1) := by decide +kernel
theorem d_L_field_6 : decode cL_field 6 = .ok (.iload_n 3, 1) := by decide +kernel
theorem d_L_field_7 : decode cL_field 7 = .ok (.invokevirtual 33, 3) := by decide +kernel
theorem d_L_field_10 : decode cL_field 10 = .ok (.i2l, 1) := by decide +kernel
theorem d_L_field_11 : decode cL_field 11 = .ok (.lastore, 1) := by decide +kernel
theorem d_L_field_12 : decode cL_field 12 = .ok (.goto 15, 3) := by decide +kernel
theorem d_L_field_27 : decode cL_field 27 = .ok (.iconst 0, 1) := by decide +kernel
theorem d_L_field_28 : decode cL_field 28 = .ok (.ireturn, 1) := by decide +kernel
theorem sg_L_field_0 {L : Nat} {xs : Nat → Int32} {σ : ks_St} {mc ms : Nat} {P : ka_O → ks_St → Prop} {x1 : Int32} {x2 : Int32} {x3 : Int32} {a4 na4 : Nat} (ha4 : rl_ a4 na4) (k1 : ks_W L xs mL_field rm_L_field 7 [] [.int x3, .int x2, .int x1, .ref 0, .int 0, .ref a4] σ mc ms P) : ks_W L xs mL_field rm_L_field 0 [(0, .ref 0), (1, .int x1), (2, .int x2), (3, .int x3), (4, .ref a4)] [] σ mc ms P := by
  refine ka_aload d_L_field_0 rfl 4 rfl ?_
  refine ka_iconst (v := 0) d_L_field_2 rfl (by decide) ?_
  refine ka_aload_n d_L_field_3 rfl rfl 0 rfl ?_
  refine ka_iload_n d_L_field_4 rfl rfl 1 rfl ?_
  refine ka_iload_n d_L_field_5 rfl rfl 2 rfl ?_
  refine ka_iload_n d_L_field_6 rfl rfl 3 rfl ?_
  refine ka_sub [] rfl ?_
  exact k1
theorem cs_L_field_7 {L : Nat} {xs : Nat → Int32} {σ : ks_St} {mc ms : Nat} {P : ka_O → ks_St → Prop} {f : Int32 → ks_St → Prop} {g : String → ks_St → Prop} {a4 : Nat} {s1 : Int32} {s3 : Int32} {s4 : Int32} {s5 : Int32} (hK : ks_M L xs mX4_field rm_X4_field [.ref 0, .int s3, .int s4, .int s5] σ (px_ (pi_ f) g)) (kx : ∀ E σ', g E σ' → ∃ v, ka_ctc mL_field 7 E v ∧ P (.inl (some (.int v))) σ') (kr : ∀ r σ', f r σ' → ks_W L xs mL_field rm_L_field 10 [] [.int r, .int s1, .ref a4] σ' mc ms P) : ks_W L xs mL_field rm_L_field 7 [] [.int s5, .int s4, .int s3, .ref 0, .int s1, .ref a4] σ (mc + 3) (ms + 18) P := by
  refine ks_callVC (q := 10) (o := 0) (ci := 4) (As := [.int s3, .int s4, .int s5]) (st := [.int s1, .ref a4]) d_L_field_7 rfl rfl (by decide) rfl rfl lk_L_33 ⟨by decide, by decide⟩ (Nat.le_of_ble_eq_true rfl) ⟨Nat.le_refl _, Nat.le_refl _⟩ rfl hK (fun v σ' hq => ?_) (fun E σ' hq => ?_)
  · rcases hq with hq | ⟨E, e, -⟩
    · obtain ⟨r, e, hf⟩ := hq; cases e; exact kr r σ' hf
    · cases e
  · rcases hq with hq | ⟨E', e, hg⟩
    · obtain ⟨r, e, hf⟩ := hq; cases e
    · cases e; exact kx _ σ' hg
theorem sg_L_field_10 {L : Nat} {xs : Nat → Int32} {σ : ks_St} {mc ms : Nat} {P : ka_O → ks_St → Prop} {a4 na4 : Nat} {s1 : Int32} {s2 : Int32} (ha4 : rl_ a4 na4) (v1 : vp_in s1 na4) (r2 : P (.inl (some (.int 0))) (ug_ σ a4 (vp_updL (sg_ σ a4) s1.toNatClampNeg (s2.toInt64)))) : ks_W L xs mL_field rm_L_field 10 [] [.int s2, .int s1, .ref a4] σ mc ms P := by
  refine ka_i2l d_L_field_10 rfl ?_
  refine ks_last ha4 d_L_field_11 rfl v1 ?_
  refine ka_goto (q := 27) d_L_field_12 (by decide) ?_
  refine ka_iconst (v := 0) d_L_field_27 rfl (by decide) ?_
  exact ks_iret (ty := .int) d_L_field_28 rfl rfl r2
theorem d_L_join_0 : decode cL_join 0 = .ok (.aload_n 3, 1) := by decide +kernel
theorem d_L_join_1 : decode cL_join 1 = .ok (.iconst 0, 1) := by decide +kernel
theorem d_L_join_2 : decode cL_join 2 = .ok (.aload_n 0, 1) := by decide +kernel
theorem d_L_join_3 : decode cL_join 3 = .ok (.iload_n 1, 1) := by decide +kernel
theorem d_L_join_4 : decode cL_join 4 = .ok (.iload_n 2, 1) := by decide +kernel
theorem d_L_join_5 : decode cL_join 5 = .ok (.invokevirtual 36, 3) := by decide +kernel
theorem d_L_join_8 : decode cL_join 8 = .ok (.i2l, 1) := by decide +kernel
theorem d_L_join_9 : decode cL_join 9 = .ok (.lastore, 1) := by decide +kernel
theorem d_L_join_10 : decode cL_join 10 = .ok (.goto 15, 3) := by decide +kernel
theorem d_L_join_25 : decode cL_join 25 = .ok (.iconst 0, 1) := by decide +kernel
theorem d_L_join_26 : decode cL_join 26 = .ok (.ireturn, 1) := by decide +kernel
theorem sg_L_join_0 {L : Nat} {xs : Nat → Int32} {σ : ks_St} {mc ms : Nat} {P : ka_O → ks_St → Prop} {x1 : Int32} {x2 : Int32} {a3 na3 : Nat} (ha3 : rl_ a3 na3) (k1 : ks_W L xs mL_join rm_L_join 5 [] [.int x2, .int x1, .ref 0, .int 0, .ref a3] σ mc ms P) : ks_W L xs mL_join rm_L_join 0 [(0, .ref 0), (1, .int x1), (2, .int x2), (3, .ref a3)] [] σ mc ms P := by
  refine ka_aload_n d_L_join_0 rfl rfl 3 rfl ?_
  refine ka_iconst (v := 0) d_L_join_1 rfl (by decide) ?_
  refine ka_aload_n d_L_join_2 rfl rfl 0 rfl ?_
  refine ka_iload_n d_L_join_3 rfl rfl 1 rfl ?_
  refine ka_iload_n d_L_join_4 rfl rfl 2 rfl ?_
  refine ka_sub [] rfl ?_
  exact k1
theorem cs_L_join_5 {L : Nat} {xs : Nat → Int32} {σ : ks_St} {mc ms : Nat} {P : ka_O → ks_St → Prop} {f : Int32 → ks_St → Prop} {g : String → ks_St → Prop} {a3 : Nat} {s1 : Int32} {s3 : Int32} {s4 : Int32} (hK : ks_M L xs mX4_join rm_X4_join [.ref 0, .int s3, .int s4] σ (px_ (pi_ f) g)) (kx : ∀ E σ', g E σ' → ∃ v, ka_ctc mL_join 5 E v ∧ P (.inl (some (.int v))) σ') (kr : ∀ r σ', f r σ' → ks_W L xs mL_join rm_L_join 8 [] [.int r, .int s1, .ref a3] σ' mc ms P) : ks_W L xs mL_join rm_L_join 5 [] [.int s4, .int s3, .ref 0, .int s1, .ref a3] σ (mc + 4) (ms + 24) P := by
  refine ks_callVC (q := 8) (o := 0) (ci := 4) (As := [.int s3, .int s4]) (st := [.int s1, .ref a3]) d_L_join_5 rfl rfl (by decide) rfl rfl lk_L_36 ⟨by decide, by decide⟩ (Nat.le_of_ble_eq_true rfl) ⟨Nat.le_refl _, Nat.le_refl _⟩ rfl hK (fun v σ' hq => ?_) (fun E σ' hq => ?_)
  · rcases hq with hq | ⟨E, e, -⟩
    · obtain ⟨r, e, hf⟩ := hq; cases e; exact kr r σ' hf
    · cases e
  · rcases hq with hq | ⟨E', e, hg⟩
    · obtain ⟨r, e, hf⟩ := hq; cases e
    · cases e; exact kx _ σ' hg
theorem sg_L_join_8 {L : Nat} {xs : Nat → Int32} {σ : ks_St} {mc ms : Nat} {P : ka_O → ks_St → Prop} {a3 na3 : Nat} {s1 : Int32} {s2 : Int32} (ha3 : rl_ a3 na3) (v1 : vp_in s1 na3) (r2 : P (.inl (some (.int 0))) (ug_ σ a3 (vp_updL (sg_ σ a3) s1.toNatClampNeg (s2.toInt64)))) : ks_W L xs mL_join rm_L_join 8 [] [.int s2, .int s1, .ref a3] σ mc ms P := by
  refine ka_i2l d_L_join_8 rfl ?_
  refine ks_last ha3 d_L_join_9 rfl v1 ?_
  refine ka_goto (q := 25) d_L_join_10 (by decide) ?_
  refine ka_iconst (v := 0) d_L_join_25 rfl (by decide) ?_
  exact ks_iret (ty := .int) d_L_join_26 rfl rfl r2
theorem d_L_extend_0 : decode cL_extend 0 = .ok (.aload 4, 2) := by decide +kernel
theorem d_L_extend_2 : decode cL_extend 2 = .ok (.iconst 0, 1) := by decide +kernel
theorem d_L_extend_3 : decode cL_extend 3 = .ok (.aload_n 0, 1) := by decide +kernel
theorem d_L_extend_4 : decode cL_extend 4 = .ok (.iload_n 1, 1) := by decide +kernel
theorem d_L_extend_5 : decode cL_extend 5 = .ok (.iload_n 2, 1) := by decide +kernel
theorem d_L_extend_6 : decode cL_extend 6 = .ok (.iload_n 3, 1) := by decide +kernel
theorem d_L_extend_7 : decode cL_extend 7 = .ok (.invokevirtual 40, 3) := by decide +kernel
theorem d_L_extend_10 : decode cL_extend 10 = .ok (.i2l, 1) := by decide +kernel
theorem d_L_extend_11 : decode cL_extend 11 = .ok (.lastore, 1) := by decide +kernel
theorem d_L_extend_12 : decode cL_extend 12 = .ok (.goto 15, 3) := by decide +kernel
theorem d_L_extend_27 : decode cL_extend 27 = .ok (.iconst 0, 1) := by decide +kernel
theorem d_L_extend_28 : decode cL_extend 28 = .ok (.ireturn, 1) := by decide +kernel
theorem sg_L_extend_0 {L : Nat} {xs : Nat → Int32} {σ : ks_St} {mc ms : Nat} {P : ka_O → ks_St → Prop} {x1 : Int32} {x2 : Int32} {x3 : Int32} {a4 na4 : Nat} (ha4 : rl_ a4 na4) (k1 : ks_W L xs mL_extend rm_L_extend 7 [] [.int x3, .int x2, .int x1, .ref 0, .int 0, .ref a4] σ mc ms P) : ks_W L xs mL_extend rm_L_extend 0 [(0, .ref 0), (1, .int x1), (2, .int x2), (3, .int x3), (4, .ref a4)] [] σ mc ms P := by
  refine ka_aload d_L_extend_0 rfl 4 rfl ?_
  refine ka_iconst (v := 0) d_L_extend_2 rfl (by decide) ?_
  refine ka_aload_n d_L_extend_3 rfl rfl 0 rfl ?_
  refine ka_iload_n d_L_extend_4 rfl rfl 1 rfl ?_
  refine ka_iload_n d_L_extend_5 rfl rfl 2 rfl ?_
  refine ka_iload_n d_L_extend_6 rfl rfl 3 rfl ?_
  refine ka_sub [] rfl ?_
  exact k1
theorem cs_L_extend_7 {L : Nat} {xs : Nat → Int32} {σ : ks_St} {mc ms : Nat} {P : ka_O → ks_St → Prop} {f : Int32 → ks_St → Prop} {g : String → ks_St → Prop} {a4 : Nat} {s1 : Int32} {s3 : Int32} {s4 : Int32} {s5 : Int32} (hK : ks_M L xs mX4_extend rm_X4_extend [.ref 0, .int s3, .int s4, .int s5] σ (px_ (pi_ f) g)) (kx : ∀ E σ', g E σ' → ∃ v, ka_ctc mL_extend 7 E v ∧ P (.inl (some (.int v))) σ') (kr : ∀ r σ', f r σ' → ks_W L xs mL_extend rm_L_extend 10 [] [.int r, .int s1, .ref a4] σ' mc ms P) : ks_W L xs mL_extend rm_L_extend 7 [] [.int s5, .int s4, .int s3, .ref 0, .int s1, .ref a4] σ (mc + 3) (ms + 18) P := by
  refine ks_callVC (q := 10) (o := 0) (ci := 4) (As := [.int s3, .int s4, .int s5]) (st := [.int s1, .ref a4]) d_L_extend_7 rfl rfl (by decide) rfl rfl lk_L_40 ⟨by decide, by decide⟩ (Nat.le_of_ble_eq_true rfl) ⟨Nat.le_refl _, Nat.le_refl _⟩ rfl hK (fun v σ' hq => ?_) (fun E σ' hq => ?_)
  · rcases hq with hq | ⟨E, e, -⟩
    · obtain ⟨r, e, hf⟩ := hq; cases e; exact kr r σ' hf
    · cases e
  · rcases hq with hq | ⟨E', e, hg⟩
    · obtain ⟨r, e, hf⟩ := hq; cases e
    · cases e; exact kx _ σ' hg
theorem sg_L_extend_10 {L : Nat} {xs : Nat → Int32} {σ : ks_St} {mc ms : Nat} {P : ka_O → ks_St → Prop} {a4 na4 : Nat} {s1 : Int32} {s2 : Int32} (ha4 : rl_ a4 na4) (v1 : vp_in s1 na4) (r2 : P (.inl (some (.int 0))) (ug_ σ a4 (vp_updL (sg_ σ a4) s1.toNatClampNeg (s2.toInt64)))) : ks_W L xs mL_extend rm_L_extend 10 [] [.int s2, .int s1, .ref a4] σ mc ms P := by
  refine ka_i2l d_L_extend_10 rfl ?_
  refine ks_last ha4 d_L_extend_11 rfl v1 ?_
  refine ka_goto (q := 27) d_L_extend_12 (by decide) ?_
  refine ka_iconst (v := 0) d_L_extend_27 rfl (by decide) ?_
  exact ks_iret (ty := .int) d_L_extend_28 rfl rfl r2
theorem d_L_compare_0 : decode cL_compare 0 = .ok (.aload 4, 2) := by decide +kernel
theorem d_L_compare_2 : decode cL_compare 2 = .ok (.iconst 0, 1) := by decide +kernel
theorem d_L_compare_3 : decode cL_compare 3 = .ok (.aload_n 0, 1) := by decide +kernel
theorem d_L_compare_4 : decode cL_compare 4 = .ok (.iload_n 1, 1) := by decide +kernel
theorem d_L_compare_5 : decode cL_compare 5 = .ok (.iload_n 2, 1) := by decide +kernel
theorem d_L_compare_6 : decode cL_compare 6 = .ok (.iload_n 3, 1) := by decide +kernel
theorem d_L_compare_7 : decode cL_compare 7 = .ok (.invokevirtual 44, 3) := by decide +kernel
theorem d_L_compare_10 : decode cL_compare 10 = .ok (.i2l, 1) := by decide +kernel
theorem d_L_compare_11 : decode cL_compare 11 = .ok (.lastore, 1) := by decide +kernel
theorem d_L_compare_12 : decode cL_compare 12 = .ok (.goto 11, 3) := by decide +kernel
theorem d_L_compare_23 : decode cL_compare 23 = .ok (.iconst 0, 1) := by decide +kernel
theorem d_L_compare_24 : decode cL_compare 24 = .ok (.ireturn, 1) := by decide +kernel
theorem sg_L_compare_0 {L : Nat} {xs : Nat → Int32} {σ : ks_St} {mc ms : Nat} {P : ka_O → ks_St → Prop} {x1 : Int32} {x2 : Int32} {x3 : Int32} {a4 na4 : Nat} (ha4 : rl_ a4 na4) (k1 : ks_W L xs mL_compare rm_L_compare 7 [] [.int x3, .int x2, .int x1, .ref 0, .int 0, .ref a4] σ mc ms P) : ks_W L xs mL_compare rm_L_compare 0 [(0, .ref 0), (1, .int x1), (2, .int x2), (3, .int x3), (4, .ref a4)] [] σ mc ms P := by
  refine ka_aload d_L_compare_0 rfl 4 rfl ?_
  refine ka_iconst (v := 0) d_L_compare_2 rfl (by decide) ?_
  refine ka_aload_n d_L_compare_3 rfl rfl 0 rfl ?_
  refine ka_iload_n d_L_compare_4 rfl rfl 1 rfl ?_
  refine ka_iload_n d_L_compare_5 rfl rfl 2 rfl ?_
  refine ka_iload_n d_L_compare_6 rfl rfl 3 rfl ?_
  refine ka_sub [] rfl ?_
  exact k1
theorem cs_L_compare_7 {L : Nat} {xs : Nat → Int32} {σ : ks_St} {mc ms : Nat} {P : ka_O → ks_St → Prop} {f : Int32 → ks_St → Prop} {g : String → ks_St → Prop} {a4 : Nat} {s1 : Int32} {s3 : Int32} {s4 : Int32} {s5 : Int32} (hK : ks_M L xs mX4_compare rm_X4_compare [.ref 0, .int s3, .int s4, .int s5] σ (px_ (pi_ f) g)) (kx : ∀ E σ', g E σ' → ∃ v, ka_ctc mL_compare 7 E v ∧ P (.inl (some (.int v))) σ') (kr : ∀ r σ', f r σ' → ks_W L xs mL_compare rm_L_compare 10 [] [.int r, .int s1, .ref a4] σ' mc ms P) : ks_W L xs mL_compare rm_L_compare 7 [] [.int s5, .int s4, .int s3, .ref 0, .int s1, .ref a4] σ (mc + 3) (ms + 18) P := by
  refine ks_callVC (q := 10) (o := 0) (ci := 4) (As := [.int s3, .int s4, .int s5]) (st := [.int s1, .ref a4]) d_L_compare_7 rfl rfl (by decide) rfl rfl lk_L_44 ⟨by decide, by decide⟩ (Nat.le_of_ble_eq_true rfl) ⟨Nat.le_refl _, Nat.le_refl _⟩ rfl hK (fun v σ' hq => ?_) (fun E σ' hq => ?_)
  · rcases hq with hq | ⟨E, e, -⟩
    · obtain ⟨r, e, hf⟩ := hq; cases e; exact kr r σ' hf
    · cases e
  · rcases hq with hq | ⟨E', e, hg⟩
    · obtain ⟨r, e, hf⟩ := hq; cases e
    · cases e; exact kx _ σ' hg
theorem sg_L_compare_10 {L : Nat} {xs : Nat → Int32} {σ : ks_St} {mc ms : Nat} {P : ka_O → ks_St → Prop} {a4 na4 : Nat} {s1 : Int32} {s2 : Int32} (ha4 : rl_ a4 na4) (v1 : vp_in s1 na4) (r2 : P (.inl (some (.int 0))) (ug_ σ a4 (vp_updL (sg_ σ a4) s1.toNatClampNeg (s2.toInt64)))) : ks_W L xs mL_compare rm_L_compare 10 [] [.int s2, .int s1, .ref a4] σ mc ms P := by
  refine ka_i2l d_L_compare_10 rfl ?_
  refine ks_last ha4 d_L_compare_11 rfl v1 ?_
  refine ka_goto (q := 23) d_L_compare_12 (by decide) ?_
  refine ka_iconst (v := 0) d_L_compare_23 rfl (by decide) ?_
  exact ks_iret (ty := .int) d_L_compare_24 rfl rfl r2
theorem d_L_bit_0 : decode cL_bit 0 = .ok (.aload_n 3, 1) := by decide +kernel
theorem d_L_bit_1 : decode cL_bit 1 = .ok (.iconst 0, 1) := by decide +kernel
theorem d_L_bit_2 : decode cL_bit 2 = .ok (.aload_n 0, 1) := by decide +kernel
theorem d_L_bit_3 : decode cL_bit 3 = .ok (.iload_n 1, 1) := by decide +kernel
theorem d_L_bit_4 : decode cL_bit 4 = .ok (.iload_n 2, 1) := by decide +kernel
theorem d_L_bit_5 : decode cL_bit 5 = .ok (.invokevirtual 47, 3) := by decide +kernel
theorem d_L_bit_8 : decode cL_bit 8 = .ok (.ifCond .eq 7, 3) := by decide +kernel
theorem d_L_bit_11 : decode cL_bit 11 = .ok (.lconst 1, 1) := by decide +kernel
theorem d_L_bit_12 : decode cL_bit 12 = .ok (.goto 4, 3) := by decide +kernel
theorem d_L_bit_15 : decode cL_bit 15 = .ok (.lconst 0, 1) := by decide +kernel
theorem d_L_bit_16 : decode cL_bit 16 = .ok (.lastore, 1) := by decide +kernel
theorem d_L_bit_17 : decode cL_bit 17 = .ok (.goto 11, 3) := by decide +kernel
theorem d_L_bit_28 : decode cL_bit 28 = .ok (.iconst 0, 1) := by decide +kernel
theorem d_L_bit_29 : decode cL_bit 29 = .ok (.ireturn, 1) := by decide +kernel
theorem sg_L_bit_0 {L : Nat} {xs : Nat → Int32} {σ : ks_St} {mc ms : Nat} {P : ka_O → ks_St → Prop} {x1 : Int32} {x2 : Int32} {a3 na3 : Nat} (ha3 : rl_ a3 na3) (k1 : ks_W L xs mL_bit rm_L_bit 5 [] [.int x2, .int x1, .ref 0, .int 0, .ref a3] σ mc ms P) : ks_W L xs mL_bit rm_L_bit 0 [(0, .ref 0), (1, .int x1), (2, .int x2), (3, .ref a3)] [] σ mc ms P := by
  refine ka_aload_n d_L_bit_0 rfl rfl 3 rfl ?_
  refine ka_iconst (v := 0) d_L_bit_1 rfl (by decide) ?_
  refine ka_aload_n d_L_bit_2 rfl rfl 0 rfl ?_
  refine ka_iload_n d_L_bit_3 rfl rfl 1 rfl ?_
  refine ka_iload_n d_L_bit_4 rfl rfl 2 rfl ?_
  refine ka_sub [] rfl ?_
  exact k1
theorem cs_L_bit_5 {L : Nat} {xs : Nat → Int32} {σ : ks_St} {mc ms : Nat} {P : ka_O → ks_St → Prop} {f : Int32 → ks_St → Prop} {g : String → ks_St → Prop} {a3 : Nat} {s1 : Int32} {s3 : Int32} {s4 : Int32} (hK : ks_M L xs mX4_bit rm_X4_bit [.ref 0, .int s3, .int s4] σ (px_ (pi_ f) g)) (kx : ∀ E σ', g E σ' → ∃ v, ka_ctc mL_bit 5 E v ∧ P (.inl (some (.int v))) σ') (kr : ∀ r σ', f r σ' → ks_W L xs mL_bit rm_L_bit 8 [] [.int r, .int s1, .ref a3] σ' mc ms P) : ks_W L xs mL_bit rm_L_bit 5 [] [.int s4, .int s3, .ref 0, .int s1, .ref a3] σ (mc + 2) (ms + 12) P := by
  refine ks_callVC (q := 8) (o := 0) (ci := 4) (As := [.int s3, .int s4]) (st := [.int s1, .ref a3]) d_L_bit_5 rfl rfl (by decide) rfl rfl lk_L_47 ⟨by decide, by decide⟩ (Nat.le_of_ble_eq_true rfl) ⟨Nat.le_refl _, Nat.le_refl _⟩ rfl hK (fun v σ' hq => ?_) (fun E σ' hq => ?_)
  · rcases hq with hq | ⟨E, e, -⟩
    · obtain ⟨r, e, hf⟩ := hq; cases e; exact kr r σ' hf
    · cases e
  · rcases hq with hq | ⟨E', e, hg⟩
    · obtain ⟨r, e, hf⟩ := hq; cases e
    · cases e; exact kx _ σ' hg
theorem sg_L_bit_8 {L : Nat} {xs : Nat → Int32} {σ : ks_St} {mc ms : Nat} {P : ka_O → ks_St → Prop} {a3 na3 : Nat} {s1 : Int32} {s2 : Int32} (ha3 : rl_ a3 na3) (k2 : (s2 = 0) → ks_W L xs mL_bit rm_L_bit 16 [] [.long 0, .int s1, .ref a3] σ mc ms P) (k3 : (¬ (s2 = 0)) → ks_W L xs mL_bit rm_L_bit 16 [] [.long 1, .int s1, .ref a3] σ mc ms P) : ks_W L xs mL_bit rm_L_bit 8 [] [.int s2, .int s1, .ref a3] σ mc ms P := by
  refine ka_if_eq (tgt := 15) d_L_bit_8 (by decide) rfl (fun c1 => ?_) (fun c1 => ?_)
  · refine ka_lconst (v := 0) d_L_bit_15 rfl (by decide) ?_
    exact (k2 c1)
  · refine ka_lconst (v := 1) d_L_bit_11 rfl (by decide) ?_
    refine ka_goto (q := 16) d_L_bit_12 (by decide) ?_
    exact (k3 c1)
theorem sg_L_bit_16 {L : Nat} {xs : Nat → Int32} {σ : ks_St} {mc ms : Nat} {P : ka_O → ks_St → Prop} {a3 na3 : Nat} {s1 : Int32} {s2 : Int64} (ha3 : rl_ a3 na3) (v1 : vp_in s1 na3) (r2 : P (.inl (some (.int 0))) (ug_ σ a3 (vp_updL (sg_ σ a3) s1.toNatClampNeg s2))) : ks_W L xs mL_bit rm_L_bit 16 [] [.long s2, .int s1, .ref a3] σ mc ms P := by
  refine ks_last ha3 d_L_bit_16 rfl v1 ?_
  refine ka_goto (q := 28) d_L_bit_17 (by decide) ?_
  refine ka_iconst (v := 0) d_L_bit_28 rfl (by decide) ?_
  exact ks_iret (ty := .int) d_L_bit_29 rfl rfl r2
theorem d_L_limb_0 : decode cL_limb 0 = .ok (.aload_n 3, 1) := by decide +kernel
theorem d_L_limb_1 : decode cL_limb 1 = .ok (.iconst 0, 1) := by decide +kernel
theorem d_L_limb_2 : decode cL_limb 2 = .ok (.aload_n 0, 1) := by decide +kernel
theorem d_L_limb_3 : decode cL_limb 3 = .ok (.iload_n 1, 1) := by decide +kernel
theorem d_L_limb_4 : decode cL_limb 4 = .ok (.iload_n 2, 1) := by decide +kernel
theorem d_L_limb_5 : decode cL_limb 5 = .ok (.invokevirtual 51, 3) := by decide +kernel
theorem d_L_limb_8 : decode cL_limb 8 = .ok (.lastore, 1) := by decide +kernel
theorem d_L_limb_9 : decode cL_limb 9 = .ok (.goto 7, 3) := by decide +kernel
theorem d_L_limb_16 : decode cL_limb 16 = .ok (.iconst 0, 1) := by decide +kernel
theorem d_L_limb_17 : decode cL_limb 17 = .ok (.ireturn, 1) := by decide +kernel
theorem sg_L_limb_0 {L : Nat} {xs : Nat → Int32} {σ : ks_St} {mc ms : Nat} {P : ka_O → ks_St → Prop} {x1 : Int32} {x2 : Int32} {a3 na3 : Nat} (ha3 : rl_ a3 na3) (k1 : ks_W L xs mL_limb rm_L_limb 5 [] [.int x2, .int x1, .ref 0, .int 0, .ref a3] σ mc ms P) : ks_W L xs mL_limb rm_L_limb 0 [(0, .ref 0), (1, .int x1), (2, .int x2), (3, .ref a3)] [] σ mc ms P := by
  refine ka_aload_n d_L_limb_0 rfl rfl 3 rfl ?_
  refine ka_iconst (v := 0) d_L_limb_1 rfl (by decide) ?_
  refine ka_aload_n d_L_limb_2 rfl rfl 0 rfl ?_
  refine ka_iload_n d_L_limb_3 rfl rfl 1 rfl ?_
  refine ka_iload_n d_L_limb_4 rfl rfl 2 rfl ?_
  refine ka_sub [] rfl ?_
  exact k1
theorem cs_L_limb_5 {L : Nat} {xs : Nat → Int32} {σ : ks_St} {mc ms : Nat} {P : ka_O → ks_St → Prop} {f : Int64 → ks_St → Prop} {g : String → ks_St → Prop} {a3 : Nat} {s1 : Int32} {s3 : Int32} {s4 : Int32} (hK : ks_M L xs mX4_limb rm_X4_limb [.ref 0, .int s3, .int s4] σ (px_ (pl_ f) g)) (kx : ∀ E σ', g E σ' → ∃ v, ka_ctc mL_limb 5 E v ∧ P (.inl (some (.int v))) σ') (kr : ∀ r σ', f r σ' → ks_W L xs mL_limb rm_L_limb 8 [] [.long r, .int s1, .ref a3] σ' mc ms P) : ks_W L xs mL_limb rm_L_limb 5 [] [.int s4, .int s3, .ref 0, .int s1, .ref a3] σ (mc + 2) (ms + 12) P := by
  refine ks_callVC (q := 8) (o := 0) (ci := 4) (As := [.int s3, .int s4]) (st := [.int s1, .ref a3]) d_L_limb_5 rfl rfl (by decide) rfl rfl lk_L_51 ⟨by decide, by decide⟩ (Nat.le_of_ble_eq_true rfl) ⟨Nat.le_refl _, Nat.le_refl _⟩ rfl hK (fun v σ' hq => ?_) (fun E σ' hq => ?_)
  · rcases hq with hq | ⟨E, e, -⟩
    · obtain ⟨r, e, hf⟩ := hq; cases e; exact kr r σ' hf
    · cases e
  · rcases hq with hq | ⟨E', e, hg⟩
    · obtain ⟨r, e, hf⟩ := hq; cases e
    · cases e; exact kx _ σ' hg
theorem sg_L_limb_8 {L : Nat} {xs : Nat → Int32} {σ : ks_St} {mc ms : Nat} {P : ka_O → ks_St → Prop} {a3 na3 : Nat} {s1 : Int32} {s2 : Int64} (ha3 : rl_ a3 na3) (v1 : vp_in s1 na3) (r2 : P (.inl (some (.int 0))) (ug_ σ a3 (vp_updL (sg_ σ a3) s1.toNatClampNeg s2))) : ks_W L xs mL_limb rm_L_limb 8 [] [.long s2, .int s1, .ref a3] σ mc ms P := by
  refine ks_last ha3 d_L_limb_8 rfl v1 ?_
  refine ka_goto (q := 16) d_L_limb_9 (by decide) ?_
  refine ka_iconst (v := 0) d_L_limb_16 rfl (by decide) ?_
  exact ks_iret (ty := .int) d_L_limb_17 rfl rfl r2
theorem d_L_real_0 : decode cL_real 0 = .ok (.aload 5, 2) := by decide +kernel
theorem d_L_real_2 : decode cL_real 2 = .ok (.iconst 0, 1) := by decide +kernel
theorem d_L_real_3 : decode cL_real 3 = .ok (.aload_n 0, 1) := by decide +kernel
theorem d_L_real_4 : decode cL_real 4 = .ok (.iload_n 1, 1) := by decide +kernel
theorem d_L_real_5 : decode cL_real 5 = .ok (.iload_n 2, 1) := by decide +kernel
theorem d_L_real_6 : decode cL_real 6 = .ok (.iload_n 3, 1) := by decide +kernel
theorem d_L_real_7 : decode cL_real 7 = .ok (.iload 4, 2) := by decide +kernel
theorem d_L_real_9 : decode cL_real 9 = .ok (.invokevirtual 55, 3) := by decide +kernel
theorem d_L_real_12 : decode cL_real 12 = .ok (.i2l, 1) := by decide +kernel
theorem d_L_real_13 : decode cL_real 13 = .ok (.lastore, 1) := by decide +kernel
theorem d_L_real_14 : decode cL_real 14 = .ok (.goto 15, 3) := by decide +kernel
theorem d_L_real_29 : decode cL_real 29 = .ok (.iconst 0, 1) := by decide +kernel
theorem d_L_real_30 : decode cL_real 30 = .ok (.ireturn, 1) := by decide +kernel
theorem sg_L_real_0 {L : Nat} {xs : Nat → Int32} {σ : ks_St} {mc ms : Nat} {P : ka_O → ks_St → Prop} {x1 : Int32} {x2 : Int32} {x3 : Int32} {x4 : Int32} {a5 na5 : Nat} (ha5 : rl_ a5 na5) (k1 : ks_W L xs mL_real rm_L_real 9 [] [.int x4, .int x3, .int x2, .int x1, .ref 0, .int 0, .ref a5] σ mc ms P) : ks_W L xs mL_real rm_L_real 0 [(0, .ref 0), (1, .int x1), (2, .int x2), (3, .int x3), (4, .int x4), (5, .ref a5)] [] σ mc ms P := by
  refine ka_aload d_L_real_0 rfl 5 rfl ?_
  refine ka_iconst (v := 0) d_L_real_2 rfl (by decide) ?_
  refine ka_aload_n d_L_real_3 rfl rfl 0 rfl ?_
  refine ka_iload_n d_L_real_4 rfl rfl 1 rfl ?_
  refine ka_iload_n d_L_real_5 rfl rfl 2 rfl ?_
  refine ka_iload_n d_L_real_6 rfl rfl 3 rfl ?_
  refine ka_iload d_L_real_7 rfl 4 rfl ?_
  refine ka_sub [] rfl ?_
  exact k1
theorem cs_L_real_9 {L : Nat} {xs : Nat → Int32} {σ : ks_St} {mc ms : Nat} {P : ka_O → ks_St → Prop} {f : Int32 → ks_St → Prop} {g : String → ks_St → Prop} {a5 : Nat} {s1 : Int32} {s3 : Int32} {s4 : Int32} {s5 : Int32} {s6 : Int32} (hK : ks_M L xs mX4_real rm_X4_real [.ref 0, .int s3, .int s4, .int s5, .int s6] σ (px_ (pi_ f) g)) (kx : ∀ E σ', g E σ' → ∃ v, ka_ctc mL_real 9 E v ∧ P (.inl (some (.int v))) σ') (kr : ∀ r σ', f r σ' → ks_W L xs mL_real rm_L_real 12 [] [.int r, .int s1, .ref a5] σ' mc ms P) : ks_W L xs mL_real rm_L_real 9 [] [.int s6, .int s5, .int s4, .int s3, .ref 0, .int s1, .ref a5] σ (mc + 7) (ms + 42) P := by
  refine ks_callVC (q := 12) (o := 0) (ci := 4) (As := [.int s3, .int s4, .int s5, .int s6]) (st := [.int s1, .ref a5]) d_L_real_9 rfl rfl (by decide) rfl rfl lk_L_55 ⟨by decide, by decide⟩ (Nat.le_of_ble_eq_true rfl) ⟨Nat.le_refl _, Nat.le_refl _⟩ rfl hK (fun v σ' hq => ?_) (fun E σ' hq => ?_)
  · rcases hq with hq | ⟨E, e, -⟩
    · obtain ⟨r, e, hf⟩ := hq; cases e; exact kr r σ' hf
    · cases e
  · rcases hq with hq | ⟨E', e, hg⟩
    · obtain ⟨r, e, hf⟩ := hq; cases e
    · cases e; exact kx _ σ' hg
theorem sg_L_real_12 {L : Nat} {xs : Nat → Int32} {σ : ks_St} {mc ms : Nat} {P : ka_O → ks_St → Prop} {a5 na5 : Nat} {s1 : Int32} {s2 : Int32} (ha5 : rl_ a5 na5) (v1 : vp_in s1 na5) (r2 : P (.inl (some (.int 0))) (ug_ σ a5 (vp_updL (sg_ σ a5) s1.toNatClampNeg (s2.toInt64)))) : ks_W L xs mL_real rm_L_real 12 [] [.int s2, .int s1, .ref a5] σ mc ms P := by
  refine ka_i2l d_L_real_12 rfl ?_
  refine ks_last ha5 d_L_real_13 rfl v1 ?_
  refine ka_goto (q := 29) d_L_real_14 (by decide) ?_
  refine ka_iconst (v := 0) d_L_real_29 rfl (by decide) ?_
  exact ks_iret (ty := .int) d_L_real_30 rfl rfl r2
theorem d_L_count_0 : decode cL_count 0 = .ok (.aload_n 2, 1) := by decide +kernel
theorem d_L_count_1 : decode cL_count 1 = .ok (.iconst 0, 1) := by decide +kernel
theorem d_L_count_2 : decode cL_count 2 = .ok (.aload_n 0, 1) := by decide +kernel
theorem d_L_count_3 : decode cL_count 3 = .ok (.iload_n 1, 1) := by decide +kernel
theorem d_L_count_4 : decode cL_count 4 = .ok (.invokevirtual 59, 3) := by decide +kernel
theorem d_L_count_7 : decode cL_count 7 = .ok (.i2l, 1) := by decide +kernel
theorem d_L_count_8 : decode cL_count 8 = .ok (.lastore, 1) := by decide +kernel
theorem d_L_count_9 : decode cL_count 9 = .ok (.goto 6, 3) := by decide +kernel
theorem d_L_count_15 : decode cL_count 15 = .ok (.iconst 0, 1) := by decide +kernel
theorem d_L_count_16 : decode cL_count 16 = .ok (.ireturn, 1) := by decide +kernel
theorem sg_L_count_0 {L : Nat} {xs : Nat → Int32} {σ : ks_St} {mc ms : Nat} {P : ka_O → ks_St → Prop} {x1 : Int32} {a2 na2 : Nat} (ha2 : rl_ a2 na2) (k1 : ks_W L xs mL_count rm_L_count 4 [] [.int x1, .ref 0, .int 0, .ref a2] σ mc ms P) : ks_W L xs mL_count rm_L_count 0 [(0, .ref 0), (1, .int x1), (2, .ref a2)] [] σ mc ms P := by
  refine ka_aload_n d_L_count_0 rfl rfl 2 rfl ?_
  refine ka_iconst (v := 0) d_L_count_1 rfl (by decide) ?_
  refine ka_aload_n d_L_count_2 rfl rfl 0 rfl ?_
  refine ka_iload_n d_L_count_3 rfl rfl 1 rfl ?_
  refine ka_sub [] rfl ?_
  exact k1
theorem cs_L_count_4 {L : Nat} {xs : Nat → Int32} {σ : ks_St} {mc ms : Nat} {P : ka_O → ks_St → Prop} {f : Int32 → ks_St → Prop} {g : String → ks_St → Prop} {a2 : Nat} {s1 : Int32} {s3 : Int32} (hK : ks_M L xs mX4_count rm_X4_count [.ref 0, .int s3] σ (px_ (pi_ f) g)) (kx : ∀ E σ', g E σ' → ∃ v, ka_ctc mL_count 4 E v ∧ P (.inl (some (.int v))) σ') (kr : ∀ r σ', f r σ' → ks_W L xs mL_count rm_L_count 7 [] [.int r, .int s1, .ref a2] σ' mc ms P) : ks_W L xs mL_count rm_L_count 4 [] [.int s3, .ref 0, .int s1, .ref a2] σ (mc + 1) (ms + 6) P := by
  refine ks_callVC (q := 7) (o := 0) (ci := 4) (As := [.int s3]) (st := [.int s1, .ref a2]) d_L_count_4 rfl rfl (by decide) rfl rfl lk_L_59 ⟨by decide, by decide⟩ (Nat.le_of_ble_eq_true rfl) ⟨Nat.le_refl _, Nat.le_refl _⟩ rfl hK (fun v σ' hq => ?_) (fun E σ' hq => ?_)
  · rcases hq with hq | ⟨E, e, -⟩
    · obtain ⟨r, e, hf⟩ := hq; cases e; exact kr r σ' hf
    · cases e
  · rcases hq with hq | ⟨E', e, hg⟩
    · obtain ⟨r, e, hf⟩ := hq; cases e
    · cases e; exact kx _ σ' hg
theorem sg_L_count_7 {L : Nat} {xs : Nat → Int32} {σ : ks_St} {mc ms : Nat} {P : ka_O → ks_St → Prop} {a2 na2 : Nat} {s1 : Int32} {s2 : Int32} (ha2 : rl_ a2 na2) (v1 : vp_in s1 na2) (r2 : P (.inl (some (.int 0))) (ug_ σ a2 (vp_updL (sg_ σ a2) s1.toNatClampNeg (s2.toInt64)))) : ks_W L xs mL_count rm_L_count 7 [] [.int s2, .int s1, .ref a2] σ mc ms P := by
  refine ka_i2l d_L_count_7 rfl ?_
  refine ks_last ha2 d_L_count_8 rfl v1 ?_
  refine ka_goto (q := 15) d_L_count_9 (by decide) ?_
  refine ka_iconst (v := 0) d_L_count_15 rfl (by decide) ?_
  exact ks_iret (ty := .int) d_L_count_16 rfl rfl r2
theorem d_L_width_0 : decode cL_width 0 = .ok (.aload_n 2, 1) := by decide +kernel
theorem d_L_width_1 : decode cL_width 1 = .ok (.iconst 0, 1) := by decide +kernel
theorem d_L_width_2 : decode cL_width 2 = .ok (.aload_n 0, 1) := by decide +kernel
theorem d_L_width_3 : decode cL_width 3 = .ok (.iload_n 1, 1) := by decide +kernel
theorem d_L_width_4 : decode cL_width 4 = .ok (.invokevirtual 62, 3) := by decide +kernel
theorem d_L_width_7 : decode cL_width 7 = .ok (.i2l, 1) := by decide +kernel
theorem d_L_width_8 : decode cL_width 8 = .ok (.lastore, 1) := by decide +kernel
theorem d_L_width_9 : decode cL_width 9 = .ok (.goto 6, 3) := by decide +kernel
theorem d_L_width_15 : decode cL_width 15 = .ok (.iconst 0, 1) := by decide +kernel
theorem d_L_width_16 : decode cL_width 16 = .ok (.ireturn, 1) := by decide +kernel
theorem sg_L_width_0 {L : Nat} {xs : Nat → Int32} {σ : ks_St} {mc ms : Nat} {P : ka_O → ks_St → Prop} {x1 : Int32} {a2 na2 : Nat} (ha2 : rl_ a2 na2) (k1 : ks_W L xs mL_width rm_L_width 4 [] [.int x1, .ref 0, .int 0, .ref a2] σ mc ms P) : ks_W L xs mL_width rm_L_width 0 [(0, .ref 0), (1, .int x1), (2, .ref a2)] [] σ mc ms P := by
  refine ka_aload_n d_L_width_0 rfl rfl 2 rfl ?_
  refine ka_iconst (v := 0) d_L_width_1 rfl (by decide) ?_
  refine ka_aload_n d_L_width_2 rfl rfl 0 rfl ?_
  refine ka_iload_n d_L_width_3 rfl rfl 1 rfl ?_
  refine ka_sub [] rfl ?_
  exact k1
theorem cs_L_width_4 {L : Nat} {xs : Nat → Int32} {σ : ks_St} {mc ms : Nat} {P : ka_O → ks_St → Prop} {f : Int32 → ks_St → Prop} {g : String → ks_St → Prop} {a2 : Nat} {s1 : Int32} {s3 : Int32} (hK : ks_M L xs mX4_width rm_X4_width [.ref 0, .int s3] σ (px_ (pi_ f) g)) (kx : ∀ E σ', g E σ' → ∃ v, ka_ctc mL_width 4 E v ∧ P (.inl (some (.int v))) σ') (kr : ∀ r σ', f r σ' → ks_W L xs mL_width rm_L_width 7 [] [.int r, .int s1, .ref a2] σ' mc ms P) : ks_W L xs mL_width rm_L_width 4 [] [.int s3, .ref 0, .int s1, .ref a2] σ (mc + 1) (ms + 6) P := by
  refine ks_callVC (q := 7) (o := 0) (ci := 4) (As := [.int s3]) (st := [.int s1, .ref a2]) d_L_width_4 rfl rfl (by decide) rfl rfl lk_L_62 ⟨by decide, by decide⟩ (Nat.le_of_ble_eq_true rfl) ⟨Nat.le_refl _, Nat.le_refl _⟩ rfl hK (fun v σ' hq => ?_) (fun E σ' hq => ?_)
  · rcases hq with hq | ⟨E, e, -⟩
    · obtain ⟨r, e, hf⟩ := hq; cases e; exact kr r σ' hf
    · cases e
  · rcases hq with hq | ⟨E', e, hg⟩
    · obtain ⟨r, e, hf⟩ := hq; cases e
    · cases e; exact kx _ σ' hg
theorem sg_L_width_7 {L : Nat} {xs : Nat → Int32} {σ : ks_St} {mc ms : Nat} {P : ka_O → ks_St → Prop} {a2 na2 : Nat} {s1 : Int32} {s2 : Int32} (ha2 : rl_ a2 na2) (v1 : vp_in s1 na2) (r2 : P (.inl (some (.int 0))) (ug_ σ a2 (vp_updL (sg_ σ a2) s1.toNatClampNeg (s2.toInt64)))) : ks_W L xs mL_width rm_L_width 7 [] [.int s2, .int s1, .ref a2] σ mc ms P := by
  refine ka_i2l d_L_width_7 rfl ?_
  refine ks_last ha2 d_L_width_8 rfl v1 ?_
  refine ka_goto (q := 15) d_L_width_9 (by decide) ?_
  refine ka_iconst (v := 0) d_L_width_15 rfl (by decide) ?_
  exact ks_iret (ty := .int) d_L_width_16 rfl rfl r2
