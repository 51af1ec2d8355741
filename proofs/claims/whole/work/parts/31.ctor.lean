theorem sgh_J9_floorMod_7cf53_0 {L : Nat} {xs : Nat → Int32} {h : ka_H} {N : Nat} {mc ms : Nat} {Q : ka_O → ka_H → Nat → Prop} {x0 : Int32} {x1 : Int32}  (z1 : ¬ x1 = 0) (k3 : (0 ≤ (x0 ^^^ x1)) → ka_W L xs mJ9_floorMod_7cf53 rm_J9_floorMod_7cf53 18 [(2, .int (x0 - x0 / x1 * x1))] [] h N mc ms Q) (k5 : (¬ (0 ≤ (x0 ^^^ x1))) → ((x0 - x0 / x1 * x1) = 0) → ka_W L xs mJ9_floorMod_7cf53 rm_J9_floorMod_7cf53 18 [(2, .int (x0 - x0 / x1 * x1))] [] h N mc ms Q) (r6 : (¬ (0 ≤ (x0 ^^^ x1))) → (¬ ((x0 - x0 / x1 * x1) = 0)) → Q (.inl (some (.int ((x0 - x0 / x1 * x1) + x1)))) h N) : ka_W L xs mJ9_floorMod_7cf53 rm_J9_floorMod_7cf53 0 [(0, .int x0), (1, .int x1)] [] h N mc ms Q := by
  refine ka_iload_n d_J9_floorMod_7cf53_0 rfl rfl 0 rfl ?_
  refine ka_iload_n d_J9_floorMod_7cf53_1 rfl rfl 1 rfl ?_
  refine ka_irem d_J9_floorMod_7cf53_2 rfl z1 ?_
  refine ka_istore_n (ls' := [(2, .int (x0 - x0 / x1 * x1)), (0, .int x0), (1, .int x1)]) d_J9_floorMod_7cf53_3 rfl rfl (by decide) rfl ?_
  refine ka_iload_n d_J9_floorMod_7cf53_4 rfl rfl 1 rfl ?_
  refine ka_iload_n d_J9_floorMod_7cf53_5 rfl rfl 2 rfl ?_
  refine ka_ixor d_J9_floorMod_7cf53_6 rfl ?_
  refine ka_if_ge (tgt := 18) d_J9_floorMod_7cf53_7 (by decide) rfl (fun c2 => ?_) (fun c2 => ?_)
  · refine ka_sub [0] rfl ?_
    exact (k3 c2)
  · refine ka_iload_n d_J9_floorMod_7cf53_10 rfl rfl 0 rfl ?_
    refine ka_if_eq (tgt := 18) d_J9_floorMod_7cf53_11 (by decide) rfl (fun c4 => ?_) (fun c4 => ?_)
    · refine ka_sub [0] rfl ?_
      exact (k5 c2 c4)
    · refine ka_iload_n d_J9_floorMod_7cf53_14 rfl rfl 0 rfl ?_
      refine ka_iload_n d_J9_floorMod_7cf53_15 rfl rfl 2 rfl ?_
      refine ka_iadd d_J9_floorMod_7cf53_16 rfl ?_
      exact ka_iret (ty := .int) d_J9_floorMod_7cf53_17 rfl rfl (r6 c2 c4)
theorem sgh_J9_floorMod_7cf53_18 {L : Nat} {xs : Nat → Int32} {h : ka_H} {N : Nat} {mc ms : Nat} {Q : ka_O → ka_H → Nat → Prop} {x2 : Int32}  (r1 : Q (.inl (some (.int x2))) h N) : ka_W L xs mJ9_floorMod_7cf53 rm_J9_floorMod_7cf53 18 [(2, .int x2)] [] h N mc ms Q := by
  refine ka_iload_n d_J9_floorMod_7cf53_18 rfl rfl 0 rfl ?_
  exact ka_iret (ty := .int) d_J9_floorMod_7cf53_19 rfl rfl r1
theorem sgh_L_cell_0 {L : Nat} {xs : Nat → Int32} {h : ka_H} {N : Nat} {mc ms : Nat} {Q : ka_O → ka_H → Nat → Prop} {x1 : Int32}  (k2 : ((nI L) ≤ x1) → ka_W L xs mL_cell rm_L_cell 13 [] [.int 0] h N mc ms Q) (v3 : (¬ ((nI L) ≤ x1)) → vp_in x1 L) (k4 : (¬ ((nI L) ≤ x1)) → ka_W L xs mL_cell rm_L_cell 13 [] [.int (xs x1.toNatClampNeg)] h N mc ms Q) : ka_W L xs mL_cell rm_L_cell 0 [(0, .ref ka_S), (1, .int x1)] [] h N mc ms Q := by
  refine ka_iload_n d_L_cell_0 rfl rfl 1 rfl ?_
  refine ka_aload_n d_L_cell_1 rfl rfl 0 rfl ?_
  refine ka_slen d_L_cell_2 rfl ?_
  refine ka_icmp_ge (tgt := 12) d_L_cell_3 (by decide) rfl (fun c1 => ?_) (fun c1 => ?_)
  · refine ka_iconst (v := 0) d_L_cell_12 rfl (by decide) ?_
    refine ka_sub [] rfl ?_
    exact (k2 c1)
  · refine ka_aload_n d_L_cell_6 rfl rfl 0 rfl ?_
    refine ka_iload_n d_L_cell_7 rfl rfl 1 rfl ?_
    refine ka_sld d_L_cell_8 rfl (v3 c1) ?_
    refine ka_goto (q := 13) d_L_cell_9 (by decide) ?_
    refine ka_sub [] rfl ?_
    exact (k4 c1)
theorem sgh_L_cell_13 {L : Nat} {xs : Nat → Int32} {h : ka_H} {N : Nat} {mc ms : Nat} {Q : ka_O → ka_H → Nat → Prop} {s0 : Int32}  (r1 : Q (.inl (some (.int s0))) h N) : ka_W L xs mL_cell rm_L_cell 13 [] [.int s0] h N mc ms Q := by
  exact ka_iret (ty := .int) d_L_cell_13 rfl rfl r1
abbrev rm_X0_init : Room := { frames := 1, cells := 7, slots := 111, locals := 20 }
abbrev rm_X1_init : Room := { frames := 2, cells := 9, slots := 126, locals := 40 }
abbrev rm_X2_init : Room := { frames := 1, cells := 0, slots := 0, locals := 20 }
abbrev rm_X4_init : Room := { frames := 3, cells := 16, slots := 5569, locals := 60 }
abbrev rm_X5_init : Room := { frames := 1, cells := 11, slots := 310378, locals := 20 }
/-- a contract out of a walk of the body, for a method of the JDK's that no native stands for -/
theorem ka_bodyF {L : Nat} {xs : Nat → Int32} {M : ka_Md} {R : Room} {h : ka_H} {N : Nat} {Q : ka_O → ka_H → Nat → Prop} {av : List Value} (hy : plainFor M.1 = true) (hM : M.2.2.2.2 = []) (hav : (lg_sl av).length ≤ M.2.2.1) (k : ka_W L xs M R 0 (lv_args 0 av) [] h N R.cells R.slots Q) : ka_M L xs M R av h N Q := by
  intro l D τ b A φ htr
  have hws : ka_ws M = Cond.code M.1 M.2.1 M.2.2.1 M.2.2.2.1 :: ka_T := by unfold ka_ws; rw [hM]
  refine MetFree.of_bodySF (code := M.2.1) (maxLocals := M.2.2.1) (ret := M.2.2.2.1) hy ?_ ?_
  · intro args s m h hn
    obtain ⟨meth, c, h1, h2, h3, h4, h5, h6, -, -⟩ := Cond.code_spec hn (atoms_spec (ws := ka_ws M) h _ (by rw [hws]; exact List.mem_cons_self))
    exact ⟨meth, c, h1, h2, h3, h4, h5, h6⟩
  · intro p e s m args below meth c s₁ B hml hpc _
    have hh0 : s₁.heap = s.heap := by rw [B.state]; rfl
    have htab : c.exceptionTable.toList = tableOf M.2.2.2.2 := by
      obtain ⟨meth9, c9, h1, h2, -, -, -, -, h7, -⟩ := Cond.code_spec B.named (atoms_spec (ws := ka_ws M) B.pre _ (by rw [hws]; exact List.mem_cons_self))
      cases Option.some.inj (h1.symm.trans B.method)
      cases Option.some.inj (h2.symm.trans (Stand.of_body B).code)
      rw [hM, Array.isEmpty_iff.mp h7]
      rfl
    obtain ⟨rfl, hU, hb, hP, hD, hw⟩ := hpc
    have hts : ∀ w ∈ ka_T, w.before (av.map (ka_v φ)).toArray s = true := fun w hw => atoms_spec (ws := ka_ws M) B.pre w (by rw [hws]; exact List.mem_cons_of_mem _ hw)
    have hl := lv_entry (av.map (ka_v φ)) (n := M.2.2.1) (by rw [ka_sl_len]; exact hav)
    rw [ka_args] at hl
    have K := k l D τ b A φ N p e s m _ below meth c s.heap [] 0 0 φ _ ⟨B.exec, B.bytes, hml, B.returns, B.notSynchronized, (name_of_methodNamed B.named B.method).1, htab, findClass_of_methodNamed B.named, hts, htr, hU⟩ hP hD va_S.rf hw (Nat.le_refl _) (fun _ _ => rfl) hb hl (by omega) (by omega)
    obtain ⟨t, a1, o, b1, b2, b3⟩ := K s₁ hh0 (Stand.of_body B)
    refine ⟨t, o, ?_, b1, b2, b3⟩
    rw [lg_entry_eq]
    exact a1
theorem ks_bodyF {L : Nat} {xs : Nat → Int32} {M : ka_Md} {R : Room} {σ : ks_St} {P : ka_O → ks_St → Prop} {av : List Value} (hy : plainFor M.1 = true) (hM : M.2.2.2.2 = []) (hav : (lg_sl av).length ≤ M.2.2.1) (k : ks_W L xs M R 0 (lv_args 0 av) [] σ R.cells R.slots P) : ks_M L xs M R av σ P := ka_bodyF hy hM hav k
theorem pf_floorMod : plainFor mJ9_floorMod_7cf53.1 = true := by decide +kernel
theorem pf_bitCount : plainFor mJ13_bitCount_95d88.1 = true := by decide +kernel
theorem pf_max : plainFor mM_max.1 = true := by decide +kernel
theorem pf_min : plainFor mM_min.1 = true := by decide +kernel
theorem pf_minl : plainFor mM_minl.1 = true := by decide +kernel
/-- Math.floorMod as it is computed -/
def km_fm (x y : Int32) : Int32 := if 0 ≤ x ^^^ y then x - x / y * y else if x - x / y * y = 0 then x - x / y * y else x - x / y * y + y
theorem c_floorMod {L : Nat} {xs : Nat → Int32} {h : ka_H} {N : Nat} {x y : Int32} (hy : ¬ y = 0) : ka_M L xs mJ9_floorMod_7cf53 rm_J9_floorMod_7cf53 [.int x, .int y] h N (fun o h' N' => o = .inl (some (.int (km_fm x y))) ∧ h' = h ∧ N' = N) := by
  refine ka_bodyF pf_floorMod rfl (Nat.le_of_ble_eq_true rfl) ?_
  refine sgh_J9_floorMod_7cf53_0 hy ?_ ?_ ?_
  · intro c
    exact sgh_J9_floorMod_7cf53_18 ⟨by rw [km_fm, if_pos c], rfl, rfl⟩
  · intro c1 c2
    exact sgh_J9_floorMod_7cf53_18 ⟨by rw [km_fm, if_neg c1, if_pos c2], rfl, rfl⟩
  · intro c1 c2
    exact ⟨by rw [km_fm, if_neg c1, if_neg c2], rfl, rfl⟩
theorem d_X0_init_0 : decode cX0_init 0 = .ok (.aload_n 0, 1) := by decide +kernel
theorem d_X0_init_1 : decode cX0_init 1 = .ok (.invokespecial 3, 3) := by decide +kernel
theorem d_X0_init_4 : decode cX0_init 4 = .ok (.aload_n 0, 1) := by decide +kernel
theorem d_X0_init_5 : decode cX0_init 5 = .ok (.bipush 16, 2) := by decide +kernel
theorem d_X0_init_7 : decode cX0_init 7 = .ok (.newarray .long, 2) := by decide +kernel
theorem d_X0_init_9 : decode cX0_init 9 = .ok (.putfield 9, 3) := by decide +kernel
theorem d_X0_init_12 : decode cX0_init 12 = .ok (.aload_n 0, 1) := by decide +kernel
theorem d_X0_init_13 : decode cX0_init 13 = .ok (.bipush 9, 2) := by decide +kernel
theorem d_X0_init_15 : decode cX0_init 15 = .ok (.newarray .long, 2) := by decide +kernel
theorem d_X0_init_17 : decode cX0_init 17 = .ok (.putfield 15, 3) := by decide +kernel
theorem d_X0_init_20 : decode cX0_init 20 = .ok (.aload_n 0, 1) := by decide +kernel
theorem d_X0_init_21 : decode cX0_init 21 = .ok (.bipush 9, 2) := by decide +kernel
theorem d_X0_init_23 : decode cX0_init 23 = .ok (.newarray .long, 2) := by decide +kernel
theorem d_X0_init_25 : decode cX0_init 25 = .ok (.putfield 18, 3) := by decide +kernel
theorem d_X0_init_28 : decode cX0_init 28 = .ok (.aload_n 0, 1) := by decide +kernel
theorem d_X0_init_29 : decode cX0_init 29 = .ok (.bipush 9, 2) := by decide +kernel
theorem d_X0_init_31 : decode cX0_init 31 = .ok (.newarray .long, 2) := by decide +kernel
theorem d_X0_init_33 : decode cX0_init 33 = .ok (.putfield 21, 3) := by decide +kernel
theorem d_X0_init_36 : decode cX0_init 36 = .ok (.aload_n 0, 1) := by decide +kernel
theorem d_X0_init_37 : decode cX0_init 37 = .ok (.bipush 18, 2) := by decide +kernel
theorem d_X0_init_39 : decode cX0_init 39 = .ok (.newarray .long, 2) := by decide +kernel
theorem d_X0_init_41 : decode cX0_init 41 = .ok (.putfield 24, 3) := by decide +kernel
theorem d_X0_init_44 : decode cX0_init 44 = .ok (.aload_n 0, 1) := by decide +kernel
theorem d_X0_init_45 : decode cX0_init 45 = .ok (.bipush 18, 2) := by decide +kernel
theorem d_X0_init_47 : decode cX0_init 47 = .ok (.newarray .long, 2) := by decide +kernel
theorem d_X0_init_49 : decode cX0_init 49 = .ok (.putfield 27, 3) := by decide +kernel
theorem d_X0_init_52 : decode cX0_init 52 = .ok (.aload_n 0, 1) := by decide +kernel
theorem d_X0_init_53 : decode cX0_init 53 = .ok (.bipush 32, 2) := by decide +kernel
theorem d_X0_init_55 : decode cX0_init 55 = .ok (.newarray .long, 2) := by decide +kernel
theorem d_X0_init_57 : decode cX0_init 57 = .ok (.putfield 30, 3) := by decide +kernel
theorem d_X0_init_60 : decode cX0_init 60 = .ok (.return_, 1) := by decide +kernel
set_option maxRecDepth 4000 in
theorem c_X0_init {L : Nat} {xs : Nat → Int32} {h : ka_H} (hh : h 7 = .inr (1, [.null, .null, .null, .null, .null, .null, .null])) : ka_M L xs mX0_init rm_X0_init [.ref 7] h 8 (fun o h' N' => o = .inl none ∧ N' = 15 ∧ h' = (ka_set (ka_set (ka_set (ka_set (ka_set (ka_set (ka_set (ka_set (ka_set (ka_set (ka_set (ka_set (ka_set (ka_set h 8 (.inl (1, ka_da 1 16))) 7 (.inr (1, [.ref 8, .null, .null, .null, .null, .null, .null]))) 9 (.inl (1, ka_da 1 9))) 7 (.inr (1, [.ref 8, .ref 9, .null, .null, .null, .null, .null]))) 10 (.inl (1, ka_da 1 9))) 7 (.inr (1, [.ref 8, .ref 9, .ref 10, .null, .null, .null, .null]))) 11 (.inl (1, ka_da 1 9))) 7 (.inr (1, [.ref 8, .ref 9, .ref 10, .ref 11, .null, .null, .null]))) 12 (.inl (1, ka_da 1 18))) 7 (.inr (1, [.ref 8, .ref 9, .ref 10, .ref 11, .ref 12, .null, .null]))) 13 (.inl (1, ka_da 1 18))) 7 (.inr (1, [.ref 8, .ref 9, .ref 10, .ref 11, .ref 12, .ref 13, .null]))) 14 (.inl (1, ka_da 1 32))) 7 (.inr (1, [.ref 8, .ref 9, .ref 10, .ref 11, .ref 12, .ref 13, .ref 14])))) := by
  refine ka_body (by decide) (Nat.le_of_ble_eq_true rfl) ?_
  refine ka_aload_n d_X0_init_0 rfl rfl 0 rfl ?_
  refine ka_obj d_X0_init_1 rfl ko_X0_3 ko_i ko_c (by decide) (Nat.le_of_ble_eq_true rfl) ?_
  refine ka_aload_n d_X0_init_4 rfl rfl 0 rfl ?_
  refine ka_bipush (v := 16) d_X0_init_5 rfl (by decide) ?_
  refine ka_newa (t := 1) (n := 16) (mc := 6) (ms := 95) d_X0_init_7 rfl (by decide) rfl (ka_tm 64 (by decide +kernel) rfl) (by decide) (by decide) (by decide) (by decide) rfl rfl ?_
  refine ka_putF (ci := 1) (k := 0) (ty := (.array .long)) d_X0_init_9 rfl (by decide) hh rfl in_X0 tyX0_ok nmX0 (by decide) fl_X0_9 rfl rfl rfl rfl (fun φ => rfl) (fun φ => rfl) (fun j e => by cases e; decide) (Nat.le_of_ble_eq_true rfl) ?_
  refine ka_aload_n d_X0_init_12 rfl rfl 0 rfl ?_
  refine ka_bipush (v := 9) d_X0_init_13 rfl (by decide) ?_
  refine ka_newa (t := 1) (n := 9) (mc := 5) (ms := 86) d_X0_init_15 rfl (by decide) rfl (ka_tm 64 (by decide +kernel) rfl) (by decide) (by decide) (by decide) (by decide) rfl rfl ?_
  refine ka_putF (ci := 1) (k := 1) (ty := (.array .long)) d_X0_init_17 rfl (by decide) rfl rfl in_X0 tyX0_ok nmX0 (by decide) fl_X0_15 rfl rfl rfl rfl (fun φ => rfl) (fun φ => rfl) (fun j e => by cases e; decide) (Nat.le_of_ble_eq_true rfl) ?_
  refine ka_aload_n d_X0_init_20 rfl rfl 0 rfl ?_
  refine ka_bipush (v := 9) d_X0_init_21 rfl (by decide) ?_
  refine ka_newa (t := 1) (n := 9) (mc := 4) (ms := 77) d_X0_init_23 rfl (by decide) rfl (ka_tm 64 (by decide +kernel) rfl) (by decide) (by decide) (by decide) (by decide) rfl rfl ?_
  refine ka_putF (ci := 1) (k := 2) (ty := (.array .long)) d_X0_init_25 rfl (by decide) rfl rfl in_X0 tyX0_ok nmX0 (by decide) fl_X0_18 rfl rfl rfl rfl (fun φ => rfl) (fun φ => rfl) (fun j e => by cases e; decide) (Nat.le_of_ble_eq_true rfl) ?_
  refine ka_aload_n d_X0_init_28 rfl rfl 0 rfl ?_
  refine ka_bipush (v := 9) d_X0_init_29 rfl (by decide) ?_
  refine ka_newa (t := 1) (n := 9) (mc := 3) (ms := 68) d_X0_init_31 rfl (by decide) rfl (ka_tm 64 (by decide +kernel) rfl) (by decide) (by decide) (by decide) (by decide) rfl rfl ?_
  refine ka_putF (ci := 1) (k := 3) (ty := (.array .long)) d_X0_init_33 rfl (by decide) rfl rfl in_X0 tyX0_ok nmX0 (by decide) fl_X0_21 rfl rfl rfl rfl (fun φ => rfl) (fun φ => rfl) (fun j e => by cases e; decide) (Nat.le_of_ble_eq_true rfl) ?_
  refine ka_aload_n d_X0_init_36 rfl rfl 0 rfl ?_
  refine ka_bipush (v := 18) d_X0_init_37 rfl (by decide) ?_
  refine ka_newa (t := 1) (n := 18) (mc := 2) (ms := 50) d_X0_init_39 rfl (by decide) rfl (ka_tm 64 (by decide +kernel) rfl) (by decide) (by decide) (by decide) (by decide) rfl rfl ?_
  refine ka_putF (ci := 1) (k := 4) (ty := (.array .long)) d_X0_init_41 rfl (by decide) rfl rfl in_X0 tyX0_ok nmX0 (by decide) fl_X0_24 rfl rfl rfl rfl (fun φ => rfl) (fun φ => rfl) (fun j e => by cases e; decide) (Nat.le_of_ble_eq_true rfl) ?_
  refine ka_aload_n d_X0_init_44 rfl rfl 0 rfl ?_
  refine ka_bipush (v := 18) d_X0_init_45 rfl (by decide) ?_
  refine ka_newa (t := 1) (n := 18) (mc := 1) (ms := 32) d_X0_init_47 rfl (by decide) rfl (ka_tm 64 (by decide +kernel) rfl) (by decide) (by decide) (by decide) (by decide) rfl rfl ?_
  refine ka_putF (ci := 1) (k := 5) (ty := (.array .long)) d_X0_init_49 rfl (by decide) rfl rfl in_X0 tyX0_ok nmX0 (by decide) fl_X0_27 rfl rfl rfl rfl (fun φ => rfl) (fun φ => rfl) (fun j e => by cases e; decide) (Nat.le_of_ble_eq_true rfl) ?_
  refine ka_aload_n d_X0_init_52 rfl rfl 0 rfl ?_
  refine ka_bipush (v := 32) d_X0_init_53 rfl (by decide) ?_
  refine ka_newa (t := 1) (n := 32) (mc := 0) (ms := 0) d_X0_init_55 rfl (by decide) rfl (ka_tm 64 (by decide +kernel) rfl) (by decide) (by decide) (by decide) (by decide) rfl rfl ?_
  refine ka_putF (ci := 1) (k := 6) (ty := (.array .long)) d_X0_init_57 rfl (by decide) rfl rfl in_X0 tyX0_ok nmX0 (by decide) fl_X0_30 rfl rfl rfl rfl (fun φ => rfl) (fun φ => rfl) (fun j e => by cases e; decide) (Nat.le_of_ble_eq_true rfl) ?_
  exact ka_vret d_X0_init_60 rfl ⟨rfl, rfl, rfl⟩
theorem d_X1_init_0 : decode cX1_init 0 = .ok (.aload_n 0, 1) := by decide +kernel
theorem d_X1_init_1 : decode cX1_init 1 = .ok (.invokespecial 3, 3) := by decide +kernel
theorem d_X1_init_4 : decode cX1_init 4 = .ok (.aload_n 0, 1) := by decide +kernel
theorem d_X1_init_5 : decode cX1_init 5 = .ok (.iconst 0, 1) := by decide +kernel
theorem d_X1_init_6 : decode cX1_init 6 = .ok (.putfield 9, 3) := by decide +kernel
theorem d_X1_init_9 : decode cX1_init 9 = .ok (.aload_n 0, 1) := by decide +kernel
theorem d_X1_init_10 : decode cX1_init 10 = .ok (.iconst 0, 1) := by decide +kernel
theorem d_X1_init_11 : decode cX1_init 11 = .ok (.putfield 15, 3) := by decide +kernel
theorem d_X1_init_14 : decode cX1_init 14 = .ok (.aload_n 0, 1) := by decide +kernel
theorem d_X1_init_15 : decode cX1_init 15 = .ok (.iconst 0, 1) := by decide +kernel
theorem d_X1_init_16 : decode cX1_init 16 = .ok (.putfield 18, 3) := by decide +kernel
theorem d_X1_init_19 : decode cX1_init 19 = .ok (.aload_n 0, 1) := by decide +kernel
theorem d_X1_init_20 : decode cX1_init 20 = .ok (.iconst 0, 1) := by decide +kernel
theorem d_X1_init_21 : decode cX1_init 21 = .ok (.putfield 21, 3) := by decide +kernel
theorem d_X1_init_24 : decode cX1_init 24 = .ok (.aload_n 0, 1) := by decide +kernel
theorem d_X1_init_25 : decode cX1_init 25 = .ok (.iconst 1, 1) := by decide +kernel
theorem d_X1_init_26 : decode cX1_init 26 = .ok (.putfield 24, 3) := by decide +kernel
theorem d_X1_init_29 : decode cX1_init 29 = .ok (.aload_n 0, 1) := by decide +kernel
theorem d_X1_init_30 : decode cX1_init 30 = .ok (.new 27, 3) := by decide +kernel
theorem d_X1_init_33 : decode cX1_init 33 = .ok (.dup, 1) := by decide +kernel
theorem d_X1_init_34 : decode cX1_init 34 = .ok (.invokespecial 29, 3) := by decide +kernel
theorem d_X1_init_37 : decode cX1_init 37 = .ok (.putfield 30, 3) := by decide +kernel
theorem d_X1_init_40 : decode cX1_init 40 = .ok (.aload_n 0, 1) := by decide +kernel
theorem d_X1_init_41 : decode cX1_init 41 = .ok (.bipush 8, 2) := by decide +kernel
theorem d_X1_init_43 : decode cX1_init 43 = .ok (.newarray .long, 2) := by decide +kernel
theorem d_X1_init_45 : decode cX1_init 45 = .ok (.putfield 34, 3) := by decide +kernel
theorem d_X1_init_48 : decode cX1_init 48 = .ok (.return_, 1) := by decide +kernel
set_option maxRecDepth 4000 in
theorem c_X1_init {L : Nat} {xs : Nat → Int32} {h : ka_H} (hh : h 6 = .inr (2, [.int 0, .int 0, .int 0, .int 0, .int 0, .null, .null])) : ka_M L xs mX1_init rm_X1_init [.ref 6] h 7 (fun o h' N' => o = .inl none ∧ N' = 16 ∧ h' = (ka_set (ka_set (ka_set (ka_set (ka_set (ka_set (ka_set (ka_set (ka_set (ka_set (ka_set (ka_set (ka_set (ka_set (ka_set (ka_set (ka_set (ka_set (ka_set (ka_set (ka_set (ka_set (ka_set h 6 (.inr (2, [.int 0, .int 0, .int 0, .int 0, .int 0, .null, .null]))) 6 (.inr (2, [.int 0, .int 0, .int 0, .int 0, .int 0, .null, .null]))) 6 (.inr (2, [.int 0, .int 0, .int 0, .int 0, .int 0, .null, .null]))) 6 (.inr (2, [.int 0, .int 0, .int 0, .int 0, .int 0, .null, .null]))) 6 (.inr (2, [.int 0, .int 0, .int 0, .int 0, .int 1, .null, .null]))) 7 (.inr (1, [.null, .null, .null, .null, .null, .null, .null]))) 8 (.inl (1, ka_da 1 16))) 7 (.inr (1, [.ref 8, .null, .null, .null, .null, .null, .null]))) 9 (.inl (1, ka_da 1 9))) 7 (.inr (1, [.ref 8, .ref 9, .null, .null, .null, .null, .null]))) 10 (.inl (1, ka_da 1 9))) 7 (.inr (1, [.ref 8, .ref 9, .ref 10, .null, .null, .null, .null]))) 11 (.inl (1, ka_da 1 9))) 7 (.inr (1, [.ref 8, .ref 9, .ref 10, .ref 11, .null, .null, .null]))) 12 (.inl (1, ka_da 1 18))) 7 (.inr (1, [.ref 8, .ref 9, .ref 10, .ref 11, .ref 12, .null, .null]))) 13 (.inl (1, ka_da 1 18))) 7 (.inr (1, [.ref 8, .ref 9, .ref 10, .ref 11, .ref 12, .ref 13, .null]))) 14 (.inl (1, ka_da 1 32))) 7 (.inr (1, [.ref 8, .ref 9, .ref 10, .ref 11, .ref 12, .ref 13, .ref 14]))) 6 (.inr (2, [.int 0, .int 0, .int 0, .int 0, .int 1, .ref 7, .null]))) 15 (.inl (1, ka_da 1 8))) 6 (.inr (2, [.int 0, .int 0, .int 0, .int 0, .int 1, .ref 7, .ref 15])))) := by
  refine ka_body (by decide) (Nat.le_of_ble_eq_true rfl) ?_
  refine ka_aload_n d_X1_init_0 rfl rfl 0 rfl ?_
  refine ka_obj d_X1_init_1 rfl ko_X1_3 ko_i ko_c (by decide) (Nat.le_of_ble_eq_true rfl) ?_
  refine ka_aload_n d_X1_init_4 rfl rfl 0 rfl ?_
  refine ka_iconst (v := 0) d_X1_init_5 rfl (by decide) ?_
  refine ka_put (ci := 2) (k := 0) (ty := .int) d_X1_init_6 rfl (by decide) hh rfl in_X1 tyX1_ok nmX1 (by decide) fl_X1_9 rfl rfl (fun φ => rfl) (fun φ => rfl) (fun j e => by cases e) (Nat.le_of_ble_eq_true rfl) ?_
  refine ka_aload_n d_X1_init_9 rfl rfl 0 rfl ?_
  refine ka_iconst (v := 0) d_X1_init_10 rfl (by decide) ?_
  refine ka_put (ci := 2) (k := 1) (ty := .int) d_X1_init_11 rfl (by decide) rfl rfl in_X1 tyX1_ok nmX1 (by decide) fl_X1_15 rfl rfl (fun φ => rfl) (fun φ => rfl) (fun j e => by cases e) (Nat.le_of_ble_eq_true rfl) ?_
  refine ka_aload_n d_X1_init_14 rfl rfl 0 rfl ?_
  refine ka_iconst (v := 0) d_X1_init_15 rfl (by decide) ?_
  refine ka_put (ci := 2) (k := 2) (ty := .int) d_X1_init_16 rfl (by decide) rfl rfl in_X1 tyX1_ok nmX1 (by decide) fl_X1_18 rfl rfl (fun φ => rfl) (fun φ => rfl) (fun j e => by cases e) (Nat.le_of_ble_eq_true rfl) ?_
  refine ka_aload_n d_X1_init_19 rfl rfl 0 rfl ?_
  refine ka_iconst (v := 0) d_X1_init_20 rfl (by decide) ?_
  refine ka_put (ci := 2) (k := 3) (ty := .int) d_X1_init_21 rfl (by decide) rfl rfl in_X1 tyX1_ok nmX1 (by decide) fl_X1_21 rfl rfl (fun φ => rfl) (fun φ => rfl) (fun j e => by cases e) (Nat.le_of_ble_eq_true rfl) ?_
  refine ka_aload_n d_X1_init_24 rfl rfl 0 rfl ?_
  refine ka_iconst (v := 1) d_X1_init_25 rfl (by decide) ?_
  refine ka_put (ci := 2) (k := 4) (ty := .int) d_X1_init_26 rfl (by decide) rfl rfl in_X1 tyX1_ok nmX1 (by decide) fl_X1_24 rfl rfl (fun φ => rfl) (fun φ => rfl) (fun j e => by cases e) (Nat.le_of_ble_eq_true rfl) ?_
  refine ka_aload_n d_X1_init_29 rfl rfl 0 rfl ?_
  refine ka_new (ci := 1) (fs := [.null, .null, .null, .null, .null, .null, .null]) (mc := 8) (ms := 119) d_X1_init_30 rfl in_X0 tyX0_ok rfl (ka_tm 32 (by decide +kernel) rfl) (ka_tm 33 (by decide +kernel) rfl) (ka_tm 3 (by decide +kernel) rfl) (by intro j hj; rcases (show j = 0 ∨ j = 1 ∨ j = 2 ∨ j = 3 ∨ j = 4 ∨ j = 5 ∨ j = 6 by omega) with rfl | rfl | rfl | rfl | rfl | rfl | rfl <;> rfl) rfl (by decide) rfl rfl ?_
  refine ka_dup d_X1_init_33 rfl rfl ?_
  refine ka_callI (As := []) (st := [.ref 7, .ref 6]) (mc' := 1) (ms' := 8) d_X1_init_34 rfl rfl lk_X1_29 rfl ⟨by decide, by decide⟩ (Nat.le_of_ble_eq_true rfl) ⟨by decide, by decide⟩ (c_X0_init rfl) (fun E h' N' e => by obtain ⟨e, -⟩ := e; cases e) (fun v h' N' e => by obtain ⟨-, e, -⟩ := e; subst e; decide) rfl rfl (fun v h' N' e => ?_)
  obtain ⟨e1, e2, e3⟩ := e; cases e1; subst e2; subst e3
  refine ka_putF (ci := 2) (k := 5) (ty := (.object "WidthWords$Digits")) d_X1_init_37 rfl (by decide) rfl rfl in_X1 tyX1_ok nmX1 (by decide) fl_X1_30 rfl rfl rfl rfl (fun φ => rfl) (fun φ => rfl) (fun j e => by cases e; decide) (Nat.le_of_ble_eq_true rfl) ?_
  refine ka_aload_n d_X1_init_40 rfl rfl 0 rfl ?_
  refine ka_bipush (v := 8) d_X1_init_41 rfl (by decide) ?_
  refine ka_newa (t := 1) (n := 8) (mc := 0) (ms := 0) d_X1_init_43 rfl (by decide) rfl (ka_tm 64 (by decide +kernel) rfl) (by decide) (by decide) (by decide) (by decide) rfl rfl ?_
  refine ka_putF (ci := 2) (k := 6) (ty := (.array .long)) d_X1_init_45 rfl (by decide) rfl rfl in_X1 tyX1_ok nmX1 (by decide) fl_X1_34 rfl rfl rfl rfl (fun φ => rfl) (fun φ => rfl) (fun j e => by cases e; decide) (Nat.le_of_ble_eq_true rfl) ?_
  exact ka_vret d_X1_init_48 rfl ⟨rfl, rfl, rfl⟩
theorem d_X2_init_0 : decode cX2_init 0 = .ok (.aload_n 0, 1) := by decide +kernel
theorem d_X2_init_1 : decode cX2_init 1 = .ok (.invokespecial 1, 3) := by decide +kernel
theorem d_X2_init_4 : decode cX2_init 4 = .ok (.aload_n 0, 1) := by decide +kernel
theorem d_X2_init_5 : decode cX2_init 5 = .ok (.iconst 0, 1) := by decide +kernel
theorem d_X2_init_6 : decode cX2_init 6 = .ok (.putfield 7, 3) := by decide +kernel
theorem d_X2_init_9 : decode cX2_init 9 = .ok (.aload_n 0, 1) := by decide +kernel
theorem d_X2_init_10 : decode cX2_init 10 = .ok (.iconst 0, 1) := by decide +kernel
theorem d_X2_init_11 : decode cX2_init 11 = .ok (.putfield 13, 3) := by decide +kernel
theorem d_X2_init_14 : decode cX2_init 14 = .ok (.aload_n 0, 1) := by decide +kernel
theorem d_X2_init_15 : decode cX2_init 15 = .ok (.iconst 3, 1) := by decide +kernel
theorem d_X2_init_16 : decode cX2_init 16 = .ok (.putfield 16, 3) := by decide +kernel
theorem d_X2_init_19 : decode cX2_init 19 = .ok (.aload_n 0, 1) := by decide +kernel
theorem d_X2_init_20 : decode cX2_init 20 = .ok (.bipush 15, 2) := by decide +kernel
theorem d_X2_init_22 : decode cX2_init 22 = .ok (.putfield 19, 3) := by decide +kernel
theorem d_X2_init_25 : decode cX2_init 25 = .ok (.aload_n 0, 1) := by decide +kernel
theorem d_X2_init_26 : decode cX2_init 26 = .ok (.bipush (-9), 2) := by decide +kernel
theorem d_X2_init_28 : decode cX2_init 28 = .ok (.putfield 22, 3) := by decide +kernel
theorem d_X2_init_31 : decode cX2_init 31 = .ok (.aload_n 0, 1) := by decide +kernel
theorem d_X2_init_32 : decode cX2_init 32 = .ok (.ldc2_w 25, 3) := by decide +kernel
theorem d_X2_init_35 : decode cX2_init 35 = .ok (.putfield 27, 3) := by decide +kernel
theorem d_X2_init_38 : decode cX2_init 38 = .ok (.aload_n 0, 1) := by decide +kernel
theorem d_X2_init_39 : decode cX2_init 39 = .ok (.iconst 0, 1) := by decide +kernel
theorem d_X2_init_40 : decode cX2_init 40 = .ok (.putfield 31, 3) := by decide +kernel
theorem d_X2_init_43 : decode cX2_init 43 = .ok (.aload_n 0, 1) := by decide +kernel
theorem d_X2_init_44 : decode cX2_init 44 = .ok (.lconst 0, 1) := by decide +kernel
theorem d_X2_init_45 : decode cX2_init 45 = .ok (.putfield 35, 3) := by decide +kernel
theorem d_X2_init_48 : decode cX2_init 48 = .ok (.aload_n 0, 1) := by decide +kernel
theorem d_X2_init_49 : decode cX2_init 49 = .ok (.iconst 0, 1) := by decide +kernel
theorem d_X2_init_50 : decode cX2_init 50 = .ok (.putfield 38, 3) := by decide +kernel
theorem d_X2_init_53 : decode cX2_init 53 = .ok (.return_, 1) := by decide +kernel
set_option maxRecDepth 4000 in
theorem c_X2_init {L : Nat} {xs : Nat → Int32} {h : ka_H} (hh : h 16 = .inr (3, [.int 0, .int 0, .int 0, .int 0, .int 0, .long 0, .int 0, .long 0, .int 0])) : ka_M L xs mX2_init rm_X2_init [.ref 16] h 17 (fun o h' N' => o = .inl none ∧ N' = 17 ∧ h' = (ka_set (ka_set (ka_set (ka_set (ka_set (ka_set (ka_set (ka_set (ka_set h 16 (.inr (3, [.int 0, .int 0, .int 0, .int 0, .int 0, .long 0, .int 0, .long 0, .int 0]))) 16 (.inr (3, [.int 0, .int 0, .int 0, .int 0, .int 0, .long 0, .int 0, .long 0, .int 0]))) 16 (.inr (3, [.int 0, .int 0, .int 3, .int 0, .int 0, .long 0, .int 0, .long 0, .int 0]))) 16 (.inr (3, [.int 0, .int 0, .int 3, .int 15, .int 0, .long 0, .int 0, .long 0, .int 0]))) 16 (.inr (3, [.int 0, .int 0, .int 3, .int 15, .int ((-9)), .long 0, .int 0, .long 0, .int 0]))) 16 (.inr (3, [.int 0, .int 0, .int 3, .int 15, .int ((-9)), .long 128, .int 0, .long 0, .int 0]))) 16 (.inr (3, [.int 0, .int 0, .int 3, .int 15, .int ((-9)), .long 128, .int 0, .long 0, .int 0]))) 16 (.inr (3, [.int 0, .int 0, .int 3, .int 15, .int ((-9)), .long 128, .int 0, .long 0, .int 0]))) 16 (.inr (3, [.int 0, .int 0, .int 3, .int 15, .int ((-9)), .long 128, .int 0, .long 0, .int 0])))) := by
  refine ka_body (by decide) (Nat.le_of_ble_eq_true rfl) ?_
  refine ka_aload_n d_X2_init_0 rfl rfl 0 rfl ?_
  refine ka_obj d_X2_init_1 rfl ko_X2_1 ko_i ko_c (by decide) (Nat.le_of_ble_eq_true rfl) ?_
  refine ka_aload_n d_X2_init_4 rfl rfl 0 rfl ?_
  refine ka_iconst (v := 0) d_X2_init_5 rfl (by decide) ?_
  refine ka_put (ci := 3) (k := 0) (ty := .int) d_X2_init_6 rfl (by decide) hh rfl in_X2 tyX2_ok nmX2 (by decide) fl_X2_7 rfl rfl (fun φ => rfl) (fun φ => rfl) (fun j e => by cases e) (Nat.le_of_ble_eq_true rfl) ?_
  refine ka_aload_n d_X2_init_9 rfl rfl 0 rfl ?_
  refine ka_iconst (v := 0) d_X2_init_10 rfl (by decide) ?_
  refine ka_put (ci := 3) (k := 1) (ty := .int) d_X2_init_11 rfl (by decide) rfl rfl in_X2 tyX2_ok nmX2 (by decide) fl_X2_13 rfl rfl (fun φ => rfl) (fun φ => rfl) (fun j e => by cases e) (Nat.le_of_ble_eq_true rfl) ?_
  refine ka_aload_n d_X2_init_14 rfl rfl 0 rfl ?_
  refine ka_iconst (v := 3) d_X2_init_15 rfl (by decide) ?_
  refine ka_put (ci := 3) (k := 2) (ty := .int) d_X2_init_16 rfl (by decide) rfl rfl in_X2 tyX2_ok nmX2 (by decide) fl_X2_16 rfl rfl (fun φ => rfl) (fun φ => rfl) (fun j e => by cases e) (Nat.le_of_ble_eq_true rfl) ?_
  refine ka_aload_n d_X2_init_19 rfl rfl 0 rfl ?_
  refine ka_bipush (v := 15) d_X2_init_20 rfl (by decide) ?_
  refine ka_put (ci := 3) (k := 3) (ty := .int) d_X2_init_22 rfl (by decide) rfl rfl in_X2 tyX2_ok nmX2 (by decide) fl_X2_19 rfl rfl (fun φ => rfl) (fun φ => rfl) (fun j e => by cases e) (Nat.le_of_ble_eq_true rfl) ?_
  refine ka_aload_n d_X2_init_25 rfl rfl 0 rfl ?_
  refine ka_bipush (v := -9) d_X2_init_26 rfl (by decide) ?_
  refine ka_put (ci := 3) (k := 4) (ty := .int) d_X2_init_28 rfl (by decide) rfl rfl in_X2 tyX2_ok nmX2 (by decide) fl_X2_22 rfl rfl (fun φ => rfl) (fun φ => rfl) (fun j e => by cases e) (Nat.le_of_ble_eq_true rfl) ?_
  refine ka_aload_n d_X2_init_31 rfl rfl 0 rfl ?_
  refine ka_ldc2 (v := 128) d_X2_init_32 rfl kl_X2_25 ?_
  refine ka_put (ci := 3) (k := 5) (ty := .long) d_X2_init_35 rfl (by decide) rfl rfl in_X2 tyX2_ok nmX2 (by decide) fl_X2_27 rfl rfl (fun φ => rfl) (fun φ => rfl) (fun j e => by cases e) (Nat.le_of_ble_eq_true rfl) ?_
  refine ka_aload_n d_X2_init_38 rfl rfl 0 rfl ?_
  refine ka_iconst (v := 0) d_X2_init_39 rfl (by decide) ?_
  refine ka_put (ci := 3) (k := 6) (ty := .boolean) d_X2_init_40 rfl (by decide) rfl rfl in_X2 tyX2_ok nmX2 (by decide) fl_X2_31 rfl rfl (fun φ => rfl) (fun φ => rfl) (fun j e => by cases e) (Nat.le_of_ble_eq_true rfl) ?_
  refine ka_aload_n d_X2_init_43 rfl rfl 0 rfl ?_
  refine ka_lconst (v := 0) d_X2_init_44 rfl (by decide) ?_
  refine ka_put (ci := 3) (k := 7) (ty := .long) d_X2_init_45 rfl (by decide) rfl rfl in_X2 tyX2_ok nmX2 (by decide) fl_X2_35 rfl rfl (fun φ => rfl) (fun φ => rfl) (fun j e => by cases e) (Nat.le_of_ble_eq_true rfl) ?_
  refine ka_aload_n d_X2_init_48 rfl rfl 0 rfl ?_
  refine ka_iconst (v := 0) d_X2_init_49 rfl (by decide) ?_
  refine ka_put (ci := 3) (k := 8) (ty := .int) d_X2_init_50 rfl (by decide) rfl rfl in_X2 tyX2_ok nmX2 (by decide) fl_X2_38 rfl rfl (fun φ => rfl) (fun φ => rfl) (fun j e => by cases e) (Nat.le_of_ble_eq_true rfl) ?_
  exact ka_vret d_X2_init_53 rfl ⟨rfl, rfl, rfl⟩
theorem d_X4_init_0 : decode cX4_init 0 = .ok (.aload_n 0, 1) := by decide +kernel
theorem d_X4_init_1 : decode cX4_init 1 = .ok (.invokespecial 3, 3) := by decide +kernel
theorem d_X4_init_4 : decode cX4_init 4 = .ok (.aload_n 0, 1) := by decide +kernel
theorem d_X4_init_5 : decode cX4_init 5 = .ok (.sipush 600, 3) := by decide +kernel
theorem d_X4_init_8 : decode cX4_init 8 = .ok (.newarray .int, 2) := by decide +kernel
theorem d_X4_init_10 : decode cX4_init 10 = .ok (.putfield 9, 3) := by decide +kernel
theorem d_X4_init_13 : decode cX4_init 13 = .ok (.aload_n 0, 1) := by decide +kernel
theorem d_X4_init_14 : decode cX4_init 14 = .ok (.sipush 4800, 3) := by decide +kernel
theorem d_X4_init_17 : decode cX4_init 17 = .ok (.newarray .long, 2) := by decide +kernel
theorem d_X4_init_19 : decode cX4_init 19 = .ok (.putfield 13, 3) := by decide +kernel
theorem d_X4_init_22 : decode cX4_init 22 = .ok (.aload_n 0, 1) := by decide +kernel
theorem d_X4_init_23 : decode cX4_init 23 = .ok (.iconst 0, 1) := by decide +kernel
theorem d_X4_init_24 : decode cX4_init 24 = .ok (.putfield 17, 3) := by decide +kernel
theorem d_X4_init_27 : decode cX4_init 27 = .ok (.aload_n 0, 1) := by decide +kernel
theorem d_X4_init_28 : decode cX4_init 28 = .ok (.bipush 9, 2) := by decide +kernel
theorem d_X4_init_30 : decode cX4_init 30 = .ok (.newarray .long, 2) := by decide +kernel
theorem d_X4_init_32 : decode cX4_init 32 = .ok (.putfield 21, 3) := by decide +kernel
theorem d_X4_init_35 : decode cX4_init 35 = .ok (.aload_n 0, 1) := by decide +kernel
theorem d_X4_init_36 : decode cX4_init 36 = .ok (.bipush 9, 2) := by decide +kernel
theorem d_X4_init_38 : decode cX4_init 38 = .ok (.newarray .long, 2) := by decide +kernel
theorem d_X4_init_40 : decode cX4_init 40 = .ok (.putfield 24, 3) := by decide +kernel
theorem d_X4_init_43 : decode cX4_init 43 = .ok (.aload_n 0, 1) := by decide +kernel
theorem d_X4_init_44 : decode cX4_init 44 = .ok (.bipush 9, 2) := by decide +kernel
theorem d_X4_init_46 : decode cX4_init 46 = .ok (.newarray .long, 2) := by decide +kernel
theorem d_X4_init_48 : decode cX4_init 48 = .ok (.putfield 27, 3) := by decide +kernel
theorem d_X4_init_51 : decode cX4_init 51 = .ok (.aload_n 0, 1) := by decide +kernel
theorem d_X4_init_52 : decode cX4_init 52 = .ok (.new 30, 3) := by decide +kernel
theorem d_X4_init_55 : decode cX4_init 55 = .ok (.dup, 1) := by decide +kernel
theorem d_X4_init_56 : decode cX4_init 56 = .ok (.invokespecial 32, 3) := by decide +kernel
theorem d_X4_init_59 : decode cX4_init 59 = .ok (.putfield 33, 3) := by decide +kernel
theorem d_X4_init_62 : decode cX4_init 62 = .ok (.aload_n 0, 1) := by decide +kernel
theorem d_X4_init_63 : decode cX4_init 63 = .ok (.new 37, 3) := by decide +kernel
theorem d_X4_init_66 : decode cX4_init 66 = .ok (.dup, 1) := by decide +kernel
theorem d_X4_init_67 : decode cX4_init 67 = .ok (.invokespecial 39, 3) := by decide +kernel
theorem d_X4_init_70 : decode cX4_init 70 = .ok (.putfield 40, 3) := by decide +kernel
theorem d_X4_init_73 : decode cX4_init 73 = .ok (.aload_n 0, 1) := by decide +kernel
theorem d_X4_init_74 : decode cX4_init 74 = .ok (.iconst 1, 1) := by decide +kernel
theorem d_X4_init_75 : decode cX4_init 75 = .ok (.iload_n 1, 1) := by decide +kernel
theorem d_X4_init_76 : decode cX4_init 76 = .ok (.iconst 1, 1) := by decide +kernel
theorem d_X4_init_77 : decode cX4_init 77 = .ok (.isub, 1) := by decide +kernel
theorem d_X4_init_78 : decode cX4_init 78 = .ok (.sipush 512, 3) := by decide +kernel
theorem d_X4_init_81 : decode cX4_init 81 = .ok (.invokestatic 44, 3) := by decide +kernel
theorem d_X4_init_84 : decode cX4_init 84 = .ok (.iadd, 1) := by decide +kernel
theorem d_X4_init_85 : decode cX4_init 85 = .ok (.putfield 50, 3) := by decide +kernel
theorem d_X4_init_88 : decode cX4_init 88 = .ok (.return_, 1) := by decide +kernel
set_option maxRecDepth 4000 in
theorem c_X4_init {L : Nat} {xs : Nat → Int32} {h : ka_H} {x1 : Int32} (hh : h 0 = .inr (4, [.int 0, .null, .null, .int 0, .null, .null, .null, .null, .null])) : ka_M L xs mX4_init rm_X4_init [.ref 0, .int x1] h 1 (fun o h' N' => o = .inl none ∧ N' = 17 ∧ h' = (ka_set (ka_set (ka_set (ka_set (ka_set (ka_set (ka_set (ka_set (ka_set (ka_set (ka_set (ka_set (ka_set (ka_set (ka_set (ka_set (ka_set (ka_set (ka_set (ka_set (ka_set (ka_set (ka_set (ka_set (ka_set (ka_set (ka_set (ka_set (ka_set (ka_set (ka_set (ka_set (ka_set (ka_set (ka_set (ka_set (ka_set (ka_set (ka_set (ka_set (ka_set (ka_set (ka_set (ka_set (ka_set (ka_set (ka_set (ka_set h 1 (.inl (0, ka_da 0 600))) 0 (.inr (4, [.int 0, .ref 1, .null, .int 0, .null, .null, .null, .null, .null]))) 2 (.inl (1, ka_da 1 4800))) 0 (.inr (4, [.int 0, .ref 1, .ref 2, .int 0, .null, .null, .null, .null, .null]))) 0 (.inr (4, [.int 0, .ref 1, .ref 2, .int 0, .null, .null, .null, .null, .null]))) 3 (.inl (1, ka_da 1 9))) 0 (.inr (4, [.int 0, .ref 1, .ref 2, .int 0, .ref 3, .null, .null, .null, .null]))) 4 (.inl (1, ka_da 1 9))) 0 (.inr (4, [.int 0, .ref 1, .ref 2, .int 0, .ref 3, .ref 4, .null, .null, .null]))) 5 (.inl (1, ka_da 1 9))) 0 (.inr (4, [.int 0, .ref 1, .ref 2, .int 0, .ref 3, .ref 4, .ref 5, .null, .null]))) 6 (.inr (2, [.int 0, .int 0, .int 0, .int 0, .int 0, .null, .null]))) 6 (.inr (2, [.int 0, .int 0, .int 0, .int 0, .int 0, .null, .null]))) 6 (.inr (2, [.int 0, .int 0, .int 0, .int 0, .int 0, .null, .null]))) 6 (.inr (2, [.int 0, .int 0, .int 0, .int 0, .int 0, .null, .null]))) 6 (.inr (2, [.int 0, .int 0, .int 0, .int 0, .int 0, .null, .null]))) 6 (.inr (2, [.int 0, .int 0, .int 0, .int 0, .int 1, .null, .null]))) 7 (.inr (1, [.null, .null, .null, .null, .null, .null, .null]))) 8 (.inl (1, ka_da 1 16))) 7 (.inr (1, [.ref 8, .null, .null, .null, .null, .null, .null]))) 9 (.inl (1, ka_da 1 9))) 7 (.inr (1, [.ref 8, .ref 9, .null, .null, .null, .null, .null]))) 10 (.inl (1, ka_da 1 9))) 7 (.inr (1, [.ref 8, .ref 9, .ref 10, .null, .null, .null, .null]))) 11 (.inl (1, ka_da 1 9))) 7 (.inr (1, [.ref 8, .ref 9, .ref 10, .ref 11, .null, .null, .null]))) 12 (.inl (1, ka_da 1 18))) 7 (.inr (1, [.ref 8, .ref 9, .ref 10, .ref 11, .ref 12, .null, .null]))) 13 (.inl (1, ka_da 1 18))) 7 (.inr (1, [.ref 8, .ref 9, .ref 10, .ref 11, .ref 12, .ref 13, .null]))) 14 (.inl (1, ka_da 1 32))) 7 (.inr (1, [.ref 8, .ref 9, .ref 10, .ref 11, .ref 12, .ref 13, .ref 14]))) 6 (.inr (2, [.int 0, .int 0, .int 0, .int 0, .int 1, .ref 7, .null]))) 15 (.inl (1, ka_da 1 8))) 6 (.inr (2, [.int 0, .int 0, .int 0, .int 0, .int 1, .ref 7, .ref 15]))) 0 (.inr (4, [.int 0, .ref 1, .ref 2, .int 0, .ref 3, .ref 4, .ref 5, .ref 6, .null]))) 16 (.inr (3, [.int 0, .int 0, .int 0, .int 0, .int 0, .long 0, .int 0, .long 0, .int 0]))) 16 (.inr (3, [.int 0, .int 0, .int 0, .int 0, .int 0, .long 0, .int 0, .long 0, .int 0]))) 16 (.inr (3, [.int 0, .int 0, .int 0, .int 0, .int 0, .long 0, .int 0, .long 0, .int 0]))) 16 (.inr (3, [.int 0, .int 0, .int 3, .int 0, .int 0, .long 0, .int 0, .long 0, .int 0]))) 16 (.inr (3, [.int 0, .int 0, .int 3, .int 15, .int 0, .long 0, .int 0, .long 0, .int 0]))) 16 (.inr (3, [.int 0, .int 0, .int 3, .int 15, .int ((-9)), .long 0, .int 0, .long 0, .int 0]))) 16 (.inr (3, [.int 0, .int 0, .int 3, .int 15, .int ((-9)), .long 128, .int 0, .long 0, .int 0]))) 16 (.inr (3, [.int 0, .int 0, .int 3, .int 15, .int ((-9)), .long 128, .int 0, .long 0, .int 0]))) 16 (.inr (3, [.int 0, .int 0, .int 3, .int 15, .int ((-9)), .long 128, .int 0, .long 0, .int 0]))) 16 (.inr (3, [.int 0, .int 0, .int 3, .int 15, .int ((-9)), .long 128, .int 0, .long 0, .int 0]))) 0 (.inr (4, [.int 0, .ref 1, .ref 2, .int 0, .ref 3, .ref 4, .ref 5, .ref 6, .ref 16]))) 0 (.inr (4, [.int (1 + (km_fm (x1 - 1) 512)), .ref 1, .ref 2, .int 0, .ref 3, .ref 4, .ref 5, .ref 6, .ref 16])))) := by
  refine ka_body (by decide) (Nat.le_of_ble_eq_true rfl) ?_
  refine ka_aload_n d_X4_init_0 rfl rfl 0 rfl ?_
  refine ka_obj d_X4_init_1 rfl ko_X4_3 ko_i ko_c (by decide) (Nat.le_of_ble_eq_true rfl) ?_
  refine ka_aload_n d_X4_init_4 rfl rfl 0 rfl ?_
  refine ka_sipush (v := 600) d_X4_init_5 rfl (by decide) ?_
  refine ka_newa (t := 0) (n := 600) (mc := 15) (ms := 4969) d_X4_init_8 rfl (by decide) rfl (ka_tm 63 (by decide +kernel) rfl) (by decide) (by decide) (by decide) (by decide) rfl rfl ?_
  refine ka_putF (ci := 4) (k := 1) (ty := (.array .int)) d_X4_init_10 rfl (by decide) hh rfl in_X4 tyX4_ok nmX4 (by decide) fl_X4_9 rfl rfl rfl rfl (fun φ => rfl) (fun φ => rfl) (fun j e => by cases e; decide) (Nat.le_of_ble_eq_true rfl) ?_
  refine ka_aload_n d_X4_init_13 rfl rfl 0 rfl ?_
  refine ka_sipush (v := 4800) d_X4_init_14 rfl (by decide) ?_
  refine ka_newa (t := 1) (n := 4800) (mc := 14) (ms := 169) d_X4_init_17 rfl (by decide) rfl (ka_tm 64 (by decide +kernel) rfl) (by decide) (by decide) (by decide) (by decide) rfl rfl ?_
  refine ka_putF (ci := 4) (k := 2) (ty := (.array .long)) d_X4_init_19 rfl (by decide) rfl rfl in_X4 tyX4_ok nmX4 (by decide) fl_X4_13 rfl rfl rfl rfl (fun φ => rfl) (fun φ => rfl) (fun j e => by cases e; decide) (Nat.le_of_ble_eq_true rfl) ?_
  refine ka_aload_n d_X4_init_22 rfl rfl 0 rfl ?_
  refine ka_iconst (v := 0) d_X4_init_23 rfl (by decide) ?_
  refine ka_put (ci := 4) (k := 3) (ty := .int) d_X4_init_24 rfl (by decide) rfl rfl in_X4 tyX4_ok nmX4 (by decide) fl_X4_17 rfl rfl (fun φ => rfl) (fun φ => rfl) (fun j e => by cases e) (Nat.le_of_ble_eq_true rfl) ?_
  refine ka_aload_n d_X4_init_27 rfl rfl 0 rfl ?_
  refine ka_bipush (v := 9) d_X4_init_28 rfl (by decide) ?_
  refine ka_newa (t := 1) (n := 9) (mc := 13) (ms := 160) d_X4_init_30 rfl (by decide) rfl (ka_tm 64 (by decide +kernel) rfl) (by decide) (by decide) (by decide) (by decide) rfl rfl ?_
  refine ka_putF (ci := 4) (k := 4) (ty := (.array .long)) d_X4_init_32 rfl (by decide) rfl rfl in_X4 tyX4_ok nmX4 (by decide) fl_X4_21 rfl rfl rfl rfl (fun φ => rfl) (fun φ => rfl) (fun j e => by cases e; decide) (Nat.le_of_ble_eq_true rfl) ?_
  refine ka_aload_n d_X4_init_35 rfl rfl 0 rfl ?_
  refine ka_bipush (v := 9) d_X4_init_36 rfl (by decide) ?_
  refine ka_newa (t := 1) (n := 9) (mc := 12) (ms := 151) d_X4_init_38 rfl (by decide) rfl (ka_tm 64 (by decide +kernel) rfl) (by decide) (by decide) (by decide) (by decide) rfl rfl ?_
  refine ka_putF (ci := 4) (k := 5) (ty := (.array .long)) d_X4_init_40 rfl (by decide) rfl rfl in_X4 tyX4_ok nmX4 (by decide) fl_X4_24 rfl rfl rfl rfl (fun φ => rfl) (fun φ => rfl) (fun j e => by cases e; decide) (Nat.le_of_ble_eq_true rfl) ?_
  refine ka_aload_n d_X4_init_43 rfl rfl 0 rfl ?_
  refine ka_bipush (v := 9) d_X4_init_44 rfl (by decide) ?_
  refine ka_newa (t := 1) (n := 9) (mc := 11) (ms := 142) d_X4_init_46 rfl (by decide) rfl (ka_tm 64 (by decide +kernel) rfl) (by decide) (by decide) (by decide) (by decide) rfl rfl ?_
  refine ka_putF (ci := 4) (k := 6) (ty := (.array .long)) d_X4_init_48 rfl (by decide) rfl rfl in_X4 tyX4_ok nmX4 (by decide) fl_X4_27 rfl rfl rfl rfl (fun φ => rfl) (fun φ => rfl) (fun j e => by cases e; decide) (Nat.le_of_ble_eq_true rfl) ?_
  refine ka_aload_n d_X4_init_51 rfl rfl 0 rfl ?_
  refine ka_new (ci := 2) (fs := [.int 0, .int 0, .int 0, .int 0, .int 0, .null, .null]) (mc := 10) (ms := 135) d_X4_init_52 rfl in_X1 tyX1_ok rfl (ka_tm 26 (by decide +kernel) rfl) (ka_tm 27 (by decide +kernel) rfl) (ka_tm 2 (by decide +kernel) rfl) (by intro j hj; rcases (show j = 0 ∨ j = 1 ∨ j = 2 ∨ j = 3 ∨ j = 4 ∨ j = 5 ∨ j = 6 by omega) with rfl | rfl | rfl | rfl | rfl | rfl | rfl <;> rfl) rfl (by decide) rfl rfl ?_
  refine ka_dup d_X4_init_55 rfl rfl ?_
  refine ka_callI (As := []) (st := [.ref 6, .ref 0]) (mc' := 1) (ms' := 9) d_X4_init_56 rfl rfl lk_X4_32 rfl ⟨by decide, by decide⟩ (Nat.le_of_ble_eq_true rfl) ⟨by decide, by decide⟩ (c_X1_init rfl) (fun E h' N' e => by obtain ⟨e, -⟩ := e; cases e) (fun v h' N' e => by obtain ⟨-, e, -⟩ := e; subst e; decide) rfl rfl (fun v h' N' e => ?_)
  obtain ⟨e1, e2, e3⟩ := e; cases e1; subst e2; subst e3
  refine ka_putF (ci := 4) (k := 7) (ty := (.object "WidthWords$Operations")) d_X4_init_59 rfl (by decide) rfl rfl in_X4 tyX4_ok nmX4 (by decide) fl_X4_33 rfl rfl rfl rfl (fun φ => rfl) (fun φ => rfl) (fun j e => by cases e; decide) (Nat.le_of_ble_eq_true rfl) ?_
  refine ka_aload_n d_X4_init_62 rfl rfl 0 rfl ?_
  refine ka_new (ci := 3) (fs := [.int 0, .int 0, .int 0, .int 0, .int 0, .long 0, .int 0, .long 0, .int 0]) (mc := 0) (ms := 0) d_X4_init_63 rfl in_X2 tyX2_ok rfl (ka_tm 91 (by decide +kernel) rfl) (ka_tm 92 (by decide +kernel) rfl) (ka_tm 4 (by decide +kernel) rfl) (by intro j hj; rcases (show j = 0 ∨ j = 1 ∨ j = 2 ∨ j = 3 ∨ j = 4 ∨ j = 5 ∨ j = 6 ∨ j = 7 ∨ j = 8 by omega) with rfl | rfl | rfl | rfl | rfl | rfl | rfl | rfl | rfl <;> rfl) rfl (by decide) rfl rfl ?_
  refine ka_dup d_X4_init_66 rfl rfl ?_
  refine ka_callI (As := []) (st := [.ref 16, .ref 0]) (mc' := 0) (ms' := 0) d_X4_init_67 rfl rfl lk_X4_39 rfl ⟨by decide, by decide⟩ (Nat.le_of_ble_eq_true rfl) ⟨by decide, by decide⟩ (c_X2_init rfl) (fun E h' N' e => by obtain ⟨e, -⟩ := e; cases e) (fun v h' N' e => by obtain ⟨-, e, -⟩ := e; subst e; decide) rfl rfl (fun v h' N' e => ?_)
  obtain ⟨e1, e2, e3⟩ := e; cases e1; subst e2; subst e3
  refine ka_putF (ci := 4) (k := 8) (ty := (.object "WidthWords$PointNumbers")) d_X4_init_70 rfl (by decide) rfl rfl in_X4 tyX4_ok nmX4 (by decide) fl_X4_40 rfl rfl rfl rfl (fun φ => rfl) (fun φ => rfl) (fun j e => by cases e; decide) (Nat.le_of_ble_eq_true rfl) ?_
  refine ka_aload_n d_X4_init_73 rfl rfl 0 rfl ?_
  refine ka_iconst (v := 1) d_X4_init_74 rfl (by decide) ?_
  refine ka_iload_n d_X4_init_75 rfl rfl 1 rfl ?_
  refine ka_iconst (v := 1) d_X4_init_76 rfl (by decide) ?_
  refine ka_isub d_X4_init_77 rfl ?_
  refine ka_sipush (v := 512) d_X4_init_78 rfl (by decide) ?_
  refine ka_callS (As := [.int (x1 - 1), .int 512]) (st := [.int 1, .ref 0]) (mc' := 0) (ms' := 0) d_X4_init_81 rfl rfl lk_X4_44 ⟨by decide, by decide⟩ (Nat.le_of_ble_eq_true rfl) ⟨by decide, by decide⟩ (c_floorMod (by decide)) (fun x h' N' e => e.2.2) (fun v h' e => ?_) (fun E h' e => by obtain ⟨e, -⟩ := e; cases e)
  obtain ⟨e1, e2, -⟩ := e; cases e1; subst e2
  refine ka_iadd d_X4_init_84 rfl ?_
  refine ka_putF (ci := 4) (k := 0) (ty := .int) d_X4_init_85 rfl (by decide) rfl rfl in_X4 tyX4_ok nmX4 (by decide) fl_X4_50 rfl rfl rfl rfl (fun φ => rfl) (fun φ => rfl) (fun j e => by cases e) (Nat.le_of_ble_eq_true rfl) ?_
  exact ka_vret d_X4_init_88 rfl ⟨rfl, rfl, rfl⟩
theorem d_X5_init_0 : decode cX5_init 0 = .ok (.aload_n 0, 1) := by decide +kernel
theorem d_X5_init_1 : decode cX5_init 1 = .ok (.invokespecial 1, 3) := by decide +kernel
theorem d_X5_init_4 : decode cX5_init 4 = .ok (.aload_n 0, 1) := by decide +kernel
theorem d_X5_init_5 : decode cX5_init 5 = .ok (.sipush 600, 3) := by decide +kernel
theorem d_X5_init_8 : decode cX5_init 8 = .ok (.newarray .int, 2) := by decide +kernel
theorem d_X5_init_10 : decode cX5_init 10 = .ok (.putfield 7, 3) := by decide +kernel
theorem d_X5_init_13 : decode cX5_init 13 = .ok (.aload_n 0, 1) := by decide +kernel
theorem d_X5_init_14 : decode cX5_init 14 = .ok (.ldc 13, 2) := by decide +kernel
theorem d_X5_init_16 : decode cX5_init 16 = .ok (.newarray .byte, 2) := by decide +kernel
theorem d_X5_init_18 : decode cX5_init 18 = .ok (.putfield 14, 3) := by decide +kernel
theorem d_X5_init_21 : decode cX5_init 21 = .ok (.aload_n 0, 1) := by decide +kernel
theorem d_X5_init_22 : decode cX5_init 22 = .ok (.iconst 4, 1) := by decide +kernel
theorem d_X5_init_23 : decode cX5_init 23 = .ok (.newarray .int, 2) := by decide +kernel
theorem d_X5_init_25 : decode cX5_init 25 = .ok (.putfield 18, 3) := by decide +kernel
theorem d_X5_init_28 : decode cX5_init 28 = .ok (.aload_n 0, 1) := by decide +kernel
theorem d_X5_init_29 : decode cX5_init 29 = .ok (.sipush 513, 3) := by decide +kernel
theorem d_X5_init_32 : decode cX5_init 32 = .ok (.newarray .int, 2) := by decide +kernel
theorem d_X5_init_34 : decode cX5_init 34 = .ok (.putfield 21, 3) := by decide +kernel
theorem d_X5_init_37 : decode cX5_init 37 = .ok (.aload_n 0, 1) := by decide +kernel
theorem d_X5_init_38 : decode cX5_init 38 = .ok (.sipush 513, 3) := by decide +kernel
theorem d_X5_init_41 : decode cX5_init 41 = .ok (.newarray .int, 2) := by decide +kernel
theorem d_X5_init_43 : decode cX5_init 43 = .ok (.putfield 24, 3) := by decide +kernel
theorem d_X5_init_46 : decode cX5_init 46 = .ok (.aload_n 0, 1) := by decide +kernel
theorem d_X5_init_47 : decode cX5_init 47 = .ok (.sipush 1026, 3) := by decide +kernel
theorem d_X5_init_50 : decode cX5_init 50 = .ok (.newarray .int, 2) := by decide +kernel
theorem d_X5_init_52 : decode cX5_init 52 = .ok (.putfield 27, 3) := by decide +kernel
theorem d_X5_init_55 : decode cX5_init 55 = .ok (.aload_n 0, 1) := by decide +kernel
theorem d_X5_init_56 : decode cX5_init 56 = .ok (.sipush 514, 3) := by decide +kernel
theorem d_X5_init_59 : decode cX5_init 59 = .ok (.newarray .int, 2) := by decide +kernel
theorem d_X5_init_61 : decode cX5_init 61 = .ok (.putfield 30, 3) := by decide +kernel
theorem d_X5_init_64 : decode cX5_init 64 = .ok (.aload_n 0, 1) := by decide +kernel
theorem d_X5_init_65 : decode cX5_init 65 = .ok (.iconst 2, 1) := by decide +kernel
theorem d_X5_init_66 : decode cX5_init 66 = .ok (.newarray .int, 2) := by decide +kernel
theorem d_X5_init_68 : decode cX5_init 68 = .ok (.putfield 33, 3) := by decide +kernel
theorem d_X5_init_71 : decode cX5_init 71 = .ok (.aload_n 0, 1) := by decide +kernel
theorem d_X5_init_72 : decode cX5_init 72 = .ok (.iconst 2, 1) := by decide +kernel
theorem d_X5_init_73 : decode cX5_init 73 = .ok (.newarray .int, 2) := by decide +kernel
theorem d_X5_init_75 : decode cX5_init 75 = .ok (.putfield 36, 3) := by decide +kernel
theorem d_X5_init_78 : decode cX5_init 78 = .ok (.aload_n 0, 1) := by decide +kernel
theorem d_X5_init_79 : decode cX5_init 79 = .ok (.iconst 2, 1) := by decide +kernel
theorem d_X5_init_80 : decode cX5_init 80 = .ok (.newarray .int, 2) := by decide +kernel
theorem d_X5_init_82 : decode cX5_init 82 = .ok (.putfield 39, 3) := by decide +kernel
theorem d_X5_init_85 : decode cX5_init 85 = .ok (.aload_n 0, 1) := by decide +kernel
theorem d_X5_init_86 : decode cX5_init 86 = .ok (.iconst 2, 1) := by decide +kernel
theorem d_X5_init_87 : decode cX5_init 87 = .ok (.newarray .long, 2) := by decide +kernel
theorem d_X5_init_89 : decode cX5_init 89 = .ok (.putfield 42, 3) := by decide +kernel
theorem d_X5_init_92 : decode cX5_init 92 = .ok (.aload_n 0, 1) := by decide +kernel
theorem d_X5_init_93 : decode cX5_init 93 = .ok (.iconst 1, 1) := by decide +kernel
theorem d_X5_init_94 : decode cX5_init 94 = .ok (.iload_n 1, 1) := by decide +kernel
theorem d_X5_init_95 : decode cX5_init 95 = .ok (.iconst 1, 1) := by decide +kernel
theorem d_X5_init_96 : decode cX5_init 96 = .ok (.isub, 1) := by decide +kernel
theorem d_X5_init_97 : decode cX5_init 97 = .ok (.sipush 511, 3) := by decide +kernel
theorem d_X5_init_100 : decode cX5_init 100 = .ok (.iand, 1) := by decide +kernel
theorem d_X5_init_101 : decode cX5_init 101 = .ok (.iadd, 1) := by decide +kernel
theorem d_X5_init_102 : decode cX5_init 102 = .ok (.putfield 46, 3) := by decide +kernel
theorem d_X5_init_105 : decode cX5_init 105 = .ok (.return_, 1) := by decide +kernel
set_option maxRecDepth 4000 in
theorem c_X5_init {L : Nat} {xs : Nat → Int32} {h : ka_H} {x1 : Int32} (hh : h 17 = .inr (5, [.int 0, .int 0, .int 0, .null, .null, .null, .int 0, .null, .null, .null, .null, .null, .null, .null, .null])) : ka_M L xs mX5_init rm_X5_init [.ref 17, .int x1] h 18 (fun o h' N' => o = .inl none ∧ N' = 29 ∧ h' = (ka_set (ka_set (ka_set (ka_set (ka_set (ka_set (ka_set (ka_set (ka_set (ka_set (ka_set (ka_set (ka_set (ka_set (ka_set (ka_set (ka_set (ka_set (ka_set (ka_set (ka_set (ka_set (ka_set h 18 (.inl (0, ka_da 0 600))) 17 (.inr (5, [.int 0, .int 0, .int 0, .ref 18, .null, .null, .int 0, .null, .null, .null, .null, .null, .null, .null, .null]))) 19 (.inl (2, ka_da 2 307200))) 17 (.inr (5, [.int 0, .int 0, .int 0, .ref 18, .ref 19, .null, .int 0, .null, .null, .null, .null, .null, .null, .null, .null]))) 20 (.inl (0, ka_da 0 4))) 17 (.inr (5, [.int 0, .int 0, .int 0, .ref 18, .ref 19, .ref 20, .int 0, .null, .null, .null, .null, .null, .null, .null, .null]))) 21 (.inl (0, ka_da 0 513))) 17 (.inr (5, [.int 0, .int 0, .int 0, .ref 18, .ref 19, .ref 20, .int 0, .ref 21, .null, .null, .null, .null, .null, .null, .null]))) 22 (.inl (0, ka_da 0 513))) 17 (.inr (5, [.int 0, .int 0, .int 0, .ref 18, .ref 19, .ref 20, .int 0, .ref 21, .ref 22, .null, .null, .null, .null, .null, .null]))) 23 (.inl (0, ka_da 0 1026))) 17 (.inr (5, [.int 0, .int 0, .int 0, .ref 18, .ref 19, .ref 20, .int 0, .ref 21, .ref 22, .ref 23, .null, .null, .null, .null, .null]))) 24 (.inl (0, ka_da 0 514))) 17 (.inr (5, [.int 0, .int 0, .int 0, .ref 18, .ref 19, .ref 20, .int 0, .ref 21, .ref 22, .ref 23, .ref 24, .null, .null, .null, .null]))) 25 (.inl (0, ka_da 0 2))) 17 (.inr (5, [.int 0, .int 0, .int 0, .ref 18, .ref 19, .ref 20, .int 0, .ref 21, .ref 22, .ref 23, .ref 24, .ref 25, .null, .null, .null]))) 26 (.inl (0, ka_da 0 2))) 17 (.inr (5, [.int 0, .int 0, .int 0, .ref 18, .ref 19, .ref 20, .int 0, .ref 21, .ref 22, .ref 23, .ref 24, .ref 25, .ref 26, .null, .null]))) 27 (.inl (0, ka_da 0 2))) 17 (.inr (5, [.int 0, .int 0, .int 0, .ref 18, .ref 19, .ref 20, .int 0, .ref 21, .ref 22, .ref 23, .ref 24, .ref 25, .ref 26, .ref 27, .null]))) 28 (.inl (1, ka_da 1 2))) 17 (.inr (5, [.int 0, .int 0, .int 0, .ref 18, .ref 19, .ref 20, .int 0, .ref 21, .ref 22, .ref 23, .ref 24, .ref 25, .ref 26, .ref 27, .ref 28]))) 17 (.inr (5, [.int 0, .int (1 + ((x1 - 1) &&& 511)), .int 0, .ref 18, .ref 19, .ref 20, .int 0, .ref 21, .ref 22, .ref 23, .ref 24, .ref 25, .ref 26, .ref 27, .ref 28])))) := by
  refine ka_body (by decide) (Nat.le_of_ble_eq_true rfl) ?_
  refine ka_aload_n d_X5_init_0 rfl rfl 0 rfl ?_
  refine ka_obj d_X5_init_1 rfl ko_X5_1 ko_i ko_c (by decide) (Nat.le_of_ble_eq_true rfl) ?_
  refine ka_aload_n d_X5_init_4 rfl rfl 0 rfl ?_
  refine ka_sipush (v := 600) d_X5_init_5 rfl (by decide) ?_
  refine ka_newa (t := 0) (n := 600) (mc := 10) (ms := 309778) d_X5_init_8 rfl (by decide) rfl (ka_tm 63 (by decide +kernel) rfl) (by decide) (by decide) (by decide) (by decide) rfl rfl ?_
  refine ka_putF (ci := 5) (k := 3) (ty := (.array .int)) d_X5_init_10 rfl (by decide) hh rfl in_X5 tyX5_ok nmX5 (by decide) fl_X5_7 rfl rfl rfl rfl (fun φ => rfl) (fun φ => rfl) (fun j e => by cases e; decide) (Nat.le_of_ble_eq_true rfl) ?_
  refine ka_aload_n d_X5_init_13 rfl rfl 0 rfl ?_
  refine ka_ldc (v := 307200) d_X5_init_14 rfl ki_X5_13 ?_
  refine ka_newa (t := 2) (n := 307200) (mc := 9) (ms := 2578) d_X5_init_16 rfl (by decide) rfl (ka_tm 245 (by decide +kernel) rfl) (by decide) (by decide) (by decide) (by decide) rfl rfl ?_
  refine ka_putF (ci := 5) (k := 4) (ty := (.array .byte)) d_X5_init_18 rfl (by decide) rfl rfl in_X5 tyX5_ok nmX5 (by decide) fl_X5_14 rfl rfl rfl rfl (fun φ => rfl) (fun φ => rfl) (fun j e => by cases e; decide) (Nat.le_of_ble_eq_true rfl) ?_
  refine ka_aload_n d_X5_init_21 rfl rfl 0 rfl ?_
  refine ka_iconst (v := 4) d_X5_init_22 rfl (by decide) ?_
  refine ka_newa (t := 0) (n := 4) (mc := 8) (ms := 2574) d_X5_init_23 rfl (by decide) rfl (ka_tm 63 (by decide +kernel) rfl) (by decide) (by decide) (by decide) (by decide) rfl rfl ?_
  refine ka_putF (ci := 5) (k := 5) (ty := (.array .int)) d_X5_init_25 rfl (by decide) rfl rfl in_X5 tyX5_ok nmX5 (by decide) fl_X5_18 rfl rfl rfl rfl (fun φ => rfl) (fun φ => rfl) (fun j e => by cases e; decide) (Nat.le_of_ble_eq_true rfl) ?_
  refine ka_aload_n d_X5_init_28 rfl rfl 0 rfl ?_
  refine ka_sipush (v := 513) d_X5_init_29 rfl (by decide) ?_
  refine ka_newa (t := 0) (n := 513) (mc := 7) (ms := 2061) d_X5_init_32 rfl (by decide) rfl (ka_tm 63 (by decide +kernel) rfl) (by decide) (by decide) (by decide) (by decide) rfl rfl ?_
  refine ka_putF (ci := 5) (k := 7) (ty := (.array .int)) d_X5_init_34 rfl (by decide) rfl rfl in_X5 tyX5_ok nmX5 (by decide) fl_X5_21 rfl rfl rfl rfl (fun φ => rfl) (fun φ => rfl) (fun j e => by cases e; decide) (Nat.le_of_ble_eq_true rfl) ?_
  refine ka_aload_n d_X5_init_37 rfl rfl 0 rfl ?_
  refine ka_sipush (v := 513) d_X5_init_38 rfl (by decide) ?_
  refine ka_newa (t := 0) (n := 513) (mc := 6) (ms := 1548) d_X5_init_41 rfl (by decide) rfl (ka_tm 63 (by decide +kernel) rfl) (by decide) (by decide) (by decide) (by decide) rfl rfl ?_
  refine ka_putF (ci := 5) (k := 8) (ty := (.array .int)) d_X5_init_43 rfl (by decide) rfl rfl in_X5 tyX5_ok nmX5 (by decide) fl_X5_24 rfl rfl rfl rfl (fun φ => rfl) (fun φ => rfl) (fun j e => by cases e; decide) (Nat.le_of_ble_eq_true rfl) ?_
  refine ka_aload_n d_X5_init_46 rfl rfl 0 rfl ?_
  refine ka_sipush (v := 1026) d_X5_init_47 rfl (by decide) ?_
  refine ka_newa (t := 0) (n := 1026) (mc := 5) (ms := 522) d_X5_init_50 rfl (by decide) rfl (ka_tm 63 (by decide +kernel) rfl) (by decide) (by decide) (by decide) (by decide) rfl rfl ?_
  refine ka_putF (ci := 5) (k := 9) (ty := (.array .int)) d_X5_init_52 rfl (by decide) rfl rfl in_X5 tyX5_ok nmX5 (by decide) fl_X5_27 rfl rfl rfl rfl (fun φ => rfl) (fun φ => rfl) (fun j e => by cases e; decide) (Nat.le_of_ble_eq_true rfl) ?_
  refine ka_aload_n d_X5_init_55 rfl rfl 0 rfl ?_
  refine ka_sipush (v := 514) d_X5_init_56 rfl (by decide) ?_
  refine ka_newa (t := 0) (n := 514) (mc := 4) (ms := 8) d_X5_init_59 rfl (by decide) rfl (ka_tm 63 (by decide +kernel) rfl) (by decide) (by decide) (by decide) (by decide) rfl rfl ?_
  refine ka_putF (ci := 5) (k := 10) (ty := (.array .int)) d_X5_init_61 rfl (by decide) rfl rfl in_X5 tyX5_ok nmX5 (by decide) fl_X5_30 rfl rfl rfl rfl (fun φ => rfl) (fun φ => rfl) (fun j e => by cases e; decide) (Nat.le_of_ble_eq_true rfl) ?_
  refine ka_aload_n d_X5_init_64 rfl rfl 0 rfl ?_
  refine ka_iconst (v := 2) d_X5_init_65 rfl (by decide) ?_
  refine ka_newa (t := 0) (n := 2) (mc := 3) (ms := 6) d_X5_init_66 rfl (by decide) rfl (ka_tm 63 (by decide +kernel) rfl) (by decide) (by decide) (by decide) (by decide) rfl rfl ?_
  refine ka_putF (ci := 5) (k := 11) (ty := (.array .int)) d_X5_init_68 rfl (by decide) rfl rfl in_X5 tyX5_ok nmX5 (by decide) fl_X5_33 rfl rfl rfl rfl (fun φ => rfl) (fun φ => rfl) (fun j e => by cases e; decide) (Nat.le_of_ble_eq_true rfl) ?_
  refine ka_aload_n d_X5_init_71 rfl rfl 0 rfl ?_
  refine ka_iconst (v := 2) d_X5_init_72 rfl (by decide) ?_
  refine ka_newa (t := 0) (n := 2) (mc := 2) (ms := 4) d_X5_init_73 rfl (by decide) rfl (ka_tm 63 (by decide +kernel) rfl) (by decide) (by decide) (by decide) (by decide) rfl rfl ?_
  refine ka_putF (ci := 5) (k := 12) (ty := (.array .int)) d_X5_init_75 rfl (by decide) rfl rfl in_X5 tyX5_ok nmX5 (by decide) fl_X5_36 rfl rfl rfl rfl (fun φ => rfl) (fun φ => rfl) (fun j e => by cases e; decide) (Nat.le_of_ble_eq_true rfl) ?_
  refine ka_aload_n d_X5_init_78 rfl rfl 0 rfl ?_
  refine ka_iconst (v := 2) d_X5_init_79 rfl (by decide) ?_
  refine ka_newa (t := 0) (n := 2) (mc := 1) (ms := 2) d_X5_init_80 rfl (by decide) rfl (ka_tm 63 (by decide +kernel) rfl) (by decide) (by decide) (by decide) (by decide) rfl rfl ?_
  refine ka_putF (ci := 5) (k := 13) (ty := (.array .int)) d_X5_init_82 rfl (by decide) rfl rfl in_X5 tyX5_ok nmX5 (by decide) fl_X5_39 rfl rfl rfl rfl (fun φ => rfl) (fun φ => rfl) (fun j e => by cases e; decide) (Nat.le_of_ble_eq_true rfl) ?_
  refine ka_aload_n d_X5_init_85 rfl rfl 0 rfl ?_
  refine ka_iconst (v := 2) d_X5_init_86 rfl (by decide) ?_
  refine ka_newa (t := 1) (n := 2) (mc := 0) (ms := 0) d_X5_init_87 rfl (by decide) rfl (ka_tm 64 (by decide +kernel) rfl) (by decide) (by decide) (by decide) (by decide) rfl rfl ?_
  refine ka_putF (ci := 5) (k := 14) (ty := (.array .long)) d_X5_init_89 rfl (by decide) rfl rfl in_X5 tyX5_ok nmX5 (by decide) fl_X5_42 rfl rfl rfl rfl (fun φ => rfl) (fun φ => rfl) (fun j e => by cases e; decide) (Nat.le_of_ble_eq_true rfl) ?_
  refine ka_aload_n d_X5_init_92 rfl rfl 0 rfl ?_
  refine ka_iconst (v := 1) d_X5_init_93 rfl (by decide) ?_
  refine ka_iload_n d_X5_init_94 rfl rfl 1 rfl ?_
  refine ka_iconst (v := 1) d_X5_init_95 rfl (by decide) ?_
  refine ka_isub d_X5_init_96 rfl ?_
  refine ka_sipush (v := 511) d_X5_init_97 rfl (by decide) ?_
  refine ka_iand d_X5_init_100 rfl ?_
  refine ka_iadd d_X5_init_101 rfl ?_
  refine ka_putF (ci := 5) (k := 1) (ty := .int) d_X5_init_102 rfl (by decide) rfl rfl in_X5 tyX5_ok nmX5 (by decide) fl_X5_46 rfl rfl rfl rfl (fun φ => rfl) (fun φ => rfl) (fun j e => by cases e) (Nat.le_of_ble_eq_true rfl) ?_
  exact ka_vret d_X5_init_105 rfl ⟨rfl, rfl, rfl⟩
