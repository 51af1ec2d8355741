/-! a static call of a method with a table of its own (the law's own methods) -/
def ka_lkX (own : String) (idx : Nat) (M2 : ka_Md) (n : Nat) : Prop :=
  (∃ a r, M2.2.2.2.2 = a :: r) ∧ Cond.methodLink own idx M2.1 ∈ ka_T ∧ Cond.static M2.1 ∈ ka_T ∧ Cond.initialized M2.1.cls ∈ ka_T ∧ Cond.codeWith M2.1 M2.2.1 M2.2.2.1 M2.2.2.2.1 M2.2.2.2.2 ∈ ka_T ∧ (M2.1.cls ≠ "java/lang/invoke/MethodHandle" ∧ M2.1.cls ≠ "java/lang/invoke/VarHandle" ∧ (parseMethodDescriptor M2.1.desc).map (fun d => d.parameters.length) = some n)
section KX
variable {L : Nat} {xs : Nat → Int32} {M : ka_Md} {R : Room} {pc q : Nat} {ls : List (Nat × Value)} {st : List Value} {h : ka_H} {N mc ms : Nat} {Q : ka_O → ka_H → Nat → Prop}
theorem ka_callSX {M2 : ka_Md} {R2 : Room} {As stk : List Value} {idx : Nat} {Q2 : ka_O → ka_H → Nat → Prop} {mc' ms' : Nat} (hd : decode M.2.1 pc = .ok (.invokestatic idx, 3)) (hn : pc + 3 = q) (hstk : As.reverse ++ st = stk) (hlk : ka_lkX M.1.cls idx M2 As.length)
    (hR : R2.frames + 1 ≤ R.frames ∧ 8 + (M2.2.2.1 + 11) + R2.locals ≤ R.locals) (hW : (st.map fun v => v.category).sum ≤ 8) (hm : mc' + R2.cells ≤ mc ∧ ms' + R2.slots ≤ ms) (hK : ka_M L xs M2 R2 As h N Q2) (hN2 : ∀ x h' N', Q2 x h' N' → N' = N)
    (kr : ∀ v h', Q2 (.inl v) h' N → ka_W L xs M R q ls (v.toList ++ st) h' N mc' ms' Q) (kx : ∀ E h', Q2 (.inr E) h' N → M.2.2.2.2 = [] ∧ Q (.inr E) h' N) : ka_W L xs M R pc ls stk h N mc ms Q := by
  subst hn; subst hstk
  intro l D τ b A φ0 N0 p e s m args below meth c H locs cells slots φ rls C0 hP hD hS hw hN hφ hb hl hmc hms
  obtain ⟨hx, hcb, hml, hr, hlk2, hnm, htb, hown, hts, htr, hU⟩ := id C0
  obtain ⟨⟨ha, hr9, hM2⟩, k1, k2, k3, k4, k5⟩ := hlk
  have hws : ka_ws M2 = Cond.codeWith M2.1 M2.2.1 M2.2.2.1 M2.2.2.2.1 M2.2.2.2.2 :: ka_T := by unfold ka_ws; rw [hM2]
  have hc : Cond.codeWith M2.1 M2.2.1 M2.2.2.1 M2.2.2.2.1 M2.2.2.2.2 ∈ ka_ws M2 := by rw [hws]; exact List.mem_cons_self
  have hG : GoodIn ka_T (ka_ws M2) := by rw [hws]; exact ka_good k4
  have cw : vx_CSW R s args M.1.cls idx M2.1 M2.2.1 M2.2.2.1 M2.2.2.2.1 M2.2.2.2.2 (ka_ws M2) R2 R2.cells R2.slots As.length :=
    ⟨⟨rfl, rfl, hR.1, hR.2, pay_in hts hG, hc⟩, hts _ k4, hts _ k3, ⟨k5.1, k5.2.1⟩, fun sig h => by
      have h2 := k5.2.2
      rw [h] at h2
      exact (Option.some.inj h2).symm, hts _ k1, hts _ k2⟩
  intro T0 hT X
  have hrun := vx_runSX (As := As.map (ka_v φ)) (rest := st.map (ka_v φ)) (g := F0 m pc rls (List.map (ka_v φ) (As.reverse ++ st))) (e := e) (below := below) (meth := meth) (locs := locs) (cells := cells) (slots := slots) (H := H)
    ⟨hx, hcb, hml, hown, hts⟩ (hK l D τ b A φ htr) cw
    ⟨ka_blind, fun U hU1 hW1 => ⟨rfl, hU.moved hW1 hS hU1, hb, by rw [hU1]; exact hP, hD, hw⟩⟩ rfl (by rw [List.length_map]) hl.1
    (by simp) (by rw [ka_st_cat]; have h0 : (F0 m pc rls (List.map (ka_v φ) (As.reverse ++ st))).monitorRoom = 0 := rfl
                  rw [h0]; omega) hd ⟨by omega, by omega⟩ T0 hT X
  rcases hrun with ⟨v, st₀, t, T', Lz, h0, X', hL, e1, e2, ⟨⟨v', h', N', φ', ev, hq2, hB⟩, hF⟩, stp⟩ | ⟨z, st₀, t, T', Lz, E, ce, h0, X', hL, e1, e2, ⟨⟨h', N', φ', hq2, hB⟩, hF⟩, hce, hcv, hcl, stp⟩
  · have eN := hN2 _ _ _ hq2
    subst eN
    obtain ⟨ep, hP1, hD1, hw1, hS1⟩ := ka_back h0 e1 hS hL hF hB
    subst ep
    cases ev
    obtain ⟨t2, a1, b1⟩ := kr v' h' hq2 l D τ b A φ0 N0 p e s m args below meth c T'.heap (locs ++ Lz) (cells + R2.cells) (slots + R2.slots) φ' rls C0 hP1 hD1 hS1 hw1 hN hφ hb hl (by omega) (by omega) T' rfl X'
    refine ⟨t2, stp t2 ?_, b1⟩
    have es : List.map (ka_v φ') (v'.toList ++ st) = (v'.map (ka_v φ')).toList ++ st.map (ka_v φ') := by cases v' <;> simp
    rw [es] at a1
    exact a1
  · have eN := hN2 _ _ _ hq2
    subst eN
    obtain ⟨ep, hP1, hD1, hw1, hS1⟩ := ka_back h0 e1 hS hL hF hB
    subst ep
    obtain ⟨hMn, hQx⟩ := kx E h' hq2
    obtain ⟨t2, a1, b1⟩ := ka_thrown (rls := rls) (rest := st.map (ka_v φ')) C0 hMn hP1 hD1 hS1 hw1 hN hφ hQx (by rw [e1]; exact hce) hcv hcl (by omega) (by omega) T' rfl X'
    exact ⟨t2, stp.trans a1, b1⟩
/-- things beyond N don't count -/
theorem ka_ext {h2 : ka_H} (he : ∀ k, k < N → h k = h2 k) (k : ka_W L xs M R pc ls st h2 N mc ms Q) : ka_W L xs M R pc ls st h N mc ms Q := by
  intro l D τ b A φ0 N0 p e s m args below meth c H locs cells slots φ rls C0 hP hD hS hw hN hφ hb hl hmc hms
  have e1 : ka_w φ τ h N = ka_w φ τ h2 N := List.map_congr_left (fun k hk => by rw [he k (List.mem_range.mp hk)])
  rw [e1] at hP hD
  exact k l D τ b A φ0 N0 p e s m args below meth c H locs cells slots φ rls C0 hP hD hS (fun k hk ci fs h3 j hj => hw k hk ci fs ((he k hk).trans h3) j hj) hN hφ hb hl hmc hms
theorem ks_callSX {σ : ks_St} {P : ka_O → ks_St → Prop} {M2 : ka_Md} {R2 : Room} {As stk : List Value} {idx : Nat} {P2 : ka_O → ks_St → Prop} {mc' ms' : Nat} (hd : decode M.2.1 pc = .ok (.invokestatic idx, 3)) (hn : pc + 3 = q) (hstk : As.reverse ++ st = stk) (hlk : ka_lkX M.1.cls idx M2 As.length) (hR : R2.frames + 1 ≤ R.frames ∧ 8 + (M2.2.2.1 + 11) + R2.locals ≤ R.locals) (hW : (st.map fun v => v.category).sum ≤ 8) (hm : mc' + R2.cells ≤ mc ∧ ms' + R2.slots ≤ ms) (hK : ks_M L xs M2 R2 As σ P2)
    (kr : ∀ v σ', P2 (.inl v) σ' → ks_W L xs M R q ls (v.toList ++ st) σ' mc' ms' P) (kx : ∀ E σ', P2 (.inr E) σ' → M.2.2.2.2 = [] ∧ P (.inr E) σ') : ks_W L xs M R pc ls stk σ mc ms P :=
  ka_callSX hd hn hstk hlk hR hW hm hK (fun x h' N' hq => hq.1) (fun v h' hq => by obtain ⟨-, σ', rfl, hq⟩ := hq; exact kr v σ' hq) (fun E h' hq => by obtain ⟨-, σ', rfl, hq⟩ := hq; exact ⟨(kx E σ' hq).1, rfl, σ', rfl, (kx E σ' hq).2⟩)
end KX
theorem lk_L_77 : ka_lkX RL 77 mL_word 2 := ⟨⟨_, _, rfl⟩, ka_tm 165 (by decide +kernel) rfl, ka_tm 166 (by decide +kernel) rfl, ka_tm 0 (by decide +kernel) rfl, ka_tm 167 (by decide +kernel) rfl, by decide +kernel, by decide +kernel, by decide +kernel⟩
theorem lk_L_86 : ka_lkX RL 86 mL_set 5 := ⟨⟨_, _, rfl⟩, ka_tm 263 (by decide +kernel) rfl, ka_tm 264 (by decide +kernel) rfl, ka_tm 0 (by decide +kernel) rfl, ka_tm 265 (by decide +kernel) rfl, by decide +kernel, by decide +kernel, by decide +kernel⟩
theorem lk_L_90 : ka_lkX RL 90 mL_op 5 := ⟨⟨_, _, rfl⟩, ka_tm 302 (by decide +kernel) rfl, ka_tm 303 (by decide +kernel) rfl, ka_tm 0 (by decide +kernel) rfl, ka_tm 304 (by decide +kernel) rfl, by decide +kernel, by decide +kernel, by decide +kernel⟩
theorem lk_L_94 : ka_lkX RL 94 mL_flag 3 := ⟨⟨_, _, rfl⟩, ka_tm 508 (by decide +kernel) rfl, ka_tm 509 (by decide +kernel) rfl, ka_tm 0 (by decide +kernel) rfl, ka_tm 510 (by decide +kernel) rfl, by decide +kernel, by decide +kernel, by decide +kernel⟩
theorem lk_L_98 : ka_lkX RL 98 mL_field 5 := ⟨⟨_, _, rfl⟩, ka_tm 516 (by decide +kernel) rfl, ka_tm 517 (by decide +kernel) rfl, ka_tm 0 (by decide +kernel) rfl, ka_tm 518 (by decide +kernel) rfl, by decide +kernel, by decide +kernel, by decide +kernel⟩
theorem lk_L_101 : ka_lkX RL 101 mL_join 4 := ⟨⟨_, _, rfl⟩, ka_tm 525 (by decide +kernel) rfl, ka_tm 526 (by decide +kernel) rfl, ka_tm 0 (by decide +kernel) rfl, ka_tm 527 (by decide +kernel) rfl, by decide +kernel, by decide +kernel, by decide +kernel⟩
theorem lk_L_105 : ka_lkX RL 105 mL_extend 5 := ⟨⟨_, _, rfl⟩, ka_tm 534 (by decide +kernel) rfl, ka_tm 535 (by decide +kernel) rfl, ka_tm 0 (by decide +kernel) rfl, ka_tm 536 (by decide +kernel) rfl, by decide +kernel, by decide +kernel, by decide +kernel⟩
theorem lk_L_109 : ka_lkX RL 109 mL_compare 5 := ⟨⟨_, _, rfl⟩, ka_tm 551 (by decide +kernel) rfl, ka_tm 552 (by decide +kernel) rfl, ka_tm 0 (by decide +kernel) rfl, ka_tm 553 (by decide +kernel) rfl, by decide +kernel, by decide +kernel, by decide +kernel⟩
theorem lk_L_112 : ka_lkX RL 112 mL_bit 4 := ⟨⟨_, _, rfl⟩, ka_tm 559 (by decide +kernel) rfl, ka_tm 560 (by decide +kernel) rfl, ka_tm 0 (by decide +kernel) rfl, ka_tm 561 (by decide +kernel) rfl, by decide +kernel, by decide +kernel, by decide +kernel⟩
theorem lk_L_115 : ka_lkX RL 115 mL_limb 4 := ⟨⟨_, _, rfl⟩, ka_tm 567 (by decide +kernel) rfl, ka_tm 568 (by decide +kernel) rfl, ka_tm 0 (by decide +kernel) rfl, ka_tm 569 (by decide +kernel) rfl, by decide +kernel, by decide +kernel, by decide +kernel⟩
theorem lk_L_118 : ka_lkX RL 118 mL_real 6 := ⟨⟨_, _, rfl⟩, ka_tm 574 (by decide +kernel) rfl, ka_tm 575 (by decide +kernel) rfl, ka_tm 0 (by decide +kernel) rfl, ka_tm 576 (by decide +kernel) rfl, by decide +kernel, by decide +kernel, by decide +kernel⟩
theorem lk_L_126 : ka_lkX RL 126 mL_count 3 := ⟨⟨_, _, rfl⟩, ka_tm 679 (by decide +kernel) rfl, ka_tm 680 (by decide +kernel) rfl, ka_tm 0 (by decide +kernel) rfl, ka_tm 681 (by decide +kernel) rfl, by decide +kernel, by decide +kernel, by decide +kernel⟩
theorem lk_L_129 : ka_lkX RL 129 mL_width 3 := ⟨⟨_, _, rfl⟩, ka_tm 692 (by decide +kernel) rfl, ka_tm 693 (by decide +kernel) rfl, ka_tm 0 (by decide +kernel) rfl, ka_tm 694 (by decide +kernel) rfl, by decide +kernel, by decide +kernel, by decide +kernel⟩
theorem cl_L_13 : Cond.classLink RL 13 "java/lang/UnsupportedOperationException" ∈ ka_T := ka_tm 168 (by decide +kernel) rfl
theorem cl_L_19 : Cond.classLink RL 19 "java/lang/ArrayIndexOutOfBoundsException" ∈ ka_T := ka_tm 266 (by decide +kernel) rfl
theorem cl_L_25 : Cond.classLink RL 25 "java/lang/IllegalArgumentException" ∈ ka_T := ka_tm 305 (by decide +kernel) rfl
theorem cl_L_27 : Cond.classLink RL 27 "java/lang/ArithmeticException" ∈ ka_T := ka_tm 306 (by decide +kernel) rfl
theorem ct_word_uoe : ka_ctc mL_word 3 "java/lang/UnsupportedOperationException" 1 := by
  refine ⟨[], ⟨0, 8, 11, 13⟩, [], rfl, ?_, by decide, by decide, cl_L_13, by decide, Or.inl ⟨1, 2, by decide +kernel, by decide, by decide +kernel, by decide, by decide +kernel⟩⟩
  intro z hz
  cases hz
theorem ct_set_aio : ka_ctc mL_set 7 "java/lang/ArrayIndexOutOfBoundsException" 1 := by
  refine ⟨[], ⟨0, 19, 22, 19⟩, [], rfl, ?_, by decide, by decide, cl_L_19, by decide, Or.inr ⟨1, 6, by decide +kernel, by decide, by decide +kernel, by decide, by decide +kernel⟩⟩
  intro z hz
  cases hz
theorem ct_op_aio : ka_ctc mL_op 7 "java/lang/ArrayIndexOutOfBoundsException" 1 := by
  refine ⟨[], ⟨0, 12, 15, 19⟩, [⟨0, 12, 19, 25⟩, ⟨0, 12, 23, 27⟩, ⟨0, 12, 27, 13⟩], rfl, ?_, by decide, by decide, cl_L_19, by decide, Or.inr ⟨1, 5, by decide +kernel, by decide, by decide +kernel, by decide, by decide +kernel⟩⟩
  intro z hz
  cases hz
theorem ct_op_iae : ka_ctc mL_op 7 "java/lang/IllegalArgumentException" 2 := by
  refine ⟨[⟨0, 12, 15, 19⟩], ⟨0, 12, 19, 25⟩, [⟨0, 12, 23, 27⟩, ⟨0, 12, 27, 13⟩], rfl, ?_, by decide, by decide, cl_L_25, by decide, Or.inr ⟨2, 5, by decide +kernel, by decide, by decide +kernel, by decide, by decide +kernel⟩⟩
  intro z hz
  simp only [List.mem_cons, List.not_mem_nil, or_false] at hz
  rcases hz with rfl
  · exact Or.inr ⟨by decide, _, cl_L_19, by decide⟩
theorem ct_op_ari : ka_ctc mL_op 7 "java/lang/ArithmeticException" 3 := by
  refine ⟨[⟨0, 12, 15, 19⟩, ⟨0, 12, 19, 25⟩], ⟨0, 12, 23, 27⟩, [⟨0, 12, 27, 13⟩], rfl, ?_, by decide, by decide, cl_L_27, by decide, Or.inr ⟨3, 5, by decide +kernel, by decide, by decide +kernel, by decide, by decide +kernel⟩⟩
  intro z hz
  simp only [List.mem_cons, List.not_mem_nil, or_false] at hz
  rcases hz with rfl | rfl
  · exact Or.inr ⟨by decide, _, cl_L_19, by decide⟩
  · exact Or.inr ⟨by decide, _, cl_L_25, by decide⟩
theorem ct_op_uoe : ka_ctc mL_op 7 "java/lang/UnsupportedOperationException" 4 := by
  refine ⟨[⟨0, 12, 15, 19⟩, ⟨0, 12, 19, 25⟩, ⟨0, 12, 23, 27⟩], ⟨0, 12, 27, 13⟩, [], rfl, ?_, by decide, by decide, cl_L_13, by decide, Or.inr ⟨4, 5, by decide +kernel, by decide, by decide +kernel, by decide, by decide +kernel⟩⟩
  intro z hz
  simp only [List.mem_cons, List.not_mem_nil, or_false] at hz
  rcases hz with rfl | rfl | rfl
  · exact Or.inr ⟨by decide, _, cl_L_19, by decide⟩
  · exact Or.inr ⟨by decide, _, cl_L_25, by decide⟩
  · exact Or.inr ⟨by decide, _, cl_L_27, by decide⟩
theorem ct_flag_iae : ka_ctc mL_flag 4 "java/lang/IllegalArgumentException" 1 := by
  refine ⟨[], ⟨0, 9, 12, 25⟩, [], rfl, ?_, by decide, by decide, cl_L_25, by decide, Or.inl ⟨1, 3, by decide +kernel, by decide, by decide +kernel, by decide, by decide +kernel⟩⟩
  intro z hz
  cases hz
theorem ct_field_aio : ka_ctc mL_field 7 "java/lang/ArrayIndexOutOfBoundsException" 1 := by
  refine ⟨[], ⟨0, 12, 15, 19⟩, [⟨0, 12, 19, 25⟩, ⟨0, 12, 23, 13⟩], rfl, ?_, by decide, by decide, cl_L_19, by decide, Or.inr ⟨1, 5, by decide +kernel, by decide, by decide +kernel, by decide, by decide +kernel⟩⟩
  intro z hz
  cases hz
theorem ct_field_iae : ka_ctc mL_field 7 "java/lang/IllegalArgumentException" 2 := by
  refine ⟨[⟨0, 12, 15, 19⟩], ⟨0, 12, 19, 25⟩, [⟨0, 12, 23, 13⟩], rfl, ?_, by decide, by decide, cl_L_25, by decide, Or.inr ⟨2, 5, by decide +kernel, by decide, by decide +kernel, by decide, by decide +kernel⟩⟩
  intro z hz
  simp only [List.mem_cons, List.not_mem_nil, or_false] at hz
  rcases hz with rfl
  · exact Or.inr ⟨by decide, _, cl_L_19, by decide⟩
theorem ct_field_uoe : ka_ctc mL_field 7 "java/lang/UnsupportedOperationException" 3 := by
  refine ⟨[⟨0, 12, 15, 19⟩, ⟨0, 12, 19, 25⟩], ⟨0, 12, 23, 13⟩, [], rfl, ?_, by decide, by decide, cl_L_13, by decide, Or.inr ⟨3, 5, by decide +kernel, by decide, by decide +kernel, by decide, by decide +kernel⟩⟩
  intro z hz
  simp only [List.mem_cons, List.not_mem_nil, or_false] at hz
  rcases hz with rfl | rfl
  · exact Or.inr ⟨by decide, _, cl_L_19, by decide⟩
  · exact Or.inr ⟨by decide, _, cl_L_25, by decide⟩
theorem ct_join_aio : ka_ctc mL_join 5 "java/lang/ArrayIndexOutOfBoundsException" 1 := by
  refine ⟨[], ⟨0, 10, 13, 19⟩, [⟨0, 10, 17, 25⟩, ⟨0, 10, 21, 13⟩], rfl, ?_, by decide, by decide, cl_L_19, by decide, Or.inr ⟨1, 4, by decide +kernel, by decide, by decide +kernel, by decide, by decide +kernel⟩⟩
  intro z hz
  cases hz
theorem ct_join_iae : ka_ctc mL_join 5 "java/lang/IllegalArgumentException" 2 := by
  refine ⟨[⟨0, 10, 13, 19⟩], ⟨0, 10, 17, 25⟩, [⟨0, 10, 21, 13⟩], rfl, ?_, by decide, by decide, cl_L_25, by decide, Or.inr ⟨2, 4, by decide +kernel, by decide, by decide +kernel, by decide, by decide +kernel⟩⟩
  intro z hz
  simp only [List.mem_cons, List.not_mem_nil, or_false] at hz
  rcases hz with rfl
  · exact Or.inr ⟨by decide, _, cl_L_19, by decide⟩
theorem ct_join_uoe : ka_ctc mL_join 5 "java/lang/UnsupportedOperationException" 3 := by
  refine ⟨[⟨0, 10, 13, 19⟩, ⟨0, 10, 17, 25⟩], ⟨0, 10, 21, 13⟩, [], rfl, ?_, by decide, by decide, cl_L_13, by decide, Or.inr ⟨3, 4, by decide +kernel, by decide, by decide +kernel, by decide, by decide +kernel⟩⟩
  intro z hz
  simp only [List.mem_cons, List.not_mem_nil, or_false] at hz
  rcases hz with rfl | rfl
  · exact Or.inr ⟨by decide, _, cl_L_19, by decide⟩
  · exact Or.inr ⟨by decide, _, cl_L_25, by decide⟩
theorem ct_extend_aio : ka_ctc mL_extend 7 "java/lang/ArrayIndexOutOfBoundsException" 1 := by
  refine ⟨[], ⟨0, 12, 15, 19⟩, [⟨0, 12, 19, 25⟩, ⟨0, 12, 23, 13⟩], rfl, ?_, by decide, by decide, cl_L_19, by decide, Or.inr ⟨1, 5, by decide +kernel, by decide, by decide +kernel, by decide, by decide +kernel⟩⟩
  intro z hz
  cases hz
theorem ct_extend_iae : ka_ctc mL_extend 7 "java/lang/IllegalArgumentException" 2 := by
  refine ⟨[⟨0, 12, 15, 19⟩], ⟨0, 12, 19, 25⟩, [⟨0, 12, 23, 13⟩], rfl, ?_, by decide, by decide, cl_L_25, by decide, Or.inr ⟨2, 5, by decide +kernel, by decide, by decide +kernel, by decide, by decide +kernel⟩⟩
  intro z hz
  simp only [List.mem_cons, List.not_mem_nil, or_false] at hz
  rcases hz with rfl
  · exact Or.inr ⟨by decide, _, cl_L_19, by decide⟩
theorem ct_extend_uoe : ka_ctc mL_extend 7 "java/lang/UnsupportedOperationException" 3 := by
  refine ⟨[⟨0, 12, 15, 19⟩, ⟨0, 12, 19, 25⟩], ⟨0, 12, 23, 13⟩, [], rfl, ?_, by decide, by decide, cl_L_13, by decide, Or.inr ⟨3, 5, by decide +kernel, by decide, by decide +kernel, by decide, by decide +kernel⟩⟩
  intro z hz
  simp only [List.mem_cons, List.not_mem_nil, or_false] at hz
  rcases hz with rfl | rfl
  · exact Or.inr ⟨by decide, _, cl_L_19, by decide⟩
  · exact Or.inr ⟨by decide, _, cl_L_25, by decide⟩
theorem ct_compare_aio : ka_ctc mL_compare 7 "java/lang/ArrayIndexOutOfBoundsException" 1 := by
  refine ⟨[], ⟨0, 12, 15, 19⟩, [⟨0, 12, 19, 25⟩], rfl, ?_, by decide, by decide, cl_L_19, by decide, Or.inr ⟨1, 5, by decide +kernel, by decide, by decide +kernel, by decide, by decide +kernel⟩⟩
  intro z hz
  cases hz
theorem ct_compare_iae : ka_ctc mL_compare 7 "java/lang/IllegalArgumentException" 2 := by
  refine ⟨[⟨0, 12, 15, 19⟩], ⟨0, 12, 19, 25⟩, [], rfl, ?_, by decide, by decide, cl_L_25, by decide, Or.inr ⟨2, 5, by decide +kernel, by decide, by decide +kernel, by decide, by decide +kernel⟩⟩
  intro z hz
  simp only [List.mem_cons, List.not_mem_nil, or_false] at hz
  rcases hz with rfl
  · exact Or.inr ⟨by decide, _, cl_L_19, by decide⟩
theorem ct_bit_aio : ka_ctc mL_bit 5 "java/lang/ArrayIndexOutOfBoundsException" 1 := by
  refine ⟨[], ⟨0, 17, 20, 19⟩, [⟨0, 17, 24, 25⟩], rfl, ?_, by decide, by decide, cl_L_19, by decide, Or.inr ⟨1, 4, by decide +kernel, by decide, by decide +kernel, by decide, by decide +kernel⟩⟩
  intro z hz
  cases hz
theorem ct_bit_iae : ka_ctc mL_bit 5 "java/lang/IllegalArgumentException" 2 := by
  refine ⟨[⟨0, 17, 20, 19⟩], ⟨0, 17, 24, 25⟩, [], rfl, ?_, by decide, by decide, cl_L_25, by decide, Or.inr ⟨2, 4, by decide +kernel, by decide, by decide +kernel, by decide, by decide +kernel⟩⟩
  intro z hz
  simp only [List.mem_cons, List.not_mem_nil, or_false] at hz
  rcases hz with rfl
  · exact Or.inr ⟨by decide, _, cl_L_19, by decide⟩
theorem ct_limb_aio : ka_ctc mL_limb 5 "java/lang/ArrayIndexOutOfBoundsException" 1 := by
  refine ⟨[], ⟨0, 9, 12, 19⟩, [], rfl, ?_, by decide, by decide, cl_L_19, by decide, Or.inr ⟨1, 4, by decide +kernel, by decide, by decide +kernel, by decide, by decide +kernel⟩⟩
  intro z hz
  cases hz
theorem ct_real_aio : ka_ctc mL_real 9 "java/lang/ArrayIndexOutOfBoundsException" 1 := by
  refine ⟨[], ⟨0, 14, 17, 19⟩, [⟨0, 14, 21, 25⟩, ⟨0, 14, 25, 13⟩], rfl, ?_, by decide, by decide, cl_L_19, by decide, Or.inr ⟨1, 6, by decide +kernel, by decide, by decide +kernel, by decide, by decide +kernel⟩⟩
  intro z hz
  cases hz
theorem ct_real_iae : ka_ctc mL_real 9 "java/lang/IllegalArgumentException" 2 := by
  refine ⟨[⟨0, 14, 17, 19⟩], ⟨0, 14, 21, 25⟩, [⟨0, 14, 25, 13⟩], rfl, ?_, by decide, by decide, cl_L_25, by decide, Or.inr ⟨2, 6, by decide +kernel, by decide, by decide +kernel, by decide, by decide +kernel⟩⟩
  intro z hz
  simp only [List.mem_cons, List.not_mem_nil, or_false] at hz
  rcases hz with rfl
  · exact Or.inr ⟨by decide, _, cl_L_19, by decide⟩
theorem ct_real_uoe : ka_ctc mL_real 9 "java/lang/UnsupportedOperationException" 3 := by
  refine ⟨[⟨0, 14, 17, 19⟩, ⟨0, 14, 21, 25⟩], ⟨0, 14, 25, 13⟩, [], rfl, ?_, by decide, by decide, cl_L_13, by decide, Or.inr ⟨3, 6, by decide +kernel, by decide, by decide +kernel, by decide, by decide +kernel⟩⟩
  intro z hz
  simp only [List.mem_cons, List.not_mem_nil, or_false] at hz
  rcases hz with rfl | rfl
  · exact Or.inr ⟨by decide, _, cl_L_19, by decide⟩
  · exact Or.inr ⟨by decide, _, cl_L_25, by decide⟩
theorem ct_count_aio : ka_ctc mL_count 4 "java/lang/ArrayIndexOutOfBoundsException" 1 := by
  refine ⟨[], ⟨0, 9, 12, 19⟩, [], rfl, ?_, by decide, by decide, cl_L_19, by decide, Or.inl ⟨1, 3, by decide +kernel, by decide, by decide +kernel, by decide, by decide +kernel⟩⟩
  intro z hz
  cases hz
theorem ct_width_aio : ka_ctc mL_width 4 "java/lang/ArrayIndexOutOfBoundsException" 1 := by
  refine ⟨[], ⟨0, 9, 12, 19⟩, [], rfl, ?_, by decide, by decide, cl_L_19, by decide, Or.inl ⟨1, 3, by decide +kernel, by decide, by decide +kernel, by decide, by decide +kernel⟩⟩
  intro z hz
  cases hz
