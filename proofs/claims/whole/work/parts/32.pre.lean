theorem d_L_law_0 : decode cL_law 0 = .ok (.new 8, 3) := by decide +kernel
theorem d_L_law_3 : decode cL_law 3 = .ok (.dup, 1) := by decide +kernel
theorem d_L_law_4 : decode cL_law 4 = .ok (.aload_n 0, 1) := by decide +kernel
theorem d_L_law_5 : decode cL_law 5 = .ok (.iconst 0, 1) := by decide +kernel
theorem d_L_law_6 : decode cL_law 6 = .ok (.invokestatic 65, 3) := by decide +kernel
theorem d_L_law_9 : decode cL_law 9 = .ok (.invokespecial 71, 3) := by decide +kernel
theorem d_L_law_12 : decode cL_law 12 = .ok (.astore_n 1, 1) := by decide +kernel
theorem d_L_law_13 : decode cL_law 13 = .ok (.new 74, 3) := by decide +kernel
theorem d_L_law_16 : decode cL_law 16 = .ok (.dup, 1) := by decide +kernel
theorem d_L_law_17 : decode cL_law 17 = .ok (.aload_n 0, 1) := by decide +kernel
theorem d_L_law_18 : decode cL_law 18 = .ok (.iconst 0, 1) := by decide +kernel
theorem d_L_law_19 : decode cL_law 19 = .ok (.invokestatic 65, 3) := by decide +kernel
theorem d_L_law_22 : decode cL_law 22 = .ok (.invokespecial 76, 3) := by decide +kernel
theorem d_L_law_25 : decode cL_law 25 = .ok (.astore_n 2, 1) := by decide +kernel
theorem d_L_law_26 : decode cL_law 26 = .ok (.iconst 1, 1) := by decide +kernel
theorem d_L_law_27 : decode cL_law 27 = .ok (.newarray .long, 2) := by decide +kernel
theorem d_L_law_29 : decode cL_law 29 = .ok (.astore_n 3, 1) := by decide +kernel
theorem d_L_law_30 : decode cL_law 30 = .ok (.iconst 1, 1) := by decide +kernel
theorem d_L_law_31 : decode cL_law 31 = .ok (.istore 4, 2) := by decide +kernel
def km_cell (L : Nat) (xs : Nat → Int32) (x : Int32) : Int32 := if nI L ≤ x then 0 else xs x.toNatClampNeg
theorem c_cell {L : Nat} {xs : Nat → Int32} {h : ka_H} {N : Nat} {x : Int32} (hv : ¬ nI L ≤ x → vp_in x L) : ka_M L xs mL_cell rm_L_cell [.ref ka_S, .int x] h N (fun o h' N' => o = .inl (some (.int (km_cell L xs x))) ∧ h' = h ∧ N' = N) := by
  refine ka_body (by decide) (Nat.le_of_ble_eq_true rfl) ?_
  refine sgh_L_cell_0 ?_ hv ?_
  · intro c
    exact sgh_L_cell_13 ⟨by rw [km_cell, if_pos c], rfl, rfl⟩
  · intro c
    exact sgh_L_cell_13 ⟨by rw [km_cell, if_neg c], rfl, rfl⟩
/-- the state of the system when it is made -/
def ks_0 (x : Int32) : ks_St := (fun i => if i = 0 then 1 + km_fm (x - 1) 512 else if i = 6 then 1 else if i = 9 then 3 else if i = 10 then 15 else if i = 11 then -9 else if i = 15 then 1 + ((x - 1) &&& 511) else 0, fun j => if j = 0 then 128 else 0, fun _ _ => 0, fun _ _ => 0)
theorem law_v0 {L : Nat} (hL : L ≤ 2561) : ¬ nI L ≤ (0 : Int32) → vp_in 0 L := fun h => by
  have h1 : 0 < L := by
    rcases Nat.eq_zero_or_pos L with e | e
    · subst e
      exact absurd (by decide) h
    · exact e
  exact vp_in_nI h1 (by omega)
set_option maxRecDepth 4000 in
theorem law_pre {L : Nat} {xs : Nat → Int32} {h : ka_H} {P : ka_O → ks_St → Prop} (hL : L ≤ 2561) (k : ks_W L xs mL_law rm_L_law 33 [(0, .ref ka_S), (1, .ref 0), (2, .ref 17), (3, .ref 29), (4, .int 1)] [] (ks_0 (km_cell L xs 0)) 600994 6977028 P) : ka_W L xs mL_law rm_L_law 0 [(0, .ref ka_S)] [] h 0 601024 7293000 (ks_Q P) := by
  refine ka_less (mc' := 601023 + 1) (ms' := 7292991 + 9) (Nat.le_of_ble_eq_true rfl) (Nat.le_of_ble_eq_true rfl) ?_
  refine ka_new (ci := 4) (fs := [.int 0, .null, .null, .int 0, .null, .null, .null, .null, .null]) (mc := 601023) (ms := 7292991) d_L_law_0 rfl in_X4 tyX4_ok rfl (ka_tm 18 (by decide +kernel) rfl) (ka_tm 19 (by decide +kernel) rfl) (ka_tm 1 (by decide +kernel) rfl) (by intro j hj; rcases (show j = 0 ∨ j = 1 ∨ j = 2 ∨ j = 3 ∨ j = 4 ∨ j = 5 ∨ j = 6 ∨ j = 7 ∨ j = 8 by omega) with rfl | rfl | rfl | rfl | rfl | rfl | rfl | rfl | rfl <;> rfl) rfl (by decide) rfl rfl ?_
  refine ka_dup d_L_law_3 rfl rfl ?_
  refine ka_aload_n d_L_law_4 rfl rfl 0 rfl ?_
  refine ka_iconst (v := 0) d_L_law_5 rfl (by decide) ?_
  refine ka_callS (As := [.ref ka_S, .int 0]) (st := [.ref 0, .ref 0]) (mc' := 601023) (ms' := 7292991) d_L_law_6 rfl rfl lk_L_65 ⟨by decide, by decide⟩ (Nat.le_of_ble_eq_true rfl) ⟨Nat.le_refl _, Nat.le_refl _⟩ (c_cell (law_v0 hL)) (fun x h' N' e => e.2.2) (fun v h' e => ?_) (fun E h' e => by obtain ⟨e, -⟩ := e; cases e)
  obtain ⟨e1, e2, -⟩ := e; cases e1; subst e2
  refine ka_callI (As := [.int (km_cell L xs 0)]) (st := [.ref 0]) (mc' := 601007) (ms' := 7287422) d_L_law_9 rfl rfl lk_L_71 rfl ⟨by decide, by decide⟩ (Nat.le_of_ble_eq_true rfl) ⟨Nat.le_of_ble_eq_true rfl, Nat.le_of_ble_eq_true rfl⟩ (c_X4_init rfl) (fun E h' N' e => by obtain ⟨e, -⟩ := e; cases e) (fun v h' N' e => by obtain ⟨-, e, -⟩ := e; subst e; decide) rfl rfl (fun v h' N' e => ?_)
  obtain ⟨e1, e2, e3⟩ := e; cases e1; subst e2; subst e3
  refine ka_astore_n (ls' := [(1, .ref 0), (0, .ref ka_S)]) d_L_law_12 rfl rfl (by decide) rfl ?_
  refine ka_less (mc' := 601006 + 1) (ms' := 7287407 + 15) (Nat.le_of_ble_eq_true rfl) (Nat.le_of_ble_eq_true rfl) ?_
  refine ka_new (ci := 5) (fs := [.int 0, .int 0, .int 0, .null, .null, .null, .int 0, .null, .null, .null, .null, .null, .null, .null, .null]) (mc := 601006) (ms := 7287407) d_L_law_13 rfl in_X5 tyX5_ok rfl (ka_tm 699 (by decide +kernel) rfl) (ka_tm 700 (by decide +kernel) rfl) (ka_tm 6 (by decide +kernel) rfl) (by intro j hj; rcases (show j = 0 ∨ j = 1 ∨ j = 2 ∨ j = 3 ∨ j = 4 ∨ j = 5 ∨ j = 6 ∨ j = 7 ∨ j = 8 ∨ j = 9 ∨ j = 10 ∨ j = 11 ∨ j = 12 ∨ j = 13 ∨ j = 14 by omega) with rfl | rfl | rfl | rfl | rfl | rfl | rfl | rfl | rfl | rfl | rfl | rfl | rfl | rfl | rfl <;> rfl) rfl (by decide) rfl rfl ?_
  refine ka_dup d_L_law_16 rfl rfl ?_
  refine ka_aload_n d_L_law_17 rfl rfl 1 rfl ?_
  refine ka_iconst (v := 0) d_L_law_18 rfl (by decide) ?_
  refine ka_callS (As := [.ref ka_S, .int 0]) (st := [.ref 17, .ref 17]) (mc' := 601006) (ms' := 7287407) d_L_law_19 rfl rfl lk_L_65 ⟨by decide, by decide⟩ (Nat.le_of_ble_eq_true rfl) ⟨Nat.le_refl _, Nat.le_refl _⟩ (c_cell (law_v0 hL)) (fun x h' N' e => e.2.2) (fun v h' e => ?_) (fun E h' e => by obtain ⟨e, -⟩ := e; cases e)
  obtain ⟨e1, e2, -⟩ := e; cases e1; subst e2
  refine ka_callI (As := [.int (km_cell L xs 0)]) (st := [.ref 17]) (mc' := 600995) (ms' := 6977029) d_L_law_22 rfl rfl lk_L_76 rfl ⟨by decide, by decide⟩ (Nat.le_of_ble_eq_true rfl) ⟨Nat.le_of_ble_eq_true rfl, Nat.le_of_ble_eq_true rfl⟩ (c_X5_init rfl) (fun E h' N' e => by obtain ⟨e, -⟩ := e; cases e) (fun v h' N' e => by obtain ⟨-, e, -⟩ := e; subst e; decide) rfl rfl (fun v h' N' e => ?_)
  obtain ⟨e1, e2, e3⟩ := e; cases e1; subst e2; subst e3
  refine ka_astore_n (ls' := [(2, .ref 17), (1, .ref 0), (0, .ref ka_S)]) d_L_law_25 rfl rfl (by decide) rfl ?_
  refine ka_iconst (v := 1) d_L_law_26 rfl (by decide) ?_
  refine ka_less (mc' := 600994 + 1) (ms' := 6977028 + 1) (Nat.le_of_ble_eq_true rfl) (Nat.le_of_ble_eq_true rfl) ?_
  refine ka_newa (t := 1) (n := 1) (mc := 600994) (ms := 6977028) d_L_law_27 rfl (by decide) rfl (ka_tm 64 (by decide +kernel) rfl) (by decide) (by decide) (by decide) (by decide) rfl rfl ?_
  refine ka_astore_n (ls' := [(3, .ref 29), (2, .ref 17), (1, .ref 0), (0, .ref ka_S)]) d_L_law_29 rfl rfl (by decide) rfl ?_
  refine ka_iconst (v := 1) d_L_law_30 rfl (by decide) ?_
  refine ka_istore (ls' := [(4, .int 1), (3, .ref 29), (2, .ref 17), (1, .ref 0), (0, .ref ka_S)]) d_L_law_31 rfl (by decide) rfl ?_
  refine ka_sub [4, 3, 2, 1, 0] rfl ?_
  refine ka_ext (h2 := kh (ks_0 (km_cell L xs 0))) (fun k hk => ?_) k
  match k, hk with
  | 0, _ => rfl
  | 1, _ => rfl
  | 2, _ => rfl
  | 3, _ => rfl
  | 4, _ => rfl
  | 5, _ => rfl
  | 6, _ => rfl
  | 7, _ => rfl
  | 8, _ => rfl
  | 9, _ => rfl
  | 10, _ => rfl
  | 11, _ => rfl
  | 12, _ => rfl
  | 13, _ => rfl
  | 14, _ => rfl
  | 15, _ => rfl
  | 16, _ => rfl
  | 17, _ => rfl
  | 18, _ => rfl
  | 19, _ => rfl
  | 20, _ => rfl
  | 21, _ => rfl
  | 22, _ => rfl
  | 23, _ => rfl
  | 24, _ => rfl
  | 25, _ => rfl
  | 26, _ => rfl
  | 27, _ => rfl
  | 28, _ => rfl
  | 29, _ => rfl
  | k + 30, hk => exact absurd hk (by omega)
