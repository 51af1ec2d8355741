theorem d_X1_highest_0 : decode cX1_highest 0 = .ok (.aload_n 1, 1) := by decide +kernel
theorem d_X1_highest_1 : decode cX1_highest 1 = .ok (.aload_n 0, 1) := by decide +kernel
theorem d_X1_highest_2 : decode cX1_highest 2 = .ok (.getfield 24, 3) := by decide +kernel
theorem d_X1_highest_5 : decode cX1_highest 5 = .ok (.iconst 1, 1) := by decide +kernel
theorem d_X1_highest_6 : decode cX1_highest 6 = .ok (.isub, 1) := by decide +kernel
theorem d_X1_highest_7 : decode cX1_highest 7 = .ok (.invokestatic 79, 3) := by decide +kernel
theorem d_X1_highest_10 : decode cX1_highest 10 = .ok (.ireturn, 1) := by decide +kernel
theorem sg_X1_highest_0 {L : Nat} {xs : Nat → Int32} {σ : ks_St} {mc ms : Nat} {P : ka_O → ks_St → Prop} {a1 na1 : Nat} (ha1 : rl_ a1 na1) (k1 : ks_W L xs mX1_highest rm_X1_highest 7 [] [.int ((si_ σ 6) - 1), .ref a1] σ mc ms P) : ks_W L xs mX1_highest rm_X1_highest 0 [(0, .ref 6), (1, .ref a1)] [] σ mc ms P := by
  refine ka_aload_n d_X1_highest_0 rfl rfl 1 rfl ?_
  refine ka_aload_n d_X1_highest_1 rfl rfl 0 rfl ?_
  refine gf_X1_4 d_X1_highest_2 rfl fl_X1_24 ?_
  refine ka_iconst (v := 1) d_X1_highest_5 rfl (by decide) ?_
  refine ka_isub d_X1_highest_6 rfl ?_
  refine ka_sub [] rfl ?_
  exact k1
theorem cs_X1_highest_7 {L : Nat} {xs : Nat → Int32} {σ : ks_St} {mc ms : Nat} {P : ka_O → ks_St → Prop} {f : Int32 → ks_St → Prop} {a1 : Nat} {s1 : Int32} (hK : ks_M L xs mX3_bitOrNought rm_X3_bitOrNought [.ref a1, .int s1] σ (pi_ f)) (kr : ∀ r σ', f r σ' → ks_W L xs mX1_highest rm_X1_highest 10 [] [.int r] σ' mc ms P) : ks_W L xs mX1_highest rm_X1_highest 7 [] [.int s1, .ref a1] σ mc ms P := by
  refine ks_callS (q := 10) (As := [.ref a1, .int s1]) (st := []) d_X1_highest_7 rfl rfl lk_X1_79 ⟨by decide, by decide⟩ (Nat.le_of_ble_eq_true rfl) ⟨Nat.le_refl _, Nat.le_refl _⟩ hK (fun v σ' hq => ?_) (fun E σ' hq => ?_)
  · obtain ⟨r, e, hf⟩ := hq; cases e; exact kr r σ' hf
  · obtain ⟨r, e, hf⟩ := hq; cases e
theorem sg_X1_highest_10 {L : Nat} {xs : Nat → Int32} {σ : ks_St} {mc ms : Nat} {P : ka_O → ks_St → Prop} {s0 : Int32}  (r1 : P (.inl (some (.int s0))) σ) : ks_W L xs mX1_highest rm_X1_highest 10 [] [.int s0] σ mc ms P := by
  exact ks_iret (ty := .int) d_X1_highest_10 rfl rfl r1
theorem d_X1_sum_0 : decode cX1_sum 0 = .ok (.aload_n 1, 1) := by decide +kernel
theorem d_X1_sum_1 : decode cX1_sum 1 = .ok (.aload_n 2, 1) := by decide +kernel
theorem d_X1_sum_2 : decode cX1_sum 2 = .ok (.aload_n 3, 1) := by decide +kernel
theorem d_X1_sum_3 : decode cX1_sum 3 = .ok (.invokestatic 83, 3) := by decide +kernel
theorem d_X1_sum_6 : decode cX1_sum 6 = .ok (.aload_n 0, 1) := by decide +kernel
theorem d_X1_sum_7 : decode cX1_sum 7 = .ok (.aload_n 3, 1) := by decide +kernel
theorem d_X1_sum_8 : decode cX1_sum 8 = .ok (.aload_n 0, 1) := by decide +kernel
theorem d_X1_sum_9 : decode cX1_sum 9 = .ok (.getfield 24, 3) := by decide +kernel
theorem d_X1_sum_12 : decode cX1_sum 12 = .ok (.invokestatic 79, 3) := by decide +kernel
theorem d_X1_sum_15 : decode cX1_sum 15 = .ok (.putfield 9, 3) := by decide +kernel
theorem d_X1_sum_18 : decode cX1_sum 18 = .ok (.aload_n 0, 1) := by decide +kernel
theorem d_X1_sum_19 : decode cX1_sum 19 = .ok (.aload_n 0, 1) := by decide +kernel
theorem d_X1_sum_20 : decode cX1_sum 20 = .ok (.aload_n 1, 1) := by decide +kernel
theorem d_X1_sum_21 : decode cX1_sum 21 = .ok (.invokevirtual 75, 3) := by decide +kernel
theorem d_X1_sum_24 : decode cX1_sum 24 = .ok (.aload_n 0, 1) := by decide +kernel
theorem d_X1_sum_25 : decode cX1_sum 25 = .ok (.aload_n 2, 1) := by decide +kernel
theorem d_X1_sum_26 : decode cX1_sum 26 = .ok (.invokevirtual 75, 3) := by decide +kernel
theorem d_X1_sum_29 : decode cX1_sum 29 = .ok (.if_icmp .ne 20, 3) := by decide +kernel
theorem d_X1_sum_32 : decode cX1_sum 32 = .ok (.aload_n 0, 1) := by decide +kernel
theorem d_X1_sum_33 : decode cX1_sum 33 = .ok (.aload_n 3, 1) := by decide +kernel
theorem d_X1_sum_34 : decode cX1_sum 34 = .ok (.invokevirtual 75, 3) := by decide +kernel
theorem d_X1_sum_37 : decode cX1_sum 37 = .ok (.aload_n 0, 1) := by decide +kernel
theorem d_X1_sum_38 : decode cX1_sum 38 = .ok (.aload_n 1, 1) := by decide +kernel
theorem d_X1_sum_39 : decode cX1_sum 39 = .ok (.invokevirtual 75, 3) := by decide +kernel
theorem d_X1_sum_42 : decode cX1_sum 42 = .ok (.if_icmp .eq 7, 3) := by decide +kernel
theorem d_X1_sum_45 : decode cX1_sum 45 = .ok (.iconst 1, 1) := by decide +kernel
theorem d_X1_sum_46 : decode cX1_sum 46 = .ok (.goto 4, 3) := by decide +kernel
theorem d_X1_sum_49 : decode cX1_sum 49 = .ok (.iconst 0, 1) := by decide +kernel
theorem d_X1_sum_50 : decode cX1_sum 50 = .ok (.putfield 15, 3) := by decide +kernel
theorem d_X1_sum_53 : decode cX1_sum 53 = .ok (.return_, 1) := by decide +kernel
theorem sg_X1_sum_0 {L : Nat} {xs : Nat → Int32} {σ : ks_St} {mc ms : Nat} {P : ka_O → ks_St → Prop} {a1 na1 : Nat} {a2 na2 : Nat} {a3 na3 : Nat} (ha1 : rl_ a1 na1) (ha2 : rl_ a2 na2) (ha3 : rl_ a3 na3) (k1 : ks_W L xs mX1_sum rm_X1_sum 3 [(0, .ref 6), (1, .ref a1), (2, .ref a2), (3, .ref a3)] [.ref a3, .ref a2, .ref a1] σ mc ms P) : ks_W L xs mX1_sum rm_X1_sum 0 [(0, .ref 6), (1, .ref a1), (2, .ref a2), (3, .ref a3)] [] σ mc ms P := by
  refine ka_aload_n d_X1_sum_0 rfl rfl 1 rfl ?_
  refine ka_aload_n d_X1_sum_1 rfl rfl 2 rfl ?_
  refine ka_aload_n d_X1_sum_2 rfl rfl 3 rfl ?_
  exact k1
theorem cs_X1_sum_3 {L : Nat} {xs : Nat → Int32} {σ : ks_St} {mc ms : Nat} {P : ka_O → ks_St → Prop} {f : ks_St → Prop} {a1 : Nat} {a2 : Nat} {a3 : Nat} (hK : ks_M L xs mX3_add rm_X3_add [.ref a1, .ref a2, .ref a3] σ (pv_ f)) (kr : ∀ σ', f σ' → ks_W L xs mX1_sum rm_X1_sum 6 [(0, .ref 6), (1, .ref a1), (2, .ref a2), (3, .ref a3)] [] σ' mc ms P) : ks_W L xs mX1_sum rm_X1_sum 3 [(0, .ref 6), (1, .ref a1), (2, .ref a2), (3, .ref a3)] [.ref a3, .ref a2, .ref a1] σ mc ms P := by
  refine ks_callS (q := 6) (As := [.ref a1, .ref a2, .ref a3]) (st := []) d_X1_sum_3 rfl rfl lk_X1_83 ⟨by decide, by decide⟩ (Nat.le_of_ble_eq_true rfl) ⟨Nat.le_refl _, Nat.le_refl _⟩ hK (fun v σ' hq => ?_) (fun E σ' hq => ?_)
  · obtain ⟨e, hf⟩ := hq; cases e; exact kr σ' hf
  · obtain ⟨e, hf⟩ := hq; cases e
theorem sg_X1_sum_6 {L : Nat} {xs : Nat → Int32} {σ : ks_St} {mc ms : Nat} {P : ka_O → ks_St → Prop} {a1 na1 : Nat} {a2 na2 : Nat} {a3 na3 : Nat} (ha1 : rl_ a1 na1) (ha2 : rl_ a2 na2) (ha3 : rl_ a3 na3) (k1 : ks_W L xs mX1_sum rm_X1_sum 12 [(0, .ref 6), (1, .ref a1), (2, .ref a2), (3, .ref a3)] [.int (si_ σ 6), .ref a3, .ref 6] σ mc ms P) : ks_W L xs mX1_sum rm_X1_sum 6 [(0, .ref 6), (1, .ref a1), (2, .ref a2), (3, .ref a3)] [] σ mc ms P := by
  refine ka_aload_n d_X1_sum_6 rfl rfl 0 rfl ?_
  refine ka_aload_n d_X1_sum_7 rfl rfl 3 rfl ?_
  refine ka_aload_n d_X1_sum_8 rfl rfl 0 rfl ?_
  refine gf_X1_4 d_X1_sum_9 rfl fl_X1_24 ?_
  exact k1
theorem cs_X1_sum_12 {L : Nat} {xs : Nat → Int32} {σ : ks_St} {mc ms : Nat} {P : ka_O → ks_St → Prop} {f : Int32 → ks_St → Prop} {a1 : Nat} {a2 : Nat} {a3 : Nat} {s2 : Int32} (hK : ks_M L xs mX3_bitOrNought rm_X3_bitOrNought [.ref a3, .int s2] σ (pi_ f)) (kr : ∀ r σ', f r σ' → ks_W L xs mX1_sum rm_X1_sum 15 [(0, .ref 6), (1, .ref a1), (2, .ref a2), (3, .ref a3)] [.int r, .ref 6] σ' mc ms P) : ks_W L xs mX1_sum rm_X1_sum 12 [(0, .ref 6), (1, .ref a1), (2, .ref a2), (3, .ref a3)] [.int s2, .ref a3, .ref 6] σ mc ms P := by
  refine ks_callS (q := 15) (As := [.ref a3, .int s2]) (st := [.ref 6]) d_X1_sum_12 rfl rfl lk_X1_79 ⟨by decide, by decide⟩ (Nat.le_of_ble_eq_true rfl) ⟨Nat.le_refl _, Nat.le_refl _⟩ hK (fun v σ' hq => ?_) (fun E σ' hq => ?_)
  · obtain ⟨r, e, hf⟩ := hq; cases e; exact kr r σ' hf
  · obtain ⟨r, e, hf⟩ := hq; cases e
theorem sg_X1_sum_15 {L : Nat} {xs : Nat → Int32} {σ : ks_St} {mc ms : Nat} {P : ka_O → ks_St → Prop} {a1 na1 : Nat} {a2 na2 : Nat} {a3 na3 : Nat} {s1 : Int32} (ha1 : rl_ a1 na1) (ha2 : rl_ a2 na2) (ha3 : rl_ a3 na3) (k1 : ks_W L xs mX1_sum rm_X1_sum 21 [(0, .ref 6), (1, .ref a1), (2, .ref a2), (3, .ref a3)] [.ref a1, .ref 6, .ref 6] (ui_ σ 2 s1) mc ms P) : ks_W L xs mX1_sum rm_X1_sum 15 [(0, .ref 6), (1, .ref a1), (2, .ref a2), (3, .ref a3)] [.int s1, .ref 6] σ mc ms P := by
  refine pf_X1_0 d_X1_sum_15 rfl fl_X1_9 ?_
  refine ka_aload_n d_X1_sum_18 rfl rfl 0 rfl ?_
  refine ka_aload_n d_X1_sum_19 rfl rfl 0 rfl ?_
  refine ka_aload_n d_X1_sum_20 rfl rfl 1 rfl ?_
  exact k1
theorem cs_X1_sum_21 {L : Nat} {xs : Nat → Int32} {σ : ks_St} {mc ms : Nat} {P : ka_O → ks_St → Prop} {f : Int32 → ks_St → Prop} {a1 : Nat} {a2 : Nat} {a3 : Nat} (hK : ks_M L xs mX1_highest rm_X1_highest [.ref 6, .ref a1] σ (pi_ f)) (kr : ∀ r σ', f r σ' → ks_W L xs mX1_sum rm_X1_sum 24 [(0, .ref 6), (1, .ref a1), (2, .ref a2), (3, .ref a3)] [.int r, .ref 6] σ' mc ms P) : ks_W L xs mX1_sum rm_X1_sum 21 [(0, .ref 6), (1, .ref a1), (2, .ref a2), (3, .ref a3)] [.ref a1, .ref 6, .ref 6] σ mc ms P := by
  refine ks_callV (q := 24) (o := 6) (ci := 2) (As := [.ref a1]) (st := [.ref 6]) d_X1_sum_21 rfl rfl (by decide) rfl rfl lk_X1_75 ⟨by decide, by decide⟩ (Nat.le_of_ble_eq_true rfl) ⟨Nat.le_refl _, Nat.le_refl _⟩ hK (fun v σ' hq => ?_) (fun E σ' hq => ?_)
  · obtain ⟨r, e, hf⟩ := hq; cases e; exact kr r σ' hf
  · obtain ⟨r, e, hf⟩ := hq; cases e
theorem sg_X1_sum_24 {L : Nat} {xs : Nat → Int32} {σ : ks_St} {mc ms : Nat} {P : ka_O → ks_St → Prop} {a1 na1 : Nat} {a2 na2 : Nat} {a3 na3 : Nat} {s1 : Int32} (ha1 : rl_ a1 na1) (ha2 : rl_ a2 na2) (ha3 : rl_ a3 na3) (k1 : ks_W L xs mX1_sum rm_X1_sum 26 [(0, .ref 6), (1, .ref a1), (3, .ref a3)] [.ref a2, .ref 6, .int s1, .ref 6] σ mc ms P) : ks_W L xs mX1_sum rm_X1_sum 24 [(0, .ref 6), (1, .ref a1), (2, .ref a2), (3, .ref a3)] [.int s1, .ref 6] σ mc ms P := by
  refine ka_aload_n d_X1_sum_24 rfl rfl 0 rfl ?_
  refine ka_aload_n d_X1_sum_25 rfl rfl 2 rfl ?_
  refine ka_sub [0, 1, 3] rfl ?_
  exact k1
theorem cs_X1_sum_26 {L : Nat} {xs : Nat → Int32} {σ : ks_St} {mc ms : Nat} {P : ka_O → ks_St → Prop} {f : Int32 → ks_St → Prop} {a1 : Nat} {a3 : Nat} {s1 : Int32} {a2 : Nat} (hK : ks_M L xs mX1_highest rm_X1_highest [.ref 6, .ref a2] σ (pi_ f)) (kr : ∀ r σ', f r σ' → ks_W L xs mX1_sum rm_X1_sum 29 [(0, .ref 6), (1, .ref a1), (3, .ref a3)] [.int r, .int s1, .ref 6] σ' mc ms P) : ks_W L xs mX1_sum rm_X1_sum 26 [(0, .ref 6), (1, .ref a1), (3, .ref a3)] [.ref a2, .ref 6, .int s1, .ref 6] σ mc ms P := by
  refine ks_callV (q := 29) (o := 6) (ci := 2) (As := [.ref a2]) (st := [.int s1, .ref 6]) d_X1_sum_26 rfl rfl (by decide) rfl rfl lk_X1_75 ⟨by decide, by decide⟩ (Nat.le_of_ble_eq_true rfl) ⟨Nat.le_refl _, Nat.le_refl _⟩ hK (fun v σ' hq => ?_) (fun E σ' hq => ?_)
  · obtain ⟨r, e, hf⟩ := hq; cases e; exact kr r σ' hf
  · obtain ⟨r, e, hf⟩ := hq; cases e
theorem sg_X1_sum_29 {L : Nat} {xs : Nat → Int32} {σ : ks_St} {mc ms : Nat} {P : ka_O → ks_St → Prop} {a1 na1 : Nat} {a3 na3 : Nat} {s1 : Int32} {s2 : Int32} (ha1 : rl_ a1 na1) (ha3 : rl_ a3 na3) (k2 : (¬ s1 = s2) → ks_W L xs mX1_sum rm_X1_sum 49 [] [.ref 6] σ mc ms P) (k3 : (s1 = s2) → ks_W L xs mX1_sum rm_X1_sum 34 [(0, .ref 6), (1, .ref a1)] [.ref a3, .ref 6, .ref 6] σ mc ms P) : ks_W L xs mX1_sum rm_X1_sum 29 [(0, .ref 6), (1, .ref a1), (3, .ref a3)] [.int s2, .int s1, .ref 6] σ mc ms P := by
  refine ka_icmp_ne (tgt := 49) d_X1_sum_29 (by decide) rfl (fun c1 => ?_) (fun c1 => ?_)
  · refine ka_sub [] rfl ?_
    exact (k2 c1)
  · refine ka_aload_n d_X1_sum_32 rfl rfl 0 rfl ?_
    refine ka_aload_n d_X1_sum_33 rfl rfl 2 rfl ?_
    refine ka_sub [0, 1] rfl ?_
    exact (k3 c1)
theorem cs_X1_sum_34 {L : Nat} {xs : Nat → Int32} {σ : ks_St} {mc ms : Nat} {P : ka_O → ks_St → Prop} {f : Int32 → ks_St → Prop} {a1 : Nat} {a3 : Nat} (hK : ks_M L xs mX1_highest rm_X1_highest [.ref 6, .ref a3] σ (pi_ f)) (kr : ∀ r σ', f r σ' → ks_W L xs mX1_sum rm_X1_sum 37 [(0, .ref 6), (1, .ref a1)] [.int r, .ref 6] σ' mc ms P) : ks_W L xs mX1_sum rm_X1_sum 34 [(0, .ref 6), (1, .ref a1)] [.ref a3, .ref 6, .ref 6] σ mc ms P := by
  refine ks_callV (q := 37) (o := 6) (ci := 2) (As := [.ref a3]) (st := [.ref 6]) d_X1_sum_34 rfl rfl (by decide) rfl rfl lk_X1_75 ⟨by decide, by decide⟩ (Nat.le_of_ble_eq_true rfl) ⟨Nat.le_refl _, Nat.le_refl _⟩ hK (fun v σ' hq => ?_) (fun E σ' hq => ?_)
  · obtain ⟨r, e, hf⟩ := hq; cases e; exact kr r σ' hf
  · obtain ⟨r, e, hf⟩ := hq; cases e
theorem sg_X1_sum_37 {L : Nat} {xs : Nat → Int32} {σ : ks_St} {mc ms : Nat} {P : ka_O → ks_St → Prop} {a1 na1 : Nat} {s1 : Int32} (ha1 : rl_ a1 na1) (k1 : ks_W L xs mX1_sum rm_X1_sum 39 [] [.ref a1, .ref 6, .int s1, .ref 6] σ mc ms P) : ks_W L xs mX1_sum rm_X1_sum 37 [(0, .ref 6), (1, .ref a1)] [.int s1, .ref 6] σ mc ms P := by
  refine ka_aload_n d_X1_sum_37 rfl rfl 0 rfl ?_
  refine ka_aload_n d_X1_sum_38 rfl rfl 1 rfl ?_
  refine ka_sub [] rfl ?_
  exact k1
theorem cs_X1_sum_39 {L : Nat} {xs : Nat → Int32} {σ : ks_St} {mc ms : Nat} {P : ka_O → ks_St → Prop} {f : Int32 → ks_St → Prop} {s1 : Int32} {a1 : Nat} (hK : ks_M L xs mX1_highest rm_X1_highest [.ref 6, .ref a1] σ (pi_ f)) (kr : ∀ r σ', f r σ' → ks_W L xs mX1_sum rm_X1_sum 42 [] [.int r, .int s1, .ref 6] σ' mc ms P) : ks_W L xs mX1_sum rm_X1_sum 39 [] [.ref a1, .ref 6, .int s1, .ref 6] σ mc ms P := by
  refine ks_callV (q := 42) (o := 6) (ci := 2) (As := [.ref a1]) (st := [.int s1, .ref 6]) d_X1_sum_39 rfl rfl (by decide) rfl rfl lk_X1_75 ⟨by decide, by decide⟩ (Nat.le_of_ble_eq_true rfl) ⟨Nat.le_refl _, Nat.le_refl _⟩ hK (fun v σ' hq => ?_) (fun E σ' hq => ?_)
  · obtain ⟨r, e, hf⟩ := hq; cases e; exact kr r σ' hf
  · obtain ⟨r, e, hf⟩ := hq; cases e
theorem sg_X1_sum_42 {L : Nat} {xs : Nat → Int32} {σ : ks_St} {mc ms : Nat} {P : ka_O → ks_St → Prop} {s1 : Int32} {s2 : Int32}  (k2 : (s1 = s2) → ks_W L xs mX1_sum rm_X1_sum 49 [] [.ref 6] σ mc ms P) (k3 : (¬ (s1 = s2)) → ks_W L xs mX1_sum rm_X1_sum 50 [] [.int 1, .ref 6] σ mc ms P) : ks_W L xs mX1_sum rm_X1_sum 42 [] [.int s2, .int s1, .ref 6] σ mc ms P := by
  refine ka_icmp_eq (tgt := 49) d_X1_sum_42 (by decide) rfl (fun c1 => ?_) (fun c1 => ?_)
  · exact (k2 c1)
  · refine ka_iconst (v := 1) d_X1_sum_45 rfl (by decide) ?_
    refine ka_goto (q := 50) d_X1_sum_46 (by decide) ?_
    exact (k3 c1)
theorem sg_X1_sum_49 {L : Nat} {xs : Nat → Int32} {σ : ks_St} {mc ms : Nat} {P : ka_O → ks_St → Prop}   (k1 : ks_W L xs mX1_sum rm_X1_sum 50 [] [.int 0, .ref 6] σ mc ms P) : ks_W L xs mX1_sum rm_X1_sum 49 [] [.ref 6] σ mc ms P := by
  refine ka_iconst (v := 0) d_X1_sum_49 rfl (by decide) ?_
  exact k1
theorem sg_X1_sum_50 {L : Nat} {xs : Nat → Int32} {σ : ks_St} {mc ms : Nat} {P : ka_O → ks_St → Prop} {s1 : Int32}  (r1 : P (.inl none) (ui_ σ 3 s1)) : ks_W L xs mX1_sum rm_X1_sum 50 [] [.int s1, .ref 6] σ mc ms P := by
  refine pf_X1_1 d_X1_sum_50 rfl fl_X1_15 ?_
  exact ks_vret d_X1_sum_53 rfl r1
theorem d_X1_difference_0 : decode cX1_difference 0 = .ok (.aload_n 1, 1) := by decide +kernel
theorem d_X1_difference_1 : decode cX1_difference 1 = .ok (.aload_n 2, 1) := by decide +kernel
theorem d_X1_difference_2 : decode cX1_difference 2 = .ok (.aload_n 3, 1) := by decide +kernel
theorem d_X1_difference_3 : decode cX1_difference 3 = .ok (.invokestatic 86, 3) := by decide +kernel
theorem d_X1_difference_6 : decode cX1_difference 6 = .ok (.aload_n 0, 1) := by decide +kernel
theorem d_X1_difference_7 : decode cX1_difference 7 = .ok (.aload_n 3, 1) := by decide +kernel
theorem d_X1_difference_8 : decode cX1_difference 8 = .ok (.aload_n 0, 1) := by decide +kernel
theorem d_X1_difference_9 : decode cX1_difference 9 = .ok (.getfield 24, 3) := by decide +kernel
theorem d_X1_difference_12 : decode cX1_difference 12 = .ok (.invokestatic 79, 3) := by decide +kernel
theorem d_X1_difference_15 : decode cX1_difference 15 = .ok (.putfield 9, 3) := by decide +kernel
theorem d_X1_difference_18 : decode cX1_difference 18 = .ok (.aload_n 0, 1) := by decide +kernel
theorem d_X1_difference_19 : decode cX1_difference 19 = .ok (.aload_n 0, 1) := by decide +kernel
theorem d_X1_difference_20 : decode cX1_difference 20 = .ok (.aload_n 1, 1) := by decide +kernel
theorem d_X1_difference_21 : decode cX1_difference 21 = .ok (.invokevirtual 75, 3) := by decide +kernel
theorem d_X1_difference_24 : decode cX1_difference 24 = .ok (.aload_n 0, 1) := by decide +kernel
theorem d_X1_difference_25 : decode cX1_difference 25 = .ok (.aload_n 2, 1) := by decide +kernel
theorem d_X1_difference_26 : decode cX1_difference 26 = .ok (.invokevirtual 75, 3) := by decide +kernel
theorem d_X1_difference_29 : decode cX1_difference 29 = .ok (.if_icmp .eq 20, 3) := by decide +kernel
theorem d_X1_difference_32 : decode cX1_difference 32 = .ok (.aload_n 0, 1) := by decide +kernel
theorem d_X1_difference_33 : decode cX1_difference 33 = .ok (.aload_n 3, 1) := by decide +kernel
theorem d_X1_difference_34 : decode cX1_difference 34 = .ok (.invokevirtual 75, 3) := by decide +kernel
theorem d_X1_difference_37 : decode cX1_difference 37 = .ok (.aload_n 0, 1) := by decide +kernel
theorem d_X1_difference_38 : decode cX1_difference 38 = .ok (.aload_n 1, 1) := by decide +kernel
theorem d_X1_difference_39 : decode cX1_difference 39 = .ok (.invokevirtual 75, 3) := by decide +kernel
theorem d_X1_difference_42 : decode cX1_difference 42 = .ok (.if_icmp .eq 7, 3) := by decide +kernel
theorem d_X1_difference_45 : decode cX1_difference 45 = .ok (.iconst 1, 1) := by decide +kernel
theorem d_X1_difference_46 : decode cX1_difference 46 = .ok (.goto 4, 3) := by decide +kernel
theorem d_X1_difference_49 : decode cX1_difference 49 = .ok (.iconst 0, 1) := by decide +kernel
theorem d_X1_difference_50 : decode cX1_difference 50 = .ok (.putfield 15, 3) := by decide +kernel
theorem d_X1_difference_53 : decode cX1_difference 53 = .ok (.return_, 1) := by decide +kernel
theorem sg_X1_difference_0 {L : Nat} {xs : Nat → Int32} {σ : ks_St} {mc ms : Nat} {P : ka_O → ks_St → Prop} {a1 na1 : Nat} {a2 na2 : Nat} {a3 na3 : Nat} (ha1 : rl_ a1 na1) (ha2 : rl_ a2 na2) (ha3 : rl_ a3 na3) (k1 : ks_W L xs mX1_difference rm_X1_difference 3 [(0, .ref 6), (1, .ref a1), (2, .ref a2), (3, .ref a3)] [.ref a3, .ref a2, .ref a1] σ mc ms P) : ks_W L xs mX1_difference rm_X1_difference 0 [(0, .ref 6), (1, .ref a1), (2, .ref a2), (3, .ref a3)] [] σ mc ms P := by
  refine ka_aload_n d_X1_difference_0 rfl rfl 1 rfl ?_
  refine ka_aload_n d_X1_difference_1 rfl rfl 2 rfl ?_
  refine ka_aload_n d_X1_difference_2 rfl rfl 3 rfl ?_
  exact k1
theorem cs_X1_difference_3 {L : Nat} {xs : Nat → Int32} {σ : ks_St} {mc ms : Nat} {P : ka_O → ks_St → Prop} {f : ks_St → Prop} {a1 : Nat} {a2 : Nat} {a3 : Nat} (hK : ks_M L xs mX3_subtract rm_X3_subtract [.ref a1, .ref a2, .ref a3] σ (pv_ f)) (kr : ∀ σ', f σ' → ks_W L xs mX1_difference rm_X1_difference 6 [(0, .ref 6), (1, .ref a1), (2, .ref a2), (3, .ref a3)] [] σ' mc ms P) : ks_W L xs mX1_difference rm_X1_difference 3 [(0, .ref 6), (1, .ref a1), (2, .ref a2), (3, .ref a3)] [.ref a3, .ref a2, .ref a1] σ mc ms P := by
  refine ks_callS (q := 6) (As := [.ref a1, .ref a2, .ref a3]) (st := []) d_X1_difference_3 rfl rfl lk_X1_86 ⟨by decide, by decide⟩ (Nat.le_of_ble_eq_true rfl) ⟨Nat.le_refl _, Nat.le_refl _⟩ hK (fun v σ' hq => ?_) (fun E σ' hq => ?_)
  · obtain ⟨e, hf⟩ := hq; cases e; exact kr σ' hf
  · obtain ⟨e, hf⟩ := hq; cases e
theorem sg_X1_difference_6 {L : Nat} {xs : Nat → Int32} {σ : ks_St} {mc ms : Nat} {P : ka_O → ks_St → Prop} {a1 na1 : Nat} {a2 na2 : Nat} {a3 na3 : Nat} (ha1 : rl_ a1 na1) (ha2 : rl_ a2 na2) (ha3 : rl_ a3 na3) (k1 : ks_W L xs mX1_difference rm_X1_difference 12 [(0, .ref 6), (1, .ref a1), (2, .ref a2), (3, .ref a3)] [.int (si_ σ 6), .ref a3, .ref 6] σ mc ms P) : ks_W L xs mX1_difference rm_X1_difference 6 [(0, .ref 6), (1, .ref a1), (2, .ref a2), (3, .ref a3)] [] σ mc ms P := by
  refine ka_aload_n d_X1_difference_6 rfl rfl 0 rfl ?_
  refine ka_aload_n d_X1_difference_7 rfl rfl 3 rfl ?_
  refine ka_aload_n d_X1_difference_8 rfl rfl 0 rfl ?_
  refine gf_X1_4 d_X1_difference_9 rfl fl_X1_24 ?_
  exact k1
theorem cs_X1_difference_12 {L : Nat} {xs : Nat → Int32} {σ : ks_St} {mc ms : Nat} {P : ka_O → ks_St → Prop} {f : Int32 → ks_St → Prop} {a1 : Nat} {a2 : Nat} {a3 : Nat} {s2 : Int32} (hK : ks_M L xs mX3_bitOrNought rm_X3_bitOrNought [.ref a3, .int s2] σ (pi_ f)) (kr : ∀ r σ', f r σ' → ks_W L xs mX1_difference rm_X1_difference 15 [(0, .ref 6), (1, .ref a1), (2, .ref a2), (3, .ref a3)] [.int r, .ref 6] σ' mc ms P) : ks_W L xs mX1_difference rm_X1_difference 12 [(0, .ref 6), (1, .ref a1), (2, .ref a2), (3, .ref a3)] [.int s2, .ref a3, .ref 6] σ mc ms P := by
  refine ks_callS (q := 15) (As := [.ref a3, .int s2]) (st := [.ref 6]) d_X1_difference_12 rfl rfl lk_X1_79 ⟨by decide, by decide⟩ (Nat.le_of_ble_eq_true rfl) ⟨Nat.le_refl _, Nat.le_refl _⟩ hK (fun v σ' hq => ?_) (fun E σ' hq => ?_)
  · obtain ⟨r, e, hf⟩ := hq; cases e; exact kr r σ' hf
  · obtain ⟨r, e, hf⟩ := hq; cases e
theorem sg_X1_difference_15 {L : Nat} {xs : Nat → Int32} {σ : ks_St} {mc ms : Nat} {P : ka_O → ks_St → Prop} {a1 na1 : Nat} {a2 na2 : Nat} {a3 na3 : Nat} {s1 : Int32} (ha1 : rl_ a1 na1) (ha2 : rl_ a2 na2) (ha3 : rl_ a3 na3) (k1 : ks_W L xs mX1_difference rm_X1_difference 21 [(0, .ref 6), (1, .ref a1), (2, .ref a2), (3, .ref a3)] [.ref a1, .ref 6, .ref 6] (ui_ σ 2 s1) mc ms P) : ks_W L xs mX1_difference rm_X1_difference 15 [(0, .ref 6), (1, .ref a1), (2, .ref a2), (3, .ref a3)] [.int s1, .ref 6] σ mc ms P := by
  refine pf_X1_0 d_X1_difference_15 rfl fl_X1_9 ?_
  refine ka_aload_n d_X1_difference_18 rfl rfl 0 rfl ?_
  refine ka_aload_n d_X1_difference_19 rfl rfl 0 rfl ?_
  refine ka_aload_n d_X1_difference_20 rfl rfl 1 rfl ?_
  exact k1
theorem cs_X1_difference_21 {L : Nat} {xs : Nat → Int32} {σ : ks_St} {mc ms : Nat} {P : ka_O → ks_St → Prop} {f : Int32 → ks_St → Prop} {a1 : Nat} {a2 : Nat} {a3 : Nat} (hK : ks_M L xs mX1_highest rm_X1_highest [.ref 6, .ref a1] σ (pi_ f)) (kr : ∀ r σ', f r σ' → ks_W L xs mX1_difference rm_X1_difference 24 [(0, .ref 6), (1, .ref a1), (2, .ref a2), (3, .ref a3)] [.int r, .ref 6] σ' mc ms P) : ks_W L xs mX1_difference rm_X1_difference 21 [(0, .ref 6), (1, .ref a1), (2, .ref a2), (3, .ref a3)] [.ref a1, .ref 6, .ref 6] σ mc ms P := by
  refine ks_callV (q := 24) (o := 6) (ci := 2) (As := [.ref a1]) (st := [.ref 6]) d_X1_difference_21 rfl rfl (by decide) rfl rfl lk_X1_75 ⟨by decide, by decide⟩ (Nat.le_of_ble_eq_true rfl) ⟨Nat.le_refl _, Nat.le_refl _⟩ hK (fun v σ' hq => ?_) (fun E σ' hq => ?_)
  · obtain ⟨r, e, hf⟩ := hq; cases e; exact kr r σ' hf
  · obtain ⟨r, e, hf⟩ := hq; cases e
theorem sg_X1_difference_24 {L : Nat} {xs : Nat → Int32} {σ : ks_St} {mc ms : Nat} {P : ka_O → ks_St → Prop} {a1 na1 : Nat} {a2 na2 : Nat} {a3 na3 : Nat} {s1 : Int32} (ha1 : rl_ a1 na1) (ha2 : rl_ a2 na2) (ha3 : rl_ a3 na3) (k1 : ks_W L xs mX1_difference rm_X1_difference 26 [(0, .ref 6), (1, .ref a1), (3, .ref a3)] [.ref a2, .ref 6, .int s1, .ref 6] σ mc ms P) : ks_W L xs mX1_difference rm_X1_difference 24 [(0, .ref 6), (1, .ref a1), (2, .ref a2), (3, .ref a3)] [.int s1, .ref 6] σ mc ms P := by
  refine ka_aload_n d_X1_difference_24 rfl rfl 0 rfl ?_
  refine ka_aload_n d_X1_difference_25 rfl rfl 2 rfl ?_
  refine ka_sub [0, 1, 3] rfl ?_
  exact k1
theorem cs_X1_difference_26 {L : Nat} {xs : Nat → Int32} {σ : ks_St} {mc ms : Nat} {P : ka_O → ks_St → Prop} {f : Int32 → ks_St → Prop} {a1 : Nat} {a3 : Nat} {s1 : Int32} {a2 : Nat} (hK : ks_M L xs mX1_highest rm_X1_highest [.ref 6, .ref a2] σ (pi_ f)) (kr : ∀ r σ', f r σ' → ks_W L xs mX1_difference rm_X1_difference 29 [(0, .ref 6), (1, .ref a1), (3, .ref a3)] [.int r, .int s1, .ref 6] σ' mc ms P) : ks_W L xs mX1_difference rm_X1_difference 26 [(0, .ref 6), (1, .ref a1), (3, .ref a3)] [.ref a2, .ref 6, .int s1, .ref 6] σ mc ms P := by
  refine ks_callV (q := 29) (o := 6) (ci := 2) (As := [.ref a2]) (st := [.int s1, .ref 6]) d_X1_difference_26 rfl rfl (by decide) rfl rfl lk_X1_75 ⟨by decide, by decide⟩ (Nat.le_of_ble_eq_true rfl) ⟨Nat.le_refl _, Nat.le_refl _⟩ hK (fun v σ' hq => ?_) (fun E σ' hq => ?_)
  · obtain ⟨r, e, hf⟩ := hq; cases e; exact kr r σ' hf
  · obtain ⟨r, e, hf⟩ := hq; cases e
theorem sg_X1_difference_29 {L : Nat} {xs : Nat → Int32} {σ : ks_St} {mc ms : Nat} {P : ka_O → ks_St → Prop} {a1 na1 : Nat} {a3 na3 : Nat} {s1 : Int32} {s2 : Int32} (ha1 : rl_ a1 na1) (ha3 : rl_ a3 na3) (k2 : (s1 = s2) → ks_W L xs mX1_difference rm_X1_difference 49 [] [.ref 6] σ mc ms P) (k3 : (¬ (s1 = s2)) → ks_W L xs mX1_difference rm_X1_difference 34 [(0, .ref 6), (1, .ref a1)] [.ref a3, .ref 6, .ref 6] σ mc ms P) : ks_W L xs mX1_difference rm_X1_difference 29 [(0, .ref 6), (1, .ref a1), (3, .ref a3)] [.int s2, .int s1, .ref 6] σ mc ms P := by
  refine ka_icmp_eq (tgt := 49) d_X1_difference_29 (by decide) rfl (fun c1 => ?_) (fun c1 => ?_)
  · refine ka_sub [] rfl ?_
    exact (k2 c1)
  · refine ka_aload_n d_X1_difference_32 rfl rfl 0 rfl ?_
    refine ka_aload_n d_X1_difference_33 rfl rfl 2 rfl ?_
    refine ka_sub [0, 1] rfl ?_
    exact (k3 c1)
theorem cs_X1_difference_34 {L : Nat} {xs : Nat → Int32} {σ : ks_St} {mc ms : Nat} {P : ka_O → ks_St → Prop} {f : Int32 → ks_St → Prop} {a1 : Nat} {a3 : Nat} (hK : ks_M L xs mX1_highest rm_X1_highest [.ref 6, .ref a3] σ (pi_ f)) (kr : ∀ r σ', f r σ' → ks_W L xs mX1_difference rm_X1_difference 37 [(0, .ref 6), (1, .ref a1)] [.int r, .ref 6] σ' mc ms P) : ks_W L xs mX1_difference rm_X1_difference 34 [(0, .ref 6), (1, .ref a1)] [.ref a3, .ref 6, .ref 6] σ mc ms P := by
  refine ks_callV (q := 37) (o := 6) (ci := 2) (As := [.ref a3]) (st := [.ref 6]) d_X1_difference_34 rfl rfl (by decide) rfl rfl lk_X1_75 ⟨by decide, by decide⟩ (Nat.le_of_ble_eq_true rfl) ⟨Nat.le_refl _, Nat.le_refl _⟩ hK (fun v σ' hq => ?_) (fun E σ' hq => ?_)
  · obtain ⟨r, e, hf⟩ := hq; cases e; exact kr r σ' hf
  · obtain ⟨r, e, hf⟩ := hq; cases e
theorem sg_X1_difference_37 {L : Nat} {xs : Nat → Int32} {σ : ks_St} {mc ms : Nat} {P : ka_O → ks_St → Prop} {a1 na1 : Nat} {s1 : Int32} (ha1 : rl_ a1 na1) (k1 : ks_W L xs mX1_difference rm_X1_difference 39 [] [.ref a1, .ref 6, .int s1, .ref 6] σ mc ms P) : ks_W L xs mX1_difference rm_X1_difference 37 [(0, .ref 6), (1, .ref a1)] [.int s1, .ref 6] σ mc ms P := by
  refine ka_aload_n d_X1_difference_37 rfl rfl 0 rfl ?_
  refine ka_aload_n d_X1_difference_38 rfl rfl 1 rfl ?_
  refine ka_sub [] rfl ?_
  exact k1
theorem cs_X1_difference_39 {L : Nat} {xs : Nat → Int32} {σ : ks_St} {mc ms : Nat} {P : ka_O → ks_St → Prop} {f : Int32 → ks_St → Prop} {s1 : Int32} {a1 : Nat} (hK : ks_M L xs mX1_highest rm_X1_highest [.ref 6, .ref a1] σ (pi_ f)) (kr : ∀ r σ', f r σ' → ks_W L xs mX1_difference rm_X1_difference 42 [] [.int r, .int s1, .ref 6] σ' mc ms P) : ks_W L xs mX1_difference rm_X1_difference 39 [] [.ref a1, .ref 6, .int s1, .ref 6] σ mc ms P := by
  refine ks_callV (q := 42) (o := 6) (ci := 2) (As := [.ref a1]) (st := [.int s1, .ref 6]) d_X1_difference_39 rfl rfl (by decide) rfl rfl lk_X1_75 ⟨by decide, by decide⟩ (Nat.le_of_ble_eq_true rfl) ⟨Nat.le_refl _, Nat.le_refl _⟩ hK (fun v σ' hq => ?_) (fun E σ' hq => ?_)
  · obtain ⟨r, e, hf⟩ := hq; cases e; exact kr r σ' hf
  · obtain ⟨r, e, hf⟩ := hq; cases e
theorem sg_X1_difference_42 {L : Nat} {xs : Nat → Int32} {σ : ks_St} {mc ms : Nat} {P : ka_O → ks_St → Prop} {s1 : Int32} {s2 : Int32}  (k2 : (s1 = s2) → ks_W L xs mX1_difference rm_X1_difference 49 [] [.ref 6] σ mc ms P) (k3 : (¬ (s1 = s2)) → ks_W L xs mX1_difference rm_X1_difference 50 [] [.int 1, .ref 6] σ mc ms P) : ks_W L xs mX1_difference rm_X1_difference 42 [] [.int s2, .int s1, .ref 6] σ mc ms P := by
  refine ka_icmp_eq (tgt := 49) d_X1_difference_42 (by decide) rfl (fun c1 => ?_) (fun c1 => ?_)
  · exact (k2 c1)
  · refine ka_iconst (v := 1) d_X1_difference_45 rfl (by decide) ?_
    refine ka_goto (q := 50) d_X1_difference_46 (by decide) ?_
    exact (k3 c1)
theorem sg_X1_difference_49 {L : Nat} {xs : Nat → Int32} {σ : ks_St} {mc ms : Nat} {P : ka_O → ks_St → Prop}   (k1 : ks_W L xs mX1_difference rm_X1_difference 50 [] [.int 0, .ref 6] σ mc ms P) : ks_W L xs mX1_difference rm_X1_difference 49 [] [.ref 6] σ mc ms P := by
  refine ka_iconst (v := 0) d_X1_difference_49 rfl (by decide) ?_
  exact k1
theorem sg_X1_difference_50 {L : Nat} {xs : Nat → Int32} {σ : ks_St} {mc ms : Nat} {P : ka_O → ks_St → Prop} {s1 : Int32}  (r1 : P (.inl none) (ui_ σ 3 s1)) : ks_W L xs mX1_difference rm_X1_difference 50 [] [.int s1, .ref 6] σ mc ms P := by
  refine pf_X1_1 d_X1_difference_50 rfl fl_X1_15 ?_
  exact ks_vret d_X1_difference_53 rfl r1
theorem d_X1_fitsWithSign_0 : decode cX1_fitsWithSign 0 = .ok (.aload_n 0, 1) := by decide +kernel
theorem d_X1_fitsWithSign_1 : decode cX1_fitsWithSign 1 = .ok (.getfield 30, 3) := by decide +kernel
theorem d_X1_fitsWithSign_4 : decode cX1_fitsWithSign 4 = .ok (.getfield 93, 3) := by decide +kernel
theorem d_X1_fitsWithSign_7 : decode cX1_fitsWithSign 7 = .ok (.aload_n 0, 1) := by decide +kernel
theorem d_X1_fitsWithSign_8 : decode cX1_fitsWithSign 8 = .ok (.getfield 24, 3) := by decide +kernel
theorem d_X1_fitsWithSign_11 : decode cX1_fitsWithSign 11 = .ok (.iconst 1, 1) := by decide +kernel
theorem d_X1_fitsWithSign_12 : decode cX1_fitsWithSign 12 = .ok (.isub, 1) := by decide +kernel
theorem d_X1_fitsWithSign_13 : decode cX1_fitsWithSign 13 = .ok (.invokestatic 79, 3) := by decide +kernel
theorem d_X1_fitsWithSign_16 : decode cX1_fitsWithSign 16 = .ok (.istore 4, 2) := by decide +kernel
theorem d_X1_fitsWithSign_18 : decode cX1_fitsWithSign 18 = .ok (.aload_n 0, 1) := by decide +kernel
theorem d_X1_fitsWithSign_19 : decode cX1_fitsWithSign 19 = .ok (.aload_n 1, 1) := by decide +kernel
theorem d_X1_fitsWithSign_20 : decode cX1_fitsWithSign 20 = .ok (.invokevirtual 75, 3) := by decide +kernel
theorem d_X1_fitsWithSign_23 : decode cX1_fitsWithSign 23 = .ok (.iconst 1, 1) := by decide +kernel
theorem d_X1_fitsWithSign_24 : decode cX1_fitsWithSign 24 = .ok (.if_icmp .ne 9, 3) := by decide +kernel
theorem d_X1_fitsWithSign_27 : decode cX1_fitsWithSign 27 = .ok (.aload_n 3, 1) := by decide +kernel
theorem d_X1_fitsWithSign_28 : decode cX1_fitsWithSign 28 = .ok (.aload_n 2, 1) := by decide +kernel
theorem d_X1_fitsWithSign_29 : decode cX1_fitsWithSign 29 = .ok (.aload_n 3, 1) := by decide +kernel
theorem d_X1_fitsWithSign_30 : decode cX1_fitsWithSign 30 = .ok (.invokestatic 86, 3) := by decide +kernel
theorem d_X1_fitsWithSign_33 : decode cX1_fitsWithSign 33 = .ok (.aload_n 0, 1) := by decide +kernel
theorem d_X1_fitsWithSign_34 : decode cX1_fitsWithSign 34 = .ok (.aload_n 2, 1) := by decide +kernel
theorem d_X1_fitsWithSign_35 : decode cX1_fitsWithSign 35 = .ok (.invokevirtual 75, 3) := by decide +kernel
theorem d_X1_fitsWithSign_38 : decode cX1_fitsWithSign 38 = .ok (.iconst 1, 1) := by decide +kernel
theorem d_X1_fitsWithSign_39 : decode cX1_fitsWithSign 39 = .ok (.if_icmp .ne 9, 3) := by decide +kernel
theorem d_X1_fitsWithSign_42 : decode cX1_fitsWithSign 42 = .ok (.aload_n 3, 1) := by decide +kernel
theorem d_X1_fitsWithSign_43 : decode cX1_fitsWithSign 43 = .ok (.aload_n 1, 1) := by decide +kernel
theorem d_X1_fitsWithSign_44 : decode cX1_fitsWithSign 44 = .ok (.aload_n 3, 1) := by decide +kernel
theorem d_X1_fitsWithSign_45 : decode cX1_fitsWithSign 45 = .ok (.invokestatic 86, 3) := by decide +kernel
theorem d_X1_fitsWithSign_48 : decode cX1_fitsWithSign 48 = .ok (.aload_n 3, 1) := by decide +kernel
theorem d_X1_fitsWithSign_49 : decode cX1_fitsWithSign 49 = .ok (.aload_n 0, 1) := by decide +kernel
theorem d_X1_fitsWithSign_50 : decode cX1_fitsWithSign 50 = .ok (.getfield 24, 3) := by decide +kernel
theorem d_X1_fitsWithSign_53 : decode cX1_fitsWithSign 53 = .ok (.invokestatic 65, 3) := by decide +kernel
theorem d_X1_fitsWithSign_56 : decode cX1_fitsWithSign 56 = .ok (.iload 4, 2) := by decide +kernel
theorem d_X1_fitsWithSign_58 : decode cX1_fitsWithSign 58 = .ok (.iconst 1, 1) := by decide +kernel
theorem d_X1_fitsWithSign_59 : decode cX1_fitsWithSign 59 = .ok (.if_icmp .ne 26, 3) := by decide +kernel
theorem d_X1_fitsWithSign_62 : decode cX1_fitsWithSign 62 = .ok (.aload_n 3, 1) := by decide +kernel
theorem d_X1_fitsWithSign_63 : decode cX1_fitsWithSign 63 = .ok (.aload_n 0, 1) := by decide +kernel
theorem d_X1_fitsWithSign_64 : decode cX1_fitsWithSign 64 = .ok (.getfield 24, 3) := by decide +kernel
theorem d_X1_fitsWithSign_67 : decode cX1_fitsWithSign 67 = .ok (.invokestatic 103, 3) := by decide +kernel
theorem d_X1_fitsWithSign_70 : decode cX1_fitsWithSign 70 = .ok (.aload_n 3, 1) := by decide +kernel
theorem d_X1_fitsWithSign_71 : decode cX1_fitsWithSign 71 = .ok (.iconst 2, 1) := by decide +kernel
theorem d_X1_fitsWithSign_72 : decode cX1_fitsWithSign 72 = .ok (.invokestatic 106, 3) := by decide +kernel
theorem d_X1_fitsWithSign_75 : decode cX1_fitsWithSign 75 = .ok (.iconst 1, 1) := by decide +kernel
theorem d_X1_fitsWithSign_76 : decode cX1_fitsWithSign 76 = .ok (.if_icmp .ne 7, 3) := by decide +kernel
theorem d_X1_fitsWithSign_79 : decode cX1_fitsWithSign 79 = .ok (.iconst 1, 1) := by decide +kernel
theorem d_X1_fitsWithSign_80 : decode cX1_fitsWithSign 80 = .ok (.goto 4, 3) := by decide +kernel
theorem d_X1_fitsWithSign_83 : decode cX1_fitsWithSign 83 = .ok (.iconst 0, 1) := by decide +kernel
theorem d_X1_fitsWithSign_84 : decode cX1_fitsWithSign 84 = .ok (.ireturn, 1) := by decide +kernel
theorem d_X1_fitsWithSign_85 : decode cX1_fitsWithSign 85 = .ok (.aload_n 3, 1) := by decide +kernel
theorem d_X1_fitsWithSign_86 : decode cX1_fitsWithSign 86 = .ok (.invokestatic 71, 3) := by decide +kernel
theorem d_X1_fitsWithSign_89 : decode cX1_fitsWithSign 89 = .ok (.ireturn, 1) := by decide +kernel
theorem sg_X1_fitsWithSign_0 {L : Nat} {xs : Nat → Int32} {σ : ks_St} {mc ms : Nat} {P : ka_O → ks_St → Prop} {a1 na1 : Nat} {a2 na2 : Nat} {a3 na3 : Nat} (ha1 : rl_ a1 na1) (ha2 : rl_ a2 na2) (ha3 : rl_ a3 na3) (k1 : ks_W L xs mX1_fitsWithSign rm_X1_fitsWithSign 13 [(0, .ref 6), (1, .ref a1), (2, .ref a2), (3, .ref a3)] [.int ((si_ σ 6) - 1), .ref 8] σ mc ms P) : ks_W L xs mX1_fitsWithSign rm_X1_fitsWithSign 0 [(0, .ref 6), (1, .ref a1), (2, .ref a2), (3, .ref a3)] [] σ mc ms P := by
  refine ka_aload_n d_X1_fitsWithSign_0 rfl rfl 0 rfl ?_
  refine gf_X1_5 d_X1_fitsWithSign_1 rfl fl_X1_30 ?_
  refine gf_X0_0 d_X1_fitsWithSign_4 rfl fl_X1_93 ?_
  refine ka_aload_n d_X1_fitsWithSign_7 rfl rfl 0 rfl ?_
  refine gf_X1_4 d_X1_fitsWithSign_8 rfl fl_X1_24 ?_
  refine ka_iconst (v := 1) d_X1_fitsWithSign_11 rfl (by decide) ?_
  refine ka_isub d_X1_fitsWithSign_12 rfl ?_
  exact k1
theorem cs_X1_fitsWithSign_13 {L : Nat} {xs : Nat → Int32} {σ : ks_St} {mc ms : Nat} {P : ka_O → ks_St → Prop} {f : Int32 → ks_St → Prop} {a1 : Nat} {a2 : Nat} {a3 : Nat} {s1 : Int32} (hK : ks_M L xs mX3_bitOrNought rm_X3_bitOrNought [.ref 8, .int s1] σ (pi_ f)) (kr : ∀ r σ', f r σ' → ks_W L xs mX1_fitsWithSign rm_X1_fitsWithSign 16 [(0, .ref 6), (1, .ref a1), (2, .ref a2), (3, .ref a3)] [.int r] σ' mc ms P) : ks_W L xs mX1_fitsWithSign rm_X1_fitsWithSign 13 [(0, .ref 6), (1, .ref a1), (2, .ref a2), (3, .ref a3)] [.int s1, .ref 8] σ mc ms P := by
  refine ks_callS (q := 16) (As := [.ref 8, .int s1]) (st := []) d_X1_fitsWithSign_13 rfl rfl lk_X1_79 ⟨by decide, by decide⟩ (Nat.le_of_ble_eq_true rfl) ⟨Nat.le_refl _, Nat.le_refl _⟩ hK (fun v σ' hq => ?_) (fun E σ' hq => ?_)
  · obtain ⟨r, e, hf⟩ := hq; cases e; exact kr r σ' hf
  · obtain ⟨r, e, hf⟩ := hq; cases e
theorem sg_X1_fitsWithSign_16 {L : Nat} {xs : Nat → Int32} {σ : ks_St} {mc ms : Nat} {P : ka_O → ks_St → Prop} {a1 na1 : Nat} {a2 na2 : Nat} {a3 na3 : Nat} {s0 : Int32} (ha1 : rl_ a1 na1) (ha2 : rl_ a2 na2) (ha3 : rl_ a3 na3) (k1 : ks_W L xs mX1_fitsWithSign rm_X1_fitsWithSign 20 [(0, .ref 6), (1, .ref a1), (2, .ref a2), (3, .ref a3), (4, .int s0)] [.ref a1, .ref 6] σ mc ms P) : ks_W L xs mX1_fitsWithSign rm_X1_fitsWithSign 16 [(0, .ref 6), (1, .ref a1), (2, .ref a2), (3, .ref a3)] [.int s0] σ mc ms P := by
  refine ka_istore (ls' := [(4, .int s0), (0, .ref 6), (1, .ref a1), (2, .ref a2), (3, .ref a3)]) d_X1_fitsWithSign_16 rfl (by decide) rfl ?_
  refine ka_aload_n d_X1_fitsWithSign_18 rfl rfl 1 rfl ?_
  refine ka_aload_n d_X1_fitsWithSign_19 rfl rfl 2 rfl ?_
  refine ka_sub [1, 2, 3, 4, 0] rfl ?_
  exact k1
theorem cs_X1_fitsWithSign_20 {L : Nat} {xs : Nat → Int32} {σ : ks_St} {mc ms : Nat} {P : ka_O → ks_St → Prop} {f : Int32 → ks_St → Prop} {a1 : Nat} {a2 : Nat} {a3 : Nat} {x4 : Int32} (hK : ks_M L xs mX1_highest rm_X1_highest [.ref 6, .ref a1] σ (pi_ f)) (kr : ∀ r σ', f r σ' → ks_W L xs mX1_fitsWithSign rm_X1_fitsWithSign 23 [(0, .ref 6), (1, .ref a1), (2, .ref a2), (3, .ref a3), (4, .int x4)] [.int r] σ' mc ms P) : ks_W L xs mX1_fitsWithSign rm_X1_fitsWithSign 20 [(0, .ref 6), (1, .ref a1), (2, .ref a2), (3, .ref a3), (4, .int x4)] [.ref a1, .ref 6] σ mc ms P := by
  refine ks_callV (q := 23) (o := 6) (ci := 2) (As := [.ref a1]) (st := []) d_X1_fitsWithSign_20 rfl rfl (by decide) rfl rfl lk_X1_75 ⟨by decide, by decide⟩ (Nat.le_of_ble_eq_true rfl) ⟨Nat.le_refl _, Nat.le_refl _⟩ hK (fun v σ' hq => ?_) (fun E σ' hq => ?_)
  · obtain ⟨r, e, hf⟩ := hq; cases e; exact kr r σ' hf
  · obtain ⟨r, e, hf⟩ := hq; cases e
theorem sg_X1_fitsWithSign_23 {L : Nat} {xs : Nat → Int32} {σ : ks_St} {mc ms : Nat} {P : ka_O → ks_St → Prop} {a1 na1 : Nat} {a2 na2 : Nat} {a3 na3 : Nat} {x4 : Int32} {s0 : Int32} (ha1 : rl_ a1 na1) (ha2 : rl_ a2 na2) (ha3 : rl_ a3 na3) (k2 : (¬ s0 = 1) → ks_W L xs mX1_fitsWithSign rm_X1_fitsWithSign 33 [(0, .ref 6), (1, .ref a1), (2, .ref a2), (3, .ref a3), (4, .int x4)] [] σ mc ms P) (k3 : (s0 = 1) → ks_W L xs mX1_fitsWithSign rm_X1_fitsWithSign 30 [(0, .ref 6), (1, .ref a1), (2, .ref a2), (3, .ref a3), (4, .int x4)] [.ref a3, .ref a2, .ref a3] σ mc ms P) : ks_W L xs mX1_fitsWithSign rm_X1_fitsWithSign 23 [(0, .ref 6), (1, .ref a1), (2, .ref a2), (3, .ref a3), (4, .int x4)] [.int s0] σ mc ms P := by
  refine ka_iconst (v := 1) d_X1_fitsWithSign_23 rfl (by decide) ?_
  refine ka_icmp_ne (tgt := 33) d_X1_fitsWithSign_24 (by decide) rfl (fun c1 => ?_) (fun c1 => ?_)
  · exact (k2 c1)
  · refine ka_aload_n d_X1_fitsWithSign_27 rfl rfl 3 rfl ?_
    refine ka_aload_n d_X1_fitsWithSign_28 rfl rfl 2 rfl ?_
    refine ka_aload_n d_X1_fitsWithSign_29 rfl rfl 3 rfl ?_
    exact (k3 c1)
theorem cs_X1_fitsWithSign_30 {L : Nat} {xs : Nat → Int32} {σ : ks_St} {mc ms : Nat} {P : ka_O → ks_St → Prop} {f : ks_St → Prop} {a1 : Nat} {a2 : Nat} {a3 : Nat} {x4 : Int32} (hK : ks_M L xs mX3_subtract rm_X3_subtract [.ref a3, .ref a2, .ref a3] σ (pv_ f)) (kr : ∀ σ', f σ' → ks_W L xs mX1_fitsWithSign rm_X1_fitsWithSign 33 [(0, .ref 6), (1, .ref a1), (2, .ref a2), (3, .ref a3), (4, .int x4)] [] σ' mc ms P) : ks_W L xs mX1_fitsWithSign rm_X1_fitsWithSign 30 [(0, .ref 6), (1, .ref a1), (2, .ref a2), (3, .ref a3), (4, .int x4)] [.ref a3, .ref a2, .ref a3] σ mc ms P := by
  refine ks_callS (q := 33) (As := [.ref a3, .ref a2, .ref a3]) (st := []) d_X1_fitsWithSign_30 rfl rfl lk_X1_86 ⟨by decide, by decide⟩ (Nat.le_of_ble_eq_true rfl) ⟨Nat.le_refl _, Nat.le_refl _⟩ hK (fun v σ' hq => ?_) (fun E σ' hq => ?_)
  · obtain ⟨e, hf⟩ := hq; cases e; exact kr σ' hf
  · obtain ⟨e, hf⟩ := hq; cases e
theorem sg_X1_fitsWithSign_33 {L : Nat} {xs : Nat → Int32} {σ : ks_St} {mc ms : Nat} {P : ka_O → ks_St → Prop} {a1 na1 : Nat} {a2 na2 : Nat} {a3 na3 : Nat} {x4 : Int32} (ha1 : rl_ a1 na1) (ha2 : rl_ a2 na2) (ha3 : rl_ a3 na3) (k1 : ks_W L xs mX1_fitsWithSign rm_X1_fitsWithSign 35 [(0, .ref 6), (1, .ref a1), (3, .ref a3), (4, .int x4)] [.ref a2, .ref 6] σ mc ms P) : ks_W L xs mX1_fitsWithSign rm_X1_fitsWithSign 33 [(0, .ref 6), (1, .ref a1), (2, .ref a2), (3, .ref a3), (4, .int x4)] [] σ mc ms P := by
  refine ka_aload_n d_X1_fitsWithSign_33 rfl rfl 0 rfl ?_
  refine ka_aload_n d_X1_fitsWithSign_34 rfl rfl 2 rfl ?_
  refine ka_sub [0, 1, 3, 4] rfl ?_
  exact k1
theorem cs_X1_fitsWithSign_35 {L : Nat} {xs : Nat → Int32} {σ : ks_St} {mc ms : Nat} {P : ka_O → ks_St → Prop} {f : Int32 → ks_St → Prop} {a1 : Nat} {a3 : Nat} {x4 : Int32} {a2 : Nat} (hK : ks_M L xs mX1_highest rm_X1_highest [.ref 6, .ref a2] σ (pi_ f)) (kr : ∀ r σ', f r σ' → ks_W L xs mX1_fitsWithSign rm_X1_fitsWithSign 38 [(0, .ref 6), (1, .ref a1), (3, .ref a3), (4, .int x4)] [.int r] σ' mc ms P) : ks_W L xs mX1_fitsWithSign rm_X1_fitsWithSign 35 [(0, .ref 6), (1, .ref a1), (3, .ref a3), (4, .int x4)] [.ref a2, .ref 6] σ mc ms P := by
  refine ks_callV (q := 38) (o := 6) (ci := 2) (As := [.ref a2]) (st := []) d_X1_fitsWithSign_35 rfl rfl (by decide) rfl rfl lk_X1_75 ⟨by decide, by decide⟩ (Nat.le_of_ble_eq_true rfl) ⟨Nat.le_refl _, Nat.le_refl _⟩ hK (fun v σ' hq => ?_) (fun E σ' hq => ?_)
  · obtain ⟨r, e, hf⟩ := hq; cases e; exact kr r σ' hf
  · obtain ⟨r, e, hf⟩ := hq; cases e
theorem sg_X1_fitsWithSign_38 {L : Nat} {xs : Nat → Int32} {σ : ks_St} {mc ms : Nat} {P : ka_O → ks_St → Prop} {a1 na1 : Nat} {a3 na3 : Nat} {x4 : Int32} {s0 : Int32} (ha1 : rl_ a1 na1) (ha3 : rl_ a3 na3) (k2 : (¬ s0 = 1) → ks_W L xs mX1_fitsWithSign rm_X1_fitsWithSign 48 [(0, .ref 6), (3, .ref a3), (4, .int x4)] [] σ mc ms P) (k3 : (s0 = 1) → ks_W L xs mX1_fitsWithSign rm_X1_fitsWithSign 45 [(0, .ref 6), (3, .ref a3), (4, .int x4)] [.ref a3, .ref a1, .ref a3] σ mc ms P) : ks_W L xs mX1_fitsWithSign rm_X1_fitsWithSign 38 [(0, .ref 6), (1, .ref a1), (3, .ref a3), (4, .int x4)] [.int s0] σ mc ms P := by
  refine ka_iconst (v := 1) d_X1_fitsWithSign_38 rfl (by decide) ?_
  refine ka_icmp_ne (tgt := 48) d_X1_fitsWithSign_39 (by decide) rfl (fun c1 => ?_) (fun c1 => ?_)
  · refine ka_sub [0, 2, 3] rfl ?_
    exact (k2 c1)
  · refine ka_aload_n d_X1_fitsWithSign_42 rfl rfl 2 rfl ?_
    refine ka_aload_n d_X1_fitsWithSign_43 rfl rfl 1 rfl ?_
    refine ka_aload_n d_X1_fitsWithSign_44 rfl rfl 2 rfl ?_
    refine ka_sub [0, 2, 3] rfl ?_
    exact (k3 c1)
theorem cs_X1_fitsWithSign_45 {L : Nat} {xs : Nat → Int32} {σ : ks_St} {mc ms : Nat} {P : ka_O → ks_St → Prop} {f : ks_St → Prop} {a3 : Nat} {x4 : Int32} {a1 : Nat} (hK : ks_M L xs mX3_subtract rm_X3_subtract [.ref a3, .ref a1, .ref a3] σ (pv_ f)) (kr : ∀ σ', f σ' → ks_W L xs mX1_fitsWithSign rm_X1_fitsWithSign 48 [(0, .ref 6), (3, .ref a3), (4, .int x4)] [] σ' mc ms P) : ks_W L xs mX1_fitsWithSign rm_X1_fitsWithSign 45 [(0, .ref 6), (3, .ref a3), (4, .int x4)] [.ref a3, .ref a1, .ref a3] σ mc ms P := by
  refine ks_callS (q := 48) (As := [.ref a3, .ref a1, .ref a3]) (st := []) d_X1_fitsWithSign_45 rfl rfl lk_X1_86 ⟨by decide, by decide⟩ (Nat.le_of_ble_eq_true rfl) ⟨Nat.le_refl _, Nat.le_refl _⟩ hK (fun v σ' hq => ?_) (fun E σ' hq => ?_)
  · obtain ⟨e, hf⟩ := hq; cases e; exact kr σ' hf
  · obtain ⟨e, hf⟩ := hq; cases e
theorem sg_X1_fitsWithSign_48 {L : Nat} {xs : Nat → Int32} {σ : ks_St} {mc ms : Nat} {P : ka_O → ks_St → Prop} {a3 na3 : Nat} {x4 : Int32} (ha3 : rl_ a3 na3) (k1 : ks_W L xs mX1_fitsWithSign rm_X1_fitsWithSign 53 [(0, .ref 6), (3, .ref a3), (4, .int x4)] [.int (si_ σ 6), .ref a3] σ mc ms P) : ks_W L xs mX1_fitsWithSign rm_X1_fitsWithSign 48 [(0, .ref 6), (3, .ref a3), (4, .int x4)] [] σ mc ms P := by
  refine ka_aload_n d_X1_fitsWithSign_48 rfl rfl 1 rfl ?_
  refine ka_aload_n d_X1_fitsWithSign_49 rfl rfl 0 rfl ?_
  refine gf_X1_4 d_X1_fitsWithSign_50 rfl fl_X1_24 ?_
  exact k1
theorem cs_X1_fitsWithSign_53 {L : Nat} {xs : Nat → Int32} {σ : ks_St} {mc ms : Nat} {P : ka_O → ks_St → Prop} {f : ks_St → Prop} {a3 : Nat} {x4 : Int32} {s1 : Int32} (hK : ks_M L xs mX3_cut rm_X3_cut [.ref a3, .int s1] σ (pv_ f)) (kr : ∀ σ', f σ' → ks_W L xs mX1_fitsWithSign rm_X1_fitsWithSign 56 [(0, .ref 6), (3, .ref a3), (4, .int x4)] [] σ' mc ms P) : ks_W L xs mX1_fitsWithSign rm_X1_fitsWithSign 53 [(0, .ref 6), (3, .ref a3), (4, .int x4)] [.int s1, .ref a3] σ mc ms P := by
  refine ks_callS (q := 56) (As := [.ref a3, .int s1]) (st := []) d_X1_fitsWithSign_53 rfl rfl lk_X1_65 ⟨by decide, by decide⟩ (Nat.le_of_ble_eq_true rfl) ⟨Nat.le_refl _, Nat.le_refl _⟩ hK (fun v σ' hq => ?_) (fun E σ' hq => ?_)
  · obtain ⟨e, hf⟩ := hq; cases e; exact kr σ' hf
  · obtain ⟨e, hf⟩ := hq; cases e
theorem sg_X1_fitsWithSign_56 {L : Nat} {xs : Nat → Int32} {σ : ks_St} {mc ms : Nat} {P : ka_O → ks_St → Prop} {a3 na3 : Nat} {x4 : Int32} (ha3 : rl_ a3 na3) (k2 : (¬ x4 = 1) → ks_W L xs mX1_fitsWithSign rm_X1_fitsWithSign 86 [] [.ref a3] σ mc ms P) (k3 : (x4 = 1) → ks_W L xs mX1_fitsWithSign rm_X1_fitsWithSign 67 [(3, .ref a3)] [.int (si_ σ 6), .ref a3] σ mc ms P) : ks_W L xs mX1_fitsWithSign rm_X1_fitsWithSign 56 [(0, .ref 6), (3, .ref a3), (4, .int x4)] [] σ mc ms P := by
  refine ka_iload d_X1_fitsWithSign_56 rfl 2 rfl ?_
  refine ka_iconst (v := 1) d_X1_fitsWithSign_58 rfl (by decide) ?_
  refine ka_icmp_ne (tgt := 85) d_X1_fitsWithSign_59 (by decide) rfl (fun c1 => ?_) (fun c1 => ?_)
  · refine ka_aload_n d_X1_fitsWithSign_85 rfl rfl 1 rfl ?_
    refine ka_sub [] rfl ?_
    exact (k2 c1)
  · refine ka_aload_n d_X1_fitsWithSign_62 rfl rfl 1 rfl ?_
    refine ka_aload_n d_X1_fitsWithSign_63 rfl rfl 0 rfl ?_
    refine gf_X1_4 d_X1_fitsWithSign_64 rfl fl_X1_24 ?_
    refine ka_sub [1] rfl ?_
    exact (k3 c1)
theorem cs_X1_fitsWithSign_67 {L : Nat} {xs : Nat → Int32} {σ : ks_St} {mc ms : Nat} {P : ka_O → ks_St → Prop} {f : ks_St → Prop} {a3 : Nat} {s1 : Int32} (hK : ks_M L xs mX3_negate rm_X3_negate [.ref a3, .int s1] σ (pv_ f)) (kr : ∀ σ', f σ' → ks_W L xs mX1_fitsWithSign rm_X1_fitsWithSign 70 [(3, .ref a3)] [] σ' mc ms P) : ks_W L xs mX1_fitsWithSign rm_X1_fitsWithSign 67 [(3, .ref a3)] [.int s1, .ref a3] σ mc ms P := by
  refine ks_callS (q := 70) (As := [.ref a3, .int s1]) (st := []) d_X1_fitsWithSign_67 rfl rfl lk_X1_103 ⟨by decide, by decide⟩ (Nat.le_of_ble_eq_true rfl) ⟨Nat.le_refl _, Nat.le_refl _⟩ hK (fun v σ' hq => ?_) (fun E σ' hq => ?_)
  · obtain ⟨e, hf⟩ := hq; cases e; exact kr σ' hf
  · obtain ⟨e, hf⟩ := hq; cases e
theorem sg_X1_fitsWithSign_70 {L : Nat} {xs : Nat → Int32} {σ : ks_St} {mc ms : Nat} {P : ka_O → ks_St → Prop} {a3 na3 : Nat} (ha3 : rl_ a3 na3) (k1 : ks_W L xs mX1_fitsWithSign rm_X1_fitsWithSign 72 [] [.int 2, .ref a3] σ mc ms P) : ks_W L xs mX1_fitsWithSign rm_X1_fitsWithSign 70 [(3, .ref a3)] [] σ mc ms P := by
  refine ka_aload_n d_X1_fitsWithSign_70 rfl rfl 0 rfl ?_
  refine ka_iconst (v := 2) d_X1_fitsWithSign_71 rfl (by decide) ?_
  refine ka_sub [] rfl ?_
  exact k1
theorem cs_X1_fitsWithSign_72 {L : Nat} {xs : Nat → Int32} {σ : ks_St} {mc ms : Nat} {P : ka_O → ks_St → Prop} {f : Int32 → ks_St → Prop} {a3 : Nat} {s1 : Int32} (hK : ks_M L xs mX3_atMost rm_X3_atMost [.ref a3, .int s1] σ (pi_ f)) (kr : ∀ r σ', f r σ' → ks_W L xs mX1_fitsWithSign rm_X1_fitsWithSign 75 [] [.int r] σ' mc ms P) : ks_W L xs mX1_fitsWithSign rm_X1_fitsWithSign 72 [] [.int s1, .ref a3] σ mc ms P := by
  refine ks_callS (q := 75) (As := [.ref a3, .int s1]) (st := []) d_X1_fitsWithSign_72 rfl rfl lk_X1_106 ⟨by decide, by decide⟩ (Nat.le_of_ble_eq_true rfl) ⟨Nat.le_refl _, Nat.le_refl _⟩ hK (fun v σ' hq => ?_) (fun E σ' hq => ?_)
  · obtain ⟨r, e, hf⟩ := hq; cases e; exact kr r σ' hf
  · obtain ⟨r, e, hf⟩ := hq; cases e
theorem sg_X1_fitsWithSign_75 {L : Nat} {xs : Nat → Int32} {σ : ks_St} {mc ms : Nat} {P : ka_O → ks_St → Prop} {s0 : Int32}  (k2 : (¬ s0 = 1) → ks_W L xs mX1_fitsWithSign rm_X1_fitsWithSign 84 [] [.int 0] σ mc ms P) (k3 : (s0 = 1) → ks_W L xs mX1_fitsWithSign rm_X1_fitsWithSign 84 [] [.int 1] σ mc ms P) : ks_W L xs mX1_fitsWithSign rm_X1_fitsWithSign 75 [] [.int s0] σ mc ms P := by
  refine ka_iconst (v := 1) d_X1_fitsWithSign_75 rfl (by decide) ?_
  refine ka_icmp_ne (tgt := 83) d_X1_fitsWithSign_76 (by decide) rfl (fun c1 => ?_) (fun c1 => ?_)
  · refine ka_iconst (v := 0) d_X1_fitsWithSign_83 rfl (by decide) ?_
    exact (k2 c1)
  · refine ka_iconst (v := 1) d_X1_fitsWithSign_79 rfl (by decide) ?_
    refine ka_goto (q := 84) d_X1_fitsWithSign_80 (by decide) ?_
    exact (k3 c1)
theorem sg_X1_fitsWithSign_84 {L : Nat} {xs : Nat → Int32} {σ : ks_St} {mc ms : Nat} {P : ka_O → ks_St → Prop} {s0 : Int32}  (b1 : narrow .boolean (.int s0) = .int s0) (r2 : P (.inl (some (.int s0))) σ) : ks_W L xs mX1_fitsWithSign rm_X1_fitsWithSign 84 [] [.int s0] σ mc ms P := by
  exact ks_iret (ty := .boolean) d_X1_fitsWithSign_84 rfl b1 r2
theorem cs_X1_fitsWithSign_86 {L : Nat} {xs : Nat → Int32} {σ : ks_St} {mc ms : Nat} {P : ka_O → ks_St → Prop} {f : Int32 → ks_St → Prop} {a3 : Nat} (hK : ks_M L xs mX3_isNought rm_X3_isNought [.ref a3] σ (pi_ f)) (kr : ∀ r σ', f r σ' → ks_W L xs mX1_fitsWithSign rm_X1_fitsWithSign 89 [] [.int r] σ' mc ms P) : ks_W L xs mX1_fitsWithSign rm_X1_fitsWithSign 86 [] [.ref a3] σ mc ms P := by
  refine ks_callS (q := 89) (As := [.ref a3]) (st := []) d_X1_fitsWithSign_86 rfl rfl lk_X1_71 ⟨by decide, by decide⟩ (Nat.le_of_ble_eq_true rfl) ⟨Nat.le_refl _, Nat.le_refl _⟩ hK (fun v σ' hq => ?_) (fun E σ' hq => ?_)
  · obtain ⟨r, e, hf⟩ := hq; cases e; exact kr r σ' hf
  · obtain ⟨r, e, hf⟩ := hq; cases e
theorem sg_X1_fitsWithSign_89 {L : Nat} {xs : Nat → Int32} {σ : ks_St} {mc ms : Nat} {P : ka_O → ks_St → Prop} {s0 : Int32}  (b1 : narrow .boolean (.int s0) = .int s0) (r2 : P (.inl (some (.int s0))) σ) : ks_W L xs mX1_fitsWithSign rm_X1_fitsWithSign 89 [] [.int s0] σ mc ms P := by
  exact ks_iret (ty := .boolean) d_X1_fitsWithSign_89 rfl b1 r2
theorem d_X1_product_0 : decode cX1_product 0 = .ok (.aload_n 0, 1) := by decide +kernel
theorem d_X1_product_1 : decode cX1_product 1 = .ok (.getfield 30, 3) := by decide +kernel
theorem d_X1_product_4 : decode cX1_product 4 = .ok (.aload_n 2, 1) := by decide +kernel
theorem d_X1_product_5 : decode cX1_product 5 = .ok (.aload_n 3, 1) := by decide +kernel
theorem d_X1_product_6 : decode cX1_product 6 = .ok (.aload_n 0, 1) := by decide +kernel
theorem d_X1_product_7 : decode cX1_product 7 = .ok (.getfield 24, 3) := by decide +kernel
theorem d_X1_product_10 : decode cX1_product 10 = .ok (.invokevirtual 89, 3) := by decide +kernel
theorem d_X1_product_13 : decode cX1_product 13 = .ok (.aload_n 0, 1) := by decide +kernel
theorem d_X1_product_14 : decode cX1_product 14 = .ok (.getfield 30, 3) := by decide +kernel
theorem d_X1_product_17 : decode cX1_product 17 = .ok (.getfield 93, 3) := by decide +kernel
theorem d_X1_product_20 : decode cX1_product 20 = .ok (.aload_n 0, 1) := by decide +kernel
theorem d_X1_product_21 : decode cX1_product 21 = .ok (.getfield 24, 3) := by decide +kernel
theorem d_X1_product_24 : decode cX1_product 24 = .ok (.ineg, 1) := by decide +kernel
theorem d_X1_product_25 : decode cX1_product 25 = .ok (.aload 4, 2) := by decide +kernel
theorem d_X1_product_27 : decode cX1_product 27 = .ok (.invokestatic 95, 3) := by decide +kernel
theorem d_X1_product_30 : decode cX1_product 30 = .ok (.iload_n 1, 1) := by decide +kernel
theorem d_X1_product_31 : decode cX1_product 31 = .ok (.iconst 3, 1) := by decide +kernel
theorem d_X1_product_32 : decode cX1_product 32 = .ok (.if_icmp .ne 4, 3) := by decide +kernel
theorem d_X1_product_35 : decode cX1_product 35 = .ok (.return_, 1) := by decide +kernel
theorem d_X1_product_36 : decode cX1_product 36 = .ok (.aload_n 0, 1) := by decide +kernel
theorem d_X1_product_37 : decode cX1_product 37 = .ok (.aload 4, 2) := by decide +kernel
theorem d_X1_product_39 : decode cX1_product 39 = .ok (.invokestatic 71, 3) := by decide +kernel
theorem d_X1_product_42 : decode cX1_product 42 = .ok (.ifCond .eq 7, 3) := by decide +kernel
theorem d_X1_product_45 : decode cX1_product 45 = .ok (.iconst 0, 1) := by decide +kernel
theorem d_X1_product_46 : decode cX1_product 46 = .ok (.goto 4, 3) := by decide +kernel
theorem d_X1_product_49 : decode cX1_product 49 = .ok (.iconst 1, 1) := by decide +kernel
theorem d_X1_product_50 : decode cX1_product 50 = .ok (.putfield 9, 3) := by decide +kernel
theorem d_X1_product_53 : decode cX1_product 53 = .ok (.aload_n 0, 1) := by decide +kernel
theorem d_X1_product_54 : decode cX1_product 54 = .ok (.aload_n 2, 1) := by decide +kernel
theorem d_X1_product_55 : decode cX1_product 55 = .ok (.aload_n 3, 1) := by decide +kernel
theorem d_X1_product_56 : decode cX1_product 56 = .ok (.aload 4, 2) := by decide +kernel
theorem d_X1_product_58 : decode cX1_product 58 = .ok (.invokevirtual 99, 3) := by decide +kernel
theorem d_X1_product_61 : decode cX1_product 61 = .ok (.istore 5, 2) := by decide +kernel
theorem d_X1_product_63 : decode cX1_product 63 = .ok (.aload_n 0, 1) := by decide +kernel
theorem d_X1_product_64 : decode cX1_product 64 = .ok (.getfield 30, 3) := by decide +kernel
theorem d_X1_product_67 : decode cX1_product 67 = .ok (.getfield 93, 3) := by decide +kernel
theorem d_X1_product_70 : decode cX1_product 70 = .ok (.iconst 0, 1) := by decide +kernel
theorem d_X1_product_71 : decode cX1_product 71 = .ok (.aload 4, 2) := by decide +kernel
theorem d_X1_product_73 : decode cX1_product 73 = .ok (.invokestatic 95, 3) := by decide +kernel
theorem d_X1_product_76 : decode cX1_product 76 = .ok (.aload_n 0, 1) := by decide +kernel
theorem d_X1_product_77 : decode cX1_product 77 = .ok (.iload 5, 2) := by decide +kernel
theorem d_X1_product_79 : decode cX1_product 79 = .ok (.ifCond .eq 7, 3) := by decide +kernel
theorem d_X1_product_82 : decode cX1_product 82 = .ok (.iconst 0, 1) := by decide +kernel
theorem d_X1_product_83 : decode cX1_product 83 = .ok (.goto 4, 3) := by decide +kernel
theorem d_X1_product_86 : decode cX1_product 86 = .ok (.iconst 1, 1) := by decide +kernel
theorem d_X1_product_87 : decode cX1_product 87 = .ok (.putfield 15, 3) := by decide +kernel
theorem d_X1_product_90 : decode cX1_product 90 = .ok (.return_, 1) := by decide +kernel
theorem sg_X1_product_0 {L : Nat} {xs : Nat → Int32} {σ : ks_St} {mc ms : Nat} {P : ka_O → ks_St → Prop} {x1 : Int32} {a2 na2 : Nat} {a3 na3 : Nat} {a4 na4 : Nat} (ha2 : rl_ a2 na2) (ha3 : rl_ a3 na3) (ha4 : rl_ a4 na4) (k1 : ks_W L xs mX1_product rm_X1_product 10 [(0, .ref 6), (1, .int x1), (2, .ref a2), (3, .ref a3), (4, .ref a4)] [.int (si_ σ 6), .ref a3, .ref a2, .ref 7] σ mc ms P) : ks_W L xs mX1_product rm_X1_product 0 [(0, .ref 6), (1, .int x1), (2, .ref a2), (3, .ref a3), (4, .ref a4)] [] σ mc ms P := by
  refine ka_aload_n d_X1_product_0 rfl rfl 0 rfl ?_
  refine gf_X1_5 d_X1_product_1 rfl fl_X1_30 ?_
  refine ka_aload_n d_X1_product_4 rfl rfl 2 rfl ?_
  refine ka_aload_n d_X1_product_5 rfl rfl 3 rfl ?_
  refine ka_aload_n d_X1_product_6 rfl rfl 0 rfl ?_
  refine gf_X1_4 d_X1_product_7 rfl fl_X1_24 ?_
  exact k1
theorem cs_X1_product_10 {L : Nat} {xs : Nat → Int32} {σ : ks_St} {mc ms : Nat} {P : ka_O → ks_St → Prop} {f : ks_St → Prop} {x1 : Int32} {a2 : Nat} {a3 : Nat} {a4 : Nat} {s3 : Int32} (hK : ks_M L xs mX0_multiply rm_X0_multiply [.ref 7, .ref a2, .ref a3, .int s3] σ (pv_ f)) (kr : ∀ σ', f σ' → ks_W L xs mX1_product rm_X1_product 13 [(0, .ref 6), (1, .int x1), (2, .ref a2), (3, .ref a3), (4, .ref a4)] [] σ' mc ms P) : ks_W L xs mX1_product rm_X1_product 10 [(0, .ref 6), (1, .int x1), (2, .ref a2), (3, .ref a3), (4, .ref a4)] [.int s3, .ref a3, .ref a2, .ref 7] σ mc ms P := by
  refine ks_callV (q := 13) (o := 7) (ci := 1) (As := [.ref a2, .ref a3, .int s3]) (st := []) d_X1_product_10 rfl rfl (by decide) rfl rfl lk_X1_89 ⟨by decide, by decide⟩ (Nat.le_of_ble_eq_true rfl) ⟨Nat.le_refl _, Nat.le_refl _⟩ hK (fun v σ' hq => ?_) (fun E σ' hq => ?_)
  · obtain ⟨e, hf⟩ := hq; cases e; exact kr σ' hf
  · obtain ⟨e, hf⟩ := hq; cases e
theorem sg_X1_product_13 {L : Nat} {xs : Nat → Int32} {σ : ks_St} {mc ms : Nat} {P : ka_O → ks_St → Prop} {x1 : Int32} {a2 na2 : Nat} {a3 na3 : Nat} {a4 na4 : Nat} (ha2 : rl_ a2 na2) (ha3 : rl_ a3 na3) (ha4 : rl_ a4 na4) (k1 : ks_W L xs mX1_product rm_X1_product 27 [(0, .ref 6), (1, .int x1), (2, .ref a2), (3, .ref a3), (4, .ref a4)] [.ref a4, .int (-(si_ σ 6)), .ref 8] σ mc ms P) : ks_W L xs mX1_product rm_X1_product 13 [(0, .ref 6), (1, .int x1), (2, .ref a2), (3, .ref a3), (4, .ref a4)] [] σ mc ms P := by
  refine ka_aload_n d_X1_product_13 rfl rfl 0 rfl ?_
  refine gf_X1_5 d_X1_product_14 rfl fl_X1_30 ?_
  refine gf_X0_0 d_X1_product_17 rfl fl_X1_93 ?_
  refine ka_aload_n d_X1_product_20 rfl rfl 0 rfl ?_
  refine gf_X1_4 d_X1_product_21 rfl fl_X1_24 ?_
  refine ka_ineg d_X1_product_24 rfl ?_
  refine ka_aload d_X1_product_25 rfl 4 rfl ?_
  exact k1
theorem cs_X1_product_27 {L : Nat} {xs : Nat → Int32} {σ : ks_St} {mc ms : Nat} {P : ka_O → ks_St → Prop} {f : ks_St → Prop} {x1 : Int32} {a2 : Nat} {a3 : Nat} {a4 : Nat} {s1 : Int32} (hK : ks_M L xs mX3_moveUp rm_X3_moveUp [.ref 8, .int s1, .ref a4] σ (pv_ f)) (kr : ∀ σ', f σ' → ks_W L xs mX1_product rm_X1_product 30 [(0, .ref 6), (1, .int x1), (2, .ref a2), (3, .ref a3), (4, .ref a4)] [] σ' mc ms P) : ks_W L xs mX1_product rm_X1_product 27 [(0, .ref 6), (1, .int x1), (2, .ref a2), (3, .ref a3), (4, .ref a4)] [.ref a4, .int s1, .ref 8] σ mc ms P := by
  refine ks_callS (q := 30) (As := [.ref 8, .int s1, .ref a4]) (st := []) d_X1_product_27 rfl rfl lk_X1_95 ⟨by decide, by decide⟩ (Nat.le_of_ble_eq_true rfl) ⟨Nat.le_refl _, Nat.le_refl _⟩ hK (fun v σ' hq => ?_) (fun E σ' hq => ?_)
  · obtain ⟨e, hf⟩ := hq; cases e; exact kr σ' hf
  · obtain ⟨e, hf⟩ := hq; cases e
theorem sg_X1_product_30 {L : Nat} {xs : Nat → Int32} {σ : ks_St} {mc ms : Nat} {P : ka_O → ks_St → Prop} {x1 : Int32} {a2 na2 : Nat} {a3 na3 : Nat} {a4 na4 : Nat} (ha2 : rl_ a2 na2) (ha3 : rl_ a3 na3) (ha4 : rl_ a4 na4) (k2 : (¬ x1 = 3) → ks_W L xs mX1_product rm_X1_product 39 [(0, .ref 6), (2, .ref a2), (3, .ref a3), (4, .ref a4)] [.ref a4, .ref 6] σ mc ms P) (r3 : (x1 = 3) → P (.inl none) σ) : ks_W L xs mX1_product rm_X1_product 30 [(0, .ref 6), (1, .int x1), (2, .ref a2), (3, .ref a3), (4, .ref a4)] [] σ mc ms P := by
  refine ka_iload_n d_X1_product_30 rfl rfl 1 rfl ?_
  refine ka_iconst (v := 3) d_X1_product_31 rfl (by decide) ?_
  refine ka_icmp_ne (tgt := 36) d_X1_product_32 (by decide) rfl (fun c1 => ?_) (fun c1 => ?_)
  · refine ka_aload_n d_X1_product_36 rfl rfl 0 rfl ?_
    refine ka_aload d_X1_product_37 rfl 4 rfl ?_
    refine ka_sub [0, 2, 3, 4] rfl ?_
    exact (k2 c1)
  · exact ks_vret d_X1_product_35 rfl (r3 c1)
theorem cs_X1_product_39 {L : Nat} {xs : Nat → Int32} {σ : ks_St} {mc ms : Nat} {P : ka_O → ks_St → Prop} {f : Int32 → ks_St → Prop} {a2 : Nat} {a3 : Nat} {a4 : Nat} (hK : ks_M L xs mX3_isNought rm_X3_isNought [.ref a4] σ (pi_ f)) (kr : ∀ r σ', f r σ' → ks_W L xs mX1_product rm_X1_product 42 [(0, .ref 6), (2, .ref a2), (3, .ref a3), (4, .ref a4)] [.int r, .ref 6] σ' mc ms P) : ks_W L xs mX1_product rm_X1_product 39 [(0, .ref 6), (2, .ref a2), (3, .ref a3), (4, .ref a4)] [.ref a4, .ref 6] σ mc ms P := by
  refine ks_callS (q := 42) (As := [.ref a4]) (st := [.ref 6]) d_X1_product_39 rfl rfl lk_X1_71 ⟨by decide, by decide⟩ (Nat.le_of_ble_eq_true rfl) ⟨Nat.le_refl _, Nat.le_refl _⟩ hK (fun v σ' hq => ?_) (fun E σ' hq => ?_)
  · obtain ⟨r, e, hf⟩ := hq; cases e; exact kr r σ' hf
  · obtain ⟨r, e, hf⟩ := hq; cases e
theorem sg_X1_product_42 {L : Nat} {xs : Nat → Int32} {σ : ks_St} {mc ms : Nat} {P : ka_O → ks_St → Prop} {a2 na2 : Nat} {a3 na3 : Nat} {a4 na4 : Nat} {s1 : Int32} (ha2 : rl_ a2 na2) (ha3 : rl_ a3 na3) (ha4 : rl_ a4 na4) (k2 : (s1 = 0) → ks_W L xs mX1_product rm_X1_product 50 [(0, .ref 6), (2, .ref a2), (3, .ref a3), (4, .ref a4)] [.int 1, .ref 6] σ mc ms P) (k3 : (¬ (s1 = 0)) → ks_W L xs mX1_product rm_X1_product 50 [(0, .ref 6), (2, .ref a2), (3, .ref a3), (4, .ref a4)] [.int 0, .ref 6] σ mc ms P) : ks_W L xs mX1_product rm_X1_product 42 [(0, .ref 6), (2, .ref a2), (3, .ref a3), (4, .ref a4)] [.int s1, .ref 6] σ mc ms P := by
  refine ka_if_eq (tgt := 49) d_X1_product_42 (by decide) rfl (fun c1 => ?_) (fun c1 => ?_)
  · refine ka_iconst (v := 1) d_X1_product_49 rfl (by decide) ?_
    exact (k2 c1)
  · refine ka_iconst (v := 0) d_X1_product_45 rfl (by decide) ?_
    refine ka_goto (q := 50) d_X1_product_46 (by decide) ?_
    exact (k3 c1)
theorem sg_X1_product_50 {L : Nat} {xs : Nat → Int32} {σ : ks_St} {mc ms : Nat} {P : ka_O → ks_St → Prop} {a2 na2 : Nat} {a3 na3 : Nat} {a4 na4 : Nat} {s1 : Int32} (ha2 : rl_ a2 na2) (ha3 : rl_ a3 na3) (ha4 : rl_ a4 na4) (k1 : ks_W L xs mX1_product rm_X1_product 58 [(0, .ref 6), (4, .ref a4)] [.ref a4, .ref a3, .ref a2, .ref 6] (ui_ σ 2 s1) mc ms P) : ks_W L xs mX1_product rm_X1_product 50 [(0, .ref 6), (2, .ref a2), (3, .ref a3), (4, .ref a4)] [.int s1, .ref 6] σ mc ms P := by
  refine pf_X1_0 d_X1_product_50 rfl fl_X1_9 ?_
  refine ka_aload_n d_X1_product_53 rfl rfl 0 rfl ?_
  refine ka_aload_n d_X1_product_54 rfl rfl 1 rfl ?_
  refine ka_aload_n d_X1_product_55 rfl rfl 2 rfl ?_
  refine ka_aload d_X1_product_56 rfl 3 rfl ?_
  refine ka_sub [0, 3] rfl ?_
  exact k1
theorem cs_X1_product_58 {L : Nat} {xs : Nat → Int32} {σ : ks_St} {mc ms : Nat} {P : ka_O → ks_St → Prop} {f : Int32 → ks_St → Prop} {a4 : Nat} {a2 : Nat} {a3 : Nat} (hK : ks_M L xs mX1_fitsWithSign rm_X1_fitsWithSign [.ref 6, .ref a2, .ref a3, .ref a4] σ (pi_ f)) (kr : ∀ r σ', f r σ' → ks_W L xs mX1_product rm_X1_product 61 [(0, .ref 6), (4, .ref a4)] [.int r] σ' mc ms P) : ks_W L xs mX1_product rm_X1_product 58 [(0, .ref 6), (4, .ref a4)] [.ref a4, .ref a3, .ref a2, .ref 6] σ mc ms P := by
  refine ks_callV (q := 61) (o := 6) (ci := 2) (As := [.ref a2, .ref a3, .ref a4]) (st := []) d_X1_product_58 rfl rfl (by decide) rfl rfl lk_X1_99 ⟨by decide, by decide⟩ (Nat.le_of_ble_eq_true rfl) ⟨Nat.le_refl _, Nat.le_refl _⟩ hK (fun v σ' hq => ?_) (fun E σ' hq => ?_)
  · obtain ⟨r, e, hf⟩ := hq; cases e; exact kr r σ' hf
  · obtain ⟨r, e, hf⟩ := hq; cases e
theorem sg_X1_product_61 {L : Nat} {xs : Nat → Int32} {σ : ks_St} {mc ms : Nat} {P : ka_O → ks_St → Prop} {a4 na4 : Nat} {s0 : Int32} (ha4 : rl_ a4 na4) (k1 : ks_W L xs mX1_product rm_X1_product 73 [(0, .ref 6), (5, .int s0)] [.ref a4, .int 0, .ref 8] σ mc ms P) : ks_W L xs mX1_product rm_X1_product 61 [(0, .ref 6), (4, .ref a4)] [.int s0] σ mc ms P := by
  refine ka_istore (ls' := [(5, .int s0), (0, .ref 6), (4, .ref a4)]) d_X1_product_61 rfl (by decide) rfl ?_
  refine ka_aload_n d_X1_product_63 rfl rfl 1 rfl ?_
  refine gf_X1_5 d_X1_product_64 rfl fl_X1_30 ?_
  refine gf_X0_0 d_X1_product_67 rfl fl_X1_93 ?_
  refine ka_iconst (v := 0) d_X1_product_70 rfl (by decide) ?_
  refine ka_aload d_X1_product_71 rfl 2 rfl ?_
  refine ka_sub [1, 0] rfl ?_
  exact k1
theorem cs_X1_product_73 {L : Nat} {xs : Nat → Int32} {σ : ks_St} {mc ms : Nat} {P : ka_O → ks_St → Prop} {f : ks_St → Prop} {x5 : Int32} {s1 : Int32} {a4 : Nat} (hK : ks_M L xs mX3_moveUp rm_X3_moveUp [.ref 8, .int s1, .ref a4] σ (pv_ f)) (kr : ∀ σ', f σ' → ks_W L xs mX1_product rm_X1_product 76 [(0, .ref 6), (5, .int x5)] [] σ' mc ms P) : ks_W L xs mX1_product rm_X1_product 73 [(0, .ref 6), (5, .int x5)] [.ref a4, .int s1, .ref 8] σ mc ms P := by
  refine ks_callS (q := 76) (As := [.ref 8, .int s1, .ref a4]) (st := []) d_X1_product_73 rfl rfl lk_X1_95 ⟨by decide, by decide⟩ (Nat.le_of_ble_eq_true rfl) ⟨Nat.le_refl _, Nat.le_refl _⟩ hK (fun v σ' hq => ?_) (fun E σ' hq => ?_)
  · obtain ⟨e, hf⟩ := hq; cases e; exact kr σ' hf
  · obtain ⟨e, hf⟩ := hq; cases e
theorem sg_X1_product_76 {L : Nat} {xs : Nat → Int32} {σ : ks_St} {mc ms : Nat} {P : ka_O → ks_St → Prop} {x5 : Int32}  (k2 : (x5 = 0) → ks_W L xs mX1_product rm_X1_product 87 [] [.int 1, .ref 6] σ mc ms P) (k3 : (¬ (x5 = 0)) → ks_W L xs mX1_product rm_X1_product 87 [] [.int 0, .ref 6] σ mc ms P) : ks_W L xs mX1_product rm_X1_product 76 [(0, .ref 6), (5, .int x5)] [] σ mc ms P := by
  refine ka_aload_n d_X1_product_76 rfl rfl 0 rfl ?_
  refine ka_iload d_X1_product_77 rfl 1 rfl ?_
  refine ka_if_eq (tgt := 86) d_X1_product_79 (by decide) rfl (fun c1 => ?_) (fun c1 => ?_)
  · refine ka_iconst (v := 1) d_X1_product_86 rfl (by decide) ?_
    refine ka_sub [] rfl ?_
    exact (k2 c1)
  · refine ka_iconst (v := 0) d_X1_product_82 rfl (by decide) ?_
    refine ka_goto (q := 87) d_X1_product_83 (by decide) ?_
    refine ka_sub [] rfl ?_
    exact (k3 c1)
theorem sg_X1_product_87 {L : Nat} {xs : Nat → Int32} {σ : ks_St} {mc ms : Nat} {P : ka_O → ks_St → Prop} {s1 : Int32}  (r1 : P (.inl none) (ui_ σ 3 s1)) : ks_W L xs mX1_product rm_X1_product 87 [] [.int s1, .ref 6] σ mc ms P := by
  refine pf_X1_1 d_X1_product_87 rfl fl_X1_15 ?_
  exact ks_vret d_X1_product_90 rfl r1
theorem d_X1_quotientOrRest_0 : decode cX1_quotientOrRest 0 = .ok (.iload_n 1, 1) := by decide +kernel
theorem d_X1_quotientOrRest_1 : decode cX1_quotientOrRest 1 = .ok (.bipush 6, 2) := by decide +kernel
theorem d_X1_quotientOrRest_3 : decode cX1_quotientOrRest 3 = .ok (.if_icmp .lt 7, 3) := by decide +kernel
theorem d_X1_quotientOrRest_6 : decode cX1_quotientOrRest 6 = .ok (.iconst 1, 1) := by decide +kernel
theorem d_X1_quotientOrRest_7 : decode cX1_quotientOrRest 7 = .ok (.goto 4, 3) := by decide +kernel
theorem d_X1_quotientOrRest_10 : decode cX1_quotientOrRest 10 = .ok (.iconst 0, 1) := by decide +kernel
theorem d_X1_quotientOrRest_11 : decode cX1_quotientOrRest 11 = .ok (.istore 5, 2) := by decide +kernel
theorem d_X1_quotientOrRest_13 : decode cX1_quotientOrRest 13 = .ok (.iload 5, 2) := by decide +kernel
theorem d_X1_quotientOrRest_15 : decode cX1_quotientOrRest 15 = .ok (.ifCond .eq 16, 3) := by decide +kernel
theorem d_X1_quotientOrRest_18 : decode cX1_quotientOrRest 18 = .ok (.aload_n 0, 1) := by decide +kernel
theorem d_X1_quotientOrRest_19 : decode cX1_quotientOrRest 19 = .ok (.aload_n 2, 1) := by decide +kernel
theorem d_X1_quotientOrRest_20 : decode cX1_quotientOrRest 20 = .ok (.invokevirtual 75, 3) := by decide +kernel
theorem d_X1_quotientOrRest_23 : decode cX1_quotientOrRest 23 = .ok (.iconst 1, 1) := by decide +kernel
theorem d_X1_quotientOrRest_24 : decode cX1_quotientOrRest 24 = .ok (.if_icmp .ne 7, 3) := by decide +kernel
theorem d_X1_quotientOrRest_27 : decode cX1_quotientOrRest 27 = .ok (.iconst 1, 1) := by decide +kernel
theorem d_X1_quotientOrRest_28 : decode cX1_quotientOrRest 28 = .ok (.goto 4, 3) := by decide +kernel
theorem d_X1_quotientOrRest_31 : decode cX1_quotientOrRest 31 = .ok (.iconst 0, 1) := by decide +kernel
theorem d_X1_quotientOrRest_32 : decode cX1_quotientOrRest 32 = .ok (.istore 6, 2) := by decide +kernel
theorem d_X1_quotientOrRest_34 : decode cX1_quotientOrRest 34 = .ok (.iload 5, 2) := by decide +kernel
theorem d_X1_quotientOrRest_36 : decode cX1_quotientOrRest 36 = .ok (.ifCond .eq 16, 3) := by decide +kernel
theorem d_X1_quotientOrRest_39 : decode cX1_quotientOrRest 39 = .ok (.aload_n 0, 1) := by decide +kernel
theorem d_X1_quotientOrRest_40 : decode cX1_quotientOrRest 40 = .ok (.aload_n 3, 1) := by decide +kernel
theorem d_X1_quotientOrRest_41 : decode cX1_quotientOrRest 41 = .ok (.invokevirtual 75, 3) := by decide +kernel
theorem d_X1_quotientOrRest_44 : decode cX1_quotientOrRest 44 = .ok (.iconst 1, 1) := by decide +kernel
theorem d_X1_quotientOrRest_45 : decode cX1_quotientOrRest 45 = .ok (.if_icmp .ne 7, 3) := by decide +kernel
theorem d_X1_quotientOrRest_48 : decode cX1_quotientOrRest 48 = .ok (.iconst 1, 1) := by decide +kernel
theorem d_X1_quotientOrRest_49 : decode cX1_quotientOrRest 49 = .ok (.goto 4, 3) := by decide +kernel
theorem d_X1_quotientOrRest_52 : decode cX1_quotientOrRest 52 = .ok (.iconst 0, 1) := by decide +kernel
theorem d_X1_quotientOrRest_53 : decode cX1_quotientOrRest 53 = .ok (.istore 7, 2) := by decide +kernel
theorem d_X1_quotientOrRest_55 : decode cX1_quotientOrRest 55 = .ok (.iload 6, 2) := by decide +kernel
theorem d_X1_quotientOrRest_57 : decode cX1_quotientOrRest 57 = .ok (.ifCond .eq 11, 3) := by decide +kernel
theorem d_X1_quotientOrRest_60 : decode cX1_quotientOrRest 60 = .ok (.aload_n 2, 1) := by decide +kernel
theorem d_X1_quotientOrRest_61 : decode cX1_quotientOrRest 61 = .ok (.aload_n 0, 1) := by decide +kernel
theorem d_X1_quotientOrRest_62 : decode cX1_quotientOrRest 62 = .ok (.getfield 24, 3) := by decide +kernel
theorem d_X1_quotientOrRest_65 : decode cX1_quotientOrRest 65 = .ok (.invokestatic 103, 3) := by decide +kernel
theorem d_X1_quotientOrRest_68 : decode cX1_quotientOrRest 68 = .ok (.iload 7, 2) := by decide +kernel
theorem d_X1_quotientOrRest_70 : decode cX1_quotientOrRest 70 = .ok (.ifCond .eq 11, 3) := by decide +kernel
theorem d_X1_quotientOrRest_73 : decode cX1_quotientOrRest 73 = .ok (.aload_n 3, 1) := by decide +kernel
theorem d_X1_quotientOrRest_74 : decode cX1_quotientOrRest 74 = .ok (.aload_n 0, 1) := by decide +kernel
theorem d_X1_quotientOrRest_75 : decode cX1_quotientOrRest 75 = .ok (.getfield 24, 3) := by decide +kernel
theorem d_X1_quotientOrRest_78 : decode cX1_quotientOrRest 78 = .ok (.invokestatic 103, 3) := by decide +kernel
theorem d_X1_quotientOrRest_81 : decode cX1_quotientOrRest 81 = .ok (.aload_n 0, 1) := by decide +kernel
theorem d_X1_quotientOrRest_82 : decode cX1_quotientOrRest 82 = .ok (.getfield 30, 3) := by decide +kernel
theorem d_X1_quotientOrRest_85 : decode cX1_quotientOrRest 85 = .ok (.aload_n 2, 1) := by decide +kernel
theorem d_X1_quotientOrRest_86 : decode cX1_quotientOrRest 86 = .ok (.aload_n 3, 1) := by decide +kernel
theorem d_X1_quotientOrRest_87 : decode cX1_quotientOrRest 87 = .ok (.aload_n 0, 1) := by decide +kernel
theorem d_X1_quotientOrRest_88 : decode cX1_quotientOrRest 88 = .ok (.getfield 24, 3) := by decide +kernel
theorem d_X1_quotientOrRest_91 : decode cX1_quotientOrRest 91 = .ok (.invokevirtual 109, 3) := by decide +kernel
theorem d_X1_quotientOrRest_94 : decode cX1_quotientOrRest 94 = .ok (.iload_n 1, 1) := by decide +kernel
theorem d_X1_quotientOrRest_95 : decode cX1_quotientOrRest 95 = .ok (.iconst 4, 1) := by decide +kernel
theorem d_X1_quotientOrRest_96 : decode cX1_quotientOrRest 96 = .ok (.if_icmp .eq 9, 3) := by decide +kernel
theorem d_X1_quotientOrRest_99 : decode cX1_quotientOrRest 99 = .ok (.iload_n 1, 1) := by decide +kernel
theorem d_X1_quotientOrRest_100 : decode cX1_quotientOrRest 100 = .ok (.bipush 6, 2) := by decide +kernel
theorem d_X1_quotientOrRest_102 : decode cX1_quotientOrRest 102 = .ok (.if_icmp .ne 7, 3) := by decide +kernel
theorem d_X1_quotientOrRest_105 : decode cX1_quotientOrRest 105 = .ok (.iconst 1, 1) := by decide +kernel
theorem d_X1_quotientOrRest_106 : decode cX1_quotientOrRest 106 = .ok (.goto 4, 3) := by decide +kernel
theorem d_X1_quotientOrRest_109 : decode cX1_quotientOrRest 109 = .ok (.iconst 0, 1) := by decide +kernel
theorem d_X1_quotientOrRest_110 : decode cX1_quotientOrRest 110 = .ok (.istore 8, 2) := by decide +kernel
theorem d_X1_quotientOrRest_112 : decode cX1_quotientOrRest 112 = .ok (.iload 8, 2) := by decide +kernel
theorem d_X1_quotientOrRest_114 : decode cX1_quotientOrRest 114 = .ok (.ifCond .eq 13, 3) := by decide +kernel
theorem d_X1_quotientOrRest_117 : decode cX1_quotientOrRest 117 = .ok (.aload_n 0, 1) := by decide +kernel
theorem d_X1_quotientOrRest_118 : decode cX1_quotientOrRest 118 = .ok (.getfield 30, 3) := by decide +kernel
theorem d_X1_quotientOrRest_121 : decode cX1_quotientOrRest 121 = .ok (.getfield 112, 3) := by decide +kernel
theorem d_X1_quotientOrRest_124 : decode cX1_quotientOrRest 124 = .ok (.goto 10, 3) := by decide +kernel
theorem d_X1_quotientOrRest_127 : decode cX1_quotientOrRest 127 = .ok (.aload_n 0, 1) := by decide +kernel
theorem d_X1_quotientOrRest_128 : decode cX1_quotientOrRest 128 = .ok (.getfield 30, 3) := by decide +kernel
theorem d_X1_quotientOrRest_131 : decode cX1_quotientOrRest 131 = .ok (.getfield 115, 3) := by decide +kernel
theorem d_X1_quotientOrRest_134 : decode cX1_quotientOrRest 134 = .ok (.iconst 0, 1) := by decide +kernel
theorem d_X1_quotientOrRest_135 : decode cX1_quotientOrRest 135 = .ok (.aload 4, 2) := by decide +kernel
theorem d_X1_quotientOrRest_137 : decode cX1_quotientOrRest 137 = .ok (.invokestatic 95, 3) := by decide +kernel
theorem d_X1_quotientOrRest_140 : decode cX1_quotientOrRest 140 = .ok (.iload 8, 2) := by decide +kernel
theorem d_X1_quotientOrRest_142 : decode cX1_quotientOrRest 142 = .ok (.ifCond .eq 18, 3) := by decide +kernel
theorem d_X1_quotientOrRest_145 : decode cX1_quotientOrRest 145 = .ok (.iload 6, 2) := by decide +kernel
theorem d_X1_quotientOrRest_147 : decode cX1_quotientOrRest 147 = .ok (.iload 7, 2) := by decide +kernel
theorem d_X1_quotientOrRest_149 : decode cX1_quotientOrRest 149 = .ok (.if_icmp .eq 7, 3) := by decide +kernel
theorem d_X1_quotientOrRest_152 : decode cX1_quotientOrRest 152 = .ok (.iconst 1, 1) := by decide +kernel
theorem d_X1_quotientOrRest_153 : decode cX1_quotientOrRest 153 = .ok (.goto 9, 3) := by decide +kernel
theorem d_X1_quotientOrRest_156 : decode cX1_quotientOrRest 156 = .ok (.iconst 0, 1) := by decide +kernel
theorem d_X1_quotientOrRest_157 : decode cX1_quotientOrRest 157 = .ok (.goto 5, 3) := by decide +kernel
theorem d_X1_quotientOrRest_160 : decode cX1_quotientOrRest 160 = .ok (.iload 6, 2) := by decide +kernel
theorem d_X1_quotientOrRest_162 : decode cX1_quotientOrRest 162 = .ok (.istore 9, 2) := by decide +kernel
theorem d_X1_quotientOrRest_164 : decode cX1_quotientOrRest 164 = .ok (.iload 5, 2) := by decide +kernel
theorem d_X1_quotientOrRest_166 : decode cX1_quotientOrRest 166 = .ok (.ifCond .eq 23, 3) := by decide +kernel
theorem d_X1_quotientOrRest_169 : decode cX1_quotientOrRest 169 = .ok (.iload 8, 2) := by decide +kernel
theorem d_X1_quotientOrRest_171 : decode cX1_quotientOrRest 171 = .ok (.ifCond .eq 18, 3) := by decide +kernel
theorem d_X1_quotientOrRest_174 : decode cX1_quotientOrRest 174 = .ok (.iload 9, 2) := by decide +kernel
theorem d_X1_quotientOrRest_176 : decode cX1_quotientOrRest 176 = .ok (.ifCond .ne 13, 3) := by decide +kernel
theorem d_X1_quotientOrRest_179 : decode cX1_quotientOrRest 179 = .ok (.aload_n 0, 1) := by decide +kernel
theorem d_X1_quotientOrRest_180 : decode cX1_quotientOrRest 180 = .ok (.aload_n 0, 1) := by decide +kernel
theorem d_X1_quotientOrRest_181 : decode cX1_quotientOrRest 181 = .ok (.aload 4, 2) := by decide +kernel
theorem d_X1_quotientOrRest_183 : decode cX1_quotientOrRest 183 = .ok (.invokevirtual 75, 3) := by decide +kernel
theorem d_X1_quotientOrRest_186 : decode cX1_quotientOrRest 186 = .ok (.putfield 15, 3) := by decide +kernel
theorem d_X1_quotientOrRest_189 : decode cX1_quotientOrRest 189 = .ok (.iload 9, 2) := by decide +kernel
theorem d_X1_quotientOrRest_191 : decode cX1_quotientOrRest 191 = .ok (.ifCond .eq 12, 3) := by decide +kernel
theorem d_X1_quotientOrRest_194 : decode cX1_quotientOrRest 194 = .ok (.aload 4, 2) := by decide +kernel
theorem d_X1_quotientOrRest_196 : decode cX1_quotientOrRest 196 = .ok (.aload_n 0, 1) := by decide +kernel
theorem d_X1_quotientOrRest_197 : decode cX1_quotientOrRest 197 = .ok (.getfield 24, 3) := by decide +kernel
theorem d_X1_quotientOrRest_200 : decode cX1_quotientOrRest 200 = .ok (.invokestatic 103, 3) := by decide +kernel
theorem d_X1_quotientOrRest_203 : decode cX1_quotientOrRest 203 = .ok (.return_, 1) := by decide +kernel
theorem sg_X1_quotientOrRest_0 {L : Nat} {xs : Nat → Int32} {σ : ks_St} {mc ms : Nat} {P : ka_O → ks_St → Prop} {x1 : Int32} {a2 na2 : Nat} {a3 na3 : Nat} {a4 na4 : Nat} (ha2 : rl_ a2 na2) (ha3 : rl_ a3 na3) (ha4 : rl_ a4 na4) (k2 : (x1 < 6) → ks_W L xs mX1_quotientOrRest rm_X1_quotientOrRest 11 [(0, .ref 6), (1, .int x1), (2, .ref a2), (3, .ref a3), (4, .ref a4)] [.int 0] σ mc ms P) (k3 : (¬ (x1 < 6)) → ks_W L xs mX1_quotientOrRest rm_X1_quotientOrRest 11 [(0, .ref 6), (1, .int x1), (2, .ref a2), (3, .ref a3), (4, .ref a4)] [.int 1] σ mc ms P) : ks_W L xs mX1_quotientOrRest rm_X1_quotientOrRest 0 [(0, .ref 6), (1, .int x1), (2, .ref a2), (3, .ref a3), (4, .ref a4)] [] σ mc ms P := by
  refine ka_iload_n d_X1_quotientOrRest_0 rfl rfl 1 rfl ?_
  refine ka_bipush (v := 6) d_X1_quotientOrRest_1 rfl (by decide) ?_
  refine ka_icmp_lt (tgt := 10) d_X1_quotientOrRest_3 (by decide) rfl (fun c1 => ?_) (fun c1 => ?_)
  · refine ka_iconst (v := 0) d_X1_quotientOrRest_10 rfl (by decide) ?_
    exact (k2 c1)
  · refine ka_iconst (v := 1) d_X1_quotientOrRest_6 rfl (by decide) ?_
    refine ka_goto (q := 11) d_X1_quotientOrRest_7 (by decide) ?_
    exact (k3 c1)
theorem sg_X1_quotientOrRest_11 {L : Nat} {xs : Nat → Int32} {σ : ks_St} {mc ms : Nat} {P : ka_O → ks_St → Prop} {x1 : Int32} {a2 na2 : Nat} {a3 na3 : Nat} {a4 na4 : Nat} {s0 : Int32} (ha2 : rl_ a2 na2) (ha3 : rl_ a3 na3) (ha4 : rl_ a4 na4) (k2 : (s0 = 0) → ks_W L xs mX1_quotientOrRest rm_X1_quotientOrRest 31 [(0, .ref 6), (1, .int x1), (2, .ref a2), (3, .ref a3), (4, .ref a4), (5, .int s0)] [] σ mc ms P) (k3 : (¬ (s0 = 0)) → ks_W L xs mX1_quotientOrRest rm_X1_quotientOrRest 20 [(0, .ref 6), (1, .int x1), (2, .ref a2), (3, .ref a3), (4, .ref a4), (5, .int s0)] [.ref a2, .ref 6] σ mc ms P) : ks_W L xs mX1_quotientOrRest rm_X1_quotientOrRest 11 [(0, .ref 6), (1, .int x1), (2, .ref a2), (3, .ref a3), (4, .ref a4)] [.int s0] σ mc ms P := by
  refine ka_istore (ls' := [(5, .int s0), (0, .ref 6), (1, .int x1), (2, .ref a2), (3, .ref a3), (4, .ref a4)]) d_X1_quotientOrRest_11 rfl (by decide) rfl ?_
  refine ka_iload d_X1_quotientOrRest_13 rfl 0 rfl ?_
  refine ka_if_eq (tgt := 31) d_X1_quotientOrRest_15 (by decide) rfl (fun c1 => ?_) (fun c1 => ?_)
  · refine ka_sub [1, 2, 3, 4, 5, 0] rfl ?_
    exact (k2 c1)
  · refine ka_aload_n d_X1_quotientOrRest_18 rfl rfl 1 rfl ?_
    refine ka_aload_n d_X1_quotientOrRest_19 rfl rfl 3 rfl ?_
    refine ka_sub [1, 2, 3, 4, 5, 0] rfl ?_
    exact (k3 c1)
theorem cs_X1_quotientOrRest_20 {L : Nat} {xs : Nat → Int32} {σ : ks_St} {mc ms : Nat} {P : ka_O → ks_St → Prop} {f : Int32 → ks_St → Prop} {x1 : Int32} {a2 : Nat} {a3 : Nat} {a4 : Nat} {x5 : Int32} (hK : ks_M L xs mX1_highest rm_X1_highest [.ref 6, .ref a2] σ (pi_ f)) (kr : ∀ r σ', f r σ' → ks_W L xs mX1_quotientOrRest rm_X1_quotientOrRest 23 [(0, .ref 6), (1, .int x1), (2, .ref a2), (3, .ref a3), (4, .ref a4), (5, .int x5)] [.int r] σ' mc ms P) : ks_W L xs mX1_quotientOrRest rm_X1_quotientOrRest 20 [(0, .ref 6), (1, .int x1), (2, .ref a2), (3, .ref a3), (4, .ref a4), (5, .int x5)] [.ref a2, .ref 6] σ mc ms P := by
  refine ks_callV (q := 23) (o := 6) (ci := 2) (As := [.ref a2]) (st := []) d_X1_quotientOrRest_20 rfl rfl (by decide) rfl rfl lk_X1_75 ⟨by decide, by decide⟩ (Nat.le_of_ble_eq_true rfl) ⟨Nat.le_refl _, Nat.le_refl _⟩ hK (fun v σ' hq => ?_) (fun E σ' hq => ?_)
  · obtain ⟨r, e, hf⟩ := hq; cases e; exact kr r σ' hf
  · obtain ⟨r, e, hf⟩ := hq; cases e
theorem sg_X1_quotientOrRest_23 {L : Nat} {xs : Nat → Int32} {σ : ks_St} {mc ms : Nat} {P : ka_O → ks_St → Prop} {x1 : Int32} {a2 na2 : Nat} {a3 na3 : Nat} {a4 na4 : Nat} {x5 : Int32} {s0 : Int32} (ha2 : rl_ a2 na2) (ha3 : rl_ a3 na3) (ha4 : rl_ a4 na4) (k2 : (¬ s0 = 1) → ks_W L xs mX1_quotientOrRest rm_X1_quotientOrRest 31 [(0, .ref 6), (1, .int x1), (2, .ref a2), (3, .ref a3), (4, .ref a4), (5, .int x5)] [] σ mc ms P) (k3 : (s0 = 1) → ks_W L xs mX1_quotientOrRest rm_X1_quotientOrRest 32 [(0, .ref 6), (1, .int x1), (2, .ref a2), (3, .ref a3), (4, .ref a4), (5, .int x5)] [.int 1] σ mc ms P) : ks_W L xs mX1_quotientOrRest rm_X1_quotientOrRest 23 [(0, .ref 6), (1, .int x1), (2, .ref a2), (3, .ref a3), (4, .ref a4), (5, .int x5)] [.int s0] σ mc ms P := by
  refine ka_iconst (v := 1) d_X1_quotientOrRest_23 rfl (by decide) ?_
  refine ka_icmp_ne (tgt := 31) d_X1_quotientOrRest_24 (by decide) rfl (fun c1 => ?_) (fun c1 => ?_)
  · exact (k2 c1)
  · refine ka_iconst (v := 1) d_X1_quotientOrRest_27 rfl (by decide) ?_
    refine ka_goto (q := 32) d_X1_quotientOrRest_28 (by decide) ?_
    exact (k3 c1)
theorem sg_X1_quotientOrRest_31 {L : Nat} {xs : Nat → Int32} {σ : ks_St} {mc ms : Nat} {P : ka_O → ks_St → Prop} {x1 : Int32} {a2 na2 : Nat} {a3 na3 : Nat} {a4 na4 : Nat} {x5 : Int32} (ha2 : rl_ a2 na2) (ha3 : rl_ a3 na3) (ha4 : rl_ a4 na4) (k1 : ks_W L xs mX1_quotientOrRest rm_X1_quotientOrRest 32 [(0, .ref 6), (1, .int x1), (2, .ref a2), (3, .ref a3), (4, .ref a4), (5, .int x5)] [.int 0] σ mc ms P) : ks_W L xs mX1_quotientOrRest rm_X1_quotientOrRest 31 [(0, .ref 6), (1, .int x1), (2, .ref a2), (3, .ref a3), (4, .ref a4), (5, .int x5)] [] σ mc ms P := by
  refine ka_iconst (v := 0) d_X1_quotientOrRest_31 rfl (by decide) ?_
  exact k1
theorem sg_X1_quotientOrRest_32 {L : Nat} {xs : Nat → Int32} {σ : ks_St} {mc ms : Nat} {P : ka_O → ks_St → Prop} {x1 : Int32} {a2 na2 : Nat} {a3 na3 : Nat} {a4 na4 : Nat} {x5 : Int32} {s0 : Int32} (ha2 : rl_ a2 na2) (ha3 : rl_ a3 na3) (ha4 : rl_ a4 na4) (k2 : (x5 = 0) → ks_W L xs mX1_quotientOrRest rm_X1_quotientOrRest 52 [(0, .ref 6), (1, .int x1), (2, .ref a2), (3, .ref a3), (4, .ref a4), (5, .int x5), (6, .int s0)] [] σ mc ms P) (k3 : (¬ (x5 = 0)) → ks_W L xs mX1_quotientOrRest rm_X1_quotientOrRest 41 [(0, .ref 6), (1, .int x1), (2, .ref a2), (3, .ref a3), (4, .ref a4), (5, .int x5), (6, .int s0)] [.ref a3, .ref 6] σ mc ms P) : ks_W L xs mX1_quotientOrRest rm_X1_quotientOrRest 32 [(0, .ref 6), (1, .int x1), (2, .ref a2), (3, .ref a3), (4, .ref a4), (5, .int x5)] [.int s0] σ mc ms P := by
  refine ka_istore (ls' := [(6, .int s0), (0, .ref 6), (1, .int x1), (2, .ref a2), (3, .ref a3), (4, .ref a4), (5, .int x5)]) d_X1_quotientOrRest_32 rfl (by decide) rfl ?_
  refine ka_iload d_X1_quotientOrRest_34 rfl 6 rfl ?_
  refine ka_if_eq (tgt := 52) d_X1_quotientOrRest_36 (by decide) rfl (fun c1 => ?_) (fun c1 => ?_)
  · refine ka_sub [1, 2, 3, 4, 5, 6, 0] rfl ?_
    exact (k2 c1)
  · refine ka_aload_n d_X1_quotientOrRest_39 rfl rfl 1 rfl ?_
    refine ka_aload_n d_X1_quotientOrRest_40 rfl rfl 4 rfl ?_
    refine ka_sub [1, 2, 3, 4, 5, 6, 0] rfl ?_
    exact (k3 c1)
theorem cs_X1_quotientOrRest_41 {L : Nat} {xs : Nat → Int32} {σ : ks_St} {mc ms : Nat} {P : ka_O → ks_St → Prop} {f : Int32 → ks_St → Prop} {x1 : Int32} {a2 : Nat} {a3 : Nat} {a4 : Nat} {x5 : Int32} {x6 : Int32} (hK : ks_M L xs mX1_highest rm_X1_highest [.ref 6, .ref a3] σ (pi_ f)) (kr : ∀ r σ', f r σ' → ks_W L xs mX1_quotientOrRest rm_X1_quotientOrRest 44 [(0, .ref 6), (1, .int x1), (2, .ref a2), (3, .ref a3), (4, .ref a4), (5, .int x5), (6, .int x6)] [.int r] σ' mc ms P) : ks_W L xs mX1_quotientOrRest rm_X1_quotientOrRest 41 [(0, .ref 6), (1, .int x1), (2, .ref a2), (3, .ref a3), (4, .ref a4), (5, .int x5), (6, .int x6)] [.ref a3, .ref 6] σ mc ms P := by
  refine ks_callV (q := 44) (o := 6) (ci := 2) (As := [.ref a3]) (st := []) d_X1_quotientOrRest_41 rfl rfl (by decide) rfl rfl lk_X1_75 ⟨by decide, by decide⟩ (Nat.le_of_ble_eq_true rfl) ⟨Nat.le_refl _, Nat.le_refl _⟩ hK (fun v σ' hq => ?_) (fun E σ' hq => ?_)
  · obtain ⟨r, e, hf⟩ := hq; cases e; exact kr r σ' hf
  · obtain ⟨r, e, hf⟩ := hq; cases e
theorem sg_X1_quotientOrRest_44 {L : Nat} {xs : Nat → Int32} {σ : ks_St} {mc ms : Nat} {P : ka_O → ks_St → Prop} {x1 : Int32} {a2 na2 : Nat} {a3 na3 : Nat} {a4 na4 : Nat} {x5 : Int32} {x6 : Int32} {s0 : Int32} (ha2 : rl_ a2 na2) (ha3 : rl_ a3 na3) (ha4 : rl_ a4 na4) (k2 : (¬ s0 = 1) → ks_W L xs mX1_quotientOrRest rm_X1_quotientOrRest 52 [(0, .ref 6), (1, .int x1), (2, .ref a2), (3, .ref a3), (4, .ref a4), (5, .int x5), (6, .int x6)] [] σ mc ms P) (k3 : (s0 = 1) → ks_W L xs mX1_quotientOrRest rm_X1_quotientOrRest 53 [(0, .ref 6), (1, .int x1), (2, .ref a2), (3, .ref a3), (4, .ref a4), (5, .int x5), (6, .int x6)] [.int 1] σ mc ms P) : ks_W L xs mX1_quotientOrRest rm_X1_quotientOrRest 44 [(0, .ref 6), (1, .int x1), (2, .ref a2), (3, .ref a3), (4, .ref a4), (5, .int x5), (6, .int x6)] [.int s0] σ mc ms P := by
  refine ka_iconst (v := 1) d_X1_quotientOrRest_44 rfl (by decide) ?_
  refine ka_icmp_ne (tgt := 52) d_X1_quotientOrRest_45 (by decide) rfl (fun c1 => ?_) (fun c1 => ?_)
  · exact (k2 c1)
  · refine ka_iconst (v := 1) d_X1_quotientOrRest_48 rfl (by decide) ?_
    refine ka_goto (q := 53) d_X1_quotientOrRest_49 (by decide) ?_
    exact (k3 c1)
theorem sg_X1_quotientOrRest_52 {L : Nat} {xs : Nat → Int32} {σ : ks_St} {mc ms : Nat} {P : ka_O → ks_St → Prop} {x1 : Int32} {a2 na2 : Nat} {a3 na3 : Nat} {a4 na4 : Nat} {x5 : Int32} {x6 : Int32} (ha2 : rl_ a2 na2) (ha3 : rl_ a3 na3) (ha4 : rl_ a4 na4) (k1 : ks_W L xs mX1_quotientOrRest rm_X1_quotientOrRest 53 [(0, .ref 6), (1, .int x1), (2, .ref a2), (3, .ref a3), (4, .ref a4), (5, .int x5), (6, .int x6)] [.int 0] σ mc ms P) : ks_W L xs mX1_quotientOrRest rm_X1_quotientOrRest 52 [(0, .ref 6), (1, .int x1), (2, .ref a2), (3, .ref a3), (4, .ref a4), (5, .int x5), (6, .int x6)] [] σ mc ms P := by
  refine ka_iconst (v := 0) d_X1_quotientOrRest_52 rfl (by decide) ?_
  exact k1
theorem sg_X1_quotientOrRest_53 {L : Nat} {xs : Nat → Int32} {σ : ks_St} {mc ms : Nat} {P : ka_O → ks_St → Prop} {x1 : Int32} {a2 na2 : Nat} {a3 na3 : Nat} {a4 na4 : Nat} {x5 : Int32} {x6 : Int32} {s0 : Int32} (ha2 : rl_ a2 na2) (ha3 : rl_ a3 na3) (ha4 : rl_ a4 na4) (k2 : (x6 = 0) → ks_W L xs mX1_quotientOrRest rm_X1_quotientOrRest 68 [(0, .ref 6), (1, .int x1), (2, .ref a2), (3, .ref a3), (4, .ref a4), (5, .int x5), (6, .int x6), (7, .int s0)] [] σ mc ms P) (k3 : (¬ (x6 = 0)) → ks_W L xs mX1_quotientOrRest rm_X1_quotientOrRest 65 [(0, .ref 6), (1, .int x1), (2, .ref a2), (3, .ref a3), (4, .ref a4), (5, .int x5), (6, .int x6), (7, .int s0)] [.int (si_ σ 6), .ref a2] σ mc ms P) : ks_W L xs mX1_quotientOrRest rm_X1_quotientOrRest 53 [(0, .ref 6), (1, .int x1), (2, .ref a2), (3, .ref a3), (4, .ref a4), (5, .int x5), (6, .int x6)] [.int s0] σ mc ms P := by
  refine ka_istore (ls' := [(7, .int s0), (0, .ref 6), (1, .int x1), (2, .ref a2), (3, .ref a3), (4, .ref a4), (5, .int x5), (6, .int x6)]) d_X1_quotientOrRest_53 rfl (by decide) rfl ?_
  refine ka_iload d_X1_quotientOrRest_55 rfl 7 rfl ?_
  refine ka_if_eq (tgt := 68) d_X1_quotientOrRest_57 (by decide) rfl (fun c1 => ?_) (fun c1 => ?_)
  · refine ka_sub [1, 2, 3, 4, 5, 6, 7, 0] rfl ?_
    exact (k2 c1)
  · refine ka_aload_n d_X1_quotientOrRest_60 rfl rfl 3 rfl ?_
    refine ka_aload_n d_X1_quotientOrRest_61 rfl rfl 1 rfl ?_
    refine gf_X1_4 d_X1_quotientOrRest_62 rfl fl_X1_24 ?_
    refine ka_sub [1, 2, 3, 4, 5, 6, 7, 0] rfl ?_
    exact (k3 c1)
theorem cs_X1_quotientOrRest_65 {L : Nat} {xs : Nat → Int32} {σ : ks_St} {mc ms : Nat} {P : ka_O → ks_St → Prop} {f : ks_St → Prop} {x1 : Int32} {a2 : Nat} {a3 : Nat} {a4 : Nat} {x5 : Int32} {x6 : Int32} {x7 : Int32} {s1 : Int32} (hK : ks_M L xs mX3_negate rm_X3_negate [.ref a2, .int s1] σ (pv_ f)) (kr : ∀ σ', f σ' → ks_W L xs mX1_quotientOrRest rm_X1_quotientOrRest 68 [(0, .ref 6), (1, .int x1), (2, .ref a2), (3, .ref a3), (4, .ref a4), (5, .int x5), (6, .int x6), (7, .int x7)] [] σ' mc ms P) : ks_W L xs mX1_quotientOrRest rm_X1_quotientOrRest 65 [(0, .ref 6), (1, .int x1), (2, .ref a2), (3, .ref a3), (4, .ref a4), (5, .int x5), (6, .int x6), (7, .int x7)] [.int s1, .ref a2] σ mc ms P := by
  refine ks_callS (q := 68) (As := [.ref a2, .int s1]) (st := []) d_X1_quotientOrRest_65 rfl rfl lk_X1_103 ⟨by decide, by decide⟩ (Nat.le_of_ble_eq_true rfl) ⟨Nat.le_refl _, Nat.le_refl _⟩ hK (fun v σ' hq => ?_) (fun E σ' hq => ?_)
  · obtain ⟨e, hf⟩ := hq; cases e; exact kr σ' hf
  · obtain ⟨e, hf⟩ := hq; cases e
theorem sg_X1_quotientOrRest_68 {L : Nat} {xs : Nat → Int32} {σ : ks_St} {mc ms : Nat} {P : ka_O → ks_St → Prop} {x1 : Int32} {a2 na2 : Nat} {a3 na3 : Nat} {a4 na4 : Nat} {x5 : Int32} {x6 : Int32} {x7 : Int32} (ha2 : rl_ a2 na2) (ha3 : rl_ a3 na3) (ha4 : rl_ a4 na4) (k2 : (x7 = 0) → ks_W L xs mX1_quotientOrRest rm_X1_quotientOrRest 81 [(0, .ref 6), (1, .int x1), (2, .ref a2), (3, .ref a3), (4, .ref a4), (5, .int x5), (6, .int x6), (7, .int x7)] [] σ mc ms P) (k3 : (¬ (x7 = 0)) → ks_W L xs mX1_quotientOrRest rm_X1_quotientOrRest 78 [(0, .ref 6), (1, .int x1), (2, .ref a2), (3, .ref a3), (4, .ref a4), (5, .int x5), (6, .int x6), (7, .int x7)] [.int (si_ σ 6), .ref a3] σ mc ms P) : ks_W L xs mX1_quotientOrRest rm_X1_quotientOrRest 68 [(0, .ref 6), (1, .int x1), (2, .ref a2), (3, .ref a3), (4, .ref a4), (5, .int x5), (6, .int x6), (7, .int x7)] [] σ mc ms P := by
  refine ka_iload d_X1_quotientOrRest_68 rfl 7 rfl ?_
  refine ka_if_eq (tgt := 81) d_X1_quotientOrRest_70 (by decide) rfl (fun c1 => ?_) (fun c1 => ?_)
  · exact (k2 c1)
  · refine ka_aload_n d_X1_quotientOrRest_73 rfl rfl 3 rfl ?_
    refine ka_aload_n d_X1_quotientOrRest_74 rfl rfl 0 rfl ?_
    refine gf_X1_4 d_X1_quotientOrRest_75 rfl fl_X1_24 ?_
    exact (k3 c1)
theorem cs_X1_quotientOrRest_78 {L : Nat} {xs : Nat → Int32} {σ : ks_St} {mc ms : Nat} {P : ka_O → ks_St → Prop} {f : ks_St → Prop} {x1 : Int32} {a2 : Nat} {a3 : Nat} {a4 : Nat} {x5 : Int32} {x6 : Int32} {x7 : Int32} {s1 : Int32} (hK : ks_M L xs mX3_negate rm_X3_negate [.ref a3, .int s1] σ (pv_ f)) (kr : ∀ σ', f σ' → ks_W L xs mX1_quotientOrRest rm_X1_quotientOrRest 81 [(0, .ref 6), (1, .int x1), (2, .ref a2), (3, .ref a3), (4, .ref a4), (5, .int x5), (6, .int x6), (7, .int x7)] [] σ' mc ms P) : ks_W L xs mX1_quotientOrRest rm_X1_quotientOrRest 78 [(0, .ref 6), (1, .int x1), (2, .ref a2), (3, .ref a3), (4, .ref a4), (5, .int x5), (6, .int x6), (7, .int x7)] [.int s1, .ref a3] σ mc ms P := by
  refine ks_callS (q := 81) (As := [.ref a3, .int s1]) (st := []) d_X1_quotientOrRest_78 rfl rfl lk_X1_103 ⟨by decide, by decide⟩ (Nat.le_of_ble_eq_true rfl) ⟨Nat.le_refl _, Nat.le_refl _⟩ hK (fun v σ' hq => ?_) (fun E σ' hq => ?_)
  · obtain ⟨e, hf⟩ := hq; cases e; exact kr σ' hf
  · obtain ⟨e, hf⟩ := hq; cases e
theorem sg_X1_quotientOrRest_81 {L : Nat} {xs : Nat → Int32} {σ : ks_St} {mc ms : Nat} {P : ka_O → ks_St → Prop} {x1 : Int32} {a2 na2 : Nat} {a3 na3 : Nat} {a4 na4 : Nat} {x5 : Int32} {x6 : Int32} {x7 : Int32} (ha2 : rl_ a2 na2) (ha3 : rl_ a3 na3) (ha4 : rl_ a4 na4) (k1 : ks_W L xs mX1_quotientOrRest rm_X1_quotientOrRest 91 [(0, .ref 6), (1, .int x1), (4, .ref a4), (5, .int x5), (6, .int x6), (7, .int x7)] [.int (si_ σ 6), .ref a3, .ref a2, .ref 7] σ mc ms P) : ks_W L xs mX1_quotientOrRest rm_X1_quotientOrRest 81 [(0, .ref 6), (1, .int x1), (2, .ref a2), (3, .ref a3), (4, .ref a4), (5, .int x5), (6, .int x6), (7, .int x7)] [] σ mc ms P := by
  refine ka_aload_n d_X1_quotientOrRest_81 rfl rfl 0 rfl ?_
  refine gf_X1_5 d_X1_quotientOrRest_82 rfl fl_X1_30 ?_
  refine ka_aload_n d_X1_quotientOrRest_85 rfl rfl 2 rfl ?_
  refine ka_aload_n d_X1_quotientOrRest_86 rfl rfl 3 rfl ?_
  refine ka_aload_n d_X1_quotientOrRest_87 rfl rfl 0 rfl ?_
  refine gf_X1_4 d_X1_quotientOrRest_88 rfl fl_X1_24 ?_
  refine ka_sub [0, 1, 4, 5, 6, 7] rfl ?_
  exact k1
theorem cs_X1_quotientOrRest_91 {L : Nat} {xs : Nat → Int32} {σ : ks_St} {mc ms : Nat} {P : ka_O → ks_St → Prop} {f : ks_St → Prop} {x1 : Int32} {a4 : Nat} {x5 : Int32} {x6 : Int32} {x7 : Int32} {a2 : Nat} {a3 : Nat} {s3 : Int32} (hK : ks_M L xs mX0_divide rm_X0_divide [.ref 7, .ref a2, .ref a3, .int s3] σ (pv_ f)) (kr : ∀ σ', f σ' → ks_W L xs mX1_quotientOrRest rm_X1_quotientOrRest 94 [(0, .ref 6), (1, .int x1), (4, .ref a4), (5, .int x5), (6, .int x6), (7, .int x7)] [] σ' mc ms P) : ks_W L xs mX1_quotientOrRest rm_X1_quotientOrRest 91 [(0, .ref 6), (1, .int x1), (4, .ref a4), (5, .int x5), (6, .int x6), (7, .int x7)] [.int s3, .ref a3, .ref a2, .ref 7] σ mc ms P := by
  refine ks_callV (q := 94) (o := 7) (ci := 1) (As := [.ref a2, .ref a3, .int s3]) (st := []) d_X1_quotientOrRest_91 rfl rfl (by decide) rfl rfl lk_X1_109 ⟨by decide, by decide⟩ (Nat.le_of_ble_eq_true rfl) ⟨Nat.le_refl _, Nat.le_refl _⟩ hK (fun v σ' hq => ?_) (fun E σ' hq => ?_)
  · obtain ⟨e, hf⟩ := hq; cases e; exact kr σ' hf
  · obtain ⟨e, hf⟩ := hq; cases e
theorem sg_X1_quotientOrRest_94 {L : Nat} {xs : Nat → Int32} {σ : ks_St} {mc ms : Nat} {P : ka_O → ks_St → Prop} {x1 : Int32} {a4 na4 : Nat} {x5 : Int32} {x6 : Int32} {x7 : Int32} (ha4 : rl_ a4 na4) (k2 : (x1 = 4) → ks_W L xs mX1_quotientOrRest rm_X1_quotientOrRest 105 [(0, .ref 6), (4, .ref a4), (5, .int x5), (6, .int x6), (7, .int x7)] [] σ mc ms P) (k4 : (¬ (x1 = 4)) → (¬ x1 = 6) → ks_W L xs mX1_quotientOrRest rm_X1_quotientOrRest 110 [(0, .ref 6), (4, .ref a4), (5, .int x5), (6, .int x6), (7, .int x7)] [.int 0] σ mc ms P) (k5 : (¬ (x1 = 4)) → (x1 = 6) → ks_W L xs mX1_quotientOrRest rm_X1_quotientOrRest 105 [(0, .ref 6), (4, .ref a4), (5, .int x5), (6, .int x6), (7, .int x7)] [] σ mc ms P) : ks_W L xs mX1_quotientOrRest rm_X1_quotientOrRest 94 [(0, .ref 6), (1, .int x1), (4, .ref a4), (5, .int x5), (6, .int x6), (7, .int x7)] [] σ mc ms P := by
  refine ka_iload_n d_X1_quotientOrRest_94 rfl rfl 1 rfl ?_
  refine ka_iconst (v := 4) d_X1_quotientOrRest_95 rfl (by decide) ?_
  refine ka_icmp_eq (tgt := 105) d_X1_quotientOrRest_96 (by decide) rfl (fun c1 => ?_) (fun c1 => ?_)
  · refine ka_sub [0, 2, 3, 4, 5] rfl ?_
    exact (k2 c1)
  · refine ka_iload_n d_X1_quotientOrRest_99 rfl rfl 1 rfl ?_
    refine ka_bipush (v := 6) d_X1_quotientOrRest_100 rfl (by decide) ?_
    refine ka_icmp_ne (tgt := 109) d_X1_quotientOrRest_102 (by decide) rfl (fun c3 => ?_) (fun c3 => ?_)
    · refine ka_iconst (v := 0) d_X1_quotientOrRest_109 rfl (by decide) ?_
      refine ka_sub [0, 2, 3, 4, 5] rfl ?_
      exact (k4 c1 c3)
    · refine ka_sub [0, 2, 3, 4, 5] rfl ?_
      exact (k5 c1 c3)
theorem sg_X1_quotientOrRest_105 {L : Nat} {xs : Nat → Int32} {σ : ks_St} {mc ms : Nat} {P : ka_O → ks_St → Prop} {a4 na4 : Nat} {x5 : Int32} {x6 : Int32} {x7 : Int32} (ha4 : rl_ a4 na4) (k1 : ks_W L xs mX1_quotientOrRest rm_X1_quotientOrRest 110 [(0, .ref 6), (4, .ref a4), (5, .int x5), (6, .int x6), (7, .int x7)] [.int 1] σ mc ms P) : ks_W L xs mX1_quotientOrRest rm_X1_quotientOrRest 105 [(0, .ref 6), (4, .ref a4), (5, .int x5), (6, .int x6), (7, .int x7)] [] σ mc ms P := by
  refine ka_iconst (v := 1) d_X1_quotientOrRest_105 rfl (by decide) ?_
  refine ka_goto (q := 110) d_X1_quotientOrRest_106 (by decide) ?_
  exact k1
theorem sg_X1_quotientOrRest_110 {L : Nat} {xs : Nat → Int32} {σ : ks_St} {mc ms : Nat} {P : ka_O → ks_St → Prop} {a4 na4 : Nat} {x5 : Int32} {x6 : Int32} {x7 : Int32} {s0 : Int32} (ha4 : rl_ a4 na4) (k2 : (s0 = 0) → ks_W L xs mX1_quotientOrRest rm_X1_quotientOrRest 134 [(0, .ref 6), (4, .ref a4), (5, .int x5), (6, .int x6), (7, .int x7), (8, .int s0)] [.ref 10] σ mc ms P) (k3 : (¬ (s0 = 0)) → ks_W L xs mX1_quotientOrRest rm_X1_quotientOrRest 134 [(0, .ref 6), (4, .ref a4), (5, .int x5), (6, .int x6), (7, .int x7), (8, .int s0)] [.ref 9] σ mc ms P) : ks_W L xs mX1_quotientOrRest rm_X1_quotientOrRest 110 [(0, .ref 6), (4, .ref a4), (5, .int x5), (6, .int x6), (7, .int x7)] [.int s0] σ mc ms P := by
  refine ka_istore (ls' := [(8, .int s0), (0, .ref 6), (4, .ref a4), (5, .int x5), (6, .int x6), (7, .int x7)]) d_X1_quotientOrRest_110 rfl (by decide) rfl ?_
  refine ka_iload d_X1_quotientOrRest_112 rfl 0 rfl ?_
  refine ka_if_eq (tgt := 127) d_X1_quotientOrRest_114 (by decide) rfl (fun c1 => ?_) (fun c1 => ?_)
  · refine ka_aload_n d_X1_quotientOrRest_127 rfl rfl 1 rfl ?_
    refine gf_X1_5 d_X1_quotientOrRest_128 rfl fl_X1_30 ?_
    refine gf_X0_2 d_X1_quotientOrRest_131 rfl fl_X1_115 ?_
    refine ka_sub [1, 2, 3, 4, 5, 0] rfl ?_
    exact (k2 c1)
  · refine ka_aload_n d_X1_quotientOrRest_117 rfl rfl 1 rfl ?_
    refine gf_X1_5 d_X1_quotientOrRest_118 rfl fl_X1_30 ?_
    refine gf_X0_1 d_X1_quotientOrRest_121 rfl fl_X1_112 ?_
    refine ka_goto (q := 134) d_X1_quotientOrRest_124 (by decide) ?_
    refine ka_sub [1, 2, 3, 4, 5, 0] rfl ?_
    exact (k3 c1)
theorem sg_X1_quotientOrRest_134 {L : Nat} {xs : Nat → Int32} {σ : ks_St} {mc ms : Nat} {P : ka_O → ks_St → Prop} {a4 na4 : Nat} {x5 : Int32} {x6 : Int32} {x7 : Int32} {x8 : Int32} {r0 nr0 : Nat} (ha4 : rl_ a4 na4) (hr0 : rl_ r0 nr0) (k1 : ks_W L xs mX1_quotientOrRest rm_X1_quotientOrRest 137 [(0, .ref 6), (4, .ref a4), (5, .int x5), (6, .int x6), (7, .int x7), (8, .int x8)] [.ref a4, .int 0, .ref r0] σ mc ms P) : ks_W L xs mX1_quotientOrRest rm_X1_quotientOrRest 134 [(0, .ref 6), (4, .ref a4), (5, .int x5), (6, .int x6), (7, .int x7), (8, .int x8)] [.ref r0] σ mc ms P := by
  refine ka_iconst (v := 0) d_X1_quotientOrRest_134 rfl (by decide) ?_
  refine ka_aload d_X1_quotientOrRest_135 rfl 1 rfl ?_
  exact k1
theorem cs_X1_quotientOrRest_137 {L : Nat} {xs : Nat → Int32} {σ : ks_St} {mc ms : Nat} {P : ka_O → ks_St → Prop} {f : ks_St → Prop} {a4 : Nat} {x5 : Int32} {x6 : Int32} {x7 : Int32} {x8 : Int32} {r0 : Nat} {s1 : Int32} (hK : ks_M L xs mX3_moveUp rm_X3_moveUp [.ref r0, .int s1, .ref a4] σ (pv_ f)) (kr : ∀ σ', f σ' → ks_W L xs mX1_quotientOrRest rm_X1_quotientOrRest 140 [(0, .ref 6), (4, .ref a4), (5, .int x5), (6, .int x6), (7, .int x7), (8, .int x8)] [] σ' mc ms P) : ks_W L xs mX1_quotientOrRest rm_X1_quotientOrRest 137 [(0, .ref 6), (4, .ref a4), (5, .int x5), (6, .int x6), (7, .int x7), (8, .int x8)] [.ref a4, .int s1, .ref r0] σ mc ms P := by
  refine ks_callS (q := 140) (As := [.ref r0, .int s1, .ref a4]) (st := []) d_X1_quotientOrRest_137 rfl rfl lk_X1_95 ⟨by decide, by decide⟩ (Nat.le_of_ble_eq_true rfl) ⟨Nat.le_refl _, Nat.le_refl _⟩ hK (fun v σ' hq => ?_) (fun E σ' hq => ?_)
  · obtain ⟨e, hf⟩ := hq; cases e; exact kr σ' hf
  · obtain ⟨e, hf⟩ := hq; cases e
theorem sg_X1_quotientOrRest_140 {L : Nat} {xs : Nat → Int32} {σ : ks_St} {mc ms : Nat} {P : ka_O → ks_St → Prop} {a4 na4 : Nat} {x5 : Int32} {x6 : Int32} {x7 : Int32} {x8 : Int32} (ha4 : rl_ a4 na4) (k2 : (x8 = 0) → ks_W L xs mX1_quotientOrRest rm_X1_quotientOrRest 162 [(0, .ref 6), (4, .ref a4), (5, .int x5), (8, .int x8)] [.int x6] σ mc ms P) (k4 : (¬ (x8 = 0)) → (x6 = x7) → ks_W L xs mX1_quotientOrRest rm_X1_quotientOrRest 162 [(0, .ref 6), (4, .ref a4), (5, .int x5), (8, .int x8)] [.int 0] σ mc ms P) (k5 : (¬ (x8 = 0)) → (¬ (x6 = x7)) → ks_W L xs mX1_quotientOrRest rm_X1_quotientOrRest 162 [(0, .ref 6), (4, .ref a4), (5, .int x5), (8, .int x8)] [.int 1] σ mc ms P) : ks_W L xs mX1_quotientOrRest rm_X1_quotientOrRest 140 [(0, .ref 6), (4, .ref a4), (5, .int x5), (6, .int x6), (7, .int x7), (8, .int x8)] [] σ mc ms P := by
  refine ka_iload d_X1_quotientOrRest_140 rfl 5 rfl ?_
  refine ka_if_eq (tgt := 160) d_X1_quotientOrRest_142 (by decide) rfl (fun c1 => ?_) (fun c1 => ?_)
  · refine ka_iload d_X1_quotientOrRest_160 rfl 3 rfl ?_
    refine ka_sub [0, 1, 2, 5] rfl ?_
    exact (k2 c1)
  · refine ka_iload d_X1_quotientOrRest_145 rfl 3 rfl ?_
    refine ka_iload d_X1_quotientOrRest_147 rfl 4 rfl ?_
    refine ka_icmp_eq (tgt := 156) d_X1_quotientOrRest_149 (by decide) rfl (fun c3 => ?_) (fun c3 => ?_)
    · refine ka_iconst (v := 0) d_X1_quotientOrRest_156 rfl (by decide) ?_
      refine ka_goto (q := 162) d_X1_quotientOrRest_157 (by decide) ?_
      refine ka_sub [0, 1, 2, 5] rfl ?_
      exact (k4 c1 c3)
    · refine ka_iconst (v := 1) d_X1_quotientOrRest_152 rfl (by decide) ?_
      refine ka_goto (q := 162) d_X1_quotientOrRest_153 (by decide) ?_
      refine ka_sub [0, 1, 2, 5] rfl ?_
      exact (k5 c1 c3)
theorem sg_X1_quotientOrRest_162 {L : Nat} {xs : Nat → Int32} {σ : ks_St} {mc ms : Nat} {P : ka_O → ks_St → Prop} {a4 na4 : Nat} {x5 : Int32} {x8 : Int32} {s0 : Int32} (ha4 : rl_ a4 na4) (k2 : (x5 = 0) → ks_W L xs mX1_quotientOrRest rm_X1_quotientOrRest 189 [(0, .ref 6), (4, .ref a4), (9, .int s0)] [] σ mc ms P) (k4 : (¬ (x5 = 0)) → (x8 = 0) → ks_W L xs mX1_quotientOrRest rm_X1_quotientOrRest 189 [(0, .ref 6), (4, .ref a4), (9, .int s0)] [] σ mc ms P) (k6 : (¬ (x5 = 0)) → (¬ (x8 = 0)) → (¬ s0 = 0) → ks_W L xs mX1_quotientOrRest rm_X1_quotientOrRest 189 [(0, .ref 6), (4, .ref a4), (9, .int s0)] [] σ mc ms P) (k7 : (¬ (x5 = 0)) → (¬ (x8 = 0)) → (s0 = 0) → ks_W L xs mX1_quotientOrRest rm_X1_quotientOrRest 183 [(0, .ref 6), (4, .ref a4), (9, .int s0)] [.ref a4, .ref 6, .ref 6] σ mc ms P) : ks_W L xs mX1_quotientOrRest rm_X1_quotientOrRest 162 [(0, .ref 6), (4, .ref a4), (5, .int x5), (8, .int x8)] [.int s0] σ mc ms P := by
  refine ka_istore (ls' := [(9, .int s0), (0, .ref 6), (4, .ref a4), (5, .int x5), (8, .int x8)]) d_X1_quotientOrRest_162 rfl (by decide) rfl ?_
  refine ka_iload d_X1_quotientOrRest_164 rfl 3 rfl ?_
  refine ka_if_eq (tgt := 189) d_X1_quotientOrRest_166 (by decide) rfl (fun c1 => ?_) (fun c1 => ?_)
  · refine ka_sub [1, 2, 0] rfl ?_
    exact (k2 c1)
  · refine ka_iload d_X1_quotientOrRest_169 rfl 4 rfl ?_
    refine ka_if_eq (tgt := 189) d_X1_quotientOrRest_171 (by decide) rfl (fun c3 => ?_) (fun c3 => ?_)
    · refine ka_sub [1, 2, 0] rfl ?_
      exact (k4 c1 c3)
    · refine ka_iload d_X1_quotientOrRest_174 rfl 0 rfl ?_
      refine ka_if_ne (tgt := 189) d_X1_quotientOrRest_176 (by decide) rfl (fun c5 => ?_) (fun c5 => ?_)
      · refine ka_sub [1, 2, 0] rfl ?_
        exact (k6 c1 c3 c5)
      · refine ka_aload_n d_X1_quotientOrRest_179 rfl rfl 1 rfl ?_
        refine ka_aload_n d_X1_quotientOrRest_180 rfl rfl 1 rfl ?_
        refine ka_aload d_X1_quotientOrRest_181 rfl 2 rfl ?_
        refine ka_sub [1, 2, 0] rfl ?_
        exact (k7 c1 c3 c5)
theorem cs_X1_quotientOrRest_183 {L : Nat} {xs : Nat → Int32} {σ : ks_St} {mc ms : Nat} {P : ka_O → ks_St → Prop} {f : Int32 → ks_St → Prop} {a4 : Nat} {x9 : Int32} (hK : ks_M L xs mX1_highest rm_X1_highest [.ref 6, .ref a4] σ (pi_ f)) (kr : ∀ r σ', f r σ' → ks_W L xs mX1_quotientOrRest rm_X1_quotientOrRest 186 [(0, .ref 6), (4, .ref a4), (9, .int x9)] [.int r, .ref 6] σ' mc ms P) : ks_W L xs mX1_quotientOrRest rm_X1_quotientOrRest 183 [(0, .ref 6), (4, .ref a4), (9, .int x9)] [.ref a4, .ref 6, .ref 6] σ mc ms P := by
  refine ks_callV (q := 186) (o := 6) (ci := 2) (As := [.ref a4]) (st := [.ref 6]) d_X1_quotientOrRest_183 rfl rfl (by decide) rfl rfl lk_X1_75 ⟨by decide, by decide⟩ (Nat.le_of_ble_eq_true rfl) ⟨Nat.le_refl _, Nat.le_refl _⟩ hK (fun v σ' hq => ?_) (fun E σ' hq => ?_)
  · obtain ⟨r, e, hf⟩ := hq; cases e; exact kr r σ' hf
  · obtain ⟨r, e, hf⟩ := hq; cases e
theorem sg_X1_quotientOrRest_186 {L : Nat} {xs : Nat → Int32} {σ : ks_St} {mc ms : Nat} {P : ka_O → ks_St → Prop} {a4 na4 : Nat} {x9 : Int32} {s1 : Int32} (ha4 : rl_ a4 na4) (k1 : ks_W L xs mX1_quotientOrRest rm_X1_quotientOrRest 189 [(0, .ref 6), (4, .ref a4), (9, .int x9)] [] (ui_ σ 3 s1) mc ms P) : ks_W L xs mX1_quotientOrRest rm_X1_quotientOrRest 186 [(0, .ref 6), (4, .ref a4), (9, .int x9)] [.int s1, .ref 6] σ mc ms P := by
  refine pf_X1_1 d_X1_quotientOrRest_186 rfl fl_X1_15 ?_
  exact k1
theorem sg_X1_quotientOrRest_189 {L : Nat} {xs : Nat → Int32} {σ : ks_St} {mc ms : Nat} {P : ka_O → ks_St → Prop} {a4 na4 : Nat} {x9 : Int32} (ha4 : rl_ a4 na4) (k2 : (x9 = 0) → ks_W L xs mX1_quotientOrRest rm_X1_quotientOrRest 203 [] [] σ mc ms P) (k3 : (¬ (x9 = 0)) → ks_W L xs mX1_quotientOrRest rm_X1_quotientOrRest 200 [] [.int (si_ σ 6), .ref a4] σ mc ms P) : ks_W L xs mX1_quotientOrRest rm_X1_quotientOrRest 189 [(0, .ref 6), (4, .ref a4), (9, .int x9)] [] σ mc ms P := by
  refine ka_iload d_X1_quotientOrRest_189 rfl 2 rfl ?_
  refine ka_if_eq (tgt := 203) d_X1_quotientOrRest_191 (by decide) rfl (fun c1 => ?_) (fun c1 => ?_)
  · refine ka_sub [] rfl ?_
    exact (k2 c1)
  · refine ka_aload d_X1_quotientOrRest_194 rfl 1 rfl ?_
    refine ka_aload_n d_X1_quotientOrRest_196 rfl rfl 0 rfl ?_
    refine gf_X1_4 d_X1_quotientOrRest_197 rfl fl_X1_24 ?_
    refine ka_sub [] rfl ?_
    exact (k3 c1)
theorem cs_X1_quotientOrRest_200 {L : Nat} {xs : Nat → Int32} {σ : ks_St} {mc ms : Nat} {P : ka_O → ks_St → Prop} {f : ks_St → Prop} {a4 : Nat} {s1 : Int32} (hK : ks_M L xs mX3_negate rm_X3_negate [.ref a4, .int s1] σ (pv_ f)) (kr : ∀ σ', f σ' → ks_W L xs mX1_quotientOrRest rm_X1_quotientOrRest 203 [] [] σ' mc ms P) : ks_W L xs mX1_quotientOrRest rm_X1_quotientOrRest 200 [] [.int s1, .ref a4] σ mc ms P := by
  refine ks_callS (q := 203) (As := [.ref a4, .int s1]) (st := []) d_X1_quotientOrRest_200 rfl rfl lk_X1_103 ⟨by decide, by decide⟩ (Nat.le_of_ble_eq_true rfl) ⟨Nat.le_refl _, Nat.le_refl _⟩ hK (fun v σ' hq => ?_) (fun E σ' hq => ?_)
  · obtain ⟨e, hf⟩ := hq; cases e; exact kr σ' hf
  · obtain ⟨e, hf⟩ := hq; cases e
theorem sg_X1_quotientOrRest_203 {L : Nat} {xs : Nat → Int32} {σ : ks_St} {mc ms : Nat} {P : ka_O → ks_St → Prop}   (r1 : P (.inl none) σ) : ks_W L xs mX1_quotientOrRest rm_X1_quotientOrRest 203 [] [] σ mc ms P := by
  exact ks_vret d_X1_quotientOrRest_203 rfl r1
theorem d_X1_moved_0 : decode cX1_moved 0 = .ok (.aload_n 3, 1) := by decide +kernel
theorem d_X1_moved_1 : decode cX1_moved 1 = .ok (.aload_n 0, 1) := by decide +kernel
theorem d_X1_moved_2 : decode cX1_moved 2 = .ok (.getfield 24, 3) := by decide +kernel
theorem d_X1_moved_5 : decode cX1_moved 5 = .ok (.iconst 1, 1) := by decide +kernel
theorem d_X1_moved_6 : decode cX1_moved 6 = .ok (.iadd, 1) := by decide +kernel
theorem d_X1_moved_7 : decode cX1_moved 7 = .ok (.invokestatic 106, 3) := by decide +kernel
theorem d_X1_moved_10 : decode cX1_moved 10 = .ok (.istore 5, 2) := by decide +kernel
theorem d_X1_moved_12 : decode cX1_moved 12 = .ok (.iload_n 1, 1) := by decide +kernel
theorem d_X1_moved_13 : decode cX1_moved 13 = .ok (.bipush 8, 2) := by decide +kernel
theorem d_X1_moved_15 : decode cX1_moved 15 = .ok (.if_icmp .ne 27, 3) := by decide +kernel
theorem d_X1_moved_18 : decode cX1_moved 18 = .ok (.aload_n 2, 1) := by decide +kernel
theorem d_X1_moved_19 : decode cX1_moved 19 = .ok (.iload 5, 2) := by decide +kernel
theorem d_X1_moved_21 : decode cX1_moved 21 = .ok (.aload 4, 2) := by decide +kernel
theorem d_X1_moved_23 : decode cX1_moved 23 = .ok (.invokestatic 95, 3) := by decide +kernel
theorem d_X1_moved_26 : decode cX1_moved 26 = .ok (.aload_n 0, 1) := by decide +kernel
theorem d_X1_moved_27 : decode cX1_moved 27 = .ok (.aload_n 2, 1) := by decide +kernel
theorem d_X1_moved_28 : decode cX1_moved 28 = .ok (.aload_n 0, 1) := by decide +kernel
theorem d_X1_moved_29 : decode cX1_moved 29 = .ok (.getfield 24, 3) := by decide +kernel
theorem d_X1_moved_32 : decode cX1_moved 32 = .ok (.iload 5, 2) := by decide +kernel
theorem d_X1_moved_34 : decode cX1_moved 34 = .ok (.isub, 1) := by decide +kernel
theorem d_X1_moved_35 : decode cX1_moved 35 = .ok (.invokestatic 79, 3) := by decide +kernel
theorem d_X1_moved_38 : decode cX1_moved 38 = .ok (.putfield 9, 3) := by decide +kernel
theorem d_X1_moved_41 : decode cX1_moved 41 = .ok (.return_, 1) := by decide +kernel
theorem d_X1_moved_42 : decode cX1_moved 42 = .ok (.aload_n 2, 1) := by decide +kernel
theorem d_X1_moved_43 : decode cX1_moved 43 = .ok (.iload 5, 2) := by decide +kernel
theorem d_X1_moved_45 : decode cX1_moved 45 = .ok (.ineg, 1) := by decide +kernel
theorem d_X1_moved_46 : decode cX1_moved 46 = .ok (.aload 4, 2) := by decide +kernel
theorem d_X1_moved_48 : decode cX1_moved 48 = .ok (.invokestatic 95, 3) := by decide +kernel
theorem d_X1_moved_51 : decode cX1_moved 51 = .ok (.aload_n 0, 1) := by decide +kernel
theorem d_X1_moved_52 : decode cX1_moved 52 = .ok (.aload_n 2, 1) := by decide +kernel
theorem d_X1_moved_53 : decode cX1_moved 53 = .ok (.iload 5, 2) := by decide +kernel
theorem d_X1_moved_55 : decode cX1_moved 55 = .ok (.iconst 1, 1) := by decide +kernel
theorem d_X1_moved_56 : decode cX1_moved 56 = .ok (.isub, 1) := by decide +kernel
theorem d_X1_moved_57 : decode cX1_moved 57 = .ok (.invokestatic 79, 3) := by decide +kernel
theorem d_X1_moved_60 : decode cX1_moved 60 = .ok (.putfield 9, 3) := by decide +kernel
theorem d_X1_moved_63 : decode cX1_moved 63 = .ok (.iload_n 1, 1) := by decide +kernel
theorem d_X1_moved_64 : decode cX1_moved 64 = .ok (.bipush 10, 2) := by decide +kernel
theorem d_X1_moved_66 : decode cX1_moved 66 = .ok (.if_icmp .ne 49, 3) := by decide +kernel
theorem d_X1_moved_69 : decode cX1_moved 69 = .ok (.aload_n 0, 1) := by decide +kernel
theorem d_X1_moved_70 : decode cX1_moved 70 = .ok (.aload_n 2, 1) := by decide +kernel
theorem d_X1_moved_71 : decode cX1_moved 71 = .ok (.invokevirtual 75, 3) := by decide +kernel
theorem d_X1_moved_74 : decode cX1_moved 74 = .ok (.iconst 1, 1) := by decide +kernel
theorem d_X1_moved_75 : decode cX1_moved 75 = .ok (.if_icmp .ne 40, 3) := by decide +kernel
theorem d_X1_moved_78 : decode cX1_moved 78 = .ok (.aload 4, 2) := by decide +kernel
theorem d_X1_moved_80 : decode cX1_moved 80 = .ok (.aload_n 0, 1) := by decide +kernel
theorem d_X1_moved_81 : decode cX1_moved 81 = .ok (.getfield 24, 3) := by decide +kernel
theorem d_X1_moved_84 : decode cX1_moved 84 = .ok (.iload 5, 2) := by decide +kernel
theorem d_X1_moved_86 : decode cX1_moved 86 = .ok (.isub, 1) := by decide +kernel
theorem d_X1_moved_87 : decode cX1_moved 87 = .ok (.iconst 0, 1) := by decide +kernel
theorem d_X1_moved_88 : decode cX1_moved 88 = .ok (.invokestatic 118, 3) := by decide +kernel
theorem d_X1_moved_91 : decode cX1_moved 91 = .ok (.invokestatic 124, 3) := by decide +kernel
theorem d_X1_moved_94 : decode cX1_moved 94 = .ok (.aload_n 0, 1) := by decide +kernel
theorem d_X1_moved_95 : decode cX1_moved 95 = .ok (.iload 5, 2) := by decide +kernel
theorem d_X1_moved_97 : decode cX1_moved 97 = .ok (.aload_n 0, 1) := by decide +kernel
theorem d_X1_moved_98 : decode cX1_moved 98 = .ok (.getfield 24, 3) := by decide +kernel
theorem d_X1_moved_101 : decode cX1_moved 101 = .ok (.if_icmp .le 7, 3) := by decide +kernel
theorem d_X1_moved_104 : decode cX1_moved 104 = .ok (.iconst 1, 1) := by decide +kernel
theorem d_X1_moved_105 : decode cX1_moved 105 = .ok (.goto 7, 3) := by decide +kernel
theorem d_X1_moved_108 : decode cX1_moved 108 = .ok (.aload_n 0, 1) := by decide +kernel
theorem d_X1_moved_109 : decode cX1_moved 109 = .ok (.getfield 9, 3) := by decide +kernel
theorem d_X1_moved_112 : decode cX1_moved 112 = .ok (.putfield 9, 3) := by decide +kernel
theorem d_X1_moved_115 : decode cX1_moved 115 = .ok (.return_, 1) := by decide +kernel
theorem sg_X1_moved_0 {L : Nat} {xs : Nat → Int32} {σ : ks_St} {mc ms : Nat} {P : ka_O → ks_St → Prop} {x1 : Int32} {a2 na2 : Nat} {a3 na3 : Nat} {a4 na4 : Nat} (ha2 : rl_ a2 na2) (ha3 : rl_ a3 na3) (ha4 : rl_ a4 na4) (k1 : ks_W L xs mX1_moved rm_X1_moved 7 [(0, .ref 6), (1, .int x1), (2, .ref a2), (4, .ref a4)] [.int ((si_ σ 6) + 1), .ref a3] σ mc ms P) : ks_W L xs mX1_moved rm_X1_moved 0 [(0, .ref 6), (1, .int x1), (2, .ref a2), (3, .ref a3), (4, .ref a4)] [] σ mc ms P := by
  refine ka_aload_n d_X1_moved_0 rfl rfl 3 rfl ?_
  refine ka_aload_n d_X1_moved_1 rfl rfl 0 rfl ?_
  refine gf_X1_4 d_X1_moved_2 rfl fl_X1_24 ?_
  refine ka_iconst (v := 1) d_X1_moved_5 rfl (by decide) ?_
  refine ka_iadd d_X1_moved_6 rfl ?_
  refine ka_sub [0, 1, 2, 4] rfl ?_
  exact k1
theorem cs_X1_moved_7 {L : Nat} {xs : Nat → Int32} {σ : ks_St} {mc ms : Nat} {P : ka_O → ks_St → Prop} {f : Int32 → ks_St → Prop} {x1 : Int32} {a2 : Nat} {a4 : Nat} {a3 : Nat} {s1 : Int32} (hK : ks_M L xs mX3_atMost rm_X3_atMost [.ref a3, .int s1] σ (pi_ f)) (kr : ∀ r σ', f r σ' → ks_W L xs mX1_moved rm_X1_moved 10 [(0, .ref 6), (1, .int x1), (2, .ref a2), (4, .ref a4)] [.int r] σ' mc ms P) : ks_W L xs mX1_moved rm_X1_moved 7 [(0, .ref 6), (1, .int x1), (2, .ref a2), (4, .ref a4)] [.int s1, .ref a3] σ mc ms P := by
  refine ks_callS (q := 10) (As := [.ref a3, .int s1]) (st := []) d_X1_moved_7 rfl rfl lk_X1_106 ⟨by decide, by decide⟩ (Nat.le_of_ble_eq_true rfl) ⟨Nat.le_refl _, Nat.le_refl _⟩ hK (fun v σ' hq => ?_) (fun E σ' hq => ?_)
  · obtain ⟨r, e, hf⟩ := hq; cases e; exact kr r σ' hf
  · obtain ⟨r, e, hf⟩ := hq; cases e
theorem sg_X1_moved_10 {L : Nat} {xs : Nat → Int32} {σ : ks_St} {mc ms : Nat} {P : ka_O → ks_St → Prop} {x1 : Int32} {a2 na2 : Nat} {a4 na4 : Nat} {s0 : Int32} (ha2 : rl_ a2 na2) (ha4 : rl_ a4 na4) (k2 : (¬ x1 = 8) → ks_W L xs mX1_moved rm_X1_moved 48 [(0, .ref 6), (1, .int x1), (2, .ref a2), (4, .ref a4), (5, .int s0)] [.ref a4, .int (-s0), .ref a2] σ mc ms P) (k3 : (x1 = 8) → ks_W L xs mX1_moved rm_X1_moved 23 [(0, .ref 6), (2, .ref a2), (5, .int s0)] [.ref a4, .int s0, .ref a2] σ mc ms P) : ks_W L xs mX1_moved rm_X1_moved 10 [(0, .ref 6), (1, .int x1), (2, .ref a2), (4, .ref a4)] [.int s0] σ mc ms P := by
  refine ka_istore (ls' := [(5, .int s0), (0, .ref 6), (1, .int x1), (2, .ref a2), (4, .ref a4)]) d_X1_moved_10 rfl (by decide) rfl ?_
  refine ka_iload_n d_X1_moved_12 rfl rfl 2 rfl ?_
  refine ka_bipush (v := 8) d_X1_moved_13 rfl (by decide) ?_
  refine ka_icmp_ne (tgt := 42) d_X1_moved_15 (by decide) rfl (fun c1 => ?_) (fun c1 => ?_)
  · refine ka_aload_n d_X1_moved_42 rfl rfl 3 rfl ?_
    refine ka_iload d_X1_moved_43 rfl 0 rfl ?_
    refine ka_ineg d_X1_moved_45 rfl ?_
    refine ka_aload d_X1_moved_46 rfl 4 rfl ?_
    refine ka_sub [1, 2, 3, 4, 0] rfl ?_
    exact (k2 c1)
  · refine ka_aload_n d_X1_moved_18 rfl rfl 3 rfl ?_
    refine ka_iload d_X1_moved_19 rfl 0 rfl ?_
    refine ka_aload d_X1_moved_21 rfl 4 rfl ?_
    refine ka_sub [1, 3, 0] rfl ?_
    exact (k3 c1)
theorem cs_X1_moved_23 {L : Nat} {xs : Nat → Int32} {σ : ks_St} {mc ms : Nat} {P : ka_O → ks_St → Prop} {f : ks_St → Prop} {a2 : Nat} {x5 : Int32} {s1 : Int32} {a4 : Nat} (hK : ks_M L xs mX3_moveUp rm_X3_moveUp [.ref a2, .int s1, .ref a4] σ (pv_ f)) (kr : ∀ σ', f σ' → ks_W L xs mX1_moved rm_X1_moved 26 [(0, .ref 6), (2, .ref a2), (5, .int x5)] [] σ' mc ms P) : ks_W L xs mX1_moved rm_X1_moved 23 [(0, .ref 6), (2, .ref a2), (5, .int x5)] [.ref a4, .int s1, .ref a2] σ mc ms P := by
  refine ks_callS (q := 26) (As := [.ref a2, .int s1, .ref a4]) (st := []) d_X1_moved_23 rfl rfl lk_X1_95 ⟨by decide, by decide⟩ (Nat.le_of_ble_eq_true rfl) ⟨Nat.le_refl _, Nat.le_refl _⟩ hK (fun v σ' hq => ?_) (fun E σ' hq => ?_)
  · obtain ⟨e, hf⟩ := hq; cases e; exact kr σ' hf
  · obtain ⟨e, hf⟩ := hq; cases e
theorem sg_X1_moved_26 {L : Nat} {xs : Nat → Int32} {σ : ks_St} {mc ms : Nat} {P : ka_O → ks_St → Prop} {a2 na2 : Nat} {x5 : Int32} (ha2 : rl_ a2 na2) (k1 : ks_W L xs mX1_moved rm_X1_moved 35 [] [.int ((si_ σ 6) - x5), .ref a2, .ref 6] σ mc ms P) : ks_W L xs mX1_moved rm_X1_moved 26 [(0, .ref 6), (2, .ref a2), (5, .int x5)] [] σ mc ms P := by
  refine ka_aload_n d_X1_moved_26 rfl rfl 0 rfl ?_
  refine ka_aload_n d_X1_moved_27 rfl rfl 1 rfl ?_
  refine ka_aload_n d_X1_moved_28 rfl rfl 0 rfl ?_
  refine gf_X1_4 d_X1_moved_29 rfl fl_X1_24 ?_
  refine ka_iload d_X1_moved_32 rfl 2 rfl ?_
  refine ka_isub d_X1_moved_34 rfl ?_
  refine ka_sub [] rfl ?_
  exact k1
theorem cs_X1_moved_35 {L : Nat} {xs : Nat → Int32} {σ : ks_St} {mc ms : Nat} {P : ka_O → ks_St → Prop} {f : Int32 → ks_St → Prop} {a2 : Nat} {s2 : Int32} (hK : ks_M L xs mX3_bitOrNought rm_X3_bitOrNought [.ref a2, .int s2] σ (pi_ f)) (kr : ∀ r σ', f r σ' → ks_W L xs mX1_moved rm_X1_moved 38 [] [.int r, .ref 6] σ' mc ms P) : ks_W L xs mX1_moved rm_X1_moved 35 [] [.int s2, .ref a2, .ref 6] σ mc ms P := by
  refine ks_callS (q := 38) (As := [.ref a2, .int s2]) (st := [.ref 6]) d_X1_moved_35 rfl rfl lk_X1_79 ⟨by decide, by decide⟩ (Nat.le_of_ble_eq_true rfl) ⟨Nat.le_refl _, Nat.le_refl _⟩ hK (fun v σ' hq => ?_) (fun E σ' hq => ?_)
  · obtain ⟨r, e, hf⟩ := hq; cases e; exact kr r σ' hf
  · obtain ⟨r, e, hf⟩ := hq; cases e
theorem sg_X1_moved_38 {L : Nat} {xs : Nat → Int32} {σ : ks_St} {mc ms : Nat} {P : ka_O → ks_St → Prop} {s1 : Int32}  (r1 : P (.inl none) (ui_ σ 2 s1)) : ks_W L xs mX1_moved rm_X1_moved 38 [] [.int s1, .ref 6] σ mc ms P := by
  refine pf_X1_0 d_X1_moved_38 rfl fl_X1_9 ?_
  exact ks_vret d_X1_moved_41 rfl r1
theorem cs_X1_moved_48 {L : Nat} {xs : Nat → Int32} {σ : ks_St} {mc ms : Nat} {P : ka_O → ks_St → Prop} {f : ks_St → Prop} {x1 : Int32} {a2 : Nat} {a4 : Nat} {x5 : Int32} {s1 : Int32} (hK : ks_M L xs mX3_moveUp rm_X3_moveUp [.ref a2, .int s1, .ref a4] σ (pv_ f)) (kr : ∀ σ', f σ' → ks_W L xs mX1_moved rm_X1_moved 51 [(0, .ref 6), (1, .int x1), (2, .ref a2), (4, .ref a4), (5, .int x5)] [] σ' mc ms P) : ks_W L xs mX1_moved rm_X1_moved 48 [(0, .ref 6), (1, .int x1), (2, .ref a2), (4, .ref a4), (5, .int x5)] [.ref a4, .int s1, .ref a2] σ mc ms P := by
  refine ks_callS (q := 51) (As := [.ref a2, .int s1, .ref a4]) (st := []) d_X1_moved_48 rfl rfl lk_X1_95 ⟨by decide, by decide⟩ (Nat.le_of_ble_eq_true rfl) ⟨Nat.le_refl _, Nat.le_refl _⟩ hK (fun v σ' hq => ?_) (fun E σ' hq => ?_)
  · obtain ⟨e, hf⟩ := hq; cases e; exact kr σ' hf
  · obtain ⟨e, hf⟩ := hq; cases e
theorem sg_X1_moved_51 {L : Nat} {xs : Nat → Int32} {σ : ks_St} {mc ms : Nat} {P : ka_O → ks_St → Prop} {x1 : Int32} {a2 na2 : Nat} {a4 na4 : Nat} {x5 : Int32} (ha2 : rl_ a2 na2) (ha4 : rl_ a4 na4) (k1 : ks_W L xs mX1_moved rm_X1_moved 57 [(0, .ref 6), (1, .int x1), (2, .ref a2), (4, .ref a4), (5, .int x5)] [.int (x5 - 1), .ref a2, .ref 6] σ mc ms P) : ks_W L xs mX1_moved rm_X1_moved 51 [(0, .ref 6), (1, .int x1), (2, .ref a2), (4, .ref a4), (5, .int x5)] [] σ mc ms P := by
  refine ka_aload_n d_X1_moved_51 rfl rfl 0 rfl ?_
  refine ka_aload_n d_X1_moved_52 rfl rfl 2 rfl ?_
  refine ka_iload d_X1_moved_53 rfl 4 rfl ?_
  refine ka_iconst (v := 1) d_X1_moved_55 rfl (by decide) ?_
  refine ka_isub d_X1_moved_56 rfl ?_
  exact k1
theorem cs_X1_moved_57 {L : Nat} {xs : Nat → Int32} {σ : ks_St} {mc ms : Nat} {P : ka_O → ks_St → Prop} {f : Int32 → ks_St → Prop} {x1 : Int32} {a2 : Nat} {a4 : Nat} {x5 : Int32} {s2 : Int32} (hK : ks_M L xs mX3_bitOrNought rm_X3_bitOrNought [.ref a2, .int s2] σ (pi_ f)) (kr : ∀ r σ', f r σ' → ks_W L xs mX1_moved rm_X1_moved 60 [(0, .ref 6), (1, .int x1), (2, .ref a2), (4, .ref a4), (5, .int x5)] [.int r, .ref 6] σ' mc ms P) : ks_W L xs mX1_moved rm_X1_moved 57 [(0, .ref 6), (1, .int x1), (2, .ref a2), (4, .ref a4), (5, .int x5)] [.int s2, .ref a2, .ref 6] σ mc ms P := by
  refine ks_callS (q := 60) (As := [.ref a2, .int s2]) (st := [.ref 6]) d_X1_moved_57 rfl rfl lk_X1_79 ⟨by decide, by decide⟩ (Nat.le_of_ble_eq_true rfl) ⟨Nat.le_refl _, Nat.le_refl _⟩ hK (fun v σ' hq => ?_) (fun E σ' hq => ?_)
  · obtain ⟨r, e, hf⟩ := hq; cases e; exact kr r σ' hf
  · obtain ⟨r, e, hf⟩ := hq; cases e
theorem sg_X1_moved_60 {L : Nat} {xs : Nat → Int32} {σ : ks_St} {mc ms : Nat} {P : ka_O → ks_St → Prop} {x1 : Int32} {a2 na2 : Nat} {a4 na4 : Nat} {x5 : Int32} {s1 : Int32} (ha2 : rl_ a2 na2) (ha4 : rl_ a4 na4) (k2 : (¬ x1 = 10) → ks_W L xs mX1_moved rm_X1_moved 115 [] [] (ui_ σ 2 s1) mc ms P) (k3 : (x1 = 10) → ks_W L xs mX1_moved rm_X1_moved 71 [(0, .ref 6), (4, .ref a4), (5, .int x5)] [.ref a2, .ref 6] (ui_ σ 2 s1) mc ms P) : ks_W L xs mX1_moved rm_X1_moved 60 [(0, .ref 6), (1, .int x1), (2, .ref a2), (4, .ref a4), (5, .int x5)] [.int s1, .ref 6] σ mc ms P := by
  refine pf_X1_0 d_X1_moved_60 rfl fl_X1_9 ?_
  refine ka_iload_n d_X1_moved_63 rfl rfl 1 rfl ?_
  refine ka_bipush (v := 10) d_X1_moved_64 rfl (by decide) ?_
  refine ka_icmp_ne (tgt := 115) d_X1_moved_66 (by decide) rfl (fun c1 => ?_) (fun c1 => ?_)
  · refine ka_sub [] rfl ?_
    exact (k2 c1)
  · refine ka_aload_n d_X1_moved_69 rfl rfl 0 rfl ?_
    refine ka_aload_n d_X1_moved_70 rfl rfl 2 rfl ?_
    refine ka_sub [0, 3, 4] rfl ?_
    exact (k3 c1)
theorem cs_X1_moved_71 {L : Nat} {xs : Nat → Int32} {σ : ks_St} {mc ms : Nat} {P : ka_O → ks_St → Prop} {f : Int32 → ks_St → Prop} {a4 : Nat} {x5 : Int32} {a2 : Nat} (hK : ks_M L xs mX1_highest rm_X1_highest [.ref 6, .ref a2] σ (pi_ f)) (kr : ∀ r σ', f r σ' → ks_W L xs mX1_moved rm_X1_moved 74 [(0, .ref 6), (4, .ref a4), (5, .int x5)] [.int r] σ' mc ms P) : ks_W L xs mX1_moved rm_X1_moved 71 [(0, .ref 6), (4, .ref a4), (5, .int x5)] [.ref a2, .ref 6] σ mc ms P := by
  refine ks_callV (q := 74) (o := 6) (ci := 2) (As := [.ref a2]) (st := []) d_X1_moved_71 rfl rfl (by decide) rfl rfl lk_X1_75 ⟨by decide, by decide⟩ (Nat.le_of_ble_eq_true rfl) ⟨Nat.le_refl _, Nat.le_refl _⟩ hK (fun v σ' hq => ?_) (fun E σ' hq => ?_)
  · obtain ⟨r, e, hf⟩ := hq; cases e; exact kr r σ' hf
  · obtain ⟨r, e, hf⟩ := hq; cases e
theorem sg_X1_moved_74 {L : Nat} {xs : Nat → Int32} {σ : ks_St} {mc ms : Nat} {P : ka_O → ks_St → Prop} {a4 na4 : Nat} {x5 : Int32} {s0 : Int32} (ha4 : rl_ a4 na4) (k2 : (¬ s0 = 1) → ks_W L xs mX1_moved rm_X1_moved 115 [] [] σ mc ms P) (k3 : (s0 = 1) → ks_W L xs mX1_moved rm_X1_moved 88 [(0, .ref 6), (5, .int x5)] [.int 0, .int ((si_ σ 6) - x5), .ref a4] σ mc ms P) : ks_W L xs mX1_moved rm_X1_moved 74 [(0, .ref 6), (4, .ref a4), (5, .int x5)] [.int s0] σ mc ms P := by
  refine ka_iconst (v := 1) d_X1_moved_74 rfl (by decide) ?_
  refine ka_icmp_ne (tgt := 115) d_X1_moved_75 (by decide) rfl (fun c1 => ?_) (fun c1 => ?_)
  · refine ka_sub [] rfl ?_
    exact (k2 c1)
  · refine ka_aload d_X1_moved_78 rfl 1 rfl ?_
    refine ka_aload_n d_X1_moved_80 rfl rfl 0 rfl ?_
    refine gf_X1_4 d_X1_moved_81 rfl fl_X1_24 ?_
    refine ka_iload d_X1_moved_84 rfl 2 rfl ?_
    refine ka_isub d_X1_moved_86 rfl ?_
    refine ka_iconst (v := 0) d_X1_moved_87 rfl (by decide) ?_
    refine ka_sub [0, 2] rfl ?_
    exact (k3 c1)
theorem cs_X1_moved_88 {L : Nat} {xs : Nat → Int32} {σ : ks_St} {mc ms : Nat} {P : ka_O → ks_St → Prop} {f : Int32 → ks_St → Prop} {x5 : Int32} {a4 : Nat} {s1 : Int32} {s2 : Int32} (hK : ks_M L xs mM_max rm_M_max [.int s1, .int s2] σ (pi_ f)) (kr : ∀ r σ', f r σ' → ks_W L xs mX1_moved rm_X1_moved 91 [(0, .ref 6), (5, .int x5)] [.int r, .ref a4] σ' mc ms P) : ks_W L xs mX1_moved rm_X1_moved 88 [(0, .ref 6), (5, .int x5)] [.int s2, .int s1, .ref a4] σ mc ms P := by
  refine ks_callS (q := 91) (As := [.int s1, .int s2]) (st := [.ref a4]) d_X1_moved_88 rfl rfl lk_X1_118 ⟨by decide, by decide⟩ (Nat.le_of_ble_eq_true rfl) ⟨Nat.le_refl _, Nat.le_refl _⟩ hK (fun v σ' hq => ?_) (fun E σ' hq => ?_)
  · obtain ⟨r, e, hf⟩ := hq; cases e; exact kr r σ' hf
  · obtain ⟨r, e, hf⟩ := hq; cases e
theorem cs_X1_moved_91 {L : Nat} {xs : Nat → Int32} {σ : ks_St} {mc ms : Nat} {P : ka_O → ks_St → Prop} {f : ks_St → Prop} {x5 : Int32} {a4 : Nat} {s1 : Int32} (hK : ks_M L xs mX3_fillFrom rm_X3_fillFrom [.ref a4, .int s1] σ (pv_ f)) (kr : ∀ σ', f σ' → ks_W L xs mX1_moved rm_X1_moved 94 [(0, .ref 6), (5, .int x5)] [] σ' mc ms P) : ks_W L xs mX1_moved rm_X1_moved 91 [(0, .ref 6), (5, .int x5)] [.int s1, .ref a4] σ mc ms P := by
  refine ks_callS (q := 94) (As := [.ref a4, .int s1]) (st := []) d_X1_moved_91 rfl rfl lk_X1_124 ⟨by decide, by decide⟩ (Nat.le_of_ble_eq_true rfl) ⟨Nat.le_refl _, Nat.le_refl _⟩ hK (fun v σ' hq => ?_) (fun E σ' hq => ?_)
  · obtain ⟨e, hf⟩ := hq; cases e; exact kr σ' hf
  · obtain ⟨e, hf⟩ := hq; cases e
theorem sg_X1_moved_94 {L : Nat} {xs : Nat → Int32} {σ : ks_St} {mc ms : Nat} {P : ka_O → ks_St → Prop} {x5 : Int32}  (k2 : (x5 ≤ (si_ σ 6)) → ks_W L xs mX1_moved rm_X1_moved 112 [] [.int (si_ σ 2), .ref 6] σ mc ms P) (k3 : (¬ (x5 ≤ (si_ σ 6))) → ks_W L xs mX1_moved rm_X1_moved 112 [] [.int 1, .ref 6] σ mc ms P) : ks_W L xs mX1_moved rm_X1_moved 94 [(0, .ref 6), (5, .int x5)] [] σ mc ms P := by
  refine ka_aload_n d_X1_moved_94 rfl rfl 0 rfl ?_
  refine ka_iload d_X1_moved_95 rfl 1 rfl ?_
  refine ka_aload_n d_X1_moved_97 rfl rfl 0 rfl ?_
  refine gf_X1_4 d_X1_moved_98 rfl fl_X1_24 ?_
  refine ka_icmp_le (tgt := 108) d_X1_moved_101 (by decide) rfl (fun c1 => ?_) (fun c1 => ?_)
  · refine ka_aload_n d_X1_moved_108 rfl rfl 0 rfl ?_
    refine gf_X1_0 d_X1_moved_109 rfl fl_X1_9 ?_
    refine ka_sub [] rfl ?_
    exact (k2 c1)
  · refine ka_iconst (v := 1) d_X1_moved_104 rfl (by decide) ?_
    refine ka_goto (q := 112) d_X1_moved_105 (by decide) ?_
    refine ka_sub [] rfl ?_
    exact (k3 c1)
theorem sg_X1_moved_112 {L : Nat} {xs : Nat → Int32} {σ : ks_St} {mc ms : Nat} {P : ka_O → ks_St → Prop} {s1 : Int32}  (k1 : ks_W L xs mX1_moved rm_X1_moved 115 [] [] (ui_ σ 2 s1) mc ms P) : ks_W L xs mX1_moved rm_X1_moved 112 [] [.int s1, .ref 6] σ mc ms P := by
  refine pf_X1_0 d_X1_moved_112 rfl fl_X1_9 ?_
  exact k1
theorem sg_X1_moved_115 {L : Nat} {xs : Nat → Int32} {σ : ks_St} {mc ms : Nat} {P : ka_O → ks_St → Prop}   (r1 : P (.inl none) σ) : ks_W L xs mX1_moved rm_X1_moved 115 [] [] σ mc ms P := by
  exact ks_vret d_X1_moved_115 rfl r1
theorem d_X1_turned_0 : decode cX1_turned 0 = .ok (.aload_n 3, 1) := by decide +kernel
theorem d_X1_turned_1 : decode cX1_turned 1 = .ok (.aload_n 0, 1) := by decide +kernel
theorem d_X1_turned_2 : decode cX1_turned 2 = .ok (.getfield 24, 3) := by decide +kernel
theorem d_X1_turned_5 : decode cX1_turned 5 = .ok (.invokestatic 127, 3) := by decide +kernel
theorem d_X1_turned_8 : decode cX1_turned 8 = .ok (.istore 5, 2) := by decide +kernel
theorem d_X1_turned_10 : decode cX1_turned 10 = .ok (.iload_n 1, 1) := by decide +kernel
theorem d_X1_turned_11 : decode cX1_turned 11 = .ok (.bipush 12, 2) := by decide +kernel
theorem d_X1_turned_13 : decode cX1_turned 13 = .ok (.if_icmp .ne 13, 3) := by decide +kernel
theorem d_X1_turned_16 : decode cX1_turned 16 = .ok (.aload_n 0, 1) := by decide +kernel
theorem d_X1_turned_17 : decode cX1_turned 17 = .ok (.getfield 24, 3) := by decide +kernel
theorem d_X1_turned_20 : decode cX1_turned 20 = .ok (.iload 5, 2) := by decide +kernel
theorem d_X1_turned_22 : decode cX1_turned 22 = .ok (.isub, 1) := by decide +kernel
theorem d_X1_turned_23 : decode cX1_turned 23 = .ok (.goto 5, 3) := by decide +kernel
theorem d_X1_turned_26 : decode cX1_turned 26 = .ok (.iload 5, 2) := by decide +kernel
theorem d_X1_turned_28 : decode cX1_turned 28 = .ok (.istore 6, 2) := by decide +kernel
theorem d_X1_turned_30 : decode cX1_turned 30 = .ok (.aload_n 2, 1) := by decide +kernel
theorem d_X1_turned_31 : decode cX1_turned 31 = .ok (.iload 6, 2) := by decide +kernel
theorem d_X1_turned_33 : decode cX1_turned 33 = .ok (.aload 4, 2) := by decide +kernel
theorem d_X1_turned_35 : decode cX1_turned 35 = .ok (.invokestatic 95, 3) := by decide +kernel
theorem d_X1_turned_38 : decode cX1_turned 38 = .ok (.aload_n 2, 1) := by decide +kernel
theorem d_X1_turned_39 : decode cX1_turned 39 = .ok (.iload 6, 2) := by decide +kernel
theorem d_X1_turned_41 : decode cX1_turned 41 = .ok (.aload_n 0, 1) := by decide +kernel
theorem d_X1_turned_42 : decode cX1_turned 42 = .ok (.getfield 24, 3) := by decide +kernel
theorem d_X1_turned_45 : decode cX1_turned 45 = .ok (.isub, 1) := by decide +kernel
theorem d_X1_turned_46 : decode cX1_turned 46 = .ok (.aload 4, 2) := by decide +kernel
theorem d_X1_turned_48 : decode cX1_turned 48 = .ok (.invokestatic 130, 3) := by decide +kernel
theorem d_X1_turned_51 : decode cX1_turned 51 = .ok (.return_, 1) := by decide +kernel
theorem sg_X1_turned_0 {L : Nat} {xs : Nat → Int32} {σ : ks_St} {mc ms : Nat} {P : ka_O → ks_St → Prop} {x1 : Int32} {a2 na2 : Nat} {a3 na3 : Nat} {a4 na4 : Nat} (ha2 : rl_ a2 na2) (ha3 : rl_ a3 na3) (ha4 : rl_ a4 na4) (k1 : ks_W L xs mX1_turned rm_X1_turned 5 [(0, .ref 6), (1, .int x1), (2, .ref a2), (4, .ref a4)] [.int (si_ σ 6), .ref a3] σ mc ms P) : ks_W L xs mX1_turned rm_X1_turned 0 [(0, .ref 6), (1, .int x1), (2, .ref a2), (3, .ref a3), (4, .ref a4)] [] σ mc ms P := by
  refine ka_aload_n d_X1_turned_0 rfl rfl 3 rfl ?_
  refine ka_aload_n d_X1_turned_1 rfl rfl 0 rfl ?_
  refine gf_X1_4 d_X1_turned_2 rfl fl_X1_24 ?_
  refine ka_sub [0, 1, 2, 4] rfl ?_
  exact k1
theorem cs_X1_turned_5 {L : Nat} {xs : Nat → Int32} {σ : ks_St} {mc ms : Nat} {P : ka_O → ks_St → Prop} {f : Int32 → ks_St → Prop} {x1 : Int32} {a2 : Nat} {a4 : Nat} {a3 : Nat} {s1 : Int32} (hK : ks_M L xs mX3_restBy rm_X3_restBy [.ref a3, .int s1] σ (pi_ f)) (kr : ∀ r σ', f r σ' → ks_W L xs mX1_turned rm_X1_turned 8 [(0, .ref 6), (1, .int x1), (2, .ref a2), (4, .ref a4)] [.int r] σ' mc ms P) : ks_W L xs mX1_turned rm_X1_turned 5 [(0, .ref 6), (1, .int x1), (2, .ref a2), (4, .ref a4)] [.int s1, .ref a3] σ mc ms P := by
  refine ks_callS (q := 8) (As := [.ref a3, .int s1]) (st := []) d_X1_turned_5 rfl rfl lk_X1_127 ⟨by decide, by decide⟩ (Nat.le_of_ble_eq_true rfl) ⟨Nat.le_refl _, Nat.le_refl _⟩ hK (fun v σ' hq => ?_) (fun E σ' hq => ?_)
  · obtain ⟨r, e, hf⟩ := hq; cases e; exact kr r σ' hf
  · obtain ⟨r, e, hf⟩ := hq; cases e
theorem sg_X1_turned_8 {L : Nat} {xs : Nat → Int32} {σ : ks_St} {mc ms : Nat} {P : ka_O → ks_St → Prop} {x1 : Int32} {a2 na2 : Nat} {a4 na4 : Nat} {s0 : Int32} (ha2 : rl_ a2 na2) (ha4 : rl_ a4 na4) (k2 : (¬ x1 = 12) → ks_W L xs mX1_turned rm_X1_turned 28 [(0, .ref 6), (2, .ref a2), (4, .ref a4)] [.int s0] σ mc ms P) (k3 : (x1 = 12) → ks_W L xs mX1_turned rm_X1_turned 28 [(0, .ref 6), (2, .ref a2), (4, .ref a4)] [.int ((si_ σ 6) - s0)] σ mc ms P) : ks_W L xs mX1_turned rm_X1_turned 8 [(0, .ref 6), (1, .int x1), (2, .ref a2), (4, .ref a4)] [.int s0] σ mc ms P := by
  refine ka_istore (ls' := [(5, .int s0), (0, .ref 6), (1, .int x1), (2, .ref a2), (4, .ref a4)]) d_X1_turned_8 rfl (by decide) rfl ?_
  refine ka_iload_n d_X1_turned_10 rfl rfl 2 rfl ?_
  refine ka_bipush (v := 12) d_X1_turned_11 rfl (by decide) ?_
  refine ka_icmp_ne (tgt := 26) d_X1_turned_13 (by decide) rfl (fun c1 => ?_) (fun c1 => ?_)
  · refine ka_iload d_X1_turned_26 rfl 0 rfl ?_
    refine ka_sub [1, 3, 4] rfl ?_
    exact (k2 c1)
  · refine ka_aload_n d_X1_turned_16 rfl rfl 1 rfl ?_
    refine gf_X1_4 d_X1_turned_17 rfl fl_X1_24 ?_
    refine ka_iload d_X1_turned_20 rfl 0 rfl ?_
    refine ka_isub d_X1_turned_22 rfl ?_
    refine ka_goto (q := 28) d_X1_turned_23 (by decide) ?_
    refine ka_sub [1, 3, 4] rfl ?_
    exact (k3 c1)
theorem sg_X1_turned_28 {L : Nat} {xs : Nat → Int32} {σ : ks_St} {mc ms : Nat} {P : ka_O → ks_St → Prop} {a2 na2 : Nat} {a4 na4 : Nat} {s0 : Int32} (ha2 : rl_ a2 na2) (ha4 : rl_ a4 na4) (k1 : ks_W L xs mX1_turned rm_X1_turned 35 [(0, .ref 6), (2, .ref a2), (4, .ref a4), (6, .int s0)] [.ref a4, .int s0, .ref a2] σ mc ms P) : ks_W L xs mX1_turned rm_X1_turned 28 [(0, .ref 6), (2, .ref a2), (4, .ref a4)] [.int s0] σ mc ms P := by
  refine ka_istore (ls' := [(6, .int s0), (0, .ref 6), (2, .ref a2), (4, .ref a4)]) d_X1_turned_28 rfl (by decide) rfl ?_
  refine ka_aload_n d_X1_turned_30 rfl rfl 2 rfl ?_
  refine ka_iload d_X1_turned_31 rfl 0 rfl ?_
  refine ka_aload d_X1_turned_33 rfl 3 rfl ?_
  refine ka_sub [1, 2, 3, 0] rfl ?_
  exact k1
theorem cs_X1_turned_35 {L : Nat} {xs : Nat → Int32} {σ : ks_St} {mc ms : Nat} {P : ka_O → ks_St → Prop} {f : ks_St → Prop} {a2 : Nat} {a4 : Nat} {x6 : Int32} {s1 : Int32} (hK : ks_M L xs mX3_moveUp rm_X3_moveUp [.ref a2, .int s1, .ref a4] σ (pv_ f)) (kr : ∀ σ', f σ' → ks_W L xs mX1_turned rm_X1_turned 38 [(0, .ref 6), (2, .ref a2), (4, .ref a4), (6, .int x6)] [] σ' mc ms P) : ks_W L xs mX1_turned rm_X1_turned 35 [(0, .ref 6), (2, .ref a2), (4, .ref a4), (6, .int x6)] [.ref a4, .int s1, .ref a2] σ mc ms P := by
  refine ks_callS (q := 38) (As := [.ref a2, .int s1, .ref a4]) (st := []) d_X1_turned_35 rfl rfl lk_X1_95 ⟨by decide, by decide⟩ (Nat.le_of_ble_eq_true rfl) ⟨Nat.le_refl _, Nat.le_refl _⟩ hK (fun v σ' hq => ?_) (fun E σ' hq => ?_)
  · obtain ⟨e, hf⟩ := hq; cases e; exact kr σ' hf
  · obtain ⟨e, hf⟩ := hq; cases e
theorem sg_X1_turned_38 {L : Nat} {xs : Nat → Int32} {σ : ks_St} {mc ms : Nat} {P : ka_O → ks_St → Prop} {a2 na2 : Nat} {a4 na4 : Nat} {x6 : Int32} (ha2 : rl_ a2 na2) (ha4 : rl_ a4 na4) (k1 : ks_W L xs mX1_turned rm_X1_turned 48 [] [.ref a4, .int (x6 - (si_ σ 6)), .ref a2] σ mc ms P) : ks_W L xs mX1_turned rm_X1_turned 38 [(0, .ref 6), (2, .ref a2), (4, .ref a4), (6, .int x6)] [] σ mc ms P := by
  refine ka_aload_n d_X1_turned_38 rfl rfl 1 rfl ?_
  refine ka_iload d_X1_turned_39 rfl 3 rfl ?_
  refine ka_aload_n d_X1_turned_41 rfl rfl 0 rfl ?_
  refine gf_X1_4 d_X1_turned_42 rfl fl_X1_24 ?_
  refine ka_isub d_X1_turned_45 rfl ?_
  refine ka_aload d_X1_turned_46 rfl 2 rfl ?_
  refine ka_sub [] rfl ?_
  exact k1
theorem cs_X1_turned_48 {L : Nat} {xs : Nat → Int32} {σ : ks_St} {mc ms : Nat} {P : ka_O → ks_St → Prop} {f : ks_St → Prop} {a2 : Nat} {s1 : Int32} {a4 : Nat} (hK : ks_M L xs mX3_orMovedUp rm_X3_orMovedUp [.ref a2, .int s1, .ref a4] σ (pv_ f)) (kr : ∀ σ', f σ' → ks_W L xs mX1_turned rm_X1_turned 51 [] [] σ' mc ms P) : ks_W L xs mX1_turned rm_X1_turned 48 [] [.ref a4, .int s1, .ref a2] σ mc ms P := by
  refine ks_callS (q := 51) (As := [.ref a2, .int s1, .ref a4]) (st := []) d_X1_turned_48 rfl rfl lk_X1_130 ⟨by decide, by decide⟩ (Nat.le_of_ble_eq_true rfl) ⟨Nat.le_refl _, Nat.le_refl _⟩ hK (fun v σ' hq => ?_) (fun E σ' hq => ?_)
  · obtain ⟨e, hf⟩ := hq; cases e; exact kr σ' hf
  · obtain ⟨e, hf⟩ := hq; cases e
theorem sg_X1_turned_51 {L : Nat} {xs : Nat → Int32} {σ : ks_St} {mc ms : Nat} {P : ka_O → ks_St → Prop}   (r1 : P (.inl none) σ) : ks_W L xs mX1_turned rm_X1_turned 51 [] [] σ mc ms P := by
  exact ks_vret d_X1_turned_51 rfl r1
theorem d_X1_bitByBit_0 : decode cX1_bitByBit 0 = .ok (.iconst 0, 1) := by decide +kernel
theorem d_X1_bitByBit_1 : decode cX1_bitByBit 1 = .ok (.istore 5, 2) := by decide +kernel
theorem d_X1_bitByBit_3 : decode cX1_bitByBit 3 = .ok (.iload 5, 2) := by decide +kernel
theorem d_X1_bitByBit_5 : decode cX1_bitByBit 5 = .ok (.bipush 8, 2) := by decide +kernel
theorem d_X1_bitByBit_7 : decode cX1_bitByBit 7 = .ok (.if_icmp .ge 99, 3) := by decide +kernel
theorem d_X1_bitByBit_10 : decode cX1_bitByBit 10 = .ok (.iload_n 1, 1) := by decide +kernel
theorem d_X1_bitByBit_11 : decode cX1_bitByBit 11 = .ok (.tableswitch 76 13 15 #[25, 42, 59], 25) := by decide +kernel
theorem d_X1_bitByBit_36 : decode cX1_bitByBit 36 = .ok (.aload 4, 2) := by decide +kernel
theorem d_X1_bitByBit_38 : decode cX1_bitByBit 38 = .ok (.iload 5, 2) := by decide +kernel
theorem d_X1_bitByBit_40 : decode cX1_bitByBit 40 = .ok (.aload_n 2, 1) := by decide +kernel
theorem d_X1_bitByBit_41 : decode cX1_bitByBit 41 = .ok (.iload 5, 2) := by decide +kernel
theorem d_X1_bitByBit_43 : decode cX1_bitByBit 43 = .ok (.laload, 1) := by decide +kernel
theorem d_X1_bitByBit_44 : decode cX1_bitByBit 44 = .ok (.aload_n 3, 1) := by decide +kernel
theorem d_X1_bitByBit_45 : decode cX1_bitByBit 45 = .ok (.iload 5, 2) := by decide +kernel
theorem d_X1_bitByBit_47 : decode cX1_bitByBit 47 = .ok (.laload, 1) := by decide +kernel
theorem d_X1_bitByBit_48 : decode cX1_bitByBit 48 = .ok (.land, 1) := by decide +kernel
theorem d_X1_bitByBit_49 : decode cX1_bitByBit 49 = .ok (.lastore, 1) := by decide +kernel
theorem d_X1_bitByBit_50 : decode cX1_bitByBit 50 = .ok (.goto 50, 3) := by decide +kernel
theorem d_X1_bitByBit_53 : decode cX1_bitByBit 53 = .ok (.aload 4, 2) := by decide +kernel
theorem d_X1_bitByBit_55 : decode cX1_bitByBit 55 = .ok (.iload 5, 2) := by decide +kernel
theorem d_X1_bitByBit_57 : decode cX1_bitByBit 57 = .ok (.aload_n 2, 1) := by decide +kernel
theorem d_X1_bitByBit_58 : decode cX1_bitByBit 58 = .ok (.iload 5, 2) := by decide +kernel
theorem d_X1_bitByBit_60 : decode cX1_bitByBit 60 = .ok (.laload, 1) := by decide +kernel
theorem d_X1_bitByBit_61 : decode cX1_bitByBit 61 = .ok (.aload_n 3, 1) := by decide +kernel
theorem d_X1_bitByBit_62 : decode cX1_bitByBit 62 = .ok (.iload 5, 2) := by decide +kernel
theorem d_X1_bitByBit_64 : decode cX1_bitByBit 64 = .ok (.laload, 1) := by decide +kernel
theorem d_X1_bitByBit_65 : decode cX1_bitByBit 65 = .ok (.lor, 1) := by decide +kernel
theorem d_X1_bitByBit_66 : decode cX1_bitByBit 66 = .ok (.lastore, 1) := by decide +kernel
theorem d_X1_bitByBit_67 : decode cX1_bitByBit 67 = .ok (.goto 33, 3) := by decide +kernel
theorem d_X1_bitByBit_70 : decode cX1_bitByBit 70 = .ok (.aload 4, 2) := by decide +kernel
theorem d_X1_bitByBit_72 : decode cX1_bitByBit 72 = .ok (.iload 5, 2) := by decide +kernel
theorem d_X1_bitByBit_74 : decode cX1_bitByBit 74 = .ok (.aload_n 2, 1) := by decide +kernel
theorem d_X1_bitByBit_75 : decode cX1_bitByBit 75 = .ok (.iload 5, 2) := by decide +kernel
theorem d_X1_bitByBit_77 : decode cX1_bitByBit 77 = .ok (.laload, 1) := by decide +kernel
theorem d_X1_bitByBit_78 : decode cX1_bitByBit 78 = .ok (.aload_n 3, 1) := by decide +kernel
theorem d_X1_bitByBit_79 : decode cX1_bitByBit 79 = .ok (.iload 5, 2) := by decide +kernel
theorem d_X1_bitByBit_81 : decode cX1_bitByBit 81 = .ok (.laload, 1) := by decide +kernel
theorem d_X1_bitByBit_82 : decode cX1_bitByBit 82 = .ok (.lxor, 1) := by decide +kernel
theorem d_X1_bitByBit_83 : decode cX1_bitByBit 83 = .ok (.lastore, 1) := by decide +kernel
theorem d_X1_bitByBit_84 : decode cX1_bitByBit 84 = .ok (.goto 16, 3) := by decide +kernel
theorem d_X1_bitByBit_87 : decode cX1_bitByBit 87 = .ok (.aload 4, 2) := by decide +kernel
theorem d_X1_bitByBit_89 : decode cX1_bitByBit 89 = .ok (.iload 5, 2) := by decide +kernel
theorem d_X1_bitByBit_91 : decode cX1_bitByBit 91 = .ok (.aload_n 2, 1) := by decide +kernel
theorem d_X1_bitByBit_92 : decode cX1_bitByBit 92 = .ok (.iload 5, 2) := by decide +kernel
theorem d_X1_bitByBit_94 : decode cX1_bitByBit 94 = .ok (.laload, 1) := by decide +kernel
theorem d_X1_bitByBit_95 : decode cX1_bitByBit 95 = .ok (.ldc2_w 133, 3) := by decide +kernel
theorem d_X1_bitByBit_98 : decode cX1_bitByBit 98 = .ok (.lxor, 1) := by decide +kernel
theorem d_X1_bitByBit_99 : decode cX1_bitByBit 99 = .ok (.lastore, 1) := by decide +kernel
theorem d_X1_bitByBit_100 : decode cX1_bitByBit 100 = .ok (.iinc 5 1, 3) := by decide +kernel
theorem d_X1_bitByBit_103 : decode cX1_bitByBit 103 = .ok (.goto (-100), 3) := by decide +kernel
theorem d_X1_bitByBit_106 : decode cX1_bitByBit 106 = .ok (.return_, 1) := by decide +kernel
theorem sg_X1_bitByBit_0 {L : Nat} {xs : Nat → Int32} {σ : ks_St} {mc ms : Nat} {P : ka_O → ks_St → Prop} {x1 : Int32} {a2 na2 : Nat} {a3 na3 : Nat} {a4 na4 : Nat} (ha2 : rl_ a2 na2) (ha3 : rl_ a3 na3) (ha4 : rl_ a4 na4) (k1 : ks_W L xs mX1_bitByBit rm_X1_bitByBit 3 [(1, .int x1), (2, .ref a2), (3, .ref a3), (4, .ref a4), (5, .int 0)] [] σ mc ms P) : ks_W L xs mX1_bitByBit rm_X1_bitByBit 0 [(1, .int x1), (2, .ref a2), (3, .ref a3), (4, .ref a4)] [] σ mc ms P := by
  refine ka_iconst (v := 0) d_X1_bitByBit_0 rfl (by decide) ?_
  refine ka_istore (ls' := [(5, .int 0), (1, .int x1), (2, .ref a2), (3, .ref a3), (4, .ref a4)]) d_X1_bitByBit_1 rfl (by decide) rfl ?_
  refine ka_sub [1, 2, 3, 4, 0] rfl ?_
  exact k1
theorem sg_X1_bitByBit_3 {L : Nat} {xs : Nat → Int32} {σ : ks_St} {mc ms : Nat} {P : ka_O → ks_St → Prop} {x1 : Int32} {a2 na2 : Nat} {a3 na3 : Nat} {a4 na4 : Nat} {x5 : Int32} (ha2 : rl_ a2 na2) (ha3 : rl_ a3 na3) (ha4 : rl_ a4 na4) (r2 : (8 ≤ x5) → P (.inl none) σ) (v4 : (¬ (8 ≤ x5)) → (x1 = 13) → vp_in x5 na2) (v5 : (¬ (8 ≤ x5)) → (x1 = 13) → vp_in x5 na3) (v6 : (¬ (8 ≤ x5)) → (x1 = 13) → vp_in x5 na4) (k7 : (¬ (8 ≤ x5)) → (x1 = 13) → ks_W L xs mX1_bitByBit rm_X1_bitByBit 100 [(1, .int x1), (2, .ref a2), (3, .ref a3), (4, .ref a4), (5, .int x5)] [] (ug_ σ a4 (vp_updL (sg_ σ a4) x5.toNatClampNeg ((sg_ σ a2 x5.toNatClampNeg) &&& (sg_ σ a3 x5.toNatClampNeg)))) mc ms P) (v9 : (¬ (8 ≤ x5)) → (¬ x1 = 13) → (x1 = 14) → vp_in x5 na2) (v10 : (¬ (8 ≤ x5)) → (¬ x1 = 13) → (x1 = 14) → vp_in x5 na3) (v11 : (¬ (8 ≤ x5)) → (¬ x1 = 13) → (x1 = 14) → vp_in x5 na4) (k12 : (¬ (8 ≤ x5)) → (¬ x1 = 13) → (x1 = 14) → ks_W L xs mX1_bitByBit rm_X1_bitByBit 100 [(1, .int x1), (2, .ref a2), (3, .ref a3), (4, .ref a4), (5, .int x5)] [] (ug_ σ a4 (vp_updL (sg_ σ a4) x5.toNatClampNeg ((sg_ σ a2 x5.toNatClampNeg) ||| (sg_ σ a3 x5.toNatClampNeg)))) mc ms P) (v14 : (¬ (8 ≤ x5)) → (¬ x1 = 13) → (¬ x1 = 14) → (x1 = 15) → vp_in x5 na2) (v15 : (¬ (8 ≤ x5)) → (¬ x1 = 13) → (¬ x1 = 14) → (x1 = 15) → vp_in x5 na3) (v16 : (¬ (8 ≤ x5)) → (¬ x1 = 13) → (¬ x1 = 14) → (x1 = 15) → vp_in x5 na4) (k17 : (¬ (8 ≤ x5)) → (¬ x1 = 13) → (¬ x1 = 14) → (x1 = 15) → ks_W L xs mX1_bitByBit rm_X1_bitByBit 100 [(1, .int x1), (2, .ref a2), (3, .ref a3), (4, .ref a4), (5, .int x5)] [] (ug_ σ a4 (vp_updL (sg_ σ a4) x5.toNatClampNeg ((sg_ σ a2 x5.toNatClampNeg) ^^^ (sg_ σ a3 x5.toNatClampNeg)))) mc ms P) (v18 : (¬ (8 ≤ x5)) → (¬ x1 = 13) → (¬ x1 = 14) → (¬ x1 = 15) → vp_in x5 na2) (v19 : (¬ (8 ≤ x5)) → (¬ x1 = 13) → (¬ x1 = 14) → (¬ x1 = 15) → vp_in x5 na4) (k20 : (¬ (8 ≤ x5)) → (¬ x1 = 13) → (¬ x1 = 14) → (¬ x1 = 15) → ks_W L xs mX1_bitByBit rm_X1_bitByBit 100 [(1, .int x1), (2, .ref a2), (3, .ref a3), (4, .ref a4), (5, .int x5)] [] (ug_ σ a4 (vp_updL (sg_ σ a4) x5.toNatClampNeg ((sg_ σ a2 x5.toNatClampNeg) ^^^ ((-1))))) mc ms P) : ks_W L xs mX1_bitByBit rm_X1_bitByBit 3 [(1, .int x1), (2, .ref a2), (3, .ref a3), (4, .ref a4), (5, .int x5)] [] σ mc ms P := by
  refine ka_iload d_X1_bitByBit_3 rfl 4 rfl ?_
  refine ka_bipush (v := 8) d_X1_bitByBit_5 rfl (by decide) ?_
  refine ka_icmp_ge (tgt := 106) d_X1_bitByBit_7 (by decide) rfl (fun c1 => ?_) (fun c1 => ?_)
  · exact ks_vret d_X1_bitByBit_106 rfl (r2 c1)
  · refine ka_iload_n d_X1_bitByBit_10 rfl rfl 0 rfl ?_
    by_cases c3 : x1 = 13
    · refine ka_tabIn (q := 36) d_X1_bitByBit_11 (by rw [c3]; decide) (by rw [c3]; decide) (by rw [c3]; rfl) (by decide) ?_
      refine ka_aload d_X1_bitByBit_36 rfl 3 rfl ?_
      refine ka_iload d_X1_bitByBit_38 rfl 4 rfl ?_
      refine ka_aload_n d_X1_bitByBit_40 rfl rfl 1 rfl ?_
      refine ka_iload d_X1_bitByBit_41 rfl 4 rfl ?_
      refine ks_lald ha2 d_X1_bitByBit_43 rfl (v4 c1 c3) ?_
      refine ka_aload_n d_X1_bitByBit_44 rfl rfl 2 rfl ?_
      refine ka_iload d_X1_bitByBit_45 rfl 4 rfl ?_
      refine ks_lald ha3 d_X1_bitByBit_47 rfl (v5 c1 c3) ?_
      refine ka_land d_X1_bitByBit_48 rfl ?_
      refine ks_last ha4 d_X1_bitByBit_49 rfl (v6 c1 c3) ?_
      refine ka_goto (q := 100) d_X1_bitByBit_50 (by decide) ?_
      exact (k7 c1 c3)
    by_cases c8 : x1 = 14
    · refine ka_tabIn (q := 53) d_X1_bitByBit_11 (by rw [c8]; decide) (by rw [c8]; decide) (by rw [c8]; rfl) (by decide) ?_
      refine ka_aload d_X1_bitByBit_53 rfl 3 rfl ?_
      refine ka_iload d_X1_bitByBit_55 rfl 4 rfl ?_
      refine ka_aload_n d_X1_bitByBit_57 rfl rfl 1 rfl ?_
      refine ka_iload d_X1_bitByBit_58 rfl 4 rfl ?_
      refine ks_lald ha2 d_X1_bitByBit_60 rfl (v9 c1 c3 c8) ?_
      refine ka_aload_n d_X1_bitByBit_61 rfl rfl 2 rfl ?_
      refine ka_iload d_X1_bitByBit_62 rfl 4 rfl ?_
      refine ks_lald ha3 d_X1_bitByBit_64 rfl (v10 c1 c3 c8) ?_
      refine ka_lor d_X1_bitByBit_65 rfl ?_
      refine ks_last ha4 d_X1_bitByBit_66 rfl (v11 c1 c3 c8) ?_
      refine ka_goto (q := 100) d_X1_bitByBit_67 (by decide) ?_
      exact (k12 c1 c3 c8)
    by_cases c13 : x1 = 15
    · refine ka_tabIn (q := 70) d_X1_bitByBit_11 (by rw [c13]; decide) (by rw [c13]; decide) (by rw [c13]; rfl) (by decide) ?_
      refine ka_aload d_X1_bitByBit_70 rfl 3 rfl ?_
      refine ka_iload d_X1_bitByBit_72 rfl 4 rfl ?_
      refine ka_aload_n d_X1_bitByBit_74 rfl rfl 1 rfl ?_
      refine ka_iload d_X1_bitByBit_75 rfl 4 rfl ?_
      refine ks_lald ha2 d_X1_bitByBit_77 rfl (v14 c1 c3 c8 c13) ?_
      refine ka_aload_n d_X1_bitByBit_78 rfl rfl 2 rfl ?_
      refine ka_iload d_X1_bitByBit_79 rfl 4 rfl ?_
      refine ks_lald ha3 d_X1_bitByBit_81 rfl (v15 c1 c3 c8 c13) ?_
      refine ka_lxor d_X1_bitByBit_82 rfl ?_
      refine ks_last ha4 d_X1_bitByBit_83 rfl (v16 c1 c3 c8 c13) ?_
      refine ka_goto (q := 100) d_X1_bitByBit_84 (by decide) ?_
      exact (k17 c1 c3 c8 c13)
    refine ka_tabOut (q := 87) d_X1_bitByBit_11 (by have nc3 := lv_neT (a := 13) c3 (by decide); have nc8 := lv_neT (a := 14) c8 (by decide); have nc13 := lv_neT (a := 15) c13 (by decide); omega) (by decide) ?_
    refine ka_aload d_X1_bitByBit_87 rfl 3 rfl ?_
    refine ka_iload d_X1_bitByBit_89 rfl 4 rfl ?_
    refine ka_aload_n d_X1_bitByBit_91 rfl rfl 1 rfl ?_
    refine ka_iload d_X1_bitByBit_92 rfl 4 rfl ?_
    refine ks_lald ha2 d_X1_bitByBit_94 rfl (v18 c1 c3 c8 c13) ?_
    refine ka_ldc2 (v := -1) d_X1_bitByBit_95 rfl kl_X1_133 ?_
    refine ka_lxor d_X1_bitByBit_98 rfl ?_
    refine ks_last ha4 d_X1_bitByBit_99 rfl (v19 c1 c3 c8 c13) ?_
    exact (k20 c1 c3 c8 c13)
theorem sg_X1_bitByBit_100 {L : Nat} {xs : Nat → Int32} {σ : ks_St} {mc ms : Nat} {P : ka_O → ks_St → Prop} {x1 : Int32} {a2 na2 : Nat} {a3 na3 : Nat} {a4 na4 : Nat} {x5 : Int32} (ha2 : rl_ a2 na2) (ha3 : rl_ a3 na3) (ha4 : rl_ a4 na4) (k1 : ks_W L xs mX1_bitByBit rm_X1_bitByBit 3 [(1, .int x1), (2, .ref a2), (3, .ref a3), (4, .ref a4), (5, .int (x5 + 1))] [] σ mc ms P) : ks_W L xs mX1_bitByBit rm_X1_bitByBit 100 [(1, .int x1), (2, .ref a2), (3, .ref a3), (4, .ref a4), (5, .int x5)] [] σ mc ms P := by
  refine ka_iinc (g := 4) (v := x5 + 1) (ls' := [(5, .int (x5 + 1)), (1, .int x1), (2, .ref a2), (3, .ref a3), (4, .ref a4)]) d_X1_bitByBit_100 rfl rfl rfl (by decide) rfl ?_
  refine ka_goto (q := 3) d_X1_bitByBit_103 (by decide) ?_
  refine ka_sub [1, 2, 3, 4, 0] rfl ?_
  exact k1
theorem d_X1_reversed_0 : decode cX1_reversed 0 = .ok (.iconst 0, 1) := by decide +kernel
theorem d_X1_reversed_1 : decode cX1_reversed 1 = .ok (.istore 4, 2) := by decide +kernel
theorem d_X1_reversed_3 : decode cX1_reversed 3 = .ok (.iload 4, 2) := by decide +kernel
theorem d_X1_reversed_5 : decode cX1_reversed 5 = .ok (.bipush 8, 2) := by decide +kernel
theorem d_X1_reversed_7 : decode cX1_reversed 7 = .ok (.if_icmp .ge 44, 3) := by decide +kernel
theorem d_X1_reversed_10 : decode cX1_reversed 10 = .ok (.aload_n 2, 1) := by decide +kernel
theorem d_X1_reversed_11 : decode cX1_reversed 11 = .ok (.bipush 7, 2) := by decide +kernel
theorem d_X1_reversed_13 : decode cX1_reversed 13 = .ok (.iload 4, 2) := by decide +kernel
theorem d_X1_reversed_15 : decode cX1_reversed 15 = .ok (.isub, 1) := by decide +kernel
theorem d_X1_reversed_16 : decode cX1_reversed 16 = .ok (.laload, 1) := by decide +kernel
theorem d_X1_reversed_17 : decode cX1_reversed 17 = .ok (.lstore 5, 2) := by decide +kernel
theorem d_X1_reversed_19 : decode cX1_reversed 19 = .ok (.aload_n 0, 1) := by decide +kernel
theorem d_X1_reversed_20 : decode cX1_reversed 20 = .ok (.getfield 34, 3) := by decide +kernel
theorem d_X1_reversed_23 : decode cX1_reversed 23 = .ok (.iload 4, 2) := by decide +kernel
theorem d_X1_reversed_25 : decode cX1_reversed 25 = .ok (.iload_n 1, 1) := by decide +kernel
theorem d_X1_reversed_26 : decode cX1_reversed 26 = .ok (.bipush 17, 2) := by decide +kernel
theorem d_X1_reversed_28 : decode cX1_reversed 28 = .ok (.if_icmp .ne 11, 3) := by decide +kernel
theorem d_X1_reversed_31 : decode cX1_reversed 31 = .ok (.lload 5, 2) := by decide +kernel
theorem d_X1_reversed_33 : decode cX1_reversed 33 = .ok (.invokestatic 135, 3) := by decide +kernel
theorem d_X1_reversed_36 : decode cX1_reversed 36 = .ok (.goto 8, 3) := by decide +kernel
theorem d_X1_reversed_39 : decode cX1_reversed 39 = .ok (.lload 5, 2) := by decide +kernel
theorem d_X1_reversed_41 : decode cX1_reversed 41 = .ok (.invokestatic 139, 3) := by decide +kernel
theorem d_X1_reversed_44 : decode cX1_reversed 44 = .ok (.lastore, 1) := by decide +kernel
theorem d_X1_reversed_45 : decode cX1_reversed 45 = .ok (.iinc 4 1, 3) := by decide +kernel
theorem d_X1_reversed_48 : decode cX1_reversed 48 = .ok (.goto (-45), 3) := by decide +kernel
theorem d_X1_reversed_51 : decode cX1_reversed 51 = .ok (.aload_n 0, 1) := by decide +kernel
theorem d_X1_reversed_52 : decode cX1_reversed 52 = .ok (.getfield 34, 3) := by decide +kernel
theorem d_X1_reversed_55 : decode cX1_reversed 55 = .ok (.aload_n 0, 1) := by decide +kernel
theorem d_X1_reversed_56 : decode cX1_reversed 56 = .ok (.getfield 24, 3) := by decide +kernel
theorem d_X1_reversed_59 : decode cX1_reversed 59 = .ok (.sipush 512, 3) := by decide +kernel
theorem d_X1_reversed_62 : decode cX1_reversed 62 = .ok (.isub, 1) := by decide +kernel
theorem d_X1_reversed_63 : decode cX1_reversed 63 = .ok (.aload_n 3, 1) := by decide +kernel
theorem d_X1_reversed_64 : decode cX1_reversed 64 = .ok (.invokestatic 95, 3) := by decide +kernel
theorem d_X1_reversed_67 : decode cX1_reversed 67 = .ok (.return_, 1) := by decide +kernel
theorem sg_X1_reversed_0 {L : Nat} {xs : Nat → Int32} {σ : ks_St} {mc ms : Nat} {P : ka_O → ks_St → Prop} {x1 : Int32} {a2 na2 : Nat} {a3 na3 : Nat} (ha2 : rl_ a2 na2) (ha3 : rl_ a3 na3) (k1 : ks_W L xs mX1_reversed rm_X1_reversed 3 [(0, .ref 6), (1, .int x1), (2, .ref a2), (3, .ref a3), (4, .int 0)] [] σ mc ms P) : ks_W L xs mX1_reversed rm_X1_reversed 0 [(0, .ref 6), (1, .int x1), (2, .ref a2), (3, .ref a3)] [] σ mc ms P := by
  refine ka_iconst (v := 0) d_X1_reversed_0 rfl (by decide) ?_
  refine ka_istore (ls' := [(4, .int 0), (0, .ref 6), (1, .int x1), (2, .ref a2), (3, .ref a3)]) d_X1_reversed_1 rfl (by decide) rfl ?_
  refine ka_sub [1, 2, 3, 4, 0] rfl ?_
  exact k1
theorem sg_X1_reversed_3 {L : Nat} {xs : Nat → Int32} {σ : ks_St} {mc ms : Nat} {P : ka_O → ks_St → Prop} {x1 : Int32} {a2 na2 : Nat} {a3 na3 : Nat} {x4 : Int32} (ha2 : rl_ a2 na2) (ha3 : rl_ a3 na3) (k2 : (8 ≤ x4) → ks_W L xs mX1_reversed rm_X1_reversed 64 [] [.ref a3, .int ((si_ σ 6) - 512), .ref 15] σ mc ms P) (v3 : (¬ (8 ≤ x4)) → vp_in (7 - x4) na2) (k5 : (¬ (8 ≤ x4)) → (¬ x1 = 17) → ks_W L xs mX1_reversed rm_X1_reversed 41 [(0, .ref 6), (1, .int x1), (2, .ref a2), (3, .ref a3), (4, .int x4)] [.long (sg_ σ a2 (7 - x4).toNatClampNeg), .int x4, .ref 15] σ mc ms P) (k6 : (¬ (8 ≤ x4)) → (x1 = 17) → ks_W L xs mX1_reversed rm_X1_reversed 33 [(0, .ref 6), (1, .int x1), (2, .ref a2), (3, .ref a3), (4, .int x4)] [.long (sg_ σ a2 (7 - x4).toNatClampNeg), .int x4, .ref 15] σ mc ms P) : ks_W L xs mX1_reversed rm_X1_reversed 3 [(0, .ref 6), (1, .int x1), (2, .ref a2), (3, .ref a3), (4, .int x4)] [] σ mc ms P := by
  refine ka_iload d_X1_reversed_3 rfl 4 rfl ?_
  refine ka_bipush (v := 8) d_X1_reversed_5 rfl (by decide) ?_
  refine ka_icmp_ge (tgt := 51) d_X1_reversed_7 (by decide) rfl (fun c1 => ?_) (fun c1 => ?_)
  · refine ka_aload_n d_X1_reversed_51 rfl rfl 0 rfl ?_
    refine gf_X1_6 d_X1_reversed_52 rfl fl_X1_34 ?_
    refine ka_aload_n d_X1_reversed_55 rfl rfl 0 rfl ?_
    refine gf_X1_4 d_X1_reversed_56 rfl fl_X1_24 ?_
    refine ka_sipush (v := 512) d_X1_reversed_59 rfl (by decide) ?_
    refine ka_isub d_X1_reversed_62 rfl ?_
    refine ka_aload_n d_X1_reversed_63 rfl rfl 3 rfl ?_
    refine ka_sub [] rfl ?_
    exact (k2 c1)
  · refine ka_aload_n d_X1_reversed_10 rfl rfl 2 rfl ?_
    refine ka_bipush (v := 7) d_X1_reversed_11 rfl (by decide) ?_
    refine ka_iload d_X1_reversed_13 rfl 4 rfl ?_
    refine ka_isub d_X1_reversed_15 rfl ?_
    refine ks_lald ha2 d_X1_reversed_16 rfl (v3 c1) ?_
    refine ka_lstore (ls' := [(5, .long (sg_ σ a2 (7 - x4).toNatClampNeg)), (0, .ref 6), (1, .int x1), (2, .ref a2), (3, .ref a3), (4, .int x4)]) d_X1_reversed_17 rfl (by decide) rfl ?_
    refine ka_aload_n d_X1_reversed_19 rfl rfl 1 rfl ?_
    refine gf_X1_6 d_X1_reversed_20 rfl fl_X1_34 ?_
    refine ka_iload d_X1_reversed_23 rfl 5 rfl ?_
    refine ka_iload_n d_X1_reversed_25 rfl rfl 2 rfl ?_
    refine ka_bipush (v := 17) d_X1_reversed_26 rfl (by decide) ?_
    refine ka_icmp_ne (tgt := 39) d_X1_reversed_28 (by decide) rfl (fun c4 => ?_) (fun c4 => ?_)
    · refine ka_lload d_X1_reversed_39 rfl 0 rfl ?_
      refine ka_sub [1, 2, 3, 4, 5] rfl ?_
      exact (k5 c1 c4)
    · refine ka_lload d_X1_reversed_31 rfl 0 rfl ?_
      refine ka_sub [1, 2, 3, 4, 5] rfl ?_
      exact (k6 c1 c4)
theorem cs_X1_reversed_33 {L : Nat} {xs : Nat → Int32} {σ : ks_St} {mc ms : Nat} {P : ka_O → ks_St → Prop} {f : Int64 → ks_St → Prop} {x1 : Int32} {a2 : Nat} {a3 : Nat} {x4 : Int32} {s1 : Int32} {s2 : Int64} (hK : ks_M L xs mX3_bitsReversed rm_X3_bitsReversed [.long s2] σ (pl_ f)) (kr : ∀ r σ', f r σ' → ks_W L xs mX1_reversed rm_X1_reversed 36 [(0, .ref 6), (1, .int x1), (2, .ref a2), (3, .ref a3), (4, .int x4)] [.long r, .int s1, .ref 15] σ' mc ms P) : ks_W L xs mX1_reversed rm_X1_reversed 33 [(0, .ref 6), (1, .int x1), (2, .ref a2), (3, .ref a3), (4, .int x4)] [.long s2, .int s1, .ref 15] σ mc ms P := by
  refine ks_callS (q := 36) (As := [.long s2]) (st := [.int s1, .ref 15]) d_X1_reversed_33 rfl rfl lk_X1_135 ⟨by decide, by decide⟩ (Nat.le_of_ble_eq_true rfl) ⟨Nat.le_refl _, Nat.le_refl _⟩ hK (fun v σ' hq => ?_) (fun E σ' hq => ?_)
  · obtain ⟨r, e, hf⟩ := hq; cases e; exact kr r σ' hf
  · obtain ⟨r, e, hf⟩ := hq; cases e
theorem sg_X1_reversed_36 {L : Nat} {xs : Nat → Int32} {σ : ks_St} {mc ms : Nat} {P : ka_O → ks_St → Prop} {x1 : Int32} {a2 na2 : Nat} {a3 na3 : Nat} {x4 : Int32} {s1 : Int32} {s2 : Int64} (ha2 : rl_ a2 na2) (ha3 : rl_ a3 na3) (k1 : ks_W L xs mX1_reversed rm_X1_reversed 44 [(0, .ref 6), (1, .int x1), (2, .ref a2), (3, .ref a3), (4, .int x4)] [.long s2, .int s1, .ref 15] σ mc ms P) : ks_W L xs mX1_reversed rm_X1_reversed 36 [(0, .ref 6), (1, .int x1), (2, .ref a2), (3, .ref a3), (4, .int x4)] [.long s2, .int s1, .ref 15] σ mc ms P := by
  refine ka_goto (q := 44) d_X1_reversed_36 (by decide) ?_
  exact k1
theorem cs_X1_reversed_41 {L : Nat} {xs : Nat → Int32} {σ : ks_St} {mc ms : Nat} {P : ka_O → ks_St → Prop} {f : Int64 → ks_St → Prop} {x1 : Int32} {a2 : Nat} {a3 : Nat} {x4 : Int32} {s1 : Int32} {s2 : Int64} (hK : ks_M L xs mX3_bytesReversed rm_X3_bytesReversed [.long s2] σ (pl_ f)) (kr : ∀ r σ', f r σ' → ks_W L xs mX1_reversed rm_X1_reversed 44 [(0, .ref 6), (1, .int x1), (2, .ref a2), (3, .ref a3), (4, .int x4)] [.long r, .int s1, .ref 15] σ' mc ms P) : ks_W L xs mX1_reversed rm_X1_reversed 41 [(0, .ref 6), (1, .int x1), (2, .ref a2), (3, .ref a3), (4, .int x4)] [.long s2, .int s1, .ref 15] σ mc ms P := by
  refine ks_callS (q := 44) (As := [.long s2]) (st := [.int s1, .ref 15]) d_X1_reversed_41 rfl rfl lk_X1_139 ⟨by decide, by decide⟩ (Nat.le_of_ble_eq_true rfl) ⟨Nat.le_refl _, Nat.le_refl _⟩ hK (fun v σ' hq => ?_) (fun E σ' hq => ?_)
  · obtain ⟨r, e, hf⟩ := hq; cases e; exact kr r σ' hf
  · obtain ⟨r, e, hf⟩ := hq; cases e
theorem sg_X1_reversed_44 {L : Nat} {xs : Nat → Int32} {σ : ks_St} {mc ms : Nat} {P : ka_O → ks_St → Prop} {x1 : Int32} {a2 na2 : Nat} {a3 na3 : Nat} {x4 : Int32} {s1 : Int32} {s2 : Int64} (ha2 : rl_ a2 na2) (ha3 : rl_ a3 na3) (v1 : vp_in s1 8) (k2 : ks_W L xs mX1_reversed rm_X1_reversed 3 [(0, .ref 6), (1, .int x1), (2, .ref a2), (3, .ref a3), (4, .int (x4 + 1))] [] (ug_ σ 15 (vp_updL (sg_ σ 15) s1.toNatClampNeg s2)) mc ms P) : ks_W L xs mX1_reversed rm_X1_reversed 44 [(0, .ref 6), (1, .int x1), (2, .ref a2), (3, .ref a3), (4, .int x4)] [.long s2, .int s1, .ref 15] σ mc ms P := by
  refine ks_last row_15 d_X1_reversed_44 rfl v1 ?_
  refine ka_iinc (g := 4) (v := x4 + 1) (ls' := [(4, .int (x4 + 1)), (0, .ref 6), (1, .int x1), (2, .ref a2), (3, .ref a3)]) d_X1_reversed_45 rfl rfl rfl (by decide) rfl ?_
  refine ka_goto (q := 3) d_X1_reversed_48 (by decide) ?_
  refine ka_sub [1, 2, 3, 4, 0] rfl ?_
  exact k2
theorem cs_X1_reversed_64 {L : Nat} {xs : Nat → Int32} {σ : ks_St} {mc ms : Nat} {P : ka_O → ks_St → Prop} {f : ks_St → Prop} {s1 : Int32} {a3 : Nat} (hK : ks_M L xs mX3_moveUp rm_X3_moveUp [.ref 15, .int s1, .ref a3] σ (pv_ f)) (kr : ∀ σ', f σ' → ks_W L xs mX1_reversed rm_X1_reversed 67 [] [] σ' mc ms P) : ks_W L xs mX1_reversed rm_X1_reversed 64 [] [.ref a3, .int s1, .ref 15] σ mc ms P := by
  refine ks_callS (q := 67) (As := [.ref 15, .int s1, .ref a3]) (st := []) d_X1_reversed_64 rfl rfl lk_X1_95 ⟨by decide, by decide⟩ (Nat.le_of_ble_eq_true rfl) ⟨Nat.le_refl _, Nat.le_refl _⟩ hK (fun v σ' hq => ?_) (fun E σ' hq => ?_)
  · obtain ⟨e, hf⟩ := hq; cases e; exact kr σ' hf
  · obtain ⟨e, hf⟩ := hq; cases e
theorem sg_X1_reversed_67 {L : Nat} {xs : Nat → Int32} {σ : ks_St} {mc ms : Nat} {P : ka_O → ks_St → Prop}   (r1 : P (.inl none) σ) : ks_W L xs mX1_reversed rm_X1_reversed 67 [] [] σ mc ms P := by
  exact ks_vret d_X1_reversed_67 rfl r1
theorem d_X1_run_0 : decode cX1_run 0 = .ok (.aload_n 0, 1) := by decide +kernel
theorem d_X1_run_1 : decode cX1_run 1 = .ok (.iload_n 2, 1) := by decide +kernel
theorem d_X1_run_2 : decode cX1_run 2 = .ok (.putfield 24, 3) := by decide +kernel
theorem d_X1_run_5 : decode cX1_run 5 = .ok (.aload_n 0, 1) := by decide +kernel
theorem d_X1_run_6 : decode cX1_run 6 = .ok (.iconst 0, 1) := by decide +kernel
theorem d_X1_run_7 : decode cX1_run 7 = .ok (.putfield 9, 3) := by decide +kernel
theorem d_X1_run_10 : decode cX1_run 10 = .ok (.aload_n 0, 1) := by decide +kernel
theorem d_X1_run_11 : decode cX1_run 11 = .ok (.iconst 0, 1) := by decide +kernel
theorem d_X1_run_12 : decode cX1_run 12 = .ok (.putfield 15, 3) := by decide +kernel
theorem d_X1_run_15 : decode cX1_run 15 = .ok (.iload_n 1, 1) := by decide +kernel
theorem d_X1_run_16 : decode cX1_run 16 = .ok (.tableswitch 173 0 16 #[84, 96, 108, 108, 121, 121, 121, 121, 134, 134, 134, 147, 147, 160, 160, 160, 160], 84) := by decide +kernel
theorem d_X1_run_100 : decode cX1_run 100 = .ok (.aload_n 0, 1) := by decide +kernel
theorem d_X1_run_101 : decode cX1_run 101 = .ok (.aload_n 3, 1) := by decide +kernel
theorem d_X1_run_102 : decode cX1_run 102 = .ok (.aload 4, 2) := by decide +kernel
theorem d_X1_run_104 : decode cX1_run 104 = .ok (.aload 5, 2) := by decide +kernel
theorem d_X1_run_106 : decode cX1_run 106 = .ok (.invokevirtual 38, 3) := by decide +kernel
theorem d_X1_run_109 : decode cX1_run 109 = .ok (.goto 88, 3) := by decide +kernel
theorem d_X1_run_112 : decode cX1_run 112 = .ok (.aload_n 0, 1) := by decide +kernel
theorem d_X1_run_113 : decode cX1_run 113 = .ok (.aload_n 3, 1) := by decide +kernel
theorem d_X1_run_114 : decode cX1_run 114 = .ok (.aload 4, 2) := by decide +kernel
theorem d_X1_run_116 : decode cX1_run 116 = .ok (.aload 5, 2) := by decide +kernel
theorem d_X1_run_118 : decode cX1_run 118 = .ok (.invokevirtual 42, 3) := by decide +kernel
theorem d_X1_run_121 : decode cX1_run 121 = .ok (.goto 76, 3) := by decide +kernel
theorem d_X1_run_124 : decode cX1_run 124 = .ok (.aload_n 0, 1) := by decide +kernel
theorem d_X1_run_125 : decode cX1_run 125 = .ok (.iload_n 1, 1) := by decide +kernel
theorem d_X1_run_126 : decode cX1_run 126 = .ok (.aload_n 3, 1) := by decide +kernel
theorem d_X1_run_127 : decode cX1_run 127 = .ok (.aload 4, 2) := by decide +kernel
theorem d_X1_run_129 : decode cX1_run 129 = .ok (.aload 5, 2) := by decide +kernel
theorem d_X1_run_131 : decode cX1_run 131 = .ok (.invokevirtual 45, 3) := by decide +kernel
theorem d_X1_run_134 : decode cX1_run 134 = .ok (.goto 63, 3) := by decide +kernel
theorem d_X1_run_137 : decode cX1_run 137 = .ok (.aload_n 0, 1) := by decide +kernel
theorem d_X1_run_138 : decode cX1_run 138 = .ok (.iload_n 1, 1) := by decide +kernel
theorem d_X1_run_139 : decode cX1_run 139 = .ok (.aload_n 3, 1) := by decide +kernel
theorem d_X1_run_140 : decode cX1_run 140 = .ok (.aload 4, 2) := by decide +kernel
theorem d_X1_run_142 : decode cX1_run 142 = .ok (.aload 5, 2) := by decide +kernel
theorem d_X1_run_144 : decode cX1_run 144 = .ok (.invokevirtual 49, 3) := by decide +kernel
theorem d_X1_run_147 : decode cX1_run 147 = .ok (.goto 50, 3) := by decide +kernel
theorem d_X1_run_150 : decode cX1_run 150 = .ok (.aload_n 0, 1) := by decide +kernel
theorem d_X1_run_151 : decode cX1_run 151 = .ok (.iload_n 1, 1) := by decide +kernel
theorem d_X1_run_152 : decode cX1_run 152 = .ok (.aload_n 3, 1) := by decide +kernel
theorem d_X1_run_153 : decode cX1_run 153 = .ok (.aload 4, 2) := by decide +kernel
theorem d_X1_run_155 : decode cX1_run 155 = .ok (.aload 5, 2) := by decide +kernel
theorem d_X1_run_157 : decode cX1_run 157 = .ok (.invokevirtual 52, 3) := by decide +kernel
theorem d_X1_run_160 : decode cX1_run 160 = .ok (.goto 37, 3) := by decide +kernel
theorem d_X1_run_163 : decode cX1_run 163 = .ok (.aload_n 0, 1) := by decide +kernel
theorem d_X1_run_164 : decode cX1_run 164 = .ok (.iload_n 1, 1) := by decide +kernel
theorem d_X1_run_165 : decode cX1_run 165 = .ok (.aload_n 3, 1) := by decide +kernel
theorem d_X1_run_166 : decode cX1_run 166 = .ok (.aload 4, 2) := by decide +kernel
theorem d_X1_run_168 : decode cX1_run 168 = .ok (.aload 5, 2) := by decide +kernel
theorem d_X1_run_170 : decode cX1_run 170 = .ok (.invokevirtual 55, 3) := by decide +kernel
theorem d_X1_run_173 : decode cX1_run 173 = .ok (.goto 24, 3) := by decide +kernel
theorem d_X1_run_176 : decode cX1_run 176 = .ok (.aload_n 0, 1) := by decide +kernel
theorem d_X1_run_177 : decode cX1_run 177 = .ok (.iload_n 1, 1) := by decide +kernel
theorem d_X1_run_178 : decode cX1_run 178 = .ok (.aload_n 3, 1) := by decide +kernel
theorem d_X1_run_179 : decode cX1_run 179 = .ok (.aload 4, 2) := by decide +kernel
theorem d_X1_run_181 : decode cX1_run 181 = .ok (.aload 5, 2) := by decide +kernel
theorem d_X1_run_183 : decode cX1_run 183 = .ok (.invokevirtual 58, 3) := by decide +kernel
theorem d_X1_run_186 : decode cX1_run 186 = .ok (.goto 11, 3) := by decide +kernel
theorem d_X1_run_189 : decode cX1_run 189 = .ok (.aload_n 0, 1) := by decide +kernel
theorem d_X1_run_190 : decode cX1_run 190 = .ok (.iload_n 1, 1) := by decide +kernel
theorem d_X1_run_191 : decode cX1_run 191 = .ok (.aload_n 3, 1) := by decide +kernel
theorem d_X1_run_192 : decode cX1_run 192 = .ok (.aload 5, 2) := by decide +kernel
theorem d_X1_run_194 : decode cX1_run 194 = .ok (.invokevirtual 61, 3) := by decide +kernel
theorem d_X1_run_197 : decode cX1_run 197 = .ok (.aload 5, 2) := by decide +kernel
theorem d_X1_run_199 : decode cX1_run 199 = .ok (.aload_n 0, 1) := by decide +kernel
theorem d_X1_run_200 : decode cX1_run 200 = .ok (.getfield 24, 3) := by decide +kernel
theorem d_X1_run_203 : decode cX1_run 203 = .ok (.invokestatic 65, 3) := by decide +kernel
theorem d_X1_run_206 : decode cX1_run 206 = .ok (.aload_n 0, 1) := by decide +kernel
theorem d_X1_run_207 : decode cX1_run 207 = .ok (.aload 5, 2) := by decide +kernel
theorem d_X1_run_209 : decode cX1_run 209 = .ok (.invokestatic 71, 3) := by decide +kernel
theorem d_X1_run_212 : decode cX1_run 212 = .ok (.ifCond .eq 7, 3) := by decide +kernel
theorem d_X1_run_215 : decode cX1_run 215 = .ok (.iconst 1, 1) := by decide +kernel
theorem d_X1_run_216 : decode cX1_run 216 = .ok (.goto 4, 3) := by decide +kernel
theorem d_X1_run_219 : decode cX1_run 219 = .ok (.iconst 0, 1) := by decide +kernel
theorem d_X1_run_220 : decode cX1_run 220 = .ok (.putfield 18, 3) := by decide +kernel
theorem d_X1_run_223 : decode cX1_run 223 = .ok (.aload_n 0, 1) := by decide +kernel
theorem d_X1_run_224 : decode cX1_run 224 = .ok (.aload_n 0, 1) := by decide +kernel
theorem d_X1_run_225 : decode cX1_run 225 = .ok (.aload 5, 2) := by decide +kernel
theorem d_X1_run_227 : decode cX1_run 227 = .ok (.invokevirtual 75, 3) := by decide +kernel
theorem d_X1_run_230 : decode cX1_run 230 = .ok (.putfield 21, 3) := by decide +kernel
theorem d_X1_run_233 : decode cX1_run 233 = .ok (.return_, 1) := by decide +kernel
theorem sg_X1_run_0 {L : Nat} {xs : Nat → Int32} {σ : ks_St} {mc ms : Nat} {P : ka_O → ks_St → Prop} {x1 : Int32} {x2 : Int32} {a3 na3 : Nat} {a4 na4 : Nat} {a5 na5 : Nat} (ha3 : rl_ a3 na3) (ha4 : rl_ a4 na4) (ha5 : rl_ a5 na5) (k2 : (x1 = 0) → ks_W L xs mX1_run rm_X1_run 106 [(0, .ref 6), (5, .ref a5)] [.ref a5, .ref a4, .ref a3, .ref 6] (ui_ (ui_ (ui_ σ 6 x2) 2 0) 3 0) mc ms P) (k4 : (¬ x1 = 0) → (x1 = 1) → ks_W L xs mX1_run rm_X1_run 118 [(0, .ref 6), (5, .ref a5)] [.ref a5, .ref a4, .ref a3, .ref 6] (ui_ (ui_ (ui_ σ 6 x2) 2 0) 3 0) mc ms P) (k6 : (¬ x1 = 0) → (¬ x1 = 1) → (x1 = 2) → ks_W L xs mX1_run rm_X1_run 131 [(0, .ref 6), (5, .ref a5)] [.ref a5, .ref a4, .ref a3, .int x1, .ref 6] (ui_ (ui_ (ui_ σ 6 x2) 2 0) 3 0) mc ms P) (k8 : (¬ x1 = 0) → (¬ x1 = 1) → (¬ x1 = 2) → (x1 = 3) → ks_W L xs mX1_run rm_X1_run 131 [(0, .ref 6), (5, .ref a5)] [.ref a5, .ref a4, .ref a3, .int x1, .ref 6] (ui_ (ui_ (ui_ σ 6 x2) 2 0) 3 0) mc ms P) (k10 : (¬ x1 = 0) → (¬ x1 = 1) → (¬ x1 = 2) → (¬ x1 = 3) → (x1 = 4) → ks_W L xs mX1_run rm_X1_run 144 [(0, .ref 6), (5, .ref a5)] [.ref a5, .ref a4, .ref a3, .int x1, .ref 6] (ui_ (ui_ (ui_ σ 6 x2) 2 0) 3 0) mc ms P) (k12 : (¬ x1 = 0) → (¬ x1 = 1) → (¬ x1 = 2) → (¬ x1 = 3) → (¬ x1 = 4) → (x1 = 5) → ks_W L xs mX1_run rm_X1_run 144 [(0, .ref 6), (5, .ref a5)] [.ref a5, .ref a4, .ref a3, .int x1, .ref 6] (ui_ (ui_ (ui_ σ 6 x2) 2 0) 3 0) mc ms P) (k14 : (¬ x1 = 0) → (¬ x1 = 1) → (¬ x1 = 2) → (¬ x1 = 3) → (¬ x1 = 4) → (¬ x1 = 5) → (x1 = 6) → ks_W L xs mX1_run rm_X1_run 144 [(0, .ref 6), (5, .ref a5)] [.ref a5, .ref a4, .ref a3, .int x1, .ref 6] (ui_ (ui_ (ui_ σ 6 x2) 2 0) 3 0) mc ms P) (k16 : (¬ x1 = 0) → (¬ x1 = 1) → (¬ x1 = 2) → (¬ x1 = 3) → (¬ x1 = 4) → (¬ x1 = 5) → (¬ x1 = 6) → (x1 = 7) → ks_W L xs mX1_run rm_X1_run 144 [(0, .ref 6), (5, .ref a5)] [.ref a5, .ref a4, .ref a3, .int x1, .ref 6] (ui_ (ui_ (ui_ σ 6 x2) 2 0) 3 0) mc ms P) (k18 : (¬ x1 = 0) → (¬ x1 = 1) → (¬ x1 = 2) → (¬ x1 = 3) → (¬ x1 = 4) → (¬ x1 = 5) → (¬ x1 = 6) → (¬ x1 = 7) → (x1 = 8) → ks_W L xs mX1_run rm_X1_run 157 [(0, .ref 6), (5, .ref a5)] [.ref a5, .ref a4, .ref a3, .int x1, .ref 6] (ui_ (ui_ (ui_ σ 6 x2) 2 0) 3 0) mc ms P) (k20 : (¬ x1 = 0) → (¬ x1 = 1) → (¬ x1 = 2) → (¬ x1 = 3) → (¬ x1 = 4) → (¬ x1 = 5) → (¬ x1 = 6) → (¬ x1 = 7) → (¬ x1 = 8) → (x1 = 9) → ks_W L xs mX1_run rm_X1_run 157 [(0, .ref 6), (5, .ref a5)] [.ref a5, .ref a4, .ref a3, .int x1, .ref 6] (ui_ (ui_ (ui_ σ 6 x2) 2 0) 3 0) mc ms P) (k22 : (¬ x1 = 0) → (¬ x1 = 1) → (¬ x1 = 2) → (¬ x1 = 3) → (¬ x1 = 4) → (¬ x1 = 5) → (¬ x1 = 6) → (¬ x1 = 7) → (¬ x1 = 8) → (¬ x1 = 9) → (x1 = 10) → ks_W L xs mX1_run rm_X1_run 157 [(0, .ref 6), (5, .ref a5)] [.ref a5, .ref a4, .ref a3, .int x1, .ref 6] (ui_ (ui_ (ui_ σ 6 x2) 2 0) 3 0) mc ms P) (k24 : (¬ x1 = 0) → (¬ x1 = 1) → (¬ x1 = 2) → (¬ x1 = 3) → (¬ x1 = 4) → (¬ x1 = 5) → (¬ x1 = 6) → (¬ x1 = 7) → (¬ x1 = 8) → (¬ x1 = 9) → (¬ x1 = 10) → (x1 = 11) → ks_W L xs mX1_run rm_X1_run 170 [(0, .ref 6), (5, .ref a5)] [.ref a5, .ref a4, .ref a3, .int x1, .ref 6] (ui_ (ui_ (ui_ σ 6 x2) 2 0) 3 0) mc ms P) (k26 : (¬ x1 = 0) → (¬ x1 = 1) → (¬ x1 = 2) → (¬ x1 = 3) → (¬ x1 = 4) → (¬ x1 = 5) → (¬ x1 = 6) → (¬ x1 = 7) → (¬ x1 = 8) → (¬ x1 = 9) → (¬ x1 = 10) → (¬ x1 = 11) → (x1 = 12) → ks_W L xs mX1_run rm_X1_run 170 [(0, .ref 6), (5, .ref a5)] [.ref a5, .ref a4, .ref a3, .int x1, .ref 6] (ui_ (ui_ (ui_ σ 6 x2) 2 0) 3 0) mc ms P) (k28 : (¬ x1 = 0) → (¬ x1 = 1) → (¬ x1 = 2) → (¬ x1 = 3) → (¬ x1 = 4) → (¬ x1 = 5) → (¬ x1 = 6) → (¬ x1 = 7) → (¬ x1 = 8) → (¬ x1 = 9) → (¬ x1 = 10) → (¬ x1 = 11) → (¬ x1 = 12) → (x1 = 13) → ks_W L xs mX1_run rm_X1_run 183 [(0, .ref 6), (5, .ref a5)] [.ref a5, .ref a4, .ref a3, .int x1, .ref 6] (ui_ (ui_ (ui_ σ 6 x2) 2 0) 3 0) mc ms P) (k30 : (¬ x1 = 0) → (¬ x1 = 1) → (¬ x1 = 2) → (¬ x1 = 3) → (¬ x1 = 4) → (¬ x1 = 5) → (¬ x1 = 6) → (¬ x1 = 7) → (¬ x1 = 8) → (¬ x1 = 9) → (¬ x1 = 10) → (¬ x1 = 11) → (¬ x1 = 12) → (¬ x1 = 13) → (x1 = 14) → ks_W L xs mX1_run rm_X1_run 183 [(0, .ref 6), (5, .ref a5)] [.ref a5, .ref a4, .ref a3, .int x1, .ref 6] (ui_ (ui_ (ui_ σ 6 x2) 2 0) 3 0) mc ms P) (k32 : (¬ x1 = 0) → (¬ x1 = 1) → (¬ x1 = 2) → (¬ x1 = 3) → (¬ x1 = 4) → (¬ x1 = 5) → (¬ x1 = 6) → (¬ x1 = 7) → (¬ x1 = 8) → (¬ x1 = 9) → (¬ x1 = 10) → (¬ x1 = 11) → (¬ x1 = 12) → (¬ x1 = 13) → (¬ x1 = 14) → (x1 = 15) → ks_W L xs mX1_run rm_X1_run 183 [(0, .ref 6), (5, .ref a5)] [.ref a5, .ref a4, .ref a3, .int x1, .ref 6] (ui_ (ui_ (ui_ σ 6 x2) 2 0) 3 0) mc ms P) (k34 : (¬ x1 = 0) → (¬ x1 = 1) → (¬ x1 = 2) → (¬ x1 = 3) → (¬ x1 = 4) → (¬ x1 = 5) → (¬ x1 = 6) → (¬ x1 = 7) → (¬ x1 = 8) → (¬ x1 = 9) → (¬ x1 = 10) → (¬ x1 = 11) → (¬ x1 = 12) → (¬ x1 = 13) → (¬ x1 = 14) → (¬ x1 = 15) → (x1 = 16) → ks_W L xs mX1_run rm_X1_run 183 [(0, .ref 6), (5, .ref a5)] [.ref a5, .ref a4, .ref a3, .int x1, .ref 6] (ui_ (ui_ (ui_ σ 6 x2) 2 0) 3 0) mc ms P) (k35 : (¬ x1 = 0) → (¬ x1 = 1) → (¬ x1 = 2) → (¬ x1 = 3) → (¬ x1 = 4) → (¬ x1 = 5) → (¬ x1 = 6) → (¬ x1 = 7) → (¬ x1 = 8) → (¬ x1 = 9) → (¬ x1 = 10) → (¬ x1 = 11) → (¬ x1 = 12) → (¬ x1 = 13) → (¬ x1 = 14) → (¬ x1 = 15) → (¬ x1 = 16) → ks_W L xs mX1_run rm_X1_run 194 [(0, .ref 6), (5, .ref a5)] [.ref a5, .ref a3, .int x1, .ref 6] (ui_ (ui_ (ui_ σ 6 x2) 2 0) 3 0) mc ms P) : ks_W L xs mX1_run rm_X1_run 0 [(0, .ref 6), (1, .int x1), (2, .int x2), (3, .ref a3), (4, .ref a4), (5, .ref a5)] [] σ mc ms P := by
  refine ka_aload_n d_X1_run_0 rfl rfl 0 rfl ?_
  refine ka_iload_n d_X1_run_1 rfl rfl 2 rfl ?_
  refine pf_X1_4 d_X1_run_2 rfl fl_X1_24 ?_
  refine ka_aload_n d_X1_run_5 rfl rfl 0 rfl ?_
  refine ka_iconst (v := 0) d_X1_run_6 rfl (by decide) ?_
  refine pf_X1_0 d_X1_run_7 rfl fl_X1_9 ?_
  refine ka_aload_n d_X1_run_10 rfl rfl 0 rfl ?_
  refine ka_iconst (v := 0) d_X1_run_11 rfl (by decide) ?_
  refine pf_X1_1 d_X1_run_12 rfl fl_X1_15 ?_
  refine ka_iload_n d_X1_run_15 rfl rfl 1 rfl ?_
  by_cases c1 : x1 = 0
  · refine ka_tabIn (q := 100) d_X1_run_16 (by rw [c1]; decide) (by rw [c1]; decide) (by rw [c1]; rfl) (by decide) ?_
    refine ka_aload_n d_X1_run_100 rfl rfl 0 rfl ?_
    refine ka_aload_n d_X1_run_101 rfl rfl 3 rfl ?_
    refine ka_aload d_X1_run_102 rfl 4 rfl ?_
    refine ka_aload d_X1_run_104 rfl 5 rfl ?_
    refine ka_sub [0, 5] rfl ?_
    exact (k2 c1)
  by_cases c3 : x1 = 1
  · refine ka_tabIn (q := 112) d_X1_run_16 (by rw [c3]; decide) (by rw [c3]; decide) (by rw [c3]; rfl) (by decide) ?_
    refine ka_aload_n d_X1_run_112 rfl rfl 0 rfl ?_
    refine ka_aload_n d_X1_run_113 rfl rfl 3 rfl ?_
    refine ka_aload d_X1_run_114 rfl 4 rfl ?_
    refine ka_aload d_X1_run_116 rfl 5 rfl ?_
    refine ka_sub [0, 5] rfl ?_
    exact (k4 c1 c3)
  by_cases c5 : x1 = 2
  · refine ka_tabIn (q := 124) d_X1_run_16 (by rw [c5]; decide) (by rw [c5]; decide) (by rw [c5]; rfl) (by decide) ?_
    refine ka_aload_n d_X1_run_124 rfl rfl 0 rfl ?_
    refine ka_iload_n d_X1_run_125 rfl rfl 1 rfl ?_
    refine ka_aload_n d_X1_run_126 rfl rfl 3 rfl ?_
    refine ka_aload d_X1_run_127 rfl 4 rfl ?_
    refine ka_aload d_X1_run_129 rfl 5 rfl ?_
    refine ka_sub [0, 5] rfl ?_
    exact (k6 c1 c3 c5)
  by_cases c7 : x1 = 3
  · refine ka_tabIn (q := 124) d_X1_run_16 (by rw [c7]; decide) (by rw [c7]; decide) (by rw [c7]; rfl) (by decide) ?_
    refine ka_aload_n d_X1_run_124 rfl rfl 0 rfl ?_
    refine ka_iload_n d_X1_run_125 rfl rfl 1 rfl ?_
    refine ka_aload_n d_X1_run_126 rfl rfl 3 rfl ?_
    refine ka_aload d_X1_run_127 rfl 4 rfl ?_
    refine ka_aload d_X1_run_129 rfl 5 rfl ?_
    refine ka_sub [0, 5] rfl ?_
    exact (k8 c1 c3 c5 c7)
  by_cases c9 : x1 = 4
  · refine ka_tabIn (q := 137) d_X1_run_16 (by rw [c9]; decide) (by rw [c9]; decide) (by rw [c9]; rfl) (by decide) ?_
    refine ka_aload_n d_X1_run_137 rfl rfl 0 rfl ?_
    refine ka_iload_n d_X1_run_138 rfl rfl 1 rfl ?_
    refine ka_aload_n d_X1_run_139 rfl rfl 3 rfl ?_
    refine ka_aload d_X1_run_140 rfl 4 rfl ?_
    refine ka_aload d_X1_run_142 rfl 5 rfl ?_
    refine ka_sub [0, 5] rfl ?_
    exact (k10 c1 c3 c5 c7 c9)
  by_cases c11 : x1 = 5
  · refine ka_tabIn (q := 137) d_X1_run_16 (by rw [c11]; decide) (by rw [c11]; decide) (by rw [c11]; rfl) (by decide) ?_
    refine ka_aload_n d_X1_run_137 rfl rfl 0 rfl ?_
    refine ka_iload_n d_X1_run_138 rfl rfl 1 rfl ?_
    refine ka_aload_n d_X1_run_139 rfl rfl 3 rfl ?_
    refine ka_aload d_X1_run_140 rfl 4 rfl ?_
    refine ka_aload d_X1_run_142 rfl 5 rfl ?_
    refine ka_sub [0, 5] rfl ?_
    exact (k12 c1 c3 c5 c7 c9 c11)
  by_cases c13 : x1 = 6
  · refine ka_tabIn (q := 137) d_X1_run_16 (by rw [c13]; decide) (by rw [c13]; decide) (by rw [c13]; rfl) (by decide) ?_
    refine ka_aload_n d_X1_run_137 rfl rfl 0 rfl ?_
    refine ka_iload_n d_X1_run_138 rfl rfl 1 rfl ?_
    refine ka_aload_n d_X1_run_139 rfl rfl 3 rfl ?_
    refine ka_aload d_X1_run_140 rfl 4 rfl ?_
    refine ka_aload d_X1_run_142 rfl 5 rfl ?_
    refine ka_sub [0, 5] rfl ?_
    exact (k14 c1 c3 c5 c7 c9 c11 c13)
  by_cases c15 : x1 = 7
  · refine ka_tabIn (q := 137) d_X1_run_16 (by rw [c15]; decide) (by rw [c15]; decide) (by rw [c15]; rfl) (by decide) ?_
    refine ka_aload_n d_X1_run_137 rfl rfl 0 rfl ?_
    refine ka_iload_n d_X1_run_138 rfl rfl 1 rfl ?_
    refine ka_aload_n d_X1_run_139 rfl rfl 3 rfl ?_
    refine ka_aload d_X1_run_140 rfl 4 rfl ?_
    refine ka_aload d_X1_run_142 rfl 5 rfl ?_
    refine ka_sub [0, 5] rfl ?_
    exact (k16 c1 c3 c5 c7 c9 c11 c13 c15)
  by_cases c17 : x1 = 8
  · refine ka_tabIn (q := 150) d_X1_run_16 (by rw [c17]; decide) (by rw [c17]; decide) (by rw [c17]; rfl) (by decide) ?_
    refine ka_aload_n d_X1_run_150 rfl rfl 0 rfl ?_
    refine ka_iload_n d_X1_run_151 rfl rfl 1 rfl ?_
    refine ka_aload_n d_X1_run_152 rfl rfl 3 rfl ?_
    refine ka_aload d_X1_run_153 rfl 4 rfl ?_
    refine ka_aload d_X1_run_155 rfl 5 rfl ?_
    refine ka_sub [0, 5] rfl ?_
    exact (k18 c1 c3 c5 c7 c9 c11 c13 c15 c17)
  by_cases c19 : x1 = 9
  · refine ka_tabIn (q := 150) d_X1_run_16 (by rw [c19]; decide) (by rw [c19]; decide) (by rw [c19]; rfl) (by decide) ?_
    refine ka_aload_n d_X1_run_150 rfl rfl 0 rfl ?_
    refine ka_iload_n d_X1_run_151 rfl rfl 1 rfl ?_
    refine ka_aload_n d_X1_run_152 rfl rfl 3 rfl ?_
    refine ka_aload d_X1_run_153 rfl 4 rfl ?_
    refine ka_aload d_X1_run_155 rfl 5 rfl ?_
    refine ka_sub [0, 5] rfl ?_
    exact (k20 c1 c3 c5 c7 c9 c11 c13 c15 c17 c19)
  by_cases c21 : x1 = 10
  · refine ka_tabIn (q := 150) d_X1_run_16 (by rw [c21]; decide) (by rw [c21]; decide) (by rw [c21]; rfl) (by decide) ?_
    refine ka_aload_n d_X1_run_150 rfl rfl 0 rfl ?_
    refine ka_iload_n d_X1_run_151 rfl rfl 1 rfl ?_
    refine ka_aload_n d_X1_run_152 rfl rfl 3 rfl ?_
    refine ka_aload d_X1_run_153 rfl 4 rfl ?_
    refine ka_aload d_X1_run_155 rfl 5 rfl ?_
    refine ka_sub [0, 5] rfl ?_
    exact (k22 c1 c3 c5 c7 c9 c11 c13 c15 c17 c19 c21)
  by_cases c23 : x1 = 11
  · refine ka_tabIn (q := 163) d_X1_run_16 (by rw [c23]; decide) (by rw [c23]; decide) (by rw [c23]; rfl) (by decide) ?_
    refine ka_aload_n d_X1_run_163 rfl rfl 0 rfl ?_
    refine ka_iload_n d_X1_run_164 rfl rfl 1 rfl ?_
    refine ka_aload_n d_X1_run_165 rfl rfl 3 rfl ?_
    refine ka_aload d_X1_run_166 rfl 4 rfl ?_
    refine ka_aload d_X1_run_168 rfl 5 rfl ?_
    refine ka_sub [0, 5] rfl ?_
    exact (k24 c1 c3 c5 c7 c9 c11 c13 c15 c17 c19 c21 c23)
  by_cases c25 : x1 = 12
  · refine ka_tabIn (q := 163) d_X1_run_16 (by rw [c25]; decide) (by rw [c25]; decide) (by rw [c25]; rfl) (by decide) ?_
    refine ka_aload_n d_X1_run_163 rfl rfl 0 rfl ?_
    refine ka_iload_n d_X1_run_164 rfl rfl 1 rfl ?_
    refine ka_aload_n d_X1_run_165 rfl rfl 3 rfl ?_
    refine ka_aload d_X1_run_166 rfl 4 rfl ?_
    refine ka_aload d_X1_run_168 rfl 5 rfl ?_
    refine ka_sub [0, 5] rfl ?_
    exact (k26 c1 c3 c5 c7 c9 c11 c13 c15 c17 c19 c21 c23 c25)
  by_cases c27 : x1 = 13
  · refine ka_tabIn (q := 176) d_X1_run_16 (by rw [c27]; decide) (by rw [c27]; decide) (by rw [c27]; rfl) (by decide) ?_
    refine ka_aload_n d_X1_run_176 rfl rfl 0 rfl ?_
    refine ka_iload_n d_X1_run_177 rfl rfl 1 rfl ?_
    refine ka_aload_n d_X1_run_178 rfl rfl 3 rfl ?_
    refine ka_aload d_X1_run_179 rfl 4 rfl ?_
    refine ka_aload d_X1_run_181 rfl 5 rfl ?_
    refine ka_sub [0, 5] rfl ?_
    exact (k28 c1 c3 c5 c7 c9 c11 c13 c15 c17 c19 c21 c23 c25 c27)
  by_cases c29 : x1 = 14
  · refine ka_tabIn (q := 176) d_X1_run_16 (by rw [c29]; decide) (by rw [c29]; decide) (by rw [c29]; rfl) (by decide) ?_
    refine ka_aload_n d_X1_run_176 rfl rfl 0 rfl ?_
    refine ka_iload_n d_X1_run_177 rfl rfl 1 rfl ?_
    refine ka_aload_n d_X1_run_178 rfl rfl 3 rfl ?_
    refine ka_aload d_X1_run_179 rfl 4 rfl ?_
    refine ka_aload d_X1_run_181 rfl 5 rfl ?_
    refine ka_sub [0, 5] rfl ?_
    exact (k30 c1 c3 c5 c7 c9 c11 c13 c15 c17 c19 c21 c23 c25 c27 c29)
  by_cases c31 : x1 = 15
  · refine ka_tabIn (q := 176) d_X1_run_16 (by rw [c31]; decide) (by rw [c31]; decide) (by rw [c31]; rfl) (by decide) ?_
    refine ka_aload_n d_X1_run_176 rfl rfl 0 rfl ?_
    refine ka_iload_n d_X1_run_177 rfl rfl 1 rfl ?_
    refine ka_aload_n d_X1_run_178 rfl rfl 3 rfl ?_
    refine ka_aload d_X1_run_179 rfl 4 rfl ?_
    refine ka_aload d_X1_run_181 rfl 5 rfl ?_
    refine ka_sub [0, 5] rfl ?_
    exact (k32 c1 c3 c5 c7 c9 c11 c13 c15 c17 c19 c21 c23 c25 c27 c29 c31)
  by_cases c33 : x1 = 16
  · refine ka_tabIn (q := 176) d_X1_run_16 (by rw [c33]; decide) (by rw [c33]; decide) (by rw [c33]; rfl) (by decide) ?_
    refine ka_aload_n d_X1_run_176 rfl rfl 0 rfl ?_
    refine ka_iload_n d_X1_run_177 rfl rfl 1 rfl ?_
    refine ka_aload_n d_X1_run_178 rfl rfl 3 rfl ?_
    refine ka_aload d_X1_run_179 rfl 4 rfl ?_
    refine ka_aload d_X1_run_181 rfl 5 rfl ?_
    refine ka_sub [0, 5] rfl ?_
    exact (k34 c1 c3 c5 c7 c9 c11 c13 c15 c17 c19 c21 c23 c25 c27 c29 c31 c33)
  refine ka_tabOut (q := 189) d_X1_run_16 (by have nc1 := lv_neT (a := 0) c1 (by decide); have nc3 := lv_neT (a := 1) c3 (by decide); have nc5 := lv_neT (a := 2) c5 (by decide); have nc7 := lv_neT (a := 3) c7 (by decide); have nc9 := lv_neT (a := 4) c9 (by decide); have nc11 := lv_neT (a := 5) c11 (by decide); have nc13 := lv_neT (a := 6) c13 (by decide); have nc15 := lv_neT (a := 7) c15 (by decide); have nc17 := lv_neT (a := 8) c17 (by decide); have nc19 := lv_neT (a := 9) c19 (by decide); have nc21 := lv_neT (a := 10) c21 (by decide); have nc23 := lv_neT (a := 11) c23 (by decide); have nc25 := lv_neT (a := 12) c25 (by decide); have nc27 := lv_neT (a := 13) c27 (by decide); have nc29 := lv_neT (a := 14) c29 (by decide); have nc31 := lv_neT (a := 15) c31 (by decide); have nc33 := lv_neT (a := 16) c33 (by decide); omega) (by decide) ?_
  refine ka_aload_n d_X1_run_189 rfl rfl 0 rfl ?_
  refine ka_iload_n d_X1_run_190 rfl rfl 1 rfl ?_
  refine ka_aload_n d_X1_run_191 rfl rfl 3 rfl ?_
  refine ka_aload d_X1_run_192 rfl 5 rfl ?_
  refine ka_sub [0, 5] rfl ?_
  exact (k35 c1 c3 c5 c7 c9 c11 c13 c15 c17 c19 c21 c23 c25 c27 c29 c31 c33)
theorem cs_X1_run_106 {L : Nat} {xs : Nat → Int32} {σ : ks_St} {mc ms : Nat} {P : ka_O → ks_St → Prop} {f : ks_St → Prop} {a5 : Nat} {a3 : Nat} {a4 : Nat} (hK : ks_M L xs mX1_sum rm_X1_sum [.ref 6, .ref a3, .ref a4, .ref a5] σ (pv_ f)) (kr : ∀ σ', f σ' → ks_W L xs mX1_run rm_X1_run 109 [(0, .ref 6), (5, .ref a5)] [] σ' mc ms P) : ks_W L xs mX1_run rm_X1_run 106 [(0, .ref 6), (5, .ref a5)] [.ref a5, .ref a4, .ref a3, .ref 6] σ mc ms P := by
  refine ks_callV (q := 109) (o := 6) (ci := 2) (As := [.ref a3, .ref a4, .ref a5]) (st := []) d_X1_run_106 rfl rfl (by decide) rfl rfl lk_X1_38 ⟨by decide, by decide⟩ (Nat.le_of_ble_eq_true rfl) ⟨Nat.le_refl _, Nat.le_refl _⟩ hK (fun v σ' hq => ?_) (fun E σ' hq => ?_)
  · obtain ⟨e, hf⟩ := hq; cases e; exact kr σ' hf
  · obtain ⟨e, hf⟩ := hq; cases e
theorem sg_X1_run_109 {L : Nat} {xs : Nat → Int32} {σ : ks_St} {mc ms : Nat} {P : ka_O → ks_St → Prop} {a5 na5 : Nat} (ha5 : rl_ a5 na5) (k1 : ks_W L xs mX1_run rm_X1_run 197 [(0, .ref 6), (5, .ref a5)] [] σ mc ms P) : ks_W L xs mX1_run rm_X1_run 109 [(0, .ref 6), (5, .ref a5)] [] σ mc ms P := by
  refine ka_goto (q := 197) d_X1_run_109 (by decide) ?_
  exact k1
theorem cs_X1_run_118 {L : Nat} {xs : Nat → Int32} {σ : ks_St} {mc ms : Nat} {P : ka_O → ks_St → Prop} {f : ks_St → Prop} {a5 : Nat} {a3 : Nat} {a4 : Nat} (hK : ks_M L xs mX1_difference rm_X1_difference [.ref 6, .ref a3, .ref a4, .ref a5] σ (pv_ f)) (kr : ∀ σ', f σ' → ks_W L xs mX1_run rm_X1_run 121 [(0, .ref 6), (5, .ref a5)] [] σ' mc ms P) : ks_W L xs mX1_run rm_X1_run 118 [(0, .ref 6), (5, .ref a5)] [.ref a5, .ref a4, .ref a3, .ref 6] σ mc ms P := by
  refine ks_callV (q := 121) (o := 6) (ci := 2) (As := [.ref a3, .ref a4, .ref a5]) (st := []) d_X1_run_118 rfl rfl (by decide) rfl rfl lk_X1_42 ⟨by decide, by decide⟩ (Nat.le_of_ble_eq_true rfl) ⟨Nat.le_refl _, Nat.le_refl _⟩ hK (fun v σ' hq => ?_) (fun E σ' hq => ?_)
  · obtain ⟨e, hf⟩ := hq; cases e; exact kr σ' hf
  · obtain ⟨e, hf⟩ := hq; cases e
theorem sg_X1_run_121 {L : Nat} {xs : Nat → Int32} {σ : ks_St} {mc ms : Nat} {P : ka_O → ks_St → Prop} {a5 na5 : Nat} (ha5 : rl_ a5 na5) (k1 : ks_W L xs mX1_run rm_X1_run 197 [(0, .ref 6), (5, .ref a5)] [] σ mc ms P) : ks_W L xs mX1_run rm_X1_run 121 [(0, .ref 6), (5, .ref a5)] [] σ mc ms P := by
  refine ka_goto (q := 197) d_X1_run_121 (by decide) ?_
  exact k1
theorem cs_X1_run_131 {L : Nat} {xs : Nat → Int32} {σ : ks_St} {mc ms : Nat} {P : ka_O → ks_St → Prop} {f : ks_St → Prop} {a5 : Nat} {s1 : Int32} {a3 : Nat} {a4 : Nat} (hK : ks_M L xs mX1_product rm_X1_product [.ref 6, .int s1, .ref a3, .ref a4, .ref a5] σ (pv_ f)) (kr : ∀ σ', f σ' → ks_W L xs mX1_run rm_X1_run 134 [(0, .ref 6), (5, .ref a5)] [] σ' mc ms P) : ks_W L xs mX1_run rm_X1_run 131 [(0, .ref 6), (5, .ref a5)] [.ref a5, .ref a4, .ref a3, .int s1, .ref 6] σ mc ms P := by
  refine ks_callV (q := 134) (o := 6) (ci := 2) (As := [.int s1, .ref a3, .ref a4, .ref a5]) (st := []) d_X1_run_131 rfl rfl (by decide) rfl rfl lk_X1_45 ⟨by decide, by decide⟩ (Nat.le_of_ble_eq_true rfl) ⟨Nat.le_refl _, Nat.le_refl _⟩ hK (fun v σ' hq => ?_) (fun E σ' hq => ?_)
  · obtain ⟨e, hf⟩ := hq; cases e; exact kr σ' hf
  · obtain ⟨e, hf⟩ := hq; cases e
theorem sg_X1_run_134 {L : Nat} {xs : Nat → Int32} {σ : ks_St} {mc ms : Nat} {P : ka_O → ks_St → Prop} {a5 na5 : Nat} (ha5 : rl_ a5 na5) (k1 : ks_W L xs mX1_run rm_X1_run 197 [(0, .ref 6), (5, .ref a5)] [] σ mc ms P) : ks_W L xs mX1_run rm_X1_run 134 [(0, .ref 6), (5, .ref a5)] [] σ mc ms P := by
  refine ka_goto (q := 197) d_X1_run_134 (by decide) ?_
  exact k1
theorem cs_X1_run_144 {L : Nat} {xs : Nat → Int32} {σ : ks_St} {mc ms : Nat} {P : ka_O → ks_St → Prop} {f : ks_St → Prop} {a5 : Nat} {s1 : Int32} {a3 : Nat} {a4 : Nat} (hK : ks_M L xs mX1_quotientOrRest rm_X1_quotientOrRest [.ref 6, .int s1, .ref a3, .ref a4, .ref a5] σ (pv_ f)) (kr : ∀ σ', f σ' → ks_W L xs mX1_run rm_X1_run 147 [(0, .ref 6), (5, .ref a5)] [] σ' mc ms P) : ks_W L xs mX1_run rm_X1_run 144 [(0, .ref 6), (5, .ref a5)] [.ref a5, .ref a4, .ref a3, .int s1, .ref 6] σ mc ms P := by
  refine ks_callV (q := 147) (o := 6) (ci := 2) (As := [.int s1, .ref a3, .ref a4, .ref a5]) (st := []) d_X1_run_144 rfl rfl (by decide) rfl rfl lk_X1_49 ⟨by decide, by decide⟩ (Nat.le_of_ble_eq_true rfl) ⟨Nat.le_refl _, Nat.le_refl _⟩ hK (fun v σ' hq => ?_) (fun E σ' hq => ?_)
  · obtain ⟨e, hf⟩ := hq; cases e; exact kr σ' hf
  · obtain ⟨e, hf⟩ := hq; cases e
theorem sg_X1_run_147 {L : Nat} {xs : Nat → Int32} {σ : ks_St} {mc ms : Nat} {P : ka_O → ks_St → Prop} {a5 na5 : Nat} (ha5 : rl_ a5 na5) (k1 : ks_W L xs mX1_run rm_X1_run 197 [(0, .ref 6), (5, .ref a5)] [] σ mc ms P) : ks_W L xs mX1_run rm_X1_run 147 [(0, .ref 6), (5, .ref a5)] [] σ mc ms P := by
  refine ka_goto (q := 197) d_X1_run_147 (by decide) ?_
  exact k1
theorem cs_X1_run_157 {L : Nat} {xs : Nat → Int32} {σ : ks_St} {mc ms : Nat} {P : ka_O → ks_St → Prop} {f : ks_St → Prop} {a5 : Nat} {s1 : Int32} {a3 : Nat} {a4 : Nat} (hK : ks_M L xs mX1_moved rm_X1_moved [.ref 6, .int s1, .ref a3, .ref a4, .ref a5] σ (pv_ f)) (kr : ∀ σ', f σ' → ks_W L xs mX1_run rm_X1_run 160 [(0, .ref 6), (5, .ref a5)] [] σ' mc ms P) : ks_W L xs mX1_run rm_X1_run 157 [(0, .ref 6), (5, .ref a5)] [.ref a5, .ref a4, .ref a3, .int s1, .ref 6] σ mc ms P := by
  refine ks_callV (q := 160) (o := 6) (ci := 2) (As := [.int s1, .ref a3, .ref a4, .ref a5]) (st := []) d_X1_run_157 rfl rfl (by decide) rfl rfl lk_X1_52 ⟨by decide, by decide⟩ (Nat.le_of_ble_eq_true rfl) ⟨Nat.le_refl _, Nat.le_refl _⟩ hK (fun v σ' hq => ?_) (fun E σ' hq => ?_)
  · obtain ⟨e, hf⟩ := hq; cases e; exact kr σ' hf
  · obtain ⟨e, hf⟩ := hq; cases e
theorem sg_X1_run_160 {L : Nat} {xs : Nat → Int32} {σ : ks_St} {mc ms : Nat} {P : ka_O → ks_St → Prop} {a5 na5 : Nat} (ha5 : rl_ a5 na5) (k1 : ks_W L xs mX1_run rm_X1_run 197 [(0, .ref 6), (5, .ref a5)] [] σ mc ms P) : ks_W L xs mX1_run rm_X1_run 160 [(0, .ref 6), (5, .ref a5)] [] σ mc ms P := by
  refine ka_goto (q := 197) d_X1_run_160 (by decide) ?_
  exact k1
theorem cs_X1_run_170 {L : Nat} {xs : Nat → Int32} {σ : ks_St} {mc ms : Nat} {P : ka_O → ks_St → Prop} {f : ks_St → Prop} {a5 : Nat} {s1 : Int32} {a3 : Nat} {a4 : Nat} (hK : ks_M L xs mX1_turned rm_X1_turned [.ref 6, .int s1, .ref a3, .ref a4, .ref a5] σ (pv_ f)) (kr : ∀ σ', f σ' → ks_W L xs mX1_run rm_X1_run 173 [(0, .ref 6), (5, .ref a5)] [] σ' mc ms P) : ks_W L xs mX1_run rm_X1_run 170 [(0, .ref 6), (5, .ref a5)] [.ref a5, .ref a4, .ref a3, .int s1, .ref 6] σ mc ms P := by
  refine ks_callV (q := 173) (o := 6) (ci := 2) (As := [.int s1, .ref a3, .ref a4, .ref a5]) (st := []) d_X1_run_170 rfl rfl (by decide) rfl rfl lk_X1_55 ⟨by decide, by decide⟩ (Nat.le_of_ble_eq_true rfl) ⟨Nat.le_refl _, Nat.le_refl _⟩ hK (fun v σ' hq => ?_) (fun E σ' hq => ?_)
  · obtain ⟨e, hf⟩ := hq; cases e; exact kr σ' hf
  · obtain ⟨e, hf⟩ := hq; cases e
theorem sg_X1_run_173 {L : Nat} {xs : Nat → Int32} {σ : ks_St} {mc ms : Nat} {P : ka_O → ks_St → Prop} {a5 na5 : Nat} (ha5 : rl_ a5 na5) (k1 : ks_W L xs mX1_run rm_X1_run 197 [(0, .ref 6), (5, .ref a5)] [] σ mc ms P) : ks_W L xs mX1_run rm_X1_run 173 [(0, .ref 6), (5, .ref a5)] [] σ mc ms P := by
  refine ka_goto (q := 197) d_X1_run_173 (by decide) ?_
  exact k1
theorem cs_X1_run_183 {L : Nat} {xs : Nat → Int32} {σ : ks_St} {mc ms : Nat} {P : ka_O → ks_St → Prop} {f : ks_St → Prop} {a5 : Nat} {s1 : Int32} {a3 : Nat} {a4 : Nat} (hK : ks_M L xs mX1_bitByBit rm_X1_bitByBit [.ref 6, .int s1, .ref a3, .ref a4, .ref a5] σ (pv_ f)) (kr : ∀ σ', f σ' → ks_W L xs mX1_run rm_X1_run 186 [(0, .ref 6), (5, .ref a5)] [] σ' mc ms P) : ks_W L xs mX1_run rm_X1_run 183 [(0, .ref 6), (5, .ref a5)] [.ref a5, .ref a4, .ref a3, .int s1, .ref 6] σ mc ms P := by
  refine ks_callV (q := 186) (o := 6) (ci := 2) (As := [.int s1, .ref a3, .ref a4, .ref a5]) (st := []) d_X1_run_183 rfl rfl (by decide) rfl rfl lk_X1_58 ⟨by decide, by decide⟩ (Nat.le_of_ble_eq_true rfl) ⟨Nat.le_refl _, Nat.le_refl _⟩ hK (fun v σ' hq => ?_) (fun E σ' hq => ?_)
  · obtain ⟨e, hf⟩ := hq; cases e; exact kr σ' hf
  · obtain ⟨e, hf⟩ := hq; cases e
theorem sg_X1_run_186 {L : Nat} {xs : Nat → Int32} {σ : ks_St} {mc ms : Nat} {P : ka_O → ks_St → Prop} {a5 na5 : Nat} (ha5 : rl_ a5 na5) (k1 : ks_W L xs mX1_run rm_X1_run 197 [(0, .ref 6), (5, .ref a5)] [] σ mc ms P) : ks_W L xs mX1_run rm_X1_run 186 [(0, .ref 6), (5, .ref a5)] [] σ mc ms P := by
  refine ka_goto (q := 197) d_X1_run_186 (by decide) ?_
  exact k1
theorem cs_X1_run_194 {L : Nat} {xs : Nat → Int32} {σ : ks_St} {mc ms : Nat} {P : ka_O → ks_St → Prop} {f : ks_St → Prop} {a5 : Nat} {s1 : Int32} {a3 : Nat} (hK : ks_M L xs mX1_reversed rm_X1_reversed [.ref 6, .int s1, .ref a3, .ref a5] σ (pv_ f)) (kr : ∀ σ', f σ' → ks_W L xs mX1_run rm_X1_run 197 [(0, .ref 6), (5, .ref a5)] [] σ' mc ms P) : ks_W L xs mX1_run rm_X1_run 194 [(0, .ref 6), (5, .ref a5)] [.ref a5, .ref a3, .int s1, .ref 6] σ mc ms P := by
  refine ks_callV (q := 197) (o := 6) (ci := 2) (As := [.int s1, .ref a3, .ref a5]) (st := []) d_X1_run_194 rfl rfl (by decide) rfl rfl lk_X1_61 ⟨by decide, by decide⟩ (Nat.le_of_ble_eq_true rfl) ⟨Nat.le_refl _, Nat.le_refl _⟩ hK (fun v σ' hq => ?_) (fun E σ' hq => ?_)
  · obtain ⟨e, hf⟩ := hq; cases e; exact kr σ' hf
  · obtain ⟨e, hf⟩ := hq; cases e
theorem sg_X1_run_197 {L : Nat} {xs : Nat → Int32} {σ : ks_St} {mc ms : Nat} {P : ka_O → ks_St → Prop} {a5 na5 : Nat} (ha5 : rl_ a5 na5) (k1 : ks_W L xs mX1_run rm_X1_run 203 [(0, .ref 6), (5, .ref a5)] [.int (si_ σ 6), .ref a5] σ mc ms P) : ks_W L xs mX1_run rm_X1_run 197 [(0, .ref 6), (5, .ref a5)] [] σ mc ms P := by
  refine ka_aload d_X1_run_197 rfl 1 rfl ?_
  refine ka_aload_n d_X1_run_199 rfl rfl 0 rfl ?_
  refine gf_X1_4 d_X1_run_200 rfl fl_X1_24 ?_
  exact k1
theorem cs_X1_run_203 {L : Nat} {xs : Nat → Int32} {σ : ks_St} {mc ms : Nat} {P : ka_O → ks_St → Prop} {f : ks_St → Prop} {a5 : Nat} {s1 : Int32} (hK : ks_M L xs mX3_cut rm_X3_cut [.ref a5, .int s1] σ (pv_ f)) (kr : ∀ σ', f σ' → ks_W L xs mX1_run rm_X1_run 206 [(0, .ref 6), (5, .ref a5)] [] σ' mc ms P) : ks_W L xs mX1_run rm_X1_run 203 [(0, .ref 6), (5, .ref a5)] [.int s1, .ref a5] σ mc ms P := by
  refine ks_callS (q := 206) (As := [.ref a5, .int s1]) (st := []) d_X1_run_203 rfl rfl lk_X1_65 ⟨by decide, by decide⟩ (Nat.le_of_ble_eq_true rfl) ⟨Nat.le_refl _, Nat.le_refl _⟩ hK (fun v σ' hq => ?_) (fun E σ' hq => ?_)
  · obtain ⟨e, hf⟩ := hq; cases e; exact kr σ' hf
  · obtain ⟨e, hf⟩ := hq; cases e
theorem sg_X1_run_206 {L : Nat} {xs : Nat → Int32} {σ : ks_St} {mc ms : Nat} {P : ka_O → ks_St → Prop} {a5 na5 : Nat} (ha5 : rl_ a5 na5) (k1 : ks_W L xs mX1_run rm_X1_run 209 [(0, .ref 6), (5, .ref a5)] [.ref a5, .ref 6] σ mc ms P) : ks_W L xs mX1_run rm_X1_run 206 [(0, .ref 6), (5, .ref a5)] [] σ mc ms P := by
  refine ka_aload_n d_X1_run_206 rfl rfl 0 rfl ?_
  refine ka_aload d_X1_run_207 rfl 1 rfl ?_
  exact k1
theorem cs_X1_run_209 {L : Nat} {xs : Nat → Int32} {σ : ks_St} {mc ms : Nat} {P : ka_O → ks_St → Prop} {f : Int32 → ks_St → Prop} {a5 : Nat} (hK : ks_M L xs mX3_isNought rm_X3_isNought [.ref a5] σ (pi_ f)) (kr : ∀ r σ', f r σ' → ks_W L xs mX1_run rm_X1_run 212 [(0, .ref 6), (5, .ref a5)] [.int r, .ref 6] σ' mc ms P) : ks_W L xs mX1_run rm_X1_run 209 [(0, .ref 6), (5, .ref a5)] [.ref a5, .ref 6] σ mc ms P := by
  refine ks_callS (q := 212) (As := [.ref a5]) (st := [.ref 6]) d_X1_run_209 rfl rfl lk_X1_71 ⟨by decide, by decide⟩ (Nat.le_of_ble_eq_true rfl) ⟨Nat.le_refl _, Nat.le_refl _⟩ hK (fun v σ' hq => ?_) (fun E σ' hq => ?_)
  · obtain ⟨r, e, hf⟩ := hq; cases e; exact kr r σ' hf
  · obtain ⟨r, e, hf⟩ := hq; cases e
theorem sg_X1_run_212 {L : Nat} {xs : Nat → Int32} {σ : ks_St} {mc ms : Nat} {P : ka_O → ks_St → Prop} {a5 na5 : Nat} {s1 : Int32} (ha5 : rl_ a5 na5) (k2 : (s1 = 0) → ks_W L xs mX1_run rm_X1_run 220 [(0, .ref 6), (5, .ref a5)] [.int 0, .ref 6] σ mc ms P) (k3 : (¬ (s1 = 0)) → ks_W L xs mX1_run rm_X1_run 220 [(0, .ref 6), (5, .ref a5)] [.int 1, .ref 6] σ mc ms P) : ks_W L xs mX1_run rm_X1_run 212 [(0, .ref 6), (5, .ref a5)] [.int s1, .ref 6] σ mc ms P := by
  refine ka_if_eq (tgt := 219) d_X1_run_212 (by decide) rfl (fun c1 => ?_) (fun c1 => ?_)
  · refine ka_iconst (v := 0) d_X1_run_219 rfl (by decide) ?_
    exact (k2 c1)
  · refine ka_iconst (v := 1) d_X1_run_215 rfl (by decide) ?_
    refine ka_goto (q := 220) d_X1_run_216 (by decide) ?_
    exact (k3 c1)
theorem sg_X1_run_220 {L : Nat} {xs : Nat → Int32} {σ : ks_St} {mc ms : Nat} {P : ka_O → ks_St → Prop} {a5 na5 : Nat} {s1 : Int32} (ha5 : rl_ a5 na5) (k1 : ks_W L xs mX1_run rm_X1_run 227 [] [.ref a5, .ref 6, .ref 6] (ui_ σ 4 s1) mc ms P) : ks_W L xs mX1_run rm_X1_run 220 [(0, .ref 6), (5, .ref a5)] [.int s1, .ref 6] σ mc ms P := by
  refine pf_X1_2 d_X1_run_220 rfl fl_X1_18 ?_
  refine ka_aload_n d_X1_run_223 rfl rfl 0 rfl ?_
  refine ka_aload_n d_X1_run_224 rfl rfl 0 rfl ?_
  refine ka_aload d_X1_run_225 rfl 1 rfl ?_
  refine ka_sub [] rfl ?_
  exact k1
theorem cs_X1_run_227 {L : Nat} {xs : Nat → Int32} {σ : ks_St} {mc ms : Nat} {P : ka_O → ks_St → Prop} {f : Int32 → ks_St → Prop} {a5 : Nat} (hK : ks_M L xs mX1_highest rm_X1_highest [.ref 6, .ref a5] σ (pi_ f)) (kr : ∀ r σ', f r σ' → ks_W L xs mX1_run rm_X1_run 230 [] [.int r, .ref 6] σ' mc ms P) : ks_W L xs mX1_run rm_X1_run 227 [] [.ref a5, .ref 6, .ref 6] σ mc ms P := by
  refine ks_callV (q := 230) (o := 6) (ci := 2) (As := [.ref a5]) (st := [.ref 6]) d_X1_run_227 rfl rfl (by decide) rfl rfl lk_X1_75 ⟨by decide, by decide⟩ (Nat.le_of_ble_eq_true rfl) ⟨Nat.le_refl _, Nat.le_refl _⟩ hK (fun v σ' hq => ?_) (fun E σ' hq => ?_)
  · obtain ⟨r, e, hf⟩ := hq; cases e; exact kr r σ' hf
  · obtain ⟨r, e, hf⟩ := hq; cases e
theorem sg_X1_run_230 {L : Nat} {xs : Nat → Int32} {σ : ks_St} {mc ms : Nat} {P : ka_O → ks_St → Prop} {s1 : Int32}  (r1 : P (.inl none) (ui_ σ 5 s1)) : ks_W L xs mX1_run rm_X1_run 230 [] [.int s1, .ref 6] σ mc ms P := by
  refine pf_X1_3 d_X1_run_230 rfl fl_X1_21 ?_
  exact ks_vret d_X1_run_233 rfl r1
