section
/-! ===== the law's wrappers: a call's code, and its answer in the row out ===== -/
def fw_ (σ σ' : ks_St) : Prop := fr_ [1, 2, 3, 4, 5, 6, 7, 8, 9, 10, 11, 12, 13] [0, 1] [1] [2, 3, 4, 5, 8, 9, 10, 11, 12, 13, 14, 15, 29] σ σ'
def pq_ (o : Nat × Int32 × wa_) (σ : ks_St) : ka_O → ks_St → Prop := pi_ fun r σ' => r = nI o.1 ∧ (o.1 = 0 → sg_ σ' 29 0 = o.2.1.toInt64) ∧ CI_ o.2.2 σ' ∧ fw_ σ σ'
def pql_ (o : Nat × Int64 × wa_) (σ : ks_St) : ka_O → ks_St → Prop := pi_ fun r σ' => r = nI o.1 ∧ (o.1 = 0 → sg_ σ' 29 0 = o.2.1) ∧ CI_ o.2.2 σ' ∧ fw_ σ σ'
theorem fw_c {σ σ' : ks_St} (h : fc_ σ σ') : fw_ σ σ' := fr_mono h (by decide) (by decide) (by decide) (by decide)
theorem fw_29 {σ σ' : ks_St} {g : Nat → Int64} (h : fc_ σ σ') : fw_ σ (ug_ σ' 29 g) := fr_trans (fw_c h) (fr_ug _ _ (by decide))
theorem CI_29 {A : wa_} {σ : ks_St} {g : Nat → Int64} (h : CI_ A σ) : CI_ A (ug_ σ 29 g) := CI_fr h (show fr_ [] [] [] [29] σ _ from fr_ug _ _ (by decide)) (by decide) (by decide) (by decide)
theorem MI_fw {A : wa_} {σ σ' : ks_St} (h : MI_ A σ) (f : fw_ σ σ') : MI_ A σ' := MI_fr h f (by decide) (by decide)
theorem g29 (σ : ks_St) (v : Int64) : sg_ (ug_ σ 29 (vp_updL (sg_ σ 29) (0 : Int32).toNatClampNeg v)) 29 0 = v := by rw [sg_self]; exact pk_uLs
theorem oc_word {A : wa_} : ((o_word A).1 = 0) ∧ wN (o_word A).2.2 ≤ wN A + 1 := by
  exact ⟨rfl, Nat.le_refl _⟩
theorem w_word {L : Nat} {xs : Nat → Int32} {σ : ks_St} {A : wa_} (h : CI_ A σ) (hn : wN A < 600) : ks_M L xs mL_word rm_L_word [.ref 0, .ref 29] σ (pq_ (o_word A) σ) := by
  refine ks_body (by decide) (Nat.le_of_ble_eq_true rfl) ?_
  refine sg_L_word_0 row_29 (cs_L_word_3 (mc := 0) (ms := 0) (c_word h hn) (fun E σ1 z => ?_) (fun r σ1 hr => ?_))
  · obtain ⟨z0, rfl, z2, z3⟩ := z
    exact absurd rfl z0
  · obtain ⟨z0, rfl, z2, z3⟩ := hr
    refine sg_L_word_6 row_29 (vp_in_nI (n := 0) (by decide) (by decide)) ⟨_, rfl, by rw [z0]; rfl, fun _ => ?_, CI_29 z2, fw_29 z3⟩
    rw [g29]
theorem oc_op2 {A : wa_} {x1 x2 x3 : Int32} : ((o_op2 A x1 x2 x3).1 = 0 ∨ (o_op2 A x1 x2 x3).1 = 1 ∨ (o_op2 A x1 x2 x3).1 = 2 ∨ (o_op2 A x1 x2 x3).1 = 3) ∧ wN (o_op2 A x1 x2 x3).2.2 ≤ wN A + 1 := by
  unfold o_op2
  split
  · split
    · exact ⟨Or.inr (Or.inr (Or.inl rfl)), Nat.le_succ _⟩
    · split
      · exact ⟨Or.inr (Or.inr (Or.inr rfl)), Nat.le_succ _⟩
      · exact ⟨Or.inl rfl, Nat.le_refl _⟩
  · exact ⟨Or.inr (Or.inl rfl), Nat.le_succ _⟩
theorem oc_op {A : wa_} {x1 x2 x3 : Int32} : ((o_op A x1 x2 x3).1 = 0 ∨ (o_op A x1 x2 x3).1 = 1 ∨ (o_op A x1 x2 x3).1 = 2 ∨ (o_op A x1 x2 x3).1 = 3) ∧ wN (o_op A x1 x2 x3).2.2 ≤ wN A + 1 := by
  exact oc_op2
theorem w_op {L : Nat} {xs : Nat → Int32} {σ : ks_St} {A : wa_} {x1 x2 x3 : Int32} (h : CI_ A σ) (hn : wN A < 600) : ks_M L xs mL_op rm_L_op [.ref 0, .int x1, .int x2, .int x3, .ref 29] σ (pq_ (o_op A x1 x2 x3) σ) := by
  refine ks_body (by decide) (Nat.le_of_ble_eq_true rfl) ?_
  refine sg_L_op_0 row_29 (cs_L_op_7 (mc := 0) (ms := 0) (c_op h hn) (fun E σ1 z => ?_) (fun r σ1 hr => ?_))
  · obtain ⟨z0, rfl, z2, z3⟩ := z
    rcases (oc_op (A := A) (x1 := x1) (x2 := x2) (x3 := x3)).1.resolve_left z0 with e | e | e
    · refine ⟨1, ?_, _, rfl, by rw [e]; rfl, fun q => absurd q z0, z2, fw_c z3⟩
      rw [e]; exact ct_op_aio
    · refine ⟨2, ?_, _, rfl, by rw [e]; rfl, fun q => absurd q z0, z2, fw_c z3⟩
      rw [e]; exact ct_op_iae
    · refine ⟨3, ?_, _, rfl, by rw [e]; rfl, fun q => absurd q z0, z2, fw_c z3⟩
      rw [e]; exact ct_op_ari
  · obtain ⟨z0, rfl, z2, z3⟩ := hr
    refine sg_L_op_10 row_29 (vp_in_nI (n := 0) (by decide) (by decide)) ⟨_, rfl, by rw [z0]; rfl, fun _ => ?_, CI_29 z2, fw_29 z3⟩
    rw [g29]
theorem oc_flag {A : wa_} {x1 : Int32} : ((o_flag A x1).1 = 0 ∨ (o_flag A x1).1 = 1) ∧ wN (o_flag A x1).2.2 ≤ wN A + 1 := by
  unfold o_flag
  split
  · exact ⟨Or.inl rfl, Nat.le_succ _⟩
  · split
    · exact ⟨Or.inl rfl, Nat.le_succ _⟩
    · split
      · exact ⟨Or.inl rfl, Nat.le_succ _⟩
      · split
        · exact ⟨Or.inl rfl, Nat.le_succ _⟩
        · exact ⟨Or.inr rfl, Nat.le_succ _⟩
theorem w_flag {L : Nat} {xs : Nat → Int32} {σ : ks_St} {A : wa_} {x1 : Int32} (h : CI_ A σ) : ks_M L xs mL_flag rm_L_flag [.ref 0, .int x1, .ref 29] σ (pq_ (o_flag A x1) σ) := by
  refine ks_body (by decide) (Nat.le_of_ble_eq_true rfl) ?_
  refine sg_L_flag_0 row_29 (cs_L_flag_4 (mc := 0) (ms := 0) (c_flag h) (fun E σ1 z => ?_) (fun r σ1 hr => ?_))
  · obtain ⟨z0, rfl, z2, z3⟩ := z
    rcases (oc_flag (A := A) (x1 := x1)).1.resolve_left z0 with e
    · refine ⟨1, ?_, _, rfl, by rw [e]; rfl, fun q => absurd q z0, z2, fw_c z3⟩
      rw [e]; exact ct_flag_iae
  · obtain ⟨z0, rfl, z2, z3⟩ := hr
    refine sg_L_flag_7 row_29 (vp_in_nI (n := 0) (by decide) (by decide)) ⟨_, rfl, by rw [z0]; rfl, fun _ => ?_, CI_29 z2, fw_29 z3⟩
    rw [g29]
theorem oc_field {A : wa_} {x1 x2 x3 : Int32} : ((o_field A x1 x2 x3).1 = 0 ∨ (o_field A x1 x2 x3).1 = 1 ∨ (o_field A x1 x2 x3).1 = 2) ∧ wN (o_field A x1 x2 x3).2.2 ≤ wN A + 1 := by
  unfold o_field
  split
  · split
    · exact ⟨Or.inr (Or.inr rfl), Nat.le_succ _⟩
    · exact ⟨Or.inl rfl, Nat.le_refl _⟩
  · exact ⟨Or.inr (Or.inl rfl), Nat.le_succ _⟩
theorem w_field {L : Nat} {xs : Nat → Int32} {σ : ks_St} {A : wa_} {x1 x2 x3 : Int32} (h : CI_ A σ) (hn : wN A < 600) : ks_M L xs mL_field rm_L_field [.ref 0, .int x1, .int x2, .int x3, .ref 29] σ (pq_ (o_field A x1 x2 x3) σ) := by
  refine ks_body (by decide) (Nat.le_of_ble_eq_true rfl) ?_
  refine sg_L_field_0 row_29 (cs_L_field_7 (mc := 0) (ms := 0) (c_field h hn) (fun E σ1 z => ?_) (fun r σ1 hr => ?_))
  · obtain ⟨z0, rfl, z2, z3⟩ := z
    rcases (oc_field (A := A) (x1 := x1) (x2 := x2) (x3 := x3)).1.resolve_left z0 with e | e
    · refine ⟨1, ?_, _, rfl, by rw [e]; rfl, fun q => absurd q z0, z2, fw_c z3⟩
      rw [e]; exact ct_field_aio
    · refine ⟨2, ?_, _, rfl, by rw [e]; rfl, fun q => absurd q z0, z2, fw_c z3⟩
      rw [e]; exact ct_field_iae
  · obtain ⟨z0, rfl, z2, z3⟩ := hr
    refine sg_L_field_10 row_29 (vp_in_nI (n := 0) (by decide) (by decide)) ⟨_, rfl, by rw [z0]; rfl, fun _ => ?_, CI_29 z2, fw_29 z3⟩
    rw [g29]
theorem oc_join {A : wa_} {x1 x2 : Int32} : ((o_join A x1 x2).1 = 0 ∨ (o_join A x1 x2).1 = 1 ∨ (o_join A x1 x2).1 = 2) ∧ wN (o_join A x1 x2).2.2 ≤ wN A + 1 := by
  unfold o_join
  split
  · split
    · exact ⟨Or.inr (Or.inr rfl), Nat.le_succ _⟩
    · exact ⟨Or.inl rfl, Nat.le_refl _⟩
  · exact ⟨Or.inr (Or.inl rfl), Nat.le_succ _⟩
theorem w_join {L : Nat} {xs : Nat → Int32} {σ : ks_St} {A : wa_} {x1 x2 : Int32} (h : CI_ A σ) (hn : wN A < 600) : ks_M L xs mL_join rm_L_join [.ref 0, .int x1, .int x2, .ref 29] σ (pq_ (o_join A x1 x2) σ) := by
  refine ks_body (by decide) (Nat.le_of_ble_eq_true rfl) ?_
  refine sg_L_join_0 row_29 (cs_L_join_5 (mc := 0) (ms := 0) (c_join h hn) (fun E σ1 z => ?_) (fun r σ1 hr => ?_))
  · obtain ⟨z0, rfl, z2, z3⟩ := z
    rcases (oc_join (A := A) (x1 := x1) (x2 := x2)).1.resolve_left z0 with e | e
    · refine ⟨1, ?_, _, rfl, by rw [e]; rfl, fun q => absurd q z0, z2, fw_c z3⟩
      rw [e]; exact ct_join_aio
    · refine ⟨2, ?_, _, rfl, by rw [e]; rfl, fun q => absurd q z0, z2, fw_c z3⟩
      rw [e]; exact ct_join_iae
  · obtain ⟨z0, rfl, z2, z3⟩ := hr
    refine sg_L_join_8 row_29 (vp_in_nI (n := 0) (by decide) (by decide)) ⟨_, rfl, by rw [z0]; rfl, fun _ => ?_, CI_29 z2, fw_29 z3⟩
    rw [g29]
theorem oc_extend {A : wa_} {x1 x2 x3 : Int32} : ((o_extend A x1 x2 x3).1 = 0 ∨ (o_extend A x1 x2 x3).1 = 1 ∨ (o_extend A x1 x2 x3).1 = 2) ∧ wN (o_extend A x1 x2 x3).2.2 ≤ wN A + 1 := by
  unfold o_extend
  split
  · split
    · exact ⟨Or.inr (Or.inr rfl), Nat.le_succ _⟩
    · exact ⟨Or.inl rfl, Nat.le_refl _⟩
  · exact ⟨Or.inr (Or.inl rfl), Nat.le_succ _⟩
theorem w_extend {L : Nat} {xs : Nat → Int32} {σ : ks_St} {A : wa_} {x1 x2 x3 : Int32} (h : CI_ A σ) (hn : wN A < 600) : ks_M L xs mL_extend rm_L_extend [.ref 0, .int x1, .int x2, .int x3, .ref 29] σ (pq_ (o_extend A x1 x2 x3) σ) := by
  refine ks_body (by decide) (Nat.le_of_ble_eq_true rfl) ?_
  refine sg_L_extend_0 row_29 (cs_L_extend_7 (mc := 0) (ms := 0) (c_extend h hn) (fun E σ1 z => ?_) (fun r σ1 hr => ?_))
  · obtain ⟨z0, rfl, z2, z3⟩ := z
    rcases (oc_extend (A := A) (x1 := x1) (x2 := x2) (x3 := x3)).1.resolve_left z0 with e | e
    · refine ⟨1, ?_, _, rfl, by rw [e]; rfl, fun q => absurd q z0, z2, fw_c z3⟩
      rw [e]; exact ct_extend_aio
    · refine ⟨2, ?_, _, rfl, by rw [e]; rfl, fun q => absurd q z0, z2, fw_c z3⟩
      rw [e]; exact ct_extend_iae
  · obtain ⟨z0, rfl, z2, z3⟩ := hr
    refine sg_L_extend_10 row_29 (vp_in_nI (n := 0) (by decide) (by decide)) ⟨_, rfl, by rw [z0]; rfl, fun _ => ?_, CI_29 z2, fw_29 z3⟩
    rw [g29]
theorem oc_compare {A : wa_} {x1 x2 x3 : Int32} : ((o_compare A x1 x2 x3).1 = 0 ∨ (o_compare A x1 x2 x3).1 = 1 ∨ (o_compare A x1 x2 x3).1 = 2) ∧ wN (o_compare A x1 x2 x3).2.2 ≤ wN A + 1 := by
  unfold o_compare
  split
  · split
    · exact ⟨Or.inr (Or.inr rfl), Nat.le_succ _⟩
    · exact ⟨Or.inl rfl, Nat.le_succ _⟩
  · exact ⟨Or.inr (Or.inl rfl), Nat.le_succ _⟩
theorem w_compare {L : Nat} {xs : Nat → Int32} {σ : ks_St} {A : wa_} {x1 x2 x3 : Int32} (h : CI_ A σ) : ks_M L xs mL_compare rm_L_compare [.ref 0, .int x1, .int x2, .int x3, .ref 29] σ (pq_ (o_compare A x1 x2 x3) σ) := by
  refine ks_body (by decide) (Nat.le_of_ble_eq_true rfl) ?_
  refine sg_L_compare_0 row_29 (cs_L_compare_7 (mc := 0) (ms := 0) (c_compare h) (fun E σ1 z => ?_) (fun r σ1 hr => ?_))
  · obtain ⟨z0, rfl, z2, z3⟩ := z
    rcases (oc_compare (A := A) (x1 := x1) (x2 := x2) (x3 := x3)).1.resolve_left z0 with e | e
    · refine ⟨1, ?_, _, rfl, by rw [e]; rfl, fun q => absurd q z0, z2, fw_c z3⟩
      rw [e]; exact ct_compare_aio
    · refine ⟨2, ?_, _, rfl, by rw [e]; rfl, fun q => absurd q z0, z2, fw_c z3⟩
      rw [e]; exact ct_compare_iae
  · obtain ⟨z0, rfl, z2, z3⟩ := hr
    refine sg_L_compare_10 row_29 (vp_in_nI (n := 0) (by decide) (by decide)) ⟨_, rfl, by rw [z0]; rfl, fun _ => ?_, CI_29 z2, fw_29 z3⟩
    rw [g29]
theorem oc_real {A : wa_} {x1 x2 x3 x4 : Int32} : ((o_real A x1 x2 x3 x4).1 = 0 ∨ (o_real A x1 x2 x3 x4).1 = 1 ∨ (o_real A x1 x2 x3 x4).1 = 2) ∧ wN (o_real A x1 x2 x3 x4).2.2 ≤ wN A + 1 := by
  unfold o_real
  split
  · split
    · exact ⟨Or.inr (Or.inr rfl), Nat.le_succ _⟩
    · exact ⟨Or.inl rfl, Nat.le_refl _⟩
  · exact ⟨Or.inr (Or.inl rfl), Nat.le_succ _⟩
theorem w_real {L : Nat} {xs : Nat → Int32} {σ : ks_St} {A : wa_} {x1 x2 x3 x4 : Int32} (h : CI_ A σ) (hn : wN A < 600) : ks_M L xs mL_real rm_L_real [.ref 0, .int x1, .int x2, .int x3, .int x4, .ref 29] σ (pq_ (o_real A x1 x2 x3 x4) σ) := by
  refine ks_body (by decide) (Nat.le_of_ble_eq_true rfl) ?_
  refine sg_L_real_0 row_29 (cs_L_real_9 (mc := 0) (ms := 0) (c_real h hn) (fun E σ1 z => ?_) (fun r σ1 hr => ?_))
  · obtain ⟨z0, rfl, z2, z3⟩ := z
    rcases (oc_real (A := A) (x1 := x1) (x2 := x2) (x3 := x3) (x4 := x4)).1.resolve_left z0 with e | e
    · refine ⟨1, ?_, _, rfl, by rw [e]; rfl, fun q => absurd q z0, z2, fw_c z3⟩
      rw [e]; exact ct_real_aio
    · refine ⟨2, ?_, _, rfl, by rw [e]; rfl, fun q => absurd q z0, z2, fw_c z3⟩
      rw [e]; exact ct_real_iae
  · obtain ⟨z0, rfl, z2, z3⟩ := hr
    refine sg_L_real_12 row_29 (vp_in_nI (n := 0) (by decide) (by decide)) ⟨_, rfl, by rw [z0]; rfl, fun _ => ?_, CI_29 z2, fw_29 z3⟩
    rw [g29]
theorem oc_count {A : wa_} {x1 : Int32} : ((o_count A x1).1 = 0 ∨ (o_count A x1).1 = 1) ∧ wN (o_count A x1).2.2 ≤ wN A + 1 := by
  unfold o_count
  split
  · exact ⟨Or.inl rfl, Nat.le_succ _⟩
  · exact ⟨Or.inr rfl, Nat.le_succ _⟩
theorem w_count {L : Nat} {xs : Nat → Int32} {σ : ks_St} {A : wa_} {x1 : Int32} (h : CI_ A σ) : ks_M L xs mL_count rm_L_count [.ref 0, .int x1, .ref 29] σ (pq_ (o_count A x1) σ) := by
  refine ks_body (by decide) (Nat.le_of_ble_eq_true rfl) ?_
  refine sg_L_count_0 row_29 (cs_L_count_4 (mc := 0) (ms := 0) (c_count h) (fun E σ1 z => ?_) (fun r σ1 hr => ?_))
  · obtain ⟨z0, rfl, z2, z3⟩ := z
    rcases (oc_count (A := A) (x1 := x1)).1.resolve_left z0 with e
    · refine ⟨1, ?_, _, rfl, by rw [e]; rfl, fun q => absurd q z0, z2, fw_c z3⟩
      rw [e]; exact ct_count_aio
  · obtain ⟨z0, rfl, z2, z3⟩ := hr
    refine sg_L_count_7 row_29 (vp_in_nI (n := 0) (by decide) (by decide)) ⟨_, rfl, by rw [z0]; rfl, fun _ => ?_, CI_29 z2, fw_29 z3⟩
    rw [g29]
theorem oc_width {A : wa_} {x1 : Int32} : ((o_width A x1).1 = 0 ∨ (o_width A x1).1 = 1) ∧ wN (o_width A x1).2.2 ≤ wN A + 1 := by
  unfold o_width
  split
  · exact ⟨Or.inl rfl, Nat.le_succ _⟩
  · exact ⟨Or.inr rfl, Nat.le_succ _⟩
theorem w_width {L : Nat} {xs : Nat → Int32} {σ : ks_St} {A : wa_} {x1 : Int32} (h : CI_ A σ) : ks_M L xs mL_width rm_L_width [.ref 0, .int x1, .ref 29] σ (pq_ (o_width A x1) σ) := by
  refine ks_body (by decide) (Nat.le_of_ble_eq_true rfl) ?_
  refine sg_L_width_0 row_29 (cs_L_width_4 (mc := 0) (ms := 0) (c_width h) (fun E σ1 z => ?_) (fun r σ1 hr => ?_))
  · obtain ⟨z0, rfl, z2, z3⟩ := z
    rcases (oc_width (A := A) (x1 := x1)).1.resolve_left z0 with e
    · refine ⟨1, ?_, _, rfl, by rw [e]; rfl, fun q => absurd q z0, z2, fw_c z3⟩
      rw [e]; exact ct_width_aio
  · obtain ⟨z0, rfl, z2, z3⟩ := hr
    refine sg_L_width_7 row_29 (vp_in_nI (n := 0) (by decide) (by decide)) ⟨_, rfl, by rw [z0]; rfl, fun _ => ?_, CI_29 z2, fw_29 z3⟩
    rw [g29]
theorem oc_set {A : wa_} {x1 x2 : Int32} {v : Int64} : ((o_set A x1 x2 v).1 = 0 ∨ (o_set A x1 x2 v).1 = 1) ∧ wN (o_set A x1 x2 v).2.2 ≤ wN A + 1 := by
  unfold o_set
  split
  · exact ⟨Or.inl rfl, Nat.le_succ _⟩
  · exact ⟨Or.inr rfl, Nat.le_succ _⟩
theorem ob_set {A : wa_} {x1 x2 : Int32} {v : Int64} : ∃ b, (o_set A x1 x2 v).2.1 = b1_ b := by
  unfold o_set
  split
  · exact ⟨_, rfl⟩
  · exact ⟨false, rfl⟩
theorem w_set {L : Nat} {xs : Nat → Int32} {σ : ks_St} {A : wa_} {x1 x2 : Int32} {v : Int64} (h : CI_ A σ) : ks_M L xs mL_set rm_L_set [.ref 0, .int x1, .int x2, .long v, .ref 29] σ (pq_ (o_set A x1 x2 v) σ) := by
  refine ks_body (by decide) (Nat.le_of_ble_eq_true rfl) ?_
  refine sg_L_set_0 row_29 (cs_L_set_7 (mc := 0) (ms := 0) (c_set h) (fun E σ1 z => ?_) (fun r σ1 hr => ?_))
  · obtain ⟨z0, rfl, z2, z3⟩ := z
    rcases (oc_set (A := A) (x1 := x1) (x2 := x2) (v := v)).1.resolve_left z0 with e
    · refine ⟨1, ?_, _, rfl, by rw [e]; rfl, fun q => absurd q z0, z2, fw_c z3⟩
      rw [e]; exact ct_set_aio
  · obtain ⟨z0, rfl, z2, z3⟩ := hr
    obtain ⟨b, hb⟩ := ob_set (A := A) (x1 := x1) (x2 := x2) (v := v)
    refine sg_L_set_10 row_29 (fun c => ?_) (fun c => ?_)
    · refine sg_L_set_18 row_29 (vp_in_nI (n := 0) (by decide) (by decide)) ⟨_, rfl, by rw [z0]; rfl, fun _ => ?_, CI_29 z2, fw_29 z3⟩
      rw [g29, c]; rfl
    · refine sg_L_set_18 row_29 (vp_in_nI (n := 0) (by decide) (by decide)) ⟨_, rfl, by rw [z0]; rfl, fun _ => ?_, CI_29 z2, fw_29 z3⟩
      rw [hb, b1_0] at c
      rw [g29, hb, eq_true_of_ne_false c]; rfl
theorem oc_bit {A : wa_} {x1 x2 : Int32} : ((o_bit A x1 x2).1 = 0 ∨ (o_bit A x1 x2).1 = 1 ∨ (o_bit A x1 x2).1 = 2) ∧ wN (o_bit A x1 x2).2.2 ≤ wN A + 1 := by
  unfold o_bit
  split
  · split
    · exact ⟨Or.inr (Or.inr rfl), Nat.le_succ _⟩
    · exact ⟨Or.inl rfl, Nat.le_succ _⟩
  · exact ⟨Or.inr (Or.inl rfl), Nat.le_succ _⟩
theorem ob_bit {A : wa_} {x1 x2 : Int32} : ∃ b, (o_bit A x1 x2).2.1 = b1_ b := by
  unfold o_bit
  split
  · split
    · exact ⟨false, rfl⟩
    · exact ⟨_, rfl⟩
  · exact ⟨false, rfl⟩
theorem w_bit {L : Nat} {xs : Nat → Int32} {σ : ks_St} {A : wa_} {x1 x2 : Int32} (h : CI_ A σ) : ks_M L xs mL_bit rm_L_bit [.ref 0, .int x1, .int x2, .ref 29] σ (pq_ (o_bit A x1 x2) σ) := by
  refine ks_body (by decide) (Nat.le_of_ble_eq_true rfl) ?_
  refine sg_L_bit_0 row_29 (cs_L_bit_5 (mc := 0) (ms := 0) (c_bit h) (fun E σ1 z => ?_) (fun r σ1 hr => ?_))
  · obtain ⟨z0, rfl, z2, z3⟩ := z
    rcases (oc_bit (A := A) (x1 := x1) (x2 := x2)).1.resolve_left z0 with e | e
    · refine ⟨1, ?_, _, rfl, by rw [e]; rfl, fun q => absurd q z0, z2, fw_c z3⟩
      rw [e]; exact ct_bit_aio
    · refine ⟨2, ?_, _, rfl, by rw [e]; rfl, fun q => absurd q z0, z2, fw_c z3⟩
      rw [e]; exact ct_bit_iae
  · obtain ⟨z0, rfl, z2, z3⟩ := hr
    obtain ⟨b, hb⟩ := ob_bit (A := A) (x1 := x1) (x2 := x2)
    refine sg_L_bit_8 row_29 (fun c => ?_) (fun c => ?_)
    · refine sg_L_bit_16 row_29 (vp_in_nI (n := 0) (by decide) (by decide)) ⟨_, rfl, by rw [z0]; rfl, fun _ => ?_, CI_29 z2, fw_29 z3⟩
      rw [g29, c]; rfl
    · refine sg_L_bit_16 row_29 (vp_in_nI (n := 0) (by decide) (by decide)) ⟨_, rfl, by rw [z0]; rfl, fun _ => ?_, CI_29 z2, fw_29 z3⟩
      rw [hb, b1_0] at c
      rw [g29, hb, eq_true_of_ne_false c]; rfl
theorem oc_limb {A : wa_} {x1 x2 : Int32} : ((o_limb A x1 x2).1 = 0 ∨ (o_limb A x1 x2).1 = 1) ∧ wN (o_limb A x1 x2).2.2 ≤ wN A + 1 := by
  unfold o_limb
  split
  · exact ⟨Or.inl rfl, Nat.le_succ _⟩
  · exact ⟨Or.inr rfl, Nat.le_succ _⟩
theorem w_limb {L : Nat} {xs : Nat → Int32} {σ : ks_St} {A : wa_} {x1 x2 : Int32} (h : CI_ A σ) : ks_M L xs mL_limb rm_L_limb [.ref 0, .int x1, .int x2, .ref 29] σ (pql_ (o_limb A x1 x2) σ) := by
  refine ks_body (by decide) (Nat.le_of_ble_eq_true rfl) ?_
  refine sg_L_limb_0 row_29 (cs_L_limb_5 (mc := 0) (ms := 0) (c_limb h) (fun E σ1 z => ?_) (fun r σ1 hr => ?_))
  · obtain ⟨z0, rfl, z2, z3⟩ := z
    rcases (oc_limb (A := A) (x1 := x1) (x2 := x2)).1.resolve_left z0 with e
    · refine ⟨1, ?_, _, rfl, by rw [e]; rfl, fun q => absurd q z0, z2, fw_c z3⟩
      rw [e]; exact ct_limb_aio
  · obtain ⟨z0, rfl, z2, z3⟩ := hr
    refine sg_L_limb_8 row_29 (vp_in_nI (n := 0) (by decide) (by decide)) ⟨_, rfl, by rw [z0]; rfl, fun _ => ?_, CI_29 z2, fw_29 z3⟩
    rw [g29]
end
