section
/-! ===== the class's calls: field, join, extend, compare, op ===== -/
theorem CI_ff {A : wa_} {σ σ' : ks_St} {F : Bool × Bool × Bool × Bool} (h : CI_ A σ) (f : fo_ σ σ') (b0 : si_ σ' 2 = b1_ F.1) (b1 : si_ σ' 3 = b1_ F.2.1) (b2 : si_ σ' 4 = b1_ F.2.2.1) (b3 : si_ σ' 5 = b1_ F.2.2.2) : CI_ (wf_ A F) σ' := by
  obtain ⟨a0, a1, a2, a3, -, a4⟩ := h
  refine ⟨a0, (f.1 0 (by decide)).trans a1, (f.1 1 (by decide)).trans a2, fun j hj => ?_, ⟨b0, b1, b2, b3⟩, (f.1 7 (by decide)).trans a4⟩
  rw [f.2.2.1 1 (by decide), f.2.2.2 2 (by decide)]
  exact a3 j hj
theorem xor_top {x : Nat} (h : x < 2 ^ 64) : x ^^^ 2 ^ 63 = (x + 2 ^ 63) % 2 ^ 64 := by
  have key : ∀ y, y < 2 ^ 63 → y ^^^ 2 ^ 63 = 2 ^ 63 + y := by
    intro y hy
    apply Nat.eq_of_testBit_eq
    intro k
    rw [Nat.testBit_xor, Nat.testBit_two_pow]
    by_cases c : k = 63
    · subst c
      rw [Nat.testBit_two_pow_add_eq]; simp
    · by_cases d : k < 63
      · rw [Nat.testBit_two_pow_add_gt d]
        simp [show ¬ 63 = k by omega]
      · rw [Nat.testBit_lt_two_pow (show y < 2 ^ k from Nat.lt_of_lt_of_le hy (Nat.pow_le_pow_right (by decide) (by omega))), Nat.testBit_lt_two_pow (show 2 ^ 63 + y < 2 ^ k from Nat.lt_of_lt_of_le (show 2 ^ 63 + y < 2 ^ 64 by omega) (Nat.pow_le_pow_right (by decide) (by omega)))]
        simp [show ¬ 63 = k by omega]
  by_cases c : x < 2 ^ 63
  · rw [key x c]; omega
  · have h2 := key (x - 2 ^ 63) (by omega)
    have e : x = (x - 2 ^ 63) ^^^ 2 ^ 63 := by rw [h2]; omega
    rw [e, Nat.xor_assoc, Nat.xor_self, Nat.xor_zero, ← e]
    omega
theorem lN_ti' {m : Nat} (h : m < 2 ^ 64) : (lN m).toInt = if m < 2 ^ 63 then (m : Int) else (m : Int) - 2 ^ 64 := by
  show (BitVec.ofNat 64 m).toInt = _
  rw [BitVec.toInt_eq_toNat_cond, BitVec.toNat_ofNat, Nat.mod_eq_of_lt h]
  split <;> split <;> omega
theorem un_flip (x : Int64) : (x ^^^ (-9223372036854775808)).toInt = (un_ x : Int) - 2 ^ 63 := by
  have hl := un_lt x
  have h : un_ (x ^^^ (-9223372036854775808)) = (un_ x + 2 ^ 63) % 2 ^ 64 := by
    rw [un_xor, show un_ (-9223372036854775808) = 2 ^ 63 from by decide, xor_top hl]
  rw [← un_of (x ^^^ _), h, lN_ti' (Nat.mod_lt _ (by decide))]
  split <;> omega
theorem flip_le (x y : Int64) : y ^^^ (-9223372036854775808) ≤ x ^^^ (-9223372036854775808) ↔ un_ y ≤ un_ x := by
  rw [Int64.le_iff_toInt_le, un_flip, un_flip]; omega
section
variable {L : Nat} {xs : Nat → Int32} {σ : ks_St} {A : wa_}
def o_field (A : wa_) (x f t : Int32) : Nat × Int32 × wa_ :=
  if ow_ A x then (if f < 0 ∨ nI (wW A x.toNatClampNeg) ≤ t ∨ ¬ f ≤ t then (2, 0, A) else (0, nI (wN A), wp_ A (t.toNatClampNeg - f.toNatClampNeg + 1) (wV A x.toNatClampNeg / 2 ^ f.toNatClampNeg % 2 ^ (t.toNatClampNeg - f.toNatClampNeg + 1)))) else (1, 0, A)
theorem c_field {x f t : Int32} (h : CI_ A σ) (hn : wN A < 600) : ks_M L xs mX4_field rm_X4_field [.ref 0, .int x, .int f, .int t] σ (pc_ en_ (o_field A x f t) σ) := by
  refine ks_body (by decide) (Nat.le_of_ble_eq_true rfl) ?_
  refine sg_X4_field_0 (cs_X4_field_2 (mc := 2) (ms := 12) (c_requireWord h) (fun E σ' z => ?_) (fun σ1 e => ?_))
  · obtain ⟨rfl, rfl, z⟩ := z
    refine Or.inr ⟨_, rfl, ?_⟩
    rw [o_field, if_neg z]
    exact ⟨Nat.succ_ne_zero _, rfl, h, fr_refl _⟩
  · obtain ⟨rfl, z⟩ := e
    obtain ⟨j, hj, rfl, ej⟩ := ow_ix h.1 z
    have hw := CI_w h hj
    have thr : (f < 0 ∨ nI (wW A j) ≤ t ∨ ¬ f ≤ t) → ks_W L xs mX4_field rm_X4_field 24 [] [] σ1 2 12 (pc_ en_ (o_field A (nI j) f t) σ1) := fun q => sg_X4_field_24 (by decide) (by decide) (Or.inr ⟨_, rfl, by
      rw [o_field, if_pos z, ej, if_pos q]; exact ⟨Nat.succ_ne_zero _, rfl, h, fr_refl _⟩⟩)
    have ew := CI_sf h hj
    refine sg_X4_field_5 (fun c => thr (Or.inl c)) (fun _ => CI_in h hj) (fun c d => thr (Or.inr (Or.inl (ew ▸ d)))) (fun c d e => ?_) (fun c d e => thr (Or.inr (Or.inr e)))
    rw [ew] at d
    have ho : o_field A (nI j) f t = (0, nI (wN A), wp_ A (t.toNatClampNeg - f.toNatClampNeg + 1) (wV A j / 2 ^ f.toNatClampNeg % 2 ^ (t.toNatClampNeg - f.toNatClampNeg + 1))) := by
      rw [o_field, if_pos z, ej, if_neg (by intro q; rcases q with q | q | q; exact c q; exact d q; exact q e)]
    obtain ⟨p, hp, rfl⟩ := nI_of c
    have ht0 : ¬ t < 0 := fun z => by
      have h1 := Int32.le_iff_toInt_le.mp e
      have h2 := Int32.lt_iff_toInt_lt.mp z
      rw [nI_toInt hp] at h1
      rw [Int32.toInt_zero] at h2
      omega
    obtain ⟨q, hq, rfl⟩ := nI_of ht0
    rw [nI_leI (by omega) hq] at d
    rw [nI_leI hp hq] at e
    rw [nI_clamp hp, nI_clamp hq] at ho
    refine cs_X4_field_35 (mc := 1) (ms := 6) (c_requireRoom h hn) (fun E σ' z => z.elim) (fun σ2 e2 => ?_)
    subst e2
    refine sg_X4_field_38 (cs_X4_field_44 (c_load row_3 h hj) (fun σ3 e3 => ?_))
    obtain ⟨g, e3, hg⟩ := e3
    have f3 : fr_ [] [] [] [3] σ2 σ3 := by rw [e3]; exact fr_ug _ _ (by decide)
    have h3 : CI_ A σ3 := CI_fr h f3 (by decide) (by decide) (by decide)
    have hg3 : rw_ (sg_ σ3 3) 9 (wV A j) := by rw [e3, sg_self]; exact hg
    refine sg_X4_field_47 (cs_X4_field_57 (c_moveUp row_3 row_5 (by decide)) (fun σ4 e4 => ?_))
    have f4 : fr_ [] [] [] [5] σ3 σ4 := by rw [e4]; exact fr_ug _ _ (by decide)
    have h4 : CI_ A σ4 := CI_fr h3 f4 (by decide) (by decide) (by decide)
    have hg4 : rw_ (sg_ σ4 5) 9 (wV A j / 2 ^ p % 2 ^ (64 * 9)) := by
      rw [e4, sg_self]; exact rw_down hg3 (by decide) (by decide) (by omega)
    refine sg_X4_field_60 ?_
    rw [pk_sub e, nI_1]
    refine cs_X4_field_66 (c_keepMade h4 hn hg4 (by omega) (by omega)) (fun r σ5 hr => ?_)
    obtain ⟨e1, e2, e5⟩ := hr
    rw [mod_576 (by omega)] at e2
    refine sg_X4_field_69 (Or.inl ⟨_, rfl, ?_⟩)
    rw [ho]
    exact ⟨rfl, e1, e2, fr_trans (fr_mono f3 (by decide) (by decide) (by decide) (by decide)) (fr_trans (fr_mono f4 (by decide) (by decide) (by decide) (by decide)) (fr_mono e5 (by decide) (by decide) (by decide) (by decide)))⟩
def o_join (A : wa_) (a b : Int32) : Nat × Int32 × wa_ :=
  if ow_ A a ∧ ow_ A b then (if 512 < wW A a.toNatClampNeg + wW A b.toNatClampNeg then (2, 0, A) else (0, nI (wN A), wp_ A (wW A a.toNatClampNeg + wW A b.toNatClampNeg) (2 ^ wW A b.toNatClampNeg * wV A a.toNatClampNeg + wV A b.toNatClampNeg))) else (1, 0, A)
theorem join_mod {X Y a b : Nat} (hX : X < 2 ^ a) (hY : Y < 2 ^ b) (h : a + b ≤ 512) : (Y ||| X * 2 ^ b % 2 ^ (64 * 9)) % 2 ^ (a + b) = 2 ^ b * X + Y := by
  have h1 : X * 2 ^ b < 2 ^ (a + b) := by rw [Nat.pow_add]; exact Nat.mul_lt_mul_of_pos_right hX (Nat.two_pow_pos _)
  have h2 : 2 ^ (a + b) ≤ 2 ^ (64 * 9) := Nat.pow_le_pow_right (by decide) (by omega)
  have h3 : Y < 2 ^ (a + b) := Nat.lt_of_lt_of_le hY (Nat.pow_le_pow_right (by decide) (by omega))
  rw [Nat.mod_eq_of_lt (Nat.lt_of_lt_of_le h1 h2), Nat.mod_eq_of_lt (Nat.or_lt_two_pow h3 h1), Nat.or_comm, Nat.mul_comm X, ← Nat.two_pow_add_eq_or_of_lt hY]
theorem c_join {a b : Int32} (h : CI_ A σ) (hn : wN A < 600) : ks_M L xs mX4_join rm_X4_join [.ref 0, .int a, .int b] σ (pc_ en_ (o_join A a b) σ) := by
  refine ks_body (by decide) (Nat.le_of_ble_eq_true rfl) ?_
  have thr : ¬ (ow_ A a ∧ ow_ A b) → ∀ σ', σ' = σ → pc_ en_ (o_join A a b) σ (.inr (en_ 1)) σ' := fun z σ' e => Or.inr ⟨_, rfl, by
    rw [o_join, if_neg z]; exact ⟨Nat.succ_ne_zero _, rfl, e ▸ h, e ▸ fr_refl _⟩⟩
  refine sg_X4_join_0 (cs_X4_join_2 (mc := 3) (ms := 18) (c_requireWord h) (fun E σ' z => ?_) (fun σ1 e => ?_))
  · obtain ⟨rfl, e, z⟩ := z
    exact thr (fun q => z q.1) _ e
  · obtain ⟨rfl, za⟩ := e
    refine sg_X4_join_5 (cs_X4_join_7 (mc := 2) (ms := 12) (c_requireWord h) (fun E σ' z => ?_) (fun σ2 e => ?_))
    · obtain ⟨rfl, e, z⟩ := z
      exact thr (fun q => z q.2) _ e
    · obtain ⟨rfl, zb⟩ := e
      clear thr
      obtain ⟨i, hi, rfl, ei⟩ := ow_ix h.1 za
      obtain ⟨j, hj, rfl, ej⟩ := ow_ix h.1 zb
      have hwi := CI_w h hi
      have hwj := CI_w h hj
      have es : sf_ σ2 1 (nI i).toNatClampNeg + sf_ σ2 1 (nI j).toNatClampNeg = nI (wW A i + wW A j) := by rw [CI_sf h hi, CI_sf h hj, nI_add]
      have hc : sf_ σ2 1 (nI i).toNatClampNeg + sf_ σ2 1 (nI j).toNatClampNeg ≤ 512 ↔ wW A i + wW A j ≤ 512 := by rw [es]; exact nI_leI (b := 512) (by omega) (by decide)
      refine sg_X4_join_10 (by decide) (by decide) (CI_in h hi) (CI_in h hj) (fun c => ?_) (fun c => Or.inr ⟨_, rfl, ?_⟩)
      · have c' := hc.mp c
        rw [es]
        refine cs_X4_join_42 (mc := 1) (ms := 6) (c_requireRoom h hn) (fun E σ' z => z.elim) (fun σ2' e2 => ?_)
        subst e2
        refine sg_X4_join_45 (cs_X4_join_51 (c_load row_3 h hi) (fun σ3 e3 => ?_))
        obtain ⟨g, e3, hg⟩ := e3
        have f3 : fr_ [] [] [] [3] σ2' σ3 := by rw [e3]; exact fr_ug _ _ (by decide)
        have h3 : CI_ A σ3 := CI_fr h f3 (by decide) (by decide) (by decide)
        have hg3 : rw_ (sg_ σ3 3) 9 (wV A i) := by rw [e3, sg_self]; exact hg
        refine sg_X4_join_54 (cs_X4_join_60 (c_load row_5 h3 hj) (fun σ4 e4 => ?_))
        obtain ⟨g', e4, hg'⟩ := e4
        have f4 : fr_ [] [] [] [5] σ3 σ4 := by rw [e4]; exact fr_ug _ _ (by decide)
        have h4 : CI_ A σ4 := CI_fr h3 f4 (by decide) (by decide) (by decide)
        have hg4 : rw_ (sg_ σ4 3) 9 (wV A i) := by rw [f4.2.2.2 3 (by decide)]; exact hg3
        have hg5 : rw_ (sg_ σ4 5) 9 (wV A j) := by rw [e4, sg_self]; exact hg'
        refine sg_X4_join_63 (CI_in h hj) ?_
        rw [CI_sf h4 hj]
        refine cs_X4_join_77 (c_orMovedUp row_3 row_5 (by decide)) (fun σ5 e5 => ?_)
        have f5 : fr_ [] [] [] [5] σ4 σ5 := by rw [e5]; exact fr_ug _ _ (by decide)
        have h5 : CI_ A σ5 := CI_fr h4 f5 (by decide) (by decide) (by decide)
        have hg6 : rw_ (sg_ σ5 5) 9 (wV A j ||| wV A i * 2 ^ wW A j % 2 ^ (64 * 9)) := by
          rw [e5, sg_self]
          have hu := rw_up (g0 := sg_ σ4 5) (no := 9) (s := wW A j) hg4 (by decide) (by decide) (by decide) (by omega)
          refine rw_congr (rw_or (g0 := sg_ σ4 5) hg5 hu) (fun k hk => ?_)
          simp only [if_pos hk]
        refine sg_X4_join_80 (cs_X4_join_82 (c_keepMade h5 hn hg6 (by omega) c') (fun r σ6 hr => ?_))
        obtain ⟨e1, e2, e6⟩ := hr
        rw [join_mod hwi.2.2 hwj.2.2 c'] at e2
        refine sg_X4_join_85 (Or.inl ⟨_, rfl, ?_⟩)
        rw [o_join, if_pos ⟨za, zb⟩, ei, ej, if_neg (by omega)]
        exact ⟨rfl, e1, e2, fr_trans (fr_mono f3 (by decide) (by decide) (by decide) (by decide)) (fr_trans (fr_mono f4 (by decide) (by decide) (by decide) (by decide)) (fr_trans (fr_mono f5 (by decide) (by decide) (by decide) (by decide)) (fr_mono e6 (by decide) (by decide) (by decide) (by decide))))⟩
      · have c' : ¬ wW A i + wW A j ≤ 512 := fun z => c (hc.mpr z)
        rw [o_join, if_pos ⟨za, zb⟩, ei, ej, if_pos (by omega)]
        exact ⟨Nat.succ_ne_zero _, rfl, h, fr_refl _⟩
def o_extend (A : wa_) (x b s : Int32) : Nat × Int32 × wa_ :=
  if ow_ A x then (if b < nI (wW A x.toNatClampNeg) ∨ ¬ b ≤ 512 then (2, 0, A) else (0, nI (wN A), wp_ A b.toNatClampNeg (if s ≠ 0 ∧ ng_ (wW A x.toNatClampNeg) (wV A x.toNatClampNeg) = true then wV A x.toNatClampNeg ||| (2 ^ b.toNatClampNeg - 2 ^ wW A x.toNatClampNeg) else wV A x.toNatClampNeg))) else (1, 0, A)
theorem c_extend {x b s : Int32} (h : CI_ A σ) (hn : wN A < 600) : ks_M L xs mX4_extend rm_X4_extend [.ref 0, .int x, .int b, .int s] σ (pc_ en_ (o_extend A x b s) σ) := by
  refine ks_body (by decide) (Nat.le_of_ble_eq_true rfl) ?_
  refine sg_X4_extend_0 (cs_X4_extend_2 (mc := 2) (ms := 12) (c_requireWord h) (fun E σ' z => ?_) (fun σ1 e => ?_))
  · obtain ⟨rfl, rfl, z⟩ := z
    refine Or.inr ⟨_, rfl, ?_⟩
    rw [o_extend, if_neg z]
    exact ⟨Nat.succ_ne_zero _, rfl, h, fr_refl _⟩
  · obtain ⟨rfl, z⟩ := e
    obtain ⟨j, hj, rfl, ej⟩ := ow_ix h.1 z
    have hw := CI_w h hj
    have thr : (b < nI (wW A j) ∨ ¬ b ≤ 512) → ks_W L xs mX4_extend rm_X4_extend 22 [] [] σ1 2 12 (pc_ en_ (o_extend A (nI j) b s) σ1) := fun q => sg_X4_extend_22 (by decide) (by decide) (Or.inr ⟨_, rfl, by
      rw [o_extend, if_pos z, ej, if_pos q]; exact ⟨Nat.succ_ne_zero _, rfl, h, fr_refl _⟩⟩)
    have ew := CI_sf h hj
    refine sg_X4_extend_5 (CI_in h hj) (fun c => thr (Or.inl (ew ▸ c))) (fun c d => ?_) (fun c d => thr (Or.inr d))
    rw [ew] at c
    have ho : o_extend A (nI j) b s = (0, nI (wN A), wp_ A b.toNatClampNeg (if s ≠ 0 ∧ ng_ (wW A j) (wV A j) = true then wV A j ||| (2 ^ b.toNatClampNeg - 2 ^ wW A j) else wV A j)) := by
      rw [o_extend, if_pos z, ej, if_neg (by intro q; rcases q with q | q; exact c q; exact q d)]
    have hb0 : ¬ b < 0 := fun z => by
      have h1 := Int32.not_lt.mp c
      rw [Int32.le_iff_toInt_le, nI_toInt (by omega)] at h1
      rw [Int32.lt_iff_toInt_lt, Int32.toInt_zero] at z
      omega
    obtain ⟨q, hq, rfl⟩ := nI_of hb0
    rw [nI_ltI hq (by omega)] at c
    rw [show (512 : Int32) = nI 512 from rfl, nI_leI hq (by decide)] at d
    rw [nI_clamp hq] at ho
    refine cs_X4_extend_33 (mc := 1) (ms := 6) (c_requireRoom h hn) (fun E σ' z => z.elim) (fun σ2 e2 => ?_)
    subst e2
    refine sg_X4_extend_36 (cs_X4_extend_42 (c_load row_5 h hj) (fun σ3 e3 => ?_))
    obtain ⟨g, e3, hg⟩ := e3
    have f3 : fr_ [] [] [] [5] σ2 σ3 := by rw [e3]; exact fr_ug _ _ (by decide)
    have h3 : CI_ A σ3 := CI_fr h f3 (by decide) (by decide) (by decide)
    have hg3 : rw_ (sg_ σ3 5) 9 (wV A j) := by rw [e3, sg_self]; exact hg
    have hV : wV A j < 2 ^ q := Nat.lt_of_lt_of_le hw.2.2 (Nat.pow_le_pow_right (by decide) (by omega))
    have fin : ∀ (σ4 : ks_St) (X : Nat), CI_ A σ4 → fr_ [] [] [] [5] σ2 σ4 → rw_ (sg_ σ4 5) 9 X → X % 2 ^ q = (if s ≠ 0 ∧ ng_ (wW A j) (wV A j) = true then wV A j ||| (2 ^ q - 2 ^ wW A j) else wV A j) →
        ks_W L xs mX4_extend rm_X4_extend 70 [(0, .ref 0), (2, .int (nI q))] [] σ4 1 6 (pc_ en_ (o_extend A (nI j) (nI q) s) σ2) := by
      intro σ4 X h4 f4 hX eX
      refine sg_X4_extend_70 (cs_X4_extend_72 (c_keepMade h4 hn hX (by omega) d) (fun r σ5 hr => ?_))
      obtain ⟨e1, e2, e5⟩ := hr
      rw [eX] at e2
      refine sg_X4_extend_75 (Or.inl ⟨_, rfl, ?_⟩)
      rw [ho]
      exact ⟨rfl, e1, e2, fr_trans (fr_mono f4 (by decide) (by decide) (by decide) (by decide)) (fr_mono e5 (by decide) (by decide) (by decide) (by decide))⟩
    refine sg_X4_extend_45 (fun c0 => ?_) (fun c0 => ?_)
    · exact fin σ3 _ h3 f3 hg3 (by rw [if_neg (fun y => y.1 c0), Nat.mod_eq_of_lt hV])
    · refine cs_X4_extend_51 (c_isNegative h3 hj) (fun r σ4 hr => ?_)
      obtain ⟨rfl, rfl⟩ := hr
      refine sg_X4_extend_54 (fun c1 => ?_) (fun _ => CI_in h3 hj) (fun c1 => ?_)
      · rw [b1_0] at c1
        exact fin σ4 _ h3 f3 hg3 (by rw [if_neg (fun y => by rw [c1] at y; exact absurd y.2 (by decide)), Nat.mod_eq_of_lt hV])
      · rw [b1_0] at c1
        have c2 := eq_true_of_ne_false c1
        rw [CI_sf h3 hj]
        refine cs_X4_extend_67 (c_fillFrom row_5) (fun σ5 e5 => ?_)
        have f5 : fr_ [] [] [] [5] σ4 σ5 := by rw [e5]; exact fr_ug _ _ (by decide)
        refine fin σ5 (wV A j ||| (2 ^ (64 * 9) - 2 ^ wW A j)) (CI_fr h3 f5 (by decide) (by decide) (by decide)) (fr_trans f3 f5) ?_ ?_
        · rw [e5, sg_self]; exact rw_fill hg3 (by omega) (by decide)
        · rw [if_pos ⟨c0, c2⟩, fill_mod d (by omega) hV]
/-- how two words compare -/
def cm_ (s : Int32) (w X Y : Nat) : Int32 := if s ≠ 0 ∧ ng_ w X ≠ ng_ w Y then (if ng_ w X = true then -1 else 1) else if X < Y then -1 else if X = Y then 0 else 1
def o_compare (A : wa_) (a b s : Int32) : Nat × Int32 × wa_ :=
  if ow_ A a ∧ ow_ A b then (if wW A a.toNatClampNeg ≠ wW A b.toNatClampNeg then (2, 0, A) else (0, cm_ s (wW A a.toNatClampNeg) (wV A a.toNatClampNeg) (wV A b.toNatClampNeg), A)) else (1, 0, A)
theorem div_split (X i : Nat) : X / 2 ^ (64 * i) = 2 ^ 64 * (X / 2 ^ (64 * (i + 1))) + X / 2 ^ (64 * i) % 2 ^ 64 := by
  rw [show 2 ^ (64 * (i + 1)) = 2 ^ (64 * i) * 2 ^ 64 from by rw [← Nat.pow_add]; congr 1, ← Nat.div_div_eq_div_mul]
  exact (Nat.div_add_mod _ _).symm
theorem div_lt_of {X Y d : Nat} (h : X / d < Y / d) : X < Y := by
  rcases Nat.lt_or_ge X Y with c | c
  · exact c
  · exact absurd (Nat.div_le_div_right (c := d) c) (by omega)
theorem c_compare {a b s : Int32} (h : CI_ A σ) : ks_M L xs mX4_compare rm_X4_compare [.ref 0, .int a, .int b, .int s] σ (pc_ en_ (o_compare A a b s) σ) := by
  refine ks_body (by decide) (Nat.le_of_ble_eq_true rfl) ?_
  have thr : ¬ (ow_ A a ∧ ow_ A b) → ∀ σ', σ' = σ → pc_ en_ (o_compare A a b s) σ (.inr (en_ 1)) σ' := fun z σ' e => Or.inr ⟨_, rfl, by
    rw [o_compare, if_neg z]; exact ⟨Nat.succ_ne_zero _, rfl, e ▸ h, e ▸ fr_refl _⟩⟩
  refine sg_X4_compare_0 (cs_X4_compare_2 (mc := 2) (ms := 12) (c_requireWord h) (fun E σ' z => ?_) (fun σ1 e => ?_))
  · obtain ⟨rfl, e, z⟩ := z
    exact thr (fun q => z q.1) _ e
  · obtain ⟨rfl, za⟩ := e
    refine sg_X4_compare_5 (cs_X4_compare_7 (mc := 1) (ms := 6) (c_requireWord h) (fun E σ' z => ?_) (fun σ2 e => ?_))
    · obtain ⟨rfl, e, z⟩ := z
      exact thr (fun q => z q.2) _ e
    · obtain ⟨rfl, zb⟩ := e
      clear thr
      obtain ⟨i, hi, rfl, ei⟩ := ow_ix h.1 za
      obtain ⟨j, hj, rfl, ej⟩ := ow_ix h.1 zb
      refine sg_X4_compare_10 (cs_X4_compare_13 (mc := 0) (ms := 0) (c_requireOneWidth h hi hj) (fun E σ' z => ?_) (fun σ3 e => ?_))
      · obtain ⟨rfl, rfl, z⟩ := z
        refine Or.inr ⟨_, rfl, ?_⟩
        rw [o_compare, if_pos ⟨za, zb⟩, ei, ej, if_pos z]
        exact ⟨Nat.succ_ne_zero _, rfl, h, fr_refl _⟩
      · obtain ⟨rfl, ew⟩ := e
        have ho : o_compare A (nI i) (nI j) s = (0, cm_ s (wW A i) (wV A i) (wV A j), A) := by
          rw [o_compare, if_pos ⟨za, zb⟩, ei, ej, if_neg (fun z => z ew)]
        have hwi := CI_w h hi
        have hwj := CI_w h hj
        have hnn := CI_n h
        have fin : ∀ r : Int32, r = cm_ s (wW A i) (wV A i) (wV A j) → pc_ en_ (o_compare A (nI i) (nI j) s) σ3 (.inl (some (.int r))) σ3 := fun r hr => Or.inl ⟨_, rfl, by
          rw [ho]; exact ⟨rfl, hr, h, fr_refl _⟩⟩
        have ri := (h.2.2.2.1 i hi).2
        have rj := (h.2.2.2.1 j hj).2
        have loop : ¬ (s ≠ 0 ∧ ng_ (wW A i) (wV A i) ≠ ng_ (wW A i) (wV A j)) → ∀ n, n ≤ 8 → wV A i / 2 ^ (64 * n) = wV A j / 2 ^ (64 * n) → ks_W L xs mX4_compare rm_X4_compare 51 [(0, .ref 0), (1, .int (nI i)), (2, .int (nI j)), (4, .int (nI n - 1))] [] σ3 0 0 (pc_ en_ (o_compare A (nI i) (nI j) s) σ3) := by
          intro hs n
          induction n with
          | zero =>
            intro _ e
            rw [Nat.mul_zero, Nat.pow_zero, Nat.div_one, Nat.div_one] at e
            refine sg_X4_compare_51 (fun _ => fin _ ?_) (fun c => absurd (by decide) c) (fun c => absurd (by decide) c) (fun c => absurd (by decide) c) (fun c => absurd (by decide) c) (fun c => absurd (by decide) c)
            rw [cm_, if_neg hs, e, if_neg (Nat.lt_irrefl _), if_pos rfl]
          | succ n ih =>
            intro hn8 e
            rw [nI_pred]
            have c0 : ¬ nI n < 0 := nI_pos (by omega)
            have eI : nI i * 8 + nI n = nI (8 * i + n) := by rw [show nI i * 8 = nI (i * 8) from pk_mul i 8, nI_add, Nat.mul_comm]
            have eJ : nI j * 8 + nI n = nI (8 * j + n) := by rw [show nI j * 8 = nI (j * 8) from pk_mul j 8, nI_add, Nat.mul_comm]
            have uI : un_ (sg_ σ3 2 (nI i * 8 + nI n).toNatClampNeg) = wV A i / 2 ^ (64 * n) % 2 ^ 64 := by rw [eI, nI_clamp (by omega)]; exact ri.2 n (by omega)
            have uJ : un_ (sg_ σ3 2 (nI j * 8 + nI n).toNatClampNeg) = wV A j / 2 ^ (64 * n) % 2 ^ 64 := by rw [eJ, nI_clamp (by omega)]; exact rj.2 n (by omega)
            have sI := div_split (wV A i) n
            have sJ := div_split (wV A j) n
            rw [e, ← uI] at sI
            rw [← uJ] at sJ
            have keq : lg_cmp (sg_ σ3 2 (nI i * 8 + nI n).toNatClampNeg) (sg_ σ3 2 (nI j * 8 + nI n).toNatClampNeg) = 0 ↔ un_ (sg_ σ3 2 (nI i * 8 + nI n).toNatClampNeg) = un_ (sg_ σ3 2 (nI j * 8 + nI n).toNatClampNeg) := by
              rw [lg_cmp_eq]; exact ⟨fun z => congrArg un_ z, fun z => un_inj z⟩
            refine sg_X4_compare_51 (fun c => absurd c c0) (fun _ => by rw [eI]; exact vp_in_nI (by omega) (by decide)) (fun _ => by rw [eJ]; exact vp_in_nI (by omega) (by decide)) (fun _ c => ?_) (fun _ c d => ?_) (fun _ c d => ?_)
            · have := keq.mp c
              rw [show nI n + (-1) = nI n - 1 by rw [Int32.sub_eq_add_neg]]
              exact ih (by omega) (by omega)
            · have c' := mt keq.mpr c
              rw [lg_cmp_ge, flip_le] at d
              have : wV A j < wV A i := div_lt_of (d := 2 ^ (64 * n)) (by omega)
              refine sg_X4_compare_113 (fin _ ?_)
              rw [cm_, if_neg hs, if_neg (by omega), if_neg (by omega)]
            · rw [lg_cmp_ge, flip_le] at d
              have : wV A i < wV A j := div_lt_of (d := 2 ^ (64 * n)) (by omega)
              refine sg_X4_compare_113 (fin _ ?_)
              rw [cm_, if_neg hs, if_pos this]
        have top : ¬ (s ≠ 0 ∧ ng_ (wW A i) (wV A i) ≠ ng_ (wW A i) (wV A j)) → ks_W L xs mX4_compare rm_X4_compare 47 [(0, .ref 0), (1, .int (nI i)), (2, .int (nI j))] [] σ3 0 0 (pc_ en_ (o_compare A (nI i) (nI j) s) σ3) := by
          intro hs
          refine sg_X4_compare_47 (loop hs 8 (Nat.le_refl 8) ?_)
          rw [Nat.div_eq_of_lt (Nat.lt_of_lt_of_le hwi.2.2 (Nat.pow_le_pow_right (by decide) (by omega))), Nat.div_eq_of_lt (Nat.lt_of_lt_of_le hwj.2.2 (Nat.pow_le_pow_right (by decide) (by omega)))]
        refine sg_X4_compare_16 (fun c => top (fun z => z.1 c)) (fun c => ?_)
        refine cs_X4_compare_22 (c_isNegative h hi) (fun r σ4 hr => ?_)
        obtain ⟨rfl, rfl⟩ := hr
        refine sg_X4_compare_25 (cs_X4_compare_27 (c_isNegative h hj) (fun r σ5 hr => ?_))
        obtain ⟨rfl, rfl⟩ := hr
        rw [← ew]
        refine sg_X4_compare_30 (fun d => top (fun z => z.2 (b1_inj.mp d))) (fun d => ?_)
        have d' : ng_ (wW A i) (wV A i) ≠ ng_ (wW A i) (wV A j) := fun z => d (b1_inj.mpr z)
        refine cs_X4_compare_35 (c_isNegative h hi) (fun r σ6 hr => ?_)
        obtain ⟨rfl, rfl⟩ := hr
        refine sg_X4_compare_38 (fun q => ?_) (fun q => ?_)
        · refine sg_X4_compare_46 (fin _ ?_)
          rw [cm_, if_pos ⟨c, d'⟩, b1_0.mp q]; rfl
        · refine sg_X4_compare_46 (fin _ ?_)
          rw [cm_, if_pos ⟨c, d'⟩, eq_true_of_ne_false (fun z => q (b1_0.mpr z))]; rfl
/-- the four flags of an answer -/
def fl_op (k w X Y : Nat) : Bool × Bool × Bool × Bool := (sc_ k w X Y, sw_ k w X Y, decide (sp_ k w X Y = 0), ng_ w (sp_ k w X Y))
def o_op2 (A : wa_) (k a b : Int32) : Nat × Int32 × wa_ :=
  if ow_ A a ∧ ow_ A b then
    (if k < 0 ∨ ¬ k ≤ 18 ∨ wW A a.toNatClampNeg ≠ wW A b.toNatClampNeg ∨ (k = 18 ∧ wW A a.toNatClampNeg % 8 ≠ 0) then (2, 0, A)
     else if ¬ k < 4 ∧ ¬ 7 < k ∧ wV A b.toNatClampNeg = 0 then (3, 0, A)
     else (0, nI (wN A), wp_ (wf_ A (fl_op k.toNatClampNeg (wW A a.toNatClampNeg) (wV A a.toNatClampNeg) (wV A b.toNatClampNeg))) (wW A a.toNatClampNeg) (sp_ k.toNatClampNeg (wW A a.toNatClampNeg) (wV A a.toNatClampNeg) (wV A b.toNatClampNeg))))
  else (1, 0, A)
def o_op (A : wa_) (k a b : Int32) : Nat × Int32 × wa_ := o_op2 A k a (if ¬ k < 16 ∧ ¬ 18 < k then a else b)
theorem c_op_tail {i j q : Nat} {b x4 : Int32} (h : CI_ A σ) (hn : wN A < 600) (hi : i < wN A) (hj : j < wN A) (hq : q ≤ 18) (hww : wW A i = wW A j) (hx : (x4 = 0 ∧ b = nI j) ∨ (x4 ≠ 0 ∧ i = j)) (mc ms : Nat) :
    ks_W L xs mX4_op rm_X4_op 52 [(0, .ref 0), (1, .int (nI q)), (2, .int (nI i)), (3, .int b), (4, .int x4)] [] σ (mc + 2) (ms + 12) (pc_ en_ (o_op2 A (nI q) (nI i) (nI j)) σ) := by
  have hwi := CI_w h hi
  have hwj := CI_w h hj
  have hnn := CI_n h
  have hq0 : ¬ nI q < 0 := nI_pos (by omega)
  have hq18 : nI q ≤ 18 := nI_le (b := 18) hq (by decide)
  have ho : o_op2 A (nI q) (nI i) (nI j) = if q = 18 ∧ wW A i % 8 ≠ 0 then (2, 0, A) else if 4 ≤ q ∧ q ≤ 7 ∧ wV A j = 0 then (3, 0, A) else (0, nI (wN A), wp_ (wf_ A (fl_op q (wW A i) (wV A i) (wV A j))) (wW A i) (sp_ q (wW A i) (wV A i) (wV A j))) := by
    have e1 : (nI q < 0 ∨ ¬ nI q ≤ 18 ∨ wW A i ≠ wW A j ∨ (nI q = 18 ∧ wW A i % 8 ≠ 0)) ↔ (q = 18 ∧ wW A i % 8 ≠ 0) := by
      have : nI q = 18 ↔ q = 18 := nI_eq (b := 18) (by omega) (by decide)
      rw [this]
      constructor
      · intro z
        rcases z with z | z | z | z
        · exact absurd z hq0
        · exact absurd hq18 z
        · exact absurd hww z
        · exact z
      · intro z; exact Or.inr (Or.inr (Or.inr z))
    have e2 : (¬ nI q < 4 ∧ ¬ 7 < nI q ∧ wV A j = 0) ↔ (4 ≤ q ∧ q ≤ 7 ∧ wV A j = 0) := by
      have a1 : nI q < 4 ↔ q < 4 := nI_ltI (b := 4) (by omega) (by decide)
      have a2 : 7 < nI q ↔ 7 < q := nI_ltI (a := 7) (by decide) (by omega)
      rw [a1, a2]; omega
    rw [o_op2, if_pos ⟨ow_of h.1 hi, ow_of h.1 hj⟩, nI_clamp (show i < 2 ^ 31 by omega), nI_clamp (show j < 2 ^ 31 by omega), nI_clamp (show q < 2 ^ 31 by omega)]
    simp only [e1, e2]
  rw [ho]
  clear ho
  have e18 : nI q = 18 ↔ q = 18 := nI_eq (b := 18) (by omega) (by decide)
  have e7 : sf_ σ 1 (nI i).toNatClampNeg &&& 7 = 0 ↔ wW A i % 8 = 0 := by
    rw [CI_sf h hi, pk_andN (m := 7) (by omega) 3 (by decide)]
    exact nI_eq (b := 0) (by omega) (by decide)
  have main : ¬ (q = 18 ∧ wW A i % 8 ≠ 0) → ks_W L xs mX4_op rm_X4_op 80 [(0, .ref 0), (1, .int (nI q)), (2, .int (nI i)), (3, .int b), (4, .int x4)] [] σ (mc + 2) (ms + 12) (pc_ en_ (if q = 18 ∧ wW A i % 8 ≠ 0 then (2, 0, A) else if 4 ≤ q ∧ q ≤ 7 ∧ wV A j = 0 then (3, 0, A) else (0, nI (wN A), wp_ (wf_ A (fl_op q (wW A i) (wV A i) (wV A j))) (wW A i) (sp_ q (wW A i) (wV A i) (wV A j)))) σ) := by
    intro h8
    rw [if_neg h8]
    refine sg_X4_op_80 (cs_X4_op_86 (c_load row_3 h hi) (fun σ3 e3 => ?_))
    obtain ⟨g, e3, hg⟩ := e3
    have f3 : fr_ [] [] [] [3] σ σ3 := by rw [e3]; exact fr_ug _ _ (by decide)
    have h3 : CI_ A σ3 := CI_fr h f3 (by decide) (by decide) (by decide)
    have hg3 : rw_ (sg_ σ3 3) 9 (wV A i) := by rw [e3, sg_self]; exact hg
    have step : ks_W L xs mX4_op rm_X4_op 100 [(0, .ref 0), (1, .int (nI q)), (2, .int (nI i))] [.int (nI j), .ref 0] σ3 (mc + 2) (ms + 12) (pc_ en_ (if 4 ≤ q ∧ q ≤ 7 ∧ wV A j = 0 then (3, 0, A) else (0, nI (wN A), wp_ (wf_ A (fl_op q (wW A i) (wV A i) (wV A j))) (wW A i) (sp_ q (wW A i) (wV A i) (wV A j)))) σ) := by
      refine sg_X4_op_100 (cs_X4_op_104 (c_load row_4 h3 hj) (fun σ4 e4 => ?_))
      obtain ⟨g', e4, hg'⟩ := e4
      have f4 : fr_ [] [] [] [4] σ3 σ4 := by rw [e4]; exact fr_ug _ _ (by decide)
      have h4 : CI_ A σ4 := CI_fr h3 f4 (by decide) (by decide) (by decide)
      have hgA : rw_ (sg_ σ4 3) 9 (wV A i) := by rw [f4.2.2.2 3 (by decide)]; exact hg3
      have hgB : rw_ (sg_ σ4 4) 9 (wV A j) := by rw [e4, sg_self]; exact hg'
      have f34 : fc_ σ σ4 := fr_trans (fr_mono f3 (by decide) (by decide) (by decide) (by decide)) (fr_mono f4 (by decide) (by decide) (by decide) (by decide))
      have last : ¬ (4 ≤ q ∧ q ≤ 7 ∧ wV A j = 0) → ks_W L xs mX4_op rm_X4_op 138 [(0, .ref 0), (1, .int (nI q)), (2, .int (nI i))] [] σ4 (mc + 2) (ms + 12) (pc_ en_ (if 4 ≤ q ∧ q ≤ 7 ∧ wV A j = 0 then (3, 0, A) else (0, nI (wN A), wp_ (wf_ A (fl_op q (wW A i) (wV A i) (wV A j))) (wW A i) (sp_ q (wW A i) (wV A i) (wV A j)))) σ) := by
        intro hz
        rw [if_neg hz]
        refine sg_X4_op_138 (cs_X4_op_139 (mc := mc + 1) (ms := ms + 6) (c_requireRoom h4 hn) (fun E σ' z => z.elim) (fun σ5 e5 => ?_))
        subst e5
        refine sg_X4_op_142 (CI_in h hi) ?_
        rw [CI_sf h4 hi]
        refine cs_X4_op_165 (c_run hq hgA hgB hwi.1 hwi.2.1 hwi.2.2 (by rw [hww]; exact hwj.2.2) (fun a1 a2 z => hz ⟨a1, a2, z⟩) (fun a1 => Classical.byContradiction fun z => h8 ⟨a1, z⟩)) (fun σ6 e6 => ?_)
        obtain ⟨g5, g2, g3, g4, g6, ff⟩ := e6
        have h6 : CI_ (wf_ A (fl_op q (wW A i) (wV A i) (wV A j))) σ6 := CI_ff h4 ff g2 g3 g4 g6
        have hi6 : i < wN (wf_ A (fl_op q (wW A i) (wV A i) (wV A j))) := hi
        refine sg_X4_op_168 (CI_in h6 hi6) ?_
        rw [CI_sf h6 hi6]
        refine cs_X4_op_175 (c_keepMade h6 hn g5 hwi.1 hwi.2.1) (fun r σ7 hr => ?_)
        obtain ⟨e1, e2, e7'⟩ := hr
        rw [show wW (wf_ A (fl_op q (wW A i) (wV A i) (wV A j))) i = wW A i from rfl, Nat.mod_eq_of_lt (sp_lt hwi.1 hwi.2.2 (by rw [hww]; exact hwj.2.2))] at e2
        exact sg_X4_op_178 (Or.inl ⟨_, rfl, rfl, e1, e2, fr_trans f34 (fr_trans (fr_mono ff (by decide) (by decide) (by decide) (by decide)) (fr_mono e7' (by decide) (by decide) (by decide) (by decide)))⟩)
      have a1 : nI q < 4 ↔ q < 4 := nI_ltI (b := 4) (by omega) (by decide)
      have a2 : 7 < nI q ↔ 7 < q := nI_ltI (a := 7) (by decide) (by omega)
      refine sg_X4_op_107 (fun c => last (by rw [a1] at c; omega)) (fun _ c => last (by rw [a2] at c; omega)) (fun c1 c2 => ?_)
      rw [a1] at c1
      rw [a2] at c2
      refine cs_X4_op_122 (c_isNought row_4) (fun r σ5 hr => ?_)
      obtain ⟨rfl, rfl⟩ := hr
      have hzz := rw_nought hgB
      refine sg_X4_op_125 (by omega) (by omega) (fun c => last (fun z => ?_)) (fun c => ?_)
      · rw [if_pos (hzz.mpr z.2.2)] at c; exact absurd c (by decide)
      · have : wV A j = 0 := hzz.mp (Classical.byContradiction fun z => by rw [if_neg z] at c; exact c rfl)
        refine Or.inr ⟨_, rfl, ?_⟩
        rw [if_pos ⟨by omega, by omega, this⟩]
        exact ⟨Nat.succ_ne_zero _, rfl, h4, f34⟩
    refine sg_X4_op_89 (fun c => ?_) (fun c => ?_)
    · rcases hx with ⟨-, rfl⟩ | ⟨z, -⟩
      · exact step
      · exact absurd c z
    · rcases hx with ⟨z, -⟩ | ⟨-, e⟩
      · exact absurd z c
      · rw [e] at step ⊢; exact step
  refine sg_X4_op_52 (by omega) (by omega) (fun c => main (fun z => c (e18.mpr z.1))) (fun _ => CI_in h hi) (fun c d => main (fun z => z.2 (e7.mp d))) (fun c d => Or.inr ⟨_, rfl, ?_⟩)
  rw [if_pos ⟨e18.mp c, fun z => d (e7.mpr z)⟩]
  exact ⟨Nat.succ_ne_zero _, rfl, h, fr_refl _⟩
theorem c_op {k a b : Int32} (h : CI_ A σ) (hn : wN A < 600) : ks_M L xs mX4_op rm_X4_op [.ref 0, .int k, .int a, .int b] σ (pc_ en_ (o_op A k a b) σ) := by
  refine ks_body (by decide) (Nat.le_of_ble_eq_true rfl) ?_
  have t1 : ∀ (b' : Int32) (σ' : ks_St), ¬ (ow_ A a ∧ ow_ A b') → σ' = σ → pc_ en_ (o_op2 A k a b') σ (.inr (en_ 1)) σ' := fun b' σ' z e => Or.inr ⟨_, rfl, by
    rw [o_op2, if_neg z]; exact ⟨Nat.succ_ne_zero _, rfl, e ▸ h, e ▸ fr_refl _⟩⟩
  have t2 : ∀ (b' : Int32) (σ' : ks_St), (ow_ A a ∧ ow_ A b') → (k < 0 ∨ ¬ k ≤ 18 ∨ wW A a.toNatClampNeg ≠ wW A b'.toNatClampNeg ∨ (k = 18 ∧ wW A a.toNatClampNeg % 8 ≠ 0)) → σ' = σ → pc_ en_ (o_op2 A k a b') σ (.inr (en_ 2)) σ' := fun b' σ' z q e => Or.inr ⟨_, rfl, by
    rw [o_op2, if_pos z, if_pos q]; exact ⟨Nat.succ_ne_zero _, rfl, e ▸ h, e ▸ fr_refl _⟩⟩
  have kd : ¬ (¬ k < 0 ∧ k ≤ 18) → k < 0 ∨ ¬ k ≤ 18 := fun z => by
    by_cases c : k < 0
    · exact Or.inl c
    · exact Or.inr (fun d => z ⟨c, d⟩)
  have alone : ¬ k < 16 ∧ ¬ 18 < k → ks_W L xs mX4_op rm_X4_op 17 [(0, .ref 0), (1, .int k), (2, .int a), (3, .int b)] [.int 1] σ 7 42 (pc_ en_ (o_op2 A k a a) σ) := by
    intro al
    refine sg_X4_op_17 (cs_X4_op_21 (mc := 6) (ms := 36) (c_requireWord h) (fun E σ' z => ?_) (fun σ1 e => ?_))
    · obtain ⟨rfl, e, z⟩ := z
      exact t1 a _ (fun q => z q.1) e
    · obtain ⟨rfl, za⟩ := e
      refine sg_X4_op_24 (fun _ => ?_) (fun c => absurd c (by decide))
      refine sg_X4_op_34 (cs_X4_op_38 (mc := 5) (ms := 30) c_requireKind (fun E σ' z => ?_) (fun σ2 e => ?_))
      · obtain ⟨rfl, e, z⟩ := z
        exact t2 a _ ⟨za, za⟩ ((kd z).imp id Or.inl) e
      · obtain ⟨rfl, k0, k18⟩ := e
        obtain ⟨i, hi, rfl, ei⟩ := ow_ix h.1 za
        obtain ⟨q, hq, rfl⟩ := nI_of k0
        rw [show (18 : Int32) = nI 18 from rfl, nI_leI hq (by decide)] at k18
        exact sg_X4_op_41 (fun _ => c_op_tail h hn hi hi k18 rfl (Or.inr ⟨by decide, rfl⟩) 3 18) (fun c => absurd c (by decide))
  have both : ks_W L xs mX4_op rm_X4_op 17 [(0, .ref 0), (1, .int k), (2, .int a), (3, .int b)] [.int 0] σ 7 42 (pc_ en_ (o_op2 A k a b) σ) := by
    refine sg_X4_op_17 (cs_X4_op_21 (mc := 6) (ms := 36) (c_requireWord h) (fun E σ' z => ?_) (fun σ1 e => ?_))
    · obtain ⟨rfl, e, z⟩ := z
      exact t1 b _ (fun q => z q.1) e
    · obtain ⟨rfl, za⟩ := e
      refine sg_X4_op_24 (fun c => absurd rfl c) (fun _ => ?_)
      refine cs_X4_op_31 (mc := 5) (ms := 30) (c_requireWord h) (fun E σ' z => ?_) (fun σ2 e => ?_)
      · obtain ⟨rfl, e, z⟩ := z
        exact t1 b _ (fun q => z q.2) e
      · obtain ⟨rfl, zb⟩ := e
        refine sg_X4_op_34 (cs_X4_op_38 (mc := 4) (ms := 24) c_requireKind (fun E σ' z => ?_) (fun σ3 e => ?_))
        · obtain ⟨rfl, e, z⟩ := z
          exact t2 b _ ⟨za, zb⟩ ((kd z).imp id Or.inl) e
        · obtain ⟨rfl, k0, k18⟩ := e
          obtain ⟨i, hi, rfl, ei⟩ := ow_ix h.1 za
          obtain ⟨j, hj, rfl, ej⟩ := ow_ix h.1 zb
          refine sg_X4_op_41 (fun c => absurd rfl c) (fun _ => cs_X4_op_49 (mc := 3) (ms := 18) (c_requireOneWidth h hi hj) (fun E σ' z => ?_) (fun σ4 e => ?_))
          · obtain ⟨rfl, e, z⟩ := z
            exact t2 _ _ ⟨za, zb⟩ (Or.inr (Or.inr (Or.inl (by rw [ei, ej]; exact z)))) e
          · obtain ⟨rfl, ew⟩ := e
            obtain ⟨q, hq, rfl⟩ := nI_of k0
            rw [show (18 : Int32) = nI 18 from rfl, nI_leI hq (by decide)] at k18
            exact c_op_tail h hn hi hj k18 ew (Or.inl ⟨rfl, rfl⟩) 1 6
  refine sg_X4_op_0 (fun c => ?_) (fun c d => ?_) (fun c d => ?_)
  · rw [o_op, if_neg (fun z => z.1 c)]; exact sg_X4_op_16 both
  · rw [o_op, if_neg (fun z => z.2 d)]; exact sg_X4_op_16 both
  · rw [o_op, if_pos ⟨c, d⟩]; exact alone ⟨c, d⟩
end
end
