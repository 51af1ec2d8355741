section
/-! ===== the reference's calls: set, limb, field, join, extend, compare ===== -/
theorem tb_sub {q a k : Nat} (h : a ≤ q) : (2 ^ q - 2 ^ a).testBit k = (decide (a ≤ k) && decide (k < q)) := by
  rw [show 2 ^ q - 2 ^ a = 2 ^ a * (2 ^ (q - a) - 1) by rw [Nat.mul_sub, Nat.mul_one, ← Nat.pow_add]; congr 2; omega, Nat.testBit_two_pow_mul, Nat.testBit_two_pow_sub_one]
  by_cases c : a ≤ k
  · simp only [c, decide_true, Bool.true_and]
    exact decide_eq_decide.mpr (by omega)
  · simp [c]
theorem un_b1 : ∀ b : Bool, un_ ((b1_ b).toInt64) = b.toNat := by decide
theorem bit_i (x : Int64) {k : Nat} (hk : k < 64) : (((x.toUInt64 >>> ((nI k).toInt64.toUInt64 &&& Int64.toUInt64 63)).toInt64) &&& 1).toInt32 = b1_ ((un_ x).testBit k) := by
  have h : un_ (((x.toUInt64 >>> ((nI k).toInt64.toUInt64 &&& Int64.toUInt64 63)).toInt64) &&& 1) = ((un_ x).testBit k).toNat := by
    rw [un_and, un_1, un_ushr x hk, Nat.and_one_is_mod, Nat.testBit_eq_decide_div_mod_eq]
    rcases Nat.mod_two_eq_zero_or_one (un_ x / 2 ^ k) with h | h <;> simp [h]
  rw [← un_of (_ &&& 1), h, lN_i]
  cases (un_ x).testBit k <;> rfl
theorem un_orsh {x : Int64} {b : Bool} {V i : Nat} (hi : i < 64) (hx : un_ x = V % 2 ^ i) (hb : V.testBit i = b) : un_ (x ||| ((b1_ b).toInt64 <<< ((nI i).toInt64 &&& 63))) = V % 2 ^ (i + 1) := by
  have h1 : V % 2 ^ i < 2 ^ i := Nat.mod_lt _ (Nat.two_pow_pos i)
  have h2 : b.toNat * 2 ^ i < 2 ^ 64 := by
    have : 2 ^ i ≤ 2 ^ 63 := Nat.pow_le_pow_right (by decide) (by omega)
    have hb : b.toNat ≤ 1 := by cases b <;> decide
    have : b.toNat * 2 ^ i ≤ 1 * 2 ^ i := Nat.mul_le_mul_right _ hb
    omega
  rw [un_or, un_shll _ hi, un_b1, Nat.mod_eq_of_lt h2, hx, mod_up, hb, Nat.or_comm, Nat.mul_comm, ← Nat.two_pow_add_eq_or_of_lt h1, Nat.add_comm]
section
variable {L : Nat} {xs : Nat → Int32} {σ : ks_St} {A : wa_}
theorem m_isLimb {x k : Int32} (h : MI_ A σ) : ks_M L xs mX5_isLimb rm_X5_isLimb [.ref 17, .int x, .int k] σ (pi_ fun r σ' => r = b1_ (decide (ow_ A x ∧ ol_ A x.toNatClampNeg k)) ∧ σ' = σ) := by
  refine ks_body (by decide) (Nat.le_of_ble_eq_true rfl) ?_
  refine sg_X5_isLimb_0 (cs_X5_isLimb_2 (m_isWord h) (fun r σ1 hr => ?_))
  obtain ⟨rfl, rfl⟩ := hr
  have no : ¬ (ow_ A x ∧ ol_ A x.toNatClampNeg k) → ks_W L xs mX5_isLimb rm_X5_isLimb 32 [] [] σ1 0 0 (pi_ fun r σ' => r = b1_ (decide (ow_ A x ∧ ol_ A x.toNatClampNeg k)) ∧ σ' = σ1) := fun z => sg_X5_isLimb_32 (sg_X5_isLimb_33 rfl ⟨_, rfl, by rw [decide_eq_false z]; rfl, rfl⟩)
  by_cases z : ow_ A x
  · obtain ⟨j, hj, rfl, ej⟩ := ow_ix h.1 z
    have hw := MI_w h hj
    have ew : (sf_ σ1 18 (nI j).toNatClampNeg + 63) / 64 = nI ((wW A j + 63) / 64) := by
      rw [MI_sf h hj, show (63 : Int32) = nI 63 from rfl, nI_add, show (64 : Int32) = nI 64 from rfl, pk_div (by omega) (by decide) (by decide)]
    have key : ¬ k < 0 → (nI ((wW A j + 63) / 64) ≤ k ↔ ¬ ol_ A j k) := by
      intro c
      obtain ⟨m, hm, rfl⟩ := nI_of c
      rw [nI_leI (by omega) hm]
      unfold ol_
      rw [nI_clamp hm]
      constructor
      · intro q y; have := y.2; omega
      · intro q
        have : ¬ 64 * m < wW A j := fun y => q ⟨c, y⟩
        omega
    refine sg_X5_isLimb_5 (fun c => absurd (decide_eq_true z) (by rw [b1_0] at c; rw [c]; decide)) (fun _ c => no fun y => y.2.1 c) (fun _ _ => MI_in h hj) (fun _ c d => no fun y => ?_) (fun _ c d => ?_)
    · rw [ew, key c] at d
      exact d (ej ▸ y.2)
    · rw [ew, key c] at d
      have d' : ol_ A j k := Classical.not_not.mp d
      exact sg_X5_isLimb_33 rfl ⟨_, rfl, by rw [decide_eq_true (show ow_ A (nI j) ∧ ol_ A (nI j).toNatClampNeg k from ⟨z, by rw [ej]; exact d'⟩)]; rfl, rfl⟩
  · rw [decide_eq_false z]
    exact sg_X5_isLimb_5 (fun _ => no fun y => z y.1) (fun c => absurd rfl c) (fun c => absurd rfl c) (fun c => absurd rfl c) (fun c => absurd rfl c)
theorem limb_ixm {j : Nat} {k : Int32} (h : MI_ A σ) (hj : j < wN A) (hk : ol_ A j k) : ∃ m, m < 8 ∧ k = nI m ∧ k.toNatClampNeg = m ∧ 64 * m < wW A j := by
  obtain ⟨m, hm, rfl⟩ := nI_of hk.1
  have hw := MI_w h hj
  have h2 := hk.2
  rw [nI_clamp hm] at h2
  exact ⟨m, by omega, rfl, nI_clamp hm, h2⟩
theorem m_limb {x k : Int32} (h : MI_ A σ) : ks_M L xs mX5_limb rm_X5_limb [.ref 17, .int x, .int k] σ (pml_ (o_limb A x k) σ) := by
  refine ks_body (by decide) (Nat.le_of_ble_eq_true rfl) ?_
  refine sg_X5_limb_0 (cs_X5_limb_4 (m_isLimb h) (fun r σ1 hr => ?_))
  obtain ⟨rfl, rfl⟩ := hr
  by_cases z : ow_ A x ∧ ol_ A x.toNatClampNeg k
  · rw [decide_eq_true z]
    refine sg_X5_limb_7 (fun _ => ?_) (fun c => absurd c (by decide))
    refine sg_X5_limb_15 (cs_X5_limb_18 (m_throwing false false false false) (fun r σ2 hr => ?_))
    obtain ⟨rfl, rfl⟩ := hr
    refine sg_X5_limb_21 (fun _ => ?_) (fun c => absurd rfl c)
    obtain ⟨j, hj, rfl, ej⟩ := ow_ix h.1 z.1
    obtain ⟨m, hm, rfl, em, hmw⟩ := limb_ixm h hj (ej ▸ z.2)
    have hw := MI_w h hj
    have h2 : MI_ A (ui_ σ1 14 (nI (cd_ false false false false))) := MI_14 h
    have s2 : si_ (ui_ σ1 14 (nI (cd_ false false false false))) 14 = 0 := s14
    have f2 : fm_ σ1 (ui_ σ1 14 (nI (cd_ false false false false))) := fm_14
    generalize ui_ σ1 14 (nI (cd_ false false false false)) = σ2 at h2 s2 f2 ⊢
    refine lp_ 64 (fun i (s : Int64) => ks_W L xs mX5_limb rm_X5_limb 31 [(0, .ref 17), (1, .int (nI j)), (2, .int (nI m)), (3, .long s), (5, .int (nI i))] [] σ2 0 0 (pml_ (o_limb A (nI j) (nI m)) σ1))
      (fun i s => un_ s = wV A j / 2 ^ (64 * m) % 2 ^ i) ?_ ?_ 0 0 (by decide) (by rw [un_0, Nat.pow_zero, Nat.mod_one])
    · intro i s hi hI ih
      have ei : 64 * nI m + nI i = nI (64 * m + i) := by rw [show 64 * nI m = nI (64 * m) from pk_mul 64 m, nI_add]
      have hb : (wV A j / 2 ^ (64 * m)).testBit i = (wV A j).testBit (64 * m + i) := by rw [Nat.testBit_div_two_pow, Nat.add_comm]
      refine sg_X5_limb_31 (fun c => absurd c (nI_ge (b := 64) hi (by decide))) (fun _ => MI_in h hj) (fun _ c => ?_) (fun _ c => ?_)
      · rw [MI_sf h2 hj, ei, nI_leI (by omega) (by omega)] at c
        refine sg_X5_limb_73 ?_
        rw [nI_1]
        refine ih _ ?_
        rw [mod_up, hb, Nat.testBit_lt_two_pow (Nat.lt_of_lt_of_le hw.2.2 (Nat.pow_le_pow_right (by decide) c)), hI]; simp
      · rw [MI_sf h2 hj, ei, nI_leI (by omega) (by omega)] at c
        rw [ei]
        refine cs_X5_limb_64 (m_bitOf h2 hj (by omega)) (fun r σ3 hr => ?_)
        obtain ⟨rfl, rfl⟩ := hr
        refine sg_X5_limb_67 (sg_X5_limb_73 ?_)
        rw [nI_1]
        exact ih _ (un_orsh hi hI hb)
    · intro s hI
      refine sg_X5_limb_31 (fun _ => ⟨_, rfl, ?_⟩) (fun c => absurd (by decide) c) (fun c => absurd (by decide) c) (fun c => absurd (by decide) c)
      rw [o_limb, if_pos z, ej, em]
      exact ⟨s2, fun _ => by rw [← hI, un_of], h2, f2⟩
  · rw [decide_eq_false z]
    refine sg_X5_limb_7 (fun c => absurd rfl c) (fun _ => ?_)
    refine sg_X5_limb_15 (cs_X5_limb_18 (m_throwing true false false false) (fun r σ2 hr => ?_))
    obtain ⟨rfl, rfl⟩ := hr
    refine sg_X5_limb_21 (fun c => absurd c (by decide)) (fun _ => ⟨_, rfl, ?_⟩)
    rw [o_limb, if_neg z]
    exact ⟨s14, fun c => absurd c (Nat.succ_ne_zero _), MI_14 h, fm_14⟩
theorem m_set {x k : Int32} {v : Int64} (h : MI_ A σ) : ks_M L xs mX5_set rm_X5_set [.ref 17, .int x, .int k, .long v] σ (pm_ (o_set A x k v) σ) := by
  refine ks_body (by decide) (Nat.le_of_ble_eq_true rfl) ?_
  refine sg_X5_set_0 (cs_X5_set_4 (m_isLimb h) (fun r σ1 hr => ?_))
  obtain ⟨rfl, rfl⟩ := hr
  by_cases z : ow_ A x ∧ ol_ A x.toNatClampNeg k
  · rw [decide_eq_true z]
    refine sg_X5_set_7 (fun _ => ?_) (fun c => absurd c (by decide))
    refine sg_X5_set_15 (cs_X5_set_18 (m_throwing false false false false) (fun r σ2 hr => ?_))
    obtain ⟨rfl, rfl⟩ := hr
    refine sg_X5_set_21 (fun _ => ?_) (fun c => absurd rfl c)
    obtain ⟨j, hj, rfl, ej⟩ := ow_ix h.1 z.1
    obtain ⟨m, hm, rfl, em, hmw⟩ := limb_ixm h hj (ej ▸ z.2)
    have hw := MI_w h hj
    have hn := MI_n h
    have h2 : MI_ A (ui_ σ1 14 (nI (cd_ false false false false))) := MI_14 h
    have s2 : si_ (ui_ σ1 14 (nI (cd_ false false false false))) 14 = 0 := s14
    have f2 : fm_ σ1 (ui_ σ1 14 (nI (cd_ false false false false))) := fm_14
    generalize ui_ σ1 14 (nI (cd_ false false false false)) = σ2 at h2 s2 f2 ⊢
    refine lp2_ 64 (fun i (s : ks_St) (c : Bool) => ks_W L xs mX5_set rm_X5_set 32 [(0, .ref 17), (1, .int (nI j)), (2, .int (nI m)), (3, .long v), (5, .int (b1_ c)), (6, .int (nI i))] [] s 0 0 (pm_ (o_set A (nI j) (nI m) v) σ1))
      (fun i s c => fr_ [] [] [19] [] σ2 s ∧ (∀ t, (t < 512 * j + 64 * m ∨ 512 * j + 64 * m + 64 ≤ t) → sf_ s 19 t = sf_ σ2 19 t) ∧ (∀ k, k < 64 → sf_ s 19 (512 * j + 64 * m + k) = if k < i ∧ 64 * m + k < wW A j then b1_ ((un_ v).testBit k) else sf_ σ2 19 (512 * j + 64 * m + k)) ∧ (c = true ↔ ∃ k, k < i ∧ wW A j ≤ 64 * m + k ∧ (un_ v).testBit k = true)) ?_ ?_ 0 σ2 false (by decide) ?_
    · intro i s c hi hI ih
      obtain ⟨f, q1, q2, q3⟩ := hI
      have ei : 64 * nI m + nI i = nI (64 * m + i) := by rw [show 64 * nI m = nI (64 * m) from pk_mul 64 m, nI_add]
      have ej' : 512 * nI j + 64 * nI m + nI i = nI (512 * j + 64 * m + i) := by rw [show 64 * nI m = nI (64 * m) from pk_mul 64 m, show 512 * nI j = nI (512 * j) from pk_mul 512 j, nI_add, nI_add]
      have ew : sf_ s 18 (nI j).toNatClampNeg = nI (wW A j) := by rw [f.2.2.1 18 (by decide)]; exact MI_sf h2 hj
      have hc0 : ¬ (64 : Int32) ≤ nI i := nI_ge (b := 64) hi (by decide)
      have big : wW A j ≤ 64 * m + i → ∀ c' : Bool, (c' = true ↔ c = true ∨ (un_ v).testBit i = true) → ks_W L xs mX5_set rm_X5_set 104 [(0, .ref 17), (1, .int (nI j)), (2, .int (nI m)), (3, .long v), (6, .int (nI i))] [.int (b1_ c')] s 0 0 (pm_ (o_set A (nI j) (nI m) v) σ1) := by
        intro hb c' hc'
        refine sg_X5_set_104 (sg_X5_set_106 ?_)
        rw [nI_1]
        refine ih _ _ ⟨f, q1, fun k hk => ?_, ?_⟩
        · rw [q2 k hk]
          by_cases y : k < i ∧ 64 * m + k < wW A j
          · rw [if_pos y, if_pos ⟨by omega, y.2⟩]
          · rw [if_neg y, if_neg (by omega)]
        · rw [hc', q3]
          constructor
          · intro y
            rcases y with ⟨k, a, b, c⟩ | y
            · exact ⟨k, by omega, b, c⟩
            · exact ⟨i, by omega, hb, y⟩
          · rintro ⟨k, a, b, c⟩
            by_cases e : k = i
            · subst e; exact Or.inr c
            · exact Or.inl ⟨k, by omega, b, c⟩
      refine sg_X5_set_32 (fun c => absurd c hc0) (fun c => absurd c hc0) (fun _ => MI_in h hj) (fun _ d e => ?_) (fun _ d e g => ?_) (fun _ d e g => ?_) (fun _ d => ?_) (fun _ d => ?_)
      · rw [ew, ei, nI_leI (by omega) (by omega)] at d
        rw [b1_0] at e
        exact sg_X5_set_99 (big d true (by rw [eq_true_of_ne_false e]; simp))
      · rw [ew, ei, nI_leI (by omega) (by omega)] at d
        rw [b1_0] at e
        rw [bit_i v hi, b1_1] at g
        exact big d false (by rw [e]; simp [g])
      · rw [ew, ei, nI_leI (by omega) (by omega)] at d
        rw [b1_0] at e
        rw [bit_i v hi, b1_1] at g
        exact sg_X5_set_99 (big d true (by rw [g]; simp))
      · rw [ej']; exact vp_in_nI (by omega) (by decide)
      · rw [ew, ei, nI_leI (by omega) (by omega)] at d
        rw [ej', nI_clamp (by omega), bit_i v hi, nar_b]
        refine sg_X5_set_106 ?_
        rw [nI_1]
        refine ih _ _ ⟨fr_trans f (fr_uf _ _ (by decide)), fun t ht => ?_, fun k hk => ?_, ?_⟩
        · rw [sf_self, pk_un (by omega)]; exact q1 t ht
        · rw [sf_self]
          by_cases e : k = i
          · rw [e, pk_us, if_pos ⟨by omega, by omega⟩]
          · rw [pk_un (by omega), q2 k hk]
            by_cases y : k < i ∧ 64 * m + k < wW A j
            · rw [if_pos y, if_pos ⟨by omega, y.2⟩]
            · rw [if_neg y, if_neg (by omega)]
        · rw [q3]
          constructor
          · rintro ⟨k, a, b, c⟩; exact ⟨k, by omega, b, c⟩
          · rintro ⟨k, a, b, c⟩
            exact ⟨k, by omega, b, c⟩
    · intro s c hI
      obtain ⟨f, q1, q2, q3⟩ := hI
      have e64 : ¬ ¬ (64 : Int32) ≤ nI 64 := fun c => c (by decide)
      refine sg_X5_set_32 (fun _ => b1_b c) (fun _ => ⟨_, rfl, ?_⟩) (fun c => absurd c e64) (fun c => absurd c e64) (fun c => absurd c e64) (fun c => absurd c e64) (fun c => absurd c e64) (fun c => absurd c e64)
      rw [o_set, if_pos z, ej, em]
      refine ⟨by rw [f.1 14 (by decide)]; exact s2, fun _ => ?_, ?_, fr_trans f2 (fr_mono f (by decide) (by decide) (by decide) (by decide))⟩
      · show b1_ c = b1_ (decide _)
        rw [b1_inj]
        have hiff : (∃ k, k < 64 ∧ wW A j ≤ 64 * m + k ∧ (un_ v).testBit k = true) ↔ 2 ^ (wW A j - 64 * m) ≤ un_ v := by
          constructor
          · rintro ⟨k, a, b, c⟩
            exact Nat.le_trans (Nat.pow_le_pow_right (by decide) (by omega)) (Nat.ge_two_pow_of_testBit c)
          · intro y
            apply Classical.byContradiction
            intro q
            have : un_ v < 2 ^ (wW A j - 64 * m) := by
              apply Nat.lt_pow_two_of_testBit
              intro k hk
              by_cases c64 : k < 64
              · exact eq_false_of_ne_true (fun y => q ⟨k, c64, by omega, y⟩)
              · exact Nat.testBit_lt_two_pow (Nat.lt_of_lt_of_le (un_lt v) (Nat.pow_le_pow_right (by decide) (by omega)))
            omega
        rw [hiff] at q3
        by_cases y : 2 ^ (wW A j - 64 * m) ≤ un_ v
        · rw [q3.mpr y, decide_eq_true y]
        · rw [decide_eq_false y]
          exact eq_false_of_ne_true (fun e => y (q3.mp e))
      · obtain ⟨a0, a1, a2, a3, a4, a5⟩ := h2
        refine ⟨wo_s a0 (bo_lt _ _), ?_, ?_, fun i hi' => ⟨?_, ?_⟩, ?_, ?_⟩
        · rw [f.1 15 (by decide)]; exact a1
        · rw [f.1 16 (by decide)]; exact a2
        · rw [f.2.2.1 18 (by decide)]; exact (a3 i hi').1
        · show br_ (fun k => sf_ s 19 (512 * i + k)) 512 (if i = j then sl_ (wW A j) (wV A j) m (un_ v) else wV A i)
          by_cases e : i = j
          · rw [if_pos e, e]
            intro k hk
            show sf_ s 19 (512 * j + k) = _
            rw [sl_, bo_bit]
            by_cases km : k / 64 = m
            · rw [if_pos km]
              have := q2 (k % 64) (by omega)
              rw [show 512 * j + 64 * m + k % 64 = 512 * j + k by omega, show 64 * m + k % 64 = k by omega] at this
              rw [this]
              by_cases kw : k < wW A j
              · rw [if_pos ⟨by omega, kw⟩]; simp [kw]
              · have a3k : sf_ σ2 19 (512 * j + k) = _ := (a3 j hj).2 k hk
                rw [if_neg (fun y => kw y.2), a3k, Nat.testBit_lt_two_pow (Nat.lt_of_lt_of_le hw.2.2 (Nat.pow_le_pow_right (by decide) (by omega)))]
                simp [kw]
            · have a3k : sf_ σ2 19 (512 * j + k) = _ := (a3 j hj).2 k hk
              rw [if_neg km, q1 _ (by omega), a3k]
              by_cases kw : k < wW A j
              · simp [kw]
              · rw [Nat.testBit_lt_two_pow (Nat.lt_of_lt_of_le hw.2.2 (Nat.pow_le_pow_right (by decide) (by omega)))]; simp
          · rw [if_neg e]
            exact br_congr (a3 i hi').2 (fun k hk => q1 _ (by omega))
        · rw [f.2.2.1 20 (by decide)]; exact a4
        · rw [f.1 17 (by decide)]; exact a5
    · refine ⟨fr_refl _, fun _ _ => rfl, fun k hk => ?_, ?_⟩
      · rw [if_neg (by omega)]
      · constructor
        · intro c; exact absurd c (by decide)
        · rintro ⟨k, a, -⟩; exact absurd a (Nat.not_lt_zero k)
  · rw [decide_eq_false z]
    refine sg_X5_set_7 (fun c => absurd rfl c) (fun _ => ?_)
    refine sg_X5_set_15 (cs_X5_set_18 (m_throwing true false false false) (fun r σ2 hr => ?_))
    obtain ⟨rfl, rfl⟩ := hr
    refine sg_X5_set_21 (fun c => absurd c (by decide)) (fun _ => ⟨_, rfl, ?_⟩)
    rw [o_set, if_neg z]
    exact ⟨s14, fun c => absurd c (Nat.succ_ne_zero _), MI_14 h, fm_14⟩
theorem no600 (h : MI_ A σ) (hn : wN A < 600) : ¬ si_ σ 16 = 600 := by
  rw [h.2.2.1, show (600 : Int32) = nI 600 from rfl, nI_eq (by omega) (by decide)]; omega
theorem m_field {x f t : Int32} (h : MI_ A σ) (hn : wN A < 600) : ks_M L xs mX5_field rm_X5_field [.ref 17, .int x, .int f, .int t] σ (pm_ (o_field A x f t) σ) := by
  refine ks_body (by decide) (Nat.le_of_ble_eq_true rfl) ?_
  refine sg_X5_field_0 (cs_X5_field_2 (m_isWord h) (fun r σ1 hr => ?_))
  obtain ⟨rfl, rfl⟩ := hr
  have thr : ∀ p q : Bool, ks_W L xs mX5_field rm_X5_field 66 [(0, .ref 17), (1, .int x), (2, .int f), (3, .int t)] [.int (b1_ (decide (cd_ p q false false ≠ 0)))] (ui_ σ1 14 (nI (cd_ p q false false))) 0 0 (pm_ (o_field A x f t) σ1) → ks_W L xs mX5_field rm_X5_field 47 [(0, .ref 17), (1, .int x), (2, .int f), (3, .int t)] [.int (b1_ q), .int (b1_ p), .ref 17] σ1 0 0 (pm_ (o_field A x f t) σ1) := by
    intro p q K
    refine sg_X5_field_47 (fun _ => ?_) (fun c => absurd c (no600 h hn))
    refine sg_X5_field_62 (cs_X5_field_63 (m_throwing p q false false) (fun r σ2 hr => ?_))
    obtain ⟨rfl, rfl⟩ := hr
    exact K
  have out : ∀ p q : Bool, cd_ p q false false ≠ 0 → o_field A x f t = (cd_ p q false false, 0, A) → ks_W L xs mX5_field rm_X5_field 47 [(0, .ref 17), (1, .int x), (2, .int f), (3, .int t)] [.int (b1_ q), .int (b1_ p), .ref 17] σ1 0 0 (pm_ (o_field A x f t) σ1) := by
    intro p q c eo
    refine thr p q ?_
    rw [decide_eq_true c]
    refine sg_X5_field_66 (fun c => absurd c (by decide)) (fun _ => ⟨_, rfl, ?_⟩)
    rw [eo]
    exact ⟨s14, fun d => absurd d c, MI_14 h, fm_14⟩
  by_cases z : ow_ A x
  · rw [decide_eq_true z]
    obtain ⟨j, hj, rfl, ej⟩ := ow_ix h.1 z
    have hw := MI_w h hj
    have ew := MI_sf h hj
    have bad : (f < 0 ∨ nI (wW A j) ≤ t ∨ ¬ f ≤ t) → o_field A (nI j) f t = (2, 0, A) := fun q => by rw [o_field, if_pos z, ej, if_pos q]
    refine sg_X5_field_5 (fun _ => ?_) (fun c => absurd c (by decide))
    refine sg_X5_field_13 (fun c => absurd rfl c) (fun _ c => sg_X5_field_42 (out false true (by decide) (bad (Or.inl c)))) (fun _ _ => MI_in h hj) (fun _ c d => sg_X5_field_42 (out false true (by decide) (bad (Or.inr (Or.inl (ew ▸ d)))))) (fun _ c d e => ?_) (fun _ c d e => sg_X5_field_42 (out false true (by decide) (bad (Or.inr (Or.inr e)))))
    refine sg_X5_field_46 (thr false false ?_)
    refine sg_X5_field_66 (fun _ => ?_) (fun c => absurd rfl c)
    rw [ew] at d
    have ho : o_field A (nI j) f t = (0, nI (wN A), wp_ A (t.toNatClampNeg - f.toNatClampNeg + 1) (wV A j / 2 ^ f.toNatClampNeg % 2 ^ (t.toNatClampNeg - f.toNatClampNeg + 1))) := by
      rw [o_field, if_pos z, ej, if_neg (by intro q; rcases q with q | q | q; exact c q; exact d q; exact q e)]
    clear thr out bad
    obtain ⟨p, hp, rfl⟩ := nI_of c
    have ht0 : ¬ t < 0 := fun z => by
      have h1 := Int32.le_iff_toInt_le.mp e
      have h2 := Int32.lt_iff_toInt_lt.mp z
      rw [nI_toInt hp] at h1
      rw [Int32.toInt_zero] at h2
      omega
    obtain ⟨q, hq, rfl⟩ := nI_of ht0
    rw [nI_leI (by omega) hq] at d
    rw [nI_leI hp hq] at e
    rw [nI_clamp hp, nI_clamp hq] at ho
    have h2 : MI_ A (ui_ σ1 14 (nI (cd_ false false false false))) := MI_14 h
    have s2 : si_ (ui_ σ1 14 (nI (cd_ false false false false))) 14 = 0 := s14
    have f2 : fm_ σ1 (ui_ σ1 14 (nI (cd_ false false false false))) := fm_14
    generalize ui_ σ1 14 (nI (cd_ false false false false)) = σ2 at h2 s2 f2 ⊢
    refine lp_ (q - p + 1) (fun i (s : ks_St) => ks_W L xs mX5_field rm_X5_field 74 [(0, .ref 17), (1, .int (nI j)), (2, .int (nI p)), (3, .int (nI q)), (5, .int (nI (p + i)))] [] s 0 0 (pm_ (o_field A (nI j) (nI p) (nI q)) σ1))
      (fun i s => fr_ [] [] [23] [] σ2 s ∧ ∀ k, k < i → sf_ s 23 k = b1_ ((wV A j).testBit (p + k))) ?_ ?_ 0 σ2 (Nat.zero_le _) ⟨fr_refl _, fun k hk => absurd hk (Nat.not_lt_zero k)⟩
    · intro i s hi hI ih
      obtain ⟨fs, q1⟩ := hI
      refine sg_X5_field_74 (fun c => ?_) (fun _ => ?_)
      · rw [nI_ltI hq (by omega)] at c; omega
      · refine cs_X5_field_92 (m_bitOf (MI_fr h2 fs (by decide) (by decide)) hj (by omega)) (fun r σ3 hr => ?_)
        obtain ⟨rfl, rfl⟩ := hr
        rw [pk_sub (Nat.le_add_right p i), Nat.add_sub_cancel_left]
        refine sg_X5_field_95 (vp_in_nI (by omega) (by decide)) ?_
        rw [nI_1, nI_clamp (by omega)]
        refine ih _ ⟨fr_trans fs (fr_uf _ _ (by decide)), fun k hk => ?_⟩
        rw [sf_self]
        by_cases e : k = i
        · rw [e, pk_us]
        · rw [pk_un e]; exact q1 k (by omega)
    · intro s hI
      obtain ⟨fs, q1⟩ := hI
      refine sg_X5_field_74 (fun _ => ?_) (fun c => ?_)
      · rw [pk_sub e, nI_1]
        refine cs_X5_field_109 (m_keep (p := 0) (X := wV A j / 2 ^ p % 2 ^ (q - p + 1)) (MI_fr h2 fs (by decide) (by decide)) hn (by omega) (by omega) (by omega) (fun k hk => ?_) (Nat.mod_lt _ (Nat.two_pow_pos _))) (fun r σ3 hr => ?_)
        · show sf_ s 23 (0 + k) = _
          rw [Nat.zero_add, q1 k hk, Nat.testBit_mod_two_pow, Nat.testBit_div_two_pow, Nat.add_comm]; simp [hk]
        · obtain ⟨rfl, h3, f3⟩ := hr
          refine sg_X5_field_112 ⟨_, rfl, ?_⟩
          rw [ho]
          exact ⟨by rw [f3.1 14 (by decide), fs.1 14 (by decide)]; exact s2, fun _ => rfl, h3, fr_trans f2 (fr_trans (fr_mono fs (by decide) (by decide) (by decide) (by decide)) (fr_mono f3 (by decide) (by decide) (by decide) (by decide)))⟩
      · exact absurd (nI_lt (by omega) (by omega)) c
  · rw [decide_eq_false z]
    refine sg_X5_field_5 (fun c => absurd rfl c) (fun _ => ?_)
    exact sg_X5_field_13 (fun _ => sg_X5_field_46 (out true false (by decide) (by rw [o_field, if_neg z]; rfl))) (fun c => absurd c (by decide)) (fun c => absurd c (by decide)) (fun c => absurd c (by decide)) (fun c => absurd c (by decide)) (fun c => absurd c (by decide))
theorem m_extend {x b t : Int32} (h : MI_ A σ) (hn : wN A < 600) : ks_M L xs mX5_extend rm_X5_extend [.ref 17, .int x, .int b, .int t] σ (pm_ (o_extend A x b t) σ) := by
  refine ks_body (by decide) (Nat.le_of_ble_eq_true rfl) ?_
  refine sg_X5_extend_0 (cs_X5_extend_2 (m_isWord h) (fun r σ1 hr => ?_))
  obtain ⟨rfl, rfl⟩ := hr
  have thr : ∀ p q : Bool, ks_W L xs mX5_extend rm_X5_extend 64 [(0, .ref 17), (1, .int x), (2, .int b), (3, .int t)] [.int (b1_ (decide (cd_ p q false false ≠ 0)))] (ui_ σ1 14 (nI (cd_ p q false false))) 0 0 (pm_ (o_extend A x b t) σ1) → ks_W L xs mX5_extend rm_X5_extend 45 [(0, .ref 17), (1, .int x), (2, .int b), (3, .int t)] [.int (b1_ q), .int (b1_ p), .ref 17] σ1 0 0 (pm_ (o_extend A x b t) σ1) := by
    intro p q K
    refine sg_X5_extend_45 (fun _ => ?_) (fun c => absurd c (no600 h hn))
    refine sg_X5_extend_60 (cs_X5_extend_61 (m_throwing p q false false) (fun r σ2 hr => ?_))
    obtain ⟨rfl, rfl⟩ := hr
    exact K
  have out : ∀ p q : Bool, cd_ p q false false ≠ 0 → o_extend A x b t = (cd_ p q false false, 0, A) → ks_W L xs mX5_extend rm_X5_extend 45 [(0, .ref 17), (1, .int x), (2, .int b), (3, .int t)] [.int (b1_ q), .int (b1_ p), .ref 17] σ1 0 0 (pm_ (o_extend A x b t) σ1) := by
    intro p q c eo
    refine thr p q ?_
    rw [decide_eq_true c]
    refine sg_X5_extend_64 (fun c => absurd c (by decide)) (fun c => absurd c (by decide)) (fun c => absurd c (by decide)) (fun _ => ⟨_, rfl, ?_⟩)
    rw [eo]
    exact ⟨s14, fun d => absurd d c, MI_14 h, fm_14⟩
  by_cases z : ow_ A x
  · rw [decide_eq_true z]
    obtain ⟨j, hj, rfl, ej⟩ := ow_ix h.1 z
    have hw := MI_w h hj
    have ew := MI_sf h hj
    have bad : (b < nI (wW A j) ∨ ¬ b ≤ 512) → o_extend A (nI j) b t = (2, 0, A) := fun q => by rw [o_extend, if_pos z, ej, if_pos q]
    refine sg_X5_extend_5 (fun _ => ?_) (fun c => absurd c (by decide))
    refine sg_X5_extend_13 (fun c => absurd rfl c) (fun _ => MI_in h hj) (fun _ c => sg_X5_extend_40 (out false true (by decide) (bad (Or.inl (ew ▸ c))))) (fun _ c d => ?_) (fun _ c d => sg_X5_extend_40 (out false true (by decide) (bad (Or.inr d))))
    refine sg_X5_extend_44 (thr false false ?_)
    rw [ew] at c
    have ho : o_extend A (nI j) b t = (0, nI (wN A), wp_ A b.toNatClampNeg (if t ≠ 0 ∧ ng_ (wW A j) (wV A j) = true then wV A j ||| (2 ^ b.toNatClampNeg - 2 ^ wW A j) else wV A j)) := by
      rw [o_extend, if_pos z, ej, if_neg (by intro q; rcases q with q | q; exact c q; exact q d)]
    clear thr out bad
    have hb0 : ¬ b < 0 := fun z => by
      have h1 := Int32.not_lt.mp c
      rw [Int32.le_iff_toInt_le, nI_toInt (by omega)] at h1
      rw [Int32.lt_iff_toInt_lt, Int32.toInt_zero] at z
      omega
    obtain ⟨q, hq, rfl⟩ := nI_of hb0
    rw [nI_ltI hq (by omega)] at c
    rw [show (512 : Int32) = nI 512 from rfl, nI_leI hq (by decide)] at d
    rw [nI_clamp hq] at ho
    have h2 : MI_ A (ui_ σ1 14 (nI (cd_ false false false false))) := MI_14 h
    have s2 : si_ (ui_ σ1 14 (nI (cd_ false false false false))) 14 = 0 := s14
    have f2 : fm_ σ1 (ui_ σ1 14 (nI (cd_ false false false false))) := fm_14
    have ewt := MI_sf h2 hj
    generalize ui_ σ1 14 (nI (cd_ false false false false)) = σ2 at h2 s2 f2 ewt ⊢
    have go : ∀ hb : Bool, (hb = true ↔ t ≠ 0 ∧ ng_ (wW A j) (wV A j) = true) → ks_W L xs mX5_extend rm_X5_extend 90 [(0, .ref 17), (1, .int (nI j)), (2, .int (nI q))] [.int (b1_ hb)] σ2 0 0 (pm_ (o_extend A (nI j) (nI q) t) σ1) := by
      intro hb hhb
      refine sg_X5_extend_90 ?_
      refine lp_ q (fun i (s : ks_St) => ks_W L xs mX5_extend rm_X5_extend 95 [(0, .ref 17), (1, .int (nI j)), (2, .int (nI q)), (5, .int (b1_ hb)), (6, .int (nI i))] [] s 0 0 (pm_ (o_extend A (nI j) (nI q) t) σ1))
        (fun i s => fr_ [] [] [23] [] σ2 s ∧ ∀ k, k < i → sf_ s 23 k = b1_ (if k < wW A j then (wV A j).testBit k else hb)) ?_ ?_ 0 σ2 (Nat.zero_le _) ⟨fr_refl _, fun k hk => absurd hk (Nat.not_lt_zero k)⟩
      · intro i s hi hI ih
        obtain ⟨fs, q1⟩ := hI
        have h3 : MI_ A s := MI_fr h2 fs (by decide) (by decide)
        have put : ∀ y, y = b1_ (if i < wW A j then (wV A j).testBit i else hb) → ks_W L xs mX5_extend rm_X5_extend 130 [(0, .ref 17), (1, .int (nI j)), (2, .int (nI q)), (5, .int (b1_ hb)), (6, .int (nI i))] [.int y, .int (nI i), .ref 23] s 0 0 (pm_ (o_extend A (nI j) (nI q) t) σ1) := by
          intro y hy
          refine sg_X5_extend_130 (vp_in_nI (by omega) (by decide)) ?_
          rw [nI_1, nI_clamp (by omega)]
          refine ih _ ⟨fr_trans fs (fr_uf _ _ (by decide)), fun k hk => ?_⟩
          rw [sf_self]
          by_cases e : k = i
          · rw [e, pk_us, hy]
          · rw [pk_un e]; exact q1 k (by omega)
        refine sg_X5_extend_95 (fun c => absurd c (nI_ge hi (by omega))) (fun _ => MI_in h hj) (fun _ e => ?_) (fun _ e => ?_)
        · rw [MI_sf h3 hj, nI_leI (by omega) (by omega)] at e
          exact put _ (by rw [if_neg (by omega)])
        · rw [MI_sf h3 hj, nI_leI (by omega) (by omega)] at e
          refine cs_X5_extend_122 (m_bitOf h3 hj (by omega)) (fun r σ3 hr => ?_)
          obtain ⟨rfl, rfl⟩ := hr
          exact sg_X5_extend_125 (put _ (by rw [if_pos (by omega)]))
      · intro s hI
        obtain ⟨fs, q1⟩ := hI
        have hqq : nI q ≤ nI q := nI_le (Nat.le_refl q) hq
        have hV : wV A j < 2 ^ q := Nat.lt_of_lt_of_le hw.2.2 (Nat.pow_le_pow_right (by decide) (by omega))
        have hX : (if t ≠ 0 ∧ ng_ (wW A j) (wV A j) = true then wV A j ||| (2 ^ q - 2 ^ wW A j) else wV A j) < 2 ^ q := by
          have := Nat.two_pow_pos (wW A j)
          split
          · exact Nat.or_lt_two_pow hV (by omega)
          · exact hV
        refine sg_X5_extend_95 (fun _ => ?_) (fun c => absurd hqq c) (fun c => absurd hqq c) (fun c => absurd hqq c)
        refine cs_X5_extend_140 (m_keep (p := 0) (MI_fr h2 fs (by decide) (by decide)) hn (by omega) d (by omega) (fun k hk => ?_) hX) (fun r σ3 hr => ?_)
        · show sf_ s 23 (0 + k) = _
          rw [Nat.zero_add, q1 k hk, b1_inj]
          by_cases y : t ≠ 0 ∧ ng_ (wW A j) (wV A j) = true
          · rw [if_pos y, hhb.mpr y, Nat.testBit_or]
            have e2 := tb_sub (q := q) (a := wW A j) (k := k) (by omega)
            rw [e2]
            by_cases cw : k < wW A j
            · rw [if_pos cw]; simp [show ¬ wW A j ≤ k by omega]
            · rw [if_neg cw]; simp [hk, show wW A j ≤ k by omega]
          · rw [if_neg y]
            have hbf : hb = false := eq_false_of_ne_true (fun e => y (hhb.mp e))
            by_cases cw : k < wW A j
            · rw [if_pos cw]
            · rw [if_neg cw, hbf, Nat.testBit_lt_two_pow (Nat.lt_of_lt_of_le hw.2.2 (Nat.pow_le_pow_right (by decide) (by omega)))]
        · obtain ⟨rfl, h3, f3⟩ := hr
          refine sg_X5_extend_143 ⟨_, rfl, ?_⟩
          rw [ho]
          exact ⟨by rw [f3.1 14 (by decide), fs.1 14 (by decide)]; exact s2, fun _ => rfl, h3, fr_trans f2 (fr_trans (fr_mono fs (by decide) (by decide) (by decide) (by decide)) (fr_mono f3 (by decide) (by decide) (by decide) (by decide)))⟩
    refine sg_X5_extend_64 (fun _ c0 => go false ?_) (fun _ _ => MI_in h hj) (fun _ c0 => ?_) (fun c => absurd rfl c)
    · constructor
      · intro c; exact absurd c (by decide)
      · intro c; exact absurd c0 c.1
    · rw [ewt, show nI (wW A j) - 1 = nI (wW A j - 1) from pk_sub (b := 1) hw.1]
      refine cs_X5_extend_83 (m_bitOf h2 hj (by omega)) (fun r σ3 hr => ?_)
      obtain ⟨rfl, rfl⟩ := hr
      exact sg_X5_extend_86 (go _ ⟨fun y => ⟨c0, y⟩, fun y => y.2⟩)
  · rw [decide_eq_false z]
    refine sg_X5_extend_5 (fun c => absurd rfl c) (fun _ => ?_)
    exact sg_X5_extend_13 (fun _ => sg_X5_extend_44 (out true false (by decide) (by rw [o_extend, if_neg z]; rfl))) (fun c => absurd c (by decide)) (fun c => absurd c (by decide)) (fun c => absurd c (by decide)) (fun c => absurd c (by decide))
end
end
