section
/-! ===== numbers with a point in the reference: take, sum, product, quotient ===== -/
def TK_ (f e ii X : Nat) (σ : ks_St) : Prop := sf_ σ 25 ii = nI (kd_ f e X) ∧ sf_ σ 26 ii = b1_ (dS f e X) ∧ sf_ σ 27 ii = pw_ (dP f e X) ∧ sg_ σ 28 ii = lN (dW f e X)
theorem kd_le (f e X : Nat) : kd_ f e X ≤ 2 := by unfold kd_; split; omega; split <;> omega
theorem kd_1 {f e X : Nat} : kd_ f e X = 1 ↔ nf_ f e X := by
  have := dE_lt f e X
  unfold kd_ nf_
  by_cases c : dE f e X < 2 ^ e - 1
  · rw [if_pos c]
    constructor
    · intro z; exact absurd z (by decide)
    · intro z; omega
  · rw [if_neg c]
    by_cases d : dF f X = 0
    · rw [if_pos d]
      exact ⟨fun _ => ⟨by omega, d⟩, fun _ => rfl⟩
    · rw [if_neg d]
      exact ⟨fun z => absurd z (by decide), fun z => absurd z.2 d⟩
theorem kd_2 {f e X : Nat} : kd_ f e X = 2 ↔ no_ f e X := by
  have := dE_lt f e X
  unfold kd_ no_
  by_cases c : dE f e X < 2 ^ e - 1
  · rw [if_pos c]
    constructor
    · intro z; exact absurd z (by decide)
    · intro z; omega
  · rw [if_neg c]
    by_cases d : dF f X = 0
    · rw [if_pos d]
      exact ⟨fun z => absurd z (by decide), fun z => absurd d z.2⟩
    · rw [if_neg d]
      exact ⟨fun _ => ⟨by omega, d⟩, fun _ => rfl⟩
theorem nf_W {f e X : Nat} (hf : fmt_ f e) (h : nf_ f e X) : dW f e X ≠ 0 := by
  have hb := fmt_b hf
  unfold dW
  rw [if_neg (by have := h.1; omega)]
  have := Nat.two_pow_pos f
  omega
theorem sb_one {X n : Nat} (hX : X < 2 ^ (n + 1)) (hn : n ≤ 31) : (lN X >>> ((nI n).toInt64 &&& 63)).toInt32 &&& 1 = b1_ (X.testBit n) := by
  have h32 : X < 2 ^ 32 := Nat.lt_of_lt_of_le hX (Nat.pow_le_pow_right (by decide) (by omega))
  have hq : X / 2 ^ n ≤ X := Nat.div_le_self _ _
  rw [lN_sar (by omega) (by omega), lN_i, pk_andN (m := 1) (by omega) 1 (by decide), Nat.testBit_eq_decide_div_mod_eq]
  rcases Nat.mod_two_eq_zero_or_one (X / 2 ^ n) with h | h <;> rw [show (2 : Nat) ^ 1 = 2 from rfl, h] <;> rfl
section
variable {L : Nat} {xs : Nat → Int32} {σ : ks_St} {A : wa_} {f e y X T : Nat}
theorem pw_dP (hf : fmt_ f e) {m : Nat} (hm : 1 ≤ m) : nI m - nI (2 ^ (e - 1) - 1) - nI f = pw_ (lq_ f e + m - 1) := by
  have hlb := lq_bias hf
  unfold pw_
  rw [← pk_sub (show 1 ≤ lq_ f e + m by omega), ← nI_add]
  have : nI (2 ^ (e - 1) - 1) + nI (lq_ f e) + nI f = nI 1001 := by rw [nI_add, nI_add, hlb]
  have e1 : nI 1001 = nI 1000 + nI 1 := by rw [nI_add]
  grind
theorem m_take {ii j : Nat} (t : Bool) (hf : fmt_ f e) (h : MI_ A σ) (hj : j < wN A) (hw : wW A j = f + e + 1) (hi : ii < 2) : ks_M L xs mX5_take rm_X5_take [.ref 17, .int (nI ii), .int (nI j), .int (b1_ t)] σ (pv_ fun σ' => (sf_ σ' 25 ii = nI (kd_ f e (wV A j)) ∧ sf_ σ' 26 ii = b1_ (dS f e (wV A j) != t) ∧ sf_ σ' 27 ii = pw_ (dP f e (wV A j)) ∧ sg_ σ' 28 ii = lN (dW f e (wV A j))) ∧ (∀ k, k ≠ ii → sf_ σ' 25 k = sf_ σ 25 k ∧ sf_ σ' 26 k = sf_ σ 26 k ∧ sf_ σ' 27 k = sf_ σ 27 k ∧ sg_ σ' 28 k = sg_ σ 28 k) ∧ fr_ [] [] [25, 26, 27] [28] σ σ') := by
  refine ks_body (by decide) (Nat.le_of_ble_eq_true rfl) ?_
  have hb := fmt_b hf
  have hV : wV A j < 2 ^ (f + e + 1) := by have := (MI_w h hj).2.2; rw [hw] at this; exact this
  have hV32 : wV A j < 2 ^ 32 := Nat.lt_of_lt_of_le hV (Nat.pow_le_pow_right (by decide) (by omega))
  have ew : sf_ σ 18 (nI j).toNatClampNeg = nI (f + e + 1) := by rw [MI_sf h hj, hw]
  refine sg_X5_take_0 (MI_in h hj) ?_
  rw [ew]
  refine cs_X5_take_10 (m_fractionBits hf) (fun r σ1 hr => ?_)
  obtain ⟨rfl, rfl⟩ := hr
  refine sg_X5_take_13 (cs_X5_take_18 (m_exponentBits hf) (fun r σ1 hr => ?_))
  obtain ⟨rfl, rfl⟩ := hr
  refine sg_X5_take_21 ?_
  rw [(pow_sh hf).1]
  generalize hQ : (pv_ fun σ' => (sf_ σ' 25 ii = nI (kd_ f e (wV A j)) ∧ sf_ σ' 26 ii = b1_ (dS f e (wV A j) != t) ∧ sf_ σ' 27 ii = pw_ (dP f e (wV A j)) ∧ sg_ σ' 28 ii = lN (dW f e (wV A j))) ∧ (∀ k, k ≠ ii → sf_ σ' 25 k = sf_ σ1 25 k ∧ sf_ σ' 26 k = sf_ σ1 26 k ∧ sf_ σ' 27 k = sf_ σ1 27 k ∧ sg_ σ' 28 k = sg_ σ1 28 k) ∧ fr_ [] [] [25, 26, 27] [28] σ1 σ') = Q
  have eW := hw
  generalize hX : wV A j = X at *
  have hE := dE_lt f e X
  have hF := dF_lt f X
  have hp23 : 2 ^ f ≤ 2 ^ 23 := Nat.pow_le_pow_right (by decide) (by omega)
  have hii : vp_in (nI ii) 2 := vp_in_nI hi (by decide)
  have eii : (nI ii).toNatClampNeg = ii := nI_clamp (by omega)
  -- from 107: sign, kind, whole, power
  have at107 : ∀ b : Bool, b = t → ks_W L xs mX5_take rm_X5_take 107 [(0, .ref 17), (1, .int (nI ii)), (4, .int (nI (f + e + 1))), (5, .int (nI f)), (6, .int (nI (2 ^ e - 1))), (9, .long (lN (dF f X))), (11, .int (nI (dE f e X)))] [.int (b1_ b), .int (b1_ (dS f e X)), .int (nI ii), .ref 26] σ1 0 0 Q := by
    intro b hbt
    have e1 := eii
    have kT : nI (2 ^ e - 1) ≤ nI (dE f e X) ↔ 2 ^ e - 1 ≤ dE f e X := nI_leI (by omega) (by omega)
    have kF : lg_cmp (lN (dF f X)) 0 = 0 ↔ dF f X = 0 := by rw [lg_cmp_eq, un_eq0, unl (by omega)]
    have k0 : nI (dE f e X) = 0 ↔ dE f e X = 0 := nI_eq (b := 0) (by omega) (by decide)
    have s2 : sf_ (uf_ σ1 26 (upd (sf_ σ1 26) ii (b1_ (dS f e X) ^^^ b1_ b))) 26 = upd (sf_ σ1 26) ii (b1_ (dS f e X != t)) := by
      rw [sf_self, b1_xor, hbt]
    have f2 : fr_ [] [] [25, 26, 27] [28] σ1 (uf_ σ1 26 (upd (sf_ σ1 26) ii (b1_ (dS f e X) ^^^ b1_ b))) := fr_uf _ _ (by decide)
    have g2 : sf_ (uf_ σ1 26 (upd (sf_ σ1 26) ii (b1_ (dS f e X) ^^^ b1_ b))) 25 = sf_ σ1 25 ∧ sf_ (uf_ σ1 26 (upd (sf_ σ1 26) ii (b1_ (dS f e X) ^^^ b1_ b))) 27 = sf_ σ1 27 ∧ sg_ (uf_ σ1 26 (upd (sf_ σ1 26) ii (b1_ (dS f e X) ^^^ b1_ b))) 28 = sg_ σ1 28 := ⟨sf_ne _ _ (by decide), sf_ne _ _ (by decide), rfl⟩
    have at137 : ∀ kk : Nat, kk = kd_ f e X → ks_W L xs mX5_take rm_X5_take 137 [(0, .ref 17), (1, .int (nI ii)), (4, .int (nI (f + e + 1))), (5, .int (nI f)), (9, .long (lN (dF f X))), (11, .int (nI (dE f e X)))] [.int (nI kk), .int (nI ii), .ref 25] (uf_ σ1 26 (upd (sf_ σ1 26) (nI ii).toNatClampNeg (b1_ (dS f e X) ^^^ b1_ b))) 0 0 Q := by
      intro kk hkk
      rw [e1]
      generalize uf_ σ1 26 (upd (sf_ σ1 26) ii (b1_ (dS f e X) ^^^ b1_ b)) = σ2 at s2 f2 g2 ⊢
      have at160 : ks_W L xs mX5_take rm_X5_take 160 [(0, .ref 17), (1, .int (nI ii)), (4, .int (nI (f + e + 1))), (5, .int (nI f)), (11, .int (nI (dE f e X)))] [.long (lN (dW f e X)), .int (nI ii), .ref 28] (uf_ σ2 25 (upd (sf_ σ2 25) (nI ii).toNatClampNeg (nI kk))) 0 0 Q := by
        rw [e1]
        have s3 : sf_ (uf_ σ2 25 (upd (sf_ σ2 25) ii (nI kk))) 25 = upd (sf_ σ1 25) ii (nI (kd_ f e X)) := by rw [sf_self, g2.1, hkk]
        have s3' : sf_ (uf_ σ2 25 (upd (sf_ σ2 25) ii (nI kk))) 26 = upd (sf_ σ1 26) ii (b1_ (dS f e X != t)) := by rw [sf_ne _ _ (by decide)]; exact s2
        have f3 : fr_ [] [] [25, 26, 27] [28] σ1 (uf_ σ2 25 (upd (sf_ σ2 25) ii (nI kk))) := fr_trans f2 (fr_uf _ _ (by decide))
        have g3 : sf_ (uf_ σ2 25 (upd (sf_ σ2 25) ii (nI kk))) 27 = sf_ σ1 27 ∧ sg_ (uf_ σ2 25 (upd (sf_ σ2 25) ii (nI kk))) 28 = sg_ σ1 28 := ⟨by rw [sf_ne _ _ (by decide)]; exact g2.2.1, g2.2.2⟩
        generalize uf_ σ2 25 (upd (sf_ σ2 25) ii (nI kk)) = σ3 at s3 s3' f3 g3 ⊢
        have at177 : ks_W L xs mX5_take rm_X5_take 177 [(4, .int (nI (f + e + 1))), (5, .int (nI f))] [.int (nI (max (dE f e X) 1)), .int (nI ii), .ref 27] (ug_ σ3 28 (vp_updL (sg_ σ3 28) (nI ii).toNatClampNeg (lN (dW f e X)))) 0 0 Q := by
          rw [e1]
          have s4 : sg_ (ug_ σ3 28 (vp_updL (sg_ σ3 28) ii (lN (dW f e X)))) 28 = vp_updL (sg_ σ1 28) ii (lN (dW f e X)) := by rw [sg_self, g3.2]
          have f4 : fr_ [] [] [25, 26, 27] [28] σ1 (ug_ σ3 28 (vp_updL (sg_ σ3 28) ii (lN (dW f e X)))) := fr_trans f3 (fr_ug _ _ (by decide))
          have g4 : sf_ (ug_ σ3 28 (vp_updL (sg_ σ3 28) ii (lN (dW f e X)))) = sf_ σ3 := rfl
          generalize ug_ σ3 28 (vp_updL (sg_ σ3 28) ii (lN (dW f e X))) = σ4 at s4 f4 g4 ⊢
          refine sg_X5_take_177 (cs_X5_take_179 (m_bias hf) (fun r σ5 hr => ?_))
          obtain ⟨rfl, rfl⟩ := hr
          refine sg_X5_take_182 hii ?_
          rw [e1, pw_dP hf (by omega), ← hQ]
          refine ⟨rfl, ⟨?_, ?_, ?_, ?_⟩, fun k hk => ⟨?_, ?_, ?_, ?_⟩, fr_trans f4 (fr_uf _ _ (by decide))⟩
          · rw [sf_ne _ _ (by decide), g4, s3, pk_us]
          · rw [sf_ne _ _ (by decide), g4, s3', pk_us]
          · rw [sf_self, pk_us]; rfl
          · rw [sg_uf, s4, pk_uLs]
          · rw [sf_ne _ _ (by decide), g4, s3, pk_un hk]
          · rw [sf_ne _ _ (by decide), g4, s3', pk_un hk]
          · rw [sf_self, pk_un hk, g4, g3.1]
          · rw [sg_uf, s4, pk_uLn hk]
        refine sg_X5_take_160 hii (fun c => ?_) (fun c => ?_)
        · rw [k0] at c
          rw [show max (dE f e X) 1 = dE f e X by omega] at at177
          exact at177
        · rw [k0] at c
          rw [show max (dE f e X) 1 = 1 by omega] at at177
          exact at177
      refine sg_X5_take_137 hii (fun c => ?_) (fun c => ?_)
      · rw [k0] at c
        rw [lN_one (by omega), lN_add, show 2 ^ f + dF f X = dW f e X by rw [dW, if_neg c, Nat.add_comm]]
        exact at160
      · rw [k0] at c
        rw [show dF f X = dW f e X by rw [dW, if_pos c]]
        exact at160
    refine sg_X5_take_107 hii (fun c d => at137 2 ?_) (fun c d => at137 1 ?_) (fun c => at137 0 ?_)
    · rw [kT] at c
      rw [kF] at d
      rw [kd_, if_neg (by omega), if_neg d]
    · rw [kT] at c
      rw [kF] at d
      rw [kd_, if_neg (by omega), if_pos d]
    · rw [kT] at c
      rw [kd_, if_pos (by omega)]
  refine lp_ (f + e + 1) (fun i (v : Int64) => ks_W L xs mX5_take rm_X5_take 32 [(0, .ref 17), (1, .int (nI ii)), (2, .int (nI j)), (3, .int (b1_ t)), (4, .int (nI (f + e + 1))), (5, .int (nI f)), (6, .int (nI (2 ^ e - 1))), (7, .long v), (9, .int (nI i))] [] σ1 0 0 Q)
    (fun i v => un_ v = X % 2 ^ i) ?_ ?_ 0 0 (Nat.zero_le _) (by rw [un_0, Nat.pow_zero, Nat.mod_one])
  · intro i v hi' hI ih
    have c0 : ¬ nI (f + e + 1) ≤ nI i := nI_ge hi' (by omega)
    refine sg_X5_take_32 (fun c => absurd c c0) (fun c => absurd c c0) (fun _ => ?_)
    refine cs_X5_take_45 (m_bitOf h hj (by omega)) (fun r σ2 hr => ?_)
    obtain ⟨rfl, rfl⟩ := hr
    refine sg_X5_take_48 ?_
    rw [nI_1, hX]
    exact ih _ (un_orsh (by omega) hI rfl)
  · intro v hI
    have cw : nI (f + e + 1) ≤ nI (f + e + 1) := nI_le (Nat.le_refl _) (by omega)
    rw [Nat.mod_eq_of_lt hV] at hI
    have hv : v = lN X := lN_un hI
    subst hv
    have e9 : lN X &&& (((1 : Int64) <<< ((nI f).toInt64 &&& 63)) - 1) = lN (dF f X) := by
      have h0 := Nat.two_pow_pos f
      rw [lN_one (by omega), show lN (2 ^ f) - 1 = lN (2 ^ f - 1) from lN_sub (b := 1) h0, lN_and (by omega) (by omega), Nat.and_two_pow_sub_one_eq_mod]; rfl
    have hq : X / 2 ^ f ≤ X := Nat.div_le_self _ _
    have e11 : (lN X >>> ((nI f).toInt64 &&& 63)).toInt32 &&& nI (2 ^ e - 1) = nI (dE f e X) := by
      rw [lN_sar (by omega) (by omega), lN_i, an_eo hf (by omega)]; rfl
    have es : (lN X >>> ((nI (f + e + 1) - 1).toInt64 &&& 63)).toInt32 &&& 1 = b1_ (dS f e X) := by
      rw [nI_pred]; exact sb_one hV (by omega)
    refine sg_X5_take_32 (fun _ c => ?_) (fun _ c => ?_) (fun c => absurd cw c)
    · rw [e9, e11, es]
      exact at107 false (b1_0.mp c).symm
    · rw [e9, e11, es]
      exact at107 true (eq_true_of_ne_false (fun z => c (b1_0.mpr z))).symm
theorem TK_fr {ii X : Nat} {σ σ' : ks_St} (h : TK_ f e ii X σ) (g : fr_ [17] [] [] [] σ σ') : TK_ f e ii X σ' := by
  unfold TK_ at h ⊢
  rw [g.2.2.1 25 (by decide), g.2.2.1 26 (by decide), g.2.2.1 27 (by decide), g.2.2.2 28 (by decide)]
  exact h
theorem m_product (hf : fmt_ f e) (hy : y ≤ 4) (hX : TK_ f e 0 X σ) (hT : TK_ f e 1 T σ) (nX : ¬ no_ f e X) (nT : ¬ no_ f e T) (h7 : si_ σ 17 = 0) : ks_M L xs mX5_product rm_X5_product [.ref 17, .int (nI (f + e + 1)), .int (nI y)] σ (pl_ fun r σ' => r = lN (if nf_ f e X ∨ nf_ f e T then wn_ f e 2 X T else rr_ f e y (dS f e X != dS f e T) (dW f e X * dW f e T) (dP f e X + dP f e T - 1000)).1 ∧ si_ σ' 17 = nI (if nf_ f e X ∨ nf_ f e T then wn_ f e 2 X T else rr_ f e y (dS f e X != dS f e T) (dW f e X * dW f e T) (dP f e X + dP f e T - 1000)).2 ∧ fr_ [17] [] [] [] σ σ') := by
  refine ks_body (by decide) (Nat.le_of_ble_eq_true rfl) ?_
  have hb := fmt_b hf
  have w1 := dW_24 hf X
  have w2 := dW_24 hf T
  have p1 := dP_b hf X
  have p2 := dP_b hf T
  have a25 : sf_ σ 25 (0 : Int32).toNatClampNeg = nI (kd_ f e X) := hX.1
  have a26 : sf_ σ 26 (0 : Int32).toNatClampNeg = b1_ (dS f e X) := hX.2.1
  have a27 : sf_ σ 27 (0 : Int32).toNatClampNeg = pw_ (dP f e X) := hX.2.2.1
  have a28 : sg_ σ 28 (0 : Int32).toNatClampNeg = lN (dW f e X) := hX.2.2.2
  have b25 : sf_ σ 25 (1 : Int32).toNatClampNeg = nI (kd_ f e T) := hT.1
  have b26 : sf_ σ 26 (1 : Int32).toNatClampNeg = b1_ (dS f e T) := hT.2.1
  have b27 : sf_ σ 27 (1 : Int32).toNatClampNeg = pw_ (dP f e T) := hT.2.2.1
  have b28 : sg_ σ 28 (1 : Int32).toNatClampNeg = lN (dW f e T) := hT.2.2.2
  have kX := kd_le f e X
  have kT := kd_le f e T
  have qX0 : sf_ σ 25 (0 : Int32).toNatClampNeg = 0 ↔ kd_ f e X = 0 := by rw [a25]; exact nI_eq (b := 0) (by omega) (by decide)
  have qT0 : sf_ σ 25 (1 : Int32).toNatClampNeg = 0 ↔ kd_ f e T = 0 := by rw [b25]; exact nI_eq (b := 0) (by omega) (by decide)
  have qX1 : sf_ σ 25 (0 : Int32).toNatClampNeg = 1 ↔ nf_ f e X := by rw [a25, ← kd_1]; exact nI_eq (b := 1) (by omega) (by decide)
  have qT1 : sf_ σ 25 (1 : Int32).toNatClampNeg = 1 ↔ nf_ f e T := by rw [b25, ← kd_1]; exact nI_eq (b := 1) (by omega) (by decide)
  have zX : lg_cmp (sg_ σ 28 (0 : Int32).toNatClampNeg) 0 = 0 ↔ dW f e X = 0 := by rw [a28, lg_cmp_eq, un_eq0, unl (by omega)]
  have zT : lg_cmp (sg_ σ 28 (1 : Int32).toNatClampNeg) 0 = 0 ↔ dW f e T = 0 := by rw [b28, lg_cmp_eq, un_eq0, unl (by omega)]
  have fin0 : kd_ f e X = 0 ∨ nf_ f e X := by
    have : kd_ f e X ≠ 2 := fun z => nX (kd_2.mp z)
    by_cases c : kd_ f e X = 0
    · exact Or.inl c
    · exact Or.inr (kd_1.mp (by omega))
  have fin1 : kd_ f e T = 0 ∨ nf_ f e T := by
    have : kd_ f e T ≠ 2 := fun z => nT (kd_2.mp z)
    by_cases c : kd_ f e T = 0
    · exact Or.inl c
    · exact Or.inr (kd_1.mp (by omega))
  generalize hQ : (pl_ fun r σ' => r = lN (if nf_ f e X ∨ nf_ f e T then wn_ f e 2 X T else rr_ f e y (dS f e X != dS f e T) (dW f e X * dW f e T) (dP f e X + dP f e T - 1000)).1 ∧ si_ σ' 17 = nI (if nf_ f e X ∨ nf_ f e T then wn_ f e 2 X T else rr_ f e y (dS f e X != dS f e T) (dW f e X * dW f e T) (dP f e X + dP f e T - 1000)).2 ∧ fr_ [17] [] [] [] σ σ') = Q
  have at59 : ∀ nz : Bool, (nz = true ↔ dW f e X = 0 ∨ dW f e T = 0) → ks_W L xs mX5_product rm_X5_product 59 [(0, .ref 17), (1, .int (nI (f + e + 1))), (2, .int (nI y)), (3, .int (b1_ (dS f e X != dS f e T)))] [.int (b1_ nz)] σ 0 0 Q := by
    intro nz hnz
    have at81 : (nf_ f e X ∨ nf_ f e T) → ks_W L xs mX5_product rm_X5_product 81 [(0, .ref 17), (1, .int (nI (f + e + 1))), (3, .int (b1_ (dS f e X != dS f e T))), (4, .int (b1_ nz))] [] σ 0 0 Q := by
      intro hi
      have hw : wn_ f e 2 X T = if dW f e X = 0 ∨ dW f e T = 0 then (vN f e, 1) else (vI f e (dS f e X != dS f e T), 0) := by rw [wn_, if_neg (by decide), if_pos rfl]
      refine sg_X5_product_81 (fun c => ?_) (fun c => ?_)
      · rw [b1_0] at c
        have nz' : ¬ (dW f e X = 0 ∨ dW f e T = 0) := fun z => by rw [hnz.mpr z] at c; exact absurd c (by decide)
        refine cs_X5_product_96 (m_infinite hf) (fun r σ1 hr => ?_)
        obtain ⟨rfl, rfl⟩ := hr
        refine sg_X5_product_99 ?_
        rw [← hQ, if_pos hi, hw, if_neg nz']
        exact ⟨_, rfl, rfl, h7, fr_refl _⟩
      · rw [b1_0] at c
        refine cs_X5_product_88 (m_notValid hf) (fun r σ1 hr => ?_)
        obtain ⟨rfl, rfl⟩ := hr
        refine sg_X5_product_91 (sg_X5_product_99 ?_)
        rw [← hQ, if_pos hi, hw, if_pos (hnz.mp (eq_true_of_ne_false c))]
        exact ⟨_, rfl, rfl, by rw [si_ui, if_pos rfl]; rfl, fr_ui _ _ (by decide)⟩
    refine sg_X5_product_59 (fun c => at81 (Or.inl (qX1.mp c))) (fun c d g => ?_) (fun c d g => ?_) (fun c d => at81 (Or.inr (qT1.mp d)))
    · rw [qX1] at c
      rw [qT1] at d
      rw [b1_0] at g
      have nz' : ¬ (dW f e X = 0 ∨ dW f e T = 0) := fun z => by rw [hnz.mpr z] at g; exact absurd g (by decide)
      have hM0 : dW f e X * dW f e T ≠ 0 := fun z => nz' (Nat.mul_eq_zero.mp z)
      have hM : dW f e X * dW f e T ≤ 2 ^ 24 * 2 ^ 24 := Nat.mul_le_mul (by omega) (by omega)
      rw [a27, b27, a28, b28, lN_mul, show pw_ (dP f e X) + pw_ (dP f e T) = pw_ (dP f e X + dP f e T - 1000) by
        unfold pw_
        rw [← pk_sub (show 1000 ≤ dP f e X + dP f e T by omega), ← nI_add]
        grind]
      refine cs_X5_product_145 (m_rounded hf hy hM0 (by omega) (Or.inl (by omega)) (by omega) (by omega) h7) (fun r σ1 hr => ?_)
      obtain ⟨rfl, g7, g⟩ := hr
      refine sg_X5_product_148 ?_
      rw [← hQ, if_neg (fun z => z.elim c d)]
      exact ⟨_, rfl, rfl, g7, g⟩
    · rw [qX1] at c
      rw [qT1] at d
      rw [b1_0] at g
      have nz' := hnz.mp (eq_true_of_ne_false g)
      have hM0 : dW f e X * dW f e T = 0 := Nat.mul_eq_zero.mpr nz'
      refine cs_X5_product_109 (m_packed (E := 0) (F := 0) hf (Nat.two_pow_pos e) (Nat.two_pow_pos f)) (fun r σ1 hr => ?_)
      obtain ⟨rfl, rfl⟩ := hr
      refine sg_X5_product_112 (sg_X5_product_148 ?_)
      rw [← hQ, if_neg (fun z => z.elim c d), rr_, if_pos hM0]
      exact ⟨_, rfl, by rw [Nat.zero_mul, Nat.zero_add], h7, fr_refl _⟩
  have at34 : ¬ (kd_ f e X = 0 ∧ dW f e X = 0) → ks_W L xs mX5_product rm_X5_product 34 [(0, .ref 17), (1, .int (nI (f + e + 1))), (2, .int (nI y)), (3, .int (b1_ (dS f e X != dS f e T)))] [] σ 0 0 Q := by
    intro hx
    have hx' : dW f e X ≠ 0 := fun z => by
      rcases fin0 with q | q
      · exact hx ⟨q, z⟩
      · exact nf_W hf q z
    refine sg_X5_product_34 (fun c => ?_) (fun c d => ?_) (fun c d => ?_)
    · rw [qT0] at c
      refine sg_X5_product_58 (at59 false ⟨fun z => absurd z (by decide), fun z => ?_⟩)
      rcases z with z | z
      · exact absurd z hx'
      · exact absurd z (nf_W hf (fin1.resolve_left c))
    · rw [zT] at d
      refine sg_X5_product_58 (at59 false ⟨fun z => absurd z (by decide), fun z => ?_⟩)
      rcases z with z | z
      · exact absurd z hx'
      · exact absurd z d
    · rw [zT] at d
      exact sg_X5_product_54 (at59 true ⟨fun _ => Or.inr d, fun _ => rfl⟩)
  refine sg_X5_product_0 (fun c => ?_) (fun c d => ?_) (fun c d => ?_)
  · rw [qX0] at c
    rw [a26, b26, b1_xor, show (dS f e X ^^ dS f e T) = (dS f e X != dS f e T) by cases dS f e X <;> cases dS f e T <;> rfl]
    exact at34 (fun z => c z.1)
  · rw [zX] at d
    rw [a26, b26, b1_xor, show (dS f e X ^^ dS f e T) = (dS f e X != dS f e T) by cases dS f e X <;> cases dS f e T <;> rfl]
    exact sg_X5_product_54 (at59 true ⟨fun _ => Or.inl d, fun _ => rfl⟩)
  · rw [zX] at d
    rw [a26, b26, b1_xor, show (dS f e X ^^ dS f e T) = (dS f e X != dS f e T) by cases dS f e X <;> cases dS f e T <;> rfl]
    exact at34 (fun z => d z.2)
end
end
