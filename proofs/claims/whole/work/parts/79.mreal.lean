section
/-! ===== numbers with a point in the reference: quotient, sum ===== -/
section
variable {L : Nat} {xs : Nat → Int32} {σ : ks_St} {A : wa_} {f e y X T : Nat}
theorem m_quotient (hf : fmt_ f e) (hy : y ≤ 4) (hX : TK_ f e 0 X σ) (hT : TK_ f e 1 T σ) (nX : ¬ no_ f e X) (nT : ¬ no_ f e T) (h7 : si_ σ 17 = 0) : ks_M L xs mX5_quotient rm_X5_quotient [.ref 17, .int (nI (f + e + 1)), .int (nI y)] σ (pl_ fun r σ' => r = lN (if nf_ f e X ∨ nf_ f e T ∨ dW f e T = 0 then wn_ f e 3 X T else rr_ f e y (dS f e X != dS f e T) (qM f e X T) (qK f e X T)).1 ∧ si_ σ' 17 = nI (if nf_ f e X ∨ nf_ f e T ∨ dW f e T = 0 then wn_ f e 3 X T else rr_ f e y (dS f e X != dS f e T) (qM f e X T) (qK f e X T)).2 ∧ fr_ [17] [] [] [] σ σ') := by
  refine ks_body (by decide) (Nat.le_of_ble_eq_true rfl) ?_
  have hb := fmt_b hf
  have w1 := dW_24 hf X
  have w2 := dW_24 hf T
  have p1 := dP_b hf X
  have p2 := dP_b hf T
  have a25 : sf_ σ 25 (0 : Int32).toNatClampNeg = nI (kd_ f e X) := hX.1
  have a26 : sf_ σ 26 (0 : Int32).toNatClampNeg = b1_ (dS f e X) := hX.2.1
  have a27 : sf_ σ 27 (0 : Int32).toNatClampNeg = pw_ (dP f e X) := hX.2.2.1
  have a28 : sg_ σ 28 (0 : Int32).toNatClampNeg = lN (dW f e X) := hX.2.2.2
  have b25 : sf_ σ 25 (1 : Int32).toNatClampNeg = nI (kd_ f e T) := hT.1
  have b26 : sf_ σ 26 (1 : Int32).toNatClampNeg = b1_ (dS f e T) := hT.2.1
  have b27 : sf_ σ 27 (1 : Int32).toNatClampNeg = pw_ (dP f e T) := hT.2.2.1
  have b28 : sg_ σ 28 (1 : Int32).toNatClampNeg = lN (dW f e T) := hT.2.2.2
  have kX := kd_le f e X
  have kT := kd_le f e T
  have qX0 : sf_ σ 25 (0 : Int32).toNatClampNeg = 0 ↔ kd_ f e X = 0 := by rw [a25]; exact nI_eq (b := 0) (by omega) (by decide)
  have qT0 : sf_ σ 25 (1 : Int32).toNatClampNeg = 0 ↔ kd_ f e T = 0 := by rw [b25]; exact nI_eq (b := 0) (by omega) (by decide)
  have qX1 : sf_ σ 25 (0 : Int32).toNatClampNeg = 1 ↔ nf_ f e X := by rw [a25, ← kd_1]; exact nI_eq (b := 1) (by omega) (by decide)
  have qT1 : sf_ σ 25 (1 : Int32).toNatClampNeg = 1 ↔ nf_ f e T := by rw [b25, ← kd_1]; exact nI_eq (b := 1) (by omega) (by decide)
  have zX : lg_cmp (sg_ σ 28 (0 : Int32).toNatClampNeg) 0 = 0 ↔ dW f e X = 0 := by rw [a28, lg_cmp_eq, un_eq0, unl (by omega)]
  have zT : lg_cmp (sg_ σ 28 (1 : Int32).toNatClampNeg) 0 = 0 ↔ dW f e T = 0 := by rw [b28, lg_cmp_eq, un_eq0, unl (by omega)]
  have fin0 : kd_ f e X = 0 ∨ nf_ f e X := by
    have : kd_ f e X ≠ 2 := fun z => nX (kd_2.mp z)
    by_cases c : kd_ f e X = 0
    · exact Or.inl c
    · exact Or.inr (kd_1.mp (by omega))
  have fin1 : kd_ f e T = 0 ∨ nf_ f e T := by
    have : kd_ f e T ≠ 2 := fun z => nT (kd_2.mp z)
    by_cases c : kd_ f e T = 0
    · exact Or.inl c
    · exact Or.inr (kd_1.mp (by omega))
  generalize hv : (if nf_ f e X ∨ nf_ f e T ∨ dW f e T = 0 then wn_ f e 3 X T else rr_ f e y (dS f e X != dS f e T) (qM f e X T) (qK f e X T)) = v
  generalize hQ : (pl_ fun r σ' => r = lN v.1 ∧ si_ σ' 17 = nI v.2 ∧ fr_ [17] [] [] [] σ σ') = Q
  have hwn : wn_ f e 3 X T = if (nf_ f e X ∧ nf_ f e T) ∨ (dW f e X = 0 ∧ dW f e T = 0) then (vN f e, 1) else if nf_ f e T then (2 ^ (f + e) * (dS f e X != dS f e T).toNat, 0) else (vI f e (dS f e X != dS f e T), if nf_ f e X then 0 else 2) := by
    rw [wn_, if_neg (by decide), if_neg (by decide)]
  have esg : sf_ σ 26 (0 : Int32).toNatClampNeg ^^^ sf_ σ 26 (1 : Int32).toNatClampNeg = b1_ (dS f e X != dS f e T) := by
    rw [a26, b26, b1_xor]
  -- not valid
  have at98 : ((nf_ f e X ∧ nf_ f e T) ∨ (dW f e X = 0 ∧ dW f e T = 0)) → ks_W L xs mX5_quotient rm_X5_quotient 98 [(0, .ref 17), (1, .int (nI (f + e + 1)))] [] σ 0 0 Q := by
    intro z
    refine sg_X5_quotient_98 (cs_X5_quotient_100 (m_notValid hf) (fun r σ1 hr => ?_))
    obtain ⟨rfl, rfl⟩ := hr
    refine sg_X5_quotient_103 ?_
    have hz : nf_ f e X ∨ nf_ f e T ∨ dW f e T = 0 := by
      rcases z with z | z
      · exact Or.inl z.1
      · exact Or.inr (Or.inr z.2)
    rw [if_pos hz, hwn, if_pos z] at hv
    rw [← hQ, ← hv]
    exact ⟨_, rfl, rfl, by rw [si_ui, if_pos rfl]; rfl, fr_ui _ _ (by decide)⟩
  have zero : v = (2 ^ (f + e) * (dS f e X != dS f e T).toNat, 0) → ks_W L xs mX5_quotient rm_X5_quotient 135 [(1, .int (nI (f + e + 1))), (3, .int (b1_ (dS f e X != dS f e T)))] [] σ 0 0 Q := by
    intro ev
    refine sg_X5_quotient_135 (cs_X5_quotient_139 (m_packed (E := 0) (F := 0) hf (Nat.two_pow_pos e) (Nat.two_pow_pos f)) (fun r σ1 hr => ?_))
    obtain ⟨rfl, rfl⟩ := hr
    refine sg_X5_quotient_142 ?_
    rw [← hQ, ev]
    exact ⟨_, rfl, by rw [Nat.zero_mul, Nat.zero_add], h7, fr_refl _⟩
  have at104 : ∀ zx zt : Bool, (zx = true ↔ dW f e X = 0) → (zt = true ↔ dW f e T = 0) → ¬ ((nf_ f e X ∧ nf_ f e T) ∨ (dW f e X = 0 ∧ dW f e T = 0)) → ks_W L xs mX5_quotient rm_X5_quotient 104 [(0, .ref 17), (1, .int (nI (f + e + 1))), (2, .int (nI y)), (3, .int (b1_ (dS f e X != dS f e T))), (4, .int (b1_ zx)), (5, .int (b1_ zt))] [] σ 0 0 Q := by
    intro zx zt hzx hzt nv
    rw [if_neg nv] at hwn
    refine sg_X5_quotient_104 (fun c d => ?_) (fun c d g i => ?_) (fun c d g i => ?_) (fun c d g => ?_) (fun c => ?_)
    · -- X is 0
      rw [qX1] at c
      rw [b1_0] at d
      have d' := hzx.mp (eq_true_of_ne_false d)
      refine zero ?_
      by_cases q : nf_ f e T
      · rw [if_pos (Or.inr (Or.inl q)), hwn, if_pos q] at hv
        exact hv.symm
      · have nt : dW f e T ≠ 0 := fun z => nv (Or.inr ⟨d', z⟩)
        rw [if_neg (by rintro (z | z | z); exact c z; exact q z; exact nt z)] at hv
        rw [← hv, rr_, if_pos]
        unfold qM
        rw [d', Nat.zero_mul, Nat.zero_mod, if_pos rfl, Nat.zero_div]
    · -- both finite, neither 0
      rw [qX1] at c
      rw [b1_0] at d i
      rw [qT1] at g
      have nx : dW f e X ≠ 0 := fun z => by rw [hzx.mpr z] at d; exact absurd d (by decide)
      have nt : dW f e T ≠ 0 := fun z => by rw [hzt.mpr z] at i; exact absurd i (by decide)
      rw [if_neg (by rintro (z | z | z); exact c z; exact g z; exact nt z), quo_same hf nx nt] at hv
      have hu := uQ_bd hf nx
      rw [a28]
      refine cs_X5_quotient_167 (m_highest (by omega)) (fun r σ1 hr => ?_)
      obtain ⟨rfl, rfl⟩ := hr
      have hlg : Nat.log2 (dW f e X) ≤ 61 := by
        have : Nat.log2 (dW f e X) < 24 := by rw [Nat.log2_lt nx]; exact w1
        omega
      have eu : (61 : Int32) - nI (Nat.log2 (dW f e X)) = nI (uQ f e X) := by
        rw [show (61 : Int32) = nI 61 from rfl, pk_sub hlg]; rfl
      have hD : (sg_ σ1 28 (0 : Int32).toNatClampNeg) <<< ((nI (uQ f e X)).toInt64 &&& 63) = lN (dW f e X * 2 ^ uQ f e X) := by rw [a28]; exact lN_shl (by omega) (by omega)
      have hN : lN (dW f e X * 2 ^ uQ f e X) / sg_ σ1 28 (1 : Int32).toNatClampNeg = lN (dW f e X * 2 ^ uQ f e X / dW f e T) := by rw [b28]; exact pk_lDiv (by omega) (by omega) (by omega)
      have hq : dW f e X * 2 ^ uQ f e X / dW f e T ≤ dW f e X * 2 ^ uQ f e X := Nat.div_le_self _ _
      have hdm := Nat.div_add_mod (dW f e X * 2 ^ uQ f e X) (dW f e T)
      have hcm : dW f e T * (dW f e X * 2 ^ uQ f e X / dW f e T) = dW f e X * 2 ^ uQ f e X / dW f e T * dW f e T := Nat.mul_comm _ _
      have bqv : bQ f e X T = 2 * (dW f e X * 2 ^ uQ f e X / dW f e T / 4) + (if dW f e X * 2 ^ uQ f e X / dW f e T % 4 = 0 ∧ dW f e X * 2 ^ uQ f e X % dW f e T = 0 then 0 else 1) := rfl
      have kL : lg_cmp (lN (dW f e X * 2 ^ uQ f e X / dW f e T) * sg_ σ1 28 (1 : Int32).toNatClampNeg) (lN (dW f e X * 2 ^ uQ f e X)) = 0 ↔ dW f e X * 2 ^ uQ f e X % dW f e T = 0 := by
        rw [b28, lN_mul, lg_cmp_eq, pk_lEQ (by omega) (by omega)]; omega
      generalize hDv : dW f e X * 2 ^ uQ f e X = D at *
      have k3 : lg_cmp (lN (D / dW f e T) &&& 3) 0 = 0 ↔ D / dW f e T % 4 = 0 := by
        rw [show (3 : Int64) = lN 3 from rfl, lN_and (by omega) (by decide), lg_cmp_eq, un_eq0, unl (Nat.lt_of_le_of_lt Nat.and_le_right (by decide)), show (3 : Nat) = 2 ^ 2 - 1 from rfl, Nat.and_two_pow_sub_one_eq_mod]
      have e4 : (lN (D / dW f e T) >>> ((2 : Int32).toInt64 &&& 63)) <<< ((1 : Int32).toInt64 &&& 63) = lN (2 * (D / dW f e T / 4)) := by
        rw [show (2 : Int32) = nI 2 from rfl, lN_sar (by decide) (by omega), show (1 : Int32) = nI 1 from rfl, lN_shl (by decide) (by omega)]
        congr 1
        omega
      have at250 : ∀ b : Nat, b = (if D / dW f e T % 4 = 0 ∧ D % dW f e T = 0 then 0 else 1) → ks_W L xs mX5_quotient rm_X5_quotient 250 [(0, .ref 17), (2, .int (nI y)), (6, .int (nI (uQ f e X)))] [.long (lN b), .long (lN (2 * (D / dW f e T / 4))), .int (b1_ (dS f e X != dS f e T)), .int (nI (f + e + 1)), .ref 17] σ1 0 0 Q := by
        intro b hbv
        have hb1 : b ≤ 1 := by rw [hbv]; split <;> omega
        rw [← hbv] at bqv
        refine sg_X5_quotient_250 ?_
        have eor : lN (2 * (D / dW f e T / 4)) ||| lN b = lN (bQ f e X T) := by
          rw [bqv]
          rcases (show b = 0 ∨ b = 1 by omega) with z | z
          · rw [z, lN_or (by omega) (by decide), Nat.or_zero, Nat.add_zero]
          · rw [z]
            have := lN_or1 (q := 2 * (D / dW f e T / 4)) (by omega)
            rw [show 2 * (D / dW f e T / 4) % 2 = 0 by omega] at this
            exact this
        have ek : sf_ σ1 27 (0 : Int32).toNatClampNeg - sf_ σ1 27 (1 : Int32).toNatClampNeg - nI (uQ f e X) + 1 = pw_ (bQK f e X T) := by
          rw [a27, b27]
          unfold bQK pw_
          rw [← nI_add, ← pk_sub (show dP f e T ≤ dP f e X + 1000 - uQ f e X by omega), ← pk_sub (show uQ f e X ≤ dP f e X + 1000 by omega), ← nI_add, show (1 : Int32) = nI 1 from rfl]
          grind
        rw [eor, ek]
        have hM0 : bQ f e X T ≠ 0 := by
          have : 2 ^ 30 ≤ D / dW f e T := by
            rw [Nat.le_div_iff_mul_le (by omega)]
            have : 2 ^ 30 * dW f e T ≤ 2 ^ 30 * 2 ^ 24 := Nat.mul_le_mul_left _ (by omega)
            omega
          omega
        refine cs_X5_quotient_270 (m_rounded hf hy hM0 (by omega) (Or.inl (by omega)) (by unfold bQK; omega) (by unfold bQK; omega) h7) (fun r σ2 hr => ?_)
        obtain ⟨rfl, g7, g⟩ := hr
        refine sg_X5_quotient_273 ?_
        rw [← hQ, ← hv]
        exact ⟨_, rfl, rfl, g7, g⟩
      have at218 : ∀ lf : Bool, (lf = true ↔ D % dW f e T ≠ 0) → ks_W L xs mX5_quotient rm_X5_quotient 218 [(0, .ref 17), (1, .int (nI (f + e + 1))), (2, .int (nI y)), (3, .int (b1_ (dS f e X != dS f e T))), (6, .int (nI (uQ f e X))), (7, .long (lN (D / dW f e T)))] [.int (b1_ lf)] σ1 0 0 Q := by
        intro lf hlf
        refine sg_X5_quotient_218 (fun q => ?_) (fun q r => ?_) (fun q r => ?_)
        · rw [k3] at q
          rw [e4]
          exact sg_X5_quotient_245 (at250 1 (by rw [if_neg (fun z => q z.1)]))
        · rw [k3] at q
          rw [b1_0] at r
          rw [e4]
          have : D % dW f e T = 0 := Classical.byContradiction fun z => by rw [hlf.mpr z] at r; exact absurd r (by decide)
          exact at250 0 (by rw [if_pos ⟨q, this⟩])
        · rw [b1_0] at r
          rw [e4]
          have := hlf.mp (eq_true_of_ne_false r)
          exact sg_X5_quotient_245 (at250 1 (by rw [if_neg (fun z => this z.2)]))
      refine sg_X5_quotient_170 (by rw [b28, un_eq0, unl (by omega)]; exact nt) (fun q => ?_) (fun q => ?_)
      · rw [eu, hD, hN] at q ⊢
        rw [kL] at q
        exact at218 false ⟨fun z => absurd z (by decide), fun z => absurd q z⟩
      · rw [eu, hD, hN] at q ⊢
        rw [kL] at q
        exact at218 true ⟨fun _ => q, fun _ => rfl⟩
    · -- a quotient by 0
      rw [qX1] at c
      rw [b1_0] at i
      rw [qT1] at g
      have i' := hzt.mp (eq_true_of_ne_false i)
      rw [if_pos (Or.inr (Or.inr i')), hwn, if_neg g, if_neg c] at hv
      have f2 : fr_ [17] [] [] [] σ (ui_ σ 17 2) := fr_ui _ _ (by decide)
      refine cs_X5_quotient_155 (m_infinite hf) (fun r σ1 hr => ?_)
      obtain ⟨rfl, rfl⟩ := hr
      refine sg_X5_quotient_158 ?_
      rw [← hQ, ← hv]
      exact ⟨_, rfl, rfl, by rw [si_ui, if_pos rfl]; rfl, f2⟩
    · -- by an infinite one
      rw [qX1] at c
      rw [qT1] at g
      refine zero ?_
      rw [if_pos (Or.inr (Or.inl g)), hwn, if_pos g] at hv
      exact hv.symm
    · -- an infinite one
      rw [qX1] at c
      have nt : ¬ nf_ f e T := fun z => nv (Or.inl ⟨c, z⟩)
      rw [if_pos (Or.inl c), hwn, if_neg nt, if_pos c] at hv
      refine cs_X5_quotient_116 (m_infinite hf) (fun r σ1 hr => ?_)
      obtain ⟨rfl, rfl⟩ := hr
      refine sg_X5_quotient_119 ?_
      rw [← hQ, ← hv]
      exact ⟨_, rfl, rfl, h7, fr_refl _⟩
  have at66 : ∀ zx zt : Bool, (zx = true ↔ dW f e X = 0) → (zt = true ↔ dW f e T = 0) → ks_W L xs mX5_quotient rm_X5_quotient 66 [(0, .ref 17), (1, .int (nI (f + e + 1))), (2, .int (nI y)), (3, .int (b1_ (dS f e X != dS f e T))), (4, .int (b1_ zx))] [.int (b1_ zt)] σ 0 0 Q := by
    intro zx zt hzx hzt
    have at78 : ¬ (dW f e X = 0 ∧ dW f e T = 0) → ks_W L xs mX5_quotient rm_X5_quotient 78 [(0, .ref 17), (1, .int (nI (f + e + 1))), (2, .int (nI y)), (3, .int (b1_ (dS f e X != dS f e T))), (4, .int (b1_ zx)), (5, .int (b1_ zt))] [] σ 0 0 Q := by
      intro nz
      refine sg_X5_quotient_78 (fun c => ?_) (fun c d => ?_) (fun c d => ?_)
      · rw [qX1] at c
        exact at104 zx zt hzx hzt (by rintro (z | z); exact c z.1; exact nz z)
      · rw [qT1] at d
        exact at104 zx zt hzx hzt (by rintro (z | z); exact d z.2; exact nz z)
      · exact at98 (Or.inl ⟨qX1.mp c, qT1.mp d⟩)
    refine sg_X5_quotient_66 (fun c => ?_) (fun c d => ?_) (fun c d => ?_)
    · rw [b1_0] at c
      exact at78 (fun z => by rw [hzx.mpr z.1] at c; exact absurd c (by decide))
    · rw [b1_0] at c d
      exact at98 (Or.inr ⟨hzx.mp (eq_true_of_ne_false c), hzt.mp (eq_true_of_ne_false d)⟩)
    · rw [b1_0] at d
      exact at78 (fun z => by rw [hzt.mpr z.2] at d; exact absurd d (by decide))
  have at39 : ∀ zx : Bool, (zx = true ↔ dW f e X = 0) → ks_W L xs mX5_quotient rm_X5_quotient 39 [(0, .ref 17), (1, .int (nI (f + e + 1))), (2, .int (nI y)), (3, .int (b1_ (dS f e X != dS f e T)))] [.int (b1_ zx)] σ 0 0 Q := by
    intro zx hzx
    refine sg_X5_quotient_39 (fun c => ?_) (fun c d => ?_) (fun c d => ?_)
    · rw [qT0] at c
      exact sg_X5_quotient_65 (at66 zx false hzx ⟨fun z => absurd z (by decide), fun z => absurd z (nf_W hf (fin1.resolve_left c))⟩)
    · rw [zT] at d
      exact sg_X5_quotient_65 (at66 zx false hzx ⟨fun z => absurd z (by decide), fun z => absurd z d⟩)
    · rw [zT] at d
      exact at66 zx true hzx ⟨fun _ => d, fun _ => rfl⟩
  refine sg_X5_quotient_0 (fun c => ?_) (fun c d => ?_) (fun c d => ?_)
  · rw [qX0] at c
    rw [esg]
    exact sg_X5_quotient_38 (at39 false ⟨fun z => absurd z (by decide), fun z => absurd z (nf_W hf (fin0.resolve_left c))⟩)
  · rw [zX] at d
    rw [esg]
    exact sg_X5_quotient_38 (at39 false ⟨fun z => absurd z (by decide), fun z => absurd z d⟩)
  · rw [zX] at d
    rw [esg]
    exact at39 true ⟨fun _ => d, fun _ => rfl⟩
end
end
