section
/-! ===== the reference's arithmetic: products, quotients ===== -/
theorem div_up (X n : Nat) : X / 2 ^ n = 2 * (X / 2 ^ (n + 1)) + (X.testBit n).toNat := by
  rw [Nat.testBit_eq_decide_div_mod_eq, Nat.pow_succ, ← Nat.div_div_eq_div_mul]
  rcases Nat.mod_two_eq_zero_or_one (X / 2 ^ n) with y | y <;> simp [y] <;> omega
theorem dq_step {D Y x : Nat} (hY : 0 < Y) (hx : x ≤ 1) : (2 * D + x) / Y = 2 * (D / Y) + (if Y ≤ 2 * (D % Y) + x then 1 else 0) ∧ (2 * D + x) % Y = (if Y ≤ 2 * (D % Y) + x then 2 * (D % Y) + x - Y else 2 * (D % Y) + x) := by
  have h1 := Nat.div_add_mod D Y
  have h2 := Nat.mod_lt D hY
  generalize D / Y = Q at *
  generalize D % Y = R at *
  by_cases c : Y ≤ 2 * R + x
  · simp only [if_pos c]
    have e : 2 * D + x = Y * (2 * Q + 1) + (2 * R + x - Y) := by
      rw [Nat.mul_add, Nat.mul_one, show Y * (2 * Q) = 2 * (Y * Q) by ac_rfl]; omega
    rw [e, Nat.mul_add_div hY, Nat.mul_add_mod, Nat.mod_eq_of_lt (by omega), Nat.div_eq_of_lt (by omega)]
    exact ⟨rfl, rfl⟩
  · simp only [if_neg c]
    have e : 2 * D + x = Y * (2 * Q) + (2 * R + x) := by
      rw [show Y * (2 * Q) = 2 * (Y * Q) by ac_rfl]; omega
    rw [e, Nat.mul_add_div hY, Nat.mul_add_mod, Nat.mod_eq_of_lt (by omega), Nat.div_eq_of_lt (by omega)]
    exact ⟨rfl, rfl⟩
theorem b1_lt : ∀ a b : Bool, b1_ a < b1_ b ↔ a = false ∧ b = true := by decide
section
variable {L : Nat} {xs : Nat → Int32} {σ : ks_St} {A : wa_}
theorem m_multiply {X Y w : Nat} (hw : w ≤ 512) (bX : br_ (sf_ σ 21) 513 X) (bY : br_ (sf_ σ 22) 513 Y) (bO : br_ (sf_ σ 23) 1026 0) (hX : X < 2 ^ w) (hY : Y < 2 ^ w) : ks_M L xs mX5_multiply rm_X5_multiply [.ref 17, .int (nI w)] σ (pv_ fun σ' => br_ (sf_ σ' 23) 1026 (X * Y) ∧ fr_ [] [] [23] [] σ σ') := by
  refine ks_body (by decide) (Nat.le_of_ble_eq_true rfl) ?_
  refine sg_X5_multiply_0 ?_
  refine lp_ w (fun k (s : ks_St) => ks_W L xs mX5_multiply rm_X5_multiply 2 [(0, .ref 17), (1, .int (nI w)), (2, .int (nI k))] [] s 0 0 (pv_ fun σ' => br_ (sf_ σ' 23) 1026 (X * Y) ∧ fr_ [] [] [23] [] σ σ'))
    (fun k s => br_ (sf_ s 23) 1026 (X * (Y % 2 ^ k)) ∧ fr_ [] [] [23] [] σ s) ?_ ?_ 0 σ (Nat.zero_le _) ⟨by rw [Nat.pow_zero, Nat.mod_one, Nat.mul_zero]; exact bO, fr_refl _⟩
  · intro k s hk hI ih
    obtain ⟨bV, fs⟩ := hI
    have gY : sf_ s 22 (nI k).toNatClampNeg = b1_ (Y.testBit k) := by rw [nI_clamp (by omega), fs.2.2.1 22 (by decide)]; exact bY k (by omega)
    have c0 : ¬ nI w ≤ nI k := nI_ge hk (by omega)
    have hm := mod_up Y k
    have eM : X * (Y % 2 ^ (k + 1)) = X * (Y % 2 ^ k) + 2 ^ k * ((Y.testBit k).toNat * X) := by
      rw [hm, Nat.mul_add, Nat.mul_left_comm X, Nat.mul_comm X (Y.testBit k).toNat]
    refine sg_X5_multiply_2 (fun c => absurd c c0) (fun _ => vp_in_nI (by omega) (by decide)) (fun _ q => ?_) (fun _ q => ?_)
    · rw [gY, b1_0] at q
      have q' := eq_true_of_ne_false q
      rw [q'] at eM
      simp only [Bool.toNat_true, Nat.one_mul] at eM
      have hbd : X * (Y % 2 ^ (k + 1)) < 2 ^ 1024 := by
        have h1 : X * (Y % 2 ^ (k + 1)) ≤ X * Y := Nat.mul_le_mul_left _ (Nat.mod_le _ _)
        have h2 : X * Y ≤ X * 2 ^ w := Nat.mul_le_mul_left _ (Nat.le_of_lt hY)
        have h3 : X * 2 ^ w < 2 ^ w * 2 ^ w := Nat.mul_lt_mul_of_pos_right hX (Nat.two_pow_pos w)
        rw [← Nat.pow_add] at h3
        exact Nat.lt_of_le_of_lt (Nat.le_trans h1 h2) (Nat.lt_of_lt_of_le h3 (Nat.pow_le_pow_right (by decide) (by omega)))
      have ih' : ∀ s', br_ (sf_ s' 23) 1026 (X * (Y % 2 ^ k) + 2 ^ k * X) → fr_ [] [] [23] [] σ s' → ks_W L xs mX5_multiply rm_X5_multiply 89 [(0, .ref 17), (1, .int (nI w)), (2, .int (nI k))] [] s' 0 0 (pv_ fun σ' => br_ (sf_ σ' 23) 1026 (X * Y) ∧ fr_ [] [] [23] [] σ σ') := by
        intro s' b f
        refine sg_X5_multiply_89 ?_
        rw [nI_1]
        exact ih _ ⟨by rw [eM]; exact b, f⟩
      rw [eM] at hbd
      clear eM hm ih gY q
      have core : ∀ i (s : ks_St) (c : Bool), k + i ≤ 1026 → (∃ V, br_ (sf_ s 23) 1026 V ∧ V + 2 ^ (k + i) * c.toNat = X * (Y % 2 ^ k) + 2 ^ k * (X % 2 ^ i)) → fr_ [] [] [23] [] σ s →
          (∀ (s' : ks_St) (c' : Bool), k + i < 1026 → (∃ V, br_ (sf_ s' 23) 1026 V ∧ V + 2 ^ (k + (i + 1)) * c'.toNat = X * (Y % 2 ^ k) + 2 ^ k * (X % 2 ^ (i + 1))) → fr_ [] [] [23] [] σ s' → ks_W L xs mX5_multiply rm_X5_multiply 24 [(0, .ref 17), (1, .int (nI w)), (2, .int (nI k)), (3, .int (b1_ c')), (4, .int (nI (i + 1)))] [] s' 0 0 (pv_ fun σ' => br_ (sf_ σ' 23) 1026 (X * Y) ∧ fr_ [] [] [23] [] σ σ')) →
          ks_W L xs mX5_multiply rm_X5_multiply 24 [(0, .ref 17), (1, .int (nI w)), (2, .int (nI k)), (3, .int (b1_ c)), (4, .int (nI i))] [] s 0 0 (pv_ fun σ' => br_ (sf_ σ' 23) 1026 (X * Y) ∧ fr_ [] [] [23] [] σ σ') := by
        intro i s c hki hI fs nx
        obtain ⟨V, bV, eV⟩ := hI
        have big : w ≤ i → X % 2 ^ i = X := fun z => Nat.mod_eq_of_lt (Nat.lt_of_lt_of_le hX (Nat.pow_le_pow_right (by decide) z))
        have body : k + i < 1026 → ks_W L xs mX5_multiply rm_X5_multiply 34 [(0, .ref 17), (1, .int (nI w)), (2, .int (nI k)), (3, .int (b1_ c)), (4, .int (nI i))] [] s 0 0 (pv_ fun σ' => br_ (sf_ σ' 23) 1026 (X * Y) ∧ fr_ [] [] [23] [] σ σ') := by
          intro hlt
          have ei : nI k + nI i = nI (k + i) := nI_add k i
          have gV : sf_ s 23 (nI k + nI i).toNatClampNeg = b1_ (V.testBit (k + i)) := by rw [ei, nI_clamp (by omega)]; exact bV _ hlt
          have hin : vp_in (nI k + nI i) 1026 := by rw [ei]; exact vp_in_nI hlt (by decide)
          have go : ks_W L xs mX5_multiply rm_X5_multiply 60 [(0, .ref 17), (1, .int (nI w)), (2, .int (nI k)), (3, .int (b1_ c)), (4, .int (nI i))] [.int (b1_ (X.testBit i)), .int (b1_ (V.testBit (k + i)))] s 0 0 (pv_ fun σ' => br_ (sf_ σ' 23) 1026 (X * Y) ∧ fr_ [] [] [23] [] σ σ') := by
            refine sg_X5_multiply_60 hin ?_
            rw [(ad3 _ _ _).1, (ad3 _ _ _).2, nI_1, ei, nI_clamp (by omega)]
            refine nx _ _ hlt ⟨_, by rw [sf_self]; exact br_set bV, ?_⟩ (fr_trans fs (fr_uf _ _ (by decide)))
            have hst := st_add (V := V) (m := k + i) (a := X.testBit i) (c := c) rfl rfl
            rw [← Nat.add_assoc, p_succ, Nat.mul_assoc, hst, Nat.mul_add, mod_up X i, Nat.mul_add, ← Nat.mul_assoc, ← Nat.pow_add]
            omega
          refine sg_X5_multiply_34 hin (fun c1 => ?_) (fun c1 => ?_) (fun c1 => ?_)
          · rw [nI_leI (by omega) (by omega)] at c1
            rw [gV]
            have : X.testBit i = false := tb_hi hX c1
            rw [this] at go
            exact go
          · rw [nI_leI (by omega) (by omega)] at c1
            exact vp_in_nI (by omega) (by decide)
          · rw [nI_leI (by omega) (by omega)] at c1
            rw [gV, show sf_ s 21 (nI i).toNatClampNeg = b1_ (X.testBit i) by rw [nI_clamp (by omega), fs.2.2.1 21 (by decide)]; exact bX i (by omega)]
            exact go
        refine sg_X5_multiply_24 (fun c1 => ?_) (fun c1 c2 => ?_) (fun c1 c2 => ?_)
        · rw [nI_ltI (by omega) (by omega)] at c1
          exact body (by omega)
        · rw [nI_ltI (by omega) (by omega)] at c1
          have hc : c = false := by
            cases c
            · rfl
            · exact absurd c2 (by decide)
          rw [hc, big (by omega)] at eV
          simp at eV
          exact ih' _ (by rw [← eV]; exact bV) fs
        · rw [nI_ltI (by omega) (by omega)] at c1
          have hc : c = true := by
            cases c
            · exact absurd (by decide) c2
            · rfl
          rw [hc, big (by omega)] at eV
          simp only [Bool.toNat_true, Nat.mul_one] at eV
          refine body ?_
          rcases Nat.lt_or_ge (k + i) 1026 with z | z
          · exact z
          · have : 2 ^ 1024 ≤ 2 ^ (k + i) := Nat.pow_le_pow_right (by decide) (by omega)
            omega
      have inner : ∀ d i (s : ks_St) (c : Bool), k + i + d = 1026 → (∃ V, br_ (sf_ s 23) 1026 V ∧ V + 2 ^ (k + i) * c.toNat = X * (Y % 2 ^ k) + 2 ^ k * (X % 2 ^ i)) → fr_ [] [] [23] [] σ s → ks_W L xs mX5_multiply rm_X5_multiply 24 [(0, .ref 17), (1, .int (nI w)), (2, .int (nI k)), (3, .int (b1_ c)), (4, .int (nI i))] [] s 0 0 (pv_ fun σ' => br_ (sf_ σ' 23) 1026 (X * Y) ∧ fr_ [] [] [23] [] σ σ') := by
        intro d
        induction d with
        | zero =>
          intro i s c hd hI fs
          exact core i s c (by omega) hI fs (fun s' c' z => absurd z (by omega))
        | succ d ihd =>
          intro i s c hd hI fs
          exact core i s c (by omega) hI fs (fun s' c' _ hI' fs' => ihd (i + 1) s' c' (by omega) hI' fs')
      exact inner (1026 - k) 0 s false (by omega) ⟨_, bV, by simp [Nat.mod_one]⟩ fs
    · rw [gY, b1_0] at q
      rw [q] at eM
      simp only [Bool.toNat_false, Nat.zero_mul, Nat.mul_zero, Nat.add_zero] at eM
      refine sg_X5_multiply_89 ?_
      rw [nI_1]
      exact ih _ ⟨by rw [eM]; exact bV, fs⟩
  · intro s hI
    obtain ⟨bV, fs⟩ := hI
    have cw : nI w ≤ nI w := nI_le (Nat.le_refl w) (by omega)
    rw [Nat.mod_eq_of_lt hY] at bV
    exact sg_X5_multiply_2 (fun _ => ⟨rfl, bV, fs⟩) (fun c => absurd cw c) (fun c => absurd cw c) (fun c => absurd cw c)
/-- the tail of one step of the division: what is left, less the divisor if it goes -/
theorem m_div_tail {Y w n R' O : Nat} {ge : Bool} {Q : ka_O → ks_St → Prop} (hw : w ≤ 512) (hn : n < w) (bY : br_ (sf_ σ 22) 513 Y) (hY : Y < 2 ^ w) (bR : br_ (sf_ σ 24) 514 R') (hR : R' < 2 ^ (w + 1)) (bO : br_ (sf_ σ 23) 1026 O) (hge : ge = decide (Y ≤ R'))
    (K : ∀ s, br_ (sf_ s 24) 514 (if Y ≤ R' then R' - Y else R') → br_ (sf_ s 23) 1026 (sv_ O n ge) → fr_ [] [] [23, 24] [] σ s → ks_W L xs mX5_divide rm_X5_divide 220 [(0, .ref 17), (1, .int (nI w)), (2, .int (nI n))] [] s 0 0 Q) :
    ks_W L xs mX5_divide rm_X5_divide 138 [(0, .ref 17), (1, .int (nI w)), (2, .int (nI n))] [.int (b1_ ge), .int (nI n), .ref 23] σ 0 0 Q := by
  refine sg_X5_divide_138 (vp_in_nI (by omega) (by decide)) ?_
  rw [nI_clamp (show n < 2 ^ 31 by omega)]
  have f1 : fr_ [] [] [23, 24] [] σ (uf_ σ 23 (upd (sf_ σ 23) n (b1_ ge))) := fr_uf _ _ (by decide)
  have bO1 : br_ (sf_ (uf_ σ 23 (upd (sf_ σ 23) n (b1_ ge))) 23) 1026 (sv_ O n ge) := by rw [sf_self]; exact br_set bO
  have bR1 : br_ (sf_ (uf_ σ 23 (upd (sf_ σ 23) n (b1_ ge))) 24) 514 R' := by rw [sf_ne _ _ (by decide)]; exact bR
  generalize uf_ σ 23 (upd (sf_ σ 23) n (b1_ ge)) = σ1 at f1 bO1 bR1 ⊢
  have hin : vp_in (nI n) 1026 := vp_in_nI (by omega) (by decide)
  have gO : ∀ s, fr_ [] [] [24] [] σ1 s → sf_ s 23 (nI n).toNatClampNeg = b1_ ge := fun s f => by
    rw [nI_clamp (by omega), f.2.2.1 23 (by decide), bO1 n (by omega), sv_bit, if_pos rfl]
  cases hg : ge
  · have c1 : ¬ nI w < 0 := nI_pos (by omega)
    have gO0 := gO σ1 (fr_refl _)
    rw [hg] at gO0
    have hlt : ¬ Y ≤ R' := by rw [hg] at hge; exact of_decide_eq_false hge.symm
    have no1' : ¬ sf_ σ1 23 (nI n).toNatClampNeg = 1 := by rw [gO0]; decide
    have K' := K σ1 (by rw [if_neg hlt]; exact bR1) bO1 f1
    exact sg_X5_divide_145 (fun c => absurd c c1) (fun _ => hin) (fun _ _ => K') (fun _ c => absurd c no1') (fun _ c => absurd c no1') (fun _ c => absurd c no1') (fun _ c => absurd c no1')
  · have hle : Y ≤ R' := by rw [hg] at hge; exact of_decide_eq_true hge.symm
    rw [if_pos hle] at K
    refine lp2_ (w + 1) (fun i (s : ks_St) (c : Bool) => ks_W L xs mX5_divide rm_X5_divide 145 [(0, .ref 17), (1, .int (nI w)), (2, .int (nI n)), (4, .int (b1_ c)), (5, .int (nI i))] [] s 0 0 Q)
      (fun i s c => (∃ V, br_ (sf_ s 24) 514 V ∧ (∀ k, i ≤ k → V.testBit k = R'.testBit k) ∧ V + Y % 2 ^ i = R' + 2 ^ i * c.toNat) ∧ fr_ [] [] [24] [] σ1 s) ?_ ?_ 0 σ1 false (Nat.zero_le _) ⟨⟨R', bR1, fun _ _ => rfl, by simp [Nat.mod_one]⟩, fr_refl _⟩
    · intro i s c hi hI ih
      obtain ⟨⟨V, bV, tV, eV⟩, fs⟩ := hI
      have gs := gO s fs
      rw [hg] at gs
      have e1 : sf_ s 23 (nI n).toNatClampNeg = 1 := gs
      have c1 : ¬ nI w < nI i := nI_nlt (by omega) (by omega)
      have hi24 : vp_in (nI i) 514 := vp_in_nI (by omega) (by decide)
      have gV : sf_ s 24 (nI i).toNatClampNeg = b1_ (V.testBit i) := by rw [nI_clamp (by omega)]; exact bV i (by omega)
      have go : ks_W L xs mX5_divide rm_X5_divide 185 [(0, .ref 17), (1, .int (nI w)), (2, .int (nI n)), (4, .int (b1_ c)), (5, .int (nI i))] [.int (b1_ (Y.testBit i)), .int (b1_ (V.testBit i))] s 0 0 Q := by
        have hsu := su3 (V.testBit i) (Y.testBit i) c
        have hst := st_sub (V := V) (m := i) (a := Y.testBit i) (c := c) rfl
        have hnext : ∀ c' : Bool, c' = (!V.testBit i && Y.testBit i || !V.testBit i && c || Y.testBit i && c) → ks_W L xs mX5_divide rm_X5_divide 212 [(0, .ref 17), (1, .int (nI w)), (2, .int (nI n)), (5, .int (nI i))] [.int (b1_ c')] (uf_ s 24 (upd (sf_ s 24) (nI i).toNatClampNeg (b1_ (V.testBit i ^^ Y.testBit i ^^ c)))) 0 0 Q := by
          intro c' hc'
          refine sg_X5_divide_212 ?_
          rw [nI_1, nI_clamp (by omega)]
          refine ih _ _ ⟨⟨_, by rw [sf_self]; exact br_set bV, fun k hk => ?_, ?_⟩, fr_trans fs (fr_uf _ _ (by decide))⟩
          · rw [sv_bit, if_neg (by omega)]; exact tV k (by omega)
          · rw [hc', mod_up Y i, p_succ, Nat.mul_assoc]
            rw [Nat.mul_add] at hst
            omega
        refine sg_X5_divide_185 hi24 (fun d => ?_) (fun d => ?_)
        · rw [hsu.2] at d
          rw [hsu.1]
          exact hnext false d.symm
        · rw [hsu.2] at d
          rw [hsu.1]
          exact hnext true (eq_true_of_ne_false d).symm
      refine sg_X5_divide_145 (fun c => absurd c c1) (fun _ => hin) (fun _ c => absurd e1 c) (fun _ _ => hi24) (fun _ _ d => ?_) (fun _ _ d => ?_) (fun _ _ d => ?_)
      · rw [nI_leI (by omega) (by omega)] at d
        have : Y.testBit i = false := tb_hi hY d
        rw [this] at go
        rw [gV]; exact go
      · rw [nI_leI (by omega) (by omega)] at d
        exact vp_in_nI (by omega) (by decide)
      · rw [nI_leI (by omega) (by omega)] at d
        rw [gV, show sf_ s 22 (nI i).toNatClampNeg = b1_ (Y.testBit i) by rw [nI_clamp (by omega), fs.2.2.1 22 (by decide), f1.2.2.1 22 (by decide)]; exact bY i (by omega)]
        exact go
    · intro s c hI
      obtain ⟨⟨V, bV, tV, eV⟩, fs⟩ := hI
      have hV : V < 2 ^ (w + 1) := by
        apply Nat.lt_pow_two_of_testBit
        intro k hk
        rw [tV k hk]; exact tb_hi hR hk
      rw [Nat.mod_eq_of_lt (Nat.lt_of_lt_of_le hY (Nat.pow_le_pow_right (by decide) (by omega)))] at eV
      have hVe : V = R' - Y := by
        cases c
        · simp at eV; omega
        · simp only [Bool.toNat_true, Nat.mul_one] at eV; omega
      have c1 : nI w < nI (w + 1) := nI_lt (by omega) (by omega)
      refine sg_X5_divide_145 (fun _ => K s (by rw [← hVe]; exact bV) ?_ (fr_trans f1 (fr_mono fs (by decide) (by decide) (by decide) (by decide)))) (fun c => absurd c1 c) (fun c => absurd c1 c) (fun c => absurd c1 c) (fun c => absurd c1 c) (fun c => absurd c1 c) (fun c => absurd c1 c)
      rw [fs.2.2.1 23 (by decide)]; exact bO1
/-- which is greater: the highest place at which they differ -/
theorem m_div_cmp {Y w n R' : Nat} {Q : ka_O → ks_St → Prop} (hw : w ≤ 512) (bY : br_ (sf_ σ 22) 513 Y) (hY : Y < 2 ^ w) (bR : br_ (sf_ σ 24) 514 R') (hR : R' < 2 ^ (w + 1)) (hn : n < w)
    (K : ks_W L xs mX5_divide rm_X5_divide 138 [(0, .ref 17), (1, .int (nI w)), (2, .int (nI n))] [.int (b1_ (decide (Y ≤ R'))), .int (nI n), .ref 23] σ 0 0 Q) :
    ks_W L xs mX5_divide rm_X5_divide 70 [(0, .ref 17), (1, .int (nI w)), (2, .int (nI n)), (3, .int (nI w))] [] σ 0 0 Q := by
  have gR : ∀ d, d ≤ w → sf_ σ 24 (nI d).toNatClampNeg = b1_ (R'.testBit d) := fun d hd => by rw [nI_clamp (by omega)]; exact bR d (by omega)
  have gY : ∀ d, d ≤ w → sf_ σ 22 (nI d).toNatClampNeg = b1_ (Y.testBit d) := fun d hd => by rw [nI_clamp (by omega)]; exact bY d (by omega)
  have last : ∀ d, d ≤ w → R' / 2 ^ (d + 1) = Y / 2 ^ (d + 1) → (d = 0 ∨ R'.testBit d ≠ Y.testBit d) → ks_W L xs mX5_divide rm_X5_divide 104 [(0, .ref 17), (1, .int (nI w)), (2, .int (nI n)), (3, .int (nI d))] [] σ 0 0 Q := by
    intro d hd e hz
    have sR := bit_split R' d
    have sY := bit_split Y d
    rw [e] at sR
    have m1 : R' % 2 ^ d < 2 ^ d := Nat.mod_lt _ (Nat.two_pow_pos d)
    have m2 : Y % 2 ^ d < 2 ^ d := Nat.mod_lt _ (Nat.two_pow_pos d)
    have hiff : (¬ (R'.testBit d = false ∧ Y.testBit d = true)) ↔ Y ≤ R' := by
      cases hr : R'.testBit d <;> cases hy : Y.testBit d <;> rw [hr] at sR hz <;> rw [hy] at sY hz <;> simp only [Bool.toNat_true, Bool.toNat_false, Nat.add_zero, Nat.mul_add, Nat.mul_one] at sR sY
      · have : d = 0 := hz.resolve_right (fun z => z rfl)
        subst this
        simp [Nat.mod_one] at sR sY ⊢
        omega
      · simp; omega
      · simp; omega
      · have : d = 0 := hz.resolve_right (fun z => z rfl)
        subst this
        simp [Nat.mod_one] at sR sY ⊢
        omega
    have go : ks_W L xs mX5_divide rm_X5_divide 130 [(0, .ref 17), (1, .int (nI w)), (2, .int (nI n))] [.int (b1_ (Y.testBit d)), .int (b1_ (R'.testBit d)), .int (nI n), .ref 23] σ 0 0 Q := by
      refine sg_X5_divide_130 (fun c => ?_) (fun c => ?_)
      · rw [b1_lt] at c
        have : decide (Y ≤ R') = false := decide_eq_false (fun z => hiff.mpr z c)
        rw [this] at K
        exact K
      · rw [b1_lt] at c
        have : decide (Y ≤ R') = true := decide_eq_true (hiff.mp c)
        rw [this] at K
        exact K
    refine sg_X5_divide_104 (vp_in_nI (by omega) (by decide)) (fun c => ?_) (fun c => ?_) (fun c => ?_)
    · rw [nI_leI (by omega) (by omega)] at c
      have : Y.testBit d = false := tb_hi hY c
      rw [this] at go
      rw [gR d hd]; exact go
    · rw [nI_leI (by omega) (by omega)] at c
      exact vp_in_nI (by omega) (by decide)
    · rw [gR d hd, gY d hd]; exact go
  have loop : ∀ d, d ≤ w → R' / 2 ^ (d + 1) = Y / 2 ^ (d + 1) → ks_W L xs mX5_divide rm_X5_divide 70 [(0, .ref 17), (1, .int (nI w)), (2, .int (nI n)), (3, .int (nI d))] [] σ 0 0 Q := by
    intro d
    induction d with
    | zero =>
      intro hd e
      exact sg_X5_divide_70 (fun _ => last 0 hd e (Or.inl rfl)) (fun c => absurd (by decide) c) (fun c => absurd (by decide) c) (fun c => absurd (by decide) c) (fun c => absurd (by decide) c)
    | succ d ih =>
      intro hd e
      have go : ks_W L xs mX5_divide rm_X5_divide 95 [(0, .ref 17), (1, .int (nI w)), (2, .int (nI n)), (3, .int (nI (d + 1)))] [.int (b1_ (Y.testBit (d + 1))), .int (b1_ (R'.testBit (d + 1)))] σ 0 0 Q := by
        refine sg_X5_divide_95 (fun c => last (d + 1) hd e (Or.inr fun z => c (b1_inj.mpr z))) (fun c => ?_)
        rw [pk_m1]
        refine ih (by omega) ?_
        rw [div_up R' (d + 1), div_up Y (d + 1), e, b1_inj.mp c]
      refine sg_X5_divide_70 (fun c => absurd c (nI_nle (by omega) (by omega))) (fun _ => vp_in_nI (by omega) (by decide)) (fun _ c => ?_) (fun _ c => ?_) (fun _ c => ?_)
      · rw [nI_leI (by omega) (by omega)] at c
        have : Y.testBit (d + 1) = false := tb_hi hY c
        rw [this] at go
        rw [gR _ hd]; exact go
      · rw [nI_leI (by omega) (by omega)] at c
        exact vp_in_nI (by omega) (by decide)
      · rw [gR _ hd, gY _ hd]; exact go
  refine loop w (Nat.le_refl w) ?_
  rw [Nat.div_eq_of_lt hR, Nat.div_eq_of_lt (Nat.lt_of_lt_of_le hY (Nat.pow_le_pow_right (by decide) (by omega)))]
theorem m_divide {X Y w : Nat} (h1 : 1 ≤ w) (hw : w ≤ 512) (bX : br_ (sf_ σ 21) 513 X) (bY : br_ (sf_ σ 22) 513 Y) (bO : br_ (sf_ σ 23) 1026 0) (hX : X < 2 ^ w) (hY : Y < 2 ^ w) (hY0 : Y ≠ 0) : ks_M L xs mX5_divide rm_X5_divide [.ref 17, .int (nI w)] σ (pv_ fun σ' => br_ (sf_ σ' 23) 1026 (X / Y) ∧ br_ (sf_ σ' 24) 514 (X % Y) ∧ fr_ [] [] [23, 24] [] σ σ') := by
  refine ks_body (by decide) (Nat.le_of_ble_eq_true rfl) ?_
  refine sg_X5_divide_0 ?_
  refine lp_ 514 (fun k (s : ks_St) => ks_W L xs mX5_divide rm_X5_divide 2 [(0, .ref 17), (1, .int (nI w)), (2, .int (nI k))] [] s 0 0 (pv_ fun σ' => br_ (sf_ σ' 23) 1026 (X / Y) ∧ br_ (sf_ σ' 24) 514 (X % Y) ∧ fr_ [] [] [23, 24] [] σ σ'))
    (fun k s => br_ (sf_ s 24) k 0 ∧ fr_ [] [] [24] [] σ s) ?_ ?_ 0 σ (by decide) ⟨fun k hk => absurd hk (Nat.not_lt_zero k), fr_refl _⟩
  · intro k s hk hI ih
    obtain ⟨b, fs⟩ := hI
    refine sg_X5_divide_2 (fun c => absurd c (nI_ge (b := 514) hk (by decide))) (fun _ => vp_in_nI hk (by decide)) (fun _ => ?_)
    rw [nI_1, nI_clamp (by omega)]
    refine ih _ ⟨?_, fr_trans fs (fr_uf _ _ (by decide))⟩
    rw [sf_self]
    intro t ht
    by_cases e : t = k
    · rw [e, pk_us, Nat.zero_testBit]; rfl
    · rw [pk_un e]; exact b t (by omega)
  · intro s hI
    obtain ⟨b, fs⟩ := hI
    refine sg_X5_divide_2 (fun _ => ?_) (fun c => absurd (by decide) c) (fun c => absurd (by decide) c)
    have loop : ∀ n (s : ks_St), n ≤ w → br_ (sf_ s 24) 514 (X / 2 ^ n % Y) → br_ (sf_ s 23) 1026 (X / 2 ^ n / Y * 2 ^ n) → fr_ [] [] [23, 24] [] σ s → ks_W L xs mX5_divide rm_X5_divide 26 [(0, .ref 17), (1, .int (nI w)), (2, .int (nI n - 1))] [] s 0 0 (pv_ fun σ' => br_ (sf_ σ' 23) 1026 (X / Y) ∧ br_ (sf_ σ' 24) 514 (X % Y) ∧ fr_ [] [] [23, 24] [] σ σ') := by
      intro n
      induction n with
      | zero =>
        intro s _ b1 b2 fs
        refine sg_X5_divide_26 (fun _ => ⟨rfl, ?_, ?_, fs⟩) (fun c => absurd (by decide) c)
        · simpa using b2
        · simpa using b1
      | succ n ih =>
        intro s hn b1 b2 fs
        rw [nI_pred]
        refine sg_X5_divide_26 (fun c => absurd c (nI_pos (by omega))) (fun _ => ?_)
        have hY0' : 0 < Y := Nat.pos_of_ne_zero hY0
        have hRY : X / 2 ^ (n + 1) % Y < Y := Nat.mod_lt _ hY0'
        have hdu := div_up X n
        have hst := dq_step (D := X / 2 ^ (n + 1)) (Y := Y) (x := (X.testBit n).toNat) hY0' (by cases X.testBit n <;> decide)
        rw [← hdu] at hst
        generalize hR : X / 2 ^ (n + 1) % Y = R at *
        have hR2 : R < 2 ^ w := by omega
        have bYs : br_ (sf_ s 22) 513 Y := by rw [fs.2.2.1 22 (by decide)]; exact bY
        have fin : ∀ s', br_ (sf_ s' 24) 514 (2 * R + (X.testBit n).toNat) → fr_ [] [] [24] [] s s' → ks_W L xs mX5_divide rm_X5_divide 70 [(0, .ref 17), (1, .int (nI w)), (2, .int (nI n)), (3, .int (nI w))] [] s' 0 0 (pv_ fun σ' => br_ (sf_ σ' 23) 1026 (X / Y) ∧ br_ (sf_ σ' 24) 514 (X % Y) ∧ fr_ [] [] [23, 24] [] σ σ') := by
          intro s' b' f'
          have bY' : br_ (sf_ s' 22) 513 Y := by rw [f'.2.2.1 22 (by decide)]; exact bYs
          have hR' : 2 * R + (X.testBit n).toNat < 2 ^ (w + 1) := by
            rw [p_succ]
            have : (X.testBit n).toNat ≤ 1 := by cases X.testBit n <;> decide
            omega
          refine m_div_cmp hw bY' hY b' hR' (by omega) ?_
          refine m_div_tail hw (by omega) bY' hY b' hR' (O := X / 2 ^ (n + 1) / Y * 2 ^ (n + 1)) (by rw [f'.2.2.1 23 (by decide)]; exact b2) rfl (fun s3 c1 c2 c3 => ?_)
          refine sg_X5_divide_220 ?_
          rw [show nI n + (-1) = nI n - 1 by rw [Int32.sub_eq_add_neg]]
          refine ih s3 (by omega) (by rw [hst.2]; exact c1) ?_ (fr_trans fs (fr_trans (fr_mono f' (by decide) (by decide) (by decide) (by decide)) c3))
          have : sv_ (X / 2 ^ (n + 1) / Y * 2 ^ (n + 1)) n (decide (Y ≤ 2 * R + (X.testBit n).toNat)) = X / 2 ^ n / Y * 2 ^ n := by
            have hsv := sv_eq (X / 2 ^ (n + 1) / Y * 2 ^ (n + 1)) n (decide (Y ≤ 2 * R + (X.testBit n).toNat))
            have hb : (X / 2 ^ (n + 1) / Y * 2 ^ (n + 1)).testBit n = false := by
              rw [Nat.mul_comm, Nat.testBit_two_pow_mul, decide_eq_false (show ¬ n + 1 ≤ n by omega)]; rfl
            rw [hb] at hsv
            simp only [Bool.toNat_false, Nat.mul_zero, Nat.add_zero] at hsv
            rw [hsv, hst.1, Nat.add_mul, p_succ]
            have : X / (2 ^ n * 2) / Y * (2 ^ n * 2) = 2 * (X / (2 ^ n * 2) / Y) * 2 ^ n := by ac_rfl
            rw [this]
            congr 1
            by_cases c : Y ≤ 2 * R + (X.testBit n).toNat
            · rw [decide_eq_true c, if_pos c]; simp
            · rw [decide_eq_false c, if_neg c]; simp
          rw [← this]; exact c2
        refine lpd_ (fun d (s' : ks_St) => ks_W L xs mX5_divide rm_X5_divide 32 [(0, .ref 17), (1, .int (nI w)), (2, .int (nI n)), (3, .int (nI d))] [] s' 0 0 (pv_ fun σ' => br_ (sf_ σ' 23) 1026 (X / Y) ∧ br_ (sf_ σ' 24) 514 (X % Y) ∧ fr_ [] [] [23, 24] [] σ σ'))
          (fun d s' => d ≤ w ∧ (∀ t, t < 514 → sf_ s' 24 t = b1_ (if d < t ∧ t ≤ w then R.testBit (t - 1) else R.testBit t)) ∧ fr_ [] [] [24] [] s s') ?_ ?_ w s ⟨Nat.le_refl w, fun t ht => by rw [if_neg (by omega)]; exact b1 t ht, fr_refl _⟩
        · intro d s' hI ihd
          obtain ⟨hd, q, f'⟩ := hI
          have ed : nI (d + 1) - 1 = nI d := nI_pred d
          refine sg_X5_divide_32 (fun c => absurd c (nI_nle (by omega) (by omega))) (fun c => absurd c (nI_nle (by omega) (by omega))) (fun _ => by rw [ed]; exact vp_in_nI (by omega) (by decide)) (fun _ => vp_in_nI (by omega) (by decide)) (fun _ => ?_)
          rw [ed, pk_m1, nI_clamp (by omega), nI_clamp (by omega)]
          refine ihd _ ⟨by omega, fun t ht => ?_, fr_trans f' (fr_uf _ _ (by decide))⟩
          rw [sf_self]
          by_cases e : t = d + 1
          · rw [e, pk_us, q d (by omega), if_neg (by omega), if_pos (by omega), Nat.add_sub_cancel]
          · rw [pk_un e, q t ht]
            by_cases c : d + 1 < t ∧ t ≤ w
            · rw [if_pos c, if_pos (by omega)]
            · rw [if_neg c, if_neg (by omega)]
        · intro s' hI
          obtain ⟨hd, q, f'⟩ := hI
          refine sg_X5_divide_32 (fun _ => vp_in_nI (by omega) (by decide)) (fun _ => ?_) (fun c => absurd (by decide) c) (fun c => absurd (by decide) c) (fun c => absurd (by decide) c)
          have gX : sf_ s' 21 (nI n).toNatClampNeg = b1_ (X.testBit n) := by rw [nI_clamp (by omega), f'.2.2.1 21 (by decide), fs.2.2.1 21 (by decide)]; exact bX n (by omega)
          rw [gX]
          refine fin _ (fun t ht => ?_) (fr_trans f' (fr_uf _ _ (by decide)))
          rw [sf_self, show (0 : Int32).toNatClampNeg = 0 from rfl]
          by_cases e : t = 0
          · rw [e, pk_us, b1_inj, Nat.testBit_zero]
            cases X.testBit n <;> simp
          · rw [pk_un e, q t ht, b1_inj]
            obtain ⟨u, rfl⟩ : ∃ u, t = u + 1 := ⟨t - 1, by omega⟩
            rw [Nat.testBit_succ (2 * R + (X.testBit n).toNat), show (2 * R + (X.testBit n).toNat) / 2 = R by cases X.testBit n <;> simp <;> omega]
            by_cases c : u + 1 ≤ w
            · rw [if_pos ⟨by omega, c⟩, Nat.add_sub_cancel]
            · rw [if_neg (fun z => c z.2), tb_hi hR2 (by omega), tb_hi hR2 (by omega)]
    refine loop w s (Nat.le_refl w) ?_ ?_ (fr_mono fs (by decide) (by decide) (by decide) (by decide))
    · rw [Nat.div_eq_of_lt hX, Nat.zero_mod]; exact b
    · rw [Nat.div_eq_of_lt hX, Nat.zero_div, Nat.zero_mul, fs.2.2.1 23 (by decide)]; exact bO
theorem m_takeRest {R O w : Nat} (hw : w ≤ 512) (bR : br_ (sf_ σ 24) 514 R) (hR : R < 2 ^ w) (bO : br_ (sf_ σ 23) 1026 O) (hO : O < 2 ^ w) : ks_M L xs mX5_takeRest rm_X5_takeRest [.ref 17, .int (nI w)] σ (pv_ fun σ' => br_ (sf_ σ' 23) 1026 R ∧ fr_ [] [] [23] [] σ σ') := by
  refine ks_body (by decide) (Nat.le_of_ble_eq_true rfl) ?_
  refine sg_X5_takeRest_0 ?_
  refine lp_ w (fun i (s : ks_St) => ks_W L xs mX5_takeRest rm_X5_takeRest 2 [(0, .ref 17), (1, .int (nI w)), (2, .int (nI i))] [] s 0 0 (pv_ fun σ' => br_ (sf_ σ' 23) 1026 R ∧ fr_ [] [] [23] [] σ σ'))
    (fun i s => (∀ t, t < 1026 → sf_ s 23 t = b1_ (if t < i then R.testBit t else O.testBit t)) ∧ fr_ [] [] [23] [] σ s) ?_ ?_ 0 σ (Nat.zero_le _) ⟨fun t ht => by rw [if_neg (Nat.not_lt_zero t)]; exact bO t ht, fr_refl _⟩
  · intro i s hi hI ih
    obtain ⟨q, fs⟩ := hI
    refine sg_X5_takeRest_2 (fun c => absurd c (nI_ge hi (by omega))) (fun _ => vp_in_nI (by omega) (by decide)) (fun _ => vp_in_nI (by omega) (by decide)) (fun _ => ?_)
    rw [nI_1, nI_clamp (by omega), fs.2.2.1 24 (by decide), bR i (by omega)]
    refine ih _ ⟨fun t ht => ?_, fr_trans fs (fr_uf _ _ (by decide))⟩
    rw [sf_self]
    by_cases e : t = i
    · rw [e, pk_us, if_pos (by omega)]
    · rw [pk_un e, q t ht]
      by_cases c : t < i
      · rw [if_pos c, if_pos (by omega)]
      · rw [if_neg c, if_neg (by omega)]
  · intro s hI
    obtain ⟨q, fs⟩ := hI
    have cw : nI w ≤ nI w := nI_le (Nat.le_refl w) (by omega)
    refine sg_X5_takeRest_2 (fun _ => ⟨rfl, fun t ht => ?_, fs⟩) (fun c => absurd cw c) (fun c => absurd cw c) (fun c => absurd cw c)
    rw [q t ht]
    by_cases c : t < w
    · rw [if_pos c]
    · rw [if_neg c, tb_hi hR (by omega), tb_hi hO (by omega)]
theorem m_amountOfB {Y w : Nat} (h1 : 1 ≤ w) (hw : w ≤ 512) (bY : br_ (sf_ σ 22) 513 Y) (hY : Y < 2 ^ w) : ks_M L xs mX5_amountOfB rm_X5_amountOfB [.ref 17, .int (nI w)] σ (pi_ fun r σ' => r = nI (min Y 2000) ∧ σ' = σ) := by
  refine ks_body (by decide) (Nat.le_of_ble_eq_true rfl) ?_
  refine sg_X5_amountOfB_0 ?_
  have loop : ∀ n, n ≤ w → ks_W L xs mX5_amountOfB rm_X5_amountOfB 6 [(0, .ref 17), (2, .int (nI (min (Y / 2 ^ n) 2000))), (3, .int (nI n - 1))] [] σ 0 0 (pi_ fun r σ' => r = nI (min Y 2000) ∧ σ' = σ) := by
    intro n
    induction n with
    | zero =>
      intro _
      rw [Nat.pow_zero, Nat.div_one]
      exact sg_X5_amountOfB_6 (fun _ => ⟨_, rfl, rfl, rfl⟩) (fun c => absurd (by decide) c) (fun c => absurd (by decide) c) (fun c => absurd (by decide) c)
    | succ n ih =>
      intro hn
      rw [nI_pred]
      have hdu := div_up Y n
      have hb : (Y.testBit n).toNat ≤ 1 := by cases Y.testBit n <;> decide
      have gY : sf_ σ 22 (nI n).toNatClampNeg = nI (Y.testBit n).toNat := by
        rw [nI_clamp (by omega), bY n (by omega)]; cases Y.testBit n <;> rfl
      have h999 : nI (min (Y / 2 ^ (n + 1)) 2000) ≤ 999 ↔ Y / 2 ^ (n + 1) ≤ 999 := by
        rw [show (999 : Int32) = nI 999 from rfl, nI_leI (by omega) (by decide)]; omega
      have c0 : ¬ nI n < 0 := nI_pos (by omega)
      have e1 : nI n + (-1) = nI n - 1 := by rw [Int32.sub_eq_add_neg]
      refine sg_X5_amountOfB_6 (fun c => absurd c c0) (fun _ _ => vp_in_nI (by omega) (by decide)) (fun _ c => ?_) (fun _ c => ?_)
      · rw [h999] at c
        refine sg_X5_amountOfB_33 ?_
        rw [gY, show (2 : Int32) = nI 2 from rfl, pk_mul, nI_add, e1, show 2 * min (Y / 2 ^ (n + 1)) 2000 + (Y.testBit n).toNat = min (Y / 2 ^ n) 2000 by omega]
        exact ih (by omega)
      · rw [h999] at c
        refine sg_X5_amountOfB_33 ?_
        rw [e1, show (2000 : Int32) = nI (min (Y / 2 ^ n) 2000) by rw [show min (Y / 2 ^ n) 2000 = 2000 by omega]; rfl]
        exact ih (by omega)
  have := loop w (Nat.le_refl w)
  rw [Nat.div_eq_of_lt hY] at this
  exact this
theorem m_bAround {Y w : Nat} (h1 : 1 ≤ w) (hw : w ≤ 512) (bY : br_ (sf_ σ 22) 513 Y) (hY : Y < 2 ^ w) : ks_M L xs mX5_bAround rm_X5_bAround [.ref 17, .int (nI w)] σ (pi_ fun r σ' => r = nI (Y % w) ∧ σ' = σ) := by
  refine ks_body (by decide) (Nat.le_of_ble_eq_true rfl) ?_
  refine sg_X5_bAround_0 ?_
  have loop : ∀ n, n ≤ w → ks_W L xs mX5_bAround rm_X5_bAround 6 [(0, .ref 17), (1, .int (nI w)), (2, .int (nI (Y / 2 ^ n % w))), (3, .int (nI n - 1))] [] σ 0 0 (pi_ fun r σ' => r = nI (Y % w) ∧ σ' = σ) := by
    intro n
    induction n with
    | zero =>
      intro _
      rw [Nat.pow_zero, Nat.div_one]
      exact sg_X5_bAround_6 (fun _ => ⟨_, rfl, rfl, rfl⟩) (fun c => absurd (by decide) c) (fun c => absurd (by decide) c) (fun c => absurd (by decide) c)
    | succ n ih =>
      intro hn
      rw [nI_pred]
      have hdu := div_up Y n
      have hb : (Y.testBit n).toNat ≤ 1 := by cases Y.testBit n <;> decide
      have gY : sf_ σ 22 (nI n).toNatClampNeg = nI (Y.testBit n).toNat := by
        rw [nI_clamp (by omega), bY n (by omega)]; cases Y.testBit n <;> rfl
      have hlt : Y / 2 ^ (n + 1) % w < w := Nat.mod_lt _ (by omega)
      have c0 : ¬ nI n < 0 := nI_pos (by omega)
      have e1 : nI n + (-1) = nI n - 1 := by rw [Int32.sub_eq_add_neg]
      refine sg_X5_bAround_6 (fun c => absurd c c0) (fun _ => vp_in_nI (by omega) (by decide)) (fun _ => nI_ne0 (by omega) (by omega)) (fun _ => ?_)
      rw [gY, show (2 : Int32) = nI 2 from rfl, pk_mul, nI_add, pk_rem (by omega) (by omega) (by omega), e1]
      have : (2 * (Y / 2 ^ (n + 1) % w) + (Y.testBit n).toNat) % w = Y / 2 ^ n % w := by
        rw [hdu, Nat.add_mod, Nat.mul_mod, Nat.mod_mod, ← Nat.mul_mod, ← Nat.add_mod]
      rw [this]
      exact ih (by omega)
  have := loop w (Nat.le_refl w)
  rw [Nat.div_eq_of_lt hY, Nat.zero_mod] at this
  exact this
theorem m_isNought' {o n U p q : Nat} (ho : ri_ o n) (hn : n ≤ 1026) (bV : br_ (fun t => sf_ σ o (p + t)) (q - p) U) (hpq : p ≤ q) (hq : q ≤ n) : ks_M L xs mX5_isNought rm_X5_isNought [.ref 17, .ref o, .int (nI p), .int (nI q)] σ (pi_ fun r σ' => r = b1_ (decide (U % 2 ^ (q - p) = 0)) ∧ σ' = σ) := by
  refine ks_body (by decide) (Nat.le_of_ble_eq_true rfl) ?_
  refine ka_sub [1, 2, 3] rfl (sg_X5_isNought_0 ho ?_)
  refine lp_ (q - p) (fun i (c : Bool) => ks_W L xs mX5_isNought rm_X5_isNought 6 [(1, .ref o), (3, .int (nI q)), (4, .int (b1_ c)), (5, .int (nI (p + i)))] [] σ 0 0 (pi_ fun r σ' => r = b1_ (decide (U % 2 ^ (q - p) = 0)) ∧ σ' = σ))
    (fun i c => c = decide (U % 2 ^ i = 0)) ?_ ?_ 0 true (Nat.zero_le _) (by rw [Nat.pow_zero, Nat.mod_one]; rfl)
  · intro i c hi hI ih
    have c0 : ¬ nI q ≤ nI (p + i) := nI_ge (by omega) (by omega)
    have gV : sf_ σ o (nI (p + i)).toNatClampNeg = b1_ (U.testBit i) := by rw [nI_clamp (by omega)]; exact bV i hi
    have hm := mod_up U i
    have h0 := Nat.two_pow_pos i
    have go : ∀ c' : Bool, c' = decide (U % 2 ^ (i + 1) = 0) → ks_W L xs mX5_isNought rm_X5_isNought 29 [(1, .ref o), (3, .int (nI q)), (5, .int (nI (p + i)))] [.int (b1_ c')] σ 0 0 (pi_ fun r σ' => r = b1_ (decide (U % 2 ^ (q - p) = 0)) ∧ σ' = σ) := by
      intro c' hc
      refine sg_X5_isNought_29 ho ?_
      rw [nI_1]
      exact ih c' hc
    refine sg_X5_isNought_6 ho (fun c => absurd c c0) (fun c => absurd c c0) (fun _ d => ?_) (fun _ _ => vp_in_nI (by omega) (by omega)) (fun _ d e => ?_) (fun _ d e => ?_)
    · rw [b1_0, hI] at d
      have := of_decide_eq_false d
      exact sg_X5_isNought_28 ho (go false (by rw [hm]; exact (decide_eq_false (by omega)).symm))
    · rw [gV, b1_0] at e
      have e' := eq_true_of_ne_false e
      refine sg_X5_isNought_28 ho (go false ?_)
      rw [hm, e']
      simp only [Bool.toNat_true, Nat.mul_one]
      exact (decide_eq_false (by omega)).symm
    · rw [gV, b1_0] at e
      rw [b1_0, hI] at d
      have := of_decide_eq_true (eq_true_of_ne_false d)
      refine go true ?_
      rw [hm, e]
      simp only [Bool.toNat_false, Nat.mul_zero, Nat.add_zero]
      exact (decide_eq_true this).symm
  · intro c hI
    have cw : nI q ≤ nI (p + (q - p)) := nI_le (by omega) (by omega)
    exact sg_X5_isNought_6 ho (fun _ => b1_b c) (fun _ => ⟨_, rfl, by rw [hI], rfl⟩) (fun c => absurd cw c) (fun c => absurd cw c) (fun c => absurd cw c) (fun c => absurd cw c)
theorem m_isNought {o n m V p q : Nat} (ho : ri_ o n) (hn : n ≤ 1026) (hm' : m ≤ n) (bV : br_ (sf_ σ o) m V) (hpq : p ≤ q) (hq : q ≤ m) : ks_M L xs mX5_isNought rm_X5_isNought [.ref 17, .ref o, .int (nI p), .int (nI q)] σ (pi_ fun r σ' => r = b1_ (decide (V / 2 ^ p % 2 ^ (q - p) = 0)) ∧ σ' = σ) :=
  m_isNought' ho hn (fun t ht => by rw [Nat.testBit_div_two_pow, Nat.add_comm t]; exact bV (p + t) (by omega)) hpq (by omega)
theorem m_fits {O w : Nat} (less : Bool) (h1 : 1 ≤ w) (hw : w ≤ 512) (bO : br_ (sf_ σ 23) 1026 O) (hO : O < 2 ^ (2 * w)) : ks_M L xs mX5_fits rm_X5_fits [.ref 17, .int (nI w), .int (b1_ less)] σ (pi_ fun r σ' => r = b1_ (decide (O < 2 ^ (w - 1)) || less && decide (O = 2 ^ (w - 1))) ∧ σ' = σ) := by
  refine ks_body (by decide) (Nat.le_of_ble_eq_true rfl) ?_
  have e1 : nI w - 1 = nI (w - 1) := pk_sub (b := 1) h1
  have e2 : (2 : Int32) * nI w = nI (2 * w) := pk_mul 2 w
  have hp := Nat.two_pow_pos (w - 1)
  have hpw : 2 ^ w = 2 ^ (w - 1) * 2 := by rw [← p_succ]; congr 1; omega
  have hdiv : ∀ p, p ≤ 2 * w → O / 2 ^ p % 2 ^ (2 * w - p) = O / 2 ^ p := fun p hp => by
    apply Nat.mod_eq_of_lt
    rw [Nat.div_lt_iff_lt_mul (Nat.two_pow_pos p), ← Nat.pow_add]
    exact Nat.lt_of_lt_of_le hO (Nat.pow_le_pow_right (by decide) (by omega))
  have z1 : decide (O / 2 ^ (w - 1) % 2 ^ (2 * w - (w - 1)) = 0) = decide (O < 2 ^ (w - 1)) := by
    rw [hdiv _ (by omega)]
    apply decide_eq_decide.mpr
    rw [Nat.div_eq_zero_iff]; omega
  have yes : (decide (O < 2 ^ (w - 1)) || less && decide (O = 2 ^ (w - 1))) = true → ks_W L xs mX5_fits rm_X5_fits 63 [] [] σ 0 0 (pi_ fun r σ' => r = b1_ (decide (O < 2 ^ (w - 1)) || less && decide (O = 2 ^ (w - 1))) ∧ σ' = σ) := fun z => sg_X5_fits_63 (sg_X5_fits_68 rfl ⟨_, rfl, by rw [z]; rfl, rfl⟩)
  have no : (decide (O < 2 ^ (w - 1)) || less && decide (O = 2 ^ (w - 1))) = false → ks_W L xs mX5_fits rm_X5_fits 67 [] [] σ 0 0 (pi_ fun r σ' => r = b1_ (decide (O < 2 ^ (w - 1)) || less && decide (O = 2 ^ (w - 1))) ∧ σ' = σ) := fun z => sg_X5_fits_67 (sg_X5_fits_68 rfl ⟨_, rfl, by rw [z]; rfl, rfl⟩)
  refine sg_X5_fits_0 ?_
  rw [e1, e2]
  refine cs_X5_fits_11 (m_isNought row_23 (by decide) (Nat.le_refl _) bO (by omega) (by omega)) (fun r σ1 hr => ?_)
  obtain ⟨rfl, rfl⟩ := hr
  rw [z1]
  have gO : sf_ σ1 23 (nI w - 1).toNatClampNeg = b1_ (O.testBit (w - 1)) := by rw [e1, nI_clamp (by omega)]; exact bO _ (by omega)
  have sO := bit_split O (w - 1)
  rw [show w - 1 + 1 = w by omega] at sO
  have hmod : O % 2 ^ (w - 1) < 2 ^ (w - 1) := Nat.mod_lt _ hp
  refine sg_X5_fits_14 (fun c => ?_) (fun c d => ?_) (fun _ _ => by rw [e1]; exact vp_in_nI (by omega) (by decide)) (fun c d e => ?_) (fun c d e => ?_)
  · rw [b1_0] at c
    exact yes (by rw [eq_true_of_ne_false c]; rfl)
  · rw [b1_0] at c d
    exact no (by rw [c, d]; rfl)
  · rw [b1_0] at c d
    rw [gO, b1_1] at e
    refine no ?_
    have hne : ¬ O = 2 ^ (w - 1) := fun z => e (by rw [z, Nat.testBit_two_pow]; simp)
    rw [c, decide_eq_false hne]; simp
  · rw [b1_0] at c d
    rw [gO, b1_1] at e
    have c' := of_decide_eq_false c
    rw [e] at sO
    simp only [Bool.toNat_true, Nat.mul_add, Nat.mul_one] at sO
    have hq : 2 ^ (w - 1) * (2 * (O / 2 ^ w)) = 2 ^ w * (O / 2 ^ w) := by rw [hpw]; ac_rfl
    rw [hq] at sO
    rw [e1]
    refine cs_X5_fits_42 (m_isNought (p := 0) row_23 (by decide) (Nat.le_refl _) bO (by omega) (by omega)) (fun r σ2 hr => ?_)
    obtain ⟨rfl, rfl⟩ := hr
    rw [Nat.pow_zero, Nat.div_one, Nat.sub_zero]
    refine sg_X5_fits_45 (fun g => ?_) (fun g => ?_)
    · rw [b1_0] at g
      have g' := of_decide_eq_false g
      refine no ?_
      have hne : ¬ O = 2 ^ (w - 1) := fun z => g' (by rw [z, Nat.mod_self])
      rw [c, decide_eq_false hne]; simp
    · rw [b1_0] at g
      have g' := of_decide_eq_true (eq_true_of_ne_false g)
      rw [e2]
      refine cs_X5_fits_57 (m_isNought row_23 (by decide) (Nat.le_refl _) bO (by omega) (by omega)) (fun r σ3 hr => ?_)
      obtain ⟨rfl, rfl⟩ := hr
      rw [hdiv w (by omega)]
      refine sg_X5_fits_60 (fun y => ?_) (fun y => ?_)
      · rw [b1_0] at y
        have y' := of_decide_eq_false y
        refine no ?_
        have hne : ¬ O = 2 ^ (w - 1) := fun z => y' (by rw [Nat.div_eq_zero_iff]; right; omega)
        rw [c, decide_eq_false hne]; simp
      · rw [b1_0] at y
        have y' := of_decide_eq_true (eq_true_of_ne_false y)
        rw [y', g'] at sO
        simp only [Nat.mul_zero, Nat.zero_add, Nat.add_zero] at sO
        refine yes ?_
        rw [decide_eq_true sO, eq_true_of_ne_false d]; simp
end
end
