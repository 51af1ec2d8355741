section
/-! ===== the reference's operations ===== -/
theorem sn_am {w X : Nat} (hX : X < 2 ^ w) : sn_ w X = if ng_ w X then -(am_ w X : Int) else (am_ w X : Int) := by
  unfold sn_ am_
  cases ng_ w X
  · simp
  · simp only [if_true]
    omega
theorem sw_two {w X Y : Nat} (hX : X < 2 ^ w) (hY : Y < 2 ^ w) : sw_ 2 w X Y = !(decide (am_ w X * am_ w Y < 2 ^ (w - 1)) || (ng_ w X != ng_ w Y) && decide (am_ w X * am_ w Y = 2 ^ (w - 1))) := by
  show (!decide (-((2 ^ (w - 1) : Nat) : Int) ≤ sn_ w X * sn_ w Y ∧ sn_ w X * sn_ w Y < (2 ^ (w - 1) : Nat))) = _
  rw [sn_am hX, sn_am hY]
  have hp : 0 < 2 ^ (w - 1) := Nat.two_pow_pos _
  generalize am_ w X = a
  generalize am_ w Y = b
  generalize 2 ^ (w - 1) = T at *
  congr 1
  have hab : ((a * b : Nat) : Int) = (a : Int) * b := Int.natCast_mul a b
  cases ng_ w X <;> cases ng_ w Y
  · simp only [Bool.false_eq_true, if_false, bne_self_eq_false, Bool.false_and, Bool.or_false]
    rw [← hab]
    exact decide_eq_decide.mpr (by omega)
  · simp only [Bool.false_eq_true, if_false, if_true, Int.mul_neg]
    rw [← hab]
    by_cases c : a * b < T
    · simp [c]; omega
    · by_cases d : a * b = T
      · simp [d]; omega
      · simp [c, d]; omega
  · simp only [Bool.false_eq_true, if_false, if_true, Int.neg_mul]
    rw [← hab]
    by_cases c : a * b < T
    · simp [c]; omega
    · by_cases d : a * b = T
      · simp [d]; omega
      · simp [c, d]; omega
  · simp only [if_true, bne_self_eq_false, Bool.false_and, Bool.or_false, Int.neg_mul, Int.mul_neg, Int.neg_neg]
    rw [← hab]
    exact decide_eq_decide.mpr (by omega)
/-- where a bit of a turned word comes from -/
def sr_ (w n t : Nat) : Nat := if n ≤ t then t - n else t + w - n
theorem rt_bit {w A n k : Nat} (hA : A < 2 ^ w) (hn : n ≤ w) (hk : k < w) : (rt_ w A n).testBit k = A.testBit (sr_ w n k) := by
  unfold rt_ sr_
  rw [Nat.testBit_or, Nat.testBit_mod_two_pow, Nat.mul_comm, Nat.testBit_two_pow_mul, Nat.testBit_div_two_pow]
  by_cases c : n ≤ k
  · rw [if_pos c, tb_hi hA (show w ≤ k + (w - n) by omega)]; simp [c, hk]
  · rw [if_neg c]
    simp only [c, decide_false, Bool.false_and, Bool.and_false, Bool.false_or]
    congr 1; omega
theorem b1_and : ∀ a b : Bool, b1_ a &&& b1_ b = b1_ (a && b) := by decide
theorem b1_or : ∀ a b : Bool, b1_ a ||| b1_ b = b1_ (a || b) := by decide
theorem b1_xor : ∀ a b : Bool, b1_ a ^^^ b1_ b = b1_ (a ^^ b) := by decide
/-- how the pieces of an operation end -/
def om_ (k w X Y : Nat) (σ σ' : ks_St) : Prop := br_ (fun t => sf_ σ' 23 ((if k = 3 then w else 0) + t)) w (sp_ k w X Y) ∧ sf_ σ' 20 0 = b1_ (sc_ k w X Y) ∧ sf_ σ' 20 1 = b1_ (sw_ k w X Y) ∧ fr_ [] [] [20, 21, 22, 23, 24] [] σ σ'
theorem MI_fl {A : wa_} {σ σ' : ks_St} {F : Bool × Bool × Bool × Bool} (h : MI_ A σ) (f : fr_ [14] [] [20, 21, 22, 23, 24] [] σ σ') (b0 : sf_ σ' 20 0 = b1_ F.1) (b1 : sf_ σ' 20 1 = b1_ F.2.1) (b2 : sf_ σ' 20 2 = b1_ F.2.2.1) (b3 : sf_ σ' 20 3 = b1_ F.2.2.2) : MI_ (wf_ A F) σ' := by
  obtain ⟨a0, a1, a2, a3, -, a4⟩ := h
  refine ⟨a0, (f.1 15 (by decide)).trans a1, (f.1 16 (by decide)).trans a2, fun j hj => ?_, ⟨b0, b1, b2, b3⟩, (f.1 17 (by decide)).trans a4⟩
  rw [f.2.2.1 18 (by decide), f.2.2.1 19 (by decide)]
  exact a3 j hj
section
variable {L : Nat} {xs : Nat → Int32} {σ : ks_St} {A : wa_} {X Y w : Nat}
theorem m_sums01 (k : Nat) (hk : k = 0 ∨ k = 1) (h1 : 1 ≤ w) (hw : w ≤ 512) (bX : br_ (sf_ σ 21) 513 X) (bY : br_ (sf_ σ 22) 513 Y) (bO : br_ (sf_ σ 23) 1026 0) (hX : X < 2 ^ w) (hY : Y < 2 ^ w) : ks_M L xs mX5_sums rm_X5_sums [.ref 17, .int (nI k), .int (nI w)] σ (pv_ fun σ' => om_ k w X Y σ σ') := by
  refine ks_body (by decide) (Nat.le_of_ble_eq_true rfl) ?_
  have e1 : nI w - 1 = nI (w - 1) := pk_sub (b := 1) h1
  have hin : vp_in (nI w - 1) 513 := by rw [e1]; exact vp_in_nI (by omega) (by decide)
  have hin2 : vp_in (nI w - 1) 1026 := by rw [e1]; exact vp_in_nI (by omega) (by decide)
  have c2 : ¬ (2 : Int32) ≤ nI k := nI_ge (b := 2) (by omega) (by decide)
  have main : ∀ m : Bool, (m = true ↔ k = 1) → ks_W L xs mX5_sums rm_X5_sums 22 [(0, .ref 17), (1, .int (nI k)), (2, .int (nI w))] [.int (b1_ m), .int (nI w), .ref 17, .int 0, .ref 20] σ 0 0 (pv_ fun σ' => om_ k w X Y σ σ') := by
    intro m hm
    refine cs_X5_sums_22 (m_add m hw bX bY bO hX hY) (fun r σ1 hr => ?_)
    obtain ⟨er, bO1, f1⟩ := hr
    have er' : r = b1_ (sc_ k w X Y) := by
      rw [er]
      rcases hk with rfl | rfl
      · have : m = false := eq_false_of_ne_true (fun z => absurd (hm.mp z) (by decide))
        rw [this]; rfl
      · rw [hm.mpr rfl]; rfl
    have bO2 : br_ (sf_ σ1 23) 1026 (sp_ k w X Y) := by
      rcases hk with rfl | rfl
      · have : m = false := eq_false_of_ne_true (fun z => absurd (hm.mp z) (by decide))
        rw [this] at bO1; exact bO1
      · rw [hm.mpr rfl] at bO1; exact bO1
    clear er bO1
    have f2 : fr_ [] [] [20, 21, 22, 23, 24] [] σ (uf_ σ1 20 (upd (sf_ σ1 20) (0 : Int32).toNatClampNeg r)) := fr_trans (fr_mono f1 (by decide) (by decide) (by decide) (by decide)) (fr_uf _ _ (by decide))
    have g0 : sf_ (uf_ σ1 20 (upd (sf_ σ1 20) (0 : Int32).toNatClampNeg r)) 20 0 = b1_ (sc_ k w X Y) := by rw [sf_self]; exact pk_us.trans er'
    have g21 : sf_ (uf_ σ1 20 (upd (sf_ σ1 20) (0 : Int32).toNatClampNeg r)) 21 (nI w - 1).toNatClampNeg = b1_ (ng_ w X) := by
      rw [sf_ne _ _ (by decide), f1.2.2.1 21 (by decide), e1, nI_clamp (by omega)]; exact bX _ (by omega)
    have g22 : sf_ (uf_ σ1 20 (upd (sf_ σ1 20) (0 : Int32).toNatClampNeg r)) 22 (nI w - 1).toNatClampNeg = b1_ (ng_ w Y) := by
      rw [sf_ne _ _ (by decide), f1.2.2.1 22 (by decide), e1, nI_clamp (by omega)]; exact bY _ (by omega)
    have b23 : br_ (sf_ (uf_ σ1 20 (upd (sf_ σ1 20) (0 : Int32).toNatClampNeg r)) 23) 1026 (sp_ k w X Y) := by rw [sf_ne _ _ (by decide)]; exact bO2
    generalize hσ2 : uf_ σ1 20 (upd (sf_ σ1 20) (0 : Int32).toNatClampNeg r) = σ2 at f2 g0 g21 g22 b23
    have g23 : sf_ σ2 23 (nI w - 1).toNatClampNeg = b1_ (ng_ w (sp_ k w X Y)) := by
      rw [e1, nI_clamp (by omega)]; exact b23 _ (by omega)
    have fin : ∀ v : Bool, v = sw_ k w X Y → ks_W L xs mX5_sums rm_X5_sums 115 [] [.int (b1_ v), .int 1, .ref 20] σ2 0 0 (pv_ fun σ' => om_ k w X Y σ σ') := by
      intro v hv
      refine sg_X5_sums_115 (vp_in_nI (n := 1) (by decide) (by decide)) ⟨rfl, ?_, ?_, ?_, ?_⟩
      · rw [sf_ne _ _ (by decide), if_neg (by omega)]
        intro t ht
        show sf_ σ2 23 (0 + t) = _
        rw [Nat.zero_add]; exact b23 t (by omega)
      · rw [sf_self]; exact (pk_un (by decide)).trans g0
      · rw [sf_self, ← hv]; exact pk_us
      · exact fr_trans f2 (fr_uf _ _ (by decide))
    have hsw : sw_ k w X Y = ((if k = 0 then ng_ w X == ng_ w Y else ng_ w X != ng_ w Y) && (ng_ w (sp_ k w X Y) != ng_ w X)) := by
      rcases hk with rfl | rfl
      · show ((ng_ w X == ng_ w Y) && ((X + Y).testBit (w - 1) != ng_ w X)) = ((ng_ w X == ng_ w Y) && (ng_ w ((X + Y) % 2 ^ w) != ng_ w X))
        rw [ng_mod h1]; rfl
      · rfl
    have last : ∀ p : Bool, p = (if k = 0 then ng_ w X == ng_ w Y else ng_ w X != ng_ w Y) → ks_W L xs mX5_sums rm_X5_sums 81 [(0, .ref 17), (2, .int (nI w))] [.int (b1_ p)] σ2 0 0 (pv_ fun σ' => om_ k w X Y σ σ') := by
      intro p hp
      rw [← hp] at hsw
      refine sg_X5_sums_81 (fun c => sg_X5_sums_114 (fin false ?_)) (fun _ => hin2) (fun _ => hin) (fun _ c => sg_X5_sums_114 (fin false ?_)) (fun c d => fin true ?_)
      · rw [b1_0] at c
        rw [hsw, c]; rfl
      · rw [g23, g21, b1_inj] at c
        rw [hsw, c]; simp
      · rw [b1_0] at c
        rw [g23, g21, b1_inj] at d
        rw [hsw, eq_true_of_ne_false c]
        simp [d]
    refine sg_X5_sums_25 (vp_in_nI (n := 0) (by decide) (by decide)) (fun _ => hin) (fun _ => hin) (fun c d => ?_) (fun c d => ?_) (fun _ => hin) (fun _ => hin) (fun c d => ?_) (fun c d => ?_) <;> rw [hσ2] at d ⊢ <;> rw [g21, g22, b1_inj] at d
    · have : k ≠ 0 := fun z => c (by rw [z]; rfl)
      exact last false (by rw [if_neg this, d]; simp)
    · have : k ≠ 0 := fun z => c (by rw [z]; rfl)
      exact last true (by rw [if_neg this]; simp [d])
    · have : k = 0 := (nI_eq (b := 0) (by omega) (by decide)).mp c
      exact last false (by rw [if_pos this]; simp [d])
    · have : k = 0 := (nI_eq (b := 0) (by omega) (by decide)).mp c
      exact last true (by rw [if_pos this, d]; simp)
  refine sg_X5_sums_0 (fun c => absurd c c2) (fun c => absurd c c2) (fun c => absurd c c2) (fun c => absurd c c2) (fun _ c => ?_) (fun _ c => ?_)
  · have : k ≠ 1 := fun z => c (by rw [z]; rfl)
    exact main false ⟨fun z => absurd z (by decide), fun z => absurd z this⟩
  · have : k = 1 := (nI_eq (b := 1) (by omega) (by decide)).mp c
    exact main true ⟨fun _ => this, fun _ => rfl⟩
theorem am_mul_lt (h1 : 1 ≤ w) (hX : X < 2 ^ w) (hY : Y < 2 ^ w) : am_ w X * am_ w Y < 2 ^ (2 * w) := by
  have a := am_lt h1 hX
  have b := am_lt h1 hY
  rw [show 2 * w = w + w by omega, Nat.pow_add]
  exact Nat.mul_lt_mul_of_lt_of_le a (Nat.le_of_lt b) (Nat.two_pow_pos w)
theorem m_sums2 (h1 : 1 ≤ w) (hw : w ≤ 512) (bX : br_ (sf_ σ 21) 513 X) (bY : br_ (sf_ σ 22) 513 Y) (bO : br_ (sf_ σ 23) 1026 0) (hX : X < 2 ^ w) (hY : Y < 2 ^ w) : ks_M L xs mX5_sums rm_X5_sums [.ref 17, .int 2, .int (nI w)] σ (pv_ fun σ' => sf_ σ' 20 1 = b1_ (sw_ 2 w X Y) ∧ (∀ k, k ≠ 1 → sf_ σ' 20 k = sf_ σ 20 k) ∧ fr_ [] [] [20, 21, 22, 23, 24] [] σ σ') := by
  refine ks_body (by decide) (Nat.le_of_ble_eq_true rfl) ?_
  have e1 : nI w - 1 = nI (w - 1) := pk_sub (b := 1) h1
  have hin : vp_in (nI w - 1) 513 := by rw [e1]; exact vp_in_nI (by omega) (by decide)
  have g21 : sf_ σ 21 (nI w - 1).toNatClampNeg = b1_ (ng_ w X) := by rw [e1, nI_clamp (by omega)]; exact bX _ (by omega)
  have g22 : sf_ σ 22 (nI w - 1).toNatClampNeg = b1_ (ng_ w Y) := by rw [e1, nI_clamp (by omega)]; exact bY _ (by omega)
  refine sg_X5_sums_0 (fun _ c => absurd rfl c) (fun _ _ => hin) (fun _ _ => hin) (fun _ _ => ?_) (fun c => absurd (by decide) c) (fun c => absurd (by decide) c)
  rw [g21, g22]
  refine cs_X5_sums_143 (m_amounts h1 hw bX bY hX hY) (fun σ1 hr => ?_)
  obtain ⟨b1, b2, f1⟩ := hr
  refine sg_X5_sums_146 (cs_X5_sums_148 (m_multiply hw b1 b2 (by rw [f1.2.2.1 23 (by decide)]; exact bO) (am_lt h1 hX) (am_lt h1 hY)) (fun σ2 hr => ?_))
  obtain ⟨b3, f2⟩ := hr
  have f12 : fr_ [] [] [20, 21, 22, 23, 24] [] σ σ2 := fr_trans (fr_mono f1 (by decide) (by decide) (by decide) (by decide)) (fr_mono f2 (by decide) (by decide) (by decide) (by decide))
  have k20 : sf_ σ2 20 = sf_ σ 20 := (f2.2.2.1 20 (by decide)).trans (f1.2.2.1 20 (by decide))
  have go : ∀ p : Bool, p = (ng_ w X != ng_ w Y) → ks_W L xs mX5_sums rm_X5_sums 169 [] [.int (b1_ p), .int (nI w), .ref 17, .int 1, .ref 20] σ2 0 0 (pv_ fun σ' => sf_ σ' 20 1 = b1_ (sw_ 2 w X Y) ∧ (∀ k, k ≠ 1 → sf_ σ' 20 k = sf_ σ 20 k) ∧ fr_ [] [] [20, 21, 22, 23, 24] [] σ σ') := by
    intro p hp
    refine cs_X5_sums_169 (m_fits p h1 hw b3 (am_mul_lt h1 hX hY)) (fun r σ3 hr => ?_)
    obtain ⟨rfl, rfl⟩ := hr
    rw [hp]
    have hs := sw_two hX hY
    have fin : ∀ v : Bool, v = sw_ 2 w X Y → ks_W L xs mX5_sums rm_X5_sums 180 [] [.int (b1_ v), .int 1, .ref 20] σ3 0 0 (pv_ fun σ' => sf_ σ' 20 1 = b1_ (sw_ 2 w X Y) ∧ (∀ k, k ≠ 1 → sf_ σ' 20 k = sf_ σ 20 k) ∧ fr_ [] [] [20, 21, 22, 23, 24] [] σ σ') := by
      intro v hv
      refine sg_X5_sums_180 (vp_in_nI (n := 1) (by decide) (by decide)) (sg_X5_sums_181 ⟨rfl, ?_, fun k hk => ?_, fr_trans f12 (fr_uf _ _ (by decide))⟩)
      · rw [sf_self, ← hv]; exact pk_us
      · rw [sf_self, k20]; exact pk_un hk
    refine sg_X5_sums_172 (fun c => fin true ?_) (fun c => fin false ?_)
    · rw [b1_0] at c
      rw [hs, c]; rfl
    · rw [b1_0] at c
      rw [hs, eq_true_of_ne_false c]; rfl
  refine sg_X5_sums_151 (fun c => ?_) (fun c => ?_)
  · rw [b1_inj] at c
    exact go false (by rw [c]; simp)
  · rw [b1_inj] at c
    exact go true (by simp [c])
theorem m_quotients (k : Nat) (hk : k = 4 ∨ k = 5 ∨ k = 6 ∨ k = 7) (h1 : 1 ≤ w) (hw : w ≤ 512) (bX : br_ (sf_ σ 21) 513 X) (bY : br_ (sf_ σ 22) 513 Y) (bO : br_ (sf_ σ 23) 1026 0) (hX : X < 2 ^ w) (hY : Y < 2 ^ w) (hY0 : Y ≠ 0) (s0 : sf_ σ 20 0 = 0) (s1 : sf_ σ 20 1 = 0) : ks_M L xs mX5_quotients rm_X5_quotients [.ref 17, .int (nI k), .int (nI w)] σ (pv_ fun σ' => om_ k w X Y σ σ') := by
  refine ks_body (by decide) (Nat.le_of_ble_eq_true rfl) ?_
  have e1 : nI w - 1 = nI (w - 1) := pk_sub (b := 1) h1
  have hin : vp_in (nI w - 1) 513 := by rw [e1]; exact vp_in_nI (by omega) (by decide)
  have g21 : sf_ σ 21 (nI w - 1).toNatClampNeg = b1_ (ng_ w X) := by rw [e1, nI_clamp (by omega)]; exact bX _ (by omega)
  have g22 : sf_ σ 22 (nI w - 1).toNatClampNeg = b1_ (ng_ w Y) := by rw [e1, nI_clamp (by omega)]; exact bY _ (by omega)
  have nk : ∀ j, j < 2 ^ 31 → (nI k = nI j ↔ k = j) := fun j hj => nI_eq (by omega) hj
  have sc0 : sc_ k w X Y = false := by rcases hk with rfl | rfl | rfl | rfl <;> rfl
  -- what the last step makes of the row O
  have fin : ∀ (σ4 : ks_St) (O : Nat) (t : Bool), br_ (sf_ σ4 23) 1026 O → O < 2 ^ w → sf_ σ4 20 0 = 0 → sf_ σ4 20 1 = b1_ (sw_ k w X Y) → fr_ [] [] [20, 21, 22, 23, 24] [] σ σ4 → (t = true ↔ (k = 6 ∧ ng_ w X ≠ ng_ w Y) ∨ (k = 7 ∧ ng_ w X = true)) → sp_ k w X Y = (if t then nt_ w O else O) →
      ks_W L xs mX5_quotients rm_X5_quotients 85 [(0, .ref 17), (1, .int (nI k)), (2, .int (nI w)), (3, .int (b1_ (ng_ w X))), (4, .int (b1_ (ng_ w Y)))] [] σ4 0 0 (pv_ fun σ' => om_ k w X Y σ σ') := by
    intro σ4 O t bO4 hO g0 g1 f4 ht hsp
    have no : t = false → ks_W L xs mX5_quotients rm_X5_quotients 113 [] [] σ4 0 0 (pv_ fun σ' => om_ k w X Y σ σ') := by
      intro z
      rw [z] at hsp
      refine sg_X5_quotients_113 ⟨rfl, ?_, by rw [sc0]; exact g0, g1, f4⟩
      rw [if_neg (by omega), hsp]
      intro u hu
      show sf_ σ4 23 (0 + u) = _
      rw [Nat.zero_add]; exact bO4 u (by omega)
    have yes : t = true → ks_W L xs mX5_quotients rm_X5_quotients 108 [(0, .ref 17), (2, .int (nI w))] [] σ4 0 0 (pv_ fun σ' => om_ k w X Y σ σ') := by
      intro z
      rw [z] at hsp
      refine sg_X5_quotients_108 (cs_X5_quotients_110 (m_turn hw bO4) (fun σ5 hr => ?_))
      obtain ⟨b5, f5⟩ := hr
      refine sg_X5_quotients_113 ⟨rfl, ?_, by rw [sc0, f5.2.2.1 20 (by decide)]; exact g0, by rw [f5.2.2.1 20 (by decide)]; exact g1, fr_trans f4 (fr_mono f5 (by decide) (by decide) (by decide) (by decide))⟩
      rw [if_neg (by omega), hsp]
      intro u hu
      show sf_ σ5 23 (0 + u) = _
      rw [Nat.zero_add]; exact b5 u hu
    have tf : ¬ ((k = 6 ∧ ng_ w X ≠ ng_ w Y) ∨ (k = 7 ∧ ng_ w X = true)) → t = false := fun z => eq_false_of_ne_true (fun y => z (ht.mp y))
    have at97 : ¬ (k = 6 ∧ ng_ w X ≠ ng_ w Y) → ks_W L xs mX5_quotients rm_X5_quotients 97 [(0, .ref 17), (1, .int (nI k)), (2, .int (nI w)), (3, .int (b1_ (ng_ w X)))] [] σ4 0 0 (pv_ fun σ' => om_ k w X Y σ σ') := by
      intro z
      refine sg_X5_quotients_97 (fun c => no (tf ?_)) (fun c d => no (tf ?_)) (fun c d => yes (ht.mpr (Or.inr ⟨(nk 7 (by decide)).mp c, b1_1.mp d⟩)))
      · rintro (y | y)
        · exact z y
        · exact c (by rw [y.1]; rfl)
      · rw [b1_1] at d
        rintro (y | y)
        · exact z y
        · exact d y.2
    refine sg_X5_quotients_85 (fun c => at97 fun y => c (by rw [y.1]; rfl)) (fun c d => yes (ht.mpr (Or.inl ⟨(nk 6 (by decide)).mp c, fun y => d (by rw [y])⟩))) (fun c d => at97 fun y => y.2 (b1_inj.mp d))
  -- from the division on
  have main : ∀ (σ1 : ks_St) (P Q : Nat), br_ (sf_ σ1 21) 513 P → br_ (sf_ σ1 22) 513 Q → fr_ [] [] [21, 22] [] σ σ1 → P < 2 ^ w → Q < 2 ^ w → Q ≠ 0 → ((k = 4 ∨ k = 5) ∧ P = X ∧ Q = Y ∨ (k = 6 ∨ k = 7) ∧ P = am_ w X ∧ Q = am_ w Y) →
      ks_W L xs mX5_quotients rm_X5_quotients 29 [(0, .ref 17), (1, .int (nI k)), (2, .int (nI w)), (3, .int (b1_ (ng_ w X))), (4, .int (b1_ (ng_ w Y)))] [] σ1 0 0 (pv_ fun σ' => om_ k w X Y σ σ') := by
    intro σ1 P Q bP bQ f1 hP hQ hQ0 hPQ
    refine sg_X5_quotients_29 (cs_X5_quotients_31 (m_divide h1 hw bP bQ (by rw [f1.2.2.1 23 (by decide)]; exact bO) hP hQ hQ0) (fun σ2 hr => ?_))
    obtain ⟨bq, br, f2⟩ := hr
    have f12 : fr_ [] [] [20, 21, 22, 23, 24] [] σ σ2 := fr_trans (fr_mono f1 (by decide) (by decide) (by decide) (by decide)) (fr_mono f2 (by decide) (by decide) (by decide) (by decide))
    have k20 : sf_ σ2 20 = sf_ σ 20 := (f2.2.2.1 20 (by decide)).trans (f1.2.2.1 20 (by decide))
    have hq : P / Q < 2 ^ w := Nat.lt_of_le_of_lt (Nat.div_le_self _ _) hP
    have hr : P % Q < 2 ^ w := Nat.lt_of_le_of_lt (Nat.mod_le _ _) hP
    have at69 : ∀ σ3, br_ (sf_ σ3 23) 1026 (P / Q) → br_ (sf_ σ3 24) 514 (P % Q) → sf_ σ3 20 0 = 0 → sf_ σ3 20 1 = b1_ (sw_ k w X Y) → fr_ [] [] [20, 21, 22, 23, 24] [] σ σ3 → ks_W L xs mX5_quotients rm_X5_quotients 69 [(0, .ref 17), (1, .int (nI k)), (2, .int (nI w)), (3, .int (b1_ (ng_ w X))), (4, .int (b1_ (ng_ w Y)))] [] σ3 0 0 (pv_ fun σ' => om_ k w X Y σ σ') := by
      intro σ3 bq br g0 g1 f3
      have take : (k = 5 ∨ k = 7) → ks_W L xs mX5_quotients rm_X5_quotients 80 [(0, .ref 17), (1, .int (nI k)), (2, .int (nI w)), (3, .int (b1_ (ng_ w X))), (4, .int (b1_ (ng_ w Y)))] [] σ3 0 0 (pv_ fun σ' => om_ k w X Y σ σ') := by
        intro h57
        refine sg_X5_quotients_80 (cs_X5_quotients_82 (m_takeRest hw br hr bq hq) (fun σ4 hr' => ?_))
        obtain ⟨b4, f4⟩ := hr'
        refine fin σ4 (P % Q) (decide (k = 7) && ng_ w X) b4 hr (by rw [f4.2.2.1 20 (by decide)]; exact g0) (by rw [f4.2.2.1 20 (by decide)]; exact g1) (fr_trans f3 (fr_mono f4 (by decide) (by decide) (by decide) (by decide))) ?_ ?_
        · rcases h57 with rfl | rfl <;> simp
        · rcases h57 with rfl | rfl
          · rcases hPQ with ⟨-, rfl, rfl⟩ | ⟨z, -⟩
            · rfl
            · omega
          · rcases hPQ with ⟨z, -⟩ | ⟨-, rfl, rfl⟩
            · omega
            · show (if ng_ w X then nt_ w (am_ w X % am_ w Y) else am_ w X % am_ w Y) = _
              simp
      refine sg_X5_quotients_69 (fun c => take (Or.inl ((nk 5 (by decide)).mp c))) (fun c d => ?_) (fun _ c => take (Or.inr ((nk 7 (by decide)).mp c)))
      have c' : k ≠ 5 := fun z => c (by rw [z]; rfl)
      have d' : k ≠ 7 := fun z => d (by rw [z]; rfl)
      have h46 : k = 4 ∨ k = 6 := by omega
      refine fin σ3 (P / Q) (decide (k = 6) && (ng_ w X != ng_ w Y)) bq hq g0 g1 f3 ?_ ?_
      · rcases h46 with rfl | rfl <;> simp
      · rcases h46 with rfl | rfl
        · rcases hPQ with ⟨-, rfl, rfl⟩ | ⟨z, -⟩
          · rfl
          · omega
        · rcases hPQ with ⟨z, -⟩ | ⟨-, rfl, rfl⟩
          · omega
          · show (if ng_ w X = ng_ w Y then am_ w X / am_ w Y else nt_ w (am_ w X / am_ w Y)) = _
            by_cases z : ng_ w X = ng_ w Y
            · simp [z]
            · simp [z]
    have hset : ∀ v : Bool, k = 6 → v = sw_ k w X Y → ks_W L xs mX5_quotients rm_X5_quotients 68 [(0, .ref 17), (1, .int (nI k)), (2, .int (nI w)), (3, .int (b1_ (ng_ w X))), (4, .int (b1_ (ng_ w Y)))] [.int (b1_ v), .int 1, .ref 20] σ2 0 0 (pv_ fun σ' => om_ k w X Y σ σ') := by
      intro v _ hv
      refine sg_X5_quotients_68 (vp_in_nI (n := 1) (by decide) (by decide)) (at69 _ ?_ ?_ ?_ ?_ (fr_trans f12 (fr_uf _ _ (by decide))))
      · rw [sf_ne _ _ (by decide)]; exact bq
      · rw [sf_ne _ _ (by decide)]; exact br
      · rw [sf_self, k20]; exact (pk_un (by decide)).trans s0
      · rw [sf_self, ← hv]; exact pk_us
    have g23 : sf_ σ2 23 (nI w - 1).toNatClampNeg = b1_ ((P / Q).testBit (w - 1)) := by rw [e1, nI_clamp (by omega)]; exact bq _ (by omega)
    have sw6 : k = 6 → sw_ k w X Y = ((ng_ w X == ng_ w Y) && (P / Q).testBit (w - 1)) := by
      rintro rfl
      rcases hPQ with ⟨z, -⟩ | ⟨-, rfl, rfl⟩
      · omega
      · rfl
    refine sg_X5_quotients_34 (fun c => ?_) (fun c d => ?_) (fun _ _ => by rw [e1]; exact vp_in_nI (by omega) (by decide)) (fun c d e => ?_) (fun c d e => ?_)
    · have c' : k ≠ 6 := fun z => c (by rw [z]; rfl)
      refine at69 σ2 bq br (by rw [k20]; exact s0) ?_ f12
      rw [k20, s1]
      rcases hk with rfl | rfl | rfl | rfl
      · rfl
      · rfl
      · exact absurd rfl c'
      · rfl
    · have c' := (nk 6 (by decide)).mp c
      rw [b1_inj] at d
      exact sg_X5_quotients_67 (hset false c' (by rw [sw6 c']; simp [d]))
    · have c' := (nk 6 (by decide)).mp c
      rw [g23, b1_1] at e
      exact sg_X5_quotients_67 (hset false c' (by rw [sw6 c', eq_false_of_ne_true e]; simp))
    · have c' := (nk 6 (by decide)).mp c
      rw [g23, b1_1] at e
      rw [b1_inj] at d
      exact hset true c' (by rw [sw6 c', e, d]; simp)
  have c5 : nI k ≤ 5 ↔ k ≤ 5 := nI_leI (b := 5) (by omega) (by decide)
  refine sg_X5_quotients_0 hin hin (fun c => ?_) (fun c => ?_)
  · rw [c5] at c
    rw [g21, g22]
    exact main σ X Y bX bY (fr_refl _) hX hY hY0 (Or.inl ⟨by omega, rfl, rfl⟩)
  · rw [c5] at c
    rw [g21, g22]
    refine cs_X5_quotients_26 (m_amounts h1 hw bX bY hX hY) (fun σ1 hr => ?_)
    obtain ⟨b1, b2, f1⟩ := hr
    exact main σ1 _ _ b1 b2 f1 (am_lt h1 hX) (am_lt h1 hY) (am_pos hY hY0) (Or.inr ⟨by omega, rfl, rfl⟩)
end
end
