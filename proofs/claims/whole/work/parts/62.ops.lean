/-! ===== Operations: quotients, moves, turns ===== -/
theorem bit_m1 (g : Nat → Int64) (n : Nat) : km_bit g n (-1) = 0 := by
  unfold km_bit
  rw [show (-1 : Int32) >>> ((6 : Int32) &&& 31) = -1 by decide, limb_neg (by decide)]
  decide
theorem mod_576 {X w : Nat} (hw : w ≤ 576) : X % 2 ^ (64 * 9) % 2 ^ w = X % 2 ^ w := Nat.mod_mod_of_dvd _ (Nat.pow_dvd_pow 2 (by omega))
section
variable {L : Nat} {xs : Nat → Int32} {σ : ks_St}
theorem c_quot_tail {A B w k : Nat} {σ1 : ks_St} {p5 p6 p7 : Bool} (hk : k = 4 ∨ k = 5 ∨ k = 6 ∨ k = 7) (hA : rw_ (sg_ σ1 3) 9 A) (hB : rw_ (sg_ σ1 4) 9 B) (hs : si_ σ1 6 = nI w) (hs2 : si_ σ1 2 = 0) (hs3 : si_ σ1 3 = 0) (h1 : 1 ≤ w) (hw : w ≤ 512) (hAw : A < 2 ^ w) (hBw : B < 2 ^ w) (hB0 : B ≠ 0) (hf : fo_ σ σ1)
    {v : Bool} {V : Nat} (hV : V = if (if k = 4 ∨ k = 6 then p6 != p7 else p6) then nt_ w (if k = 4 ∨ k = 6 then A / B else A % B) else (if k = 4 ∨ k = 6 then A / B else A % B)) (hv : v = (p5 && decide (k = 4 ∨ k = 6) && (p6 == p7) && ng_ w (A / B))) :
    ks_W L xs mX1_quotientOrRest rm_X1_quotientOrRest 81 [(0, .ref 6), (1, .int (nI k)), (2, .ref 3), (3, .ref 4), (4, .ref 5), (5, .int (b1_ p5)), (6, .int (b1_ p6)), (7, .int (b1_ p7))] [] σ1 0 0 (pv_ fun σ' => ∃ O, O % 2 ^ w = V ∧ op_ w σ false v O σ') := by
  have h512 : 2 ^ w ≤ 2 ^ 512 := Nat.pow_le_pow_right (by decide) hw
  refine sg_X1_quotientOrRest_81 row_3 row_4 row_5 ?_
  rw [hs]
  refine cs_X1_quotientOrRest_91 (c_divide row_3 row_4 (by decide) (by decide) (by decide) hA hB hw hAw hBw hB0) (fun σ2 h => ?_)
  obtain ⟨hQ, hR, hf2⟩ := h
  have i2 : ∀ j, si_ σ2 j = si_ σ1 j := fun j => hf2.1 j (by simp)
  have hQl : A / B ≤ A := Nat.div_le_self _ _
  have hRl : A % B ≤ A := Nat.mod_le _ _
  have hf3 : fo_ σ σ2 := fr_trans hf (fr_mono hf2 (by decide) (by decide) (by decide) (by decide))
  have tail : ∀ (r : Nat) (X : Nat) (q : Bool), rl_ r 9 → r ≠ 5 → rw_ (sg_ σ2 r) 9 X → X < 2 ^ w → V = (if (if q then p6 != p7 else p6) then nt_ w X else X) → v = (p5 && q && (p6 == p7) && ng_ w X) →
      ks_W L xs mX1_quotientOrRest rm_X1_quotientOrRest 134 [(0, .ref 6), (4, .ref 5), (5, .int (b1_ p5)), (6, .int (b1_ p6)), (7, .int (b1_ p7)), (8, .int (b1_ q))] [.ref r] σ2 0 0 (pv_ fun σ' => ∃ O, O % 2 ^ w = V ∧ op_ w σ false v O σ') := by
    intro r X q hr hr5 hX hXw eV ev
    refine sg_X1_quotientOrRest_134 row_5 hr (cs_X1_quotientOrRest_137 (c_moveUp hr row_5 hr5) (fun σ3 h => ?_))
    have hO := rw_up (g0 := sg_ σ2 5) (no := 9) (s := 0) hX (by omega) (by omega) (by omega) (by omega)
    rw [Nat.pow_zero, Nat.mul_one, Nat.mod_eq_of_lt hX.1] at hO
    have g5 : rw_ (sg_ σ3 5) 9 X := by rw [h, sg_self]; exact hO
    have i3 : ∀ j, si_ σ3 j = si_ σ1 j := fun j => by rw [h, si_ug]; exact i2 j
    have hf4 : fo_ σ σ3 := by rw [h]; exact fr_trans hf3 (fr_ug _ _ (by decide))
    clear h
    -- with the answer's sign ab
    have step : ∀ ab : Bool, V = (if ab then nt_ w X else X) → v = (p5 && q && !ab && ng_ w X) → ks_W L xs mX1_quotientOrRest rm_X1_quotientOrRest 162 [(0, .ref 6), (4, .ref 5), (5, .int (b1_ p5)), (8, .int (b1_ q))] [.int (b1_ ab)] σ3 0 0 (pv_ fun σ' => ∃ O, O % 2 ^ w = V ∧ op_ w σ false v O σ') := by
      intro ab eV ev
      have last : ∀ σ4, rw_ (sg_ σ4 5) 9 X → si_ σ4 2 = 0 → si_ σ4 3 = b1_ v → si_ σ4 6 = nI w → fo_ σ σ4 → ks_W L xs mX1_quotientOrRest rm_X1_quotientOrRest 189 [(0, .ref 6), (4, .ref 5), (9, .int (b1_ ab))] [] σ4 0 0 (pv_ fun σ' => ∃ O, O % 2 ^ w = V ∧ op_ w σ false v O σ') := by
        intro σ4 l5 l2 l3 l6 lf
        refine sg_X1_quotientOrRest_189 row_5 (fun c => ?_) (fun c => ?_)
        · rw [b1_0] at c
          refine sg_X1_quotientOrRest_203 ⟨rfl, X, ?_, l5, l2, l3, l6, lf⟩
          rw [eV, c]
          exact Nat.mod_eq_of_lt hXw
        · have c' : ab = true := by cases ab; · exact absurd rfl c
                                    · rfl
          rw [l6]
          refine cs_X1_quotientOrRest_200 (c_negate row_5) (fun σ5 h => ?_)
          have hn := rw_negate (w := w) l5 (by omega) (by omega)
          refine sg_X1_quotientOrRest_203 ⟨rfl, nt_ w X, ?_, ?_, ?_, ?_, ?_, ?_⟩
          · rw [eV, c', if_pos rfl]; exact Nat.mod_eq_of_lt (nt_lt _ _)
          · rw [h, sg_self]; exact hn
          · rw [h, si_ug]; exact l2
          · rw [h, si_ug]; exact l3
          · rw [h, si_ug]; exact l6
          · rw [h]; exact fr_trans lf (fr_ug _ _ (by decide))
      have plain : v = false → ks_W L xs mX1_quotientOrRest rm_X1_quotientOrRest 189 [(0, .ref 6), (4, .ref 5), (9, .int (b1_ ab))] [] σ3 0 0 (pv_ fun σ' => ∃ O, O % 2 ^ w = V ∧ op_ w σ false v O σ') := fun z => last σ3 g5 (by rw [i3]; exact hs2) (by rw [i3, z]; exact hs3) (by rw [i3]; exact hs) hf4
      refine sg_X1_quotientOrRest_162 row_5 (fun c => ?_) (fun _ c => ?_) (fun _ _ c => ?_) (fun c1 c2 c3 => ?_)
      · rw [b1_0] at c; exact plain (by rw [ev, c]; rfl)
      · rw [b1_0] at c; exact plain (by rw [ev, c]; simp)
      · have c' : ab = true := by cases ab; · exact absurd rfl c
                                  · rfl
        exact plain (by rw [ev, c']; simp)
      · rw [b1_0] at c1 c2 c3
        refine cs_X1_quotientOrRest_183 (c_highest row_5 g5 (by rw [i3]; exact hs) h1 hw) (fun r σ4 h => ?_)
        obtain ⟨rfl, rfl⟩ := h
        refine sg_X1_quotientOrRest_186 row_5 (last _ ?_ ?_ ?_ ?_ ?_)
        · rw [sg_ui]; exact g5
        · rw [si_ui, if_neg (by decide), i3]; exact hs2
        · rw [si_ui, if_pos rfl, ev, c3]
          simp only [Bool.not_eq_false] at c1 c2
          rw [c1, c2]; simp
        · rw [si_ui, if_neg (by decide), i3]; exact hs
        · exact fr_trans hf4 (fr_ui _ _ (by decide))
    refine sg_X1_quotientOrRest_140 row_5 (fun c => ?_) (fun c1 c2 => ?_) (fun c1 c2 => ?_)
    · rw [b1_0] at c
      exact step p6 (by rw [eV, c]; simp) (by rw [ev, c]; simp)
    · rw [b1_0] at c1
      rw [b1_inj] at c2
      simp only [Bool.not_eq_false] at c1
      exact step false (by rw [eV, c1, c2]; simp) (by rw [ev, c1, c2]; simp)
    · rw [b1_0] at c1
      rw [b1_inj] at c2
      simp only [Bool.not_eq_false] at c1
      exact step true (by rw [eV, c1]; simp [c2]) (by rw [ev, c1]; simp [c2])
  have isq : ∀ q : Bool, q = decide (k = 4 ∨ k = 6) → ks_W L xs mX1_quotientOrRest rm_X1_quotientOrRest 110 [(0, .ref 6), (4, .ref 5), (5, .int (b1_ p5)), (6, .int (b1_ p6)), (7, .int (b1_ p7))] [.int (b1_ q)] σ2 0 0 (pv_ fun σ' => ∃ O, O % 2 ^ w = V ∧ op_ w σ false v O σ') := by
    intro q hq
    refine sg_X1_quotientOrRest_110 row_5 (fun c => ?_) (fun c => ?_)
    · rw [b1_0] at c
      have hn : ¬ (k = 4 ∨ k = 6) := fun z => by rw [hq, decide_eq_true z] at c; exact absurd c (by decide)
      rw [if_neg hn, if_neg hn] at hV
      refine tail 10 _ q row_10 (by decide) hR (by omega) ?_ ?_
      · rw [hV, c]; simp
      · rw [hv, c, decide_eq_false hn]; simp
    · have c' : q = true := by cases q; · exact absurd rfl c
                               · rfl
      have hn : k = 4 ∨ k = 6 := by rw [c'] at hq; exact of_decide_eq_true hq.symm
      rw [if_pos hn, if_pos hn] at hV
      refine tail 9 _ q row_9 (by decide) hQ (by omega) ?_ ?_
      · rw [hV, c']; simp
      · rw [hv, c', decide_eq_true hn]
  have n4 : nI k = 4 ↔ k = 4 := nI_eq (a := k) (b := 4) (by omega) (by omega)
  have n6 : nI k = 6 ↔ k = 6 := nI_eq (a := k) (b := 6) (by omega) (by omega)
  refine sg_X1_quotientOrRest_94 row_5 (fun c => ?_) (fun c1 c2 => ?_) (fun c1 c2 => ?_)
  · rw [n4] at c
    exact sg_X1_quotientOrRest_105 row_5 (isq true (by simp [c]))
  · rw [n4] at c1
    rw [n6] at c2
    exact isq false (by simp [c1, c2])
  · rw [n6] at c2
    exact sg_X1_quotientOrRest_105 row_5 (isq true (by simp [c2]))
theorem c_quotientOrRest {A B w k : Nat} (hk : k = 4 ∨ k = 5 ∨ k = 6 ∨ k = 7) (hA : rw_ (sg_ σ 3) 9 A) (hB : rw_ (sg_ σ 4) 9 B) (hs : si_ σ 6 = nI w) (hs2 : si_ σ 2 = 0) (hs3 : si_ σ 3 = 0) (h1 : 1 ≤ w) (hw : w ≤ 512) (hAw : A < 2 ^ w) (hBw : B < 2 ^ w) (hB0 : B ≠ 0) :
    ks_M L xs mX1_quotientOrRest rm_X1_quotientOrRest [.ref 6, .int (nI k), .ref 3, .ref 4, .ref 5] σ (pv_ fun σ' => ∃ O, O % 2 ^ w = sp_ k w A B ∧ op_ w σ (sc_ k w A B) (sw_ k w A B) O σ') := by
  have hsc : sc_ k w A B = false := by rcases hk with rfl | rfl | rfl | rfl <;> rfl
  rw [hsc]
  refine ks_body (by decide) (Nat.le_of_ble_eq_true rfl) ?_
  have n6 : nI k < 6 ↔ k < 6 := nI_ltI (a := k) (b := 6) (by omega) (by omega)
  refine sg_X1_quotientOrRest_0 row_3 row_4 row_5 (fun c => ?_) (fun c => ?_)
  · rw [n6] at c
    refine sg_X1_quotientOrRest_11 row_3 row_4 row_5 (fun _ => ?_) (fun c => absurd rfl c)
    refine sg_X1_quotientOrRest_31 row_3 row_4 row_5 (sg_X1_quotientOrRest_32 row_3 row_4 row_5 (fun _ => ?_) (fun c => absurd rfl c))
    refine sg_X1_quotientOrRest_52 row_3 row_4 row_5 (sg_X1_quotientOrRest_53 row_3 row_4 row_5 (fun _ => ?_) (fun c => absurd rfl c))
    refine sg_X1_quotientOrRest_68 row_3 row_4 row_5 (fun _ => ?_) (fun c => absurd rfl c)
    refine c_quot_tail (p5 := false) (p6 := false) (p7 := false) hk hA hB hs hs2 hs3 h1 hw hAw hBw hB0 (fr_refl _) ?_ ?_
    · rcases hk with rfl | rfl | rfl | rfl
      · rfl
      · rfl
      · omega
      · omega
    · rcases hk with rfl | rfl | rfl | rfl
      · rfl
      · rfl
      · omega
      · omega
  · rw [n6] at c
    have hk2 : k = 6 ∨ k = 7 := by omega
    have goB : ∀ σ2, rw_ (sg_ σ2 3) 9 (am_ w A) → rw_ (sg_ σ2 4) 9 B → (∀ j, si_ σ2 j = si_ σ j) → fo_ σ σ2 → ks_W L xs mX1_quotientOrRest rm_X1_quotientOrRest 68 [(0, .ref 6), (1, .int (nI k)), (2, .ref 3), (3, .ref 4), (4, .ref 5), (5, .int 1), (6, .int (b1_ (ng_ w A))), (7, .int (b1_ (ng_ w B)))] [] σ2 0 0 (pv_ fun σ' => ∃ O, O % 2 ^ w = sp_ k w A B ∧ op_ w σ false (sw_ k w A B) O σ') := by
      intro σ2 a3 a4 ai af
      have goT : ∀ σ3, rw_ (sg_ σ3 3) 9 (am_ w A) → rw_ (sg_ σ3 4) 9 (am_ w B) → (∀ j, si_ σ3 j = si_ σ j) → fo_ σ σ3 → ks_W L xs mX1_quotientOrRest rm_X1_quotientOrRest 81 [(0, .ref 6), (1, .int (nI k)), (2, .ref 3), (3, .ref 4), (4, .ref 5), (5, .int 1), (6, .int (b1_ (ng_ w A))), (7, .int (b1_ (ng_ w B)))] [] σ3 0 0 (pv_ fun σ' => ∃ O, O % 2 ^ w = sp_ k w A B ∧ op_ w σ false (sw_ k w A B) O σ') := by
        intro σ3 b3 b4 bi bf
        refine c_quot_tail (p5 := true) hk b3 b4 (by rw [bi]; exact hs) (by rw [bi]; exact hs2) (by rw [bi]; exact hs3) h1 hw (am_lt h1 hAw) (am_lt h1 hBw) (am_pos hBw hB0) bf ?_ ?_
        · rcases hk2 with rfl | rfl
          · show (if ng_ w A = ng_ w B then _ else _) = _
            by_cases z : ng_ w A = ng_ w B
            · rw [if_pos z]; simp [z]
            · rw [if_neg z]; simp [z]
          · show (if ng_ w A then _ else _) = _
            simp
        · rcases hk2 with rfl | rfl
          · show ((ng_ w A == ng_ w B) && _) = _
            simp; rfl
          · show false = _
            simp
      refine sg_X1_quotientOrRest_68 row_3 row_4 row_5 (fun c => ?_) (fun c => ?_)
      · rw [b1_0] at c
        refine goT σ2 a3 ?_ ai af
        unfold am_; rw [c]; exact a4
      · have c' : ng_ w B = true := by
          cases z : ng_ w B
          · rw [z] at c; exact absurd rfl c
          · rfl
        rw [ai, hs]
        refine cs_X1_quotientOrRest_78 (c_negate row_4) (fun σ3 h => ?_)
        have hn := rw_negate (w := w) a4 (by omega) (by omega)
        refine goT σ3 ?_ ?_ ?_ ?_
        · rw [h, sg_ne _ _ (by decide)]; exact a3
        · rw [h, sg_self, ← nt_am hBw c']; exact hn
        · intro j; rw [h, si_ug]; exact ai j
        · rw [h]; exact fr_trans af (fr_ug _ _ (by decide))
    have goA : ks_W L xs mX1_quotientOrRest rm_X1_quotientOrRest 53 [(0, .ref 6), (1, .int (nI k)), (2, .ref 3), (3, .ref 4), (4, .ref 5), (5, .int 1), (6, .int (b1_ (ng_ w A)))] [.int (b1_ (ng_ w B))] σ 0 0 (pv_ fun σ' => ∃ O, O % 2 ^ w = sp_ k w A B ∧ op_ w σ false (sw_ k w A B) O σ') := by
      refine sg_X1_quotientOrRest_53 row_3 row_4 row_5 (fun c => ?_) (fun c => ?_)
      · rw [b1_0] at c
        refine goB σ ?_ hB (fun _ => rfl) (fr_refl _)
        unfold am_; rw [c]; exact hA
      · have c' : ng_ w A = true := by
          cases z : ng_ w A
          · rw [z] at c; exact absurd rfl c
          · rfl
        rw [hs]
        refine cs_X1_quotientOrRest_65 (c_negate row_3) (fun σ3 h => ?_)
        have hn := rw_negate (w := w) hA (by omega) (by omega)
        refine goB σ3 ?_ ?_ ?_ ?_
        · rw [h, sg_self, ← nt_am hAw c']; exact hn
        · rw [h, sg_ne _ _ (by decide)]; exact hB
        · intro j; rw [h, si_ug]
        · rw [h]; exact fr_ug _ _ (by decide)
    have sB : ks_W L xs mX1_quotientOrRest rm_X1_quotientOrRest 32 [(0, .ref 6), (1, .int (nI k)), (2, .ref 3), (3, .ref 4), (4, .ref 5), (5, .int 1)] [.int (b1_ (ng_ w A))] σ 0 0 (pv_ fun σ' => ∃ O, O % 2 ^ w = sp_ k w A B ∧ op_ w σ false (sw_ k w A B) O σ') := by
      refine sg_X1_quotientOrRest_32 row_3 row_4 row_5 (fun c => absurd c (by decide)) (fun _ => ?_)
      refine cs_X1_quotientOrRest_41 (c_highest row_4 hB hs h1 hw) (fun r σ1 h => ?_)
      obtain ⟨rfl, rfl⟩ := h
      refine sg_X1_quotientOrRest_44 row_3 row_4 row_5 (fun c => ?_) (fun c => ?_)
      · have c' : ng_ w B = false := by
          cases z : ng_ w B
          · rfl
          · rw [z] at c; exact absurd rfl c
        have g := goA
        rw [c'] at g
        exact sg_X1_quotientOrRest_52 row_3 row_4 row_5 g
      · have g := goA
        rw [c] at g
        exact g
    refine sg_X1_quotientOrRest_11 row_3 row_4 row_5 (fun c => absurd c (by decide)) (fun _ => ?_)
    refine cs_X1_quotientOrRest_20 (c_highest row_3 hA hs h1 hw) (fun r σ1 h => ?_)
    obtain ⟨rfl, rfl⟩ := h
    refine sg_X1_quotientOrRest_23 row_3 row_4 row_5 (fun c => ?_) (fun c => ?_)
    · have c' : ng_ w A = false := by
        cases z : ng_ w A
        · rfl
        · rw [z] at c; exact absurd rfl c
      have g := sB
      rw [c'] at g
      exact sg_X1_quotientOrRest_31 row_3 row_4 row_5 g
    · have g := sB
      rw [c] at g
      exact g
theorem fill_mod {X w n : Nat} (hw : w ≤ 512) (hn : n ≤ w) (hX : X < 2 ^ w) : (X ||| (2 ^ (64 * 9) - 2 ^ n)) % 2 ^ w = X ||| (2 ^ w - 2 ^ n) := by
  have p1 : 2 ^ n ≤ 2 ^ w := Nat.pow_le_pow_right (by decide) hn
  have p2 : 2 ^ w ≤ 2 ^ (64 * 9) := Nat.pow_le_pow_right (by decide) (by omega)
  have p0 := Nat.two_pow_pos n
  have hb : ∀ m j, n ≤ m → (2 ^ m - 2 ^ n).testBit j = (decide (j < m) && !(decide (j < n))) := fun m j hm => by
    have := Nat.pow_le_pow_right (show 0 < 2 by decide) hm
    rw [show 2 ^ m - 2 ^ n = 2 ^ m - ((2 ^ n - 1) + 1) by omega, Nat.testBit_two_pow_sub_succ (by omega), Nat.testBit_two_pow_sub_one]
  refine nat_ext (w := w) (Nat.mod_lt _ (Nat.two_pow_pos _)) (Nat.or_lt_two_pow hX (by omega)) (fun k hk => ?_)
  rw [Nat.testBit_mod_two_pow, Nat.testBit_or, Nat.testBit_or, hb _ _ (by omega), hb _ _ hn]
  simp [hk, show k < 64 * 9 by omega]
theorem c_moved {A B w k : Nat} (hk : k = 8 ∨ k = 9 ∨ k = 10) (hA : rw_ (sg_ σ 3) 9 A) (hB : rw_ (sg_ σ 4) 9 B) (hs : si_ σ 6 = nI w) (hs2 : si_ σ 2 = 0) (hs3 : si_ σ 3 = 0) (h1 : 1 ≤ w) (hw : w ≤ 512) (hAw : A < 2 ^ w) :
    ks_M L xs mX1_moved rm_X1_moved [.ref 6, .int (nI k), .ref 3, .ref 4, .ref 5] σ (pv_ fun σ' => ∃ O, O % 2 ^ w = sp_ k w A B ∧ op_ w σ (sc_ k w A B) (sw_ k w A B) O σ') := by
  have hsw : sw_ k w A B = false := by rcases hk with rfl | rfl | rfl <;> rfl
  rw [hsw]
  have hAb : A.testBit w = false := Nat.testBit_lt_two_pow hAw
  refine ks_body (by decide) (Nat.le_of_ble_eq_true rfl) ?_
  refine sg_X1_moved_0 row_3 row_4 row_5 ?_
  rw [hs, nI_1]
  refine cs_X1_moved_7 (c_atMost row_4 (by omega) hB (by omega)) (fun r σ1 h => ?_)
  obtain ⟨rfl, rfl⟩ := h
  have hnw : min B (w + 1) ≤ w + 1 := Nat.min_le_right _ _
  have n8 : nI k = 8 ↔ k = 8 := nI_eq (a := k) (b := 8) (by omega) (by omega)
  have n10 : nI k = 10 ↔ k = 10 := nI_eq (a := k) (b := 10) (by omega) (by omega)
  have e8 : sc_ 8 w A B = (decide (1 ≤ min B (w + 1) ∧ min B (w + 1) ≤ w) && A.testBit (w - min B (w + 1))) := rfl
  have e9 : sc_ 9 w A B = (decide (1 ≤ min B (w + 1) ∧ min B (w + 1) ≤ w) && A.testBit (min B (w + 1) - 1)) := rfl
  have e10 : sc_ 10 w A B = (if w < min B (w + 1) then ng_ w A else decide (1 ≤ min B (w + 1)) && A.testBit (min B (w + 1) - 1)) := rfl
  have v8 : sp_ 8 w A B = A * 2 ^ (min B (w + 1)) % 2 ^ w := rfl
  have v9 : sp_ 9 w A B = A / 2 ^ (min B (w + 1)) := rfl
  have v10 : sp_ 10 w A B = if ng_ w A then (A / 2 ^ (min B (w + 1))) ||| (2 ^ w - 2 ^ (w - min B (w + 1))) else A / 2 ^ (min B (w + 1)) := rfl
  generalize min B (w + 1) = n at *
  refine sg_X1_moved_10 row_3 row_5 (fun c => ?_) (fun c => ?_)
  · have hk2 : k = 9 ∨ k = 10 := by rw [n8] at c; omega
    have hd : A / 2 ^ n < 2 ^ w := Nat.lt_of_le_of_lt (Nat.div_le_self _ _) hAw
    have hd9 : A / 2 ^ n % 2 ^ (64 * 9) = A / 2 ^ n := Nat.mod_eq_of_lt (Nat.lt_of_lt_of_le hd (Nat.pow_le_pow_right (by decide) (by omega)))
    refine cs_X1_moved_48 (c_moveUp row_3 row_5 (by decide)) (fun σ2 h => ?_)
    have hO := rw_down (g0 := sg_ σ1 5) (no := 9) (s := n) hA (by omega) (by omega) (by omega)
    rw [hd9] at hO
    have g5 : rw_ (sg_ σ2 5) 9 (A / 2 ^ n) := by rw [h, sg_self]; exact hO
    have g3 : sg_ σ2 3 = sg_ σ1 3 := by rw [h, sg_ne _ _ (by decide)]
    have i2 : ∀ j, si_ σ2 j = si_ σ1 j := fun j => by rw [h, si_ug]
    have hf : fo_ σ1 σ2 := by rw [h]; exact fr_ug _ _ (by decide)
    clear h
    refine sg_X1_moved_51 row_3 row_5 (cs_X1_moved_57 (c_bitOrNought row_3) (fun r σ3 h => ?_))
    obtain ⟨rfl, rfl⟩ := h
    have hbit : km_bit (sg_ σ3 3) 9 (nI n - 1) = b1_ (decide (1 ≤ n) && A.testBit (n - 1)) := by
      rw [g3]
      rcases Nat.eq_zero_or_pos n with z | z
      · subst z
        rw [show nI 0 - 1 = -1 by decide, bit_m1]; rfl
      · obtain ⟨m, rfl⟩ : ∃ m, n = m + 1 := ⟨n - 1, by omega⟩
        rw [nI_pred, bit_row hA (by omega) (by omega)]
        simp [b1_]
    rw [hbit]
    have hn1 : w < n → A.testBit (n - 1) = false := fun z => by rw [show n - 1 = w by omega]; exact hAb
    refine sg_X1_moved_60 row_3 row_5 (fun c2 => ?_) (fun c2 => ?_)
    · have k9 : k = 9 := by rw [n10] at c2; omega
      subst k9
      refine sg_X1_moved_115 ⟨rfl, A / 2 ^ n, ?_, ?_, ?_, ?_, ?_, ?_⟩
      · rw [v9]; exact Nat.mod_eq_of_lt hd
      · rw [sg_ui]; exact g5
      · rw [si_ui, if_pos rfl, e9]
        congr 1
        by_cases z : n ≤ w
        · simp [z]
        · rw [hn1 (by omega)]; simp
      · rw [si_ui, if_neg (by decide), i2, hs3]; rfl
      · rw [si_ui, if_neg (by decide), i2]; exact hs
      · exact fr_trans hf (fr_ui _ _ (by decide))
    · have k10 : k = 10 := n10.mp c2
      subst k10
      refine cs_X1_moved_71 (c_highest row_3 (w := w) (by rw [sg_ui, g3]; exact hA) (by rw [si_ui, if_neg (by decide), i2]; exact hs) h1 hw) (fun r σ3 h => ?_)
      obtain ⟨rfl, rfl⟩ := h
      refine sg_X1_moved_74 row_5 (fun c3 => ?_) (fun c3 => ?_)
      · rw [b1_1] at c3
        simp only [Bool.not_eq_true] at c3
        refine sg_X1_moved_115 ⟨rfl, A / 2 ^ n, ?_, ?_, ?_, ?_, ?_, ?_⟩
        · rw [v10, c3]; exact Nat.mod_eq_of_lt hd
        · rw [sg_ui]; exact g5
        · rw [si_ui, if_pos rfl, e10]
          by_cases z : w < n
          · rw [if_pos z, hn1 z, c3]; simp
          · rw [if_neg z]
        · rw [si_ui, if_neg (by decide), i2, hs3]; rfl
        · rw [si_ui, if_neg (by decide), i2]; exact hs
        · exact fr_trans hf (fr_ui _ _ (by decide))
      · rw [b1_1] at c3
        rw [si_ui, if_neg (by decide), i2, hs]
        refine cs_X1_moved_88 c_max (fun r σ3 h => ?_)
        obtain ⟨rfl, rfl⟩ := h
        have hmx : (if nI w - nI n < 0 then (0 : Int32) else nI w - nI n) = nI (w - n) := by
          by_cases z : n ≤ w
          · rw [pk_sub z, if_neg (nI_pos (by omega))]
          · have : nI w - nI n < 0 := by rw [Int32.lt_iff_toInt_lt, int_sub (by omega) (by omega), Int32.toInt_zero]; omega
            rw [if_pos this, show w - n = 0 by omega]; rfl
        rw [hmx]
        refine cs_X1_moved_91 (c_fillFrom row_5) (fun σ4 h => ?_)
        have hfl := rw_fill (w := w - n) g5 (by omega) (by omega)
        have f5 : rw_ (sg_ σ4 5) 9 (A / 2 ^ n ||| (2 ^ (64 * 9) - 2 ^ (w - n))) := by rw [h, sg_self, sg_ui]; exact hfl
        have fi : ∀ j, j ≠ 2 → si_ σ4 j = si_ σ1 j := fun j hj => by rw [h, si_ug, si_ui, if_neg hj, i2]
        have f2 : si_ σ4 2 = b1_ (decide (1 ≤ n) && A.testBit (n - 1)) := by rw [h, si_ug, si_ui, if_pos rfl]
        have ff : fo_ σ1 σ4 := by rw [h]; exact fr_trans hf (fr_trans (fr_ui _ _ (by decide)) (fr_ug _ _ (by decide)))
        clear h
        have fin : ∀ b, b = sc_ 10 w A B → ks_W L xs mX1_moved rm_X1_moved 112 [] [.int (b1_ b), .ref 6] σ4 0 0 (pv_ fun σ' => ∃ O, O % 2 ^ w = sp_ 10 w A B ∧ op_ w σ1 (sc_ 10 w A B) false O σ') := by
          intro b hb
          refine sg_X1_moved_112 (sg_X1_moved_115 ⟨rfl, _, ?_, (by rw [sg_ui]; exact f5), ?_, ?_, ?_, ?_⟩)
          · rw [v10, c3, if_pos rfl]; exact fill_mod hw (by omega) hd
          · rw [si_ui, if_pos rfl, hb]
          · rw [si_ui, if_neg (by decide), fi 3 (by decide), hs3]; rfl
          · rw [si_ui, if_neg (by decide), fi 6 (by decide)]; exact hs
          · exact fr_trans ff (fr_ui _ _ (by decide))
        have hle : nI n ≤ si_ σ4 6 ↔ n ≤ w := by rw [fi 6 (by decide), hs]; exact nI_leI (by omega) (by omega)
        refine sg_X1_moved_94 (fun c4 => ?_) (fun c4 => ?_)
        · rw [hle] at c4
          rw [f2]
          exact fin _ (by rw [e10, if_neg (by omega)])
        · rw [hle] at c4
          exact fin true (by rw [e10, if_pos (by omega), c3])
  · have k8 : k = 8 := n8.mp c
    subst k8
    refine cs_X1_moved_23 (c_moveUp row_3 row_5 (by decide)) (fun σ2 h => ?_)
    have hO := rw_up (g0 := sg_ σ1 5) (no := 9) (s := n) hA (by omega) (by omega) (by omega) (by omega)
    have g5 : rw_ (sg_ σ2 5) 9 (A * 2 ^ n % 2 ^ (64 * 9)) := by rw [h, sg_self]; exact hO
    have g3 : sg_ σ2 3 = sg_ σ1 3 := by rw [h, sg_ne _ _ (by decide)]
    have i2 : ∀ j, si_ σ2 j = si_ σ1 j := fun j => by rw [h, si_ug]
    have hf : fo_ σ1 σ2 := by rw [h]; exact fr_ug _ _ (by decide)
    clear h
    refine sg_X1_moved_26 row_3 ?_
    rw [i2, hs]
    refine cs_X1_moved_35 (c_bitOrNought row_3) (fun r σ3 h => ?_)
    obtain ⟨rfl, rfl⟩ := h
    refine sg_X1_moved_38 ⟨rfl, A * 2 ^ n % 2 ^ (64 * 9), ?_, ?_, ?_, ?_, ?_, ?_⟩
    · rw [v8, mod_576 (by omega)]
    · rw [sg_ui]; exact g5
    · rw [si_ui, if_pos rfl, g3, e8]
      by_cases z : n ≤ w
      · rw [pk_sub z, bit_row hA (by omega) (by omega)]
        rcases Nat.eq_zero_or_pos n with y | y
        · subst y; rw [Nat.sub_zero, hAb]; simp [b1_]
        · rw [decide_eq_true (show 1 ≤ n ∧ n ≤ w from ⟨y, z⟩)]; simp [b1_]
      · have hn : n = w + 1 := by omega
        have : nI w - nI n = -1 := i32_eq (by rw [int_sub (by omega) (by omega), hn]; show _ = -1; omega)
        rw [this, bit_m1, decide_eq_false (by omega)]; rfl
    · rw [si_ui, if_neg (by decide), i2, hs3]; rfl
    · rw [si_ui, if_neg (by decide), i2]; exact hs
    · exact fr_trans hf (fr_ui _ _ (by decide))
end
