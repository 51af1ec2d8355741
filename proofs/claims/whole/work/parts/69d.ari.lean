section
/-! ===== the reference's operations: moves, turns and the rest; op ===== -/
section
variable {L : Nat} {xs : Nat → Int32} {σ : ks_St} {A : wa_} {X Y w : Nat}
theorem m_moves (k : Nat) (hk : k = 8 ∨ k = 9 ∨ k = 10) (h1 : 1 ≤ w) (hw : w ≤ 512) (bX : br_ (sf_ σ 21) 513 X) (bY : br_ (sf_ σ 22) 513 Y) (hX : X < 2 ^ w) (hY : Y < 2 ^ w) (s1 : sf_ σ 20 1 = 0) : ks_M L xs mX5_moves rm_X5_moves [.ref 17, .int (nI k), .int (nI w)] σ (pv_ fun σ' => om_ k w X Y σ σ') := by
  refine ks_body (by decide) (Nat.le_of_ble_eq_true rfl) ?_
  refine sg_X5_moves_0 (cs_X5_moves_2 (m_amountOfB h1 hw bY hY) (fun r σ1 hr => ?_))
  obtain ⟨rfl, rfl⟩ := hr
  have e1 : nI w - 1 = nI (w - 1) := pk_sub (b := 1) h1
  have g21 : sf_ σ1 21 (nI w - 1).toNatClampNeg = b1_ (ng_ w X) := by rw [e1, nI_clamp (by omega)]; exact bX _ (by omega)
  have nk : ∀ j, j < 2 ^ 31 → (nI k = nI j ↔ k = j) := fun j hj => nI_eq (by omega) hj
  generalize hn : min Y 2000 = n
  have hnm : (Y ≤ w ∧ n = Y ∧ min Y (w + 1) = Y) ∨ (w < Y ∧ w < n ∧ n ≤ 2000 ∧ min Y (w + 1) = w + 1) := by omega
  have hn2 : n ≤ 2000 := by omega
  have sw0 : sw_ k w X Y = false := by rcases hk with rfl | rfl | rfl <;> rfl
  -- bit t of the answer
  have bits : ∀ t, t < w → (sp_ k w X Y).testBit t = if k = 8 then (decide (n ≤ t) && X.testBit (t - n)) else if t + n < w then X.testBit (t + n) else (decide (k = 10) && ng_ w X) := by
    intro t ht
    rcases hk with rfl | rfl | rfl
    · show (X * 2 ^ (min Y (w + 1)) % 2 ^ w).testBit t = _
      rw [if_pos rfl, Nat.testBit_mod_two_pow, Nat.mul_comm, Nat.testBit_two_pow_mul]
      rcases hnm with ⟨a, b, c⟩ | ⟨a, b, c, d⟩
      · rw [b, c]; simp [ht]
      · rw [d]; simp [show ¬ w + 1 ≤ t by omega, show ¬ n ≤ t by omega]
    · show (X / 2 ^ (min Y (w + 1))).testBit t = _
      rw [if_neg (by decide), Nat.testBit_div_two_pow]
      rcases hnm with ⟨a, b, c⟩ | ⟨a, b, c, d⟩
      · rw [c, ← b]
        by_cases z : t + n < w
        · rw [if_pos z]
        · rw [if_neg z, tb_hi hX (by omega)]; simp
      · rw [d, if_neg (by omega), tb_hi hX (by omega)]; simp
    · show (if ng_ w X then (X / 2 ^ (min Y (w + 1))) ||| (2 ^ w - 2 ^ (w - min Y (w + 1))) else X / 2 ^ (min Y (w + 1))).testBit t = _
      rw [if_neg (show ¬ (10 = 8) by decide)]
      have hd : (X / 2 ^ (min Y (w + 1))).testBit t = (decide (t + n < w) && X.testBit (t + n)) := by
        rw [Nat.testBit_div_two_pow]
        rcases hnm with ⟨a, b, c⟩ | ⟨a, b, c, d⟩
        · rw [c, ← b]
          by_cases z : t + n < w
          · simp [z]
          · rw [tb_hi hX (by omega)]; simp [z]
        · rw [d, tb_hi hX (by omega)]; simp [show ¬ t + n < w by omega]
      cases hg : ng_ w X
      · simp only [Bool.false_eq_true, if_false, hd]
        by_cases z : t + n < w
        · simp [z]
        · simp [z]
      · simp only [if_true, Nat.testBit_or, hd, tb_sub (Nat.sub_le w _)]
        by_cases z : t + n < w
        · rw [if_pos z]
          have : ¬ w - min Y (w + 1) ≤ t := by omega
          simp [z, this]
        · rw [if_neg z]
          have : w - min Y (w + 1) ≤ t := by omega
          rw [decide_eq_false z, decide_eq_true this, decide_eq_true ht]; rfl
  have hsp : sp_ k w X Y < 2 ^ w := sp_lt h1 hX hY
  have main : ∀ hb : Bool, hb = (decide (k = 10) && ng_ w X) → ks_W L xs mX5_moves rm_X5_moves 24 [(0, .ref 17), (1, .int (nI k)), (2, .int (nI w)), (3, .int (nI n))] [.int (b1_ hb)] σ1 0 0 (pv_ fun σ' => om_ k w X Y σ1 σ') := by
    intro hb hhb
    refine sg_X5_moves_24 ?_
    refine lp_ w (fun i (s : ks_St) => ks_W L xs mX5_moves rm_X5_moves 29 [(0, .ref 17), (1, .int (nI k)), (2, .int (nI w)), (3, .int (nI n)), (4, .int (b1_ hb)), (5, .int (nI i))] [] s 0 0 (pv_ fun σ' => om_ k w X Y σ1 σ'))
      (fun i s => br_ (sf_ s 23) i (sp_ k w X Y) ∧ fr_ [] [] [23] [] σ1 s) ?_ ?_ 0 σ1 (Nat.zero_le _) ⟨fun t ht => absurd ht (Nat.not_lt_zero t), fr_refl _⟩
    · intro i s hi hI ih
      obtain ⟨q, fs⟩ := hI
      have c0 : ¬ nI w ≤ nI i := nI_ge hi (by omega)
      have b21 : ∀ j, j < 513 → sf_ s 21 (nI j).toNatClampNeg = b1_ (X.testBit j) := fun j hj => by rw [nI_clamp (by omega), fs.2.2.1 21 (by decide)]; exact bX j hj
      have hin : vp_in (nI i) 1026 := vp_in_nI (by omega) (by decide)
      have put : ∀ y : Int32, y = b1_ ((sp_ k w X Y).testBit i) → ks_W L xs mX5_moves rm_X5_moves 99 [(0, .ref 17), (1, .int (nI k)), (2, .int (nI w)), (3, .int (nI n)), (4, .int (b1_ hb)), (5, .int (nI i))] [] (uf_ s 23 (upd (sf_ s 23) (nI i).toNatClampNeg y)) 0 0 (pv_ fun σ' => om_ k w X Y σ1 σ') := by
        intro y hy
        refine sg_X5_moves_99 ?_
        rw [nI_1, nI_clamp (by omega)]
        refine ih _ ⟨fun t ht => ?_, fr_trans fs (fr_uf _ _ (by decide))⟩
        rw [sf_self]
        by_cases e : t = i
        · rw [e, pk_us, hy]
        · rw [pk_un e]; exact q t (by omega)
      have hbit := bits i hi
      have ein : nI i + nI n = nI (i + n) := nI_add i n
      have cin : nI w ≤ nI i + nI n ↔ w ≤ i + n := by rw [ein]; exact nI_leI (by omega) (by omega)
      have cni : nI i < nI n ↔ i < n := nI_ltI (by omega) (by omega)
      refine sg_X5_moves_29 (fun c => absurd c c0) (fun c => absurd c c0) (fun c => absurd c c0) (fun c => absurd c c0) (fun c => absurd c c0) (fun c => absurd c c0) (fun _ c d => ?_) (fun _ c d => ?_) (fun _ c d => ?_) (fun _ c d => ?_) (fun _ c d => ?_) (fun _ c d => ?_)
      · have c' : k ≠ 8 := fun z => c (by rw [z]; rfl)
        rw [cin] at d
        refine sg_X5_moves_98 hin (put _ ?_)
        rw [hbit, if_neg c', if_neg (by omega), hhb]
      · rw [cin] at d
        rw [ein]; exact vp_in_nI (by omega) (by decide)
      · have c' : k ≠ 8 := fun z => c (by rw [z]; rfl)
        rw [cin] at d
        refine sg_X5_moves_98 hin (put _ ?_)
        rw [hbit, if_neg c', if_pos (by omega), ein, b21 _ (by omega)]
      · have c' := (nk 8 (by decide)).mp c
        rw [cni] at d
        refine sg_X5_moves_66 hin (put _ ?_)
        rw [hbit, if_pos c']; simp [show ¬ n ≤ i by omega, b1_f]
      · rw [cni] at d
        rw [pk_sub (by omega)]; exact vp_in_nI (by omega) (by decide)
      · have c' := (nk 8 (by decide)).mp c
        rw [cni] at d
        refine sg_X5_moves_66 hin (put _ ?_)
        rw [hbit, if_pos c', pk_sub (by omega), b21 _ (by omega)]; simp [show n ≤ i by omega]
    · intro s hI
      obtain ⟨q, fs⟩ := hI
      have cw : nI w ≤ nI w := nI_le (Nat.le_refl w) (by omega)
      have b21 : ∀ j, j < 513 → sf_ s 21 (nI j).toNatClampNeg = b1_ (X.testBit j) := fun j hj => by rw [nI_clamp (by omega), fs.2.2.1 21 (by decide)]; exact bX j hj
      have fin : ∀ y : Int32, y = b1_ (sc_ k w X Y) → ks_W L xs mX5_moves rm_X5_moves 153 [] [.int y, .int 0, .ref 20] s 0 0 (pv_ fun σ' => om_ k w X Y σ1 σ') := by
        intro y hy
        refine sg_X5_moves_153 (vp_in_nI (n := 0) (by decide) (by decide)) ⟨rfl, ?_, ?_, ?_, fr_trans (fr_mono fs (by decide) (by decide) (by decide) (by decide)) (fr_uf _ _ (by decide))⟩
        · rw [sf_ne _ _ (by decide), if_neg (by omega)]
          intro t ht
          show sf_ s 23 (0 + t) = _
          rw [Nat.zero_add]; exact q t ht
        · rw [sf_self, ← hy]; exact pk_us
        · rw [sf_self, sw0, fs.2.2.1 20 (by decide)]; exact (pk_un (by decide)).trans s1
      have cn0 : nI n = 0 ↔ n = 0 := nI_eq (b := 0) (by omega) (by decide)
      have cnw : nI n ≤ nI w ↔ n ≤ w := nI_leI (by omega) (by omega)
      refine sg_X5_moves_29 (fun _ c d e => ?_) (fun _ c d e => ?_) (fun _ c d e => ?_) (fun _ c d e => ?_) (fun _ c d => ?_) (fun _ c => ?_) (fun c => absurd cw c) (fun c => absurd cw c) (fun c => absurd cw c) (fun c => absurd cw c) (fun c => absurd cw c) (fun c => absurd cw c)
      · rw [cn0] at c
        rw [cnw] at d
        rw [show nI n - 1 = nI (n - 1) from pk_sub (b := 1) (by omega)]
        exact vp_in_nI (by omega) (by decide)
      · have e' : k ≠ 8 := fun z => e (by rw [z]; rfl)
        rw [cn0] at c
        rw [cnw] at d
        refine fin _ ?_
        rw [show nI n - 1 = nI (n - 1) from pk_sub (b := 1) (by omega), b21 _ (by omega), b1_inj]
        have hm : min Y (w + 1) = n := by omega
        rcases hk with rfl | rfl | rfl
        · exact absurd rfl e'
        · show _ = (decide (1 ≤ min Y (w + 1) ∧ min Y (w + 1) ≤ w) && X.testBit (min Y (w + 1) - 1))
          rw [hm]; simp [show 1 ≤ n by omega, d]
        · show _ = (if w < min Y (w + 1) then ng_ w X else decide (1 ≤ min Y (w + 1)) && X.testBit (min Y (w + 1) - 1))
          rw [hm, if_neg (by omega)]; simp [show 1 ≤ n by omega]
      · rw [cnw] at d
        rw [pk_sub d]
        exact vp_in_nI (by omega) (by decide)
      · have e' := (nk 8 (by decide)).mp e
        rw [cn0] at c
        rw [cnw] at d
        refine fin _ ?_
        rw [pk_sub d, b21 _ (by omega), b1_inj]
        have hm : min Y (w + 1) = n := by omega
        subst e'
        show _ = (decide (1 ≤ min Y (w + 1) ∧ min Y (w + 1) ≤ w) && X.testBit (w - min Y (w + 1)))
        rw [hm]; simp [show 1 ≤ n by omega, d]
      · rw [cnw] at d
        refine fin _ ?_
        rw [hhb, b1_inj]
        have hm : min Y (w + 1) = w + 1 := by omega
        rcases hk with rfl | rfl | rfl
        · show _ = (decide (1 ≤ min Y (w + 1) ∧ min Y (w + 1) ≤ w) && X.testBit (w - min Y (w + 1)))
          rw [hm, decide_eq_false (show ¬ (1 ≤ w + 1 ∧ w + 1 ≤ w) by omega)]; rfl
        · show _ = (decide (1 ≤ min Y (w + 1) ∧ min Y (w + 1) ≤ w) && X.testBit (min Y (w + 1) - 1))
          rw [hm, decide_eq_false (show ¬ (1 ≤ w + 1 ∧ w + 1 ≤ w) by omega)]; rfl
        · show _ = (if w < min Y (w + 1) then ng_ w X else decide (1 ≤ min Y (w + 1)) && X.testBit (min Y (w + 1) - 1))
          rw [hm]; simp
      · rw [cn0] at c
        refine fin _ ?_
        rw [← b1_f, b1_inj]
        have hm : min Y (w + 1) = 0 := by omega
        rcases hk with rfl | rfl | rfl
        · show _ = (decide (1 ≤ min Y (w + 1) ∧ min Y (w + 1) ≤ w) && X.testBit (w - min Y (w + 1)))
          rw [hm]; simp
        · show _ = (decide (1 ≤ min Y (w + 1) ∧ min Y (w + 1) ≤ w) && X.testBit (min Y (w + 1) - 1))
          rw [hm]; simp
        · show _ = (if w < min Y (w + 1) then ng_ w X else decide (1 ≤ min Y (w + 1)) && X.testBit (min Y (w + 1) - 1))
          rw [hm]; simp
  refine sg_X5_moves_5 (fun c => ?_) (fun _ => by rw [e1]; exact vp_in_nI (by omega) (by decide)) (fun c => ?_)
  · have c' : k ≠ 10 := fun z => c (by rw [z]; rfl)
    exact main false (by simp [c'])
  · have c' := (nk 10 (by decide)).mp c
    rw [g21]
    exact main _ (by simp [c'])
theorem m_others (k : Nat) (hk0 : 11 ≤ k) (hk : k ≤ 18) (h8 : k = 18 → w % 8 = 0) (h1 : 1 ≤ w) (hw : w ≤ 512) (bX : br_ (sf_ σ 21) 513 X) (bY : br_ (sf_ σ 22) 513 Y) (bO : br_ (sf_ σ 23) 1026 0) (hX : X < 2 ^ w) (hY : Y < 2 ^ w) (s0 : sf_ σ 20 0 = 0) (s1 : sf_ σ 20 1 = 0) : ks_M L xs mX5_others rm_X5_others [.ref 17, .int (nI k), .int (nI w)] σ (pv_ fun σ' => om_ k w X Y σ σ') := by
  refine ks_body (by decide) (Nat.le_of_ble_eq_true rfl) ?_
  have nk : ∀ j, j < 2 ^ 31 → (nI k = nI j ↔ k = j) := fun j hj => nI_eq (by omega) hj
  have hsp : sp_ k w X Y < 2 ^ w := sp_lt h1 hX hY
  have hk2 : k = 11 ∨ k = 12 ∨ k = 13 ∨ k = 14 ∨ k = 15 ∨ k = 16 ∨ k = 17 ∨ k = 18 := by omega
  have sc0 : sc_ k w X Y = false := by rcases hk2 with rfl | rfl | rfl | rfl | rfl | rfl | rfl | rfl <;> rfl
  have sw0 : sw_ k w X Y = false := by rcases hk2 with rfl | rfl | rfl | rfl | rfl | rfl | rfl | rfl <;> rfl
  have main : ∀ n, n < w → ((k = 11 ∨ k = 12) ∧ sp_ k w X Y = rt_ w X n ∨ 13 ≤ k ∧ n = 0) → ks_W L xs mX5_others rm_X5_others 33 [(0, .ref 17), (1, .int (nI k)), (2, .int (nI w))] [.int (nI n)] σ 0 0 (pv_ fun σ' => om_ k w X Y σ σ') := by
    intro n hn hkn
    refine sg_X5_others_33 ?_
    refine lp_ w (fun i (s : ks_St) => ks_W L xs mX5_others rm_X5_others 37 [(0, .ref 17), (1, .int (nI k)), (2, .int (nI w)), (3, .int (nI n)), (4, .int (nI i))] [] s 0 0 (pv_ fun σ' => om_ k w X Y σ σ'))
      (fun i s => (∀ t, t < 1026 → sf_ s 23 t = b1_ (decide (t < w ∧ sr_ w n t < i) && (sp_ k w X Y).testBit t)) ∧ fr_ [] [] [23] [] σ s) ?_ ?_ 0 σ (Nat.zero_le _) ⟨fun t ht => by rw [bO t ht, Nat.zero_testBit]; simp, fr_refl _⟩
    · intro i s hi hI ih
      obtain ⟨q, fs⟩ := hI
      have c0 : ¬ nI w ≤ nI i := nI_ge hi (by omega)
      have b21 : ∀ j, j < 513 → sf_ s 21 (nI j).toNatClampNeg = b1_ (X.testBit j) := fun j hj => by rw [nI_clamp (by omega), fs.2.2.1 21 (by decide)]; exact bX j hj
      have b22 : ∀ j, j < 513 → sf_ s 22 (nI j).toNatClampNeg = b1_ (Y.testBit j) := fun j hj => by rw [nI_clamp (by omega), fs.2.2.1 22 (by decide)]; exact bY j hj
      have hin : vp_in (nI i) 1026 := vp_in_nI (by omega) (by decide)
      have hin5 : vp_in (nI i) 513 := vp_in_nI (by omega) (by decide)
      have put : ∀ (u : Nat) (y : Int32), u < w → sr_ w n u = i → y = b1_ ((sp_ k w X Y).testBit u) → ks_W L xs mX5_others rm_X5_others 255 [(0, .ref 17), (1, .int (nI k)), (2, .int (nI w)), (3, .int (nI n)), (4, .int (nI i))] [] (uf_ s 23 (upd (sf_ s 23) (nI u).toNatClampNeg y)) 0 0 (pv_ fun σ' => om_ k w X Y σ σ') := by
        intro u y hu hsu hy
        refine sg_X5_others_255 ?_
        rw [nI_1, nI_clamp (by omega)]
        refine ih _ ⟨fun t ht => ?_, fr_trans fs (fr_uf _ _ (by decide))⟩
        rw [sf_self]
        by_cases e : t = u
        · rw [e, pk_us, hy, b1_inj]
          simp [hu, hsu]
        · rw [pk_un e, q t ht, b1_inj]
          congr 1
          apply decide_eq_decide.mpr
          constructor
          · intro z; exact ⟨z.1, by omega⟩
          · intro z
            refine ⟨z.1, ?_⟩
            have : sr_ w n t ≠ i := fun y => e (by
              unfold sr_ at y hsu
              split at y <;> split at hsu <;> omega)
            omega
      have same : 13 ≤ k → n = 0 ∧ sr_ w n i = i := fun z => by
        rcases hkn with ⟨y, -⟩ | ⟨-, y⟩
        · omega
        · refine ⟨y, ?_⟩; rw [y]; simp [sr_]
      have rot : (k = 11 ∨ k = 12) → ∃ u, u < w ∧ nI i + nI n - (nI i + nI n) / nI w * nI w = nI u ∧ sr_ w n u = i ∧ (sp_ k w X Y).testBit u = X.testBit i := by
        intro z
        rcases hkn with ⟨-, hrt⟩ | ⟨y, -⟩
        · have hu : (i + n) % w = if i + n < w then i + n else i + n - w := by
            by_cases y : i + n < w
            · rw [if_pos y, Nat.mod_eq_of_lt y]
            · rw [if_neg y, Nat.mod_eq_sub_mod (by omega), Nat.mod_eq_of_lt (by omega)]
          have hs : sr_ w n ((i + n) % w) = i := by
            rw [hu]; unfold sr_
            by_cases y : i + n < w
            · rw [if_pos y, if_pos (by omega)]; omega
            · rw [if_neg y, if_neg (by omega)]; omega
          have hlt : (i + n) % w < w := Nat.mod_lt _ (by omega)
          refine ⟨(i + n) % w, hlt, ?_, hs, ?_⟩
          · rw [nI_add, pk_rem (by omega) (by omega) (by omega)]
          · rw [hrt, rt_bit hX (by omega) hlt, hs]
        · omega
      have ne0 : ¬ nI w = 0 := nI_ne0 (by omega) (by omega)
      refine sg_X5_others_37 (fun c => absurd c c0) (fun _ _ => ne0) (fun _ _ => hin5) (fun _ c => ?_) (fun _ c => ?_) (fun _ _ _ => ne0) (fun _ _ _ => hin5) (fun _ _ c => ?_) (fun _ _ c => ?_)
        (fun _ _ _ _ => hin5) (fun _ _ _ _ => hin5) (fun _ _ _ _ => hin) (fun _ _ _ c => ?_)
        (fun _ _ _ _ _ => hin5) (fun _ _ _ _ _ => hin5) (fun _ _ _ _ _ => hin) (fun _ _ _ _ c => ?_)
        (fun _ _ _ _ _ _ => hin5) (fun _ _ _ _ _ _ => hin5) (fun _ _ _ _ _ _ => hin) (fun _ _ _ _ _ c => ?_)
        (fun _ _ _ _ _ _ _ => hin5) (fun _ _ _ _ _ _ _ => hin) (fun _ _ _ _ _ _ c => ?_)
        (fun _ _ _ _ _ _ _ c => ?_) (fun _ _ _ _ _ _ _ _ => hin) (fun _ _ _ _ _ _ _ c => ?_)
        (fun _ a1 a2 a3 a4 a5 a6 a7 => ?_) (fun _ _ _ _ _ _ _ _ => hin) (fun _ a1 a2 a3 a4 a5 a6 a7 => ?_)
      · obtain ⟨u, hu, eu, -, -⟩ := rot (Or.inl ((nk 11 (by decide)).mp c))
        rw [eu]; exact vp_in_nI (by omega) (by decide)
      · obtain ⟨u, hu, eu, hs, hb⟩ := rot (Or.inl ((nk 11 (by decide)).mp c))
        rw [eu, b21 i (by omega)]
        exact put u _ hu hs (by rw [hb])
      · obtain ⟨u, hu, eu, -, -⟩ := rot (Or.inr ((nk 12 (by decide)).mp c))
        rw [eu]; exact vp_in_nI (by omega) (by decide)
      · obtain ⟨u, hu, eu, hs, hb⟩ := rot (Or.inr ((nk 12 (by decide)).mp c))
        rw [eu, b21 i (by omega)]
        exact put u _ hu hs (by rw [hb])
      · have c' := (nk 13 (by decide)).mp c
        rw [b21 i (by omega), b22 i (by omega), b1_and]
        refine put i _ hi (same (by omega)).2 ?_
        subst c'
        show _ = b1_ ((X &&& Y).testBit i)
        rw [Nat.testBit_and]
      · have c' := (nk 14 (by decide)).mp c
        rw [b21 i (by omega), b22 i (by omega), b1_or]
        refine put i _ hi (same (by omega)).2 ?_
        subst c'
        show _ = b1_ ((X ||| Y).testBit i)
        rw [Nat.testBit_or]
      · have c' := (nk 15 (by decide)).mp c
        rw [b21 i (by omega), b22 i (by omega), b1_xor]
        refine put i _ hi (same (by omega)).2 ?_
        subst c'
        show _ = b1_ ((X ^^^ Y).testBit i)
        rw [Nat.testBit_xor]
      · have c' := (nk 16 (by decide)).mp c
        rw [b21 i (by omega), no1]
        refine put i _ hi (same (by omega)).2 ?_
        subst c'
        show _ = b1_ ((2 ^ w - 1 - X).testBit i)
        rw [show 2 ^ w - 1 - X = 2 ^ w - (X + 1) by omega, Nat.testBit_two_pow_sub_succ hX]
        simp [hi]
      · rw [show nI w - 1 = nI (w - 1) from pk_sub (b := 1) h1, pk_sub (by omega)]
        exact vp_in_nI (by omega) (by decide)
      · have c' := (nk 17 (by decide)).mp c
        rw [show nI w - 1 = nI (w - 1) from pk_sub (b := 1) h1, pk_sub (by omega), b21 _ (by omega)]
        refine put i _ hi (same (by omega)).2 ?_
        subst c'
        show _ = b1_ ((bo_ (fun k => X.testBit (w - 1 - k)) w).testBit i)
        rw [bo_bit]; simp [hi]
      · have hn' : ∀ j, j < 2 ^ 31 → ¬ nI k = nI j → k ≠ j := fun j hj h e => h (by rw [e])
        have b1 := hn' 11 (by omega) a1
        have b2 := hn' 12 (by omega) a2
        have b3 := hn' 13 (by omega) a3
        have b4 := hn' 14 (by omega) a4
        have b5 := hn' 15 (by omega) a5
        have b6 := hn' 16 (by omega) a6
        have b7 := hn' 17 (by omega) a7
        have k18 : k = 18 := by omega
        have hw8 := h8 k18
        have ei : nI w - 8 - nI i / 8 * 8 + (nI i - nI i / 8 * 8) = nI (w - 8 - i / 8 * 8 + i % 8) := by
          rw [show nI i - nI i / 8 * 8 = nI (i % 8) from pk_rem (d := 8) (by omega) (by decide) (by decide), show nI i / 8 = nI (i / 8) from pk_div (d := 8) (by omega) (by decide) (by decide), show nI (i / 8) * 8 = nI (i / 8 * 8) from pk_mul _ 8, show nI w - 8 = nI (w - 8) from pk_sub (b := 8) (by omega), pk_sub (by omega), nI_add]
        rw [ei]
        exact vp_in_nI (by omega) (by decide)
      · have hn' : ∀ j, j < 2 ^ 31 → ¬ nI k = nI j → k ≠ j := fun j hj h e => h (by rw [e])
        have b1 := hn' 11 (by omega) a1
        have b2 := hn' 12 (by omega) a2
        have b3 := hn' 13 (by omega) a3
        have b4 := hn' 14 (by omega) a4
        have b5 := hn' 15 (by omega) a5
        have b6 := hn' 16 (by omega) a6
        have b7 := hn' 17 (by omega) a7
        have k18 : k = 18 := by omega
        have hw8 := h8 k18
        have ei : nI w - 8 - nI i / 8 * 8 + (nI i - nI i / 8 * 8) = nI (w - 8 - i / 8 * 8 + i % 8) := by
          rw [show nI i - nI i / 8 * 8 = nI (i % 8) from pk_rem (d := 8) (by omega) (by decide) (by decide), show nI i / 8 = nI (i / 8) from pk_div (d := 8) (by omega) (by decide) (by decide), show nI (i / 8) * 8 = nI (i / 8 * 8) from pk_mul _ 8, show nI w - 8 = nI (w - 8) from pk_sub (b := 8) (by omega), pk_sub (by omega), nI_add]
        rw [ei, b21 _ (by omega)]
        refine put i _ hi (same (by omega)).2 ?_
        subst k18
        show _ = b1_ ((bo_ (fun k => X.testBit (w - 8 - k / 8 * 8 + k % 8)) w).testBit i)
        rw [bo_bit]; simp [hi]
    · intro s hI
      obtain ⟨q, fs⟩ := hI
      have cw : nI w ≤ nI w := nI_le (Nat.le_refl w) (by omega)
      refine sg_X5_others_37 (fun _ => ⟨rfl, ?_, ?_, ?_, fr_mono fs (by decide) (by decide) (by decide) (by decide)⟩) (fun c => absurd cw c) (fun c => absurd cw c) (fun c => absurd cw c) (fun c => absurd cw c) (fun c => absurd cw c) (fun c => absurd cw c) (fun c => absurd cw c) (fun c => absurd cw c)
        (fun c => absurd cw c) (fun c => absurd cw c) (fun c => absurd cw c) (fun c => absurd cw c) (fun c => absurd cw c) (fun c => absurd cw c) (fun c => absurd cw c) (fun c => absurd cw c)
        (fun c => absurd cw c) (fun c => absurd cw c) (fun c => absurd cw c) (fun c => absurd cw c) (fun c => absurd cw c) (fun c => absurd cw c) (fun c => absurd cw c)
        (fun c => absurd cw c) (fun c => absurd cw c) (fun c => absurd cw c) (fun c => absurd cw c) (fun c => absurd cw c) (fun c => absurd cw c)
      · rw [if_neg (by omega)]
        intro t ht
        show sf_ s 23 (0 + t) = _
        rw [Nat.zero_add, q t (by omega), b1_inj]
        have : sr_ w n t < w := by unfold sr_; split <;> omega
        simp [ht, this]
      · rw [fs.2.2.1 20 (by decide), sc0]; exact s0
      · rw [fs.2.2.1 20 (by decide), sw0]; exact s1
  refine sg_X5_others_0 (fun c d => ?_) (fun c d => ?_) (fun c => ?_)
  · have c' : k ≠ 11 := fun z => c (by rw [z]; rfl)
    have d' : k ≠ 12 := fun z => d (by rw [z]; rfl)
    exact main 0 (by omega) (Or.inr ⟨by omega, rfl⟩)
  · have d' := (nk 12 (by decide)).mp d
    refine cs_X5_others_23 (m_bAround h1 hw bY hY) (fun r σ1 hr => ?_)
    obtain ⟨rfl, rfl⟩ := hr
    have hlt : Y % w < w := Nat.mod_lt _ (by omega)
    refine sg_X5_others_26 (nI_ne0 (by omega) (by omega)) ?_
    rw [pk_sub (by omega), pk_rem (by omega) (by omega) (by omega)]
    refine main ((w - Y % w) % w) (Nat.mod_lt _ (by omega)) (Or.inl ⟨Or.inr d', ?_⟩)
    subst d'
    show rt_ w X (w - Y % w) = _
    by_cases z : Y % w = 0
    · rw [z, Nat.sub_zero, Nat.mod_self]
      apply nat_ext (w := w) (rt_lt hX) (rt_lt hX)
      intro t ht
      rw [rt_bit hX (Nat.le_refl w) ht, rt_bit hX (Nat.zero_le w) ht]
      unfold sr_
      rw [if_neg (by omega), if_pos (Nat.zero_le t)]
      congr 1
      omega
    · rw [Nat.mod_eq_of_lt (show w - Y % w < w by omega)]
  · have c' := (nk 11 (by decide)).mp c
    refine cs_X5_others_8 (m_bAround h1 hw bY hY) (fun r σ1 hr => ?_)
    obtain ⟨rfl, rfl⟩ := hr
    have hlt : Y % w < w := Nat.mod_lt _ (by omega)
    exact sg_X5_others_11 (main (Y % w) hlt (Or.inl ⟨Or.inl c', by subst c'; rfl⟩))
end
end
