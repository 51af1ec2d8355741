section
/-! ===== class and reference round the same numbers ===== -/
theorem tu_E (f e k Y : Nat) : dE f e (tu_ f e k Y) = dE f e Y ∧ dF f (tu_ f e k Y) = dF f Y ∧ dS f e (tu_ f e k Y) = (dS f e Y != decide (k = 1)) := by
  unfold tu_
  by_cases c : k = 1
  · rw [if_pos c, c]
    refine ⟨?_, ?_, ?_⟩
    · unfold dE
      apply Nat.eq_of_testBit_eq
      intro i
      rw [Nat.testBit_mod_two_pow, Nat.testBit_mod_two_pow, Nat.testBit_div_two_pow, Nat.testBit_div_two_pow, Nat.testBit_xor, Nat.testBit_two_pow]
      by_cases d : i < e
      · simp [show ¬ f + e = i + f by omega]
      · simp [d]
    · unfold dF
      apply Nat.eq_of_testBit_eq
      intro i
      rw [Nat.testBit_mod_two_pow, Nat.testBit_mod_two_pow, Nat.testBit_xor, Nat.testBit_two_pow]
      by_cases d : i < f
      · simp [show ¬ f + e = i by omega]
      · simp [d]
    · unfold dS
      rw [Nat.testBit_xor, Nat.testBit_two_pow]
      cases Y.testBit (f + e) <;> simp
  · rw [if_neg c]
    refine ⟨rfl, rfl, ?_⟩
    simp [c]
theorem tu_W (f e k Y : Nat) : dW f e (tu_ f e k Y) = dW f e Y ∧ dP f e (tu_ f e k Y) = dP f e Y := by
  unfold dW dP
  rw [(tu_E f e k Y).1, (tu_E f e k Y).2.1]
  exact ⟨rfl, rfl⟩
theorem nf_val {f e X : Nat} (h : nf_ f e X) (hX : X < 2 ^ (f + e + 1)) : X = vI f e (dS f e X) := by
  unfold vI
  have h1 := bit_split X (f + e)
  have h2 : X / 2 ^ (f + e + 1) = 0 := Nat.div_eq_of_lt hX
  have h3 : X % 2 ^ (f + e) = 2 ^ f * (2 ^ e - 1) := by
    rw [Nat.pow_add, Nat.mod_mul]
    have a : X % 2 ^ f = 0 := h.2
    have b : X / 2 ^ f % 2 ^ e = 2 ^ e - 1 := h.1
    rw [a, b, Nat.zero_add]
  rw [h2, h3] at h1
  simp only [Nat.mul_zero, Nat.zero_add] at h1
  unfold dS
  rw [Nat.mul_comm (2 ^ e - 1)]
  omega
theorem pow_two_e (f e : Nat) : 2 ^ (f + e + 1) = 2 ^ (f + e) * 2 := Nat.pow_succ ..
theorem s_le (n : Nat) (s : Bool) : 2 ^ n * s.toNat ≤ 2 ^ n := by cases s <;> simp
theorem vI_lt (f e : Nat) (s : Bool) : vI f e s < 2 ^ (f + e + 1) := by
  have h1 := eo_lt f e
  have h2 := s_le (f + e) s
  unfold vI
  rw [pow_two_e]
  omega
theorem vN_lt {f e : Nat} (h : fmt_ f e) : vN f e < 2 ^ (f + e + 1) := by
  rcases h with ⟨rfl, rfl⟩ | ⟨rfl, rfl⟩ | ⟨rfl, rfl⟩ <;> decide
theorem fn_lt {f e y u m : Nat} {s : Bool} (hf : fmt_ f e) (hm : m ≤ 2 ^ (f + 1)) : (fn_ f e y s u m).1 < 2 ^ (f + e + 1) := by
  have hb := fmt_b hf
  have h2 := s_le (f + e) s
  have hpe := pow_two_e f e
  have h0 := Nat.two_pow_pos f
  have hf1 : 2 ^ (f + 1) = 2 ^ f * 2 := Nat.pow_succ ..
  have hfe : 2 ^ f ≤ 2 ^ (f + e) := Nat.pow_le_pow_right (by decide) (by omega)
  unfold fn_
  by_cases c : m < 2 ^ f
  · rw [if_pos c]
    show m + 2 ^ (f + e) * s.toNat < _
    omega
  · rw [if_neg c]
    by_cases d : u - lq_ f e + (if m = 2 ^ (f + 1) then 2 else 1) < 2 ^ e - 1
    · rw [if_pos d]
      show (u - lq_ f e + (if m = 2 ^ (f + 1) then 2 else 1)) * 2 ^ f + (if m = 2 ^ (f + 1) then 0 else m - 2 ^ f) + 2 ^ (f + e) * s.toNat < _
      have hfr : (if m = 2 ^ (f + 1) then 0 else m - 2 ^ f) < 2 ^ f := by split <;> omega
      generalize u - lq_ f e + (if m = 2 ^ (f + 1) then 2 else 1) = E at *
      have h1 : (E + 1) * 2 ^ f ≤ 2 ^ e * 2 ^ f := Nat.mul_le_mul_right _ (by omega)
      rw [Nat.add_mul, Nat.one_mul, ← Nat.pow_add, Nat.add_comm e f] at h1
      omega
    · rw [if_neg d]
      show tg_ f e y s < _
      have h3 : tg_ f e y s ≤ vI f e s := by
        unfold tg_
        by_cases q : y = 0 ∨ y = 4 ∨ y = (if s then 3 else 2)
        · rw [if_pos q]; exact Nat.le_refl _
        · rw [if_neg q]; exact Nat.sub_le _ _
      exact Nat.lt_of_le_of_lt h3 (vI_lt f e s)
theorem rr_lt {f e y M k : Nat} {s : Bool} (hf : fmt_ f e) : (rr_ f e y s M k).1 < 2 ^ (f + e + 1) := by
  unfold rr_
  by_cases c : M = 0
  · rw [if_pos c]
    have := s_le (f + e) s
    have := Nat.two_pow_pos (f + e)
    have := pow_two_e f e
    show 2 ^ (f + e) * s.toNat < _
    omega
  · rw [if_neg c]
    have h := rm_lt (f := f) (lp := lq_ f e) (k := k) c
    refine fn_lt hf ?_
    have : (mr_ y s (rm_ M k (ru_ f (lq_ f e) M k)) (rk_ M k (ru_ f (lq_ f e) M k))).toNat ≤ 1 := by
      cases mr_ y s (rm_ M k (ru_ f (lq_ f e) M k)) (rk_ M k (ru_ f (lq_ f e) M k)) <;> decide
    omega
theorem wn_lt {f e k X Y : Nat} (hf : fmt_ f e) (hX : X < 2 ^ (f + e + 1)) (hY : Y < 2 ^ (f + e + 1)) : (wn_ f e k X Y).1 < 2 ^ (f + e + 1) := by
  have h1 := vN_lt hf
  have h2 := vI_lt f e (dS f e X != dS f e Y)
  have h3 : 2 ^ (f + e) * (dS f e X != dS f e Y).toNat < 2 ^ (f + e + 1) := by
    have := s_le (f + e) (dS f e X != dS f e Y)
    have := Nat.two_pow_pos (f + e)
    have := pow_two_e f e
    omega
  unfold wn_
  split
  · split
    · exact h1
    · show (if nf_ f e X then X else Y) < _
      split <;> assumption
  · split
    · split
      · exact h1
      · exact h2
    · split
      · exact h1
      · split
        · exact h3
        · exact h2
theorem ra_lt {f e y k X Y : Nat} (hf : fmt_ f e) (hX : X < 2 ^ (f + e + 1)) (hY : Y < 2 ^ (f + e + 1)) : (ra_ f e y k X Y).1 < 2 ^ (f + e + 1) := by
  unfold ra_
  split
  · exact vN_lt hf
  · split
    · exact wn_lt hf hX (tu_lt hY)
    · split
      · exact rr_lt hf
      · split
        · exact rr_lt hf
        · exact rr_lt hf
/-- a number above the lowest power has its hidden bit -/
theorem hid {f e X Y : Nat} (h : dP f e Y < dP f e X) : 2 ^ f ≤ dW f e X := by
  have : dE f e X ≠ 0 := fun z => by
    unfold dP at h
    rw [z] at h
    omega
  unfold dW
  rw [if_neg this]
  omega
theorem st_0 (n : Nat) : st_ 0 n = 0 := by simp [st_]
section
variable {f e y X T : Nat}
theorem hl_or (f e X T : Nat) : (hl_ f e X T = (X, T) ∧ dP f e T ≤ dP f e X) ∨ (hl_ f e X T = (T, X) ∧ dP f e X < dP f e T) := by
  unfold hl_
  by_cases c : dP f e T ≤ dP f e X
  · exact Or.inl ⟨if_pos c, c⟩
  · exact Or.inr ⟨if_neg c, by omega⟩
/-- one of them 0: the other one stays -/
theorem sum_one (hf : fmt_ f e) {i o : Nat} (hio : (i = X ∧ o = T) ∨ (i = T ∧ o = X)) (hi : dW f e i ≠ 0) (ho : dW f e o = 0) : rr_ f e y (aS f e y X T) (aM f e X T) (aK f e X T) = rr_ f e y (dS f e i) (dW f e i) (dP f e i) := by
  have hb := fmt_b hf
  obtain ⟨h, l, e1, e2, hpl⟩ : ∃ h l, hl_ f e X T = (h, l) ∧ ((h = i ∧ l = o) ∨ (h = o ∧ l = i)) ∧ dP f e l ≤ dP f e h := by
    rcases hl_or f e X T with ⟨z, q⟩ | ⟨z, q⟩
    · refine ⟨X, T, z, ?_, q⟩
      rcases hio with ⟨rfl, rfl⟩ | ⟨rfl, rfl⟩
      · exact Or.inl ⟨rfl, rfl⟩
      · exact Or.inr ⟨rfl, rfl⟩
    · refine ⟨T, X, z, ?_, by omega⟩
      rcases hio with ⟨rfl, rfl⟩ | ⟨rfl, rfl⟩
      · exact Or.inr ⟨rfl, rfl⟩
      · exact Or.inl ⟨rfl, rfl⟩
  have hH : aH f e X T = dW f e h * 2 ^ (min (dP f e h - dP f e l) 36) := by unfold aH; rw [e1]
  have hL : aL f e X T = st_ (dW f e l) (dP f e h - dP f e l - min (dP f e h - dP f e l) 36) := by unfold aL; rw [e1]
  have hK : aK f e X T = dP f e h - min (dP f e h - dP f e l) 36 := by unfold aK; rw [e1]
  have hS : aM f e X T ≠ 0 → aS f e y X T = (dS f e h != (decide (dS f e X ≠ dS f e T) && decide (aH f e X T < aL f e X T))) := fun z => by unfold aS; rw [if_neg z, e1]
  rcases e2 with ⟨rfl, rfl⟩ | ⟨rfl, rfl⟩
  · -- the high one
    rw [ho, st_0] at hL
    have hM : aM f e X T = dW f e h * 2 ^ (min (dP f e h - dP f e l) 36) + st_ (dW f e l) (dP f e h - dP f e l - min (dP f e h - dP f e l) 36) := by
      unfold aM
      rw [hL, hH, ho, st_0]
      split
      · rfl
      · rw [if_pos (Nat.zero_le _), Nat.sub_zero, Nat.add_zero]
    have hpos : 0 < dW f e h * 2 ^ (dP f e h - dP f e l) + dW f e l := by
      have : 0 < dW f e h * 2 ^ (dP f e h - dP f e l) := Nat.mul_pos (by omega) (Nat.two_pow_pos _)
      omega
    have A := aq_classP (p := dP f e l) (by omega : f ≤ 23) (dW_lt f e l) (fun z => hid (Y := l) (by omega)) hpos
    rw [← hM, show dP f e l + (dP f e h - dP f e l) - min (dP f e h - dP f e l) 36 = aK f e X T by rw [hK]; omega] at A
    have B := aq_exact (f := f) (k := dP f e h) (Nat.pos_of_ne_zero hi)
    have eX : (dW f e h * 2 ^ (dP f e h - dP f e l) + dW f e l) * 2 ^ dP f e l = dW f e h * 2 ^ dP f e h := by
      rw [ho, Nat.add_zero, Nat.mul_assoc, ← Nat.pow_add]; congr 2; omega
    rw [eX] at A
    have hM0 : aM f e X T ≠ 0 := Nat.ne_of_gt A.1
    rw [hS hM0, hL, decide_eq_false (Nat.not_lt_zero _), Bool.and_false]
    rw [show (dS f e h != false) = dS f e h by cases dS f e h <;> rfl]
    exact rr_same hM0 hi (rs_of (by decide) A B)
  · -- the low one: then both have one power
    have ha : dP f e h - dP f e l = 0 := by
      rcases Nat.eq_zero_or_pos (dP f e h - dP f e l) with z | z
      · exact z
      · have := hid (f := f) (e := e) (X := h) (Y := l) (by omega)
        have := Nat.two_pow_pos f
        omega
    rw [ha] at hH hL hK
    simp only [Nat.zero_min, Nat.sub_zero, Nat.pow_zero, Nat.mul_one, st_zero, ho] at hH hL hK
    have hM : aM f e X T = dW f e l := by
      unfold aM
      rw [hH, hL]
      split
      · rw [Nat.zero_add]
      · rw [if_neg (by omega), Nat.sub_zero]
    have hM0 : aM f e X T ≠ 0 := by rw [hM]; exact hi
    have hsg : aS f e y X T = dS f e l := by
      rw [hS hM0, hH, hL, decide_eq_true (show 0 < dW f e l by omega), Bool.and_true]
      rcases hio with ⟨rfl, rfl⟩ | ⟨rfl, rfl⟩
      · cases dS f e l <;> cases dS f e h <;> rfl
      · cases dS f e l <;> cases dS f e h <;> rfl
    rw [hsg, hM, hK, show dP f e h = dP f e l by omega]
theorem sum_none (h1 : dW f e X = 0) (h2 : dW f e T = 0) : rr_ f e y (aS f e y X T) (aM f e X T) (aK f e X T) = (2 ^ (f + e) * (if dS f e X = dS f e T then dS f e X else decide (y = 3)).toNat, 0) := by
  have hh : dW f e (hl_ f e X T).1 = 0 := by
    rcases hl_or f e X T with ⟨z, -⟩ | ⟨z, -⟩ <;> rw [z] <;> assumption
  have hl : dW f e (hl_ f e X T).2 = 0 := by
    rcases hl_or f e X T with ⟨z, -⟩ | ⟨z, -⟩ <;> rw [z] <;> assumption
  have hH : aH f e X T = 0 := by unfold aH; rw [hh, Nat.zero_mul]
  have hL : aL f e X T = 0 := by unfold aL; rw [hl, st_0]
  have hM : aM f e X T = 0 := by
    unfold aM
    rw [hH, hL]
    split
    · rfl
    · rw [if_pos (Nat.le_refl _)]
  rw [rr_, if_pos hM, aS, if_pos hM]
/-- both not 0: what the reference makes of them -/
def bH (f e h l : Nat) : Nat := dW f e h * 2 ^ (if 38 < dP f e h - dP f e l then 15 else dP f e h - dP f e l)
def bL (f e h l : Nat) : Nat := if 38 < dP f e h - dP f e l then 1 else dW f e l
def bK (f e h l : Nat) : Nat := if 38 < dP f e h - dP f e l then dP f e h - 15 else dP f e l
theorem sum_both (hf : fmt_ f e) {h l : Nat} (hhl : hl_ f e X T = (h, l)) (hh : dW f e h ≠ 0) (hl : dW f e l ≠ 0) :
    (dS f e X = dS f e T → rr_ f e y (aS f e y X T) (aM f e X T) (aK f e X T) = rr_ f e y (dS f e X) (bH f e h l + bL f e h l) (bK f e h l)) ∧
    (dS f e X ≠ dS f e T → (bH f e h l = bL f e h l → rr_ f e y (aS f e y X T) (aM f e X T) (aK f e X T) = (2 ^ (f + e) * (decide (y = 3)).toNat, 0)) ∧
      (bL f e h l < bH f e h l → rr_ f e y (aS f e y X T) (aM f e X T) (aK f e X T) = rr_ f e y (dS f e h) (bH f e h l - bL f e h l) (bK f e h l)) ∧
      (bH f e h l < bL f e h l → rr_ f e y (aS f e y X T) (aM f e X T) (aK f e X T) = rr_ f e y (dS f e l) (bL f e h l - bH f e h l) (bK f e h l))) := by
  have hb := fmt_b hf
  have hpl : dP f e l ≤ dP f e h := by
    rcases hl_or f e X T with ⟨z, q⟩ | ⟨z, q⟩
    · rw [hhl] at z
      obtain ⟨rfl, rfl⟩ := Prod.mk.inj z
      exact q
    · rw [hhl] at z
      obtain ⟨rfl, rfl⟩ := Prod.mk.inj z
      omega
  have hsd : (dS f e X = dS f e T → dS f e h = dS f e X) ∧ (dS f e X ≠ dS f e T → dS f e l = !dS f e h) := by
    have two : ∀ p q : Bool, p ≠ q → q = !p := by decide
    rcases hl_or f e X T with ⟨z, -⟩ | ⟨z, -⟩
    · rw [hhl] at z
      obtain ⟨rfl, rfl⟩ := Prod.mk.inj z
      exact ⟨fun _ => rfl, fun q => two _ _ q⟩
    · rw [hhl] at z
      obtain ⟨rfl, rfl⟩ := Prod.mk.inj z
      exact ⟨fun q => q.symm, fun q => two _ _ (Ne.symm q)⟩
  have hH : aH f e X T = dW f e h * 2 ^ (min (dP f e h - dP f e l) 36) := by unfold aH; rw [hhl]
  have hL : aL f e X T = st_ (dW f e l) (dP f e h - dP f e l - min (dP f e h - dP f e l) 36) := by unfold aL; rw [hhl]
  have hK : aK f e X T = dP f e l + (dP f e h - dP f e l) - min (dP f e h - dP f e l) 36 := by unfold aK; rw [hhl]; show dP f e h - min (dP f e h - dP f e l) 36 = _; omega
  have hKb : bK f e h l = if 38 < dP f e h - dP f e l then dP f e l + (dP f e h - dP f e l) - 15 else dP f e l := by unfold bK; split <;> omega
  have hS : aM f e X T ≠ 0 → aS f e y X T = (dS f e h != (decide (dS f e X ≠ dS f e T) && decide (aH f e X T < aL f e X T))) := fun z => by unfold aS; rw [if_neg z, hhl]
  have hid' : 0 < dP f e h - dP f e l → 2 ^ f ≤ dW f e h := fun z => hid (Y := l) (by omega)
  have wl := dW_lt f e l
  refine ⟨fun hs => ?_, fun hs => ?_⟩
  · have A := aq_classP (p := dP f e l) (by omega : f ≤ 23) wl hid' (by
      have : 0 < dW f e h * 2 ^ (dP f e h - dP f e l) := Nat.mul_pos (by omega) (Nat.two_pow_pos _)
      omega)
    rw [← hH, ← hL, ← hK] at A
    have B := aq_modelP (p := dP f e l) (by omega : f ≤ 23) wl hid' (Nat.pos_of_ne_zero hl)
    have hM : aM f e X T = aH f e X T + aL f e X T := by unfold aM; rw [if_pos hs]
    rw [← hM] at A
    rw [← hKb] at B
    have hM0 : aM f e X T ≠ 0 := Nat.ne_of_gt A.1
    rw [hS hM0, hsd.1 hs, decide_eq_false (fun z => z hs), Bool.false_and]
    rw [show (dS f e X != false) = dS f e X by cases dS f e X <;> rfl]
    exact rr_same hM0 (Nat.ne_of_gt B.1) (rs_of (by decide) A B)
  · by_cases hlt : dW f e l < dW f e h * 2 ^ (dP f e h - dP f e l)
    · obtain ⟨a1, A⟩ := aq_classM (p := dP f e l) (by omega : f ≤ 23) wl hid' hlt
      obtain ⟨b1, B⟩ := aq_modelM (p := dP f e l) (by omega : f ≤ 23) wl hid' (Nat.pos_of_ne_zero hl) hlt
      rw [← hH, ← hL, ← hK] at A
      rw [← hH, ← hL] at a1
      rw [← hKb] at B
      have hM : aM f e X T = aH f e X T - aL f e X T := by unfold aM; rw [if_neg hs, if_pos (by omega)]
      rw [← hM] at A
      have hM0 : aM f e X T ≠ 0 := Nat.ne_of_gt A.1
      have b1' : bL f e h l < bH f e h l := b1
      refine ⟨fun z => by omega, fun _ => ?_, fun z => by omega⟩
      rw [hS hM0, decide_eq_false (show ¬ aH f e X T < aL f e X T by omega), Bool.and_false]
      rw [show (dS f e h != false) = dS f e h by cases dS f e h <;> rfl]
      exact rr_same hM0 (Nat.ne_of_gt B.1) (rs_of (by decide) A B)
    · have ha : dP f e h - dP f e l = 0 := by
        rcases Nat.eq_zero_or_pos (dP f e h - dP f e l) with z | z
        · exact z
        · exact absurd (far_lt wl (hid' z) z) hlt
      have eHb : bH f e h l = dW f e h := by unfold bH; rw [ha]; simp
      have eLb : bL f e h l = dW f e l := by unfold bL; rw [ha]; simp
      have eKb : bK f e h l = dP f e l := by unfold bK; rw [ha]; simp
      rw [ha] at hH hL hK hlt
      simp only [Nat.zero_min, Nat.sub_zero, Nat.pow_zero, Nat.mul_one, st_zero, Nat.add_zero] at hH hL hK hlt
      rw [eHb, eLb, eKb]
      refine ⟨fun z => ?_, fun z => by omega, fun z => ?_⟩
      · have hM : aM f e X T = 0 := by unfold aM; rw [if_neg hs, hH, hL, if_pos (by omega)]; omega
        rw [rr_, if_pos hM, aS, if_pos hM, if_neg hs]
      · have hM : aM f e X T = dW f e l - dW f e h := by unfold aM; rw [if_neg hs, hH, hL, if_neg (by omega)]
        have hM0 : aM f e X T ≠ 0 := by omega
        rw [hS hM0, hH, hL, decide_eq_true z, decide_eq_true hs, hM, hK, hsd.2 hs]
        cases dS f e h <;> rfl
/-- quotients -/
def uQ (f e X : Nat) : Nat := 61 - Nat.log2 (dW f e X)
def bQ (f e X T : Nat) : Nat := 2 * (dW f e X * 2 ^ uQ f e X / dW f e T / 4) + (if dW f e X * 2 ^ uQ f e X / dW f e T % 4 = 0 ∧ dW f e X * 2 ^ uQ f e X % dW f e T = 0 then 0 else 1)
def bQK (f e X T : Nat) : Nat := dP f e X + 1000 - uQ f e X - dP f e T + 1
theorem uQ_bd (hf : fmt_ f e) (hX : dW f e X ≠ 0) : uQ f e X ≤ 61 ∧ 2 ^ 61 ≤ dW f e X * 2 ^ uQ f e X ∧ dW f e X * 2 ^ uQ f e X < 2 ^ 62 := by
  have hb := fmt_b hf
  have l1 := Nat.log2_self_le hX
  have l2 := @Nat.lt_log2_self (dW f e X)
  have hl : Nat.log2 (dW f e X) < f + 1 := by rw [Nat.log2_lt hX]; exact dW_lt f e X
  unfold uQ
  generalize Nat.log2 (dW f e X) = n at *
  refine ⟨by omega, ?_, ?_⟩
  · have h1 : 2 ^ n * 2 ^ (61 - n) ≤ dW f e X * 2 ^ (61 - n) := Nat.mul_le_mul_right _ l1
    rw [← Nat.pow_add, show n + (61 - n) = 61 by omega] at h1
    exact h1
  · have h1 : dW f e X * 2 ^ (61 - n) < 2 ^ (n + 1) * 2 ^ (61 - n) := Nat.mul_lt_mul_of_pos_right l2 (Nat.two_pow_pos _)
    rw [← Nat.pow_add, show n + 1 + (61 - n) = 62 by omega] at h1
    exact h1
theorem quo_same (hf : fmt_ f e) (hX : dW f e X ≠ 0) (hT : dW f e T ≠ 0) {s : Bool} : rr_ f e y s (qM f e X T) (qK f e X T) = rr_ f e y s (bQ f e X T) (bQK f e X T) := by
  have hb := fmt_b hf
  have hd := dv_bd hf X
  have hu := uQ_bd hf hX
  have p1 := dP_b hf X
  have p2 := dP_b hf T
  have A := aq_classQ (f := f) (n := dv f e X) (k := qK f e X T) (wa := dW f e X) (wb := dW f e T) (by omega) (Nat.pos_of_ne_zero hT) (dW_lt f e T) (hd.2.2 hX)
  have B := aq_modelQ (f := f) (n := uQ f e X) (k := dP f e X + 1000 - uQ f e X - dP f e T) (wa := dW f e X) (wb := dW f e T) (by omega) (Nat.pos_of_ne_zero hT) (dW_lt f e T) hu.2.1
  have eX : dW f e X * 2 ^ dv f e X * 2 ^ qK f e X T = dW f e X * 2 ^ uQ f e X * 2 ^ (dP f e X + 1000 - uQ f e X - dP f e T) := by
    rw [Nat.mul_assoc, Nat.mul_assoc, ← Nat.pow_add, ← Nat.pow_add]
    congr 2
    unfold qK
    omega
  rw [eX] at A
  exact rr_same (Nat.ne_of_gt A.1) (Nat.ne_of_gt B.1) (rs_of (Nat.pos_of_ne_zero hT) A B)
end
end
