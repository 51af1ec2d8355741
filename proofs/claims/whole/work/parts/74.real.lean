section
/-! ===== numbers with a point in the class: the answer; the call real ===== -/
abbrev nf_ (f e X : Nat) : Prop := dE f e X = 2 ^ e - 1 ∧ dF f X = 0
abbrev no_ (f e X : Nat) : Prop := dE f e X = 2 ^ e - 1 ∧ dF f X ≠ 0
def wn_ (f e k X Y : Nat) : Nat × Nat :=
  if k ≤ 1 then (if nf_ f e X ∧ nf_ f e Y ∧ dS f e X ≠ dS f e Y then (vN f e, 1) else (if nf_ f e X then X else Y, 0))
  else if k = 2 then (if dW f e X = 0 ∨ dW f e Y = 0 then (vN f e, 1) else (vI f e (dS f e X != dS f e Y), 0))
  else if (nf_ f e X ∧ nf_ f e Y) ∨ (dW f e X = 0 ∧ dW f e Y = 0) then (vN f e, 1)
  else if nf_ f e Y then (2 ^ (f + e) * (dS f e X != dS f e Y).toNat, 0)
  else (vI f e (dS f e X != dS f e Y), if nf_ f e X then 0 else 2)
def tu_ (f e k Y : Nat) : Nat := if k = 1 then Y ^^^ 2 ^ (f + e) else Y
def ra_ (f e y k X Y : Nat) : Nat × Nat :=
  if no_ f e X ∨ no_ f e Y then (vN f e, 0)
  else if nf_ f e X ∨ nf_ f e (tu_ f e k Y) ∨ (k = 3 ∧ dW f e (tu_ f e k Y) = 0) then wn_ f e k X (tu_ f e k Y)
  else if k = 3 then rr_ f e y (dS f e X != dS f e (tu_ f e k Y)) (qM f e X (tu_ f e k Y)) (qK f e X (tu_ f e k Y))
  else if k = 2 then rr_ f e y (dS f e X != dS f e (tu_ f e k Y)) (dW f e X * dW f e (tu_ f e k Y)) (dP f e X + dP f e (tu_ f e k Y) - 1000)
  else rr_ f e y (aS f e y X (tu_ f e k Y)) (aM f e X (tu_ f e k Y)) (aK f e X (tu_ f e k Y))
theorem tu_lt {f e k Y : Nat} (h : Y < 2 ^ (f + e + 1)) : tu_ f e k Y < 2 ^ (f + e + 1) := by
  unfold tu_
  split
  · exact Nat.xor_lt_two_pow h (Nat.pow_lt_pow_right (by decide) (by omega))
  · exact h
section
variable {L : Nat} {xs : Nat → Int32} {σ : ks_St} {f e y X Y : Nat}
theorem c_withoutRounding {k : Nat} (h : PN_ f e y σ) (hk : k ≤ 3) (hX : X < 2 ^ (f + e + 1)) (hY : Y < 2 ^ (f + e + 1)) (h7 : si_ σ 7 = 0) : ks_M L xs mX2_withoutRounding rm_X2_withoutRounding [.ref 16, .int (nI k), .long (lN X), .long (lN Y)] σ (pl_ fun r σ' => r = lN (wn_ f e k X Y).1 ∧ si_ σ' 7 = nI (wn_ f e k X Y).2 ∧ fr_ [7] [] [] [] σ σ') := by
  refine ks_body (by decide) (Nat.le_of_ble_eq_true rfl) ?_
  have hb := fmt_b h.1
  have zX : decide (X % 2 ^ (f + e) = 0) = decide (dW f e X = 0) := decide_eq_decide.mpr (dZ_iff f e X)
  have zY : decide (Y % 2 ^ (f + e) = 0) = decide (dW f e Y = 0) := decide_eq_decide.mpr (dZ_iff f e Y)
  refine sg_X2_withoutRounding_0 (cs_X2_withoutRounding_2 (c_signOf h hX) (fun r σ1 hr => ?_))
  obtain ⟨rfl, rfl⟩ := hr
  refine sg_X2_withoutRounding_5 (cs_X2_withoutRounding_8 (c_signOf h hY) (fun r σ1 hr => ?_))
  obtain ⟨rfl, rfl⟩ := hr
  generalize hQ : (pl_ fun r σ' => r = lN (wn_ f e k X Y).1 ∧ si_ σ' 7 = nI (wn_ f e k X Y).2 ∧ fr_ [7] [] [] [] σ1 σ') = Q
  have f7 : ∀ v : Int32, fr_ [7] [] [] [] σ1 (ui_ σ1 7 v) := fun v => fr_ui _ _ (by decide)
  -- ends: a value with the flags as they are; not valid
  have plain : ∀ v : Nat, wn_ f e k X Y = (v, 0) → Q (.inl (some (.long (lN v)))) σ1 := fun v hv => by
    rw [← hQ, hv]; exact ⟨_, rfl, rfl, h7, fr_refl _⟩
  have inval : wn_ f e k X Y = (vN f e, 1) → Q (.inl (some (.long (lN (vN f e))))) (ui_ σ1 7 1) := fun hv => by
    rw [← hQ, hv]; exact ⟨_, rfl, rfl, by rw [si_ui, if_pos rfl]; rfl, f7 _⟩
  have k1 : (1 : Int32) < nI k ↔ 1 < k := nI_ltI (a := 1) (by decide) (by omega)
  have k2 : nI k = 2 ↔ k = 2 := nI_eq (b := 2) (by omega) (by decide)
  -- from 43: other signs, both infinite
  have at43 : ∀ ot bi : Bool, ot = (dS f e X != dS f e Y) → bi = decide (nf_ f e X ∧ nf_ f e Y) → ks_W L xs mX2_withoutRounding rm_X2_withoutRounding 43 [(0, .ref 16), (1, .int (nI k)), (2, .long (lN X)), (4, .long (lN Y)), (6, .int (b1_ ot))] [.int (b1_ bi)] σ1 0 0 Q := by
    intro ot bi hot hbi
    have nv144 : 1 < k → k ≠ 2 → (nf_ f e X ∧ nf_ f e Y) ∨ (dW f e X = 0 ∧ dW f e Y = 0) → ks_W L xs mX2_withoutRounding rm_X2_withoutRounding 144 [(0, .ref 16)] [] σ1 0 0 Q := by
      intro q1 q2 q3
      refine sg_X2_withoutRounding_144 (cs_X2_withoutRounding_145 (c_notValid h) (fun r σ2 hr => ?_))
      obtain ⟨rfl, rfl⟩ := hr
      exact sg_X2_withoutRounding_148 (inval (by rw [wn_, if_neg (by omega), if_neg q2, if_pos q3]))
    refine sg_X2_withoutRounding_43 (fun c d g => ?_) (fun c d g => ?_) (fun c d => ?_) (fun c => ?_)
    · rw [k1] at c
      rw [k2] at d
      rw [b1_0, hbi] at g
      exact nv144 c d (Or.inl (of_decide_eq_true (eq_true_of_ne_false g)))
    · rw [k1] at c
      rw [k2] at d
      rw [b1_0, hbi] at g
      have nb := of_decide_eq_false g
      have at149 : ¬ (dW f e X = 0 ∧ dW f e Y = 0) → ks_W L xs mX2_withoutRounding rm_X2_withoutRounding 149 [(0, .ref 16), (2, .long (lN X)), (4, .long (lN Y)), (6, .int (b1_ ot))] [] σ1 0 0 Q := by
        intro nz
        have hw : wn_ f e k X Y = if nf_ f e Y then (2 ^ (f + e) * (dS f e X != dS f e Y).toNat, 0) else (vI f e (dS f e X != dS f e Y), if nf_ f e X then 0 else 2) := by
          rw [wn_, if_neg (by omega), if_neg d, if_neg (fun z => z.elim nb nz)]
        refine sg_X2_withoutRounding_149 (cs_X2_withoutRounding_152 (c_isInfinite h hY) (fun r σ2 hr => ?_))
        obtain ⟨rfl, rfl⟩ := hr
        refine sg_X2_withoutRounding_155 (fun q => ?_) (fun q => ?_)
        · rw [b1_0] at q
          have q' := of_decide_eq_false q
          rw [if_neg q'] at hw
          refine cs_X2_withoutRounding_169 (c_isInfinite h hX) (fun r σ3 hr => ?_)
          obtain ⟨rfl, rfl⟩ := hr
          have fin : ∀ v : Nat, v = (if nf_ f e X then 0 else 2) → ks_W L xs mX2_withoutRounding rm_X2_withoutRounding 180 [(0, .ref 16), (6, .int (b1_ ot))] [.int (nI v), .ref 16] σ3 0 0 Q := by
            intro v hv
            have h' : PN_ f e y (ui_ σ3 7 (nI v)) := PN_fr h (f7 _) (by decide) (by decide)
            refine sg_X2_withoutRounding_180 (cs_X2_withoutRounding_186 (c_infinite h') (fun r σ4 hr => ?_))
            obtain ⟨rfl, rfl⟩ := hr
            refine sg_X2_withoutRounding_189 ?_
            rw [← hQ, hw, hot]
            exact ⟨_, rfl, rfl, by rw [si_ui, if_pos rfl, hv], f7 _⟩
          refine sg_X2_withoutRounding_172 (fun z => fin 2 ?_) (fun z => fin 0 ?_)
          · rw [b1_0] at z
            rw [if_neg (of_decide_eq_false z)]
          · rw [b1_0] at z
            rw [if_pos (of_decide_eq_true (eq_true_of_ne_false z))]
        · rw [b1_0] at q
          have q' := of_decide_eq_true (eq_true_of_ne_false q)
          rw [if_pos q'] at hw
          refine cs_X2_withoutRounding_162 (c_withSign (v := 0) h (Nat.two_pow_pos _)) (fun r σ3 hr => ?_)
          obtain ⟨rfl, rfl⟩ := hr
          refine sg_X2_withoutRounding_165 ?_
          rw [Nat.zero_add, hot]
          exact plain _ hw
      refine cs_X2_withoutRounding_129 (c_isNoughtP h hX) (fun r σ2 hr => ?_)
      obtain ⟨rfl, rfl⟩ := hr
      rw [zX]
      refine sg_X2_withoutRounding_132 (fun q => ?_) (fun q => ?_)
      · rw [b1_0] at q
        exact at149 (fun z => of_decide_eq_false q z.1)
      · rw [b1_0] at q
        have q' := of_decide_eq_true (eq_true_of_ne_false q)
        refine cs_X2_withoutRounding_138 (c_isNoughtP h hY) (fun r σ3 hr => ?_)
        obtain ⟨rfl, rfl⟩ := hr
        rw [zY]
        refine sg_X2_withoutRounding_141 (fun z => ?_) (fun z => ?_)
        · rw [b1_0] at z
          exact at149 (fun i => of_decide_eq_false z i.2)
        · rw [b1_0] at z
          exact nv144 c d (Or.inr ⟨q', of_decide_eq_true (eq_true_of_ne_false z)⟩)
    · rw [k2] at d
      have hw : wn_ f e k X Y = if dW f e X = 0 ∨ dW f e Y = 0 then (vN f e, 1) else (vI f e (dS f e X != dS f e Y), 0) := by rw [wn_, if_neg (by omega), if_pos d]
      have nv : (dW f e X = 0 ∨ dW f e Y = 0) → ks_W L xs mX2_withoutRounding rm_X2_withoutRounding 108 [(0, .ref 16)] [] σ1 0 0 Q := by
        intro q
        refine sg_X2_withoutRounding_108 (cs_X2_withoutRounding_109 (c_notValid h) (fun r σ2 hr => ?_))
        obtain ⟨rfl, rfl⟩ := hr
        exact sg_X2_withoutRounding_112 (sg_X2_withoutRounding_121 (inval (by rw [hw, if_pos q])))
      refine cs_X2_withoutRounding_93 (c_isNoughtP h hX) (fun r σ2 hr => ?_)
      obtain ⟨rfl, rfl⟩ := hr
      rw [zX]
      refine sg_X2_withoutRounding_96 (fun q => ?_) (fun q => ?_)
      · rw [b1_0] at q
        exact nv (Or.inl (of_decide_eq_true (eq_true_of_ne_false q)))
      · rw [b1_0] at q
        refine cs_X2_withoutRounding_102 (c_isNoughtP h hY) (fun r σ3 hr => ?_)
        obtain ⟨rfl, rfl⟩ := hr
        rw [zY]
        refine sg_X2_withoutRounding_105 (fun z => ?_) (fun z => ?_)
        · rw [b1_0] at z
          refine cs_X2_withoutRounding_118 (c_infinite h) (fun r σ4 hr => ?_)
          obtain ⟨rfl, rfl⟩ := hr
          refine sg_X2_withoutRounding_121 ?_
          rw [hot]
          exact plain _ (by rw [hw, if_neg (fun i => i.elim (of_decide_eq_false q) (of_decide_eq_false z))])
        · rw [b1_0] at z
          exact nv (Or.inr (of_decide_eq_true (eq_true_of_ne_false z)))
    · rw [k1] at c
      have hw : wn_ f e k X Y = if nf_ f e X ∧ nf_ f e Y ∧ dS f e X ≠ dS f e Y then (vN f e, 1) else (if nf_ f e X then X else Y, 0) := by rw [wn_, if_pos (by omega)]
      refine cs_X2_withoutRounding_52 (c_isInfinite h hX) (fun r σ2 hr => ?_)
      obtain ⟨rfl, rfl⟩ := hr
      have at64 : ks_W L xs mX2_withoutRounding rm_X2_withoutRounding 64 [(0, .ref 16), (6, .int (b1_ ot)), (7, .int (b1_ bi))] [.long (lN (if nf_ f e X then X else Y))] σ2 0 0 Q := by
        refine sg_X2_withoutRounding_64 (fun q => ?_) (fun q z => ?_) (fun q z => ?_)
        · rw [b1_0, hbi] at q
          have q' := of_decide_eq_false q
          exact sg_X2_withoutRounding_83 (sg_X2_withoutRounding_85 (plain _ (by rw [hw, if_neg (fun i => q' ⟨i.1, i.2.1⟩)])))
        · rw [b1_0, hot] at z
          have z' : dS f e X = dS f e Y := by simpa using z
          exact sg_X2_withoutRounding_83 (sg_X2_withoutRounding_85 (plain _ (by rw [hw, if_neg (fun i => i.2.2 z')])))
        · rw [b1_0, hbi] at q
          rw [b1_0, hot] at z
          have q' := of_decide_eq_true (eq_true_of_ne_false q)
          have z' : dS f e X ≠ dS f e Y := fun i => z (by rw [i]; simp)
          refine cs_X2_withoutRounding_77 (c_notValid h) (fun r σ3 hr => ?_)
          obtain ⟨rfl, rfl⟩ := hr
          exact sg_X2_withoutRounding_80 (sg_X2_withoutRounding_85 (inval (by rw [hw, if_pos ⟨q'.1, q'.2, z'⟩])))
      refine sg_X2_withoutRounding_55 (fun q => ?_) (fun q => ?_)
      · rw [b1_0] at q
        rw [if_neg (of_decide_eq_false q)] at at64
        exact at64
      · rw [b1_0] at q
        rw [if_pos (of_decide_eq_true (eq_true_of_ne_false q))] at at64
        exact at64
  have at19 : ∀ ot : Bool, ot = (dS f e X != dS f e Y) → ks_W L xs mX2_withoutRounding rm_X2_withoutRounding 19 [(0, .ref 16), (1, .int (nI k)), (2, .long (lN X)), (4, .long (lN Y))] [.int (b1_ ot)] σ1 0 0 Q := by
    intro ot hot
    refine sg_X2_withoutRounding_19 (cs_X2_withoutRounding_23 (c_isInfinite h hX) (fun r σ2 hr => ?_))
    obtain ⟨rfl, rfl⟩ := hr
    refine sg_X2_withoutRounding_26 (fun q => ?_) (fun q => ?_)
    · rw [b1_0] at q
      exact sg_X2_withoutRounding_42 (at43 ot false hot (decide_eq_false (fun z => of_decide_eq_false q z.1)).symm)
    · rw [b1_0] at q
      refine cs_X2_withoutRounding_32 (c_isInfinite h hY) (fun r σ3 hr => ?_)
      obtain ⟨rfl, rfl⟩ := hr
      refine sg_X2_withoutRounding_35 (fun z => ?_) (fun z => ?_)
      · rw [b1_0] at z
        exact sg_X2_withoutRounding_42 (at43 ot false hot (decide_eq_false (fun i => of_decide_eq_false z i.2)).symm)
      · rw [b1_0] at z
        exact at43 ot true hot (decide_eq_true ⟨of_decide_eq_true (eq_true_of_ne_false q), of_decide_eq_true (eq_true_of_ne_false z)⟩).symm
  refine sg_X2_withoutRounding_11 (fun c => ?_) (fun c => ?_)
  · rw [b1_inj] at c
    exact at19 false (by rw [c]; simp)
  · rw [b1_inj] at c
    exact at19 true (by simp [c])
theorem lN_xor2 {a b : Nat} (ha : a < 2 ^ 64) (hb : b < 2 ^ 64) : lN a ^^^ lN b = lN (a ^^^ b) := by
  apply lN_un
  rw [un_xor, unl ha, unl hb]
theorem c_answer {k : Nat} (h : PN_ f e y σ) (hk : k ≤ 3) (hX : X < 2 ^ (f + e + 1)) (hY : Y < 2 ^ (f + e + 1)) : ks_M L xs mX2_answer rm_X2_answer [.ref 16, .int (nI k), .long (lN X), .long (lN Y)] σ (pl_ fun r σ' => r = lN (ra_ f e y k X Y).1 ∧ si_ σ' 7 = nI (ra_ f e y k X Y).2 ∧ fr_ [7, 12, 13] [1] [] [] σ σ') := by
  refine ks_body (by decide) (Nat.le_of_ble_eq_true rfl) ?_
  have hb := fmt_b h.1
  refine sg_X2_answer_0 ?_
  have f0 : fr_ [7, 12, 13] [1] [] [] σ (ui_ σ 7 0) := fr_ui _ _ (by decide)
  have h0 : PN_ f e y (ui_ σ 7 0) := PN_fr h f0 (by decide) (by decide)
  have e7 : si_ (ui_ σ 7 0) 7 = 0 := by rw [si_ui, if_pos rfl]
  generalize ui_ σ 7 0 = σ0 at f0 h0 e7 ⊢
  generalize hQ : (pl_ fun r σ' => r = lN (ra_ f e y k X Y).1 ∧ si_ σ' 7 = nI (ra_ f e y k X Y).2 ∧ fr_ [7, 12, 13] [1] [] [] σ σ') = Q
  have none : (no_ f e X ∨ no_ f e Y) → ks_W L xs mX2_answer rm_X2_answer 22 [(0, .ref 16)] [] σ0 0 0 Q := by
    intro z
    refine sg_X2_answer_22 (cs_X2_answer_23 (c_none h0) (fun r σ1 hr => ?_))
    obtain ⟨rfl, rfl⟩ := hr
    refine sg_X2_answer_26 ?_
    rw [← hQ, ra_, if_pos z]
    exact ⟨_, rfl, rfl, e7, f0⟩
  refine cs_X2_answer_7 (c_isNone h0 hX) (fun r σ1 hr => ?_)
  obtain ⟨rfl, rfl⟩ := hr
  refine sg_X2_answer_10 (fun c => none (Or.inl (of_decide_eq_true (eq_true_of_ne_false (fun z => c (b1_0.mpr z)))))) (fun c => ?_)
  have nX := of_decide_eq_false (b1_0.mp c)
  refine cs_X2_answer_16 (c_isNone h0 hY) (fun r σ1 hr => ?_)
  obtain ⟨rfl, rfl⟩ := hr
  have main : ¬ no_ f e Y → ks_W L xs mX2_answer rm_X2_answer 44 [(0, .ref 16), (1, .int (nI k)), (2, .long (lN X))] [.long (lN (tu_ f e k Y))] σ1 0 0 Q := by
    intro nY
    have hT := tu_lt (f := f) (e := e) (k := k) hY
    have hra : ra_ f e y k X Y = if nf_ f e X ∨ nf_ f e (tu_ f e k Y) ∨ (k = 3 ∧ dW f e (tu_ f e k Y) = 0) then wn_ f e k X (tu_ f e k Y)
        else if k = 3 then rr_ f e y (dS f e X != dS f e (tu_ f e k Y)) (qM f e X (tu_ f e k Y)) (qK f e X (tu_ f e k Y))
        else if k = 2 then rr_ f e y (dS f e X != dS f e (tu_ f e k Y)) (dW f e X * dW f e (tu_ f e k Y)) (dP f e X + dP f e (tu_ f e k Y) - 1000)
        else rr_ f e y (aS f e y X (tu_ f e k Y)) (aM f e X (tu_ f e k Y)) (aK f e X (tu_ f e k Y)) := by
      rw [ra_, if_neg (fun z => z.elim nX nY)]
    generalize tu_ f e k Y = T at *
    have k3 : nI k = 3 ↔ k = 3 := nI_eq (b := 3) (by omega) (by decide)
    have k2 : nI k = 2 ↔ k = 2 := nI_eq (b := 2) (by omega) (by decide)
    have without : (nf_ f e X ∨ nf_ f e T ∨ (k = 3 ∧ dW f e T = 0)) → ks_W L xs mX2_answer rm_X2_answer 89 [(0, .ref 16), (1, .int (nI k)), (2, .long (lN X)), (6, .long (lN T))] [] σ1 0 0 Q := by
      intro z
      refine sg_X2_answer_89 (cs_X2_answer_94 (c_withoutRounding h0 hk hX hT e7) (fun r σ2 hr => ?_))
      obtain ⟨rfl, g7, g⟩ := hr
      refine sg_X2_answer_97 ?_
      rw [← hQ, hra, if_pos z]
      exact ⟨_, rfl, rfl, g7, fr_trans f0 (fr_mono g (by decide) (by decide) (by decide) (by decide))⟩
    have round : ∀ (σ2 : ks_St) (s : Bool) (M K : Nat), PN_ f e y σ2 → si_ σ2 12 = b1_ s → sj_ σ2 1 = lN M → M < 2 ^ 61 → si_ σ2 13 = pw_ K → 100 ≤ K → K < 5000 → si_ σ2 7 = 0 → fr_ [7, 12, 13] [1] [] [] σ σ2 → ra_ f e y k X Y = rr_ f e y s M K → ks_W L xs mX2_answer rm_X2_answer 135 [(0, .ref 16)] [] σ2 0 0 Q := by
      intro σ2 s M K h2 a1 a2 a3 a4 a5 a6 a7 f2 er
      refine sg_X2_answer_135 (cs_X2_answer_136 (c_rounded h2 a1 a2 a3 a4 a5 a6 a7) (fun r σ3 hr => ?_))
      obtain ⟨rfl, g7, g⟩ := hr
      refine sg_X2_answer_139 ?_
      rw [← hQ, er]
      exact ⟨_, rfl, rfl, g7, fr_trans f2 (fr_mono g (by decide) (by decide) (by decide) (by decide))⟩
    have at98 : ∀ q : Bool, q = decide (k = 3) → ¬ (nf_ f e X ∨ nf_ f e T ∨ (k = 3 ∧ dW f e T = 0)) → ks_W L xs mX2_answer rm_X2_answer 98 [(0, .ref 16), (1, .int (nI k)), (2, .long (lN X)), (6, .long (lN T)), (8, .int (b1_ q))] [] σ1 0 0 Q := by
      intro q hq nw
      rw [if_neg nw] at hra
      have pX := dP_b h.1 X
      have pT := dP_b h.1 T
      refine sg_X2_answer_98 (fun c d => ?_) (fun c d => ?_) (fun c => ?_)
      · rw [b1_0, hq] at c
        rw [k2] at d
        have c' := of_decide_eq_false c
        rw [if_neg c', if_neg d] at hra
        obtain ⟨bH, bL, bM, bK1, bK2⟩ := a_bd h.1 X T
        refine cs_X2_answer_132 (c_addP h0 hX hT) (fun σ2 hr => ?_)
        obtain ⟨a1, a2, a3, g⟩ := hr
        exact round σ2 _ _ _ (PN_fr h0 g (by decide) (by decide)) a1 a2 bM a3 bK1 bK2 (by rw [g.1 7 (by decide)]; exact e7) (fr_trans f0 (fr_mono g (by decide) (by decide) (by decide) (by decide))) hra
      · rw [b1_0, hq] at c
        rw [k2] at d
        have c' := of_decide_eq_false c
        rw [if_neg c', if_pos d] at hra
        refine cs_X2_answer_122 (c_multiplyP h0 hX hT) (fun σ2 hr => ?_)
        obtain ⟨a1, a2, a3, g⟩ := hr
        have w1 := dW_24 h.1 X
        have w2 := dW_24 h.1 T
        have w3 : dW f e X * dW f e T ≤ 2 ^ 24 * 2 ^ 24 := Nat.mul_le_mul (by omega) (by omega)
        exact sg_X2_answer_125 (round σ2 _ _ _ (PN_fr h0 g (by decide) (by decide)) a1 a2 (by omega) a3 (by omega) (by omega) (by rw [g.1 7 (by decide)]; exact e7) (fr_trans f0 (fr_mono g (by decide) (by decide) (by decide) (by decide))) hra)
      · rw [b1_0, hq] at c
        have c' := of_decide_eq_true (eq_true_of_ne_false c)
        rw [if_pos c'] at hra
        have hT0 : dW f e T ≠ 0 := fun z => nw (Or.inr (Or.inr ⟨c', z⟩))
        refine cs_X2_answer_107 (c_divideP h0 hX hT hT0) (fun σ2 hr => ?_)
        obtain ⟨a1, a2, a3, g⟩ := hr
        have hdv := dv_bd h.1 X
        have hq : qM f e X T < 2 ^ 61 := by
          unfold qM
          have : dW f e X * 2 ^ dv f e X / dW f e T ≤ dW f e X * 2 ^ dv f e X := Nat.div_le_self _ _
          split <;> omega
        have hK : 100 ≤ qK f e X T ∧ qK f e X T < 5000 := by unfold qK; omega
        exact sg_X2_answer_110 (round σ2 _ _ _ (PN_fr h0 g (by decide) (by decide)) a1 a2 hq a3 hK.1 hK.2 (by rw [g.1 7 (by decide)]; exact e7) (fr_trans f0 (fr_mono g (by decide) (by decide) (by decide) (by decide))) hra)
    have at56 : ∀ q : Bool, q = decide (k = 3) → ks_W L xs mX2_answer rm_X2_answer 56 [(0, .ref 16), (1, .int (nI k)), (2, .long (lN X)), (6, .long (lN T))] [.int (b1_ q)] σ1 0 0 Q := by
      intro q hq
      refine sg_X2_answer_56 (cs_X2_answer_60 (c_isInfinite h0 hX) (fun r σ2 hr => ?_))
      obtain ⟨rfl, rfl⟩ := hr
      refine sg_X2_answer_63 (fun c => without (Or.inl (of_decide_eq_true (eq_true_of_ne_false (fun z => c (b1_0.mpr z)))))) (fun c => ?_)
      have iX := of_decide_eq_false (b1_0.mp c)
      refine cs_X2_answer_69 (c_isInfinite h0 hT) (fun r σ3 hr => ?_)
      obtain ⟨rfl, rfl⟩ := hr
      refine sg_X2_answer_72 (fun c => without (Or.inr (Or.inl (of_decide_eq_true (eq_true_of_ne_false (fun z => c (b1_0.mpr z))))))) (fun c d => ?_) (fun c d => ?_)
      · have iT := of_decide_eq_false (b1_0.mp c)
        have d' := of_decide_eq_false (hq ▸ b1_0.mp d)
        exact at98 q hq (by rintro (z | z | z); exact iX z; exact iT z; exact d' z.1)
      · have iT := of_decide_eq_false (b1_0.mp c)
        have d' := of_decide_eq_true (hq ▸ eq_true_of_ne_false (fun z => d (b1_0.mpr z)))
        refine cs_X2_answer_83 (c_isNoughtP h0 hT) (fun r σ4 hr => ?_)
        obtain ⟨rfl, rfl⟩ := hr
        refine sg_X2_answer_86 (fun g => ?_) (fun g => ?_)
        · have g' := of_decide_eq_false (b1_0.mp g)
          rw [dZ_iff] at g'
          exact at98 q hq (by rintro (z | z | z); exact iX z; exact iT z; exact g' z.2)
        · have g' := of_decide_eq_true (eq_true_of_ne_false (fun z => g (b1_0.mpr z)))
          rw [dZ_iff] at g'
          exact without (Or.inr (Or.inr ⟨d', g'⟩))
    refine sg_X2_answer_44 (fun c => ?_) (fun c => ?_)
    · rw [k3] at c
      exact at56 false (decide_eq_false c).symm
    · rw [k3] at c
      exact at56 true (decide_eq_true c).symm
  have k1 : nI k = 1 ↔ k = 1 := nI_eq (b := 1) (by omega) (by decide)
  refine sg_X2_answer_19 (fun c d => ?_) (fun c d => ?_) (fun c => none (Or.inr (of_decide_eq_true (eq_true_of_ne_false (fun z => c (b1_0.mpr z))))))
  · have A := main (of_decide_eq_false (b1_0.mp c))
    rw [k1] at d
    rw [tu_, if_neg d] at A
    exact A
  · have A := main (of_decide_eq_false (b1_0.mp c))
    rw [k1] at d
    rw [tu_, if_pos d] at A
    have hp : 2 ^ (f + e) < 2 ^ 64 := Nat.pow_lt_pow_right (by decide) (by omega)
    have h32 := pn_bd h hY
    rw [h0.2.2.2.2.2.2, lN_xor2 (by omega) hp]
    exact A
end
end
