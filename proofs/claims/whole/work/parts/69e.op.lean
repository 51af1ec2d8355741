section
/-! ===== the reference's op ===== -/
section
variable {L : Nat} {xs : Nat → Int32} {σ : ks_St} {A : wa_} {X Y w : Nat}
/-- what is left once the row is made: two flags, and the word is kept -/
theorem m_op_end {k : Nat} {σ0 : ks_St} {Q : ka_O → ks_St → Prop} (hk : k ≤ 18) (h : MI_ A σ0) (hn : wN A < 600) (h1 : 1 ≤ w) (hw : w ≤ 512) (hX : X < 2 ^ w) (hY : Y < 2 ^ w) (ho : om_ k w X Y σ0 σ)
    (K : ∀ σ', MI_ (wp_ (wf_ A (fl_op k w X Y)) w (sp_ k w X Y)) σ' → fr_ [16] [] [18, 19, 20, 21, 22, 23, 24] [] σ0 σ' → Q (.inl (some (.int (nI (wN A))))) σ') :
    ks_W L xs mX5_op rm_X5_op 356 [(0, .ref 17), (1, .int (nI k)), (9, .int (nI w))] [] σ 0 0 Q := by
  obtain ⟨b, c0, c1, f⟩ := ho
  have hsp : sp_ k w X Y < 2 ^ w := sp_lt h1 hX hY
  have nk3 : nI k = 3 ↔ k = 3 := nI_eq (b := 3) (by omega) (by decide)
  generalize hp : (if k = 3 then w else 0) = p at b
  have hp2 : p + w ≤ 1026 := by rw [← hp]; split <;> omega
  have main : ks_W L xs mX5_op rm_X5_op 367 [(0, .ref 17), (9, .int (nI w))] [.int (nI p)] σ 0 0 Q := by
    refine sg_X5_op_367 ?_
    rw [nI_add]
    refine cs_X5_op_386 (m_isNought' row_23 (by decide) (by rw [Nat.add_sub_cancel_left]; exact b) (by omega) hp2) (fun r σ1 hr => ?_)
    obtain ⟨rfl, rfl⟩ := hr
    rw [Nat.add_sub_cancel_left, Nat.mod_eq_of_lt hsp]
    have last : ks_W L xs mX5_op rm_X5_op 397 [(0, .ref 17), (9, .int (nI w)), (10, .int (nI p))] [.int (b1_ (decide (sp_ k w X Y = 0))), .int 2, .ref 20] σ1 0 0 Q := by
      have e1 : nI p + nI w - 1 = nI (p + (w - 1)) := by rw [nI_add, show nI (p + w) - 1 = nI (p + w - 1) from pk_sub (b := 1) (by omega)]; congr 1; omega
      refine sg_X5_op_397 (vp_in_nI (n := 2) (by decide) (by decide)) (by rw [e1]; exact vp_in_nI (by omega) (by decide)) ?_
      have g23 : sf_ (uf_ σ1 20 (upd (sf_ σ1 20) (2 : Int32).toNatClampNeg (b1_ (decide (sp_ k w X Y = 0))))) 23 (nI p + nI w - 1).toNatClampNeg = b1_ (ng_ w (sp_ k w X Y)) := by
        rw [sf_ne _ _ (by decide), e1, nI_clamp (by omega)]; exact b (w - 1) (by omega)
      rw [g23, uf_uf, sf_self]
      have f2 : fr_ [14] [] [20, 21, 22, 23, 24] [] σ0 (uf_ σ1 20 (upd (upd (sf_ σ1 20) (2 : Int32).toNatClampNeg (b1_ (decide (sp_ k w X Y = 0)))) (3 : Int32).toNatClampNeg (b1_ (ng_ w (sp_ k w X Y))))) := fr_trans (fr_mono f (by decide) (by decide) (by decide) (by decide)) (fr_uf _ _ (by decide))
      have f2' : fr_ [] [] [20, 21, 22, 23, 24] [] σ0 (uf_ σ1 20 (upd (upd (sf_ σ1 20) (2 : Int32).toNatClampNeg (b1_ (decide (sp_ k w X Y = 0)))) (3 : Int32).toNatClampNeg (b1_ (ng_ w (sp_ k w X Y))))) := fr_trans f (fr_uf _ _ (by decide))
      have g20 : sf_ (uf_ σ1 20 (upd (upd (sf_ σ1 20) (2 : Int32).toNatClampNeg (b1_ (decide (sp_ k w X Y = 0)))) (3 : Int32).toNatClampNeg (b1_ (ng_ w (sp_ k w X Y))))) 20 = upd (upd (sf_ σ1 20) 2 (b1_ (decide (sp_ k w X Y = 0)))) 3 (b1_ (ng_ w (sp_ k w X Y))) := sf_self _ _ _
      have g23' : sf_ (uf_ σ1 20 (upd (upd (sf_ σ1 20) (2 : Int32).toNatClampNeg (b1_ (decide (sp_ k w X Y = 0)))) (3 : Int32).toNatClampNeg (b1_ (ng_ w (sp_ k w X Y))))) 23 = sf_ σ1 23 := sf_ne _ _ (by decide)
      generalize uf_ σ1 20 (upd (upd (sf_ σ1 20) (2 : Int32).toNatClampNeg (b1_ (decide (sp_ k w X Y = 0)))) (3 : Int32).toNatClampNeg (b1_ (ng_ w (sp_ k w X Y)))) = σ2 at f2 f2' g20 g23' ⊢
      have h2 : MI_ (wf_ A (fl_op k w X Y)) σ2 := by
        refine MI_fl h f2 ?_ ?_ ?_ ?_
        · rw [g20, pk_un (by decide), pk_un (by decide)]; exact c0
        · rw [g20, pk_un (by decide), pk_un (by decide)]; exact c1
        · rw [g20, pk_un (by decide), pk_us]; rfl
        · rw [g20, pk_us]; rfl
      refine cs_X5_op_421 (m_keep h2 hn h1 hw hp2 (by rw [g23']; exact b) hsp) (fun r σ3 hr => ?_)
      obtain ⟨rfl, h3, f3⟩ := hr
      exact sg_X5_op_424 (K σ3 h3 (fr_trans (fr_mono f2' (by decide) (by decide) (by decide) (by decide)) (fr_mono f3 (by decide) (by decide) (by decide) (by decide))))
    refine sg_X5_op_389 (fun c => ?_) (fun c => ?_)
    · rw [b1_0] at c
      rw [c] at last
      exact last
    · rw [b1_0] at c
      rw [eq_true_of_ne_false c] at last
      exact last
  refine sg_X5_op_356 (fun c => ?_) (fun c => ?_)
  · rw [nk3] at c
    rw [if_neg c] at hp
    subst hp
    exact main
  · rw [nk3] at c
    rw [if_pos c] at hp
    subst hp
    exact main
/-- the operation itself, its two words loaded and the first two flags 0 -/
theorem m_op_mid {k i j : Nat} {σ0 : ks_St} {Q : ka_O → ks_St → Prop} (hk : k ≤ 18) (h8 : k = 18 → wW A i % 8 = 0) (hz : 4 ≤ k → k ≤ 7 → wV A j ≠ 0) (h : MI_ A σ0) (hn : wN A < 600) (hi : i < wN A) (hj : j < wN A) (hww : wW A i = wW A j)
    (bX : br_ (sf_ σ 21) 513 (wV A i)) (bY : br_ (sf_ σ 22) 513 (wV A j)) (bO : br_ (sf_ σ 23) 1026 0) (s0 : sf_ σ 20 0 = 0) (s1 : sf_ σ 20 1 = 0) (s2 : sf_ σ 20 2 = b1_ (wF A).2.2.1) (s3 : sf_ σ 20 3 = b1_ (wF A).2.2.2) (f : fr_ [] [] [20, 21, 22, 23, 24] [] σ0 σ)
    (K : ∀ σ', MI_ (wp_ (wf_ A (fl_op k (wW A i) (wV A i) (wV A j))) (wW A i) (sp_ k (wW A i) (wV A i) (wV A j))) σ' → fr_ [16] [] [18, 19, 20, 21, 22, 23, 24] [] σ0 σ' → Q (.inl (some (.int (nI (wN A))))) σ') :
    (k < 3 → ks_W L xs mX5_op rm_X5_op 238 [(0, .ref 17), (1, .int (nI k)), (2, .int (nI i)), (6, .int (nI j)), (9, .int (nI (wW A i)))] [.int (nI (wW A i)), .int (nI k), .ref 17] σ 0 0 Q) ∧
    (3 ≤ k → ks_W L xs mX5_op rm_X5_op 241 [(0, .ref 17), (1, .int (nI k)), (2, .int (nI i)), (6, .int (nI j)), (9, .int (nI (wW A i)))] [] σ 0 0 Q) := by
  have hwi := MI_w h hi
  have hwj := MI_w h hj
  have hY : wV A j < 2 ^ wW A i := by rw [hww]; exact hwj.2.2
  have nk : ∀ m, m < 2 ^ 31 → (nI k = nI m ↔ k = m) := fun m hm => nI_eq (by omega) hm
  have le : ∀ m, m < 2 ^ 31 → (nI k ≤ nI m ↔ k ≤ m) := fun m hm => nI_leI (by omega) hm
  have ge : ∀ m, m < 2 ^ 31 → (nI m ≤ nI k ↔ m ≤ k) := fun m hm => nI_leI hm (by omega)
  have fin : ∀ σ1, om_ k (wW A i) (wV A i) (wV A j) σ0 σ1 → ks_W L xs mX5_op rm_X5_op 356 [(0, .ref 17), (1, .int (nI k)), (9, .int (nI (wW A i)))] [] σ1 0 0 Q := fun σ1 ho => m_op_end hk h hn hwi.1 hwi.2.1 hwi.2.2 hY ho K
  have lift : ∀ {s s' : ks_St}, fr_ [] [] [20, 21, 22, 23, 24] [] σ0 s → om_ k (wW A i) (wV A i) (wV A j) s s' → om_ k (wW A i) (wV A i) (wV A j) σ0 s' := fun fa ⟨a, b, c, d⟩ => ⟨a, b, c, fr_trans fa d⟩
  -- products: loaded again, then multiplied
  have prod : ∀ (σ1 : ks_St) (v : Bool), (k = 2 ∨ k = 3) → v = sw_ k (wW A i) (wV A i) (wV A j) → sf_ σ1 20 0 = 0 → sf_ σ1 20 1 = b1_ v → sf_ σ1 20 2 = b1_ (wF A).2.2.1 → sf_ σ1 20 3 = b1_ (wF A).2.2.2 → fr_ [] [] [20, 21, 22, 23, 24] [] σ0 σ1 → ks_W L xs mX5_op rm_X5_op 251 [(0, .ref 17), (1, .int (nI k)), (2, .int (nI i)), (6, .int (nI j)), (9, .int (nI (wW A i)))] [] σ1 0 0 Q := by
    intro σ1 v h23 hv q0 q1 q2 q3 f1
    have h1 : MI_ (wf_ A (false, v, (wF A).2.2.1, (wF A).2.2.2)) σ1 := MI_fl h (fr_mono f1 (by decide) (by decide) (by decide) (by decide)) q0 q1 q2 q3
    refine sg_X5_op_251 (cs_X5_op_255 (m_load (A := wf_ A (false, v, (wF A).2.2.1, (wF A).2.2.2)) h1 hi hj) (fun σ2 hr => ?_))
    obtain ⟨c1, c2, c3, f2⟩ := hr
    refine sg_X5_op_258 (cs_X5_op_261 (m_multiply hwi.2.1 c1 c2 c3 hwi.2.2 hY) (fun σ3 hr => ?_))
    obtain ⟨c4, f3⟩ := hr
    have f13 : fr_ [] [] [20, 21, 22, 23, 24] [] σ0 σ3 := fr_trans f1 (fr_trans (fr_mono f2 (by decide) (by decide) (by decide) (by decide)) (fr_mono f3 (by decide) (by decide) (by decide) (by decide)))
    have k20 : sf_ σ3 20 = sf_ σ1 20 := (f3.2.2.1 20 (by decide)).trans (f2.2.2.1 20 (by decide))
    have c4' : br_ (sf_ σ3 23) 1026 (wV A i * wV A j) := c4
    have hP : wV A i * wV A j < 2 ^ (2 * wW A i) := by
      rw [show 2 * wW A i = wW A i + wW A i by omega, Nat.pow_add]
      exact Nat.mul_lt_mul_of_lt_of_le hwi.2.2 (Nat.le_of_lt hY) (Nat.two_pow_pos _)
    have hdiv : wV A i * wV A j / 2 ^ wW A i % 2 ^ (2 * wW A i - wW A i) = wV A i * wV A j / 2 ^ wW A i := by
      apply Nat.mod_eq_of_lt
      rw [Nat.div_lt_iff_lt_mul (Nat.two_pow_pos _), ← Nat.pow_add]
      exact Nat.lt_of_lt_of_le hP (Nat.pow_le_pow_right (by decide) (by omega))
    refine sg_X5_op_264 (fun c => ?_) (fun c => ?_)
    · have c' : k = 3 := h23.resolve_left (fun z => c (by rw [z]; rfl))
      refine fin σ3 ⟨?_, by rw [k20, q0, c']; rfl, by rw [k20, q1, hv], f13⟩
      rw [if_pos c', c']
      intro t ht
      show sf_ σ3 23 (wW A i + t) = b1_ ((wV A i * wV A j / 2 ^ wW A i).testBit t)
      rw [c4' _ (by omega), Nat.testBit_div_two_pow, Nat.add_comm]
    · have c' : k = 2 := (nk 2 (by decide)).mp c
      rw [show (2 : Int32) * nI (wW A i) = nI (2 * wW A i) from pk_mul 2 _]
      refine cs_X5_op_285 (m_isNought row_23 (by decide) (Nat.le_refl _) c4' (by omega) (by omega)) (fun r σ4 hr => ?_)
      obtain ⟨rfl, rfl⟩ := hr
      rw [hdiv]
      have put : ∀ y : Bool, y = decide (wV A i * wV A j / 2 ^ wW A i ≠ 0) → ks_W L xs mX5_op rm_X5_op 296 [(0, .ref 17), (1, .int (nI k)), (9, .int (nI (wW A i)))] [.int (b1_ y), .int 0, .ref 20] σ4 0 0 Q := by
        intro y hy
        refine sg_X5_op_296 (vp_in_nI (n := 0) (by decide) (by decide)) (fin _ ⟨?_, ?_, ?_, fr_trans f13 (fr_uf _ _ (by decide))⟩)
        · rw [sf_ne _ _ (by decide), if_neg (by omega), c']
          intro t ht
          show sf_ σ4 23 (0 + t) = b1_ ((wV A i * wV A j % 2 ^ wW A i).testBit t)
          rw [Nat.zero_add, c4' _ (by omega), Nat.testBit_mod_two_pow]; simp [ht]
        · rw [sf_self, c']
          show upd _ 0 _ 0 = b1_ (decide (wV A i * wV A j / 2 ^ wW A i ≠ 0))
          rw [pk_us, hy]
        · rw [sf_self, k20, ← hv]
          exact (pk_un (by decide)).trans q1
      refine sg_X5_op_288 (fun d => put true ?_) (fun d => put false ?_)
      · rw [b1_0] at d
        exact (decide_eq_true (of_decide_eq_false d)).symm
      · rw [b1_0] at d
        have := of_decide_eq_true (eq_true_of_ne_false d)
        exact (decide_eq_false (fun z => z this)).symm
  -- from 241 on
  have at241 : ∀ σ1, (k < 2 → om_ k (wW A i) (wV A i) (wV A j) σ0 σ1) → (k = 2 → sf_ σ1 20 0 = 0 ∧ sf_ σ1 20 1 = b1_ (sw_ k (wW A i) (wV A i) (wV A j)) ∧ sf_ σ1 20 2 = b1_ (wF A).2.2.1 ∧ sf_ σ1 20 3 = b1_ (wF A).2.2.2 ∧ fr_ [] [] [20, 21, 22, 23, 24] [] σ0 σ1) → (3 ≤ k → σ1 = σ) → ks_W L xs mX5_op rm_X5_op 241 [(0, .ref 17), (1, .int (nI k)), (2, .int (nI i)), (6, .int (nI j)), (9, .int (nI (wW A i)))] [] σ1 0 0 Q := by
    intro σ1 g1 g2 g3
    have to321 : ¬ (4 ≤ k ∧ k ≤ 7) → k ≠ 2 → k ≠ 3 → ks_W L xs mX5_op rm_X5_op 321 [(0, .ref 17), (1, .int (nI k)), (9, .int (nI (wW A i)))] [] σ1 0 0 Q := by
      intro z1 z2 z3
      have to343 : ¬ (8 ≤ k ∧ k ≤ 10) → ks_W L xs mX5_op rm_X5_op 343 [(0, .ref 17), (1, .int (nI k)), (9, .int (nI (wW A i)))] [] σ1 0 0 Q := by
        intro z4
        refine sg_X5_op_343 (fun c => ?_) (fun c => ?_)
        · rw [show (10 : Int32) = nI 10 from rfl, le 10 (by decide)] at c
          exact fin σ1 (g1 (by omega))
        · rw [show (10 : Int32) = nI 10 from rfl, le 10 (by decide)] at c
          have e := g3 (by omega)
          subst e
          exact cs_X5_op_353 (m_others k (by omega) hk h8 hwi.1 hwi.2.1 bX bY bO hwi.2.2 hY s0 s1) (fun σ2 hr => fin σ2 (lift f hr))
      refine sg_X5_op_321 (fun c => ?_) (fun c d => ?_) (fun c d => ?_)
      · rw [show (7 : Int32) = nI 7 from rfl, le 7 (by decide)] at c
        exact to343 (by omega)
      · rw [show (11 : Int32) = nI 11 from rfl, ge 11 (by decide)] at d
        exact to343 (by omega)
      · rw [show (7 : Int32) = nI 7 from rfl, le 7 (by decide)] at c
        rw [show (11 : Int32) = nI 11 from rfl, ge 11 (by decide)] at d
        have e := g3 (by omega)
        subst e
        exact cs_X5_op_337 (m_moves k (by omega) hwi.1 hwi.2.1 bX bY hwi.2.2 hY s1) (fun σ2 hr => sg_X5_op_340 (fin σ2 (lift f hr)))
    refine sg_X5_op_241 (fun c => ?_) (fun c d e => ?_) (fun c d e g => ?_) (fun c d e g => ?_) (fun c d => ?_)
    · have c' := (nk 2 (by decide)).mp c
      obtain ⟨q0, q1, q2, q3, f1⟩ := g2 c'
      exact prod σ1 _ (Or.inl c') rfl q0 q1 q2 q3 f1
    · have c' : k ≠ 2 := fun z => c (by rw [z]; rfl)
      have d' : k ≠ 3 := fun z => d (by rw [z]; rfl)
      rw [show (3 : Int32) = nI 3 from rfl, le 3 (by decide)] at e
      exact to321 (by omega) c' d'
    · have c' : k ≠ 2 := fun z => c (by rw [z]; rfl)
      have d' : k ≠ 3 := fun z => d (by rw [z]; rfl)
      rw [show (8 : Int32) = nI 8 from rfl, ge 8 (by decide)] at g
      exact to321 (by omega) c' d'
    · have c' : k ≠ 2 := fun z => c (by rw [z]; rfl)
      have d' : k ≠ 3 := fun z => d (by rw [z]; rfl)
      rw [show (3 : Int32) = nI 3 from rfl, le 3 (by decide)] at e
      rw [show (8 : Int32) = nI 8 from rfl, ge 8 (by decide)] at g
      have e' := g3 (by omega)
      subst e'
      exact cs_X5_op_315 (m_quotients k (by omega) hwi.1 hwi.2.1 bX bY bO hwi.2.2 hY (hz (by omega) (by omega)) s0 s1) (fun σ2 hr => sg_X5_op_318 (fin σ2 (lift f hr)))
    · have d' := (nk 3 (by decide)).mp d
      have e' := g3 (by omega)
      subst e'
      exact prod σ1 false (Or.inr d') (by rw [d']; rfl) s0 s1 s2 s3 f
  refine ⟨fun h3 => ?_, fun h3 => at241 σ (fun z => by omega) (fun z => by omega) (fun _ => rfl)⟩
  have hk3 : k = 0 ∨ k = 1 ∨ k = 2 := by omega
  rcases hk3 with e | e | e
  · refine cs_X5_op_238 (m_sums01 k (Or.inl e) hwi.1 hwi.2.1 bX bY bO hwi.2.2 hY) (fun σ1 hr => at241 σ1 (fun _ => lift f hr) (fun z => by omega) (fun z => by omega))
  · refine cs_X5_op_238 (m_sums01 k (Or.inr e) hwi.1 hwi.2.1 bX bY bO hwi.2.2 hY) (fun σ1 hr => at241 σ1 (fun _ => lift f hr) (fun z => by omega) (fun z => by omega))
  · subst e
    refine cs_X5_op_238 (m_sums2 hwi.1 hwi.2.1 bX bY bO hwi.2.2 hY) (fun σ1 hr => at241 σ1 (fun z => by omega) (fun _ => ?_) (fun z => by omega))
    obtain ⟨c1, c2, c3⟩ := hr
    exact ⟨by rw [c2 0 (by decide)]; exact s0, c1, by rw [c2 2 (by decide)]; exact s2, by rw [c2 3 (by decide)]; exact s3, fr_trans f c3⟩
theorem m_op {k a b : Int32} (h : MI_ A σ) (hn : wN A < 600) : ks_M L xs mX5_op rm_X5_op [.ref 17, .int k, .int a, .int b] σ (pm_ (o_op A k a b) σ) := by
  refine ks_body (by decide) (Nat.le_of_ble_eq_true rfl) ?_
  -- from 57 on: the second word is b'
  have rest : ∀ b' : Int32, ks_W L xs mX5_op rm_X5_op 57 [(0, .ref 17), (1, .int k), (2, .int a), (5, .int (b1_ (!decide (ow_ A a ∧ ow_ A b'))))] [.int b'] σ 0 0 (pm_ (o_op2 A k a b') σ) := by
    intro b'
    have thr : ∀ (p q r : Bool) (s : ks_St), MI_ A s → fm_ σ s → o_op2 A k a b' = (cd_ p q r false, 0, A) → cd_ p q r false ≠ 0 → ks_W L xs mX5_op rm_X5_op 184 [(0, .ref 17), (1, .int k), (2, .int a), (6, .int b')] [.int (b1_ r), .int (b1_ q), .int (b1_ p), .ref 17] s 0 0 (pm_ (o_op2 A k a b') σ) := by
      intro p q r s hs fs eo hc
      refine sg_X5_op_184 (fun _ => ?_) (fun c => absurd c (no600 hs hn))
      refine cs_X5_op_199 (m_throwing p q r false) (fun y σ1 hr => ?_)
      obtain ⟨rfl, rfl⟩ := hr
      rw [decide_eq_true hc]
      refine sg_X5_op_202 (fun c => absurd c (by decide)) (fun c => absurd c (by decide)) (fun c => absurd c (by decide)) (fun _ => ⟨_, rfl, ?_⟩)
      rw [eo]
      exact ⟨s14, fun d => absurd d hc, MI_14 hs, fr_trans fs fm_14⟩
    have badw : ∀ p : Bool, o_op2 A k a b' = (cd_ p true false false, 0, A) → ks_W L xs mX5_op rm_X5_op 108 [(0, .ref 17), (1, .int k), (2, .int a), (5, .int (b1_ p)), (6, .int b')] [] σ 0 0 (pm_ (o_op2 A k a b') σ) := by
      intro p eo
      refine sg_X5_op_108 (sg_X5_op_113 (fun _ => ?_) (fun c => absurd c (by decide)) (fun c => absurd c (by decide)) (fun c => absurd c (by decide)))
      refine sg_X5_op_135 (sg_X5_op_136 (fun _ => ?_) (fun c => absurd c (by decide)))
      refine sg_X5_op_150 (fun _ => ?_) (fun c => absurd rfl c) (fun c => absurd rfl c)
      exact sg_X5_op_183 (thr p true false σ h (fr_refl _) eo (by cases p <;> decide))
    by_cases z : ow_ A a ∧ ow_ A b'
    · rw [decide_eq_true z]
      obtain ⟨i, hi, rfl, ei⟩ := ow_ix h.1 z.1
      obtain ⟨j, hj, rfl, ej⟩ := ow_ix h.1 z.2
      have hwi := MI_w h hi
      have hwj := MI_w h hj
      have bad : (k < 0 ∨ ¬ k ≤ 18 ∨ wW A i ≠ wW A j ∨ (k = 18 ∧ wW A i % 8 ≠ 0)) → o_op2 A k (nI i) (nI j) = (2, 0, A) := fun y => by rw [o_op2, if_pos z, ei, ej, if_pos y]
      have eww : sf_ σ 18 (nI i).toNatClampNeg = sf_ σ 18 (nI j).toNatClampNeg ↔ wW A i = wW A j := by rw [MI_sf h hi, MI_sf h hj]; exact nI_eq (by omega) (by omega)
      have e8 : sf_ σ 18 (nI i).toNatClampNeg - sf_ σ 18 (nI i).toNatClampNeg / 8 * 8 = 0 ↔ wW A i % 8 = 0 := by
        rw [MI_sf h hi, show nI (wW A i) - nI (wW A i) / 8 * 8 = nI (wW A i % 8) from pk_rem (d := 8) (by omega) (by decide) (by decide)]
        exact nI_eq (b := 0) (by omega) (by decide)
      have good : ¬ (k < 0 ∨ ¬ k ≤ 18 ∨ wW A i ≠ wW A j ∨ (k = 18 ∧ wW A i % 8 ≠ 0)) → ks_W L xs mX5_op rm_X5_op 112 [(0, .ref 17), (1, .int k), (2, .int (nI i)), (5, .int 0), (6, .int (nI j))] [] σ 0 0 (pm_ (o_op2 A k (nI i) (nI j)) σ) := by
        intro y
        have eo : o_op2 A k (nI i) (nI j) = if ¬ k < 4 ∧ ¬ 7 < k ∧ wV A j = 0 then (3, 0, A) else (0, nI (wN A), wp_ (wf_ A (fl_op k.toNatClampNeg (wW A i) (wV A i) (wV A j))) (wW A i) (sp_ k.toNatClampNeg (wW A i) (wV A i) (wV A j))) := by rw [o_op2, if_pos z, ei, ej, if_neg y]
        have k0 : ¬ k < 0 := fun c => y (Or.inl c)
        have k18 : k ≤ 18 := Classical.byContradiction fun c => y (Or.inr (Or.inl c))
        have hww : wW A i = wW A j := Classical.byContradiction fun c => y (Or.inr (Or.inr (Or.inl c)))
        obtain ⟨q, hq, rfl⟩ := nI_of k0
        rw [show (18 : Int32) = nI 18 from rfl, nI_leI hq (by decide)] at k18
        have h8 : q = 18 → wW A i % 8 = 0 := fun c => Classical.byContradiction fun d => y (Or.inr (Or.inr (Or.inr ⟨by rw [c]; rfl, d⟩)))
        rw [nI_clamp hq] at eo
        have a1 : nI q < 4 ↔ q < 4 := nI_ltI (b := 4) hq (by decide)
        have a2 : 7 < nI q ↔ 7 < q := nI_ltI (a := 7) (by decide) hq
        have eo2 : o_op2 A (nI q) (nI i) (nI j) = if 4 ≤ q ∧ q ≤ 7 ∧ wV A j = 0 then (3, 0, A) else (0, nI (wN A), wp_ (wf_ A (fl_op q (wW A i) (wV A i) (wV A j))) (wW A i) (sp_ q (wW A i) (wV A i) (wV A j))) := by
          rw [eo]
          have : (¬ nI q < 4 ∧ ¬ 7 < nI q ∧ wV A j = 0) ↔ (4 ≤ q ∧ q ≤ 7 ∧ wV A j = 0) := by rw [a1, a2]; omega
          simp only [this]
        clear eo bad badw y
        -- loaded
        have load : ∀ t : Bool, (t = true ↔ 4 ≤ q ∧ q ≤ 7) → ks_W L xs mX5_op rm_X5_op 136 [(0, .ref 17), (1, .int (nI q)), (2, .int (nI i)), (5, .int 0), (6, .int (nI j)), (7, .int 0)] [.int (b1_ t)] σ 0 0 (pm_ (o_op2 A (nI q) (nI i) (nI j)) σ) := by
          intro t ht
          refine sg_X5_op_136 (fun c => absurd rfl c) (fun _ => ?_)
          refine cs_X5_op_147 (m_load h hi hj) (fun σ1 hr => ?_)
          obtain ⟨b1, b2, b3, f1⟩ := hr
          have h1 : MI_ A σ1 := MI_fr h f1 (by decide) (by decide)
          have fm1 : fm_ σ σ1 := fr_mono f1 (by decide) (by decide) (by decide) (by decide)
          have go : ¬ (4 ≤ q ∧ q ≤ 7 ∧ wV A j = 0) → ks_W L xs mX5_op rm_X5_op 184 [(0, .ref 17), (1, .int (nI q)), (2, .int (nI i)), (6, .int (nI j))] [.int 0, .int 0, .int 0, .ref 17] σ1 0 0 (pm_ (o_op2 A (nI q) (nI i) (nI j)) σ) := by
            intro hz
            rw [eo2, if_neg hz]
            refine sg_X5_op_184 (fun _ => ?_) (fun c => absurd c (no600 h1 hn))
            refine cs_X5_op_199 (m_throwing false false false false) (fun y σ2 hr => ?_)
            obtain ⟨rfl, rfl⟩ := hr
            have f2 : fr_ [14] [] [21, 22, 23] [] σ (ui_ σ1 14 (nI (cd_ false false false false))) := fr_trans (fr_mono f1 (by decide) (by decide) (by decide) (by decide)) (fr_ui _ _ (by decide))
            have h2 : MI_ A (ui_ σ1 14 (nI (cd_ false false false false))) := MI_14 h1
            have q14 : si_ (ui_ σ1 14 (nI (cd_ false false false false))) 14 = 0 := s14
            have b1' : br_ (sf_ (ui_ σ1 14 (nI (cd_ false false false false))) 21) 513 (wV A i) := b1
            have b2' : br_ (sf_ (ui_ σ1 14 (nI (cd_ false false false false))) 22) 513 (wV A j) := b2
            have b3' : br_ (sf_ (ui_ σ1 14 (nI (cd_ false false false false))) 23) 1026 0 := b3
            have ew := MI_sf h2 hi
            generalize ui_ σ1 14 (nI (cd_ false false false false)) = σ2 at f2 h2 q14 b1' b2' b3' ew ⊢
            obtain ⟨d0, d1, d2, d3⟩ := h2.2.2.2.2.1
            have g20 : sf_ (uf_ (uf_ σ2 20 (upd (sf_ σ2 20) (0 : Int32).toNatClampNeg 0)) 20 (upd (sf_ (uf_ σ2 20 (upd (sf_ σ2 20) (0 : Int32).toNatClampNeg 0)) 20) (1 : Int32).toNatClampNeg 0)) 20 = upd (upd (sf_ σ2 20) 0 0) 1 0 := by rw [sf_self, sf_self]; rfl
            have f3 : fr_ [] [] [20, 21, 22, 23, 24] [] σ2 (uf_ (uf_ σ2 20 (upd (sf_ σ2 20) (0 : Int32).toNatClampNeg 0)) 20 (upd (sf_ (uf_ σ2 20 (upd (sf_ σ2 20) (0 : Int32).toNatClampNeg 0)) 20) (1 : Int32).toNatClampNeg 0)) := fr_trans (fr_uf _ _ (by decide)) (fr_uf _ _ (by decide))
            have mid := m_op_mid (L := L) (xs := xs) (σ := uf_ (uf_ σ2 20 (upd (sf_ σ2 20) (0 : Int32).toNatClampNeg 0)) 20 (upd (sf_ (uf_ σ2 20 (upd (sf_ σ2 20) (0 : Int32).toNatClampNeg 0)) 20) (1 : Int32).toNatClampNeg 0)) (Q := pm_ (0, nI (wN A), wp_ (wf_ A (fl_op q (wW A i) (wV A i) (wV A j))) (wW A i) (sp_ q (wW A i) (wV A i) (wV A j))) σ) k18 h8 (fun c d e => hz ⟨c, d, e⟩) h2 hn hi hj hww
              (by rw [sf_ne _ _ (by decide), sf_ne _ _ (by decide)]; exact b1') (by rw [sf_ne _ _ (by decide), sf_ne _ _ (by decide)]; exact b2') (by rw [sf_ne _ _ (by decide), sf_ne _ _ (by decide)]; exact b3')
              (by rw [g20, pk_un (by decide), pk_us]) (by rw [g20, pk_us]) (by rw [g20, pk_un (by decide), pk_un (by decide)]; exact d2) (by rw [g20, pk_un (by decide), pk_un (by decide)]; exact d3) f3
              (fun σ' h' f' => ⟨_, rfl, by rw [f'.1 14 (by decide)]; exact q14, fun _ => rfl, h', fr_trans (fr_mono f2 (by decide) (by decide) (by decide) (by decide)) (fr_mono f' (by decide) (by decide) (by decide) (by decide))⟩)
            have g3 : (3 : Int32) ≤ nI q ↔ 3 ≤ q := nI_leI (a := 3) (by decide) hq
            refine sg_X5_op_202 (fun _ => MI_in h hi) (fun _ c => ?_) (fun _ c => ?_) (fun c => absurd rfl c)
            · rw [g3] at c
              rw [ew]; exact mid.2 c
            · rw [g3] at c
              rw [ew]; exact mid.1 (by omega)
          refine sg_X5_op_150 (fun c => ?_) (fun _ => MI_in h hj) (fun c => ?_)
          · rw [b1_0] at c
            have : ¬ (4 ≤ q ∧ q ≤ 7) := fun y => by rw [ht.mpr y] at c; exact absurd c (by decide)
            exact sg_X5_op_183 (go (fun y => this ⟨y.1, y.2.1⟩))
          · rw [b1_0] at c
            have c' := ht.mp (eq_true_of_ne_false c)
            rw [MI_sf h1 hj]
            refine cs_X5_op_173 (m_isNought (p := 0) row_22 (by decide) (Nat.le_refl _) b2 (Nat.zero_le _) (by omega)) (fun y σ2 hr => ?_)
            obtain ⟨rfl, rfl⟩ := hr
            rw [Nat.pow_zero, Nat.div_one, Nat.sub_zero, Nat.mod_eq_of_lt hwj.2.2]
            refine sg_X5_op_176 (fun d => ?_) (fun d => ?_)
            · rw [b1_0] at d
              have := of_decide_eq_false d
              exact sg_X5_op_183 (go (fun y => this y.2.2))
            · rw [b1_0] at d
              have := of_decide_eq_true (eq_true_of_ne_false d)
              exact thr false false true σ2 h1 fm1 (by rw [eo2, if_pos ⟨c'.1, c'.2, this⟩]; rfl) (by decide)
        refine sg_X5_op_112 (sg_X5_op_113 (fun c => absurd rfl c) (fun _ c => ?_) (fun _ c d => ?_) (fun _ c d => ?_))
        · rw [a1] at c
          exact sg_X5_op_135 (load false ⟨fun y => absurd y (by decide), fun y => by omega⟩)
        · rw [a2] at d
          exact sg_X5_op_135 (load false ⟨fun y => absurd y (by decide), fun y => by omega⟩)
        · rw [a1] at c
          rw [a2] at d
          exact load true ⟨fun _ => ⟨by omega, by omega⟩, fun _ => rfl⟩
      have lt18 : 18 < k ↔ ¬ k ≤ 18 := Int32.not_le.symm
      refine sg_X5_op_57 (fun c => absurd rfl c) (fun _ c => badw false (bad (Or.inl c))) (fun _ c d => badw false (bad (Or.inr (Or.inl (lt18.mp d))))) (fun _ _ _ => MI_in h hi) (fun _ _ _ => MI_in h hj) (fun _ c d e => badw false (bad (Or.inr (Or.inr (Or.inl fun y => e (eww.mpr y)))))) (fun _ c d e g => good ?_) (fun _ _ _ _ _ => MI_in h hi) (fun _ c d e g y => good ?_) (fun _ c d e g y => badw false (bad (Or.inr (Or.inr (Or.inr ⟨g, fun x => y (e8.mpr x)⟩)))))
      · rintro (x | x | x | x)
        · exact c x
        · exact d (lt18.mpr x)
        · exact x (eww.mp e)
        · exact g x.1
      · rintro (x | x | x | x)
        · exact c x
        · exact d (lt18.mpr x)
        · exact x (eww.mp e)
        · exact x.2 (e8.mp y)
    · rw [decide_eq_false z]
      exact sg_X5_op_57 (fun _ => badw true (by rw [o_op2, if_neg z]; rfl)) (fun c => absurd c (by decide)) (fun c => absurd c (by decide)) (fun c => absurd c (by decide)) (fun c => absurd c (by decide)) (fun c => absurd c (by decide)) (fun c => absurd c (by decide)) (fun c => absurd c (by decide)) (fun c => absurd c (by decide)) (fun c => absurd c (by decide))
  have alone : ¬ k < 16 ∧ ¬ 18 < k → ks_W L xs mX5_op rm_X5_op 17 [(0, .ref 17), (1, .int k), (2, .int a), (3, .int b)] [.int 1] σ 0 0 (pm_ (o_op2 A k a a) σ) := by
    intro al
    have r := rest a
    refine sg_X5_op_17 (cs_X5_op_21 (m_isWord h) (fun y σ1 hr => ?_))
    obtain ⟨rfl, rfl⟩ := hr
    by_cases za : ow_ A a
    · rw [decide_eq_true (show ow_ A a ∧ ow_ A a from ⟨za, za⟩)] at r
      rw [decide_eq_true za]
      exact sg_X5_op_24 (fun c => absurd c (by decide)) (fun _ _ => sg_X5_op_44 (sg_X5_op_45 (fun c => absurd c (by decide)) (fun _ => r))) (fun _ c => absurd c (by decide))
    · rw [decide_eq_false (show ¬ (ow_ A a ∧ ow_ A a) from fun z => za z.1)] at r
      rw [decide_eq_false za]
      exact sg_X5_op_24 (fun _ => sg_X5_op_40 (sg_X5_op_45 (fun c => absurd c (by decide)) (fun _ => r))) (fun c => absurd rfl c) (fun c => absurd rfl c)
  have both : ks_W L xs mX5_op rm_X5_op 17 [(0, .ref 17), (1, .int k), (2, .int a), (3, .int b)] [.int 0] σ 0 0 (pm_ (o_op2 A k a b) σ) := by
    have r := rest b
    refine sg_X5_op_17 (cs_X5_op_21 (m_isWord h) (fun y σ1 hr => ?_))
    obtain ⟨rfl, rfl⟩ := hr
    by_cases za : ow_ A a
    · rw [decide_eq_true za]
      refine sg_X5_op_24 (fun c => absurd c (by decide)) (fun _ c => absurd rfl c) (fun _ _ => ?_)
      refine cs_X5_op_34 (m_isWord h) (fun y σ2 hr => ?_)
      obtain ⟨rfl, rfl⟩ := hr
      by_cases zb : ow_ A b
      · rw [decide_eq_true (show ow_ A a ∧ ow_ A b from ⟨za, zb⟩)] at r
        rw [decide_eq_true zb]
        exact sg_X5_op_37 (fun _ => sg_X5_op_44 (sg_X5_op_45 (fun _ => r) (fun c => absurd rfl c))) (fun c => absurd c (by decide))
      · rw [decide_eq_false (show ¬ (ow_ A a ∧ ow_ A b) from fun z => zb z.2)] at r
        rw [decide_eq_false zb]
        exact sg_X5_op_37 (fun c => absurd rfl c) (fun _ => sg_X5_op_40 (sg_X5_op_45 (fun _ => r) (fun c => absurd rfl c)))
    · rw [decide_eq_false (show ¬ (ow_ A a ∧ ow_ A b) from fun z => za z.1)] at r
      rw [decide_eq_false za]
      exact sg_X5_op_24 (fun _ => sg_X5_op_40 (sg_X5_op_45 (fun _ => r) (fun c => absurd rfl c))) (fun c => absurd rfl c) (fun c => absurd rfl c)
  refine sg_X5_op_0 (fun c => ?_) (fun c d => ?_) (fun c d => ?_)
  · rw [o_op, if_neg (fun z => z.1 c)]; exact sg_X5_op_16 both
  · rw [o_op, if_neg (fun z => z.2 d)]; exact sg_X5_op_16 both
  · rw [o_op, if_pos ⟨c, d⟩]; exact alone ⟨c, d⟩
end
end
