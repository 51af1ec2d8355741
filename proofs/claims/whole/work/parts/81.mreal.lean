section
/-! ===== the reference's call real ===== -/
theorem MI_wr {A : wa_} {σ σ' : ks_St} {g : Nat} (h : MI_ A σ) (f : fr_ [14, 17] [] [23, 25, 26, 27] [28] σ σ') (e : si_ σ' 17 = nI g) : MI_ (wr_ A g) σ' := by
  obtain ⟨a0, a1, a2, a3, a4, -⟩ := h
  refine ⟨a0, (f.1 15 (by decide)).trans a1, (f.1 16 (by decide)).trans a2, fun j hj => ?_, ?_, e⟩
  · rw [f.2.2.1 18 (by decide), f.2.2.1 19 (by decide)]
    exact a3 j hj
  · rw [f.2.2.1 20 (by decide)]
    exact a4
theorem wn_01 {f e k X T : Nat} (hk : k ≤ 1) : wn_ f e k X T = wn_ f e 0 X T := by
  unfold wn_
  rw [if_pos hk, if_pos (Nat.zero_le 1)]
theorem ra_3 {f e y X Y : Nat} (h : ¬ (no_ f e X ∨ no_ f e Y)) : ra_ f e y 3 X Y = if nf_ f e X ∨ nf_ f e (tu_ f e 3 Y) ∨ dW f e (tu_ f e 3 Y) = 0 then wn_ f e 3 X (tu_ f e 3 Y) else rr_ f e y (dS f e X != dS f e (tu_ f e 3 Y)) (qM f e X (tu_ f e 3 Y)) (qK f e X (tu_ f e 3 Y)) := by
  unfold ra_
  rw [if_neg h]
  by_cases c : nf_ f e X ∨ nf_ f e (tu_ f e 3 Y) ∨ dW f e (tu_ f e 3 Y) = 0
  · have c' : nf_ f e X ∨ nf_ f e (tu_ f e 3 Y) ∨ (3 = 3 ∧ dW f e (tu_ f e 3 Y) = 0) := c.imp id (fun z => z.imp id (fun q => ⟨rfl, q⟩))
    rw [if_pos c, if_pos c']
  · have c' : ¬ (nf_ f e X ∨ nf_ f e (tu_ f e 3 Y) ∨ (3 = 3 ∧ dW f e (tu_ f e 3 Y) = 0)) := fun z => c (z.imp id (fun q => q.imp id (fun r => r.2)))
    rw [if_neg c, if_neg c', if_pos rfl]
theorem ra_2 {f e y X Y : Nat} (h : ¬ (no_ f e X ∨ no_ f e Y)) : ra_ f e y 2 X Y = if nf_ f e X ∨ nf_ f e (tu_ f e 2 Y) then wn_ f e 2 X (tu_ f e 2 Y) else rr_ f e y (dS f e X != dS f e (tu_ f e 2 Y)) (dW f e X * dW f e (tu_ f e 2 Y)) (dP f e X + dP f e (tu_ f e 2 Y) - 1000) := by
  unfold ra_
  rw [if_neg h]
  by_cases c : nf_ f e X ∨ nf_ f e (tu_ f e 2 Y)
  · have c' : nf_ f e X ∨ nf_ f e (tu_ f e 2 Y) ∨ (2 = 3 ∧ dW f e (tu_ f e 2 Y) = 0) := c.imp id Or.inl
    rw [if_pos c, if_pos c']
  · have c' : ¬ (nf_ f e X ∨ nf_ f e (tu_ f e 2 Y) ∨ (2 = 3 ∧ dW f e (tu_ f e 2 Y) = 0)) := by
      rintro (z | z | z)
      · exact c (Or.inl z)
      · exact c (Or.inr z)
      · exact absurd z.1 (by decide)
    rw [if_neg c, if_neg c', if_neg (show ¬ (2 = 3) by decide), if_pos rfl]
theorem ra_01 {f e y k X Y : Nat} (hk : k ≤ 1) (h : ¬ (no_ f e X ∨ no_ f e Y)) : ra_ f e y k X Y = if nf_ f e X ∨ nf_ f e (tu_ f e k Y) then wn_ f e 0 X (tu_ f e k Y) else rr_ f e y (aS f e y X (tu_ f e k Y)) (aM f e X (tu_ f e k Y)) (aK f e X (tu_ f e k Y)) := by
  unfold ra_
  rw [if_neg h]
  by_cases c : nf_ f e X ∨ nf_ f e (tu_ f e k Y)
  · have c' : nf_ f e X ∨ nf_ f e (tu_ f e k Y) ∨ (k = 3 ∧ dW f e (tu_ f e k Y) = 0) := c.imp id Or.inl
    rw [if_pos c, if_pos c', wn_01 hk]
  · have c' : ¬ (nf_ f e X ∨ nf_ f e (tu_ f e k Y) ∨ (k = 3 ∧ dW f e (tu_ f e k Y) = 0)) := by
      rintro (z | z | z)
      · exact c (Or.inl z)
      · exact c (Or.inr z)
      · omega
    rw [if_neg c, if_neg c', if_neg (show ¬ k = 3 by omega), if_neg (show ¬ k = 2 by omega)]
section
variable {L : Nat} {xs : Nat → Int32} {σ : ks_St} {A : wa_}
theorem m_real {k a b y : Int32} (h : MI_ A σ) (hn : wN A < 600) : ks_M L xs mX5_real rm_X5_real [.ref 17, .int k, .int a, .int b, .int y] σ (pm_ (o_real A k a b y) σ) := by
  refine ks_body (by decide) (Nat.le_of_ble_eq_true rfl) ?_
  refine sg_X5_real_0 (cs_X5_real_2 (m_isWord h) (fun r σ1 hr => ?_))
  obtain ⟨rfl, rfl⟩ := hr
  have thr : ∀ p q : Bool, ks_W L xs mX5_real rm_X5_real 127 [(0, .ref 17), (1, .int k), (2, .int a), (3, .int b), (4, .int y)] [.int (b1_ (decide (cd_ p q false false ≠ 0)))] (ui_ σ1 14 (nI (cd_ p q false false))) 0 0 (pm_ (o_real A k a b y) σ1) → ks_W L xs mX5_real rm_X5_real 101 [(0, .ref 17), (1, .int k), (2, .int a), (3, .int b), (4, .int y), (5, .int (b1_ p))] [.int (b1_ q)] σ1 0 0 (pm_ (o_real A k a b y) σ1) := by
    intro p q K
    refine sg_X5_real_101 (fun _ => ?_) (fun c => absurd c (no600 h hn))
    refine sg_X5_real_123 (cs_X5_real_124 (m_throwing p q false false) (fun r σ2 hr => ?_))
    obtain ⟨rfl, rfl⟩ := hr
    exact K
  have out : ∀ p : Bool, o_real A k a b y = (cd_ p true false false, 0, A) → ks_W L xs mX5_real rm_X5_real 96 [(0, .ref 17), (1, .int k), (2, .int a), (3, .int b), (4, .int y), (5, .int (b1_ p))] [] σ1 0 0 (pm_ (o_real A k a b y) σ1) := by
    intro p eo
    have hc : cd_ p true false false ≠ 0 := by cases p <;> decide
    refine sg_X5_real_96 (thr p true ?_)
    rw [decide_eq_true hc]
    refine sg_X5_real_127 (fun c => absurd c (by decide)) (fun c => absurd c (by decide)) (fun _ => ⟨_, rfl, ?_⟩)
    rw [eo]
    exact ⟨s14, fun d => absurd d hc, MI_14 h, fm_14⟩
  have none : ¬ (ow_ A a ∧ ow_ A b) → ks_W L xs mX5_real rm_X5_real 16 [(0, .ref 17), (1, .int k), (2, .int a), (3, .int b), (4, .int y)] [] σ1 0 0 (pm_ (o_real A k a b y) σ1) := by
    intro z
    refine sg_X5_real_16 ?_
    have no : ¬ (1 : Int32) = 0 := by decide
    exact sg_X5_real_21 (fun _ => out true (by rw [o_real, if_neg z]; rfl)) (fun c => absurd c no) (fun c => absurd c no) (fun c => absurd c no) (fun c => absurd c no) (fun c => absurd c no) (fun c => absurd c no) (fun c => absurd c no) (fun c => absurd c no) (fun c => absurd c no) (fun c => absurd c no) (fun c => absurd c no) (fun c => absurd c no) (fun c => absurd c no) (fun c => absurd c no)
  by_cases za : ow_ A a
  · rw [decide_eq_true za]
    refine sg_X5_real_5 (fun c => absurd c (by decide)) (fun _ => ?_)
    refine cs_X5_real_10 (m_isWord h) (fun r σ1 hr => ?_)
    obtain ⟨rfl, rfl⟩ := hr
    by_cases zb : ow_ A b
    · rw [decide_eq_true zb]
      refine sg_X5_real_13 (fun _ => ?_) (fun c => absurd c (by decide))
      obtain ⟨i, hi, rfl, ei⟩ := ow_ix h.1 za
      obtain ⟨j, hj, rfl, ej⟩ := ow_ix h.1 zb
      have hwi := MI_w h hi
      have hwj := MI_w h hj
      have eW := MI_sf h hi
      have bad : (k < 0 ∨ ¬ k ≤ 3 ∨ y < 0 ∨ ¬ y ≤ 4 ∨ wW A i ≠ wW A j ∨ ¬ w3_ (wW A i)) → ks_W L xs mX5_real rm_X5_real 96 [(0, .ref 17), (1, .int k), (2, .int (nI i)), (3, .int (nI j)), (4, .int y), (5, .int 0)] [] σ1 0 0 (pm_ (o_real A k (nI i) (nI j) y) σ1) := fun q => out false (by rw [o_real, if_pos ⟨za, zb⟩, ei, ej, if_pos q]; rfl)
      have eww : sf_ σ1 18 (nI i).toNatClampNeg = sf_ σ1 18 (nI j).toNatClampNeg ↔ wW A i = wW A j := by rw [MI_sf h hi, MI_sf h hj]; exact nI_eq (by omega) (by omega)
      have q8 : sf_ σ1 18 (nI i).toNatClampNeg = 8 ↔ wW A i = 8 := by rw [eW]; exact nI_eq (b := 8) (by omega) (by decide)
      have q16 : sf_ σ1 18 (nI i).toNatClampNeg = 16 ↔ wW A i = 16 := by rw [eW]; exact nI_eq (b := 16) (by omega) (by decide)
      have q32 : sf_ σ1 18 (nI i).toNatClampNeg = 32 ↔ wW A i = 32 := by rw [eW]; exact nI_eq (b := 32) (by omega) (by decide)
      have good : ¬ k < 0 → ¬ 3 < k → ¬ y < 0 → ¬ 4 < y → wW A i = wW A j → w3_ (wW A i) → ks_W L xs mX5_real rm_X5_real 100 [(0, .ref 17), (1, .int k), (2, .int (nI i)), (3, .int (nI j)), (4, .int y), (5, .int 0)] [] σ1 0 0 (pm_ (o_real A k (nI i) (nI j) y) σ1) := by
        intro k0 k3 y0 y4 ew hw3
        refine sg_X5_real_100 (thr false false ?_)
        have ho : o_real A k (nI i) (nI j) y = (0, nI (wN A), wp_ (wr_ A (ra_ (ff_ (wW A i)) (ee_ (wW A i)) y.toNatClampNeg k.toNatClampNeg (wV A i) (wV A j)).2) (wW A i) ((ra_ (ff_ (wW A i)) (ee_ (wW A i)) y.toNatClampNeg k.toNatClampNeg (wV A i) (wV A j)).1 % 2 ^ wW A i)) := by
          rw [o_real, if_pos ⟨za, zb⟩, ei, ej, if_neg]
          rintro (z | z | z | z | z | z)
          · exact k0 z
          · exact k3 (Int32.not_le.mp z)
          · exact y0 z
          · exact y4 (Int32.not_le.mp z)
          · exact z ew
          · exact z hw3
        clear thr out none bad
        obtain ⟨p, hp, rfl⟩ := nI_of k0
        obtain ⟨q, hq, rfl⟩ := nI_of y0
        rw [show (3 : Int32) = nI 3 from rfl, nI_ltI (by decide) hp] at k3
        rw [show (4 : Int32) = nI 4 from rfl, nI_ltI (by decide) hq] at y4
        rw [nI_clamp hp, nI_clamp hq] at ho
        obtain ⟨hf, hwe⟩ := fmt_w hw3
        generalize ff_ (wW A i) = f at hf hwe ho
        generalize ee_ (wW A i) = e at hf hwe ho
        have hwi32 : wW A i ≤ 32 := by rcases hw3 with z | z | z <;> omega
        have bI : wV A i < 2 ^ (f + e + 1) := by rw [hwe]; exact hwi.2.2
        have bJ : wV A j < 2 ^ (f + e + 1) := by rw [hwe, ew]; exact hwj.2.2
        have h2 : MI_ A (ui_ σ1 14 (nI (cd_ false false false false))) := MI_14 h
        have s2 : si_ (ui_ σ1 14 (nI (cd_ false false false false))) 14 = 0 := s14
        have f2 : fr_ [14, 17] [] [23, 25, 26, 27] [28] σ1 (ui_ σ1 14 (nI (cd_ false false false false))) := fr_ui _ _ (by decide)
        have ewt := MI_sf h2 hi
        generalize ui_ σ1 14 (nI (cd_ false false false false)) = σ2 at h2 s2 f2 ewt ⊢
        refine sg_X5_real_127 (fun _ => MI_in h hi) (fun _ => ?_) (fun c => absurd rfl c)
        rw [ewt]
        have T0 := m_take (L := L) (xs := xs) (σ := σ2) (ii := 0) false hf h2 hi hwe.symm (by decide)
        refine cs_X5_real_144 T0 (fun σ3 hr => ?_)
        obtain ⟨tA, -, f3⟩ := hr
        have h3 : MI_ A σ3 := MI_fr h2 f3 (by decide) (by decide)
        have kp1 : nI p = 1 ↔ p = 1 := nI_eq (b := 1) (by omega) (by decide)
        -- the answer's bits, kept
        have tail : ∀ (σ5 : ks_St) (v : Nat × Nat), v = ra_ f e q p (wV A i) (wV A j) → si_ σ5 17 = nI v.2 → si_ σ5 14 = 0 → fr_ [14, 17] [] [23, 25, 26, 27] [28] σ1 σ5 → ks_W L xs mX5_real rm_X5_real 245 [(0, .ref 17), (7, .int (nI (wW A i))), (8, .long (lN v.1))] [] σ5 0 0 (pm_ (o_real A (nI p) (nI i) (nI j) (nI q)) σ1) := by
          intro σ5 v hv e17 e14 f5
          have hlt : v.1 < 2 ^ 32 := by
            rw [hv]
            have := ra_lt (y := q) (k := p) hf bI bJ
            rw [hwe] at this
            exact Nat.lt_of_lt_of_le this (Nat.pow_le_pow_right (by decide) hwi32)
          rw [ho, ← hv]
          refine sg_X5_real_245 ?_
          refine lp_ (wW A i) (fun n (s : ks_St) => ks_W L xs mX5_real rm_X5_real 248 [(0, .ref 17), (7, .int (nI (wW A i))), (8, .long (lN v.1)), (10, .int (nI n))] [] s 0 0 (pm_ (0, nI (wN A), wp_ (wr_ A v.2) (wW A i) (v.1 % 2 ^ wW A i)) σ1))
            (fun n s => br_ (sf_ s 23) n v.1 ∧ fr_ [] [] [23] [] σ5 s) ?_ ?_ 0 σ5 (Nat.zero_le _) ⟨fun t ht => absurd ht (Nat.not_lt_zero t), fr_refl _⟩
          · intro n s hn' hI ih
            obtain ⟨bs, fs⟩ := hI
            refine sg_X5_real_248 (fun c => absurd c (nI_ge hn' (by omega))) (fun _ => vp_in_nI (by omega) (by decide)) (fun _ => ?_)
            have hq' : v.1 / 2 ^ n ≤ v.1 := Nat.div_le_self _ _
            have eb : (lN v.1 >>> ((nI n).toInt64 &&& 63)).toInt32 &&& 1 = b1_ (v.1.testBit n) := by
              rw [lN_sar (by omega) (by omega), lN_i, pk_andN (m := 1) (by omega) 1 (by decide), Nat.testBit_eq_decide_div_mod_eq]
              rcases Nat.mod_two_eq_zero_or_one (v.1 / 2 ^ n) with z | z <;> rw [show (2 : Nat) ^ 1 = 2 from rfl, z] <;> rfl
            rw [eb, nI_1, nI_clamp (by omega)]
            refine ih _ ⟨fun t ht => ?_, fr_trans fs (fr_uf _ _ (by decide))⟩
            rw [sf_self]
            by_cases e : t = n
            · rw [e, pk_us]
            · rw [pk_un e]; exact bs t (by omega)
          · intro s hI
            obtain ⟨bs, fs⟩ := hI
            have cw : nI (wW A i) ≤ nI (wW A i) := nI_le (Nat.le_refl _) (by omega)
            refine sg_X5_real_248 (fun _ => ?_) (fun c => absurd cw c) (fun c => absurd cw c)
            have f6 : fr_ [14, 17] [] [23, 25, 26, 27] [28] σ1 s := fr_trans f5 (fr_mono fs (by decide) (by decide) (by decide) (by decide))
            have h6 : MI_ (wr_ A v.2) s := MI_wr h f6 (by rw [fs.1 17 (by decide)]; exact e17)
            refine cs_X5_real_280 (m_keep (p := 0) (X := v.1 % 2 ^ wW A i) h6 hn hwi.1 hwi.2.1 (by omega) (fun t ht => ?_) (Nat.mod_lt _ (Nat.two_pow_pos _))) (fun r σ7 hr => ?_)
            · show sf_ s 23 (0 + t) = _
              rw [Nat.zero_add, bs t ht, Nat.testBit_mod_two_pow]; simp [ht]
            · obtain ⟨rfl, h7, f7⟩ := hr
              refine sg_X5_real_283 ⟨_, rfl, ?_, fun _ => rfl, h7, fr_trans (fr_mono f6 (by decide) (by decide) (by decide) (by decide)) (fr_mono f7 (by decide) (by decide) (by decide) (by decide))⟩
              rw [f7.1 14 (by decide), fs.1 14 (by decide)]; exact e14
        have second : ∀ t : Bool, t = decide (p = 1) → ks_W L xs mX5_real rm_X5_real 160 [(0, .ref 17), (1, .int (nI p)), (4, .int (nI q)), (7, .int (nI (wW A i)))] [.int (b1_ t), .int (nI j), .int 1, .ref 17] σ3 0 0 (pm_ (o_real A (nI p) (nI i) (nI j) (nI q)) σ1) := by
          intro t ht
          have T1 := m_take (L := L) (xs := xs) (σ := σ3) (ii := 1) t hf h3 hj (by rw [hwe, ew]) (by decide)
          refine cs_X5_real_160 T1 (fun σ4 hr => ?_)
          obtain ⟨tB, tO, f4⟩ := hr
          have tE := tu_E f e p (wV A j)
          have tW := tu_W f e p (wV A j)
          have hkd : kd_ f e (tu_ f e p (wV A j)) = kd_ f e (wV A j) := by unfold kd_; rw [tE.1, tE.2.1]
          have TA : TK_ f e 0 (wV A i) (ui_ σ4 17 0) := by
            have o0 := tO 0 (by decide)
            refine ⟨?_, ?_, ?_, ?_⟩
            · show sf_ σ4 25 0 = _
              rw [o0.1]; exact tA.1
            · show sf_ σ4 26 0 = _
              rw [o0.2.1, tA.2.1]; congr 1; cases dS f e (wV A i) <;> rfl
            · show sf_ σ4 27 0 = _
              rw [o0.2.2.1]; exact tA.2.2.1
            · show sg_ σ4 28 0 = _
              rw [o0.2.2.2]; exact tA.2.2.2
          have TB : TK_ f e 1 (tu_ f e p (wV A j)) (ui_ σ4 17 0) := by
            refine ⟨?_, ?_, ?_, ?_⟩
            · show sf_ σ4 25 1 = _
              rw [hkd]; exact tB.1
            · show sf_ σ4 26 1 = _
              rw [tE.2.2, ← ht]; exact tB.2.1
            · show sf_ σ4 27 1 = _
              rw [tW.2]; exact tB.2.2.1
            · show sg_ σ4 28 1 = _
              rw [tW.1]; exact tB.2.2.2
          have f5 : fr_ [14, 17] [] [23, 25, 26, 27] [28] σ1 (ui_ σ4 17 0) := fr_trans f2 (fr_trans (fr_mono f3 (by decide) (by decide) (by decide) (by decide)) (fr_trans (fr_mono f4 (by decide) (by decide) (by decide) (by decide)) (fr_ui _ _ (by decide))))
          have e17 : si_ (ui_ σ4 17 0) 17 = 0 := by rw [si_ui, if_pos rfl]
          have e14 : si_ (ui_ σ4 17 0) 14 = 0 := by rw [si_ui, if_neg (by decide), f4.1 14 (by decide), f3.1 14 (by decide)]; exact s2
          generalize hσ5 : ui_ σ4 17 0 = σ5 at TA TB f5 e17 e14
          have bT := tu_lt (k := p) bJ
          have nTj : no_ f e (tu_ f e p (wV A j)) ↔ no_ f e (wV A j) := by rw [← kd_2, hkd, kd_2]
          have hwx : nI (wW A i) = nI (f + e + 1) := by rw [hwe]
          have kX := kd_le f e (wV A i)
          have kT := kd_le f e (tu_ f e p (wV A j))
          have a25 : sf_ σ5 25 (0 : Int32).toNatClampNeg = nI (kd_ f e (wV A i)) := TA.1
          have b25 : sf_ σ5 25 (1 : Int32).toNatClampNeg = nI (kd_ f e (tu_ f e p (wV A j))) := TB.1
          have qX : sf_ σ5 25 (0 : Int32).toNatClampNeg = 2 ↔ no_ f e (wV A i) := by rw [a25, ← kd_2]; exact nI_eq (b := 2) (by omega) (by decide)
          have qT : sf_ σ5 25 (1 : Int32).toNatClampNeg = 2 ↔ no_ f e (wV A j) := by rw [b25, ← nTj, ← kd_2]; exact nI_eq (b := 2) (by omega) (by decide)
          have p2 : (2 : Int32) ≤ nI p ↔ 2 ≤ p := nI_leI (a := 2) (by decide) (by omega)
          have p2' : nI p = 2 ↔ p = 2 := nI_eq (b := 2) (by omega) (by decide)
          have nonev : (no_ f e (wV A i) ∨ no_ f e (wV A j)) → ks_W L xs mX5_real rm_X5_real 191 [(0, .ref 17), (7, .int (nI (wW A i)))] [] σ5 0 0 (pm_ (o_real A (nI p) (nI i) (nI j) (nI q)) σ1) := by
            intro z
            refine sg_X5_real_191 ?_
            rw [hwx]
            refine cs_X5_real_193 (m_none hf) (fun r σ6 hr => ?_)
            obtain ⟨rfl, rfl⟩ := hr
            refine sg_X5_real_196 ?_
            rw [← hwx]
            exact tail σ6 (vN f e, 0) (by rw [ra_, if_pos z]) e17 e14 f5
          have hp2 : p ≤ 3 := by omega
          have hq4 : q ≤ 4 := by omega
          refine sg_X5_real_163 (fun c => ?_) (fun c d g l => ?_) (fun c d g l => ?_) (fun c d g => ?_) (fun c d => ?_)
          · rw [hσ5] at c ⊢
            exact nonev (Or.inl (qX.mp c))
          · rw [hσ5] at c d ⊢
            rw [qX] at c
            rw [qT] at d
            rw [p2] at g
            rw [p2'] at l
            have e3 : p = 3 := by omega
            subst e3
            rw [hwx]
            refine cs_X5_real_240 (m_quotient hf hq4 TA TB c (fun z => d (nTj.mp z)) e17) (fun r σ6 hr => ?_)
            obtain ⟨rfl, g7, g8⟩ := hr
            refine sg_X5_real_243 ?_
            rw [← hwx]
            exact tail σ6 _ (ra_3 (fun z => z.elim c d)).symm g7 (by rw [g8.1 14 (by decide)]; exact e14) (fr_trans f5 (fr_mono g8 (by decide) (by decide) (by decide) (by decide)))
          · rw [hσ5] at c d ⊢
            rw [qX] at c
            rw [qT] at d
            rw [p2'] at l
            subst l
            rw [hwx]
            refine cs_X5_real_229 (m_product hf hq4 TA TB c (fun z => d (nTj.mp z)) e17) (fun r σ6 hr => ?_)
            obtain ⟨rfl, g7, g8⟩ := hr
            refine sg_X5_real_232 (sg_X5_real_243 ?_)
            rw [← hwx]
            exact tail σ6 _ (ra_2 (fun z => z.elim c d)).symm g7 (by rw [g8.1 14 (by decide)]; exact e14) (fr_trans f5 (fr_mono g8 (by decide) (by decide) (by decide) (by decide)))
          · rw [hσ5] at c d ⊢
            rw [qX] at c
            rw [qT] at d
            rw [p2] at g
            rw [hwx]
            refine cs_X5_real_211 (m_sum hf hq4 TA TB bI bT c (fun z => d (nTj.mp z)) e17) (fun r σ6 hr => ?_)
            obtain ⟨rfl, g7, g8⟩ := hr
            refine sg_X5_real_214 ?_
            rw [← hwx]
            exact tail σ6 _ (ra_01 (by omega) (fun z => z.elim c d)).symm g7 (by rw [g8.1 14 (by decide)]; exact e14) (fr_trans f5 (fr_mono g8 (by decide) (by decide) (by decide) (by decide)))
          · rw [hσ5] at d ⊢
            exact nonev (Or.inr (qT.mp d))
        refine sg_X5_real_147 (fun c => second false ?_) (fun c => second true ?_)
        · rw [kp1] at c; exact (decide_eq_false c).symm
        · rw [kp1] at c; exact (decide_eq_true c).symm
      have lt3 : 3 < k ↔ ¬ k ≤ 3 := Int32.not_le.symm
      have lt4 : 4 < y ↔ ¬ y ≤ 4 := Int32.not_le.symm
      refine sg_X5_real_21 (fun c => absurd rfl c) (fun _ c => bad (Or.inl c)) (fun _ _ c => bad (Or.inr (Or.inl (lt3.mp c)))) (fun _ _ _ c => bad (Or.inr (Or.inr (Or.inl c)))) (fun _ _ _ _ c => bad (Or.inr (Or.inr (Or.inr (Or.inl (lt4.mp c)))))) (fun _ _ _ _ _ => MI_in h hi) (fun _ _ _ _ _ => MI_in h hj) (fun _ _ _ _ _ c => bad (Or.inr (Or.inr (Or.inr (Or.inr (Or.inl (fun z => c (eww.mpr z)))))))) (fun _ _ _ _ _ _ => MI_in h hi) (fun _ c d g l m n => good c d g l (eww.mp m) (Or.inl (q8.mp n))) (fun _ _ _ _ _ _ _ => MI_in h hi) (fun _ c d g l m _ n => good c d g l (eww.mp m) (Or.inr (Or.inl (q16.mp n)))) (fun _ _ _ _ _ _ _ _ => MI_in h hi) (fun _ c d g l m _ _ n => good c d g l (eww.mp m) (Or.inr (Or.inr (q32.mp n)))) (fun _ _ _ _ _ _ c d g => bad (Or.inr (Or.inr (Or.inr (Or.inr (Or.inr ?_))))))
      rintro (z | z | z)
      · exact c (q8.mpr z)
      · exact d (q16.mpr z)
      · exact g (q32.mpr z)
    · rw [decide_eq_false zb]
      exact sg_X5_real_13 (fun c => absurd rfl c) (fun _ => none fun z => zb z.2)
  · rw [decide_eq_false za]
    exact sg_X5_real_5 (fun _ => none fun z => za z.1) (fun c => absurd rfl c)
end
end
