section
/-! ===== the reference's calls: join, compare ===== -/
theorem cm_gt {s : Int32} {w X Y : Nat} (h : ¬ (s ≠ 0 ∧ ng_ w X ≠ ng_ w Y)) (hl : Y < X) : cm_ s w X Y = 1 :=
  (if_neg h).trans ((if_neg (by omega)).trans (if_neg (by omega)))
theorem cm_less {s : Int32} {w X Y : Nat} (h : ¬ (s ≠ 0 ∧ ng_ w X ≠ ng_ w Y)) (hl : X < Y) : cm_ s w X Y = -1 :=
  (if_neg h).trans (if_pos hl)
theorem cm_lt {s : Int32} {w X Y : Nat} (hw : 1 ≤ w) (hX : X < 2 ^ w) (hY : Y < 2 ^ w) {n : Nat} (hn : n < w) (e : X / 2 ^ (n + 1) = Y / 2 ^ (n + 1)) (a : X.testBit n = true) (b : Y.testBit n = false) : cm_ s w X Y = if s ≠ 0 ∧ n = w - 1 then -1 else 1 := by
  have hlt : Y < X := by
    have h1 := bit_split X n
    have h2 := bit_split Y n
    rw [a, e] at h1
    rw [b] at h2
    have h3 : Y % 2 ^ n < 2 ^ n := Nat.mod_lt _ (Nat.two_pow_pos n)
    rw [Nat.mul_add] at h1 h2
    simp only [Bool.toNat_true, Bool.toNat_false, Nat.mul_one, Nat.mul_zero] at h1 h2
    omega
  by_cases c : n = w - 1
  · have hna : ng_ w X = true := by unfold ng_; rw [← c]; exact a
    have hnb : ng_ w Y = false := by unfold ng_; rw [← c]; exact b
    by_cases d : s ≠ 0
    · rw [if_pos ⟨d, c⟩]
      have hc : s ≠ 0 ∧ ng_ w X ≠ ng_ w Y := ⟨d, by rw [hna, hnb]; decide⟩
      exact (if_pos hc).trans (if_pos hna)
    · have hd : ¬ (s ≠ 0 ∧ n = w - 1) := fun z => d z.1
      rw [if_neg hd]
      exact cm_gt (fun z => d z.1) hlt
  · have hng : ng_ w X = ng_ w Y := by
      unfold ng_
      have t : ∀ Z : Nat, Z.testBit (w - 1) = (Z / 2 ^ (n + 1)).testBit (w - 1 - (n + 1)) := fun Z => by
        rw [Nat.testBit_div_two_pow]; congr 1; omega
      rw [t X, t Y, e]
    have hd : ¬ (s ≠ 0 ∧ n = w - 1) := fun z => c z.2
    rw [if_neg hd]
    exact cm_gt (fun z => z.2 hng) hlt
theorem cm_sw {s : Int32} {w X Y : Nat} (h : X ≠ Y) : cm_ s w X Y = -cm_ s w Y X := by
  by_cases c : s ≠ 0 ∧ ng_ w X ≠ ng_ w Y
  · have c2 : s ≠ 0 ∧ ng_ w Y ≠ ng_ w X := ⟨c.1, fun z => c.2 z.symm⟩
    have e1 : cm_ s w X Y = if ng_ w X = true then -1 else 1 := if_pos c
    have e2 : cm_ s w Y X = if ng_ w Y = true then -1 else 1 := if_pos c2
    rw [e1, e2]
    have := c.2
    cases hx : ng_ w X <;> cases hy : ng_ w Y
    · rw [hx, hy] at this; exact absurd rfl this
    · decide
    · decide
    · rw [hx, hy] at this; exact absurd rfl this
  · have c2 : ¬ (s ≠ 0 ∧ ng_ w Y ≠ ng_ w X) := fun z => c ⟨z.1, fun y => z.2 y.symm⟩
    by_cases d : X < Y
    · rw [cm_less c d, cm_gt c2 d]
    · rw [cm_gt c (by omega), cm_less c2 (by omega)]; decide
section
variable {L : Nat} {xs : Nat → Int32} {σ : ks_St} {A : wa_}
theorem m_join {a b : Int32} (h : MI_ A σ) (hn : wN A < 600) : ks_M L xs mX5_join rm_X5_join [.ref 17, .int a, .int b] σ (pm_ (o_join A a b) σ) := by
  refine ks_body (by decide) (Nat.le_of_ble_eq_true rfl) ?_
  refine sg_X5_join_0 (cs_X5_join_2 (m_isWord h) (fun r σ1 hr => ?_))
  obtain ⟨rfl, rfl⟩ := hr
  have thr : ∀ p q : Bool, ks_W L xs mX5_join rm_X5_join 71 [(0, .ref 17), (1, .int a), (2, .int b)] [.int (b1_ (decide (cd_ p q false false ≠ 0)))] (ui_ σ1 14 (nI (cd_ p q false false))) 0 0 (pm_ (o_join A a b) σ1) → ks_W L xs mX5_join rm_X5_join 52 [(0, .ref 17), (1, .int a), (2, .int b)] [.int (b1_ q), .int (b1_ p), .ref 17] σ1 0 0 (pm_ (o_join A a b) σ1) := by
    intro p q K
    refine sg_X5_join_52 (fun _ => ?_) (fun c => absurd c (no600 h hn))
    refine sg_X5_join_67 (cs_X5_join_68 (m_throwing p q false false) (fun r σ2 hr => ?_))
    obtain ⟨rfl, rfl⟩ := hr
    exact K
  have out : ∀ p q : Bool, cd_ p q false false ≠ 0 → o_join A a b = (cd_ p q false false, 0, A) → ks_W L xs mX5_join rm_X5_join 52 [(0, .ref 17), (1, .int a), (2, .int b)] [.int (b1_ q), .int (b1_ p), .ref 17] σ1 0 0 (pm_ (o_join A a b) σ1) := by
    intro p q c eo
    refine thr p q ?_
    rw [decide_eq_true c]
    refine sg_X5_join_71 (fun c => absurd c (by decide)) (fun _ => ⟨_, rfl, ?_⟩)
    rw [eo]
    exact ⟨s14, fun d => absurd d c, MI_14 h, fm_14⟩
  have none : ¬ (ow_ A a ∧ ow_ A b) → ks_W L xs mX5_join rm_X5_join 16 [(0, .ref 17), (1, .int a), (2, .int b)] [] σ1 0 0 (pm_ (o_join A a b) σ1) := fun z => by
    refine sg_X5_join_16 ?_
    exact sg_X5_join_21 (fun _ => sg_X5_join_51 (out true false (by decide) (by rw [o_join, if_neg z]; rfl))) (fun c => absurd c (by decide)) (fun c => absurd c (by decide)) (fun c => absurd c (by decide)) (fun c => absurd c (by decide))
  by_cases za : ow_ A a
  · rw [decide_eq_true za]
    refine sg_X5_join_5 (fun c => absurd c (by decide)) (fun _ => ?_)
    refine cs_X5_join_10 (m_isWord h) (fun r σ1 hr => ?_)
    obtain ⟨rfl, rfl⟩ := hr
    by_cases zb : ow_ A b
    · rw [decide_eq_true zb]
      refine sg_X5_join_13 (fun _ => ?_) (fun c => absurd c (by decide))
      obtain ⟨i, hi, rfl, ei⟩ := ow_ix h.1 za
      obtain ⟨j, hj, rfl, ej⟩ := ow_ix h.1 zb
      have hwi := MI_w h hi
      have hwj := MI_w h hj
      have es : sf_ σ1 18 (nI i).toNatClampNeg + sf_ σ1 18 (nI j).toNatClampNeg = nI (wW A i + wW A j) := by rw [MI_sf h hi, MI_sf h hj, nI_add]
      have hc : sf_ σ1 18 (nI i).toNatClampNeg + sf_ σ1 18 (nI j).toNatClampNeg ≤ 512 ↔ wW A i + wW A j ≤ 512 := by rw [es]; exact nI_leI (b := 512) (by omega) (by decide)
      refine sg_X5_join_21 (fun c => absurd rfl c) (fun _ => MI_in h hi) (fun _ => MI_in h hj) (fun _ c => ?_) (fun _ c => ?_)
      · rw [hc] at c
        refine sg_X5_join_51 (thr false false ?_)
        refine sg_X5_join_71 (fun _ => ?_) (fun c => absurd rfl c)
        have ho : o_join A (nI i) (nI j) = (0, nI (wN A), wp_ A (wW A i + wW A j) (2 ^ wW A j * wV A i + wV A j)) := by
          rw [o_join, if_pos ⟨za, zb⟩, ei, ej, if_neg (by omega)]
        clear thr out none es hc
        have h2 : MI_ A (ui_ σ1 14 (nI (cd_ false false false false))) := MI_14 h
        have s2 : si_ (ui_ σ1 14 (nI (cd_ false false false false))) 14 = 0 := s14
        have f2 : fm_ σ1 (ui_ σ1 14 (nI (cd_ false false false false))) := fm_14
        generalize ui_ σ1 14 (nI (cd_ false false false false)) = σ2 at h2 s2 f2 ⊢
        refine lp_ (wW A j) (fun i' (s : ks_St) => ks_W L xs mX5_join rm_X5_join 79 [(0, .ref 17), (1, .int (nI i)), (2, .int (nI j)), (4, .int (nI i'))] [] s 0 0 (pm_ (o_join A (nI i) (nI j)) σ1))
          (fun i' s => fr_ [] [] [23] [] σ2 s ∧ ∀ k, k < i' → sf_ s 23 k = b1_ ((wV A j).testBit k)) ?_ ?_ 0 σ2 (Nat.zero_le _) ⟨fr_refl _, fun k hk => absurd hk (Nat.not_lt_zero k)⟩
        · intro n s hn' hI ih
          obtain ⟨fs, q1⟩ := hI
          have h3 : MI_ A s := MI_fr h2 fs (by decide) (by decide)
          refine sg_X5_join_79 (MI_in h hj) (fun c => ?_) (fun _ => ?_)
          · rw [MI_sf h3 hj, nI_leI (by omega) (by omega)] at c; omega
          · refine cs_X5_join_100 (m_bitOf h3 hj (by omega)) (fun r σ3 hr => ?_)
            obtain ⟨rfl, rfl⟩ := hr
            refine sg_X5_join_103 (vp_in_nI (by omega) (by decide)) ?_
            rw [nI_1, nI_clamp (by omega)]
            refine ih _ ⟨fr_trans fs (fr_uf _ _ (by decide)), fun k hk => ?_⟩
            rw [sf_self]
            by_cases e : k = n
            · rw [e, pk_us]
            · rw [pk_un e]; exact q1 k (by omega)
        · intro s hI
          obtain ⟨fs, q1⟩ := hI
          have h3 : MI_ A s := MI_fr h2 fs (by decide) (by decide)
          refine sg_X5_join_79 (MI_in h hj) (fun _ => ?_) (fun c => absurd (by rw [MI_sf h3 hj]; exact nI_le (Nat.le_refl _) (by omega)) c)
          refine lp_ (wW A i) (fun i' (s : ks_St) => ks_W L xs mX5_join rm_X5_join 113 [(0, .ref 17), (1, .int (nI i)), (2, .int (nI j)), (4, .int (nI i'))] [] s 0 0 (pm_ (o_join A (nI i) (nI j)) σ1))
            (fun i' s => fr_ [] [] [23] [] σ2 s ∧ ∀ k, k < wW A j + i' → sf_ s 23 k = b1_ (if k < wW A j then (wV A j).testBit k else (wV A i).testBit (k - wW A j))) ?_ ?_ 0 s (Nat.zero_le _) ⟨fs, fun k hk => by have hk' : k < wW A j := hk; rw [if_pos hk']; exact q1 k hk'⟩
          · intro n s hn' hI ih
            obtain ⟨fs, q1⟩ := hI
            have h3 : MI_ A s := MI_fr h2 fs (by decide) (by decide)
            have no : ¬ sf_ s 18 (nI i).toNatClampNeg ≤ nI n := by rw [MI_sf h3 hi, nI_leI (by omega) (by omega)]; omega
            refine sg_X5_join_113 (MI_in h hi) (fun c => absurd c no) (fun c => absurd c no) (fun c => absurd c no) (fun _ => MI_in h hj) (fun _ => ?_)
            rw [MI_sf h3 hj, nI_add]
            refine cs_X5_join_141 (m_bitOf h3 hi (by omega)) (fun r σ3 hr => ?_)
            obtain ⟨rfl, rfl⟩ := hr
            refine sg_X5_join_144 (vp_in_nI (by omega) (by decide)) ?_
            rw [nI_1, nI_clamp (by omega)]
            refine ih _ ⟨fr_trans fs (fr_uf _ _ (by decide)), fun k hk => ?_⟩
            rw [sf_self]
            by_cases e : k = wW A j + n
            · rw [e, pk_us, if_neg (by omega), Nat.add_sub_cancel_left]
            · rw [pk_un e]; exact q1 k (by omega)
          · intro s hI
            obtain ⟨fs, q1⟩ := hI
            have h3 : MI_ A s := MI_fr h2 fs (by decide) (by decide)
            have yes : sf_ s 18 (nI i).toNatClampNeg ≤ nI (wW A i) := by rw [MI_sf h3 hi]; exact nI_le (Nat.le_refl _) (by omega)
            refine sg_X5_join_113 (MI_in h hi) (fun _ => MI_in h hi) (fun _ => MI_in h hj) (fun _ => ?_) (fun c => absurd yes c) (fun c => absurd yes c)
            rw [MI_sf h3 hi, MI_sf h3 hj, nI_add]
            have hX : 2 ^ wW A j * wV A i + wV A j < 2 ^ (wW A i + wW A j) := by
              have e1 : 2 ^ wW A j * (wV A i + 1) ≤ 2 ^ wW A j * 2 ^ wW A i := Nat.mul_le_mul_left _ hwi.2.2
              rw [Nat.mul_add, Nat.mul_one, ← Nat.pow_add, Nat.add_comm (wW A j)] at e1
              omega
            refine cs_X5_join_166 (m_keep (p := 0) h3 hn (by omega) c (by omega) (fun k hk => ?_) hX) (fun r σ3 hr => ?_)
            · show sf_ s 23 (0 + k) = _
              rw [Nat.zero_add, q1 k (by omega), Nat.testBit_two_pow_mul_add _ hwj.2.2]
            · obtain ⟨rfl, h4, f4⟩ := hr
              refine sg_X5_join_169 ⟨_, rfl, ?_⟩
              rw [ho]
              exact ⟨by rw [f4.1 14 (by decide), fs.1 14 (by decide)]; exact s2, fun _ => rfl, h4, fr_trans f2 (fr_trans (fr_mono fs (by decide) (by decide) (by decide) (by decide)) (fr_mono f4 (by decide) (by decide) (by decide) (by decide)))⟩
      · rw [hc] at c
        exact out false true (by decide) (by rw [o_join, if_pos ⟨za, zb⟩, ei, ej, if_pos (by omega)]; rfl)
    · rw [decide_eq_false zb]
      exact sg_X5_join_13 (fun c => absurd rfl c) (fun _ => none fun z => zb z.2)
  · rw [decide_eq_false za]
    exact sg_X5_join_5 (fun _ => none fun z => za z.1) (fun c => absurd rfl c)
theorem m_compare {a b t : Int32} (h : MI_ A σ) : ks_M L xs mX5_compare rm_X5_compare [.ref 17, .int a, .int b, .int t] σ (pm_ (o_compare A a b t) σ) := by
  refine ks_body (by decide) (Nat.le_of_ble_eq_true rfl) ?_
  refine sg_X5_compare_0 (cs_X5_compare_2 (m_isWord h) (fun r σ1 hr => ?_))
  obtain ⟨rfl, rfl⟩ := hr
  have thr : ∀ p q : Bool, ks_W L xs mX5_compare rm_X5_compare 56 [(0, .ref 17), (1, .int a), (2, .int b), (3, .int t)] [.int (b1_ (decide (cd_ p q false false ≠ 0)))] (ui_ σ1 14 (nI (cd_ p q false false))) 0 0 (pm_ (o_compare A a b t) σ1) → ks_W L xs mX5_compare rm_X5_compare 51 [(0, .ref 17), (1, .int a), (2, .int b), (3, .int t)] [.int (b1_ q), .int (b1_ p), .ref 17] σ1 0 0 (pm_ (o_compare A a b t) σ1) := by
    intro p q K
    refine sg_X5_compare_51 (cs_X5_compare_53 (m_throwing p q false false) (fun r σ2 hr => ?_))
    obtain ⟨rfl, rfl⟩ := hr
    exact K
  have out : ∀ p q : Bool, cd_ p q false false ≠ 0 → o_compare A a b t = (cd_ p q false false, 0, A) → ks_W L xs mX5_compare rm_X5_compare 51 [(0, .ref 17), (1, .int a), (2, .int b), (3, .int t)] [.int (b1_ q), .int (b1_ p), .ref 17] σ1 0 0 (pm_ (o_compare A a b t) σ1) := by
    intro p q c eo
    refine thr p q ?_
    rw [decide_eq_true c]
    refine sg_X5_compare_56 (fun c => absurd c (by decide)) (fun c => absurd c (by decide)) (fun _ => ⟨_, rfl, ?_⟩)
    rw [eo]
    exact ⟨s14, fun d => absurd d c, MI_14 h, fm_14⟩
  have none : ¬ (ow_ A a ∧ ow_ A b) → ks_W L xs mX5_compare rm_X5_compare 16 [(0, .ref 17), (1, .int a), (2, .int b), (3, .int t)] [] σ1 0 0 (pm_ (o_compare A a b t) σ1) := fun z => by
    refine sg_X5_compare_16 ?_
    exact sg_X5_compare_21 (fun _ => sg_X5_compare_50 (out true false (by decide) (by rw [o_compare, if_neg z]; rfl))) (fun c => absurd c (by decide)) (fun c => absurd c (by decide)) (fun c => absurd c (by decide)) (fun c => absurd c (by decide))
  by_cases za : ow_ A a
  · rw [decide_eq_true za]
    refine sg_X5_compare_5 (fun c => absurd c (by decide)) (fun _ => ?_)
    refine cs_X5_compare_10 (m_isWord h) (fun r σ1 hr => ?_)
    obtain ⟨rfl, rfl⟩ := hr
    by_cases zb : ow_ A b
    · rw [decide_eq_true zb]
      refine sg_X5_compare_13 (fun _ => ?_) (fun c => absurd c (by decide))
      obtain ⟨i, hi, rfl, ei⟩ := ow_ix h.1 za
      obtain ⟨j, hj, rfl, ej⟩ := ow_ix h.1 zb
      have hwi := MI_w h hi
      have hwj := MI_w h hj
      have hc : sf_ σ1 18 (nI i).toNatClampNeg = sf_ σ1 18 (nI j).toNatClampNeg ↔ wW A i = wW A j := by rw [MI_sf h hi, MI_sf h hj]; exact nI_eq (by omega) (by omega)
      refine sg_X5_compare_21 (fun c => absurd rfl c) (fun _ => MI_in h hi) (fun _ => MI_in h hj) (fun _ c => ?_) (fun _ c => ?_)
      · rw [hc] at c
        refine sg_X5_compare_50 (thr false false ?_)
        have ho : o_compare A (nI i) (nI j) t = (0, cm_ t (wW A i) (wV A i) (wV A j), A) := by
          rw [o_compare, if_pos ⟨za, zb⟩, ei, ej, if_neg (fun z => z c)]
        clear thr out none hc
        have h2 : MI_ A (ui_ σ1 14 (nI (cd_ false false false false))) := MI_14 h
        have s2 : si_ (ui_ σ1 14 (nI (cd_ false false false false))) 14 = 0 := s14
        have f2 : fm_ σ1 (ui_ σ1 14 (nI (cd_ false false false false))) := fm_14
        generalize ui_ σ1 14 (nI (cd_ false false false false)) = σ2 at h2 s2 f2 ⊢
        refine sg_X5_compare_56 (fun _ => MI_in h hi) (fun _ => ?_) (fun c => absurd rfl c)
        rw [MI_sf h2 hi]
        have fin : ∀ r : Int32, r = cm_ t (wW A i) (wV A i) (wV A j) → pm_ (o_compare A (nI i) (nI j) t) σ1 (.inl (some (.int r))) σ2 := fun r hr => ⟨_, rfl, by
          rw [ho]; exact ⟨s2, fun _ => hr, h2, f2⟩⟩
        have eV : wV A j < 2 ^ wW A i := by rw [c]; exact hwj.2.2
        have loop : ∀ n, n ≤ wW A i → wV A i / 2 ^ n = wV A j / 2 ^ n → ks_W L xs mX5_compare rm_X5_compare 75 [(0, .ref 17), (1, .int (nI i)), (2, .int (nI j)), (3, .int t), (5, .int (nI (wW A i))), (6, .int (nI n - 1))] [] σ2 0 0 (pm_ (o_compare A (nI i) (nI j) t) σ1) := by
          intro n
          induction n with
          | zero =>
            intro _ e
            rw [Nat.pow_zero, Nat.div_one, Nat.div_one] at e
            refine sg_X5_compare_75 (fun _ => fin _ ?_) (fun c => absurd (by decide) c)
            rw [cm_, e, if_neg (fun z => z.2 rfl), if_neg (Nat.lt_irrefl _), if_pos rfl]
          | succ n ih =>
            intro hn8 e
            rw [nI_pred]
            refine sg_X5_compare_75 (fun c => absurd c (nI_pos (by omega))) (fun _ => ?_)
            refine cs_X5_compare_84 (m_bitOf h2 hi (by omega)) (fun r σ3 hr => ?_)
            obtain ⟨rfl, rfl⟩ := hr
            refine sg_X5_compare_87 (cs_X5_compare_91 (m_bitOf h2 hj (by omega)) (fun r σ4 hr => ?_))
            obtain ⟨rfl, rfl⟩ := hr
            have eq1 : nI n = nI (wW A i) - 1 ↔ n = wW A i - 1 := by
              rw [show nI (wW A i) - 1 = nI (wW A i - 1) from pk_sub (b := 1) hwi.1]
              exact nI_eq (by omega) (by omega)
            have s1 := bit_split (wV A i) n
            have s2' := bit_split (wV A j) n
            cases ha : (wV A i).testBit n <;> cases hb : (wV A j).testBit n
            · refine sg_X5_compare_94 (fun _ => ?_) (fun c => absurd (by decide) c) (fun c => absurd (by decide) c) (fun c => absurd (by decide) c)
              rw [show nI n + (-1) = nI n - 1 by rw [Int32.sub_eq_add_neg]]
              refine ih (by omega) ?_
              have d1 : ∀ Z, Z / 2 ^ n = 2 * (Z / 2 ^ (n + 1)) + (Z.testBit n).toNat := fun Z => by
                rw [Nat.testBit_eq_decide_div_mod_eq, Nat.pow_succ, ← Nat.div_div_eq_div_mul]
                rcases Nat.mod_two_eq_zero_or_one (Z / 2 ^ n) with y | y <;> simp [y] <;> omega
              rw [d1, d1, e, ha, hb]
            · have hcm := cm_lt (s := t) hwi.1 eV hwi.2.2 (n := n) (by omega) e.symm hb ha
              have hne : wV A i ≠ wV A j := fun z => by rw [z, hb] at ha; exact absurd ha (by decide)
              have hcs := cm_sw (s := t) (w := wW A i) hne
              rw [hcm] at hcs
              refine sg_X5_compare_94 (fun c => absurd c (by decide)) (fun _ d => sg_X5_compare_121 (sg_X5_compare_123 (fin _ ?_))) (fun _ d g => sg_X5_compare_121 (sg_X5_compare_123 (fin _ ?_))) (fun _ d g => sg_X5_compare_123 (fin _ ?_))
              · rw [hcs, if_neg (fun z => z.1 d)]; decide
              · rw [hcs, if_neg (fun z => g (eq1.mpr z.2))]; decide
              · rw [hcs, if_pos ⟨d, eq1.mp g⟩]; decide
            · have hcs := cm_lt (s := t) hwi.1 hwi.2.2 eV (n := n) (by omega) e ha hb
              refine sg_X5_compare_94 (fun c => absurd c (by decide)) (fun _ d => sg_X5_compare_121 (sg_X5_compare_123 (fin _ ?_))) (fun _ d g => sg_X5_compare_121 (sg_X5_compare_123 (fin _ ?_))) (fun _ d g => sg_X5_compare_123 (fin _ ?_))
              · rw [hcs, if_neg (fun z => z.1 d)]; decide
              · rw [hcs, if_neg (fun z => g (eq1.mpr z.2))]; decide
              · rw [hcs, if_pos ⟨d, eq1.mp g⟩]; decide
            · refine sg_X5_compare_94 (fun _ => ?_) (fun c => absurd (by decide) c) (fun c => absurd (by decide) c) (fun c => absurd (by decide) c)
              rw [show nI n + (-1) = nI n - 1 by rw [Int32.sub_eq_add_neg]]
              refine ih (by omega) ?_
              have d1 : ∀ Z, Z / 2 ^ n = 2 * (Z / 2 ^ (n + 1)) + (Z.testBit n).toNat := fun Z => by
                rw [Nat.testBit_eq_decide_div_mod_eq, Nat.pow_succ, ← Nat.div_div_eq_div_mul]
                rcases Nat.mod_two_eq_zero_or_one (Z / 2 ^ n) with y | y <;> simp [y] <;> omega
              rw [d1, d1, e, ha, hb]
        refine loop (wW A i) (Nat.le_refl _) ?_
        rw [Nat.div_eq_of_lt hwi.2.2, Nat.div_eq_of_lt eV]
      · rw [hc] at c
        exact out false true (by decide) (by rw [o_compare, if_pos ⟨za, zb⟩, ei, ej, if_pos c]; rfl)
    · rw [decide_eq_false zb]
      exact sg_X5_compare_13 (fun c => absurd rfl c) (fun _ => none fun z => zb z.2)
  · rw [decide_eq_false za]
    exact sg_X5_compare_5 (fun _ => none fun z => za z.1) (fun c => absurd rfl c)
end
end
