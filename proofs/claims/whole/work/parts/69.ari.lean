section
/-! ===== the reference's arithmetic, bit by bit ===== -/
def ai_ (X : Nat) (a : Bool) (i V : Nat) (c : Bool) : Prop := (∀ k, i ≤ k → V.testBit k = X.testBit k) ∧ V + 2 ^ i * c.toNat + (if a then 2 * (X % 2 ^ i) else 0) = X + (if a then 2 ^ i else 0)
theorem ai_step {X i V : Nat} {a c u : Bool} (h : ai_ X a i V c) (hu : u = (if a then !V.testBit i else V.testBit i)) : ai_ X a (i + 1) (sv_ V i (u ^^ c)) (u && c) := by
  obtain ⟨h1, h2⟩ := h
  refine ⟨fun k hk => ?_, ?_⟩
  · rw [sv_bit, if_neg (by omega)]; exact h1 k (by omega)
  · have e := sv_eq V i (u ^^ c)
    have n := ad2n u c
    have n2 : 2 ^ i * ((u ^^ c).toNat + 2 * (u && c).toNat) = 2 ^ i * (u.toNat + c.toNat) := by rw [n]
    have m := mod_up X i
    have o := h1 i (Nat.le_refl i)
    rw [← o] at m
    have p : 2 ^ (i + 1) = 2 ^ i * 2 := Nat.pow_succ ..
    rw [m, p]
    simp only [Nat.mul_add] at n2
    have q : 2 ^ i * 2 * (u && c).toNat = 2 ^ i * (2 * (u && c).toNat) := by rw [Nat.mul_assoc]
    rw [q]
    cases a
    · simp only [Bool.false_eq_true, if_false] at hu h2 ⊢
      subst hu
      omega
    · simp only [if_true] at hu h2 ⊢
      have r : 2 ^ i * u.toNat + 2 ^ i * (V.testBit i).toNat = 2 ^ i := by
        rw [hu, ← Nat.mul_add, no1n, Nat.mul_one]
      omega
theorem ai_am {X w V : Nat} {c : Bool} (hw : 1 ≤ w) (hX : X < 2 ^ w) (h : ai_ X (ng_ w X) w V c) : V = am_ w X := by
  obtain ⟨-, h2⟩ := h
  unfold am_
  rw [Nat.mod_eq_of_lt hX] at h2
  have hp := Nat.two_pow_pos (w - 1)
  have hc : 2 ^ w * c.toNat = if c then 2 ^ w else 0 := by cases c <;> simp
  rw [hc] at h2
  cases ha : ng_ w X
  · rw [ha] at h2
    simp only [Bool.false_eq_true, if_false] at h2 ⊢
    split at h2 <;> omega
  · rw [ha] at h2
    simp only [if_true] at h2 ⊢
    rw [ng_iff hw hX] at ha
    have := of_decide_eq_true ha
    split at h2 <;> omega
theorem ai_nt {X w V : Nat} {c : Bool} (h : ai_ X true w V c) : V % 2 ^ w = nt_ w X := by
  obtain ⟨-, h2⟩ := h
  simp only [if_true] at h2
  unfold nt_
  have h0 := Nat.two_pow_pos w
  have hm : X % 2 ^ w < 2 ^ w := Nat.mod_lt _ h0
  have hd := Nat.div_add_mod X (2 ^ w)
  have e : V + 2 ^ w * c.toNat = 2 ^ w * (X / 2 ^ w) + (2 ^ w - X % 2 ^ w) := by omega
  have e2 := congrArg (· % 2 ^ w) e
  simp only [Nat.add_mul_mod_self_left, Nat.mul_add_mod] at e2
  exact e2
theorem br_mod {g : Nat → Int32} {w V X : Nat} (h : br_ g w V) (e : V % 2 ^ w = X) : br_ g w X := fun k hk => by
  rw [h k hk, ← e, Nat.testBit_mod_two_pow]; simp [hk]
theorem tb_hi {V n k : Nat} (h : V < 2 ^ n) (hk : n ≤ k) : V.testBit k = false := Nat.testBit_lt_two_pow (Nat.lt_of_lt_of_le h (Nat.pow_le_pow_right (by decide) hk))
theorem p_succ (i : Nat) : 2 ^ (i + 1) = 2 ^ i * 2 := Nat.pow_succ ..
theorem tN (b : Bool) : b.toNat = if b then 1 else 0 := by cases b <;> rfl
section
variable {L : Nat} {xs : Nat → Int32} {σ : ks_St} {A : wa_}
theorem m_load {i j : Nat} (h : MI_ A σ) (hi : i < wN A) (hj : j < wN A) : ks_M L xs mX5_load rm_X5_load [.ref 17, .int (nI i), .int (nI j)] σ (pv_ fun σ' => br_ (sf_ σ' 21) 513 (wV A i) ∧ br_ (sf_ σ' 22) 513 (wV A j) ∧ br_ (sf_ σ' 23) 1026 0 ∧ fr_ [] [] [21, 22, 23] [] σ σ') := by
  refine ks_body (by decide) (Nat.le_of_ble_eq_true rfl) ?_
  have hwi := MI_w h hi
  have hwj := MI_w h hj
  refine sg_X5_load_0 ?_
  refine lp_ 513 (fun k (s : ks_St) => ks_W L xs mX5_load rm_X5_load 2 [(0, .ref 17), (1, .int (nI i)), (2, .int (nI j)), (3, .int (nI k))] [] s 0 0 (pv_ fun σ' => br_ (sf_ σ' 21) 513 (wV A i) ∧ br_ (sf_ σ' 22) 513 (wV A j) ∧ br_ (sf_ σ' 23) 1026 0 ∧ fr_ [] [] [21, 22, 23] [] σ σ'))
    (fun k s => br_ (sf_ s 21) k (wV A i) ∧ br_ (sf_ s 22) k (wV A j) ∧ fr_ [] [] [21, 22, 23] [] σ s) ?_ ?_ 0 σ (by decide) ⟨fun k hk => absurd hk (Nat.not_lt_zero k), fun k hk => absurd hk (Nat.not_lt_zero k), fr_refl _⟩
  · intro k s hk hI ih
    obtain ⟨b1, b2, fs⟩ := hI
    have h3 : MI_ A s := MI_fr h fs (by decide) (by decide)
    have c0 : ¬ (513 : Int32) ≤ nI k := nI_ge (b := 513) hk (by decide)
    have put2 : ∀ (s : ks_St) (y : Int32), br_ (sf_ s 21) (k + 1) (wV A i) → br_ (sf_ s 22) k (wV A j) → fr_ [] [] [21, 22, 23] [] σ s → y = b1_ ((wV A j).testBit k) → ks_W L xs mX5_load rm_X5_load 60 [(0, .ref 17), (1, .int (nI i)), (2, .int (nI j)), (3, .int (nI k))] [.int y, .int (nI k), .ref 22] s 0 0 (pv_ fun σ' => br_ (sf_ σ' 21) 513 (wV A i) ∧ br_ (sf_ σ' 22) 513 (wV A j) ∧ br_ (sf_ σ' 23) 1026 0 ∧ fr_ [] [] [21, 22, 23] [] σ σ') := by
      intro s y b1 b2 fs hy
      refine sg_X5_load_60 (vp_in_nI hk (by decide)) ?_
      rw [nI_1, nI_clamp (by omega)]
      refine ih _ ⟨?_, ?_, fr_trans fs (fr_uf _ _ (by decide))⟩
      · rw [sf_ne _ _ (by decide)]; exact b1
      · rw [sf_self]
        intro t ht
        by_cases e : t = k
        · rw [e, pk_us, hy]
        · rw [pk_un e]; exact b2 t (by omega)
    have put1 : ∀ (y : Int32), y = b1_ ((wV A i).testBit k) → ks_W L xs mX5_load rm_X5_load 34 [(0, .ref 17), (1, .int (nI i)), (2, .int (nI j)), (3, .int (nI k))] [.int y, .int (nI k), .ref 21] s 0 0 (pv_ fun σ' => br_ (sf_ σ' 21) 513 (wV A i) ∧ br_ (sf_ σ' 22) 513 (wV A j) ∧ br_ (sf_ σ' 23) 1026 0 ∧ fr_ [] [] [21, 22, 23] [] σ σ') := by
      intro y hy
      have f4 : fr_ [] [] [21, 22, 23] [] σ (uf_ s 21 (upd (sf_ s 21) (nI k).toNatClampNeg y)) := fr_trans fs (fr_uf _ _ (by decide))
      have h4 : MI_ A (uf_ s 21 (upd (sf_ s 21) (nI k).toNatClampNeg y)) := MI_fr h f4 (by decide) (by decide)
      have b4 : br_ (sf_ (uf_ s 21 (upd (sf_ s 21) (nI k).toNatClampNeg y)) 21) (k + 1) (wV A i) := by
        rw [sf_self, nI_clamp (by omega)]
        intro t ht
        by_cases e : t = k
        · rw [e, pk_us, hy]
        · rw [pk_un e]; exact b1 t (by omega)
      have b5 : br_ (sf_ (uf_ s 21 (upd (sf_ s 21) (nI k).toNatClampNeg y)) 22) k (wV A j) := by rw [sf_ne _ _ (by decide)]; exact b2
      have e4 := MI_sf h4 hj
      refine sg_X5_load_34 (vp_in_nI hk (by decide)) (MI_in h hj) ?_ ?_
      · intro c
        rw [e4, nI_leI (by omega) (by omega)] at c
        exact put2 _ _ b4 b5 f4 (by rw [tb_hi hwj.2.2 c]; rfl)
      · intro c
        rw [e4, nI_leI (by omega) (by omega)] at c
        refine cs_X5_load_53 (m_bitOf h4 hj (by omega)) (fun r σ3 hr => ?_)
        obtain ⟨rfl, rfl⟩ := hr
        exact sg_X5_load_56 (put2 _ _ b4 b5 f4 rfl)
    refine sg_X5_load_2 (fun c => absurd c c0) (fun _ => MI_in h hi) (fun _ c => ?_) (fun _ c => ?_)
    · rw [MI_sf h3 hi, nI_leI (by omega) (by omega)] at c
      exact put1 _ (by rw [tb_hi hwi.2.2 c]; rfl)
    · rw [MI_sf h3 hi, nI_leI (by omega) (by omega)] at c
      refine cs_X5_load_27 (m_bitOf h3 hi (by omega)) (fun r σ3 hr => ?_)
      obtain ⟨rfl, rfl⟩ := hr
      exact sg_X5_load_30 (put1 _ rfl)
  · intro s hI
    obtain ⟨b1, b2, fs⟩ := hI
    refine sg_X5_load_2 (fun _ => ?_) (fun c => absurd (by decide) c) (fun c => absurd (by decide) c) (fun c => absurd (by decide) c)
    refine lp_ 1026 (fun k (s : ks_St) => ks_W L xs mX5_load rm_X5_load 69 [(0, .ref 17), (3, .int (nI k))] [] s 0 0 (pv_ fun σ' => br_ (sf_ σ' 21) 513 (wV A i) ∧ br_ (sf_ σ' 22) 513 (wV A j) ∧ br_ (sf_ σ' 23) 1026 0 ∧ fr_ [] [] [21, 22, 23] [] σ σ'))
      (fun k s => br_ (sf_ s 21) 513 (wV A i) ∧ br_ (sf_ s 22) 513 (wV A j) ∧ br_ (sf_ s 23) k 0 ∧ fr_ [] [] [21, 22, 23] [] σ s) ?_ ?_ 0 s (by decide) ⟨b1, b2, fun k hk => absurd hk (Nat.not_lt_zero k), fs⟩
    · intro k s hk hI ih
      obtain ⟨b1, b2, b3, fs⟩ := hI
      refine sg_X5_load_69 (fun c => absurd c (nI_ge (b := 1026) hk (by decide))) (fun _ => vp_in_nI hk (by decide)) (fun _ => ?_)
      rw [nI_1, nI_clamp (by omega)]
      refine ih _ ⟨?_, ?_, ?_, fr_trans fs (fr_uf _ _ (by decide))⟩
      · rw [sf_ne _ _ (by decide)]; exact b1
      · rw [sf_ne _ _ (by decide)]; exact b2
      · rw [sf_self]
        intro t ht
        by_cases e : t = k
        · rw [e, pk_us, Nat.zero_testBit]; rfl
        · rw [pk_un e]; exact b3 t (by omega)
    · intro s hI
      exact sg_X5_load_69 (fun _ => ⟨rfl, hI⟩) (fun c => absurd (by decide) c) (fun c => absurd (by decide) c)
theorem m_amounts {X Y w : Nat} (h1 : 1 ≤ w) (hw : w ≤ 512) (bX : br_ (sf_ σ 21) 513 X) (bY : br_ (sf_ σ 22) 513 Y) (hX : X < 2 ^ w) (hY : Y < 2 ^ w) : ks_M L xs mX5_amounts rm_X5_amounts [.ref 17, .int (nI w)] σ (pv_ fun σ' => br_ (sf_ σ' 21) 513 (am_ w X) ∧ br_ (sf_ σ' 22) 513 (am_ w Y) ∧ fr_ [] [] [21, 22] [] σ σ') := by
  refine ks_body (by decide) (Nat.le_of_ble_eq_true rfl) ?_
  have e1 : nI w - 1 = nI (w - 1) := pk_sub (b := 1) h1
  have hin : vp_in (nI w - 1) 513 := by rw [e1]; exact vp_in_nI (by omega) (by decide)
  have eX : sf_ σ 21 (nI w - 1).toNatClampNeg = b1_ (ng_ w X) := by rw [e1, nI_clamp (by omega)]; exact bX _ (by omega)
  have eY : sf_ σ 22 (nI w - 1).toNatClampNeg = b1_ (ng_ w Y) := by rw [e1, nI_clamp (by omega)]; exact bY _ (by omega)
  have main : ks_W L xs mX5_amounts rm_X5_amounts 45 [(0, .ref 17), (1, .int (nI w)), (2, .int (b1_ (ng_ w X))), (3, .int (b1_ (ng_ w Y))), (4, .int (b1_ (ng_ w X))), (5, .int (b1_ (ng_ w Y))), (6, .int 0)] [] σ 0 0 (pv_ fun σ' => br_ (sf_ σ' 21) 513 (am_ w X) ∧ br_ (sf_ σ' 22) 513 (am_ w Y) ∧ fr_ [] [] [21, 22] [] σ σ') := by
    refine lp3_ w (fun i (s : ks_St) (c d : Bool) => ks_W L xs mX5_amounts rm_X5_amounts 45 [(0, .ref 17), (1, .int (nI w)), (2, .int (b1_ c)), (3, .int (b1_ d)), (4, .int (b1_ (ng_ w X))), (5, .int (b1_ (ng_ w Y))), (6, .int (nI i))] [] s 0 0 (pv_ fun σ' => br_ (sf_ σ' 21) 513 (am_ w X) ∧ br_ (sf_ σ' 22) 513 (am_ w Y) ∧ fr_ [] [] [21, 22] [] σ σ'))
      (fun i s c d => (∃ V, br_ (sf_ s 21) 513 V ∧ ai_ X (ng_ w X) i V c) ∧ (∃ V, br_ (sf_ s 22) 513 V ∧ ai_ Y (ng_ w Y) i V d) ∧ fr_ [] [] [21, 22] [] σ s) ?_ ?_ 0 σ _ _ (Nat.zero_le _) ?_
    · intro i s c d hi hI ih
      obtain ⟨⟨V, bV, aV⟩, ⟨U, bU, aU⟩, fs⟩ := hI
      have hin2 : vp_in (nI i) 513 := vp_in_nI (by omega) (by decide)
      have gV : sf_ s 21 (nI i).toNatClampNeg = b1_ (V.testBit i) := by rw [nI_clamp (by omega)]; exact bV i (by omega)
      have gU : sf_ s 22 (nI i).toNatClampNeg = b1_ (U.testBit i) := by rw [nI_clamp (by omega)]; exact bU i (by omega)
      have last : ∀ u v : Bool, u = (if ng_ w X then !V.testBit i else V.testBit i) → v = (if ng_ w Y then !U.testBit i else U.testBit i) → ks_W L xs mX5_amounts rm_X5_amounts 103 [(0, .ref 17), (1, .int (nI w)), (3, .int (b1_ d)), (4, .int (b1_ (ng_ w X))), (5, .int (b1_ (ng_ w Y))), (6, .int (nI i)), (7, .int (b1_ u + b1_ c))] [.int (b1_ v)] s 0 0 (pv_ fun σ' => br_ (sf_ σ' 21) 513 (am_ w X) ∧ br_ (sf_ σ' 22) 513 (am_ w Y) ∧ fr_ [] [] [21, 22] [] σ σ') := by
        intro u v hu hv
        refine sg_X5_amounts_103 hin2 hin2 ?_
        rw [(ad2 u c).1, (ad2 u c).2, (ad2 v d).1, (ad2 v d).2, nI_1, nI_clamp (by omega)]
        refine ih _ _ _ ⟨⟨_, ?_, ai_step aV hu⟩, ⟨_, ?_, ai_step aU hv⟩, fr_trans fs (fr_trans (fr_uf _ _ (by decide)) (fr_uf _ _ (by decide)))⟩
        · rw [sf_ne _ _ (by decide), sf_self]; exact br_set bV
        · rw [sf_self, sf_ne _ _ (by decide)]; exact br_set bU
      have mid : ∀ u : Bool, u = (if ng_ w X then !V.testBit i else V.testBit i) → ks_W L xs mX5_amounts rm_X5_amounts 75 [(0, .ref 17), (1, .int (nI w)), (2, .int (b1_ c)), (3, .int (b1_ d)), (4, .int (b1_ (ng_ w X))), (5, .int (b1_ (ng_ w Y))), (6, .int (nI i))] [.int (b1_ u)] s 0 0 (pv_ fun σ' => br_ (sf_ σ' 21) 513 (am_ w X) ∧ br_ (sf_ σ' 22) 513 (am_ w Y) ∧ fr_ [] [] [21, 22] [] σ σ') := by
        intro u hu
        refine sg_X5_amounts_75 (fun _ => hin2) (fun q => ?_) (fun _ => hin2) (fun q => ?_)
        · rw [b1_0] at q
          rw [gU]; exact last u _ hu (by rw [q]; rfl)
        · rw [b1_0] at q
          rw [gU, no1]; exact last u _ hu (by rw [eq_true_of_ne_false q]; rfl)
      have c0 : ¬ nI w ≤ nI i := nI_ge hi (by omega)
      refine sg_X5_amounts_45 (fun c => absurd c c0) (fun _ _ => hin2) (fun _ q => ?_) (fun _ _ => hin2) (fun _ q => ?_)
      · rw [b1_0] at q
        rw [gV]; exact mid _ (by rw [q]; rfl)
      · rw [b1_0] at q
        rw [gV, no1]; exact mid _ (by rw [eq_true_of_ne_false q]; rfl)
    · intro s c d hI
      obtain ⟨⟨V, bV, aV⟩, ⟨U, bU, aU⟩, fs⟩ := hI
      have cw : nI w ≤ nI w := nI_le (Nat.le_refl w) (by omega)
      refine sg_X5_amounts_45 (fun _ => ⟨rfl, ?_, ?_, fs⟩) (fun c => absurd cw c) (fun c => absurd cw c) (fun c => absurd cw c) (fun c => absurd cw c)
      · rw [← ai_am h1 hX aV]; exact bV
      · rw [← ai_am h1 hY aU]; exact bU
    · refine ⟨⟨X, bX, fun k _ => rfl, ?_⟩, ⟨Y, bY, fun k _ => rfl, ?_⟩, fr_refl _⟩
      · rw [Nat.pow_zero, Nat.mod_one]; cases ng_ w X <;> simp
      · rw [Nat.pow_zero, Nat.mod_one]; cases ng_ w Y <;> simp
  have second : ks_W L xs mX5_amounts rm_X5_amounts 28 [(0, .ref 17), (1, .int (nI w)), (2, .int (b1_ (ng_ w X))), (3, .int (b1_ (ng_ w Y)))] [.int (b1_ (ng_ w X))] σ 0 0 (pv_ fun σ' => br_ (sf_ σ' 21) 513 (am_ w X) ∧ br_ (sf_ σ' 22) 513 (am_ w Y) ∧ fr_ [] [] [21, 22] [] σ σ') := by
    refine sg_X5_amounts_28 (fun q => ?_) (fun q => ?_)
    · rw [b1_1] at q
      refine sg_X5_amounts_40 ?_
      have m' := main
      rw [show b1_ (ng_ w Y) = 0 by rw [eq_false_of_ne_true q]; rfl] at m' ⊢
      exact m'
    · refine sg_X5_amounts_40 ?_
      rw [← q]
      exact main
  refine sg_X5_amounts_0 hin hin (fun q => ?_) (fun q => ?_)
  · rw [eX, b1_1] at q
    rw [eX, eY]
    have second' := second
    rw [show b1_ (ng_ w X) = 0 by rw [eq_false_of_ne_true q]; rfl] at second' ⊢
    exact second'
  · rw [eX, b1_1] at q
    rw [eX, eY]
    have second' := second
    rw [show b1_ (ng_ w X) = 1 by rw [q]; rfl] at second' ⊢
    exact second'
theorem m_turn {O w : Nat} (hw : w ≤ 512) (bO : br_ (sf_ σ 23) 1026 O) : ks_M L xs mX5_turn rm_X5_turn [.ref 17, .int (nI w)] σ (pv_ fun σ' => br_ (sf_ σ' 23) w (nt_ w O) ∧ fr_ [] [] [23] [] σ σ') := by
  refine ks_body (by decide) (Nat.le_of_ble_eq_true rfl) ?_
  refine sg_X5_turn_0 ?_
  refine lp2_ w (fun i (s : ks_St) (c : Bool) => ks_W L xs mX5_turn rm_X5_turn 4 [(0, .ref 17), (1, .int (nI w)), (2, .int (b1_ c)), (3, .int (nI i))] [] s 0 0 (pv_ fun σ' => br_ (sf_ σ' 23) w (nt_ w O) ∧ fr_ [] [] [23] [] σ σ'))
    (fun i s c => (∃ V, br_ (sf_ s 23) 1026 V ∧ ai_ O true i V c) ∧ fr_ [] [] [23] [] σ s) ?_ ?_ 0 σ true (Nat.zero_le _) ⟨⟨O, bO, fun k _ => rfl, by simp [Nat.mod_one]⟩, fr_refl _⟩
  · intro i s c hi hI ih
    obtain ⟨⟨V, bV, aV⟩, fs⟩ := hI
    have hin : vp_in (nI i) 1026 := vp_in_nI (by omega) (by decide)
    refine sg_X5_turn_4 (fun c => absurd c (nI_ge hi (by omega))) (fun _ => hin) (fun _ => hin) (fun _ => ?_)
    have gV : sf_ s 23 (nI i).toNatClampNeg = b1_ (V.testBit i) := by rw [nI_clamp (by omega)]; exact bV i (by omega)
    rw [gV, no1, (ad2 _ c).1, (ad2 _ c).2, nI_1, nI_clamp (by omega)]
    refine ih _ _ ⟨⟨_, ?_, ai_step aV (u := !V.testBit i) rfl⟩, fr_trans fs (fr_uf _ _ (by decide))⟩
    rw [sf_self]; exact br_set bV
  · intro s c hI
    obtain ⟨⟨V, bV, aV⟩, fs⟩ := hI
    have cw : nI w ≤ nI w := nI_le (Nat.le_refl w) (by omega)
    exact sg_X5_turn_4 (fun _ => ⟨rfl, br_mod (br_less bV (by omega)) (ai_nt aV), fs⟩) (fun c => absurd cw c) (fun c => absurd cw c) (fun c => absurd cw c)
theorem m_add {X Y w : Nat} (minus : Bool) (hw : w ≤ 512) (bX : br_ (sf_ σ 21) 513 X) (bY : br_ (sf_ σ 22) 513 Y) (bO : br_ (sf_ σ 23) 1026 0) (hX : X < 2 ^ w) (hY : Y < 2 ^ w) : ks_M L xs mX5_add rm_X5_add [.ref 17, .int (nI w), .int (b1_ minus)] σ (pi_ fun r σ' => r = b1_ (if minus then decide (X < Y) else (X + Y).testBit w) ∧ br_ (sf_ σ' 23) 1026 (if minus then (2 ^ w + X - Y) % 2 ^ w else (X + Y) % 2 ^ w) ∧ fr_ [] [] [23] [] σ σ') := by
  refine ks_body (by decide) (Nat.le_of_ble_eq_true rfl) ?_
  refine sg_X5_add_0 ?_
  refine lp2_ w (fun i (s : ks_St) (c : Bool) => ks_W L xs mX5_add rm_X5_add 5 [(0, .ref 17), (1, .int (nI w)), (2, .int (b1_ minus)), (3, .int (b1_ c)), (4, .int (nI i))] [] s 0 0 (pi_ fun r σ' => r = b1_ (if minus then decide (X < Y) else (X + Y).testBit w) ∧ br_ (sf_ σ' 23) 1026 (if minus then (2 ^ w + X - Y) % 2 ^ w else (X + Y) % 2 ^ w) ∧ fr_ [] [] [23] [] σ σ'))
    (fun i s c => (∃ V, br_ (sf_ s 23) 1026 V ∧ V < 2 ^ i ∧ if minus then V + Y % 2 ^ i = X % 2 ^ i + 2 ^ i * c.toNat else V + 2 ^ i * c.toNat = X % 2 ^ i + Y % 2 ^ i) ∧ fr_ [] [] [23] [] σ s) ?_ ?_ 0 σ false (Nat.zero_le _) ⟨⟨0, bO, by decide, by cases minus <;> simp [Nat.mod_one]⟩, fr_refl _⟩
  · intro i s c hi hI ih
    obtain ⟨⟨V, bV, hV, aV⟩, fs⟩ := hI
    have hin : vp_in (nI i) 513 := vp_in_nI (by omega) (by decide)
    have gX : sf_ s 21 (nI i).toNatClampNeg = b1_ (X.testBit i) := by rw [nI_clamp (by omega), fs.2.2.1 21 (by decide)]; exact bX i (by omega)
    have gY : sf_ s 22 (nI i).toNatClampNeg = b1_ (Y.testBit i) := by rw [nI_clamp (by omega), fs.2.2.1 22 (by decide)]; exact bY i (by omega)
    have c0 : ¬ nI w ≤ nI i := nI_ge hi (by omega)
    have vb : V.testBit i = false := tb_hi hV (Nat.le_refl i)
    have hsv : ∀ b : Bool, sv_ V i b = V + 2 ^ i * b.toNat := fun b => by have := sv_eq V i b; rw [vb] at this; simpa using this
    have hm1 := mod_up X i
    have hm2 := mod_up Y i
    have next : ∀ (b c' : Bool), (if minus then sv_ V i b + Y % 2 ^ (i + 1) = X % 2 ^ (i + 1) + 2 ^ (i + 1) * c'.toNat else sv_ V i b + 2 ^ (i + 1) * c'.toNat = X % 2 ^ (i + 1) + Y % 2 ^ (i + 1)) → ks_W L xs mX5_add rm_X5_add 86 [(0, .ref 17), (1, .int (nI w)), (2, .int (b1_ minus)), (4, .int (nI i))] [.int (b1_ c')] (uf_ s 23 (upd (sf_ s 23) (nI i).toNatClampNeg (b1_ b))) 0 0 (pi_ fun r σ' => r = b1_ (if minus then decide (X < Y) else (X + Y).testBit w) ∧ br_ (sf_ σ' 23) 1026 (if minus then (2 ^ w + X - Y) % 2 ^ w else (X + Y) % 2 ^ w) ∧ fr_ [] [] [23] [] σ σ') := by
      intro b c' hb
      refine sg_X5_add_86 ?_
      rw [nI_1, nI_clamp (by omega)]
      refine ih _ _ ⟨⟨sv_ V i b, ?_, ?_, hb⟩, fr_trans fs (fr_uf _ _ (by decide))⟩
      · rw [sf_self]; exact br_set bV
      · rw [hsv, p_succ]
        cases b <;> simp <;> omega
    refine sg_X5_add_5 (fun c => absurd c c0) (fun _ _ => hin) (fun _ _ => hin) (fun _ q => ?_) (fun _ _ => hin) (fun _ _ => hin) (fun _ q => ?_)
    · rw [b1_0] at q
      subst q
      rw [gX, gY]
      refine sg_X5_add_52 (vp_in_nI (by omega) (by decide)) (fun _ => ?_) (fun c => absurd rfl c) (fun c => absurd rfl c)
      rw [(ad3 _ _ c).1, (ad3 _ _ c).2]
      refine next _ _ ?_
      simp only [Bool.false_eq_true, if_false] at aV ⊢
      have hn := ad3n (X.testBit i) (Y.testBit i) c
      have hn2 : 2 ^ i * ((X.testBit i ^^ Y.testBit i ^^ c).toNat + 2 * (X.testBit i && Y.testBit i || X.testBit i && c || Y.testBit i && c).toNat) = 2 ^ i * ((X.testBit i).toNat + (Y.testBit i).toNat + c.toNat) := by rw [hn]
      simp only [Nat.mul_add] at hn2
      rw [hsv, hm1, hm2, p_succ, Nat.mul_assoc]
      omega
    · have q' : minus = true := eq_true_of_ne_false (fun z => q (b1_0.mpr z))
      subst q'
      rw [gX, gY]
      have hsu := su3 (X.testBit i) (Y.testBit i) c
      have hn := su3n (X.testBit i) (Y.testBit i) c
      have hn2 : 2 ^ i * ((X.testBit i ^^ Y.testBit i ^^ c).toNat + (Y.testBit i).toNat + c.toNat) = 2 ^ i * ((X.testBit i).toNat + 2 * (!X.testBit i && Y.testBit i || !X.testBit i && c || Y.testBit i && c).toNat) := by rw [hn]
      simp only [Nat.mul_add] at hn2
      have goal : sv_ V i (X.testBit i ^^ Y.testBit i ^^ c) + Y % 2 ^ (i + 1) = X % 2 ^ (i + 1) + 2 ^ (i + 1) * (!X.testBit i && Y.testBit i || !X.testBit i && c || Y.testBit i && c).toNat := by
        simp only [if_true] at aV
        rw [hsv, hm1, hm2, p_succ, Nat.mul_assoc]
        omega
      refine sg_X5_add_52 (vp_in_nI (by omega) (by decide)) (fun c => absurd c (by decide)) (fun _ d => ?_) (fun _ d => ?_)
      · rw [hsu.2] at d
        rw [hsu.1]
        refine next _ false ?_
        rw [d] at goal
        simpa using goal
      · rw [hsu.2] at d
        rw [hsu.1]
        refine next _ true ?_
        rw [eq_true_of_ne_false d] at goal
        simpa using goal
  · intro s c hI
    obtain ⟨⟨V, bV, hV, aV⟩, fs⟩ := hI
    have cw : nI w ≤ nI w := nI_le (Nat.le_refl w) (by omega)
    refine sg_X5_add_5 (fun _ => ⟨_, rfl, ?_, ?_, fs⟩) (fun c => absurd cw c) (fun c => absurd cw c) (fun c => absurd cw c) (fun c => absurd cw c) (fun c => absurd cw c) (fun c => absurd cw c)
    · rw [b1_inj]
      rw [Nat.mod_eq_of_lt hX, Nat.mod_eq_of_lt hY] at aV
      cases minus
      · simp only [Bool.false_eq_true, if_false] at aV ⊢
        rw [← aV, Nat.add_comm, Nat.testBit_two_pow_mul_add _ hV, if_neg (Nat.lt_irrefl w), Nat.sub_self]
        cases c <;> rfl
      · simp only [if_true] at aV ⊢
        cases c
        · exact (decide_eq_false (by simp at aV; omega)).symm
        · exact (decide_eq_true (by simp at aV; omega)).symm
    · rw [Nat.mod_eq_of_lt hX, Nat.mod_eq_of_lt hY] at aV
      have : V = if minus then (2 ^ w + X - Y) % 2 ^ w else (X + Y) % 2 ^ w := by
        cases minus
        · simp only [Bool.false_eq_true, if_false] at aV ⊢
          rw [← aV, Nat.add_mul_mod_self_left, Nat.mod_eq_of_lt hV]
        · simp only [if_true] at aV ⊢
          rw [show 2 ^ w + X - Y = 2 ^ w - 2 ^ w * c.toNat + V by cases c <;> simp at aV ⊢ <;> omega]
          cases c
          · simp [Nat.mod_eq_of_lt hV]
          · simp [Nat.mod_eq_of_lt hV]
      rw [← this]; exact bV
end
end
