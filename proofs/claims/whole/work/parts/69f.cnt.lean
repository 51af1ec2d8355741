section
/-! ===== how many bits are 1 ===== -/
def pn_ (X : Nat) : Nat → Nat
  | 0 => 0
  | n + 1 => pn_ X n + (X.testBit n).toNat
theorem pn_add (X n : Nat) : ∀ m, pn_ X (n + m) = pn_ X n + pn_ (X / 2 ^ n) m
  | 0 => rfl
  | m + 1 => by
    show pn_ X (n + m) + (X.testBit (n + m)).toNat = pn_ X n + (pn_ (X / 2 ^ n) m + ((X / 2 ^ n).testBit m).toNat)
    rw [pn_add X n m, Nat.testBit_div_two_pow, Nat.add_comm m n, Nat.add_assoc]
theorem pn_congr {X Y : Nat} : ∀ n, (∀ k, k < n → X.testBit k = Y.testBit k) → pn_ X n = pn_ Y n
  | 0, _ => rfl
  | n + 1, h => by
    show pn_ X n + (X.testBit n).toNat = pn_ Y n + (Y.testBit n).toNat
    rw [pn_congr n (fun k hk => h k (by omega)), h n (by omega)]
theorem pn_mod (X n : Nat) : pn_ (X % 2 ^ n) n = pn_ X n := pn_congr n (fun k hk => by rw [Nat.testBit_mod_two_pow]; simp [hk])
theorem pn_le (X : Nat) : ∀ n, pn_ X n ≤ n
  | 0 => Nat.le_refl _
  | n + 1 => by
    have := pn_le X n
    show pn_ X n + (X.testBit n).toNat ≤ n + 1
    have : (X.testBit n).toNat ≤ 1 := by cases X.testBit n <;> decide
    omega
theorem pn_hi {X n : Nat} (h : X < 2 ^ n) : ∀ m, pn_ X (n + m) = pn_ X n
  | 0 => rfl
  | m + 1 => by
    show pn_ X (n + m) + (X.testBit (n + m)).toNat = pn_ X n
    rw [pn_hi h m, Nat.testBit_lt_two_pow (Nat.lt_of_lt_of_le h (Nat.pow_le_pow_right (by decide) (by omega)))]; rfl
def f1_ (M X : Nat) : Nat := X - (X / 2 &&& M)
def f2_ (M X : Nat) : Nat := (X &&& M) + (X / 4 &&& M)
def f4_ (M X : Nat) : Nat := X + X / 16 &&& M
theorem and_cut {a b c d : Nat} (hb : b < 256) (hd : d < 256) : (256 * a + b) &&& (256 * c + d) = 256 * (a &&& c) + (b &&& d) := by
  have hbd : b &&& d < 2 ^ 8 := Nat.lt_of_le_of_lt Nat.and_le_left hb
  apply Nat.eq_of_testBit_eq
  intro k
  rw [Nat.testBit_and, show (256 : Nat) = 2 ^ 8 from rfl, Nat.testBit_two_pow_mul_add _ hb, Nat.testBit_two_pow_mul_add _ hd, Nat.testBit_two_pow_mul_add _ hbd]
  split
  · rw [Nat.testBit_and]
  · rw [Nat.testBit_and]
theorem low_1 : ∀ y, y < 256 → ∀ r, r < 2 → (r * 128 + y / 2) &&& 85 = y / 2 &&& 85 := by decide +kernel
theorem low_2 : ∀ y, y < 256 → ∀ r, r < 4 → (r * 64 + y / 4) &&& 51 = y / 4 &&& 51 := by decide +kernel
theorem low_4 : ∀ y, y < 69 → ∀ r, r < 5 → (y + (r * 16 + y / 16)) &&& 15 = (y + y / 16) &&& 15 := by decide +kernel
theorem f1_cut (M q : Nat) {y : Nat} (hy : y < 256) : f1_ (256 * M + 85) (256 * q + y) = 256 * f1_ M q + f1_ 85 y := by
  unfold f1_
  have e : (256 * q + y) / 2 = 256 * (q / 2) + (q % 2 * 128 + y / 2) := by omega
  rw [e, and_cut (by omega) (by decide), low_1 y hy _ (Nat.mod_lt _ (by decide))]
  have h1 : q / 2 &&& M ≤ q / 2 := Nat.and_le_left
  have h2 : y / 2 &&& 85 ≤ y / 2 := Nat.and_le_left
  rw [Nat.mul_sub]
  omega
theorem f2_cut (M q : Nat) {y : Nat} (hy : y < 256) : f2_ (256 * M + 51) (256 * q + y) = 256 * f2_ M q + f2_ 51 y := by
  unfold f2_
  have e : (256 * q + y) / 4 = 256 * (q / 4) + (q % 4 * 64 + y / 4) := by omega
  rw [e, and_cut (by omega) (by decide), and_cut (by omega) (by decide), low_2 y hy _ (Nat.mod_lt _ (by decide)), Nat.mul_add]
  omega
theorem f4_cut (M q : Nat) {y : Nat} (hy : y < 69) (hq : q % 16 < 5) : f4_ (256 * M + 15) (256 * q + y) = 256 * f4_ M q + f4_ 15 y := by
  unfold f4_
  have e : 256 * q + y + (256 * q + y) / 16 = 256 * (q + q / 16) + (y + (q % 16 * 16 + y / 16)) := by omega
  rw [e, and_cut (by omega) (by decide), low_4 y hy _ hq]
def m1_ : Nat → Nat
  | 0 => 0
  | n + 1 => 256 * m1_ n + 85
def m2_ : Nat → Nat
  | 0 => 0
  | n + 1 => 256 * m2_ n + 51
def m4_ : Nat → Nat
  | 0 => 0
  | n + 1 => 256 * m4_ n + 15
theorem t8_ok : ∀ y, y < 256 → f1_ 85 y < 256 ∧ f2_ 51 (f1_ 85 y) < 69 ∧ f2_ 51 (f1_ 85 y) % 16 < 5 ∧ f4_ 15 (f2_ 51 (f1_ 85 y)) = pn_ y 8 := by decide +kernel
theorem ft_cut (n q : Nat) {y : Nat} (hy : y < 256) : f2_ (m2_ (n + 1)) (f1_ (m1_ (n + 1)) (256 * q + y)) = 256 * f2_ (m2_ n) (f1_ (m1_ n) q) + f2_ 51 (f1_ 85 y) := by
  rw [m1_, m2_, f1_cut _ _ hy, f2_cut _ _ (t8_ok y hy).1]
theorem ft_low (n q : Nat) : f2_ (m2_ n) (f1_ (m1_ n) q) % 16 < 5 := by
  cases n with
  | zero => simp [m2_, f2_]
  | succ n =>
    have hy : q % 256 < 256 := Nat.mod_lt _ (by decide)
    have e : q = 256 * (q / 256) + q % 256 := by omega
    rw [e, ft_cut n _ hy]
    have := (t8_ok _ hy).2.2.1
    omega
def fv_ (n X : Nat) : Nat := f4_ (m4_ n) (f2_ (m2_ n) (f1_ (m1_ n) X))
theorem fv_cut (n X : Nat) : fv_ (n + 1) X = 256 * fv_ n (X / 256) + pn_ (X % 256) 8 := by
  have hy : X % 256 < 256 := Nat.mod_lt _ (by decide)
  have e : X = 256 * (X / 256) + X % 256 := by omega
  unfold fv_
  conv => lhs; rw [e]
  rw [ft_cut n _ hy, m4_, f4_cut _ _ (t8_ok _ hy).2.1 (ft_low n _), (t8_ok _ hy).2.2.2]
theorem fv_0 (X : Nat) : fv_ 0 X = 0 := by simp [fv_, f4_, m4_]
theorem pn_8 (X n : Nat) : pn_ X (8 * (n + 1)) = pn_ (X % 256) 8 + pn_ (X / 256) (8 * n) := by
  rw [show 8 * (n + 1) = 8 + 8 * n by omega, pn_add X 8, show (256 : Nat) = 2 ^ 8 from rfl, pn_mod]
theorem fv_sum (X : Nat) : (fv_ 8 X + fv_ 8 X / 256 + (fv_ 8 X + fv_ 8 X / 256) / 65536 + (fv_ 8 X + fv_ 8 X / 256 + (fv_ 8 X + fv_ 8 X / 256) / 65536) / 4294967296) % 128 = pn_ X 64 ∧ fv_ 8 X < 2 ^ 60 := by
  have a0 := fv_cut 7 X
  have b0 : pn_ X 64 = _ := pn_8 X 7
  have c0 := pn_le (X % 256) 8
  generalize X / 256 = X1 at *
  have a1 := fv_cut 6 X1
  have b1 : pn_ X1 (8 * 7) = _ := pn_8 X1 6
  have c1 := pn_le (X1 % 256) 8
  generalize X1 / 256 = X2 at *
  have a2 := fv_cut 5 X2
  have b2 : pn_ X2 (8 * 6) = _ := pn_8 X2 5
  have c2 := pn_le (X2 % 256) 8
  generalize X2 / 256 = X3 at *
  have a3 := fv_cut 4 X3
  have b3 : pn_ X3 (8 * 5) = _ := pn_8 X3 4
  have c3 := pn_le (X3 % 256) 8
  generalize X3 / 256 = X4 at *
  have a4 := fv_cut 3 X4
  have b4 : pn_ X4 (8 * 4) = _ := pn_8 X4 3
  have c4 := pn_le (X4 % 256) 8
  generalize X4 / 256 = X5 at *
  have a5 := fv_cut 2 X5
  have b5 : pn_ X5 (8 * 3) = _ := pn_8 X5 2
  have c5 := pn_le (X5 % 256) 8
  generalize X5 / 256 = X6 at *
  have a6 := fv_cut 1 X6
  have b6 : pn_ X6 (8 * 2) = _ := pn_8 X6 1
  have c6 := pn_le (X6 % 256) 8
  generalize X6 / 256 = X7 at *
  have a7 := fv_cut 0 X7
  have b7 : pn_ X7 (8 * 1) = _ := pn_8 X7 0
  have c7 := pn_le (X7 % 256) 8
  rw [fv_0] at a7
  have b8 : pn_ (X7 / 256) (8 * 0) = 0 := rfl
  simp only [Nat.reduceAdd] at *
  have h1 : fv_ 8 X / 256 = fv_ 7 X1 := by omega
  have h2 : (fv_ 8 X + fv_ 7 X1) / 65536 = fv_ 6 X2 + fv_ 5 X3 := by omega
  have h3 : (fv_ 8 X + fv_ 7 X1 + (fv_ 6 X2 + fv_ 5 X3)) / 4294967296 = fv_ 4 X4 + fv_ 3 X5 + fv_ 2 X6 + fv_ 1 X7 := by omega
  rw [h1, h2, h3]
  clear h1 h2 h3
  omega
theorem m1_8 : m1_ 8 = 6148914691236517205 := by decide
theorem m2_8 : m2_ 8 = 3689348814741910323 := by decide
theorem m4_8 : m4_ 8 = 1085102592571150095 := by decide
end
section
def k1_ (x : Int64) : Int64 := x - (km_ush x 1 &&& 6148914691236517205)
def k2_ (x : Int64) : Int64 := (x &&& 3689348814741910323) + (km_ush x 2 &&& 3689348814741910323)
def k4_ (x : Int64) : Int64 := (x + km_ush x 4) &&& 1085102592571150095
def k8_ (x : Int64) : Int64 := x + km_ush x 8
def k16_ (x : Int64) : Int64 := x + km_ush x 16
def k32_ (x : Int64) : Int64 := x + km_ush x 32
theorem un_k1 (x : Int64) : un_ (k1_ x) = f1_ (m1_ 8) (un_ x) := by
  have hu : un_ (km_ush x 1 &&& 6148914691236517205) = un_ x / 2 &&& m1_ 8 := by
    rw [un_and, show km_ush x 1 = km_ush x (nI 1) from rfl, un_kush x (by decide), m1_8]; rfl
  have hl := un_lt x
  have h1 : un_ x / 2 &&& m1_ 8 ≤ un_ x / 2 := Nat.and_le_left
  unfold k1_ f1_
  rw [un_sub, hu]
  omega
theorem un_k2 (x : Int64) : un_ (k2_ x) = f2_ (m2_ 8) (un_ x) ∧ un_ (k2_ x) ≤ 2 * 3689348814741910323 := by
  have hu : un_ (km_ush x 2 &&& 3689348814741910323) = un_ x / 4 &&& m2_ 8 := by
    rw [un_and, show km_ush x 2 = km_ush x (nI 2) from rfl, un_kush x (by decide), m2_8]; rfl
  have hv : un_ (x &&& 3689348814741910323) = un_ x &&& m2_ 8 := by rw [un_and, m2_8]; rfl
  have h1 : un_ x / 4 &&& m2_ 8 ≤ m2_ 8 := Nat.and_le_right
  have h2 : un_ x &&& m2_ 8 ≤ m2_ 8 := Nat.and_le_right
  unfold k2_ f2_
  rw [un_add, hu, hv]
  rw [m2_8] at *
  omega
theorem un_k4 {x : Int64} (hx : un_ x ≤ 2 * 3689348814741910323) : un_ (k4_ x) = f4_ (m4_ 8) (un_ x) := by
  have hu : un_ (x + km_ush x 4) = un_ x + un_ x / 16 := by
    rw [un_add, show km_ush x 4 = km_ush x (nI 4) from rfl, un_kush x (by decide)]
    omega
  unfold k4_ f4_
  rw [un_and, hu, m4_8]; rfl
theorem un_k8 {x : Int64} (hx : un_ x < 2 ^ 60) : un_ (k8_ x) = un_ x + un_ x / 256 := by
  unfold k8_
  rw [un_add, show km_ush x 8 = km_ush x (nI 8) from rfl, un_kush x (by decide)]
  omega
theorem un_k16 {x : Int64} (hx : un_ x < 2 ^ 61) : un_ (k16_ x) = un_ x + un_ x / 65536 := by
  unfold k16_
  rw [un_add, show km_ush x 16 = km_ush x (nI 16) from rfl, un_kush x (by decide)]
  omega
theorem un_k32 {x : Int64} (hx : un_ x < 2 ^ 62) : un_ (k32_ x) = un_ x + un_ x / 4294967296 := by
  unfold k32_
  rw [un_add, show km_ush x 32 = km_ush x (nI 32) from rfl, un_kush x (by decide)]
  omega
theorem bit_count (x : Int64) : (k32_ (k16_ (k8_ (k4_ (k2_ (k1_ x)))))).toInt32 &&& 127 = nI (pn_ (un_ x) 64) := by
  have h2 := un_k2 (k1_ x)
  have h4 := un_k4 h2.2
  rw [h2.1, un_k1] at h4
  have h4' : un_ (k4_ (k2_ (k1_ x))) = fv_ 8 (un_ x) := h4
  have hs := fv_sum (un_ x)
  generalize k4_ (k2_ (k1_ x)) = c at *
  have h8 := un_k8 (x := c) (by rw [h4']; exact hs.2)
  have h16 := un_k16 (x := k8_ c) (by rw [h8, h4']; omega)
  have h32 := un_k32 (x := k16_ (k8_ c)) (by rw [h16, h8, h4']; omega)
  rw [h16, h8, h4'] at h32
  rw [← un_of (k32_ _), h32, lN_i, pk_and _ (m := 127) 7 (by decide)]
  congr 1
  rw [← hs.1]
  generalize fv_ 8 (un_ x) + fv_ 8 (un_ x) / 256 + (fv_ 8 (un_ x) + fv_ 8 (un_ x) / 256) / 65536 + (fv_ 8 (un_ x) + fv_ 8 (un_ x) / 256 + (fv_ 8 (un_ x) + fv_ 8 (un_ x) / 256) / 65536) / 4294967296 = F
  have : (nI F).toBitVec.toNat = F % 2 ^ 32 := by
    show (BitVec.ofNat 32 F).toNat = _
    rw [BitVec.toNat_ofNat]
  rw [this]
  omega
section
variable {L : Nat} {xs : Nat → Int32} {σ : ks_St} {A : wa_}
theorem c_bitCount {x : Int64} : ks_M L xs mJ13_bitCount_95d88 rm_J13_bitCount_95d88 [.long x] σ (pi_ fun r σ' => r = nI (pn_ (un_ x) 64) ∧ σ' = σ) := by
  refine ks_bodyF pf_bitCount rfl (Nat.le_of_ble_eq_true rfl) ?_
  exact sg_J13_bitCount_95d88_0 ⟨_, rfl, bit_count x, rfl⟩
def o_count (A : wa_) (x : Int32) : Nat × Int32 × wa_ := if ow_ A x then (0, nI (pn_ (wV A x.toNatClampNeg) (wW A x.toNatClampNeg)), A) else (1, 0, A)
theorem c_count {x : Int32} (h : CI_ A σ) : ks_M L xs mX4_count rm_X4_count [.ref 0, .int x] σ (pc_ en_ (o_count A x) σ) := by
  refine ks_body (by decide) (Nat.le_of_ble_eq_true rfl) ?_
  refine sg_X4_count_0 (cs_X4_count_2 (mc := 0) (ms := 0) (c_requireWord h) (fun E σ' z => ?_) (fun σ1 e => ?_))
  · obtain ⟨rfl, rfl, z⟩ := z
    refine Or.inr ⟨_, rfl, ?_⟩
    rw [o_count, if_neg z]
    exact ⟨Nat.succ_ne_zero _, rfl, h, fr_refl _⟩
  · obtain ⟨rfl, z⟩ := e
    obtain ⟨j, hj, rfl, ej⟩ := ow_ix h.1 z
    have hw := CI_w h hj
    have hn := CI_n h
    have rj := (h.2.2.2.1 j hj).2
    refine sg_X4_count_5 ?_
    have loop : ∀ d n, n + d = 8 → ks_W L xs mX4_count rm_X4_count 9 [(0, .ref 0), (1, .int (nI j)), (2, .int (nI (pn_ (wV A j) (64 * n)))), (3, .int (nI n))] [] σ1 0 0 (pc_ en_ (o_count A (nI j)) σ1) := by
      intro d
      induction d with
      | zero =>
        intro n e
        obtain rfl : n = 8 := by omega
        refine sg_X4_count_9 (fun _ => Or.inl ⟨_, rfl, ?_⟩) (fun c => absurd (by decide) c) (fun c => absurd (by decide) c)
        rw [o_count, if_pos z, ej]
        refine ⟨rfl, ?_, h, fr_refl _⟩
        show nI (pn_ (wV A j) 512) = nI (pn_ (wV A j) (wW A j))
        have := pn_hi hw.2.2 (512 - wW A j)
        rw [show wW A j + (512 - wW A j) = 512 by omega] at this
        rw [this]
      | succ d ih =>
        intro n e
        have ei : nI j * 8 + nI n = nI (8 * j + n) := by rw [show nI j * 8 = nI (j * 8) from pk_mul j 8, nI_add, Nat.mul_comm]
        have c0 : ¬ (8 : Int32) ≤ nI n := nI_ge (b := 8) (by omega) (by decide)
        refine sg_X4_count_9 (fun c => absurd c c0) (fun _ => by rw [ei]; exact vp_in_nI (by omega) (by decide)) (fun _ => ?_)
        refine cs_X4_count_27 c_bitCount (fun r σ2 hr => ?_)
        obtain ⟨rfl, rfl⟩ := hr
        refine sg_X4_count_30 ?_
        have hu : un_ (sg_ σ2 2 (nI j * 8 + nI n).toNatClampNeg) = wV A j / 2 ^ (64 * n) % 2 ^ 64 := by rw [ei, nI_clamp (by omega)]; exact rj.2 n (by omega)
        rw [hu, nI_add, nI_1, pn_mod, ← pn_add, show 64 * n + 64 = 64 * (n + 1) by omega]
        exact ih (n + 1) (by omega)
    exact loop 8 0 rfl
theorem m_count {x : Int32} (h : MI_ A σ) : ks_M L xs mX5_count rm_X5_count [.ref 17, .int x] σ (pm_ (o_count A x) σ) := by
  refine ks_body (by decide) (Nat.le_of_ble_eq_true rfl) ?_
  refine sg_X5_count_0 (cs_X5_count_3 (m_isWord h) (fun r σ1 hr => ?_))
  obtain ⟨rfl, rfl⟩ := hr
  by_cases z : ow_ A x
  · rw [decide_eq_true z]
    refine sg_X5_count_6 (fun _ => ?_) (fun c => absurd c (by decide))
    refine sg_X5_count_14 (cs_X5_count_17 (m_throwing false false false false) (fun r σ2 hr => ?_))
    obtain ⟨rfl, rfl⟩ := hr
    refine sg_X5_count_20 (fun _ => ?_) (fun c => absurd rfl c)
    obtain ⟨j, hj, rfl, ej⟩ := ow_ix h.1 z
    have hw := MI_w h hj
    have h2 : MI_ A (ui_ σ1 14 (nI (cd_ false false false false))) := MI_14 h
    have s2 : si_ (ui_ σ1 14 (nI (cd_ false false false false))) 14 = 0 := s14
    have f2 : fm_ σ1 (ui_ σ1 14 (nI (cd_ false false false false))) := fm_14
    generalize ui_ σ1 14 (nI (cd_ false false false false)) = σ2 at h2 s2 f2 ⊢
    have loop : ∀ d n, n + d = wW A j → ks_W L xs mX5_count rm_X5_count 29 [(0, .ref 17), (1, .int (nI j)), (2, .int (nI (pn_ (wV A j) n))), (3, .int (nI n))] [] σ2 0 0 (pm_ (o_count A (nI j)) σ1) := by
      intro d
      induction d with
      | zero =>
        intro n e
        obtain rfl : n = wW A j := by omega
        have yes : sf_ σ2 18 (nI j).toNatClampNeg ≤ nI (wW A j) := by rw [MI_sf h2 hj]; exact nI_le (Nat.le_refl _) (by omega)
        refine sg_X5_count_29 (MI_in h hj) (fun _ => ⟨_, rfl, ?_⟩) (fun c => absurd yes c)
        rw [o_count, if_pos z, ej]
        exact ⟨s2, fun _ => rfl, h2, f2⟩
      | succ d ih =>
        intro n e
        have no : ¬ sf_ σ2 18 (nI j).toNatClampNeg ≤ nI n := by rw [MI_sf h2 hj, nI_leI (by omega) (by omega)]; omega
        refine sg_X5_count_29 (MI_in h hj) (fun c => absurd c no) (fun _ => ?_)
        refine cs_X5_count_43 (m_bitOf h2 hj (by omega)) (fun r σ3 hr => ?_)
        obtain ⟨rfl, rfl⟩ := hr
        refine sg_X5_count_46 ?_
        rw [show b1_ ((wV A j).testBit n) = nI ((wV A j).testBit n).toNat by cases (wV A j).testBit n <;> rfl, nI_add, nI_1]
        exact ih (n + 1) (by omega)
    exact loop (wW A j) 0 (by omega)
  · rw [decide_eq_false z]
    refine sg_X5_count_6 (fun c => absurd rfl c) (fun _ => ?_)
    refine sg_X5_count_14 (cs_X5_count_17 (m_throwing true false false false) (fun r σ2 hr => ?_))
    obtain ⟨rfl, rfl⟩ := hr
    refine sg_X5_count_20 (fun c => absurd c (by decide)) (fun _ => ⟨_, rfl, ?_⟩)
    rw [o_count, if_neg z]
    exact ⟨s14, fun c => absurd c (Nat.succ_ne_zero _), MI_14 h, fm_14⟩
end
end
