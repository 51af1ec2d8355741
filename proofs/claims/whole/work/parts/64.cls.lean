section
/-! ===== the words in numbers; what the class's state says of them ===== -/
abbrev wa_ : Type := Nat × Nat × (Nat → Nat) × (Nat → Nat) × (Bool × Bool × Bool × Bool) × Nat
def wZ (A : wa_) : Nat := A.1
def wN (A : wa_) : Nat := A.2.1
def wW (A : wa_) : Nat → Nat := A.2.2.1
def wV (A : wa_) : Nat → Nat := A.2.2.2.1
def wF (A : wa_) : Bool × Bool × Bool × Bool := A.2.2.2.2.1
def wR (A : wa_) : Nat := A.2.2.2.2.2
/-- a new word; other flags; other flags of the latest number with a point; another number of a word -/
def wp_ (A : wa_) (w v : Nat) : wa_ := (wZ A, wN A + 1, (fun j => if j = wN A then w else wW A j), (fun j => if j = wN A then v else wV A j), wF A, wR A)
def wf_ (A : wa_) (F : Bool × Bool × Bool × Bool) : wa_ := (wZ A, wN A, wW A, wV A, F, wR A)
def wr_ (A : wa_) (r : Nat) : wa_ := (wZ A, wN A, wW A, wV A, wF A, r)
def ws_ (A : wa_) (i v : Nat) : wa_ := (wZ A, wN A, wW A, (fun j => if j = i then v else wV A j), wF A, wR A)
def wo_ (A : wa_) : Prop := (1 ≤ wZ A ∧ wZ A ≤ 512) ∧ wN A ≤ 600 ∧ ∀ j, j < wN A → 1 ≤ wW A j ∧ wW A j ≤ 512 ∧ wV A j < 2 ^ wW A j
theorem wo_p {A : wa_} {w v : Nat} (h : wo_ A) (hn : wN A < 600) (h1 : 1 ≤ w) (h2 : w ≤ 512) (hv : v < 2 ^ w) : wo_ (wp_ A w v) := by
  refine ⟨h.1, hn, fun j hj => ?_⟩
  show 1 ≤ (if j = wN A then w else wW A j) ∧ (if j = wN A then w else wW A j) ≤ 512 ∧ (if j = wN A then v else wV A j) < 2 ^ (if j = wN A then w else wW A j)
  by_cases e : j = wN A
  · simp only [if_pos e]; exact ⟨h1, h2, hv⟩
  · simp only [if_neg e]
    have : j < wN A + 1 := hj
    exact h.2.2 j (by omega)
theorem wo_f {A : wa_} {F : Bool × Bool × Bool × Bool} (h : wo_ A) : wo_ (wf_ A F) := h
theorem wo_r {A : wa_} {r : Nat} (h : wo_ A) : wo_ (wr_ A r) := h
theorem wo_s {A : wa_} {i v : Nat} (h : wo_ A) (hv : v < 2 ^ wW A i) : wo_ (ws_ A i v) := by
  refine ⟨h.1, h.2.1, fun j hj => ?_⟩
  obtain ⟨a, b, c⟩ := h.2.2 j hj
  refine ⟨a, b, ?_⟩
  show (if j = i then v else wV A j) < 2 ^ wW A j
  by_cases e : j = i
  · rw [if_pos e, e]; exact hv
  · rw [if_neg e]; exact c
/-- a word's number -/
abbrev ow_ (A : wa_) (x : Int32) : Prop := ¬ x < 0 ∧ x < nI (wN A)
theorem ow_ix {A : wa_} {x : Int32} (h : wo_ A) (hx : ow_ A x) : ∃ j, j < wN A ∧ x = nI j ∧ x.toNatClampNeg = j := by
  obtain ⟨j, hj, rfl⟩ := nI_of hx.1
  have hn := h.2.1
  exact ⟨j, (nI_ltI hj (by omega)).mp hx.2, rfl, nI_clamp hj⟩
theorem ow_of {A : wa_} {j : Nat} (h : wo_ A) (hj : j < wN A) : ow_ A (nI j) := by
  have hn := h.2.1
  exact ⟨nI_pos (by omega), nI_lt hj (by omega)⟩
def CI_ (A : wa_) (σ : ks_St) : Prop := wo_ A ∧ si_ σ 0 = nI (wZ A) ∧ si_ σ 1 = nI (wN A) ∧ (∀ j, j < wN A → sf_ σ 1 j = nI (wW A j) ∧ rw_ (fun k => sg_ σ 2 (8 * j + k)) 8 (wV A j)) ∧
  (si_ σ 2 = b1_ (wF A).1 ∧ si_ σ 3 = b1_ (wF A).2.1 ∧ si_ σ 4 = b1_ (wF A).2.2.1 ∧ si_ σ 5 = b1_ (wF A).2.2.2) ∧ si_ σ 7 = nI (wR A)
/-- what a call of the class may change -/
def fc_ (σ σ' : ks_St) : Prop := fr_ [1, 2, 3, 4, 5, 6, 7, 8, 9, 10, 11, 12, 13] [0, 1] [1] [2, 3, 4, 5, 8, 9, 10, 11, 12, 13, 14, 15] σ σ'
theorem CI_fr {A : wa_} {σ σ' : ks_St} {I J F G : List Nat} (h : CI_ A σ) (f : fr_ I J F G σ σ') (h0 : ∀ k ∈ [0, 1, 2, 3, 4, 5, 7], k ∉ I) (h1 : 1 ∉ F) (h2 : 2 ∉ G) : CI_ A σ' := by
  obtain ⟨a0, a1, a2, a3, ⟨b0, b1, b2, b3⟩, a4⟩ := h
  have e : ∀ k, k ∈ [0, 1, 2, 3, 4, 5, 7] → si_ σ' k = si_ σ k := fun k hk => f.1 k (h0 k hk)
  refine ⟨a0, (e 0 (by decide)).trans a1, (e 1 (by decide)).trans a2, fun j hj => ?_, ⟨(e 2 (by decide)).trans b0, (e 3 (by decide)).trans b1, (e 4 (by decide)).trans b2, (e 5 (by decide)).trans b3⟩, (e 7 (by decide)).trans a4⟩
  rw [f.2.2.1 1 h1, f.2.2.2 2 h2]
  exact a3 j hj
/-- how a call ends: its code (0: it answers), its answer, the words afterwards -/
def pc_ (en : Nat → String) (o : Nat × Int32 × wa_) (σ : ks_St) : ka_O → ks_St → Prop :=
  px_ (pi_ fun r σ' => o.1 = 0 ∧ r = o.2.1 ∧ CI_ o.2.2 σ' ∧ fc_ σ σ') (fun E σ' => o.1 ≠ 0 ∧ E = en o.1 ∧ CI_ o.2.2 σ' ∧ fc_ σ σ')
def en_ : Nat → String
  | 1 => "java/lang/ArrayIndexOutOfBoundsException"
  | 2 => "java/lang/IllegalArgumentException"
  | _ => "java/lang/ArithmeticException"
def ef_ : Nat → String := fun _ => "java/lang/IllegalArgumentException"
section
variable {L : Nat} {xs : Nat → Int32} {σ : ks_St} {A : wa_}
theorem CI_n (h : CI_ A σ) : wN A ≤ 600 := h.1.2.1
theorem CI_w (h : CI_ A σ) {j : Nat} (hj : j < wN A) : 1 ≤ wW A j ∧ wW A j ≤ 512 ∧ wV A j < 2 ^ wW A j := h.1.2.2 j hj
theorem CI_sf (h : CI_ A σ) {j : Nat} (hj : j < wN A) : sf_ σ 1 (nI j).toNatClampNeg = nI (wW A j) := by
  have := CI_n h
  rw [nI_clamp (by omega)]; exact (h.2.2.2.1 j hj).1
theorem CI_in (h : CI_ A σ) {j : Nat} (hj : j < wN A) : vp_in (nI j) 600 := vp_in_nI (by have := CI_n h; omega) (by decide)
theorem c_requireWord {x : Int32} (h : CI_ A σ) : ks_M L xs mX4_requireWord rm_X4_requireWord [.ref 0, .int x] σ (px_ (pv_ fun σ' => σ' = σ ∧ ow_ A x) (fun E σ' => E = en_ 1 ∧ σ' = σ ∧ ¬ ow_ A x)) := by
  refine ks_body (by decide) (Nat.le_of_ble_eq_true rfl) ?_
  have e : si_ σ 1 = nI (wN A) := h.2.2.1
  refine sg_X4_requireWord_0 (fun c => ?_) (fun c d => Or.inl ⟨rfl, rfl, c, e ▸ d⟩) (fun c d => ?_)
  · exact sg_X4_requireWord_12 (Nat.le_refl 1) (Nat.le_refl 6) (Or.inr ⟨_, rfl, rfl, rfl, fun z => z.1 c⟩)
  · exact sg_X4_requireWord_12 (Nat.le_refl 1) (Nat.le_refl 6) (Or.inr ⟨_, rfl, rfl, rfl, fun z => d (e ▸ z.2)⟩)
theorem c_requireKind {x y : Int32} : ks_M L xs mX4_requireKind rm_X4_requireKind [.ref 0, .int x, .int y] σ (px_ (pv_ fun σ' => σ' = σ ∧ ¬ x < 0 ∧ x ≤ y) (fun E σ' => E = en_ 2 ∧ σ' = σ ∧ ¬ (¬ x < 0 ∧ x ≤ y))) := by
  refine ks_body (by decide) (Nat.le_of_ble_eq_true rfl) ?_
  refine ka_sub [1, 2] rfl (sg_X4_requireKind_0 (fun c => ?_) (fun c d => Or.inl ⟨rfl, rfl, c, d⟩) (fun c d => ?_))
  · exact sg_X4_requireKind_9 (Nat.le_refl 1) (Nat.le_refl 6) (Or.inr ⟨_, rfl, rfl, rfl, fun z => z.1 c⟩)
  · exact sg_X4_requireKind_9 (Nat.le_refl 1) (Nat.le_refl 6) (Or.inr ⟨_, rfl, rfl, rfl, fun z => d z.2⟩)
theorem c_requireOneWidth {i j : Nat} (h : CI_ A σ) (hi : i < wN A) (hj : j < wN A) : ks_M L xs mX4_requireOneWidth rm_X4_requireOneWidth [.ref 0, .int (nI i), .int (nI j)] σ (px_ (pv_ fun σ' => σ' = σ ∧ wW A i = wW A j) (fun E σ' => E = en_ 2 ∧ σ' = σ ∧ wW A i ≠ wW A j)) := by
  refine ks_body (by decide) (Nat.le_of_ble_eq_true rfl) ?_
  have hwi := CI_w h hi
  have hwj := CI_w h hj
  refine sg_X4_requireOneWidth_0 (Nat.le_refl 1) (Nat.le_refl 6) (CI_in h hi) (CI_in h hj) (fun c => ?_) (fun c => ?_)
  · rw [CI_sf h hi, CI_sf h hj, nI_eq (by omega) (by omega)] at c
    exact Or.inl ⟨rfl, rfl, c⟩
  · rw [CI_sf h hi, CI_sf h hj, nI_eq (by omega) (by omega)] at c
    exact Or.inr ⟨_, rfl, rfl, rfl, c⟩
/-- a limb's number -/
abbrev ol_ (A : wa_) (j : Nat) (k : Int32) : Prop := ¬ k < 0 ∧ 64 * k.toNatClampNeg < wW A j
theorem c_requireLimb {j : Nat} {k : Int32} (h : CI_ A σ) (hj : j < wN A) : ks_M L xs mX4_requireLimb rm_X4_requireLimb [.ref 0, .int (nI j), .int k] σ (px_ (pv_ fun σ' => σ' = σ ∧ ol_ A j k) (fun E σ' => E = en_ 1 ∧ σ' = σ ∧ ¬ ol_ A j k)) := by
  refine ks_body (by decide) (Nat.le_of_ble_eq_true rfl) ?_
  have hw := CI_w h hj
  have thr : ¬ ol_ A j k → ks_W L xs mX4_requireLimb rm_X4_requireLimb 23 [] [] σ 1 6 (px_ (pv_ fun σ' => σ' = σ ∧ ol_ A j k) (fun E σ' => E = en_ 1 ∧ σ' = σ ∧ ¬ ol_ A j k)) := fun z => sg_X4_requireLimb_23 (Nat.le_refl 1) (Nat.le_refl 6) (Or.inr ⟨_, rfl, rfl, rfl, z⟩)
  have key : ¬ k < 0 → ¬ 8 ≤ k → ((k * 64 < sf_ σ 1 (nI j).toNatClampNeg) ↔ ol_ A j k) := by
    intro c d
    obtain ⟨m, hm, rfl⟩ := nI_of c
    have hm8 : m < 8 := by
      rw [show (8 : Int32) = nI 8 from rfl, nI_leI (by decide) hm] at d; omega
    rw [CI_sf h hj, show (64 : Int32) = nI 64 from rfl, pk_mul, nI_ltI (by omega) (by omega)]
    unfold ol_
    rw [nI_clamp hm]
    constructor
    · intro z; exact ⟨c, by omega⟩
    · intro z; omega
  refine sg_X4_requireLimb_0 (fun c => thr fun z => z.1 c) (fun c d => thr fun z => ?_) (fun _ _ => CI_in h hj) (fun c d e => Or.inl ⟨rfl, rfl, (key c d).mp e⟩) (fun c d e => thr fun z => e ((key c d).mpr z))
  obtain ⟨m, hm, rfl⟩ := nI_of c
  rw [show (8 : Int32) = nI 8 from rfl, nI_leI (by decide) hm] at d
  have := z.2
  rw [nI_clamp hm] at this
  omega
theorem c_requireRoom (h : CI_ A σ) (hn : wN A < 600) : ks_M L xs mX4_requireRoom rm_X4_requireRoom [.ref 0] σ (px_ (pv_ fun σ' => σ' = σ) (fun _ _ => False)) := by
  refine ks_body (by decide) (Nat.le_of_ble_eq_true rfl) ?_
  have e : si_ σ 1 = nI (wN A) := h.2.2.1
  have l : nI (wN A) < 600 := nI_lt (b := 600) hn (by decide)
  exact sg_X4_requireRoom_0 (Nat.le_refl 1) (Nat.le_refl 6) (fun _ => Or.inl ⟨rfl, rfl⟩) (fun c => absurd (e ▸ l) c)
theorem c_load {j a : Nat} (ha : rl_ a 9) (h : CI_ A σ) (hj : j < wN A) : ks_M L xs mX4_load rm_X4_load [.ref 0, .int (nI j), .ref a] σ (pv_ fun σ' => ∃ g, σ' = ug_ σ a g ∧ rw_ g 9 (wV A j)) := by
  refine ks_body (by decide) (Nat.le_of_ble_eq_true rfl) ?_
  have hn := CI_n h
  have e8 : nI j * 8 = nI (j * 8) := pk_mul j 8
  refine sg_X4_load_0 ha ?_ (vp_in_nI (n := 8) (by decide) (by decide)) ?_
  · rw [e8, nI_clamp (by omega)]
    refine ⟨nI_pos (by omega), by decide, by decide, ?_, by decide⟩
    show j * 8 + 8 ≤ 4800
    omega
  · refine ⟨rfl, _, ug_ug _ _ _ _, ?_⟩
    rw [sg_self, e8, nI_clamp (by omega)]
    show rw_ (vp_updL (va_cpy (sg_ σ 2) (sg_ σ a) (j * 8) 0 8) 8 0) 9 _
    refine rw_more (n := 8) (rw_congr (h.2.2.2.1 j hj).2 (fun k hk => ?_)) (by decide) (fun k h1 h2 => ?_)
    · rw [pk_uLn (by omega), pk_cpy_in (by omega) (by omega), Nat.sub_zero, Nat.mul_comm]
    · rw [show k = 8 by omega, pk_uLs]
theorem c_keepMade {X w : Nat} (h : CI_ A σ) (hn : wN A < 600) (hX : rw_ (sg_ σ 5) 9 X) (h1 : 1 ≤ w) (h2 : w ≤ 512) : ks_M L xs mX4_keepMade rm_X4_keepMade [.ref 0, .int (nI w)] σ (pi_ fun r σ' => r = nI (wN A) ∧ CI_ (wp_ A w (X % 2 ^ w)) σ' ∧ fr_ [1] [] [1] [2, 5] σ σ') := by
  refine ks_body (by decide) (Nat.le_of_ble_eq_true rfl) ?_
  refine sg_X4_keepMade_0 (cs_X4_keepMade_10 (c_cut row_5) (fun σ1 e => ?_))
  have hR : rw_ (sg_ σ1 5) 9 (X % 2 ^ w) := by rw [e, sg_self]; exact rw_cut hX (by omega) (by decide)
  have f1 : fr_ [1] [] [1] [2, 5] σ σ1 := by rw [e]; exact fr_ug _ _ (by decide)
  have h' : CI_ A σ1 := CI_fr h (show fr_ [] [] [] [5] σ σ1 by rw [e]; exact fr_ug _ _ (by decide)) (by decide) (by decide) (by decide)
  have e1 : si_ σ 1 = nI (wN A) := h.2.2.1
  rw [e1]
  clear e e1
  have e8 : nI (wN A) * 8 = nI (wN A * 8) := pk_mul _ 8
  have hlt : X % 2 ^ w < 2 ^ w := Nat.mod_lt _ (Nat.two_pow_pos w)
  have hR8 : rw_ (sg_ σ1 5) 8 (X % 2 ^ w) := by
    have := rw_less hR (m := 8) (by decide)
    rwa [Nat.mod_eq_of_lt (Nat.lt_of_lt_of_le hlt (Nat.pow_le_pow_right (by decide) (by omega)))] at this
  refine sg_X4_keepMade_13 ?_ (vp_in_nI hn (by decide)) ⟨_, rfl, rfl, ?_, ?_⟩
  · rw [e8, nI_clamp (by omega)]
    refine ⟨by decide, nI_pos (by omega), by decide, by decide, ?_⟩
    show wN A * 8 + 8 ≤ 4800
    omega
  · rw [e8, nI_clamp (show wN A * 8 < 2 ^ 31 by omega), nI_clamp (show wN A < 2 ^ 31 by omega)]
    obtain ⟨a0, a1, a2, a3, a4, a5⟩ := h'
    refine ⟨wo_p a0 hn h1 h2 hlt, a1, ?_, fun j hj => ?_, a4, a5⟩
    · rw [si_ui, if_pos rfl]; exact (nI_succ _).symm
    · show sf_ (uf_ _ 1 _) 1 j = nI (if j = wN A then w else wW A j) ∧ rw_ (fun k => sg_ (ug_ σ1 2 _) 2 (8 * j + k)) 8 (if j = wN A then X % 2 ^ w else wV A j)
      rw [sf_self, sg_self, sf_ug]
      by_cases ej : j = wN A
      · rw [if_pos ej, if_pos ej, ej, pk_us]
        refine ⟨rfl, rw_congr hR8 (fun k hk => ?_)⟩
        show va_cpy (sg_ σ1 5) (sg_ σ1 2) 0 (wN A * 8) 8 (8 * wN A + k) = _
        rw [pk_cpy_in (by omega) (by omega)]
        congr 1
        omega
      · have hj' : j < wN A := by
          have : j < wN A + 1 := hj
          omega
        rw [if_neg ej, if_neg ej, pk_un ej]
        refine ⟨(a3 j hj').1, rw_congr (a3 j hj').2 (fun k hk => ?_)⟩
        show va_cpy (sg_ σ1 5) (sg_ σ1 2) 0 (wN A * 8) 8 (8 * j + k) = _
        rw [pk_cpy_out (by omega)]
  · exact fr_trans f1 (fr_trans (fr_trans (fr_ug _ _ (by decide)) (fr_uf _ _ (by decide))) (fr_ui _ _ (by decide)))
theorem c_hasBit {j k : Nat} (h : CI_ A σ) (hj : j < wN A) (hk : k < 512) : ks_M L xs mX4_hasBit rm_X4_hasBit [.ref 0, .int (nI j), .int (nI k)] σ (pi_ fun r σ' => r = b1_ ((wV A j).testBit k) ∧ σ' = σ) := by
  refine ks_body (by decide) (Nat.le_of_ble_eq_true rfl) ?_
  have hn := CI_n h
  have e8 : nI j * 8 = nI (j * 8) := pk_mul j 8
  have ei : nI j * 8 + (nI k >>> ((6 : Int32) &&& 31)) = nI (j * 8 + k / 64) := by rw [e8, nI_sh6 (by omega), nI_add]
  have ea : nI k &&& 63 = nI (k % 64) := nI_an6 (by omega)
  have key : (lg_cmp (((((sg_ σ 2 (nI j * 8 + (nI k >>> ((6 : Int32) &&& 31))).toNatClampNeg)).toUInt64 >>> (((nI k &&& 63)).toInt64.toUInt64 &&& Int64.toUInt64 63)).toInt64) &&& 1) 0) = 0 ↔ (wV A j).testBit k = false := by
    rw [lg_cmp_eq, un_eq0, un_and, un_1, ei, ea, un_ushr _ (by omega), nI_clamp (by omega), Nat.and_one_is_mod]
    have hb := rw_bit (h.2.2.2.1 j hj).2 (k := k / 64) (i := k % 64) (by omega) (by omega)
    rw [show 64 * (k / 64) + k % 64 = k by omega] at hb
    rw [← hb, Nat.mul_comm j 8, Nat.testBit_eq_decide_div_mod_eq]
    simp
  refine sg_X4_hasBit_0 ?_ (fun c => ?_) (fun c => ?_)
  · rw [ei]; exact vp_in_nI (by omega) (by decide)
  · exact sg_X4_hasBit_31 rfl ⟨_, rfl, by rw [key.mp c]; rfl, rfl⟩
  · refine sg_X4_hasBit_31 rfl ⟨_, rfl, ?_, rfl⟩
    rw [eq_true_of_ne_false (fun z => c (key.mpr z))]; rfl
theorem c_isNegative {j : Nat} (h : CI_ A σ) (hj : j < wN A) : ks_M L xs mX4_isNegative rm_X4_isNegative [.ref 0, .int (nI j)] σ (pi_ fun r σ' => r = b1_ (ng_ (wW A j) (wV A j)) ∧ σ' = σ) := by
  refine ks_body (by decide) (Nat.le_of_ble_eq_true rfl) ?_
  have hw := CI_w h hj
  refine sg_X4_isNegative_0 (CI_in h hj) ?_
  rw [CI_sf h hj, show nI (wW A j) - 1 = nI (wW A j - 1) from pk_sub (b := 1) hw.1]
  refine cs_X4_isNegative_10 (c_hasBit h hj (by omega)) (fun r σ1 hr => ?_)
  obtain ⟨rfl, rfl⟩ := hr
  exact sg_X4_isNegative_13 (b1_b _) ⟨_, rfl, rfl, rfl⟩
/-! the calls -/
def o_word (A : wa_) : Nat × Int32 × wa_ := (0, nI (wN A), wp_ A (wZ A) 0)
theorem c_word (h : CI_ A σ) (hn : wN A < 600) : ks_M L xs mX4_word rm_X4_word [.ref 0] σ (pc_ en_ (o_word A) σ) := by
  refine ks_body (by decide) (Nat.le_of_ble_eq_true rfl) ?_
  refine sg_X4_word_0 (cs_X4_word_1 (mc := 0) (ms := 0) (c_requireRoom h hn) (fun E σ' z => z.elim) (fun σ1 e => ?_))
  subst e
  refine sg_X4_word_4 (cs_X4_word_8 (c_clear row_5) (fun σ2 e => ?_))
  have h' : CI_ A σ2 := CI_fr h (show fr_ [] [] [] [5] σ1 σ2 by rw [e]; exact fr_ug _ _ (by decide)) (by decide) (by decide) (by decide)
  have f1 : fc_ σ1 σ2 := by rw [e]; exact fr_ug _ _ (by decide)
  have hR : rw_ (sg_ σ2 5) 9 0 := by rw [e, sg_self]; exact rw_zero fun k hk => if_pos hk
  refine sg_X4_word_11 ?_
  rw [show si_ σ2 0 = nI (wZ A) from h'.2.1]
  refine cs_X4_word_16 (c_keepMade h' hn hR h.1.1.1 h.1.1.2) (fun r σ3 hr => ?_)
  obtain ⟨e1, e2, e3⟩ := hr
  rw [Nat.zero_mod] at e2
  exact sg_X4_word_19 (Or.inl ⟨_, rfl, rfl, e1, e2, fr_trans f1 (fr_mono e3 (by decide) (by decide) (by decide) (by decide))⟩)
def o_width (A : wa_) (x : Int32) : Nat × Int32 × wa_ := if ow_ A x then (0, nI (wW A x.toNatClampNeg), A) else (1, 0, A)
theorem c_width {x : Int32} (h : CI_ A σ) : ks_M L xs mX4_width rm_X4_width [.ref 0, .int x] σ (pc_ en_ (o_width A x) σ) := by
  refine ks_body (by decide) (Nat.le_of_ble_eq_true rfl) ?_
  refine sg_X4_width_0 (cs_X4_width_2 (mc := 0) (ms := 0) (c_requireWord h) (fun E σ' z => ?_) (fun σ1 e => ?_))
  · obtain ⟨rfl, rfl, z⟩ := z
    refine Or.inr ⟨_, rfl, ?_⟩
    rw [o_width, if_neg z]
    exact ⟨Nat.succ_ne_zero _, rfl, h, fr_refl _⟩
  · obtain ⟨rfl, z⟩ := e
    obtain ⟨j, hj, rfl, ej⟩ := ow_ix h.1 z
    refine sg_X4_width_5 (CI_in h hj) (Or.inl ⟨_, rfl, ?_⟩)
    rw [o_width, if_pos z, CI_sf h hj, ej]
    exact ⟨rfl, rfl, h, fr_refl _⟩
def o_bit (A : wa_) (x k : Int32) : Nat × Int32 × wa_ := if ow_ A x then (if k < 0 ∨ nI (wW A x.toNatClampNeg) ≤ k then (2, 0, A) else (0, b1_ ((wV A x.toNatClampNeg).testBit k.toNatClampNeg), A)) else (1, 0, A)
theorem c_bit {x k : Int32} (h : CI_ A σ) : ks_M L xs mX4_bit rm_X4_bit [.ref 0, .int x, .int k] σ (pc_ en_ (o_bit A x k) σ) := by
  refine ks_body (by decide) (Nat.le_of_ble_eq_true rfl) ?_
  refine sg_X4_bit_0 (cs_X4_bit_2 (mc := 1) (ms := 6) (c_requireWord h) (fun E σ' z => ?_) (fun σ1 e => ?_))
  · obtain ⟨rfl, rfl, z⟩ := z
    refine Or.inr ⟨_, rfl, ?_⟩
    rw [o_bit, if_neg z]
    exact ⟨Nat.succ_ne_zero _, rfl, h, fr_refl _⟩
  · obtain ⟨rfl, z⟩ := e
    obtain ⟨j, hj, rfl, ej⟩ := ow_ix h.1 z
    have hw := CI_w h hj
    have thr : k < 0 ∨ nI (wW A j) ≤ k → ks_W L xs mX4_bit rm_X4_bit 19 [] [] σ1 1 6 (pc_ en_ (o_bit A (nI j) k) σ1) := fun q => sg_X4_bit_19 (Nat.le_refl 1) (Nat.le_refl 6) (Or.inr ⟨_, rfl, by
      rw [o_bit, if_pos z, ej, if_pos q]; exact ⟨Nat.succ_ne_zero _, rfl, h, fr_refl _⟩⟩)
    refine sg_X4_bit_5 (fun c => thr (Or.inl c)) (fun _ => CI_in h hj) (fun c d => ?_) (fun c d => thr (Or.inr ?_))
    · rw [CI_sf h hj] at d
      obtain ⟨m, hm, rfl⟩ := nI_of c
      rw [nI_ltI hm (by omega)] at d
      refine cs_X4_bit_32 (c_hasBit h hj (by omega)) (fun r σ2 hr => ?_)
      obtain ⟨rfl, rfl⟩ := hr
      refine sg_X4_bit_35 (b1_b _) (Or.inl ⟨_, rfl, ?_⟩)
      rw [o_bit, if_pos z, ej, if_neg (by rw [nI_leI (by omega) hm]; intro q; rcases q with q | q; exact c q; omega), nI_clamp hm]
      exact ⟨rfl, rfl, h, fr_refl _⟩
    · rw [CI_sf h hj] at d
      exact Int32.not_lt.mp d
def o_flag (A : wa_) (k : Int32) : Nat × Int32 × wa_ := if k = 0 then (0, b1_ (wF A).1, A) else if k = 1 then (0, b1_ (wF A).2.1, A) else if k = 2 then (0, b1_ (wF A).2.2.1, A) else if k = 3 then (0, b1_ (wF A).2.2.2, A) else (1, 0, A)
theorem c_flag {k : Int32} (h : CI_ A σ) : ks_M L xs mX4_flag rm_X4_flag [.ref 0, .int k] σ (pc_ ef_ (o_flag A k) σ) := by
  refine ks_body (by decide) (Nat.le_of_ble_eq_true rfl) ?_
  obtain ⟨b0, b1, b2, b3⟩ := h.2.2.2.2.1
  refine sg_X4_flag_0 (Nat.le_refl 1) (Nat.le_refl 6) (fun c => Or.inl ⟨_, rfl, ?_⟩) (fun c1 c => Or.inl ⟨_, rfl, ?_⟩) (fun c1 c2 c => Or.inl ⟨_, rfl, ?_⟩) (fun c1 c2 c3 c => Or.inl ⟨_, rfl, ?_⟩) (fun c1 c2 c3 c => Or.inr ⟨_, rfl, ?_⟩)
  · rw [o_flag, if_pos c]; exact ⟨rfl, b0, h, fr_refl _⟩
  · rw [o_flag, if_neg c1, if_pos c]; exact ⟨rfl, b1, h, fr_refl _⟩
  · rw [o_flag, if_neg c1, if_neg c2, if_pos c]; exact ⟨rfl, b2, h, fr_refl _⟩
  · rw [o_flag, if_neg c1, if_neg c2, if_neg c3, if_pos c]; exact ⟨rfl, b3, h, fr_refl _⟩
  · rw [o_flag, if_neg c1, if_neg c2, if_neg c3, if_neg c]; exact ⟨Nat.succ_ne_zero _, rfl, h, fr_refl _⟩
theorem c_flags (h : CI_ A σ) : ks_M L xs mX4_flags rm_X4_flags [.ref 0] σ (pi_ fun r σ' => r = nI (wR A) ∧ σ' = σ) := by
  refine ks_body (by decide) (Nat.le_of_ble_eq_true rfl) ?_
  exact sg_X4_flags_0 ⟨_, rfl, h.2.2.2.2.2, rfl⟩
def pcl_ (o : Nat × Int64 × wa_) (σ : ks_St) : ka_O → ks_St → Prop :=
  px_ (pl_ fun r σ' => o.1 = 0 ∧ r = o.2.1 ∧ CI_ o.2.2 σ' ∧ fc_ σ σ') (fun E σ' => o.1 ≠ 0 ∧ E = en_ o.1 ∧ CI_ o.2.2 σ' ∧ fc_ σ σ')
def o_limb (A : wa_) (x k : Int32) : Nat × Int64 × wa_ := if ow_ A x ∧ ol_ A x.toNatClampNeg k then (0, lN (wV A x.toNatClampNeg / 2 ^ (64 * k.toNatClampNeg) % 2 ^ 64), A) else (1, 0, A)
theorem limb_ix {j : Nat} {k : Int32} (h : CI_ A σ) (hj : j < wN A) (hk : ol_ A j k) : ∃ m, m < 8 ∧ k = nI m ∧ k.toNatClampNeg = m ∧ nI j * 8 + k = nI (8 * j + m) ∧ 8 * j + m < 4800 ∧ 64 * m < wW A j := by
  obtain ⟨m, hm, rfl⟩ := nI_of hk.1
  have hw := CI_w h hj
  have hn := CI_n h
  have h2 := hk.2
  rw [nI_clamp hm] at h2
  refine ⟨m, by omega, rfl, nI_clamp hm, ?_, by omega, h2⟩
  rw [show nI j * 8 = nI (j * 8) from pk_mul j 8, nI_add, Nat.mul_comm]
theorem c_limb {x k : Int32} (h : CI_ A σ) : ks_M L xs mX4_limb rm_X4_limb [.ref 0, .int x, .int k] σ (pcl_ (o_limb A x k) σ) := by
  refine ks_body (by decide) (Nat.le_of_ble_eq_true rfl) ?_
  refine sg_X4_limb_0 (cs_X4_limb_2 (mc := 1) (ms := 6) (c_requireWord h) (fun E σ' z => ?_) (fun σ1 e => ?_))
  · obtain ⟨rfl, rfl, z⟩ := z
    refine Or.inr ⟨_, rfl, ?_⟩
    rw [o_limb, if_neg (fun q => z q.1)]
    exact ⟨Nat.succ_ne_zero _, rfl, h, fr_refl _⟩
  · obtain ⟨rfl, z⟩ := e
    obtain ⟨j, hj, rfl, ej⟩ := ow_ix h.1 z
    refine sg_X4_limb_5 (cs_X4_limb_8 (mc := 0) (ms := 0) (c_requireLimb h hj) (fun E σ' q => ?_) (fun σ2 e => ?_))
    · obtain ⟨rfl, rfl, q⟩ := q
      refine Or.inr ⟨_, rfl, ?_⟩
      rw [o_limb, if_neg (fun y => q (ej ▸ y.2))]
      exact ⟨Nat.succ_ne_zero _, rfl, h, fr_refl _⟩
    · obtain ⟨rfl, q⟩ := e
      obtain ⟨m, hm, rfl, em, ei, hi, -⟩ := limb_ix h hj q
      refine sg_X4_limb_11 (by rw [ei]; exact vp_in_nI hi (by decide)) (Or.inl ⟨_, rfl, ?_⟩)
      rw [o_limb, if_pos ⟨z, by rw [ej]; exact q⟩, ej, em, ei, nI_clamp (by omega)]
      exact ⟨rfl, rw_get (h.2.2.2.1 j hj).2 hm, h, fr_refl _⟩
/-- limb m of a word becomes v's bits, as far as the word has them -/
def sl_ (w V m v : Nat) : Nat := bo_ (fun k => if k / 64 = m then v.testBit (k % 64) else V.testBit k) w
def o_set (A : wa_) (x k : Int32) (v : Int64) : Nat × Int32 × wa_ :=
  if ow_ A x ∧ ol_ A x.toNatClampNeg k then (0, b1_ (decide (2 ^ (wW A x.toNatClampNeg - 64 * k.toNatClampNeg) ≤ un_ v)), ws_ A x.toNatClampNeg (sl_ (wW A x.toNatClampNeg) (wV A x.toNatClampNeg) k.toNatClampNeg (un_ v))) else (1, 0, A)
theorem c_set {x k : Int32} {v : Int64} (h : CI_ A σ) : ks_M L xs mX4_set rm_X4_set [.ref 0, .int x, .int k, .long v] σ (pc_ en_ (o_set A x k v) σ) := by
  refine ks_body (by decide) (Nat.le_of_ble_eq_true rfl) ?_
  refine sg_X4_set_0 (cs_X4_set_2 (mc := 1) (ms := 6) (c_requireWord h) (fun E σ' z => ?_) (fun σ1 e => ?_))
  · obtain ⟨rfl, rfl, z⟩ := z
    refine Or.inr ⟨_, rfl, ?_⟩
    rw [o_set, if_neg (fun q => z q.1)]
    exact ⟨Nat.succ_ne_zero _, rfl, h, fr_refl _⟩
  · obtain ⟨rfl, z⟩ := e
    obtain ⟨j, hj, rfl, ej⟩ := ow_ix h.1 z
    refine sg_X4_set_5 (cs_X4_set_8 (mc := 0) (ms := 0) (c_requireLimb h hj) (fun E σ' q => ?_) (fun σ2 e => ?_))
    · obtain ⟨rfl, rfl, q⟩ := q
      refine Or.inr ⟨_, rfl, ?_⟩
      rw [o_set, if_neg (fun y => q (ej ▸ y.2))]
      exact ⟨Nat.succ_ne_zero _, rfl, h, fr_refl _⟩
    · obtain ⟨rfl, q⟩ := e
      have hw := CI_w h hj
      obtain ⟨m, hm, rfl, em, ei, hi, hmw⟩ := limb_ix h hj q
      refine sg_X4_set_11 (CI_in h hj) ?_
      rw [CI_sf h hj]
      refine cs_X4_set_19 c_maskOf (fun r σ3 e => ?_)
      obtain ⟨rfl, rfl⟩ := e
      have hmask : un_ (v &&& km_mask (nI (wW A j)) (nI m)) = un_ v % 2 ^ (min 64 (wW A j - 64 * m)) := by
        rw [un_and, un_mask (by omega) (by omega), Nat.and_two_pow_sub_one_eq_mod]
      have hmin : un_ v % 2 ^ (min 64 (wW A j - 64 * m)) = un_ v % 2 ^ (wW A j - 64 * m) := by
        by_cases c : 64 ≤ wW A j - 64 * m
        · rw [Nat.min_eq_left c, Nat.mod_eq_of_lt (un_lt v), Nat.mod_eq_of_lt (Nat.lt_of_lt_of_le (un_lt v) (Nat.pow_le_pow_right (by decide) c))]
        · rw [Nat.min_eq_right (by omega)]
      rw [hmin] at hmask
      have hci : CI_ (ws_ A j (sl_ (wW A j) (wV A j) m (un_ v))) (ug_ σ3 2 (vp_updL (sg_ σ3 2) (nI j * 8 + nI m).toNatClampNeg (v &&& km_mask (nI (wW A j)) (nI m)))) := by
        obtain ⟨a0, a1, a2, a3, a4, a5⟩ := h
        refine ⟨wo_s a0 (bo_lt _ _), a1, a2, fun i hi' => ⟨(a3 i hi').1, ?_⟩, a4, a5⟩
        show rw_ (fun k => sg_ (ug_ σ3 2 _) 2 (8 * i + k)) 8 (if i = j then sl_ (wW A j) (wV A j) m (un_ v) else wV A i)
        rw [sg_self, ei, nI_clamp (by omega)]
        by_cases c : i = j
        · subst c
          rw [if_pos rfl]
          refine rw_ofbits (Nat.lt_of_lt_of_le (bo_lt _ _) (Nat.pow_le_pow_right (by decide) (by omega))) (fun k hk b hb => ?_)
          rw [sl_, bo_bit, show (64 * k + b) / 64 = k by omega, show (64 * k + b) % 64 = b by omega]
          by_cases ck : k = m
          · subst ck
            rw [pk_uLs, hmask, if_pos rfl, Nat.testBit_mod_two_pow]
            congr 1
            exact decide_eq_decide.mpr (by omega)
          · rw [pk_uLn (by omega), if_neg ck, rw_bit (a3 i hi').2 hk hb]
            by_cases cw : 64 * k + b < wW A i
            · simp [cw]
            · rw [Nat.testBit_lt_two_pow (Nat.lt_of_lt_of_le hw.2.2 (Nat.pow_le_pow_right (by decide) (by omega)))]
              simp
        · rw [if_neg c]
          exact rw_congr (a3 i hi').2 (fun k hk => pk_uLn (by omega))
      have hfc : fc_ σ3 (ug_ σ3 2 (vp_updL (sg_ σ3 2) (nI j * 8 + nI m).toNatClampNeg (v &&& km_mask (nI (wW A j)) (nI m)))) := fr_ug _ _ (by decide)
      have hkey : (lg_cmp (v &&& km_mask (nI (wW A j)) (nI m)) v) = 0 ↔ un_ v < 2 ^ (wW A j - 64 * m) := by
        rw [lg_cmp_eq]
        constructor
        · intro e
          have := congrArg un_ e
          rw [hmask] at this
          rw [← this]
          exact Nat.mod_lt _ (Nat.two_pow_pos _)
        · intro e
          apply un_inj
          rw [hmask, Nat.mod_eq_of_lt e]
      have hin : vp_in (nI j * 8 + nI m) 4800 := by rw [ei]; exact vp_in_nI hi (by decide)
      have ho : o_set A (nI j) (nI m) v = (0, b1_ (decide (2 ^ (wW A j - 64 * m) ≤ un_ v)), ws_ A j (sl_ (wW A j) (wV A j) m (un_ v))) := by
        rw [o_set, if_pos ⟨z, by rw [ej]; exact q⟩, ej, em]
      refine sg_X4_set_22 hin (fun c => ?_) (fun c => ?_)
      · refine sg_X4_set_50 rfl (Or.inl ⟨_, rfl, ?_⟩)
        rw [ho]
        refine ⟨rfl, ?_, hci, hfc⟩
        have := hkey.mp c
        show (0 : Int32) = b1_ (decide _)
        rw [decide_eq_false (by omega)]; rfl
      · refine sg_X4_set_50 rfl (Or.inl ⟨_, rfl, ?_⟩)
        rw [ho]
        refine ⟨rfl, ?_, hci, hfc⟩
        have : ¬ un_ v < 2 ^ (wW A j - 64 * m) := fun z => c (hkey.mpr z)
        show (1 : Int32) = b1_ (decide _)
        rw [decide_eq_true (by omega)]; rfl
end
end
