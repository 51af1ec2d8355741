section
/-! ===== rows of bits ===== -/
def br_ (g : Nat → Int32) (n V : Nat) : Prop := ∀ k, k < n → g k = b1_ (V.testBit k)
/-- bit m becomes b -/
def sv_ (V m : Nat) (b : Bool) : Nat := 2 ^ m * (2 * (V / 2 ^ (m + 1)) + b.toNat) + V % 2 ^ m
theorem sv_bit (V m : Nat) (b : Bool) (k : Nat) : (sv_ V m b).testBit k = if k = m then b else V.testBit k := by
  rw [sv_, Nat.testBit_two_pow_mul_add _ (Nat.mod_lt _ (Nat.two_pow_pos m))]
  by_cases c : k < m
  · rw [if_pos c, Nat.testBit_mod_two_pow, if_neg (by omega)]; simp [c]
  · rw [if_neg c]
    by_cases e : k = m
    · rw [if_pos e, e, Nat.sub_self, Nat.testBit_zero]
      cases b
      · simp
      · simp
    · rw [if_neg e]
      obtain ⟨t, rfl⟩ : ∃ t, k = m + 1 + t := ⟨k - (m + 1), by omega⟩
      rw [show m + 1 + t - m = t + 1 by omega, Nat.testBit_succ, show (2 * (V / 2 ^ (m + 1)) + b.toNat) / 2 = V / 2 ^ (m + 1) by cases b <;> simp <;> omega, Nat.testBit_div_two_pow, Nat.add_comm]
theorem bit_split (V m : Nat) : V = 2 ^ m * (2 * (V / 2 ^ (m + 1)) + (V.testBit m).toNat) + V % 2 ^ m := by
  have h1 := Nat.div_add_mod V (2 ^ m)
  have h2 := Nat.div_add_mod (V / 2 ^ m) 2
  rw [Nat.div_div_eq_div_mul, ← Nat.pow_succ] at h2
  have h3 : (V.testBit m).toNat = V / 2 ^ m % 2 := by
    rw [Nat.testBit_eq_decide_div_mod_eq]
    rcases Nat.mod_two_eq_zero_or_one (V / 2 ^ m) with h | h <;> simp [h]
  rw [h3, h2]
  omega
theorem sv_eq (V m : Nat) (b : Bool) : sv_ V m b + 2 ^ m * (V.testBit m).toNat = V + 2 ^ m * b.toNat := by
  have h := bit_split V m
  unfold sv_
  rw [Nat.mul_add] at h ⊢
  generalize 2 ^ m * (2 * (V / 2 ^ (m + 1))) = X at *
  generalize V % 2 ^ m = Y at *
  generalize 2 ^ m * b.toNat = B at *
  generalize 2 ^ m * (V.testBit m).toNat = C at *
  omega
theorem sv_lt {V m n : Nat} {b : Bool} (h : V < 2 ^ n) (hm : m < n) : sv_ V m b < 2 ^ n := by
  apply Nat.lt_pow_two_of_testBit
  intro k hk
  rw [sv_bit, if_neg (by omega)]
  exact Nat.testBit_lt_two_pow (Nat.lt_of_lt_of_le h (Nat.pow_le_pow_right (by decide) hk))
theorem br_set {g : Nat → Int32} {n V m : Nat} {b : Bool} (h : br_ g n V) : br_ (upd g m (b1_ b)) n (sv_ V m b) := by
  intro k hk
  rw [sv_bit]
  by_cases e : k = m
  · rw [if_pos e, e, pk_us]
  · rw [if_neg e, pk_un e]; exact h k hk
theorem br_congr {g g' : Nat → Int32} {n V : Nat} (h : br_ g n V) (e : ∀ k, k < n → g' k = g k) : br_ g' n V := fun k hk => by rw [e k hk]; exact h k hk
theorem br_num {g : Nat → Int32} {n V V' : Nat} (h : br_ g n V) (e : ∀ k, k < n → V'.testBit k = V.testBit k) : br_ g n V' := fun k hk => by rw [e k hk]; exact h k hk
theorem br_less {g : Nat → Int32} {n m V : Nat} (h : br_ g n V) (e : m ≤ n) : br_ g m V := fun k hk => h k (by omega)
theorem mod_up (V m : Nat) : V % 2 ^ (m + 1) = V % 2 ^ m + 2 ^ m * (V.testBit m).toNat := by
  rw [Nat.mod_pow_succ]
  congr 2
  rw [Nat.testBit_eq_decide_div_mod_eq]
  rcases Nat.mod_two_eq_zero_or_one (V / 2 ^ m) with h | h <;> simp [h]
theorem ad3 : ∀ a b c : Bool, (b1_ a + b1_ b + b1_ c) &&& 1 = b1_ (a ^^ b ^^ c) ∧ (b1_ a + b1_ b + b1_ c) >>> ((1 : Int32) &&& 31) = b1_ (a && b || a && c || b && c) := by decide
theorem ad3n : ∀ a b c : Bool, (a ^^ b ^^ c).toNat + 2 * (a && b || a && c || b && c).toNat = a.toNat + b.toNat + c.toNat := by decide
theorem ad2 : ∀ a c : Bool, (b1_ a + b1_ c) &&& 1 = b1_ (a ^^ c) ∧ (b1_ a + b1_ c) >>> ((1 : Int32) &&& 31) = b1_ (a && c) := by decide
theorem ad2n : ∀ a c : Bool, (a ^^ c).toNat + 2 * (a && c).toNat = a.toNat + c.toNat := by decide
theorem su3 : ∀ a b c : Bool, (b1_ a - b1_ b - b1_ c) &&& 1 = b1_ (a ^^ b ^^ c) ∧ (0 ≤ b1_ a - b1_ b - b1_ c ↔ (!a && b || !a && c || b && c) = false) := by decide
theorem su3n : ∀ a b c : Bool, (a ^^ b ^^ c).toNat + b.toNat + c.toNat = a.toNat + 2 * (!a && b || !a && c || b && c).toNat := by decide
theorem no1 : ∀ a : Bool, 1 - b1_ a = b1_ (!a) := by decide
theorem no1n : ∀ a : Bool, (!a).toNat + a.toNat = 1 := by decide
/-- one step of an addition in a row -/
theorem st_add {V m c' : Nat} {o a c : Bool} (ho : V.testBit m = o) (hc : c' = 2 * (o && a || o && c || a && c).toNat) : sv_ V m (o ^^ a ^^ c) + 2 ^ m * c' = V + 2 ^ m * (a.toNat + c.toNat) := by
  have h := sv_eq V m (o ^^ a ^^ c)
  have h2 := ad3n o a c
  rw [ho] at h
  rw [hc]
  have h3 : 2 ^ m * ((o ^^ a ^^ c).toNat + 2 * (o && a || o && c || a && c).toNat) = 2 ^ m * (o.toNat + a.toNat + c.toNat) := by rw [h2]
  simp only [Nat.mul_add] at h3 ⊢
  omega
theorem st_sub {V m : Nat} {o a c : Bool} (ho : V.testBit m = o) : sv_ V m (o ^^ a ^^ c) + 2 ^ m * (a.toNat + c.toNat) = V + 2 ^ m * (2 * (!o && a || !o && c || a && c).toNat) := by
  have h := sv_eq V m (o ^^ a ^^ c)
  have h2 := su3n o a c
  rw [ho] at h
  have h3 : 2 ^ m * ((o ^^ a ^^ c).toNat + a.toNat + c.toNat) = 2 ^ m * (o.toNat + 2 * (!o && a || !o && c || a && c).toNat) := by rw [h2]
  simp only [Nat.mul_add] at h3 ⊢
  omega
end
section
/-! ===== the reference's state, and its simpler calls ===== -/
def MI_ (A : wa_) (σ : ks_St) : Prop := wo_ A ∧ si_ σ 15 = nI (wZ A) ∧ si_ σ 16 = nI (wN A) ∧ (∀ j, j < wN A → sf_ σ 18 j = nI (wW A j) ∧ br_ (fun k => sf_ σ 19 (512 * j + k)) 512 (wV A j)) ∧
  (sf_ σ 20 0 = b1_ (wF A).1 ∧ sf_ σ 20 1 = b1_ (wF A).2.1 ∧ sf_ σ 20 2 = b1_ (wF A).2.2.1 ∧ sf_ σ 20 3 = b1_ (wF A).2.2.2) ∧ si_ σ 17 = nI (wR A)
/-- what a call of the reference may change -/
def fm_ (σ σ' : ks_St) : Prop := fr_ [14, 16, 17] [] [18, 19, 20, 21, 22, 23, 24, 25, 26, 27] [28] σ σ'
theorem MI_fr {A : wa_} {σ σ' : ks_St} {I J F G : List Nat} (h : MI_ A σ) (f : fr_ I J F G σ σ') (h0 : ∀ k ∈ [15, 16, 17], k ∉ I) (h1 : ∀ k ∈ [18, 19, 20], k ∉ F) : MI_ A σ' := by
  obtain ⟨a0, a1, a2, a3, ⟨b0, b1, b2, b3⟩, a4⟩ := h
  have e : ∀ k, k ∈ [15, 16, 17] → si_ σ' k = si_ σ k := fun k hk => f.1 k (h0 k hk)
  have e2 : ∀ k, k ∈ [18, 19, 20] → sf_ σ' k = sf_ σ k := fun k hk => f.2.2.1 k (h1 k hk)
  refine ⟨a0, (e 15 (by decide)).trans a1, (e 16 (by decide)).trans a2, fun j hj => ?_, ?_, (e 17 (by decide)).trans a4⟩
  · rw [e2 18 (by decide), e2 19 (by decide)]
    exact a3 j hj
  · rw [e2 20 (by decide)]
    exact ⟨b0, b1, b2, b3⟩
theorem CI_of_m {A : wa_} {σ σ' : ks_St} (h : CI_ A σ) (f : fm_ σ σ') : CI_ A σ' := CI_fr h f (by decide) (by decide) (by decide)
theorem MI_of_c {A : wa_} {σ σ' : ks_St} (h : MI_ A σ) (f : fc_ σ σ') : MI_ A σ' := MI_fr h f (by decide) (by decide)
def pm_ (o : Nat × Int32 × wa_) (σ : ks_St) : ka_O → ks_St → Prop := pi_ fun r σ' => si_ σ' 14 = nI o.1 ∧ (o.1 = 0 → r = o.2.1) ∧ MI_ o.2.2 σ' ∧ fm_ σ σ'
def pml_ (o : Nat × Int64 × wa_) (σ : ks_St) : ka_O → ks_St → Prop := pl_ fun r σ' => si_ σ' 14 = nI o.1 ∧ (o.1 = 0 → r = o.2.1) ∧ MI_ o.2.2 σ' ∧ fm_ σ σ'
/-- which throw: the first of four -/
def cd_ (p q r s : Bool) : Nat := if p then 1 else if q then 2 else if r then 3 else if s then 4 else 0
theorem nar_b : ∀ b : Bool, vp_nar .byte ((b1_ b).toInt8.toInt32) = b1_ b := by decide
section
variable {L : Nat} {xs : Nat → Int32} {σ : ks_St} {A : wa_}
theorem MI_n (h : MI_ A σ) : wN A ≤ 600 := h.1.2.1
theorem MI_w (h : MI_ A σ) {j : Nat} (hj : j < wN A) : 1 ≤ wW A j ∧ wW A j ≤ 512 ∧ wV A j < 2 ^ wW A j := h.1.2.2 j hj
theorem MI_sf (h : MI_ A σ) {j : Nat} (hj : j < wN A) : sf_ σ 18 (nI j).toNatClampNeg = nI (wW A j) := by
  have := MI_n h
  rw [nI_clamp (by omega)]; exact (h.2.2.2.1 j hj).1
theorem MI_in (h : MI_ A σ) {j : Nat} (hj : j < wN A) : vp_in (nI j) 600 := vp_in_nI (by have := MI_n h; omega) (by decide)
theorem m_thrown : ks_M L xs mX5_thrown rm_X5_thrown [.ref 17] σ (pi_ fun r σ' => r = si_ σ 14 ∧ σ' = σ) := by
  refine ks_body (by decide) (Nat.le_of_ble_eq_true rfl) ?_
  exact sg_X5_thrown_0 ⟨_, rfl, rfl, rfl⟩
theorem m_isWord {x : Int32} (h : MI_ A σ) : ks_M L xs mX5_isWord rm_X5_isWord [.ref 17, .int x] σ (pi_ fun r σ' => r = b1_ (decide (ow_ A x)) ∧ σ' = σ) := by
  refine ks_body (by decide) (Nat.le_of_ble_eq_true rfl) ?_
  have e : si_ σ 16 = nI (wN A) := h.2.2.1
  refine sg_X5_isWord_0 (fun c => ?_) (fun c d => ?_) (fun c d => ?_)
  · exact sg_X5_isWord_16 (sg_X5_isWord_17 rfl ⟨_, rfl, by rw [decide_eq_false (fun z : ow_ A x => z.1 c)]; rfl, rfl⟩)
  · exact sg_X5_isWord_16 (sg_X5_isWord_17 rfl ⟨_, rfl, by rw [decide_eq_false (fun z : ow_ A x => absurd z.2 (Int32.not_lt.mpr (e ▸ d)))]; rfl, rfl⟩)
  · exact sg_X5_isWord_17 rfl ⟨_, rfl, by rw [decide_eq_true (show ow_ A x from ⟨c, Int32.not_le.mp (e ▸ d)⟩)]; rfl, rfl⟩
theorem m_throwing (p q r s : Bool) : ks_M L xs mX5_throwing rm_X5_throwing [.ref 17, .int (b1_ p), .int (b1_ q), .int (b1_ r), .int (b1_ s)] σ (pi_ fun y σ' => y = b1_ (decide (cd_ p q r s ≠ 0)) ∧ σ' = ui_ σ 14 (nI (cd_ p q r s))) := by
  refine ks_body (by decide) (Nat.le_of_ble_eq_true rfl) ?_
  have fin : ∀ c : Nat, c < 5 → cd_ p q r s = c → ks_W L xs mX5_throwing rm_X5_throwing 35 [(0, .ref 17)] [.int (nI c), .ref 17] σ 0 0 (pi_ fun y σ' => y = b1_ (decide (cd_ p q r s ≠ 0)) ∧ σ' = ui_ σ 14 (nI (cd_ p q r s))) := by
    intro c hc e
    rw [e]
    have e1 : si_ (ui_ σ 14 (nI c)) 14 = nI c := by rw [si_ui, if_pos rfl]
    refine sg_X5_throwing_35 (fun d => ?_) (fun d => ?_)
    · rw [e1, show (0 : Int32) = nI 0 from rfl, nI_leI (by omega) (by decide)] at d
      exact sg_X5_throwing_50 rfl ⟨_, rfl, by rw [show c = 0 by omega]; rfl, rfl⟩
    · rw [e1, show (0 : Int32) = nI 0 from rfl, nI_leI (by omega) (by decide)] at d
      exact sg_X5_throwing_50 rfl ⟨_, rfl, by rw [decide_eq_true (show c ≠ 0 by omega)]; rfl, rfl⟩
  refine sg_X5_throwing_0 (fun a b c d => ?_) (fun a b c d => ?_) (fun a b c => ?_) (fun a b => ?_) (fun a => ?_)
  · rw [b1_0] at a b c d
    exact fin 0 (by decide) (by rw [a, b, c, d]; rfl)
  · rw [b1_0] at a b c d
    exact fin 4 (by decide) (by rw [a, b, c, eq_true_of_ne_false d]; rfl)
  · rw [b1_0] at a b c
    exact fin 3 (by decide) (by rw [a, b, eq_true_of_ne_false c]; rfl)
  · rw [b1_0] at a b
    exact fin 2 (by decide) (by rw [a, eq_true_of_ne_false b]; rfl)
  · rw [b1_0] at a
    exact fin 1 (by decide) (by rw [eq_true_of_ne_false a]; rfl)
theorem m_bitOf {j k : Nat} (h : MI_ A σ) (hj : j < wN A) (hk : k < 512) : ks_M L xs mX5_bitOf rm_X5_bitOf [.ref 17, .int (nI j), .int (nI k)] σ (pi_ fun r σ' => r = b1_ ((wV A j).testBit k) ∧ σ' = σ) := by
  refine ks_body (by decide) (Nat.le_of_ble_eq_true rfl) ?_
  have hn := MI_n h
  have e : 512 * nI j + nI k = nI (512 * j + k) := by rw [show 512 * nI j = nI (512 * j) from pk_mul 512 j, nI_add]
  refine sg_X5_bitOf_0 ?_ ⟨_, rfl, ?_, rfl⟩
  · rw [e]; exact vp_in_nI (by omega) (by decide)
  · rw [e, nI_clamp (by omega)]; exact (h.2.2.2.1 j hj).2 k hk
theorem m_make {w : Nat} (h : MI_ A σ) (hn : wN A < 600) (h1 : 1 ≤ w) (h2 : w ≤ 512) : ks_M L xs mX5_make rm_X5_make [.ref 17, .int (nI w)] σ (pi_ fun r σ' => r = nI (wN A) ∧ MI_ (wp_ A w 0) σ' ∧ fr_ [16] [] [18, 19] [] σ σ') := by
  refine ks_body (by decide) (Nat.le_of_ble_eq_true rfl) ?_
  have e : si_ σ 16 = nI (wN A) := h.2.2.1
  refine sg_X5_make_0 (by rw [e]; exact vp_in_nI hn (by decide)) ?_
  rw [e, nI_clamp (by omega)]
  have f1 : fr_ [] [] [18] [] σ (uf_ σ 18 (upd (sf_ σ 18) (wN A) (nI w))) := fr_uf _ _ (by decide)
  have g18 : sf_ (uf_ σ 18 (upd (sf_ σ 18) (wN A) (nI w))) 18 = upd (sf_ σ 18) (wN A) (nI w) := sf_self _ _ _
  generalize uf_ σ 18 (upd (sf_ σ 18) (wN A) (nI w)) = σ1 at f1 g18 ⊢
  have e1 : ∀ s, fr_ [] [] [19] [] σ1 s → si_ s 16 = nI (wN A) := fun s f => (f.1 16 (by decide)).trans ((f1.1 16 (by decide)).trans e)
  refine lp_ 512 (fun i s => ks_W L xs mX5_make rm_X5_make 12 [(0, .ref 17), (2, .int (nI i))] [] s 0 0 (pi_ fun r σ' => r = nI (wN A) ∧ MI_ (wp_ A w 0) σ' ∧ fr_ [16] [] [18, 19] [] σ σ'))
    (fun i s => fr_ [] [] [19] [] σ1 s ∧ (∀ t, t < 512 * wN A → sf_ s 19 t = sf_ σ1 19 t) ∧ ∀ k, k < i → sf_ s 19 (512 * wN A + k) = 0) ?_ ?_ 0 σ1 (by decide) ⟨fr_refl _, fun _ _ => rfl, fun k hk => absurd hk (Nat.not_lt_zero k)⟩
  · intro i s hi hI ih
    obtain ⟨f, q1, q2⟩ := hI
    have es := e1 s f
    have ei : 512 * si_ s 16 + nI i = nI (512 * wN A + i) := by rw [es, show 512 * nI (wN A) = nI (512 * wN A) from pk_mul 512 _, nI_add]
    refine sg_X5_make_12 (fun c => absurd c (nI_ge (b := 512) hi (by decide))) (fun _ => by rw [ei]; exact vp_in_nI (by omega) (by decide)) (fun _ => ?_)
    rw [ei, nI_clamp (by omega), nI_1, show vp_nar .byte 0 = 0 by decide]
    refine ih _ ⟨fr_trans f (fr_uf _ _ (by decide)), fun t ht => ?_, fun k hk => ?_⟩
    · rw [sf_self, pk_un (by omega)]; exact q1 t ht
    · rw [sf_self]
      by_cases c : k = i
      · rw [c, pk_us]
      · rw [pk_un (by omega)]; exact q2 k (by omega)
  · intro s hI
    obtain ⟨f, q1, q2⟩ := hI
    have es := e1 s f
    refine sg_X5_make_12 (fun _ => ⟨_, rfl, ?_, ?_, ?_⟩) (fun c => absurd (by decide) c) (fun c => absurd (by decide) c)
    · rw [si_ui, if_pos rfl, es, nI_1, nI_pred]
    · obtain ⟨a0, a1, a2, a3, a4, a5⟩ := h
      refine ⟨wo_p a0 hn h1 h2 (Nat.two_pow_pos w), ?_, ?_, fun j hj => ?_, ?_, ?_⟩
      · rw [si_ui, if_neg (by decide), f.1 15 (by decide), f1.1 15 (by decide)]; exact a1
      · rw [si_ui, if_pos rfl, es, nI_1]; rfl
      · rw [sf_ui]
        show sf_ s 18 j = nI (if j = wN A then w else wW A j) ∧ br_ (fun k => sf_ s 19 (512 * j + k)) 512 (if j = wN A then 0 else wV A j)
        rw [f.2.2.1 18 (by decide), g18]
        by_cases c : j = wN A
        · rw [if_pos c, if_pos c, c, pk_us]
          exact ⟨rfl, fun k hk => by rw [Nat.zero_testBit]; exact q2 k hk⟩
        · have hj' : j < wN A := by
            have : j < wN A + 1 := hj
            omega
          rw [if_neg c, if_neg c, pk_un c]
          refine ⟨(a3 j hj').1, br_congr (a3 j hj').2 (fun k hk => ?_)⟩
          show sf_ s 19 (512 * j + k) = sf_ σ 19 (512 * j + k)
          rw [q1 _ (by omega), f1.2.2.1 19 (by decide)]
      · rw [sf_ui, f.2.2.1 20 (by decide), f1.2.2.1 20 (by decide)]; exact a4
      · rw [si_ui, if_neg (by decide), f.1 17 (by decide), f1.1 17 (by decide)]; exact a5
    · exact fr_trans (fr_mono f1 (by decide) (by decide) (by decide) (by decide)) (fr_trans (fr_mono f (by decide) (by decide) (by decide) (by decide)) (fr_ui _ _ (by decide)))
theorem m_keep {w X p : Nat} (h : MI_ A σ) (hn : wN A < 600) (h1 : 1 ≤ w) (h2 : w ≤ 512) (hp : p + w ≤ 1026) (hX : br_ (fun k => sf_ σ 23 (p + k)) w X) (hXw : X < 2 ^ w) : ks_M L xs mX5_keep rm_X5_keep [.ref 17, .int (nI p), .int (nI w)] σ (pi_ fun r σ' => r = nI (wN A) ∧ MI_ (wp_ A w X) σ' ∧ fr_ [16] [] [18, 19] [] σ σ') := by
  refine ks_body (by decide) (Nat.le_of_ble_eq_true rfl) ?_
  refine sg_X5_keep_0 (cs_X5_keep_2 (m_make h hn h1 h2) (fun r σ1 hr => ?_))
  obtain ⟨rfl, h', f1⟩ := hr
  refine sg_X5_keep_5 ?_
  refine lp_ w (fun i s => ks_W L xs mX5_keep rm_X5_keep 9 [(0, .ref 17), (1, .int (nI p)), (2, .int (nI w)), (3, .int (nI (wN A))), (4, .int (nI i))] [] s 0 0 (pi_ fun r σ' => r = nI (wN A) ∧ MI_ (wp_ A w X) σ' ∧ fr_ [16] [] [18, 19] [] σ σ'))
    (fun i s => fr_ [] [] [19] [] σ1 s ∧ (∀ t, t < 512 * wN A → sf_ s 19 t = sf_ σ1 19 t) ∧ ∀ k, k < 512 → sf_ s 19 (512 * wN A + k) = b1_ (decide (k < i) && X.testBit k)) ?_ ?_ 0 σ1 (Nat.zero_le _) ⟨fr_refl _, fun _ _ => rfl, fun k hk => ?_⟩
  · intro i s hi hI ih
    obtain ⟨f, q1, q2⟩ := hI
    have ei : 512 * nI (wN A) + nI i = nI (512 * wN A + i) := by rw [show 512 * nI (wN A) = nI (512 * wN A) from pk_mul 512 _, nI_add]
    refine sg_X5_keep_9 (fun c => absurd c (nI_ge hi (by omega))) (fun _ => by rw [nI_add]; exact vp_in_nI (by omega) (by decide)) (fun _ => by rw [ei]; exact vp_in_nI (by omega) (by decide)) (fun _ => ?_)
    rw [ei, nI_clamp (by omega), nI_1, nI_add, nI_clamp (by omega)]
    rw [show sf_ s 23 (p + i) = b1_ (X.testBit i) by rw [f.2.2.1 23 (by decide), f1.2.2.1 23 (by decide)]; exact hX i hi, nar_b]
    refine ih _ ⟨fr_trans f (fr_uf _ _ (by decide)), fun t ht => ?_, fun k hk => ?_⟩
    · rw [sf_self, pk_un (by omega)]; exact q1 t ht
    · rw [sf_self]
      by_cases c : k = i
      · rw [c, pk_us]; simp
      · rw [pk_un (by omega), q2 k hk]
        congr 2
        exact decide_eq_decide.mpr (by omega)
  · intro s hI
    obtain ⟨f, q1, q2⟩ := hI
    refine sg_X5_keep_9 (fun _ => ⟨_, rfl, rfl, ?_, ?_⟩) (fun c => absurd (nI_le (Nat.le_refl w) (by omega)) c) (fun c => absurd (nI_le (Nat.le_refl w) (by omega)) c) (fun c => absurd (nI_le (Nat.le_refl w) (by omega)) c)
    · obtain ⟨a0, a1, a2, a3, a4, a5⟩ := h'
      refine ⟨wo_p h.1 hn h1 h2 hXw, ?_, ?_, fun j hj => ?_, ?_, ?_⟩
      · rw [f.1 15 (by decide)]; exact a1
      · rw [f.1 16 (by decide)]; exact a2
      · have a3j := a3 j hj
        refine ⟨by rw [f.2.2.1 18 (by decide)]; exact a3j.1, ?_⟩
        show br_ (fun k => sf_ s 19 (512 * j + k)) 512 (if j = wN A then X else wV A j)
        have a3k : br_ (fun k => sf_ σ1 19 (512 * j + k)) 512 (if j = wN A then 0 else wV A j) := a3j.2
        by_cases c : j = wN A
        · rw [if_pos c, c]
          intro k hk
          show sf_ s 19 (512 * wN A + k) = _
          rw [q2 k hk]
          by_cases d : k < w
          · simp [d]
          · rw [Nat.testBit_lt_two_pow (Nat.lt_of_lt_of_le hXw (Nat.pow_le_pow_right (by decide) (by omega)))]; simp
        · rw [if_neg c] at a3k ⊢
          have hj' : j < wN A := by
            have : j < wN A + 1 := hj
            omega
          exact br_congr a3k (fun k hk => q1 _ (by omega))
      · rw [f.2.2.1 20 (by decide)]; exact a4
      · rw [f.1 17 (by decide)]; exact a5
    · exact fr_trans f1 (fr_mono f (by decide) (by decide) (by decide) (by decide))
  · have := (h'.2.2.2.1 (wN A) (Nat.lt_succ_self _)).2 k hk
    refine Eq.trans this ?_
    rw [show wV (wp_ A w 0) (wN A) = 0 from if_pos rfl]; simp
theorem m_flags (h : MI_ A σ) : ks_M L xs mX5_flags rm_X5_flags [.ref 17] σ (pi_ fun r σ' => r = nI (wR A) ∧ σ' = ui_ σ 14 0) := by
  refine ks_body (by decide) (Nat.le_of_ble_eq_true rfl) ?_
  refine sg_X5_flags_0 ⟨_, rfl, ?_, rfl⟩
  rw [si_ui, if_neg (by decide)]; exact h.2.2.2.2.2
theorem MI_14 {v : Int32} (h : MI_ A σ) : MI_ A (ui_ σ 14 v) := MI_fr h (show fr_ [14] [] [] [] σ (ui_ σ 14 v) from fr_ui _ _ (by decide)) (by decide) (by decide)
theorem fm_14 {v : Int32} : fm_ σ (ui_ σ 14 v) := fr_ui _ _ (by decide)
theorem s14 {v : Int32} : si_ (ui_ σ 14 v) 14 = v := by rw [si_ui, if_pos rfl]
theorem m_word (h : MI_ A σ) (hn : wN A < 600) : ks_M L xs mX5_word rm_X5_word [.ref 17] σ (pm_ (o_word A) σ) := by
  refine ks_body (by decide) (Nat.le_of_ble_eq_true rfl) ?_
  have e : si_ σ 16 = nI (wN A) := h.2.2.1
  have ne : ¬ si_ σ 16 = 600 := by rw [e, show (600 : Int32) = nI 600 from rfl, nI_eq (by omega) (by decide)]; omega
  refine sg_X5_word_0 (fun _ => ?_) (fun c => absurd c ne)
  refine sg_X5_word_16 (cs_X5_word_19 (m_throwing false false false false) (fun r σ1 hr => ?_))
  obtain ⟨rfl, rfl⟩ := hr
  refine sg_X5_word_22 (fun _ => ?_) (fun c => absurd rfl c)
  rw [show si_ (ui_ σ 14 (nI (cd_ false false false false))) 15 = nI (wZ A) from h.2.1]
  refine cs_X5_word_32 (m_make (MI_14 h) hn h.1.1.1 h.1.1.2) (fun r σ2 hr => ?_)
  obtain ⟨rfl, h2, f2⟩ := hr
  refine sg_X5_word_35 ⟨_, rfl, ?_, fun _ => rfl, h2, fr_trans fm_14 (fr_mono f2 (by decide) (by decide) (by decide) (by decide))⟩
  rw [f2.1 14 (by decide), s14]; rfl
theorem m_width {x : Int32} (h : MI_ A σ) : ks_M L xs mX5_width rm_X5_width [.ref 17, .int x] σ (pm_ (o_width A x) σ) := by
  refine ks_body (by decide) (Nat.le_of_ble_eq_true rfl) ?_
  refine sg_X5_width_0 (cs_X5_width_3 (m_isWord h) (fun r σ1 hr => ?_))
  obtain ⟨rfl, rfl⟩ := hr
  refine sg_X5_width_6 (fun c => ?_) (fun c => ?_)
  · have z : ow_ A x := of_decide_eq_true (eq_true_of_ne_false (fun z => c (b1_0.mpr z)))
    refine sg_X5_width_14 (cs_X5_width_17 (m_throwing false false false false) (fun r σ2 hr => ?_))
    obtain ⟨rfl, rfl⟩ := hr
    obtain ⟨j, hj, rfl, ej⟩ := ow_ix h.1 z
    refine sg_X5_width_20 (fun _ => MI_in h hj) (fun _ => sg_X5_width_33 ⟨_, rfl, ?_⟩) (fun c => absurd rfl c)
    rw [o_width, if_pos z, ej]
    exact ⟨s14, fun _ => by have := MI_sf h hj; rw [ej] at this; exact this, MI_14 h, fm_14⟩
  · have z : ¬ ow_ A x := of_decide_eq_false (b1_0.mp c)
    refine sg_X5_width_14 (cs_X5_width_17 (m_throwing true false false false) (fun r σ2 hr => ?_))
    obtain ⟨rfl, rfl⟩ := hr
    refine sg_X5_width_20 (fun c => absurd c (by decide)) (fun c => absurd c (by decide)) (fun _ => sg_X5_width_33 ⟨_, rfl, ?_⟩)
    rw [o_width, if_neg z]
    exact ⟨s14, fun c => absurd c (Nat.succ_ne_zero _), MI_14 h, fm_14⟩
theorem m_flag {k : Int32} (h : MI_ A σ) : ks_M L xs mX5_flag rm_X5_flag [.ref 17, .int k] σ (pm_ (o_flag A k) σ) := by
  refine ks_body (by decide) (Nat.le_of_ble_eq_true rfl) ?_
  have bad : (¬ (¬ k < 0 ∧ k ≤ 3)) → ks_W L xs mX5_flag rm_X5_flag 10 [(0, .ref 17), (1, .int k)] [.ref 17] σ 0 0 (pm_ (o_flag A k) σ) := by
    intro z
    refine sg_X5_flag_10 (sg_X5_flag_15 (cs_X5_flag_18 (m_throwing true false false false) (fun r σ2 hr => ?_)))
    obtain ⟨rfl, rfl⟩ := hr
    refine sg_X5_flag_21 (fun c => absurd c (by decide)) (fun c => absurd c (by decide)) (fun _ => sg_X5_flag_34 ⟨_, rfl, ?_⟩)
    rw [o_flag, if_neg (fun e => z (by rw [e]; decide)), if_neg (fun e => z (by rw [e]; decide)), if_neg (fun e => z (by rw [e]; decide)), if_neg (fun e => z (by rw [e]; decide))]
    exact ⟨s14, fun c => absurd c (Nat.succ_ne_zero _), MI_14 h, fm_14⟩
  refine sg_X5_flag_0 (fun c => bad fun z => z.1 c) (fun c d => ?_) (fun c d => bad fun z => d z.2)
  refine sg_X5_flag_15 (cs_X5_flag_18 (m_throwing false false false false) (fun r σ2 hr => ?_))
  obtain ⟨rfl, rfl⟩ := hr
  obtain ⟨m, hm, rfl⟩ := nI_of c
  rw [show (3 : Int32) = nI 3 from rfl, nI_leI hm (by decide)] at d
  obtain ⟨b0, b1, b2, b3⟩ := h.2.2.2.2.1
  refine sg_X5_flag_21 (fun _ => vp_in_nI (by omega) (by decide)) (fun _ => sg_X5_flag_34 ⟨_, rfl, ?_⟩) (fun c => absurd rfl c)
  rw [nI_clamp hm]
  have : m = 0 ∨ m = 1 ∨ m = 2 ∨ m = 3 := by omega
  rcases this with rfl | rfl | rfl | rfl
  · exact ⟨s14, fun _ => b0, MI_14 h, fm_14⟩
  · exact ⟨s14, fun _ => b1, MI_14 h, fm_14⟩
  · exact ⟨s14, fun _ => b2, MI_14 h, fm_14⟩
  · exact ⟨s14, fun _ => b3, MI_14 h, fm_14⟩
theorem m_bit {x k : Int32} (h : MI_ A σ) : ks_M L xs mX5_bit rm_X5_bit [.ref 17, .int x, .int k] σ (pm_ (o_bit A x k) σ) := by
  refine ks_body (by decide) (Nat.le_of_ble_eq_true rfl) ?_
  refine sg_X5_bit_0 (cs_X5_bit_2 (m_isWord h) (fun r σ1 hr => ?_))
  obtain ⟨rfl, rfl⟩ := hr
  have out : ∀ p q : Bool, cd_ p q false false ≠ 0 → o_bit A x k = (cd_ p q false false, 0, A) → ks_W L xs mX5_bit rm_X5_bit 39 [(0, .ref 17), (1, .int x), (2, .int k)] [.int (b1_ q), .int (b1_ p), .ref 17] σ1 0 0 (pm_ (o_bit A x k) σ1) := by
    intro p q c eo
    refine sg_X5_bit_39 (cs_X5_bit_41 (m_throwing p q false false) (fun r σ2 hr => ?_))
    obtain ⟨rfl, rfl⟩ := hr
    rw [decide_eq_true c]
    refine sg_X5_bit_44 (fun c => absurd c (by decide)) (fun _ => ⟨_, rfl, ?_⟩)
    rw [eo]
    exact ⟨s14, fun d => absurd d c, MI_14 h, fm_14⟩
  refine sg_X5_bit_5 (fun c => ?_) (fun c => ?_)
  · have z : ow_ A x := of_decide_eq_true (eq_true_of_ne_false (fun z => c (b1_0.mpr z)))
    obtain ⟨j, hj, rfl, ej⟩ := ow_ix h.1 z
    have hw := MI_w h hj
    have ew := MI_sf h hj
    have bad : (k < 0 ∨ nI (wW A j) ≤ k) → o_bit A (nI j) k = (2, 0, A) := fun q => by rw [o_bit, if_pos z, ej, if_pos q]
    refine sg_X5_bit_13 (fun c => absurd rfl c) (fun _ c => sg_X5_bit_34 (out false true (by decide) (bad (Or.inl c)))) (fun _ _ => MI_in h hj) (fun _ c d => ?_) (fun _ c d => sg_X5_bit_34 (out false true (by decide) (bad (Or.inr (Int32.not_lt.mp (ew ▸ d))))))
    rw [ew] at d
    obtain ⟨m, hm, rfl⟩ := nI_of c
    rw [nI_ltI hm (by omega)] at d
    refine sg_X5_bit_38 (sg_X5_bit_39 (cs_X5_bit_41 (m_throwing false false false false) (fun r σ2 hr => ?_)))
    obtain ⟨rfl, rfl⟩ := hr
    refine sg_X5_bit_44 (fun _ => ?_) (fun c => absurd rfl c)
    refine cs_X5_bit_52 (m_bitOf (MI_14 h) hj (by omega)) (fun r σ3 hr => ?_)
    obtain ⟨rfl, rfl⟩ := hr
    have fin : ∀ y, y = b1_ ((wV A j).testBit m) → pm_ (o_bit A (nI j) (nI m)) σ1 (.inl (some (.int y))) (ui_ σ1 14 (nI (cd_ false false false false))) := by
      intro y hy
      refine ⟨_, rfl, ?_⟩
      rw [o_bit, if_pos z, ej, if_neg (by rw [nI_leI (by omega) hm]; intro q; rcases q with q | q; exact c q; omega), nI_clamp hm]
      exact ⟨s14, fun _ => hy, MI_14 h, fm_14⟩
    refine sg_X5_bit_55 (fun d => sg_X5_bit_64 rfl (fin _ ?_)) (fun d => sg_X5_bit_64 rfl (fin _ ?_))
    · rw [b1_1] at d
      rw [eq_false_of_ne_true d]; rfl
    · exact d.symm
  · have z : ¬ ow_ A x := of_decide_eq_false (b1_0.mp c)
    have no : ∀ y : Int32, y = 1 → ¬ y = 0 := fun y e c => by rw [e] at c; exact absurd c (by decide)
    refine sg_X5_bit_13 (fun _ => sg_X5_bit_38 (out true false (by decide) (by rw [o_bit, if_neg z]; rfl))) (fun c => absurd c (by decide)) (fun c => absurd c (by decide)) (fun c => absurd c (by decide)) (fun c => absurd c (by decide))
end
end
