/-! ===== rows of digits of 32 bits as numbers ===== -/
/-- the number of the n digits of g from place p on -/
def dv_ (g : Nat → Int64) (p : Nat) : Nat → Nat
  | 0 => 0
  | n + 1 => dv_ g p n + un_ (g (p + n)) * 2 ^ (32 * n)
theorem p32 (n : Nat) : 2 ^ (32 * (n + 1)) = 2 ^ (32 * n) * 2 ^ 32 := by rw [← Nat.pow_add]; congr 1
theorem dv_lt {g : Nat → Int64} {p : Nat} : ∀ n, (∀ k, k < n → un_ (g (p + k)) < 2 ^ 32) → dv_ g p n < 2 ^ (32 * n)
  | 0, _ => by simp [dv_]
  | n + 1, h => by
    have ih := dv_lt (g := g) (p := p) n (fun k hk => h k (by omega))
    have h1 := h n (by omega)
    rw [dv_, p32]
    have h2 : (un_ (g (p + n)) + 1) * 2 ^ (32 * n) ≤ 2 ^ 32 * 2 ^ (32 * n) := Nat.mul_le_mul_right _ h1
    rw [Nat.add_mul] at h2
    rw [Nat.mul_comm (2 ^ (32 * n)) (2 ^ 32)]
    omega
theorem dv_congr {g g' : Nat → Int64} {p p' : Nat} : ∀ n, (∀ k, k < n → un_ (g (p + k)) = un_ (g' (p' + k))) → dv_ g p n = dv_ g' p' n
  | 0, _ => rfl
  | n + 1, h => by rw [dv_, dv_, dv_congr n (fun k hk => h k (by omega)), h n (by omega)]
theorem dv_add (g : Nat → Int64) (p n : Nat) : ∀ m, dv_ g p (n + m) = dv_ g p n + 2 ^ (32 * n) * dv_ g (p + n) m
  | 0 => by simp [dv_]
  | m + 1 => by
    rw [← Nat.add_assoc, dv_, dv_add g p n m, dv_, Nat.mul_add, Nat.add_assoc p n m, Nat.pow_add]
    grind
theorem dv_zero {g : Nat → Int64} {p : Nat} : ∀ n, (∀ k, k < n → g (p + k) = 0) → dv_ g p n = 0
  | 0, _ => rfl
  | n + 1, h => by rw [dv_, dv_zero n (fun k hk => h k (by omega)), h n (by omega), un_0]; simp
/-- the digits out of the number -/
theorem dv_dig {g : Nat → Int64} {p n k : Nat} (h : ∀ k, k < n → un_ (g (p + k)) < 2 ^ 32) (hk : k < n) : dv_ g p n / 2 ^ (32 * k) % 2 ^ 32 = un_ (g (p + k)) := by
  have e := dv_add g p k (n - k)
  rw [show k + (n - k) = n by omega] at e
  have e2 := dv_add g (p + k) 1 (n - k - 1)
  rw [show 1 + (n - k - 1) = n - k by omega] at e2
  have h1 := dv_lt (g := g) (p := p) k (fun j hj => h j (by omega))
  rw [e, Nat.add_mul_div_left _ _ (Nat.two_pow_pos _), Nat.div_eq_of_lt h1, Nat.zero_add, e2]
  simp only [dv_, Nat.add_zero, Nat.mul_zero, Nat.pow_zero, Nat.mul_one, Nat.zero_add]
  have h2 := h k hk
  omega
theorem dv_ltdig {g : Nat → Int64} {p n : Nat} (h : ∀ k, k < n → un_ (g (p + k)) < 2 ^ 32) {V : Nat} (e : dv_ g p n = V) : ∀ k, k < n → un_ (g (p + k)) = V / 2 ^ (32 * k) % 2 ^ 32 := fun k hk => by rw [← e, dv_dig h hk]
/-- digits of V: their number is V below -/
theorem dv_of {g : Nat → Int64} {p V : Nat} : ∀ n, (∀ k, k < n → un_ (g (p + k)) = V / 2 ^ (32 * k) % 2 ^ 32) → dv_ g p n = V % 2 ^ (32 * n)
  | 0, _ => by simp [dv_, Nat.mod_one]
  | n + 1, h => by
    rw [dv_, dv_of n (fun k hk => h k (by omega)), h n (by omega), p32, Nat.mod_mul, Nat.mul_comm (2 ^ (32 * n))]
theorem lp2_ {S T : Type} (n : Nat) (W I : Nat → S → T → Prop) (hs : ∀ i s t, i < n → I i s t → (∀ s' t', I (i + 1) s' t' → W (i + 1) s' t') → W i s t) (hx : ∀ s t, I n s t → W n s t) : ∀ i s t, i ≤ n → I i s t → W i s t := by
  intro i s t hi h
  exact lp_ (S := S × T) n (fun i p => W i p.1 p.2) (fun i p => I i p.1 p.2) (fun i p h1 h2 h3 => hs i p.1 p.2 h1 h2 (fun s' t' h => h3 (s', t') h)) (fun p h => hx p.1 p.2 h) i (s, t) hi h
theorem lp3_ {S T U : Type} (n : Nat) (W I : Nat → S → T → U → Prop) (hs : ∀ i s t u, i < n → I i s t u → (∀ s' t' u', I (i + 1) s' t' u' → W (i + 1) s' t' u') → W i s t u) (hx : ∀ s t u, I n s t u → W n s t u) : ∀ i s t u, i ≤ n → I i s t u → W i s t u := by
  intro i s t u hi h
  exact lp_ (S := S × T × U) n (fun i p => W i p.1 p.2.1 p.2.2) (fun i p => I i p.1 p.2.1 p.2.2) (fun i p h1 h2 h3 => hs i p.1 p.2.1 p.2.2 h1 h2 (fun s' t' u' h => h3 (s', t', u') h)) (fun p h => hx p.1 p.2.1 p.2.2 h) i (s, t, u) hi h
theorem lpd2_ {S T : Type} (W I : Nat → S → T → Prop) (hs : ∀ i s t, I (i + 1) s t → (∀ s' t', I i s' t' → W i s' t') → W (i + 1) s t) (hx : ∀ s t, I 0 s t → W 0 s t) : ∀ i s t, I i s t → W i s t := by
  intro i
  induction i with
  | zero => exact hx
  | succ i ih => intro s t h; exact hs i s t h ih
/-! ===== what a method leaves as it was ===== -/
def fr_ (I J F G : List Nat) (σ σ' : ks_St) : Prop := (∀ k, k ∉ I → si_ σ' k = si_ σ k) ∧ (∀ k, k ∉ J → sj_ σ' k = sj_ σ k) ∧ (∀ k, k ∉ F → sf_ σ' k = sf_ σ k) ∧ (∀ k, k ∉ G → sg_ σ' k = sg_ σ k)
theorem fr_refl {I J F G : List Nat} (σ : ks_St) : fr_ I J F G σ σ := ⟨fun _ _ => rfl, fun _ _ => rfl, fun _ _ => rfl, fun _ _ => rfl⟩
theorem fr_trans {I J F G : List Nat} {a b c : ks_St} (h : fr_ I J F G a b) (h' : fr_ I J F G b c) : fr_ I J F G a c :=
  ⟨fun k hk => (h'.1 k hk).trans (h.1 k hk), fun k hk => (h'.2.1 k hk).trans (h.2.1 k hk), fun k hk => (h'.2.2.1 k hk).trans (h.2.2.1 k hk), fun k hk => (h'.2.2.2 k hk).trans (h.2.2.2 k hk)⟩
theorem fr_mono {I J F G I' J' F' G' : List Nat} {a b : ks_St} (h : fr_ I J F G a b) (h1 : ∀ k ∈ I, k ∈ I') (h2 : ∀ k ∈ J, k ∈ J') (h3 : ∀ k ∈ F, k ∈ F') (h4 : ∀ k ∈ G, k ∈ G') : fr_ I' J' F' G' a b :=
  ⟨fun k hk => h.1 k (fun q => hk (h1 k q)), fun k hk => h.2.1 k (fun q => hk (h2 k q)), fun k hk => h.2.2.1 k (fun q => hk (h3 k q)), fun k hk => h.2.2.2 k (fun q => hk (h4 k q))⟩
theorem fr_ug {I J F G : List Nat} (σ : ks_St) {o : Nat} (g : Nat → Int64) (h : o ∈ G) : fr_ I J F G σ (ug_ σ o g) := ⟨fun _ _ => rfl, fun _ _ => rfl, fun _ _ => rfl, fun k hk => sg_ne σ g (fun e => hk (e ▸ h))⟩
theorem fr_uf {I J F G : List Nat} (σ : ks_St) {o : Nat} (g : Nat → Int32) (h : o ∈ F) : fr_ I J F G σ (uf_ σ o g) := ⟨fun _ _ => rfl, fun _ _ => rfl, fun k hk => sf_ne σ g (fun e => hk (e ▸ h)), fun _ _ => rfl⟩
theorem fr_ui {I J F G : List Nat} (σ : ks_St) {o : Nat} (v : Int32) (h : o ∈ I) : fr_ I J F G σ (ui_ σ o v) := ⟨fun k hk => by rw [si_ui, if_neg (fun e : k = o => hk (e ▸ h))], fun _ _ => rfl, fun _ _ => rfl, fun _ _ => rfl⟩
theorem fr_uj {I J F G : List Nat} (σ : ks_St) {o : Nat} (v : Int64) (h : o ∈ J) : fr_ I J F G σ (uj_ σ o v) := ⟨fun _ _ => rfl, fun k hk => by rw [sj_uj, if_neg (fun e : k = o => hk (e ▸ h))], fun _ _ => rfl, fun _ _ => rfl⟩
/-! ===== contracts of WidthWords.Digits ===== -/
theorem un_lo (x : Int64) : un_ (x &&& 4294967295) = un_ x % 2 ^ 32 := by
  rw [un_and, show un_ 4294967295 = 2 ^ 32 - 1 from rfl, Nat.and_two_pow_sub_one_eq_mod]
theorem un_hi (x : Int64) : un_ ((x.toUInt64 >>> ((32 : Int32).toInt64.toUInt64 &&& Int64.toUInt64 63)).toInt64) = un_ x / 2 ^ 32 := un_ushr x (i := 32) (by decide)
theorem un_sh32 (x : Int64) : un_ (x <<< ((32 : Int32).toInt64 &&& 63)) = un_ x * 2 ^ 32 % 2 ^ 64 := un_shll x (i := 32) (by decide)
section
variable {L : Nat} {xs : Nat → Int32} {σ : ks_St}
theorem c_digitsOf {w : Nat} (hw : w < 2 ^ 20) : ks_M L xs mX0_digitsOf rm_X0_digitsOf [.int (nI w)] σ (pi_ fun r σ' => r = nI ((w + 31) / 32) ∧ σ' = σ) := by
  refine ks_body (by decide) (Nat.le_of_ble_eq_true rfl) ?_
  refine sg_X0_digitsOf_0 ⟨_, rfl, ?_, rfl⟩
  rw [show (32 : Int32) = nI 32 from rfl, nI_add, show w + 32 = (w + 31) + 1 by omega, nI_pred, pk_div (by omega) (by omega) (by omega)]
theorem c_split {a d V : Nat} (ha : rl_ a 9) (hd : rl_ d 18) (hne : a ≠ d) (hV : rw_ (sg_ σ a) 9 V) : ks_M L xs mX0_split rm_X0_split [.ref a, .ref d] σ (pv_ fun σ' => ∃ g, σ' = ug_ σ d g ∧ ∀ k, k < 18 → un_ (g k) = V / 2 ^ (32 * k) % 2 ^ 32) := by
  refine ks_body (by decide) (Nat.le_of_ble_eq_true rfl) ?_
  refine sg_X0_split_0 ha hd ?_
  refine lp_ 9 (fun i s => ks_W L xs mX0_split rm_X0_split 2 [(0, .ref a), (1, .ref d), (2, .int (nI i))] [] s 0 0 _) (fun i s => ∃ g, s = ug_ σ d g ∧ ∀ k, k < 2 * i → un_ (g k) = V / 2 ^ (32 * k) % 2 ^ 32) ?_ ?_ 0 σ (Nat.zero_le _) ⟨_, (ug_id σ d).symm, fun k hk => by omega⟩
  · intro i s hi e kk
    obtain ⟨g, rfl, hg⟩ := e
    have e2 : 2 * nI i = nI (2 * i) := by rw [show (2 : Int32) = nI 2 from rfl, pk_mul]
    have c1 : ¬ nI 9 ≤ nI i := (nI_not (by omega) (by omega)).mpr hi
    have c2 : ¬ nI 18 ≤ 2 * nI i + 1 := by rw [e2, nI_1]; exact (nI_not (by omega) (by omega)).mpr (by omega)
    have i1 : vp_in (nI i) 9 := vp_in_nI hi (by omega)
    have i2 : vp_in (2 * nI i) 18 := by rw [e2]; exact vp_in_nI (by omega) (by omega)
    have i3 : vp_in (2 * nI i + 1) 18 := by rw [e2, nI_1]; exact vp_in_nI (by omega) (by omega)
    refine sg_X0_split_2 ha hd (fun c => absurd c c1) (fun _ c => absurd c c2) (fun _ _ => i1) (fun _ _ => i2) (fun _ _ => i1) (fun _ _ => i3) (fun _ _ => ?_)
    rw [nI_1 i, ug_ug, ug_ug, sg_self, sg_self, sg_ne _ _ hne, sg_ne _ _ hne, e2, nI_1, nI_clamp (by omega), nI_clamp (by omega), nI_clamp (by omega)]
    refine kk _ ⟨_, rfl, fun k hk => ?_⟩
    have hv := hV.2 i hi
    have hs : ∀ X : Nat, X / 2 ^ (64 * i) % 2 ^ 64 % 2 ^ 32 = X / 2 ^ (32 * (2 * i)) % 2 ^ 32 := fun X => by
      rw [show 32 * (2 * i) = 64 * i by omega]; omega
    have hs2 : ∀ X : Nat, X / 2 ^ (64 * i) % 2 ^ 64 / 2 ^ 32 = X / 2 ^ (32 * (2 * i + 1)) % 2 ^ 32 := fun X => by
      rw [show 32 * (2 * i + 1) = 64 * i + 32 by omega, Nat.pow_add, ← Nat.div_div_eq_div_mul]; omega
    simp only [vp_updL]
    by_cases q1 : k = 2 * i + 1
    · subst q1
      rw [if_pos rfl, un_hi, sg_ne _ _ hne, hv, hs2]
    · rw [if_neg q1]
      by_cases q2 : k = 2 * i
      · subst q2
        rw [if_pos rfl, un_lo, hv, hs]
      · rw [if_neg q2]
        exact hg k (by omega)
  · intro s e
    have c1 : nI 9 ≤ nI 9 := nI_le (Nat.le_refl 9) (by omega)
    exact sg_X0_split_2 ha hd (fun _ => sg_X0_split_49 ⟨rfl, e⟩) (fun c => absurd c1 c) (fun c => absurd c1 c) (fun c => absurd c1 c) (fun c => absurd c1 c) (fun c => absurd c1 c) (fun c => absurd c1 c)
theorem un_join {x y : Int64} (hx : un_ x < 2 ^ 32) (hy : un_ y < 2 ^ 32) : un_ (x ||| (y <<< ((32 : Int32).toInt64 &&& 63))) = un_ x + 2 ^ 32 * un_ y := by
  rw [un_or, un_sh32, Nat.mod_eq_of_lt (by omega), Nat.or_comm, Nat.mul_comm, ← Nat.two_pow_add_eq_or_of_lt hx]
  omega
theorem c_merge {a r nd nr : Nat} (ha : rl_ a nd) (hr : rl_ r nr) (hne : a ≠ r) (h2 : 2 * nr ≤ nd) (hdg : ∀ k, k < 2 * nr → un_ (sg_ σ a k) < 2 ^ 32) : ks_M L xs mX0_merge rm_X0_merge [.ref a, .ref r] σ (pv_ fun σ' => ∃ g, σ' = ug_ σ r g ∧ rw_ g nr (dv_ (sg_ σ a) 0 (2 * nr))) := by
  have hn := rl_n ha
  refine ks_body (by decide) (Nat.le_of_ble_eq_true rfl) ?_
  refine sg_X0_merge_0 ha hr ?_
  refine lp_ nr (fun i s => ks_W L xs mX0_merge rm_X0_merge 2 [(0, .ref a), (1, .ref r), (2, .int (nI i))] [] s 0 0 _) (fun i s => ∃ g, s = ug_ σ r g ∧ ∀ k, k < i → un_ (g k) = un_ (sg_ σ a (2 * k)) + 2 ^ 32 * un_ (sg_ σ a (2 * k + 1))) ?_ ?_ 0 σ (Nat.zero_le _) ⟨_, (ug_id σ r).symm, fun k hk => by omega⟩
  · intro i s hi e kk
    obtain ⟨g, rfl, hg⟩ := e
    have e2 : 2 * nI i = nI (2 * i) := by rw [show (2 : Int32) = nI 2 from rfl, pk_mul]
    have c1 : ¬ nI nr ≤ nI i := (nI_not (by omega) (by omega)).mpr hi
    have c2 : ¬ nI nd ≤ 2 * nI i + 1 := by rw [e2, nI_1]; exact (nI_not (by omega) (by omega)).mpr (by omega)
    have i1 : vp_in (nI i) nr := vp_in_nI hi (by omega)
    have i2 : vp_in (2 * nI i) nd := by rw [e2]; exact vp_in_nI (by omega) (by omega)
    have i3 : vp_in (2 * nI i + 1) nd := by rw [e2, nI_1]; exact vp_in_nI (by omega) (by omega)
    refine sg_X0_merge_2 ha hr (fun c => absurd c c1) (fun _ c => absurd c c2) (fun _ _ => i2) (fun _ _ => i3) (fun _ _ => i1) (fun _ _ => ?_)
    rw [nI_1 i, ug_ug, sg_self, sg_ne _ _ hne, e2, nI_1, nI_clamp (by omega), nI_clamp (by omega), nI_clamp (by omega)]
    refine kk _ ⟨_, rfl, fun k hk => ?_⟩
    simp only [vp_updL]
    by_cases q1 : k = i
    · subst q1
      rw [if_pos rfl, un_join (hdg _ (by omega)) (hdg _ (by omega))]
    · rw [if_neg q1]
      exact hg k (by omega)
  · intro s e
    obtain ⟨g, rfl, hg⟩ := e
    have c1 : nI nr ≤ nI nr := nI_le (Nat.le_refl nr) (by omega)
    refine sg_X0_merge_2 ha hr (fun _ => sg_X0_merge_43 ⟨rfl, g, rfl, ?_⟩) (fun c => absurd c1 c) (fun c => absurd c1 c) (fun c => absurd c1 c) (fun c => absurd c1 c) (fun c => absurd c1 c)
    have hdg0 : ∀ k, k < 2 * nr → un_ (sg_ σ a (0 + k)) < 2 ^ 32 := fun k hk => by rw [Nat.zero_add]; exact hdg k hk
    refine ⟨?_, fun k hk => ?_⟩
    · have := dv_lt (2 * nr) hdg0
      rw [show 64 * nr = 32 * (2 * nr) by omega]; exact this
    · have d1 := dv_dig hdg0 (show 2 * k < 2 * nr by omega)
      have d2 := dv_dig hdg0 (show 2 * k + 1 < 2 * nr by omega)
      rw [Nat.zero_add] at d1 d2
      rw [hg k hk, ← d1, ← d2, show 32 * (2 * k + 1) = 32 * (2 * k) + 32 by omega, Nat.pow_add, ← Nat.div_div_eq_div_mul, show 32 * (2 * k) = 64 * k by omega]
      omega
/-- a digit's product and two digits just fill a long -/
theorem un_mac {x l g c : Int64} (hx : un_ x < 2 ^ 32) (hl : un_ l < 2 ^ 32) (hg : un_ g < 2 ^ 32) (hc : un_ c < 2 ^ 32) : un_ (x * l + g + c) = un_ x * un_ l + un_ g + un_ c := by
  have h1 : un_ x * un_ l ≤ (2 ^ 32 - 1) * (2 ^ 32 - 1) := Nat.mul_le_mul (by omega) (by omega)
  rw [un_add3, un_mul]
  omega
theorem c_addMultiple {x : Int64} {p d : Nat} (hx : un_ x < 2 ^ 32) (hd : d ≤ 18) (hp : p + d < 32) (hl : ∀ k, k < d → un_ (sg_ σ 13 k) < 2 ^ 32) (hg : ∀ k, k < d → un_ (sg_ σ 14 (p + k)) < 2 ^ 32) :
    ks_M L xs mX0_addMultiple rm_X0_addMultiple [.ref 7, .long x, .int (nI p), .int (nI d)] σ (pv_ fun σ' => ∃ g, σ' = ug_ σ 14 g ∧ (∀ k, k < p ∨ p + d < k → g k = sg_ σ 14 k) ∧ (∀ k, k < d + 1 → un_ (g (p + k)) < 2 ^ 32) ∧ dv_ g p (d + 1) = dv_ (sg_ σ 14) p d + un_ x * dv_ (sg_ σ 13) 0 d) := by
  refine ks_body (by decide) (Nat.le_of_ble_eq_true rfl) ?_
  refine sg_X0_addMultiple_0 ?_
  refine lp2_ d (fun i s c => ks_W L xs mX0_addMultiple rm_X0_addMultiple 6 [(0, .ref 7), (1, .long x), (3, .int (nI p)), (4, .int (nI d)), (5, .long c), (7, .int (nI i))] [] s 0 0 _)
    (fun j s c => ∃ g, s = ug_ σ 14 g ∧ (∀ k, k < p ∨ p + j ≤ k → g k = sg_ σ 14 k) ∧ (∀ k, k < j → un_ (g (p + k)) < 2 ^ 32) ∧ un_ c < 2 ^ 32 ∧ dv_ g p j + un_ c * 2 ^ (32 * j) = dv_ (sg_ σ 14) p j + un_ x * dv_ (sg_ σ 13) 0 j) ?_ ?_ 0 σ 0 (Nat.zero_le _) ⟨_, (ug_id σ 14).symm, fun _ _ => rfl, fun k hk => by omega, (by rw [un_0]; decide), by simp [dv_, un_0]⟩
  · intro i s c hi e kk
    obtain ⟨g, rfl, h1, h2, h3, h4⟩ := e
    have c1 : ¬ nI d ≤ nI i := (nI_not (by omega) (by omega)).mpr hi
    have i1 : vp_in (nI i) 18 := vp_in_nI (by omega) (by omega)
    have i2 : vp_in (nI p + nI i) 32 := by rw [nI_add]; exact vp_in_nI (by omega) (by omega)
    refine sg_X0_addMultiple_6 (fun c => absurd c c1) (fun c => absurd c c1) (fun _ => i1) (fun _ => i2) (fun _ => i2) (fun _ => ?_)
    rw [nI_1, nI_add, nI_clamp (by omega), nI_clamp (by omega), sg_self, sg_ne _ _ (show 13 ≠ 14 by decide), ug_ug]
    have hgi : un_ (g (p + i)) < 2 ^ 32 := by rw [h1 _ (Or.inr (Nat.le_refl _))]; exact hg i hi
    have hX := un_mac hx (hl i hi) hgi h3
    generalize x * sg_ σ 13 i + g (p + i) + c = X at hX ⊢
    refine kk _ _ ⟨_, rfl, fun k hk => ?_, fun k hk => ?_, ?_, ?_⟩
    · simp only [vp_updL]; rw [if_neg (by omega)]; exact h1 k (by omega)
    · simp only [vp_updL]
      by_cases q : k = i
      · subst q; rw [if_pos rfl, un_lo]; omega
      · rw [if_neg (by omega)]; exact h2 k (by omega)
    · rw [un_hi]; have := un_lt X; omega
    · have e1 : dv_ (vp_updL g (p + i) (X &&& 4294967295)) p i = dv_ g p i := dv_congr i (fun k hk => by simp only [vp_updL]; rw [if_neg (by omega)])
      have e2 : vp_updL g (p + i) (X &&& 4294967295) (p + i) = X &&& 4294967295 := by simp [vp_updL]
      rw [dv_, e1, e2, un_lo, un_hi, dv_, dv_, p32, Nat.zero_add, ← h1 (p + i) (Or.inr (Nat.le_refl _))]
      have e3 := Nat.div_add_mod (un_ X) (2 ^ 32)
      generalize un_ X / 2 ^ 32 = q at e3 ⊢
      generalize un_ X % 2 ^ 32 = r at e3 ⊢
      generalize 2 ^ (32 * i) = P at h4 ⊢
      grind
  · intro s c e
    obtain ⟨g, rfl, h1, h2, h3, h4⟩ := e
    have c1 : nI d ≤ nI d := nI_le (Nat.le_refl d) (by omega)
    have i2 : vp_in (nI p + nI d) 32 := by rw [nI_add]; exact vp_in_nI (by omega) (by omega)
    refine sg_X0_addMultiple_6 (fun _ => i2) (fun _ => ?_) (fun c => absurd c1 c) (fun c => absurd c1 c) (fun c => absurd c1 c) (fun c => absurd c1 c)
    rw [nI_add, nI_clamp (by omega), sg_self, ug_ug]
    refine ⟨rfl, _, rfl, fun k hk => ?_, fun k hk => ?_, ?_⟩
    · simp only [vp_updL]; rw [if_neg (by omega)]; exact h1 k (by omega)
    · simp only [vp_updL]
      by_cases q : k = d
      · subst q; rw [if_pos rfl]; exact h3
      · rw [if_neg (by omega)]; exact h2 k (by omega)
    · have e1 : dv_ (vp_updL g (p + d) c) p d = dv_ g p d := dv_congr d (fun k hk => by simp only [vp_updL]; rw [if_neg (by omega)])
      have e2 : vp_updL g (p + d) c (p + d) = c := by simp [vp_updL]
      rw [dv_, e1, e2]; exact h4
theorem c_multiply {a b A B w : Nat} (ha : rl_ a 9) (hb : rl_ b 9) (ha1 : a ≠ 12) (hb1 : b ≠ 12) (hb2 : b ≠ 13) (hA : rw_ (sg_ σ a) 9 A) (hB : rw_ (sg_ σ b) 9 B) (hw : w ≤ 512) (hAw : A < 2 ^ w) (hBw : B < 2 ^ w) :
    ks_M L xs mX0_multiply rm_X0_multiply [.ref 7, .ref a, .ref b, .int (nI w)] σ (pv_ fun σ' => rw_ (sg_ σ' 8) 16 (A * B) ∧ fr_ [] [] [] [8, 12, 13, 14] σ σ') := by
  refine ks_body (by decide) (Nat.le_of_ble_eq_true rfl) ?_
  refine sg_X0_multiply_0 ha hb (cs_X0_multiply_1 (c_digitsOf (by omega)) (fun r σ1 h1 => ?_))
  obtain ⟨rfl, rfl⟩ := h1
  refine sg_X0_multiply_4 ha hb (cs_X0_multiply_11 (c_split ha row_12 ha1 hA) (fun σ2 h2 => ?_))
  obtain ⟨u, rfl, hu⟩ := h2
  refine sg_X0_multiply_14 hb (cs_X0_multiply_19 (c_split hb row_13 hb2 (by rw [sg_ne _ _ hb1]; exact hB)) (fun σ3 h3 => ?_))
  obtain ⟨l, rfl, hl⟩ := h3
  refine sg_X0_multiply_22 (cs_X0_multiply_26 (c_clear row_14) (fun σ4 h4 => ?_))
  subst h4
  refine sg_X0_multiply_29 ?_
  have hd : (w + 31) / 32 ≤ 16 := by omega
  have hAd : dv_ u 0 ((w + 31) / 32) = A := by
    rw [dv_of (V := A) _ (fun k hk => by rw [Nat.zero_add]; exact hu k (by omega))]
    exact Nat.mod_eq_of_lt (Nat.lt_of_lt_of_le hAw (Nat.pow_le_pow_right (by decide) (by omega)))
  have hBd : dv_ l 0 ((w + 31) / 32) = B := by
    rw [dv_of (V := B) _ (fun k hk => by rw [Nat.zero_add]; exact hl k (by omega))]
    exact Nat.mod_eq_of_lt (Nat.lt_of_lt_of_le hBw (Nat.pow_le_pow_right (by decide) (by omega)))
  generalize (w + 31) / 32 = d at hd hAd hBd ⊢
  refine lp_ d (fun i s => ks_W L xs mX0_multiply rm_X0_multiply 32 [(0, .ref 7), (4, .int (nI d)), (5, .int (nI i))] [] s 0 0 _)
    (fun i s => ∃ g, s = ug_ (ug_ (ug_ σ1 12 u) 13 l) 14 g ∧ (∀ k, k < i + d → un_ (g k) < 2 ^ 32) ∧ (∀ k, i + d ≤ k → k < 32 → g k = 0) ∧ dv_ g 0 (i + d) = dv_ u 0 i * dv_ l 0 d) ?_ ?_ 0 _ (Nat.zero_le _) ⟨_, rfl, fun k hk => by simp only [if_pos (show k < 32 by omega)]; decide, fun k _ hk => if_pos hk, ?_⟩
  · intro i s hi e kk
    obtain ⟨g, rfl, h1, h2, h3⟩ := e
    have c1 : ¬ nI d ≤ nI i := (nI_not (by omega) (by omega)).mpr hi
    have i1 : vp_in (nI i) 18 := vp_in_nI (by omega) (by omega)
    refine sg_X0_multiply_32 (fun c => absurd c c1) (fun _ => i1) (fun _ => ?_)
    have e12 : sg_ (ug_ (ug_ (ug_ σ1 12 u) 13 l) 14 g) 12 (nI i).toNatClampNeg = u i := by rw [nI_clamp (by omega), sg_ne _ _ (by decide), sg_ne _ _ (by decide), sg_self]
    have e13 : sg_ (ug_ (ug_ (ug_ σ1 12 u) 13 l) 14 g) 13 = l := by rw [sg_ne _ _ (by decide), sg_self]
    have e14 : sg_ (ug_ (ug_ (ug_ σ1 12 u) 13 l) 14 g) 14 = g := sg_self _ _ _
    rw [e12]
    refine cs_X0_multiply_51 (c_addMultiple (by rw [hu i (by omega)]; omega) (by omega) (by omega) (fun k hk => by rw [e13, hl k (by omega)]; omega) (fun k hk => by rw [e14]; exact h1 _ (by omega))) (fun σ5 h5 => ?_)
    obtain ⟨g', rfl, q1, q2, q3⟩ := h5
    rw [e14] at q1 q3
    rw [e13] at q3
    refine sg_X0_multiply_54 ?_
    rw [nI_1, ug_ug]
    refine kk _ ⟨_, rfl, fun k hk => ?_, fun k hk hk2 => ?_, ?_⟩
    · by_cases q : k < i
      · rw [q1 k (Or.inl q)]; exact h1 k (by omega)
      · have := q2 (k - i) (by omega)
        rw [show i + (k - i) = k by omega] at this
        exact this
    · rw [q1 k (Or.inr (by omega))]; exact h2 k (by omega) hk2
    · have e1 := dv_add g' 0 i (d + 1)
      have e2 := dv_add g 0 i d
      rw [Nat.zero_add] at e1 e2
      have e3 : dv_ g' 0 i = dv_ g 0 i := dv_congr i (fun k hk => by rw [Nat.zero_add, q1 k (Or.inl hk)])
      rw [show i + 1 + d = i + (d + 1) by omega, e1, e3, q3, dv_, Nat.zero_add]
      generalize 2 ^ (32 * i) = P at e2 ⊢
      rw [h3] at e2
      grind
  · intro s e
    obtain ⟨g, rfl, h1, h2, h3⟩ := e
    have c1 : nI d ≤ nI d := nI_le (Nat.le_refl d) (by omega)
    refine sg_X0_multiply_32 (fun _ => ?_) (fun c => absurd c1 c) (fun c => absurd c1 c)
    have hg32 : ∀ k, k < 32 → un_ (g k) < 2 ^ 32 := fun k hk => by
      by_cases q : k < d + d
      · exact h1 k q
      · rw [h2 k (by omega) hk]; decide
    refine cs_X0_multiply_68 (c_merge (nr := 16) row_14 row_8 (by decide) (by omega) (fun k hk => by rw [sg_self]; exact hg32 k hk)) (fun σ6 h6 => ?_)
    obtain ⟨g', rfl, q1⟩ := h6
    rw [sg_self] at q1
    refine sg_X0_multiply_71 ⟨rfl, ?_, ?_⟩
    · rw [sg_self]
      have e1 := dv_add g 0 (d + d) (32 - (d + d))
      rw [show d + d + (32 - (d + d)) = 2 * 16 by omega, dv_zero (32 - (d + d)) (fun k hk => h2 _ (by omega) (by omega)), h3, hAd, hBd] at e1
      rw [e1] at q1
      exact q1
    · exact fr_trans (fr_trans (fr_trans (fr_ug _ _ (by decide)) (fr_ug _ _ (by decide))) (fr_ug _ _ (by decide))) (fr_ug _ _ (by decide))
  · rw [Nat.zero_add, dv_zero d (fun k hk => if_pos (by omega))]
    simp [dv_]
end
