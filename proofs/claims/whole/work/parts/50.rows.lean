/-! ===== contracts of WidthWords.Rows, as the code computes ===== -/
theorem ug_ug (σ : ks_St) (o : Nat) (g g' : Nat → Int64) : ug_ (ug_ σ o g) o g' = ug_ σ o g' := by
  unfold ug_
  congr 3
  funext j
  by_cases h : j = o <;> simp [va_up, h]
theorem uf_uf (σ : ks_St) (o : Nat) (g g' : Nat → Int32) : uf_ (uf_ σ o g) o g' = uf_ σ o g' := by
  unfold uf_
  congr 3
  funext j
  by_cases h : j = o <;> simp [va_up, h]
theorem sg_self (σ : ks_St) (o : Nat) (g : Nat → Int64) : sg_ (ug_ σ o g) o = g := by rw [sg_ug, if_pos rfl]
theorem sg_ne (σ : ks_St) {o k : Nat} (g : Nat → Int64) (h : k ≠ o) : sg_ (ug_ σ o g) k = sg_ σ k := by rw [sg_ug, if_neg h]
theorem sf_self (σ : ks_St) (o : Nat) (g : Nat → Int32) : sf_ (uf_ σ o g) o = g := by rw [sf_uf, if_pos rfl]
theorem sf_ne (σ : ks_St) {o k : Nat} (g : Nat → Int32) (h : k ≠ o) : sf_ (uf_ σ o g) k = sf_ σ k := by rw [sf_uf, if_neg h]
theorem ug_id (σ : ks_St) (o : Nat) : ug_ σ o (sg_ σ o) = σ := by
  obtain ⟨a, b, c, d⟩ := σ
  unfold ug_ sg_
  congr 3
  funext j
  by_cases h : j = o <;> simp [va_up, h]
theorem uf_id (σ : ks_St) (o : Nat) : uf_ σ o (sf_ σ o) = σ := by
  obtain ⟨a, b, c, d⟩ := σ
  unfold uf_ sf_
  congr 3
  funext j
  by_cases h : j = o <;> simp [va_up, h]
/-- a counting loop -/
theorem lp_ {S : Type} (n : Nat) (W : Nat → S → Prop) (I : Nat → S → Prop) (hs : ∀ i s, i < n → I i s → (∀ s', I (i + 1) s' → W (i + 1) s') → W i s) (hx : ∀ s, I n s → W n s) : ∀ i s, i ≤ n → I i s → W i s := by
  have key : ∀ m i s, i + m = n → I i s → W i s := by
    intro m
    induction m with
    | zero => intro i s e h; have : i = n := by omega
              subst this; exact hx s h
    | succ m ih => intro i s e h; exact hs i s (by omega) h (fun s' h' => ih (i + 1) s' (by omega) h')
  intro i s hi h
  exact key (n - i) i s (by omega) h
/-- .. and one that counts down: W i is the head with i still to do -/
theorem lpd_ {S : Type} (W : Nat → S → Prop) (I : Nat → S → Prop) (hs : ∀ i s, I (i + 1) s → (∀ s', I i s' → W i s') → W (i + 1) s) (hx : ∀ s, I 0 s → W 0 s) : ∀ i s, I i s → W i s := by
  intro i
  induction i with
  | zero => exact hx
  | succ i ih => intro s h; exact hs i s h ih
theorem nI_not {a b : Nat} (ha : a < 2 ^ 31) (hb : b < 2 ^ 31) : ¬ nI b ≤ nI a ↔ a < b := by rw [nI_leI hb ha]; omega
theorem rl_lt {o n : Nat} (h : rl_ o n) : o < 30 := h.1
/-- a row's length is small -/
theorem rl_n {o n : Nat} (h : rl_ o n) : n ≤ 4800 := by
  obtain ⟨h1, h2, -⟩ := h
  have h3 := h2 (ks_0 0)
  rcases (show o = 0 ∨ o = 1 ∨ o = 2 ∨ o = 3 ∨ o = 4 ∨ o = 5 ∨ o = 6 ∨ o = 7 ∨ o = 8 ∨ o = 9 ∨ o = 10 ∨ o = 11 ∨ o = 12 ∨ o = 13 ∨ o = 14 ∨ o = 15 ∨ o = 16 ∨ o = 17 ∨ o = 18 ∨ o = 19 ∨ o = 20 ∨ o = 21 ∨ o = 22 ∨ o = 23 ∨ o = 24 ∨ o = 25 ∨ o = 26 ∨ o = 27 ∨ o = 28 ∨ o = 29 by omega) with rfl | rfl | rfl | rfl | rfl | rfl | rfl | rfl | rfl | rfl | rfl | rfl | rfl | rfl | rfl | rfl | rfl | rfl | rfl | rfl | rfl | rfl | rfl | rfl | rfl | rfl | rfl | rfl | rfl | rfl <;> (try (simp [kh, kn, ks_l] at h3)) <;> (try omega)
section
variable {L : Nat} {xs : Nat → Int32} {σ : ks_St}
/-! maskOf -/
def km_mask (w k : Int32) : Int64 := if w - k * 64 < 64 then (if 0 < w - k * 64 then ((1 : Int64) <<< ((w - k * 64).toInt64 &&& 63)) - 1 else 0) else -1
theorem c_maskOf {w k : Int32} : ks_M L xs mX3_maskOf rm_X3_maskOf [.int w, .int k] σ (pl_ fun r σ' => r = km_mask w k ∧ σ' = σ) := by
  refine ks_body (by decide) (Nat.le_of_ble_eq_true rfl) ?_
  refine sg_X3_maskOf_0 ?_ ?_ ?_
  · intro c1 c2
    exact sg_X3_maskOf_30 ⟨_, rfl, by rw [km_mask, if_pos c1, if_pos c2], rfl⟩
  · intro c1 c2
    exact sg_X3_maskOf_30 ⟨_, rfl, by rw [km_mask, if_pos c1, if_neg c2], rfl⟩
  · intro c1
    exact ⟨_, rfl, by rw [km_mask, if_neg c1], rfl⟩
/-! clear -/
theorem c_clear {a n : Nat} (ha : rl_ a n) : ks_M L xs mX3_clear rm_X3_clear [.ref a] σ (pv_ fun σ' => σ' = ug_ σ a (fun k => if k < n then 0 else sg_ σ a k)) := by
  have hn := rl_n ha
  refine ks_body (by decide) (Nat.le_of_ble_eq_true rfl) ?_
  refine sg_X3_clear_0 ha ?_
  refine lp_ n (fun i s => ks_W L xs mX3_clear rm_X3_clear 2 [(0, .ref a), (1, .int (nI i))] [] s 0 0 _) (fun i s => s = ug_ σ a (fun k => if k < i then 0 else sg_ σ a k)) ?_ ?_ 0 σ (Nat.zero_le _) (by simp [ug_id])
  · intro i s hi e kk
    subst e
    refine sg_X3_clear_2 ha (fun c => absurd c ((nI_not (by omega) (by omega)).mpr hi)) (fun _ => vp_in_nI hi (by omega)) (fun _ => ?_)
    rw [nI_1]
    refine kk _ ?_
    rw [ug_ug, sg_self, nI_clamp (by omega)]
    congr 1
    funext k
    simp only [vp_updL]
    by_cases e : k = i
    · subst e; simp
    · by_cases e2 : k < i
      · simp [e, e2, Nat.lt_succ_of_lt e2]
      · simp [e, e2, show ¬ k < i + 1 by omega]
  · intro s e
    refine sg_X3_clear_2 ha (fun _ => ⟨rfl, e⟩) (fun c => absurd (nI_le (Nat.le_refl n) (by omega)) c) (fun c => absurd (nI_le (Nat.le_refl n) (by omega)) c)
/-! cut -/
theorem c_cut {a n : Nat} {w : Int32} (ha : rl_ a n) : ks_M L xs mX3_cut rm_X3_cut [.ref a, .int w] σ (pv_ fun σ' => σ' = ug_ σ a (fun k => if k < n then sg_ σ a k &&& km_mask w (nI k) else sg_ σ a k)) := by
  have hn := rl_n ha
  refine ks_body (by decide) (Nat.le_of_ble_eq_true rfl) ?_
  refine sg_X3_cut_0 ha ?_
  refine lp_ n (fun i s => ks_W L xs mX3_cut rm_X3_cut 2 [(0, .ref a), (1, .int w), (2, .int (nI i))] [] s 0 0 _) (fun i s => s = ug_ σ a (fun k => if k < i then sg_ σ a k &&& km_mask w (nI k) else sg_ σ a k)) ?_ ?_ 0 σ (Nat.zero_le _) (by simp [ug_id])
  · intro i s hi e kk
    subst e
    refine sg_X3_cut_2 ha (fun c => absurd c ((nI_not (by omega) (by omega)).mpr hi)) (fun _ => vp_in_nI hi (by omega)) (fun _ => ?_)
    refine cs_X3_cut_14 c_maskOf (fun r σ' hf => ?_)
    obtain ⟨rfl, rfl⟩ := hf
    refine sg_X3_cut_17 ha (vp_in_nI hi (by omega)) ?_
    rw [nI_1]
    refine kk _ ?_
    rw [ug_ug, sg_self, nI_clamp (by omega)]
    congr 1
    funext k
    simp only [vp_updL]
    by_cases e : k = i
    · subst e; simp
    · by_cases e2 : k < i
      · simp [e, e2, Nat.lt_succ_of_lt e2]
      · simp [e, e2, show ¬ k < i + 1 by omega]
  · intro s e
    refine sg_X3_cut_2 ha (fun _ => ⟨rfl, e⟩) (fun c => absurd (nI_le (Nat.le_refl n) (by omega)) c) (fun c => absurd (nI_le (Nat.le_refl n) (by omega)) c)
/-! limbOrNought -/
def km_limb (g : Nat → Int64) (n : Nat) (k : Int32) : Int64 := if k < 0 then 0 else if nI n ≤ k then 0 else g k.toNatClampNeg
theorem c_limbOrNought {a n : Nat} {k : Int32} (ha : rl_ a n) : ks_M L xs mX3_limbOrNought rm_X3_limbOrNought [.ref a, .int k] σ (pl_ fun r σ' => r = km_limb (sg_ σ a) n k ∧ σ' = σ) := by
  have hn := rl_n ha
  refine ks_body (by decide) (Nat.le_of_ble_eq_true rfl) ?_
  refine sg_X3_limbOrNought_0 ha ?_ ?_ ?_ ?_
  · intro c1
    exact sg_X3_limbOrNought_16 (sg_X3_limbOrNought_17 ⟨_, rfl, by rw [km_limb, if_pos c1], rfl⟩)
  · intro c1 c2
    exact sg_X3_limbOrNought_16 (sg_X3_limbOrNought_17 ⟨_, rfl, by rw [km_limb, if_neg c1, if_pos c2], rfl⟩)
  · intro c1 c2
    obtain ⟨j, h1, h2, -⟩ := pk_mu c1 c2 (by omega)
    rw [h2]
    exact vp_in_nI h1 (by omega)
  · intro c1 c2
    exact sg_X3_limbOrNought_17 ⟨_, rfl, by rw [km_limb, if_neg c1, if_neg c2], rfl⟩
end
