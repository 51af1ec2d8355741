
section
/-! ===== Rounding: one number, one answer ===== -/
def cu_ (a b : Nat) : Nat := if a = 0 then 0 else if a < b then 1 else if a = b then 2 else 3
def rc_ (f lp X D u m c : Nat) : Prop :=
  lp ≤ u ∧ m < 2 ^ (f + 1) ∧ (u = lp ∨ 2 ^ f ≤ m) ∧ m * (D * 2 ^ u) ≤ X ∧ X < (m + 1) * (D * 2 ^ u) ∧
  c = cu_ (2 * (X - m * (D * 2 ^ u))) (D * 2 ^ u)
def ap_ (M k X D : Nat) : Prop :=
  M * (D * 2 ^ k) = X ∨ (M % 2 = 1 ∧ (M - 1) * (D * 2 ^ k) < X ∧ X < (M + 1) * (D * 2 ^ k))
theorem cu_mul {a b e : Nat} (he : 0 < e) : cu_ (a * e) (b * e) = cu_ a b := by
  unfold cu_
  have h1 : a * e = 0 ↔ a = 0 := by
    constructor
    · intro h; rcases Nat.mul_eq_zero.1 h with h | h <;> omega
    · intro h; simp [h]
  have h2 : a * e < b * e ↔ a < b := Nat.mul_lt_mul_right he
  have h3 : a * e = b * e ↔ a = b := Nat.mul_left_inj (by omega)
  simp only [h1, h2, h3]
theorem rc_aux {f lp X D u m c u' m' c' : Nat} (h : rc_ f lp X D u m c) (h' : rc_ f lp X D u' m' c')
    (hlt : u < u') : False := by
  obtain ⟨a1, a2, a3, a4, a5, a6⟩ := h
  obtain ⟨b1, b2, b3, b4, b5, b6⟩ := h'
  have hm : 2 ^ f ≤ m' := by rcases b3 with h | h; omega; exact h
  have hD : 0 < D * 2 ^ u := by
    rcases Nat.eq_zero_or_pos (D * 2 ^ u) with h | h
    · rw [h] at a5; omega
    · exact h
  have h1 : 2 ^ f * (D * 2 ^ u') ≤ X := Nat.le_trans (Nat.mul_le_mul_right _ hm) b4
  have h2 : (m + 1) * (D * 2 ^ u) ≤ 2 ^ (f + 1) * (D * 2 ^ u) := Nat.mul_le_mul_right _ a2
  have h3 : 2 ^ (u + 1) ≤ 2 ^ u' := Nat.pow_le_pow_right (by decide) hlt
  have h4 : 2 ^ (f + 1) * (D * 2 ^ u) = 2 ^ f * (D * 2 ^ (u + 1)) := by
    rw [Nat.pow_succ, Nat.pow_succ]; ac_rfl
  have h5 : 2 ^ f * (D * 2 ^ (u + 1)) ≤ 2 ^ f * (D * 2 ^ u') := Nat.mul_le_mul_left _ (Nat.mul_le_mul_left _ h3)
  omega
theorem rc_uniq {f lp X D u m c u' m' c' : Nat} (h : rc_ f lp X D u m c) (h' : rc_ f lp X D u' m' c') :
    u = u' ∧ m = m' ∧ c = c' := by
  rcases Nat.lt_trichotomy u u' with h1 | h1 | h1
  · exact (rc_aux h h' h1).elim
  · subst h1
    have hm : m = m' := by
      obtain ⟨_, _, _, a4, a5, _⟩ := h
      obtain ⟨_, _, _, b4, b5, _⟩ := h'
      have x1 : m < m' + 1 := Nat.lt_of_mul_lt_mul_right (Nat.lt_of_le_of_lt a4 b5)
      have x2 : m' < m + 1 := Nat.lt_of_mul_lt_mul_right (Nat.lt_of_le_of_lt b4 a5)
      omega
    subst hm
    exact ⟨rfl, rfl, h.2.2.2.2.2.trans h'.2.2.2.2.2.symm⟩
  · exact (rc_aux h' h h1).elim
theorem ap_cut {M k X D j : Nat} (h : ap_ M k X D) (hD : 0 < D) (hj : M * (D * 2 ^ k) = X ∨ 2 ≤ j) :
    M / 2 ^ j * (D * 2 ^ (k + j)) ≤ X ∧ X < (M / 2 ^ j + 1) * (D * 2 ^ (k + j)) ∧
    cu_ (2 * (M % 2 ^ j)) (2 ^ j) = cu_ (2 * (X - M / 2 ^ j * (D * 2 ^ (k + j)))) (D * 2 ^ (k + j)) := by
  have hE0 : 0 < D * 2 ^ k := Nat.mul_pos hD (Nat.pow_pos (by decide))
  have hp : D * 2 ^ (k + j) = 2 ^ j * (D * 2 ^ k) := by rw [Nat.pow_add]; ac_rfl
  rw [hp]
  unfold ap_ at h
  generalize hE : D * 2 ^ k = E at *
  have hT : 0 < 2 ^ j := Nat.pow_pos (by decide)
  have hM : 2 ^ j * (M / 2 ^ j) + M % 2 ^ j = M := Nat.div_add_mod M (2 ^ j)
  have hr : M % 2 ^ j < 2 ^ j := Nat.mod_lt _ hT
  have hodd : 2 ≤ j → ∃ t, 2 ^ j = 4 * t := by
    intro h2; exact ⟨2 ^ (j - 2), by rw [show j = 2 + (j - 2) by omega, Nat.pow_add]; simp⟩
  generalize hm : M / 2 ^ j = m at *
  generalize hrr : M % 2 ^ j = r at *
  generalize hTT : 2 ^ j = T at *
  have e1 : m * (T * E) = T * m * E := by ac_rfl
  have e2 : (m + 1) * (T * E) = T * m * E + T * E := by rw [Nat.add_mul]; simp [e1]
  rw [e1, e2]
  have key : M * E = X → T * m * E ≤ X ∧ X < T * m * E + T * E ∧
      cu_ (2 * r) T = cu_ (2 * (X - T * m * E)) (T * E) := by
    intro hx
    have hx2 : X = T * m * E + r * E := by rw [← hx, ← hM, Nat.add_mul]
    have hlt : r * E < T * E := Nat.mul_lt_mul_of_pos_right hr hE0
    refine ⟨by omega, by omega, ?_⟩
    have : X - T * m * E = r * E := by omega
    rw [this, ← Nat.mul_assoc, cu_mul hE0]
  rcases h with hx | ⟨ho, hl, hg⟩
  · exact key hx
  · rcases hj with hx | hj
    · exact key hx
    · obtain ⟨t, ht⟩ := hodd hj
      subst ht
      have hro : r % 2 = 1 := by
        rw [← hM, show 4 * t * m = 2 * (2 * t * m) by ac_rfl] at ho
        omega
      have hl2 : (4 * t * m + (r - 1)) * E < X := by
        have : M - 1 = 4 * t * m + (r - 1) := by omega
        rwa [this] at hl
      have hg2 : X < (4 * t * m + (r + 1)) * E := by
        have : M + 1 = 4 * t * m + (r + 1) := by omega
        rwa [this] at hg
      rw [Nat.add_mul] at hl2 hg2
      generalize hQ : 4 * t * m * E = Q at *
      have hb : (r + 1) * E ≤ 4 * t * E := Nat.mul_le_mul_right _ (by omega)
      refine ⟨by omega, by omega, ?_⟩
      unfold cu_
      by_cases hc : r < 2 * t
      · have h1 : (r + 1) * E ≤ 2 * t * E := Nat.mul_le_mul_right _ (by omega)
        have h2 : 2 * (2 * t * E) = 4 * t * E := by rw [← Nat.mul_assoc, ← Nat.mul_assoc]
        rw [if_neg (by omega), if_pos (by omega), if_neg (by omega), if_pos (by omega)]
      · have h1 : 2 * t * E ≤ (r - 1) * E := Nat.mul_le_mul_right _ (by omega)
        have h2 : 2 * (2 * t * E) = 4 * t * E := by rw [← Nat.mul_assoc, ← Nat.mul_assoc]
        rw [if_neg (by omega), if_neg (by omega), if_neg (by omega), if_neg (by omega), if_neg (by omega), if_neg (by omega)]
/-- what class and model make of a whole number M at place k -/
def rm_ (M k u : Nat) : Nat := if u ≤ k then M * 2 ^ (k - u) else M / 2 ^ (u - k)
def rk_ (M k u : Nat) : Nat := if u ≤ k then 0 else cu_ (2 * (M % 2 ^ (u - k))) (2 ^ (u - k))
theorem rc_main {f lp M k X D n u : Nat} (h : ap_ M k X D) (hD : 0 < D) (h1 : 2 ^ n ≤ M) (h2 : M < 2 ^ (n + 1))
    (hu : u = if lp + f ≤ n + k then n + k - f else lp) (hx : M * (D * 2 ^ k) = X ∨ f + 2 ≤ n) :
    rc_ f lp X D u (rm_ M k u) (rk_ M k u) := by
  have hlu : lp ≤ u := by rw [hu]; split <;> omega
  have huf : n + k ≤ u + f := by rw [hu]; split <;> omega
  unfold rm_ rk_
  by_cases hk : u ≤ k
  · rw [if_pos hk, if_pos hk]
    have hX : M * (D * 2 ^ k) = X := by
      rcases hx with h | h
      · exact h
      · exfalso; rw [hu] at hk; split at hk <;> omega
    have hp : M * 2 ^ (k - u) * (D * 2 ^ u) = X := by
      rw [← hX, show 2 ^ k = 2 ^ (k - u) * 2 ^ u by rw [← Nat.pow_add]; congr 1; omega]; ac_rfl
    refine ⟨hlu, ?_, ?_, Nat.le_of_eq hp, ?_, ?_⟩
    · have : M * 2 ^ (k - u) < 2 ^ (n + 1) * 2 ^ (k - u) := Nat.mul_lt_mul_of_pos_right h2 (Nat.pow_pos (by decide))
      rw [← Nat.pow_add] at this
      exact Nat.lt_of_lt_of_le this (Nat.pow_le_pow_right (by decide) (by omega))
    · by_cases hq : lp + f ≤ n + k
      · right
        rw [if_pos hq] at hu
        have : 2 ^ n * 2 ^ (k - u) ≤ M * 2 ^ (k - u) := Nat.mul_le_mul_right _ h1
        rw [← Nat.pow_add] at this
        exact Nat.le_trans (Nat.pow_le_pow_right (by decide) (by omega)) this
      · left; rw [if_neg hq] at hu; exact hu
    · rw [Nat.add_mul, hp]
      have : 0 < D * 2 ^ u := Nat.mul_pos hD (Nat.pow_pos (by decide))
      omega
    · rw [hp, Nat.sub_self]; rfl
  · rw [if_neg hk, if_neg hk]
    have hj : M * (D * 2 ^ k) = X ∨ 2 ≤ u - k := by
      rcases hx with h | h
      · exact Or.inl h
      · right; rw [hu]; split <;> omega
    have hc := ap_cut h hD hj
    rw [show k + (u - k) = u by omega] at hc
    refine ⟨hlu, ?_, ?_, hc.1, hc.2.1, hc.2.2⟩
    · rw [Nat.div_lt_iff_lt_mul (Nat.pow_pos (by decide)), ← Nat.pow_add]
      exact Nat.lt_of_lt_of_le h2 (Nat.pow_le_pow_right (by decide) (by omega))
    · by_cases hq : lp + f ≤ n + k
      · right
        rw [if_pos hq] at hu
        rw [Nat.le_div_iff_mul_le (Nat.pow_pos (by decide)), ← Nat.pow_add]
        exact Nat.le_trans (Nat.pow_le_pow_right (by decide) (by omega)) h1
      · left; rw [if_neg hq] at hu; exact hu
theorem rc_two {f lp M k M' k' X D n n' u u' : Nat} (h : ap_ M k X D) (g : ap_ M' k' X D) (hD : 0 < D)
    (h1 : 2 ^ n ≤ M) (h2 : M < 2 ^ (n + 1)) (g1 : 2 ^ n' ≤ M') (g2 : M' < 2 ^ (n' + 1))
    (hu : u = if lp + f ≤ n + k then n + k - f else lp) (gu : u' = if lp + f ≤ n' + k' then n' + k' - f else lp)
    (hx : M * (D * 2 ^ k) = X ∨ f + 2 ≤ n) (gx : M' * (D * 2 ^ k') = X ∨ f + 2 ≤ n') :
    u = u' ∧ rm_ M k u = rm_ M' k' u' ∧ rk_ M k u = rk_ M' k' u' :=
  rc_uniq (rc_main h hD h1 h2 hu hx) (rc_main g hD g1 g2 gu gx)
end
section
/-! ===== Rounding: sums and quotients, class and model ===== -/
def ru_ (f lp M k : Nat) : Nat := if lp + f ≤ Nat.log2 M + k then Nat.log2 M + k - f else lp
/-- (M, k) and (M', k') are rounded alike -/
def rs_ (f lp M k M' k' : Nat) : Prop :=
  ru_ f lp M k = ru_ f lp M' k' ∧ rm_ M k (ru_ f lp M k) = rm_ M' k' (ru_ f lp M' k') ∧
  rk_ M k (ru_ f lp M k) = rk_ M' k' (ru_ f lp M' k')
/-- (M, k) stands for X / D -/
def aq_ (f M k X D : Nat) : Prop := 0 < M ∧ ap_ M k X D ∧ (M * (D * 2 ^ k) = X ∨ 2 ^ (f + 2) ≤ M)
theorem rs_of {f lp M k M' k' X D : Nat} (hD : 0 < D) (h : aq_ f M k X D) (g : aq_ f M' k' X D) :
    rs_ f lp M k M' k' := by
  obtain ⟨h0, h1, h2⟩ := h
  obtain ⟨g0, g1, g2⟩ := g
  exact rc_two h1 g1 hD (Nat.log2_self_le (by omega)) Nat.lt_log2_self (Nat.log2_self_le (by omega)) Nat.lt_log2_self
    rfl rfl (h2.imp id fun h => (Nat.le_log2 (by omega)).2 h) (g2.imp id fun h => (Nat.le_log2 (by omega)).2 h)
def st_ (v n : Nat) : Nat := if v % 2 ^ n = 0 then v / 2 ^ n else v / 2 ^ n + (1 - v / 2 ^ n % 2)
def sk_ (L b v : Nat) : Prop := L * 2 ^ b = v ∨ (L % 2 = 1 ∧ (L - 1) * 2 ^ b < v ∧ v < (L + 1) * 2 ^ b)
theorem st_sk (v n : Nat) : sk_ (st_ v n) n v := by
  unfold st_ sk_
  have hv := Nat.div_add_mod v (2 ^ n)
  have hr : v % 2 ^ n < 2 ^ n := Nat.mod_lt _ (Nat.pow_pos (by decide))
  generalize v / 2 ^ n = q at *
  generalize v % 2 ^ n = r at *
  generalize 2 ^ n = T at *
  have hc : T * q = q * T := Nat.mul_comm _ _
  split
  · left; omega
  · right
    rcases Nat.mod_two_eq_zero_or_one q with hq | hq
    · rw [hq]
      refine ⟨by omega, ?_, ?_⟩
      · rw [show q + (1 - 0) - 1 = q by omega]; omega
      · rw [show q + (1 - 0) + 1 = q + 1 + 1 by omega, Nat.add_mul, Nat.add_mul]; omega
    · rw [hq]
      refine ⟨by omega, ?_, ?_⟩
      · rw [show q + (1 - 1) - 1 = q - 1 by omega, Nat.sub_mul]
        have : T ≤ q * T := Nat.le_mul_of_pos_left _ (by omega)
        omega
      · rw [show q + (1 - 1) + 1 = q + 1 by omega, Nat.add_mul]; omega
theorem st_zero (v : Nat) : st_ v 0 = v := by simp [st_, Nat.mod_one]
theorem sk_one {v b : Nat} (h0 : 0 < v) (h : v < 2 ^ b) : sk_ 1 b v := by
  right
  exact ⟨rfl, by omega, by omega⟩
theorem ap_plus {H L b v p : Nat} (h : sk_ L b v) (he : L * 2 ^ b = v ∨ H % 2 = 0) :
    ap_ (H + L) (b + p) ((H * 2 ^ b + v) * 2 ^ p) 1 := by
  unfold ap_
  unfold sk_ at h
  have hP : 0 < 2 ^ p := Nat.pow_pos (by decide)
  rw [Nat.one_mul, Nat.pow_add, ← Nat.mul_assoc, ← Nat.mul_assoc, ← Nat.mul_assoc, Nat.mul_lt_mul_right hP, Nat.mul_lt_mul_right hP, Nat.mul_left_inj (by omega)]
  generalize 2 ^ b = T at *
  by_cases hx : L * T = v
  · left; rw [Nat.add_mul]; omega
  · right
    rcases h with h | ⟨h1, h2, h3⟩
    · exact (hx h).elim
    · have := he.resolve_left hx
      refine ⟨by omega, ?_, ?_⟩
      · rw [show H + L - 1 = H + (L - 1) by omega, Nat.add_mul]; omega
      · rw [show H + L + 1 = H + (L + 1) by omega, Nat.add_mul]; omega
theorem ap_minus {H L b v p : Nat} (h : sk_ L b v) (he : L * 2 ^ b = v ∨ H % 2 = 0) (hl : L < H) :
    ap_ (H - L) (b + p) ((H * 2 ^ b - v) * 2 ^ p) 1 := by
  unfold ap_
  unfold sk_ at h
  have hP : 0 < 2 ^ p := Nat.pow_pos (by decide)
  rw [Nat.one_mul, Nat.pow_add, ← Nat.mul_assoc, ← Nat.mul_assoc, ← Nat.mul_assoc, Nat.mul_lt_mul_right hP, Nat.mul_lt_mul_right hP, Nat.mul_left_inj (by omega)]
  have hT : 0 < 2 ^ b := Nat.pow_pos (by decide)
  generalize 2 ^ b = T at *
  have hm : (L + 1) * T ≤ H * T := Nat.mul_le_mul_right _ hl
  by_cases hx : L * T = v
  · left; rw [Nat.sub_mul]; omega
  · right
    rcases h with h | ⟨h1, h2, h3⟩
    · exact (hx h).elim
    · have := he.resolve_left hx
      refine ⟨by omega, ?_, ?_⟩
      · rw [show H - L - 1 = H - (L + 1) by omega, Nat.sub_mul]
        omega
      · rw [show H - L + 1 = H - (L - 1) by omega, Nat.sub_mul]; omega
theorem p24 {f : Nat} (hf : f ≤ 23) : 2 ^ (f + 1) ≤ 2 ^ 24 := Nat.pow_le_pow_right (by decide) (by omega)
theorem st_le {v n : Nat} : st_ v n ≤ v + 1 := by
  unfold st_
  have : v / 2 ^ n ≤ v := Nat.div_le_self _ _
  split <;> omega
/-- class, above each other: wh at p + a, wl at p -/
theorem aq_classP {f a p wh wl : Nat} (hf : f ≤ 23) (hl : wl < 2 ^ (f + 1)) (hn : 0 < a → 2 ^ f ≤ wh)
    (h0 : 0 < wh * 2 ^ a + wl) :
    aq_ f (wh * 2 ^ (min a 36) + st_ wl (a - min a 36)) (p + a - min a 36) ((wh * 2 ^ a + wl) * 2 ^ p) 1 := by
  by_cases ha : a ≤ 36
  · rw [Nat.min_eq_left ha, Nat.sub_self, st_zero, Nat.add_sub_cancel]
    exact ⟨h0, Or.inl (by rw [Nat.one_mul]), Or.inl (by rw [Nat.one_mul])⟩
  · rw [Nat.min_eq_right (by omega)]
    have hs := st_sk wl (a - 36)
    have hw : 2 ^ f * 2 ^ 36 ≤ wh * 2 ^ 36 := Nat.mul_le_mul_right _ (hn (by omega))
    have hq : 2 ^ (f + 2) ≤ 2 ^ f * 2 ^ 36 := by
      rw [← Nat.pow_add]; exact Nat.pow_le_pow_right (by decide) (by omega)
    have hz : 0 < 2 ^ (f + 2) := Nat.pow_pos (by decide)
    have h := ap_plus (H := wh * 2 ^ 36) (p := p) hs (Or.inr (by omega))
    rw [show (wh * 2 ^ 36) * 2 ^ (a - 36) = wh * 2 ^ a by
      rw [Nat.mul_assoc, ← Nat.pow_add]; congr 2; omega, show a - 36 + p = p + a - 36 by omega] at h
    have hy := Nat.le_trans hq (Nat.le_trans hw (Nat.le_add_right _ (st_ wl (a - 36))))
    exact ⟨Nat.lt_of_lt_of_le hz hy, h, Or.inr hy⟩
theorem aq_modelP {f a p wh wl : Nat} (hf : f ≤ 23) (hl : wl < 2 ^ (f + 1)) (hn : 0 < a → 2 ^ f ≤ wh)
    (h0 : 0 < wl) :
    aq_ f (wh * 2 ^ (if 38 < a then 15 else a) + (if 38 < a then 1 else wl)) (if 38 < a then p + a - 15 else p)
      ((wh * 2 ^ a + wl) * 2 ^ p) 1 := by
  by_cases ha : 38 < a
  · simp only [if_pos ha]
    have h24 := p24 hf
    have hs : sk_ 1 (a - 15) wl := sk_one h0 (Nat.lt_of_lt_of_le hl (Nat.le_trans h24 (Nat.pow_le_pow_right (by decide) (by omega))))
    have hw : 2 ^ f * 2 ^ 15 ≤ wh * 2 ^ 15 := Nat.mul_le_mul_right _ (hn (by omega))
    have hq : 2 ^ (f + 2) ≤ 2 ^ f * 2 ^ 15 := by
      rw [← Nat.pow_add]; exact Nat.pow_le_pow_right (by decide) (by omega)
    have h := ap_plus (H := wh * 2 ^ 15) (p := p) hs (Or.inr (by omega))
    rw [show (wh * 2 ^ 15) * 2 ^ (a - 15) = wh * 2 ^ a by
      rw [Nat.mul_assoc, ← Nat.pow_add]; congr 2; omega, show a - 15 + p = p + a - 15 by omega] at h
    have hy := Nat.le_trans hq (Nat.le_trans hw (Nat.le_add_right _ 1))
    exact ⟨Nat.succ_pos _, h, Or.inr hy⟩
  · simp only [if_neg ha]
    exact ⟨by omega, Or.inl (by rw [Nat.one_mul]), Or.inl (by rw [Nat.one_mul])⟩
theorem far_lt {f a wh wl : Nat} (hl : wl < 2 ^ (f + 1)) (hn : 2 ^ f ≤ wh) (ha : 1 ≤ a) : wl < wh * 2 ^ a := by
  have h1 : 2 ^ f * 2 ^ 1 ≤ wh * 2 ^ a := Nat.mul_le_mul hn (Nat.pow_le_pow_right (by decide) ha)
  rw [← Nat.pow_add] at h1
  omega
theorem aq_classM {f a p wh wl : Nat} (hf : f ≤ 23) (hl : wl < 2 ^ (f + 1)) (hn : 0 < a → 2 ^ f ≤ wh)
    (h0 : wl < wh * 2 ^ a) :
    st_ wl (a - min a 36) < wh * 2 ^ (min a 36) ∧
    aq_ f (wh * 2 ^ (min a 36) - st_ wl (a - min a 36)) (p + a - min a 36) ((wh * 2 ^ a - wl) * 2 ^ p) 1 := by
  by_cases ha : a ≤ 36
  · rw [Nat.min_eq_left ha, Nat.sub_self, st_zero, Nat.add_sub_cancel]
    exact ⟨h0, by omega, Or.inl (by rw [Nat.one_mul]), Or.inl (by rw [Nat.one_mul])⟩
  · rw [Nat.min_eq_right (by omega)]
    have hs := st_sk wl (a - 36)
    have hsl := @st_le wl (a - 36)
    have hw : 2 ^ f * 2 ^ 36 ≤ wh * 2 ^ 36 := Nat.mul_le_mul_right _ (hn (by omega))
    have h3 : 2 ^ f * 2 ^ 36 = 2 ^ (f + 1) * 2 ^ 35 := by rw [← Nat.pow_add, ← Nat.pow_add]
    have hq : 2 ^ (f + 2) = 2 ^ (f + 1) * 2 := by rw [← Nat.pow_succ]
    have hz : 0 < 2 ^ (f + 1) := Nat.pow_pos (by decide)
    have h := ap_minus (H := wh * 2 ^ 36) (p := p) hs (Or.inr (by omega)) (by omega)
    rw [show (wh * 2 ^ 36) * 2 ^ (a - 36) = wh * 2 ^ a by
      rw [Nat.mul_assoc, ← Nat.pow_add]; congr 2; omega, show a - 36 + p = p + a - 36 by omega] at h
    exact ⟨by omega, by omega, h, Or.inr (by omega)⟩
theorem aq_modelM {f a p wh wl : Nat} (hf : f ≤ 23) (hl : wl < 2 ^ (f + 1)) (hn : 0 < a → 2 ^ f ≤ wh)
    (h1 : 0 < wl) (h0 : wl < wh * 2 ^ a) :
    (if 38 < a then 1 else wl) < wh * 2 ^ (if 38 < a then 15 else a) ∧
    aq_ f (wh * 2 ^ (if 38 < a then 15 else a) - (if 38 < a then 1 else wl)) (if 38 < a then p + a - 15 else p)
      ((wh * 2 ^ a - wl) * 2 ^ p) 1 := by
  by_cases ha : 38 < a
  · simp only [if_pos ha]
    have h24 := p24 hf
    have hs : sk_ 1 (a - 15) wl := sk_one h1 (Nat.lt_of_lt_of_le hl (Nat.le_trans h24 (Nat.pow_le_pow_right (by decide) (by omega))))
    have hw : 2 ^ f * 2 ^ 15 ≤ wh * 2 ^ 15 := Nat.mul_le_mul_right _ (hn (by omega))
    have hq : 2 ^ (f + 2) + 1 ≤ 2 ^ f * 2 ^ 15 := by
      have : 2 ^ f * 2 ^ 15 = 2 ^ (f + 2) * 2 ^ 13 := by rw [← Nat.pow_add, ← Nat.pow_add]
      have : 0 < 2 ^ (f + 2) := Nat.pow_pos (by decide)
      omega
    have h := ap_minus (H := wh * 2 ^ 15) (p := p) hs (Or.inr (by omega)) (by omega)
    rw [show (wh * 2 ^ 15) * 2 ^ (a - 15) = wh * 2 ^ a by
      rw [Nat.mul_assoc, ← Nat.pow_add]; congr 2; omega, show a - 15 + p = p + a - 15 by omega] at h
    exact ⟨by omega, by omega, h, Or.inr (by omega)⟩
  · simp only [if_neg ha]
    exact ⟨h0, by omega, Or.inl (by rw [Nat.one_mul]), Or.inl (by rw [Nat.one_mul])⟩
theorem aq_exact {f M k : Nat} (h : 0 < M) : aq_ f M k (M * 2 ^ k) 1 :=
  ⟨h, Or.inl (by rw [Nat.one_mul]), Or.inl (by rw [Nat.one_mul])⟩
/-- quotients: wa moved up by n has q and r -/
theorem aq_classQ {f n k wa wb : Nat} (hf : f ≤ 23) (hb0 : 0 < wb) (hb : wb < 2 ^ (f + 1)) (hn : 2 ^ (f + 36) ≤ wa * 2 ^ n) :
    aq_ f (if wa * 2 ^ n % wb = 0 then wa * 2 ^ n / wb else wa * 2 ^ n / wb + (1 - wa * 2 ^ n / wb % 2)) k
      (wa * 2 ^ n * 2 ^ k) wb := by
  unfold aq_ ap_
  have hv := Nat.div_add_mod (wa * 2 ^ n) wb
  have hr : wa * 2 ^ n % wb < wb := Nat.mod_lt _ hb0
  generalize wa * 2 ^ n / wb = q at *
  generalize wa * 2 ^ n % wb = r at *
  generalize wa * 2 ^ n = N at *
  have hP : 0 < 2 ^ k := Nat.pow_pos (by decide)
  have hq : 2 ^ (f + 2) ≤ q := by
    rcases Nat.lt_or_ge q (2 ^ (f + 2)) with h | h
    · exfalso
      have h1 : (q + 1) * wb ≤ 2 ^ (f + 2) * 2 ^ (f + 1) := Nat.mul_le_mul h (by omega)
      rw [← Nat.pow_add] at h1
      have h2 : 2 ^ (f + 2 + (f + 1)) ≤ 2 ^ (f + 36) := Nat.pow_le_pow_right (by decide) (by omega)
      rw [Nat.add_mul] at h1
      have : wb * q = q * wb := Nat.mul_comm _ _
      omega
    · exact h
  have hz : 0 < 2 ^ (f + 2) := Nat.pow_pos (by decide)
  rw [← Nat.mul_assoc, ← Nat.mul_assoc, ← Nat.mul_assoc, Nat.mul_lt_mul_right hP, Nat.mul_lt_mul_right hP, Nat.mul_left_inj (by omega)]
  have hc : wb * q = q * wb := Nat.mul_comm _ _
  by_cases h0 : r = 0
  · simp only [if_pos h0]
    exact ⟨by omega, Or.inl (by omega), Or.inl (by omega)⟩
  · simp only [if_neg h0]
    refine ⟨by omega, Or.inr ?_, Or.inr (by omega)⟩
    rcases Nat.mod_two_eq_zero_or_one q with hq' | hq'
    · rw [hq', show q + (1 - 0) = q + 1 by omega]
      refine ⟨by omega, ?_, ?_⟩
      · rw [Nat.add_sub_cancel]; omega
      · rw [show q + 1 + 1 = q + 2 by omega, Nat.add_mul]; omega
    · rw [hq', show q + (1 - 1) = q by omega]
      refine ⟨by omega, ?_, ?_⟩
      · rw [Nat.sub_mul]
        have : wb ≤ q * wb := Nat.le_mul_of_pos_left _ (by omega)
        omega
      · rw [Nat.add_mul]; omega
theorem aq_modelQ {f n k wa wb : Nat} (hf : f ≤ 23) (hb0 : 0 < wb) (hb : wb < 2 ^ (f + 1)) (hn : 2 ^ 61 ≤ wa * 2 ^ n) :
    aq_ f (2 * (wa * 2 ^ n / wb / 4) + (if wa * 2 ^ n / wb % 4 = 0 ∧ wa * 2 ^ n % wb = 0 then 0 else 1)) (k + 1)
      (wa * 2 ^ n * 2 ^ k) wb := by
  unfold aq_ ap_
  have hv := Nat.div_add_mod (wa * 2 ^ n) wb
  have hr : wa * 2 ^ n % wb < wb := Nat.mod_lt _ hb0
  generalize wa * 2 ^ n / wb = q at *
  generalize wa * 2 ^ n % wb = r at *
  generalize wa * 2 ^ n = N at *
  have hP : 0 < 2 ^ k := Nat.pow_pos (by decide)
  have h24 := p24 hf
  have hq : 2 ^ 30 ≤ q := by
    rcases Nat.lt_or_ge q (2 ^ 30) with h | h
    · exfalso
      have h1 : (q + 1) * wb ≤ 2 ^ 30 * 2 ^ 24 := Nat.mul_le_mul h (by omega)
      rw [Nat.add_mul] at h1
      have : wb * q = q * wb := Nat.mul_comm _ _
      omega
    · exact h
  have hz : 2 ^ (f + 2) ≤ 2 ^ 25 := Nat.pow_le_pow_right (by decide) (by omega)
  have hd := Nat.div_add_mod q 4
  have hm : q % 4 < 4 := Nat.mod_lt _ (by decide)
  have e : ∀ x, x * (wb * 2 ^ (k + 1)) = x * 2 * wb * 2 ^ k := by intro x; rw [Nat.pow_succ]; ac_rfl
  simp only [e]
  rw [Nat.mul_lt_mul_right hP, Nat.mul_lt_mul_right hP, Nat.mul_left_inj (by omega)]
  have hc : wb * q = q * wb := Nat.mul_comm _ _
  generalize q / 4 = t at *
  generalize q % 4 = s at *
  have hc2 : q * wb = 4 * t * wb + s * wb := by rw [← hd, Nat.add_mul]
  rw [hc, hc2] at hv
  by_cases h0 : s = 0 ∧ r = 0
  · simp only [if_pos h0]
    have : (2 * t + 0) * 2 * wb = N := by
      rw [show (2 * t + 0) * 2 = 4 * t by omega]; rw [h0.1] at hv; omega
    exact ⟨by omega, Or.inl this, Or.inl this⟩
  · simp only [if_neg h0]
    refine ⟨by omega, Or.inr ⟨by omega, ?_, ?_⟩, Or.inr (by omega)⟩
    · rw [show (2 * t + 1 - 1) * 2 = 4 * t by omega]
      rcases Nat.eq_zero_or_pos s with hs | hs
      · rw [hs] at hv; omega
      · have : wb ≤ s * wb := Nat.le_mul_of_pos_left _ hs
        omega
    · rw [show (2 * t + 1 + 1) * 2 = 4 * t + 4 by omega, Nat.add_mul]
      have : s * wb ≤ 3 * wb := Nat.mul_le_mul_right _ (by omega)
      omega
end
