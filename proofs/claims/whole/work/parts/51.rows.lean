/-! ===== contracts of WidthWords.Rows, the rest ===== -/
theorem up_step {i : Nat} (F g : Nat → Int64) : vp_updL (fun k => if k < i then F k else g k) i (F i) = fun k => if k < i + 1 then F k else g k := by
  funext k
  simp only [vp_updL]
  by_cases e : k = i
  · subst e; simp
  · by_cases e2 : k < i
    · simp [e, e2, Nat.lt_succ_of_lt e2]
    · simp [e, e2, show ¬ k < i + 1 by omega]
/-- reading row a at the place that row o is about to be written at -/
theorem rd_step (σ : ks_St) (o a i : Nat) (F : Nat → Int64) : sg_ (ug_ σ o (fun k => if k < i then F k else sg_ σ o k)) a i = sg_ σ a i := by
  by_cases h : a = o
  · subst h; rw [sg_self]; simp
  · rw [sg_ne _ _ h]
def km_ush (x : Int64) (n : Int32) : Int64 := (x.toUInt64 >>> (n.toInt64.toUInt64 &&& Int64.toUInt64 63)).toInt64
def km_shl (x : Int64) (n : Int32) : Int64 := x <<< (n.toInt64 &&& 63)
section
variable {L : Nat} {xs : Nat → Int32} {σ : ks_St}
/-! fillFrom -/
theorem c_fillFrom {a n : Nat} {w : Int32} (ha : rl_ a n) : ks_M L xs mX3_fillFrom rm_X3_fillFrom [.ref a, .int w] σ (pv_ fun σ' => σ' = ug_ σ a (fun k => if k < n then sg_ σ a k ||| (km_mask w (nI k) ^^^ (-1)) else sg_ σ a k)) := by
  have hn := rl_n ha
  refine ks_body (by decide) (Nat.le_of_ble_eq_true rfl) ?_
  refine sg_X3_fillFrom_0 ha ?_
  refine lp_ n (fun i s => ks_W L xs mX3_fillFrom rm_X3_fillFrom 2 [(0, .ref a), (1, .int w), (2, .int (nI i))] [] s 0 0 _) (fun i s => s = ug_ σ a (fun k => if k < i then sg_ σ a k ||| (km_mask w (nI k) ^^^ (-1)) else sg_ σ a k)) ?_ ?_ 0 σ (Nat.zero_le _) (by simp [ug_id])
  · intro i s hi e kk
    subst e
    refine sg_X3_fillFrom_2 ha (fun c => absurd c ((nI_not (by omega) (by omega)).mpr hi)) (fun _ => vp_in_nI hi (by omega)) (fun _ => ?_)
    refine cs_X3_fillFrom_14 c_maskOf (fun r σ' hf => ?_)
    obtain ⟨rfl, rfl⟩ := hf
    refine sg_X3_fillFrom_17 ha (vp_in_nI hi (by omega)) ?_
    rw [nI_1]
    refine kk _ ?_
    rw [ug_ug, nI_clamp (by omega), rd_step, sg_self, up_step]
  · intro s e
    refine sg_X3_fillFrom_2 ha (fun _ => ⟨rfl, e⟩) (fun c => absurd (nI_le (Nat.le_refl n) (by omega)) c) (fun c => absurd (nI_le (Nat.le_refl n) (by omega)) c)
/-! bitOrNought -/
def km_bit (g : Nat → Int64) (n : Nat) (k : Int32) : Int32 := (km_ush (km_limb g n (k >>> ((6 : Int32) &&& 31))) (k &&& 63)).toInt32 &&& 1
theorem c_bitOrNought {a n : Nat} {k : Int32} (ha : rl_ a n) : ks_M L xs mX3_bitOrNought rm_X3_bitOrNought [.ref a, .int k] σ (pi_ fun r σ' => r = km_bit (sg_ σ a) n k ∧ σ' = σ) := by
  refine ks_body (by decide) (Nat.le_of_ble_eq_true rfl) ?_
  refine sg_X3_bitOrNought_0 ha ?_
  refine cs_X3_bitOrNought_5 (c_limbOrNought ha) (fun r σ' hf => ?_)
  obtain ⟨rfl, rfl⟩ := hf
  exact sg_X3_bitOrNought_8 ⟨_, rfl, rfl, rfl⟩
/-! bitsFrom -/
def km_bits (g : Nat → Int64) (n : Nat) (x : Int32) : Int64 :=
  if x &&& 63 = 0 then km_ush (km_limb g n (x >>> ((6 : Int32) &&& 31))) (x &&& 63)
  else km_ush (km_limb g n (x >>> ((6 : Int32) &&& 31))) (x &&& 63) ||| km_shl (km_limb g n (x >>> ((6 : Int32) &&& 31) + 1)) (64 - (x &&& 63))
theorem c_bitsFrom {a n : Nat} {x : Int32} (ha : rl_ a n) : ks_M L xs mX3_bitsFrom rm_X3_bitsFrom [.ref a, .int x] σ (pl_ fun r σ' => r = km_bits (sg_ σ a) n x ∧ σ' = σ) := by
  refine ks_body (by decide) (Nat.le_of_ble_eq_true rfl) ?_
  refine sg_X3_bitsFrom_0 ha ?_
  refine cs_X3_bitsFrom_12 (c_limbOrNought ha) (fun r σ' hf => ?_)
  obtain ⟨rfl, rfl⟩ := hf
  refine sg_X3_bitsFrom_15 ha (fun c => ?_) (fun c => ?_)
  · refine cs_X3_bitsFrom_34 (c_limbOrNought ha) (fun r σ' hf => ?_)
    obtain ⟨rfl, rfl⟩ := hf
    exact sg_X3_bitsFrom_37 (sg_X3_bitsFrom_43 ⟨_, rfl, by rw [km_bits, if_neg c]; rfl, rfl⟩)
  · exact sg_X3_bitsFrom_43 ⟨_, rfl, by rw [km_bits, if_pos c]; rfl, rfl⟩
/-! moveUp, orMovedUp -/
theorem c_moveUp {a o na no : Nat} {n : Int32} (ha : rl_ a na) (ho : rl_ o no) (hne : a ≠ o) : ks_M L xs mX3_moveUp rm_X3_moveUp [.ref a, .int n, .ref o] σ (pv_ fun σ' => σ' = ug_ σ o (fun k => if k < no then km_bits (sg_ σ a) na (nI k * 64 - n) else sg_ σ o k)) := by
  have hn := rl_n ho
  refine ks_body (by decide) (Nat.le_of_ble_eq_true rfl) ?_
  refine sg_X3_moveUp_0 ha ho ?_
  refine lp_ no (fun i s => ks_W L xs mX3_moveUp rm_X3_moveUp 2 [(0, .ref a), (1, .int n), (2, .ref o), (3, .int (nI i))] [] s 0 0 _) (fun i s => s = ug_ σ o (fun k => if k < i then km_bits (sg_ σ a) na (nI k * 64 - n) else sg_ σ o k)) ?_ ?_ 0 σ (Nat.zero_le _) (by simp [ug_id])
  · intro i s hi e kk
    subst e
    refine sg_X3_moveUp_2 ha ho (fun c => absurd c ((nI_not (by omega) (by omega)).mpr hi)) (fun _ => ?_)
    refine cs_X3_moveUp_17 (c_bitsFrom ha) (fun r σ' hf => ?_)
    obtain ⟨rfl, rfl⟩ := hf
    refine sg_X3_moveUp_20 ha ho (vp_in_nI hi (by omega)) ?_
    rw [nI_1]
    refine kk _ ?_
    rw [ug_ug, nI_clamp (by omega), sg_ne _ _ hne, sg_self]
    rw [up_step (fun k => km_bits (sg_ σ a) na (nI k * 64 - n))]
  · intro s e
    refine sg_X3_moveUp_2 ha ho (fun _ => ⟨rfl, e⟩) (fun c => absurd (nI_le (Nat.le_refl no) (by omega)) c)
theorem c_orMovedUp {a o na no : Nat} {n : Int32} (ha : rl_ a na) (ho : rl_ o no) (hne : a ≠ o) : ks_M L xs mX3_orMovedUp rm_X3_orMovedUp [.ref a, .int n, .ref o] σ (pv_ fun σ' => σ' = ug_ σ o (fun k => if k < no then sg_ σ o k ||| km_bits (sg_ σ a) na (nI k * 64 - n) else sg_ σ o k)) := by
  have hn := rl_n ho
  refine ks_body (by decide) (Nat.le_of_ble_eq_true rfl) ?_
  refine sg_X3_orMovedUp_0 ha ho ?_
  refine lp_ no (fun i s => ks_W L xs mX3_orMovedUp rm_X3_orMovedUp 2 [(0, .ref a), (1, .int n), (2, .ref o), (3, .int (nI i))] [] s 0 0 _) (fun i s => s = ug_ σ o (fun k => if k < i then sg_ σ o k ||| km_bits (sg_ σ a) na (nI k * 64 - n) else sg_ σ o k)) ?_ ?_ 0 σ (Nat.zero_le _) (by simp [ug_id])
  · intro i s hi e kk
    subst e
    refine sg_X3_orMovedUp_2 ha ho (fun c => absurd c ((nI_not (by omega) (by omega)).mpr hi)) (fun _ => vp_in_nI hi (by omega)) (fun _ => ?_)
    refine cs_X3_orMovedUp_19 (c_bitsFrom ha) (fun r σ' hf => ?_)
    obtain ⟨rfl, rfl⟩ := hf
    refine sg_X3_orMovedUp_22 ha ho (vp_in_nI hi (by omega)) ?_
    rw [nI_1]
    refine kk _ ?_
    rw [ug_ug, nI_clamp (by omega), rd_step, sg_ne _ _ hne, sg_self]
    rw [up_step (fun k => sg_ σ o k ||| km_bits (sg_ σ a) na (nI k * 64 - n))]
  · intro s e
    refine sg_X3_orMovedUp_2 ha ho (fun _ => ⟨rfl, e⟩) (fun c => absurd (nI_le (Nat.le_refl no) (by omega)) c) (fun c => absurd (nI_le (Nat.le_refl no) (by omega)) c)
/-! isNought -/
def km_or (g : Nat → Int64) : Nat → Int64
  | 0 => 0
  | k + 1 => km_or g k ||| g k
theorem c_isNought {a n : Nat} (ha : rl_ a n) : ks_M L xs mX3_isNought rm_X3_isNought [.ref a] σ (pi_ fun r σ' => r = (if km_or (sg_ σ a) n = 0 then 1 else 0) ∧ σ' = σ) := by
  have hn := rl_n ha
  refine ks_body (by decide) (Nat.le_of_ble_eq_true rfl) ?_
  refine sg_X3_isNought_0 ha ?_
  refine lp_ n (fun i s => ks_W L xs mX3_isNought rm_X3_isNought 4 [(0, .ref a), (1, .long (km_or (sg_ σ a) i)), (3, .int (nI i))] [] s 0 0 _) (fun i s => s = σ) ?_ ?_ 0 σ (Nat.zero_le _) rfl
  · intro i s hi e kk
    subst e
    refine sg_X3_isNought_4 ha (fun c => absurd c ((nI_not (by omega) (by omega)).mpr hi)) (fun c => absurd c ((nI_not (by omega) (by omega)).mpr hi)) (fun _ => vp_in_nI hi (by omega)) (fun _ => ?_)
    rw [nI_1, nI_clamp (by omega)]
    exact kk _ rfl
  · intro s e
    subst e
    refine sg_X3_isNought_4 ha (fun _ c => ?_) (fun _ c => ?_) (fun c => absurd (nI_le (Nat.le_refl n) (by omega)) c) (fun c => absurd (nI_le (Nat.le_refl n) (by omega)) c)
    · exact sg_X3_isNought_33 rfl ⟨_, rfl, by rw [if_neg (fun h => c ((lg_cmp_eq _ _).mpr h))], rfl⟩
    · exact sg_X3_isNought_33 rfl ⟨_, rfl, by rw [if_pos ((lg_cmp_eq _ _).mp c)], rfl⟩
/-! add, subtract -/
def km_addc (x y c : Int64) : Int64 := km_ush ((x &&& y) ||| ((x ||| y) &&& ((x + y + c) ^^^ (-1)))) 63
def km_cA (g1 g2 : Nat → Int64) : Nat → Int64
  | 0 => 0
  | k + 1 => km_addc (g1 k) (g2 k) (km_cA g1 g2 k)
theorem c_add {a b o na nb no : Nat} (ha : rl_ a na) (hb : rl_ b nb) (ho : rl_ o no) (h1 : 9 ≤ na) (h2 : 9 ≤ nb) (h3 : 9 ≤ no) : ks_M L xs mX3_add rm_X3_add [.ref a, .ref b, .ref o] σ (pv_ fun σ' => σ' = ug_ σ o (fun k => if k < 9 then sg_ σ a k + sg_ σ b k + km_cA (sg_ σ a) (sg_ σ b) k else sg_ σ o k)) := by
  have hna := rl_n ha
  have hnb := rl_n hb
  have hno := rl_n ho
  refine ks_body (by decide) (Nat.le_of_ble_eq_true rfl) ?_
  refine sg_X3_add_0 ha hb ho ?_
  refine lp_ 9 (fun i s => ks_W L xs mX3_add rm_X3_add 5 [(0, .ref a), (1, .ref b), (2, .ref o), (3, .long (km_cA (sg_ σ a) (sg_ σ b) i)), (5, .int (nI i))] [] s 0 0 _) (fun i s => s = ug_ σ o (fun k => if k < i then sg_ σ a k + sg_ σ b k + km_cA (sg_ σ a) (sg_ σ b) k else sg_ σ o k)) ?_ ?_ 0 σ (Nat.zero_le _) (by simp [ug_id])
  · intro i s hi e kk
    subst e
    refine sg_X3_add_5 ha hb ho (fun c => absurd (show nI 9 ≤ nI i from c) ((nI_not (by omega) (by omega)).mpr hi)) (fun _ => vp_in_nI (by omega) (by omega)) (fun _ => vp_in_nI (by omega) (by omega)) (fun _ => vp_in_nI (by omega) (by omega)) (fun _ => ?_)
    rw [nI_1, nI_clamp (by omega), rd_step, rd_step]
    refine kk _ ?_
    rw [ug_ug, sg_self]
    rw [up_step (fun k => sg_ σ a k + sg_ σ b k + km_cA (sg_ σ a) (sg_ σ b) k)]
  · intro s e
    refine sg_X3_add_5 ha hb ho (fun _ => ⟨rfl, e⟩) (fun c => absurd (show nI 9 ≤ nI 9 from nI_le (Nat.le_refl 9) (by omega)) c) (fun c => absurd (show nI 9 ≤ nI 9 from nI_le (Nat.le_refl 9) (by omega)) c) (fun c => absurd (show nI 9 ≤ nI 9 from nI_le (Nat.le_refl 9) (by omega)) c) (fun c => absurd (show nI 9 ≤ nI 9 from nI_le (Nat.le_refl 9) (by omega)) c)
def km_subc (x y c : Int64) : Int64 := km_ush (((x ^^^ (-1)) &&& y) ||| (((x ^^^ (-1)) ||| y) &&& (x - y - c))) 63
def km_cS (g1 g2 : Nat → Int64) : Nat → Int64
  | 0 => 0
  | k + 1 => km_subc (g1 k) (g2 k) (km_cS g1 g2 k)
theorem c_subtract {a b o na nb no : Nat} (ha : rl_ a na) (hb : rl_ b nb) (ho : rl_ o no) (h1 : 9 ≤ na) (h2 : 9 ≤ nb) (h3 : 9 ≤ no) : ks_M L xs mX3_subtract rm_X3_subtract [.ref a, .ref b, .ref o] σ (pv_ fun σ' => σ' = ug_ σ o (fun k => if k < 9 then sg_ σ a k - sg_ σ b k - km_cS (sg_ σ a) (sg_ σ b) k else sg_ σ o k)) := by
  have hna := rl_n ha
  have hnb := rl_n hb
  have hno := rl_n ho
  refine ks_body (by decide) (Nat.le_of_ble_eq_true rfl) ?_
  refine sg_X3_subtract_0 ha hb ho ?_
  refine lp_ 9 (fun i s => ks_W L xs mX3_subtract rm_X3_subtract 5 [(0, .ref a), (1, .ref b), (2, .ref o), (3, .long (km_cS (sg_ σ a) (sg_ σ b) i)), (5, .int (nI i))] [] s 0 0 _) (fun i s => s = ug_ σ o (fun k => if k < i then sg_ σ a k - sg_ σ b k - km_cS (sg_ σ a) (sg_ σ b) k else sg_ σ o k)) ?_ ?_ 0 σ (Nat.zero_le _) (by simp [ug_id])
  · intro i s hi e kk
    subst e
    refine sg_X3_subtract_5 ha hb ho (fun c => absurd (show nI 9 ≤ nI i from c) ((nI_not (by omega) (by omega)).mpr hi)) (fun _ => vp_in_nI (by omega) (by omega)) (fun _ => vp_in_nI (by omega) (by omega)) (fun _ => vp_in_nI (by omega) (by omega)) (fun _ => ?_)
    rw [nI_1, nI_clamp (by omega), rd_step, rd_step]
    refine kk _ ?_
    rw [ug_ug, sg_self]
    rw [up_step (fun k => sg_ σ a k - sg_ σ b k - km_cS (sg_ σ a) (sg_ σ b) k)]
  · intro s e
    refine sg_X3_subtract_5 ha hb ho (fun _ => ⟨rfl, e⟩) (fun c => absurd (show nI 9 ≤ nI 9 from nI_le (Nat.le_refl 9) (by omega)) c) (fun c => absurd (show nI 9 ≤ nI 9 from nI_le (Nat.le_refl 9) (by omega)) c) (fun c => absurd (show nI 9 ≤ nI 9 from nI_le (Nat.le_refl 9) (by omega)) c) (fun c => absurd (show nI 9 ≤ nI 9 from nI_le (Nat.le_refl 9) (by omega)) c)
/-! negate -/
def km_cN (g : Nat → Int64) : Nat → Int64
  | 0 => 1
  | k + 1 => if km_cN g k = 1 ∧ (g k ^^^ (-1)) + km_cN g k = 0 then 1 else 0
theorem c_negate {a n : Nat} {w : Int32} (ha : rl_ a n) : ks_M L xs mX3_negate rm_X3_negate [.ref a, .int w] σ (pv_ fun σ' => σ' = ug_ σ a (fun k => if k < n then ((sg_ σ a k ^^^ (-1)) + km_cN (sg_ σ a) k) &&& km_mask w (nI k) else sg_ σ a k)) := by
  have hn := rl_n ha
  refine ks_body (by decide) (Nat.le_of_ble_eq_true rfl) ?_
  refine sg_X3_negate_0 ha ?_
  refine lp_ n (fun i s => ks_W L xs mX3_negate rm_X3_negate 5 [(0, .ref a), (1, .int w), (2, .long (km_cN (sg_ σ a) i)), (4, .int (nI i))] [] s 0 0 _) (fun i s => s = ug_ σ a (fun k => if k < i then (sg_ σ a k ^^^ (-1)) + km_cN (sg_ σ a) k else sg_ σ a k)) ?_ ?_ 0 σ (Nat.zero_le _) (by simp [ug_id])
  · intro i s hi e kk
    subst e
    have hin : vp_in (nI i) n := vp_in_nI hi (by omega)
    have go : ∀ z, z = km_cN (sg_ σ a) (i + 1) → ks_W L xs mX3_negate rm_X3_negate 42 [(0, .ref a), (1, .int w), (4, .int (nI i)), (5, .long (((sg_ (ug_ σ a (fun k => if k < i then (sg_ σ a k ^^^ (-1)) + km_cN (sg_ σ a) k else sg_ σ a k)) a (nI i).toNatClampNeg) ^^^ (-1)) + km_cN (sg_ σ a) i))] [.long z] (ug_ σ a (fun k => if k < i then (sg_ σ a k ^^^ (-1)) + km_cN (sg_ σ a) k else sg_ σ a k)) 0 0 (pv_ fun σ' => σ' = ug_ σ a (fun k => if k < n then ((sg_ σ a k ^^^ (-1)) + km_cN (sg_ σ a) k) &&& km_mask w (nI k) else sg_ σ a k)) := by
      intro z hz
      subst hz
      refine sg_X3_negate_42 ha hin ?_
      rw [nI_1]
      refine kk _ ?_
      rw [ug_ug, nI_clamp (by omega), rd_step, sg_self]
      rw [up_step (fun k => (sg_ σ a k ^^^ (-1)) + km_cN (sg_ σ a) k)]
    have hrd : sg_ (ug_ σ a (fun k => if k < i then (sg_ σ a k ^^^ (-1)) + km_cN (sg_ σ a) k else sg_ σ a k)) a (nI i).toNatClampNeg = sg_ σ a i := by rw [nI_clamp (by omega), rd_step]
    refine sg_X3_negate_5 ha (fun c => absurd c ((nI_not (by omega) (by omega)).mpr hi)) (fun _ => hin) (fun _ c => ?_) (fun _ c1 c2 => ?_) (fun _ c1 c2 => ?_)
    · refine sg_X3_negate_41 ha (go 0 ?_)
      rw [km_cN, if_neg (fun h => c ((lg_cmp_eq _ _).mpr h.1))]
    · refine sg_X3_negate_41 ha (go 0 ?_)
      rw [hrd] at c2
      rw [km_cN, if_neg (fun h => c2 ((lg_cmp_eq _ _).mpr h.2))]
    · refine go 1 ?_
      rw [hrd] at c2
      rw [km_cN, if_pos ⟨(lg_cmp_eq _ _).mp c1, (lg_cmp_eq _ _).mp c2⟩]
  · intro s e
    subst e
    refine sg_X3_negate_5 ha (fun _ => ?_) (fun c => absurd (nI_le (Nat.le_refl n) (by omega)) c) (fun c => absurd (nI_le (Nat.le_refl n) (by omega)) c) (fun c => absurd (nI_le (Nat.le_refl n) (by omega)) c) (fun c => absurd (nI_le (Nat.le_refl n) (by omega)) c)
    refine cs_X3_negate_57 (c_cut ha) (fun σ' hf => ?_)
    subst hf
    refine sg_X3_negate_60 ⟨rfl, ?_⟩
    rw [ug_ug, sg_self]
    congr 1
    funext k
    by_cases h : k < n <;> simp [h]
/-! swapped, bytesReversed, bitsReversed -/
def km_sw (x m : Int64) (n : Int32) : Int64 := (km_ush x n &&& m) ||| km_shl (x &&& m) n
theorem c_swapped {x m : Int64} {n : Int32} : ks_M L xs mX3_swapped rm_X3_swapped [.long x, .long m, .int n] σ (pl_ fun r σ' => r = km_sw x m n ∧ σ' = σ) := by
  refine ks_body (by decide) (Nat.le_of_ble_eq_true rfl) ?_
  exact sg_X3_swapped_0 ⟨_, rfl, rfl, rfl⟩
def km_byR (x : Int64) : Int64 := km_sw (km_sw (km_sw x 71777214294589695 8) 281470681808895 16) 4294967295 32
theorem c_bytesReversed {x : Int64} : ks_M L xs mX3_bytesReversed rm_X3_bytesReversed [.long x] σ (pl_ fun r σ' => r = km_byR x ∧ σ' = σ) := by
  refine ks_body (by decide) (Nat.le_of_ble_eq_true rfl) ?_
  refine sg_X3_bytesReversed_0 (cs_X3_bytesReversed_6 c_swapped (fun r σ' hf => ?_))
  obtain ⟨rfl, rfl⟩ := hf
  refine sg_X3_bytesReversed_9 (cs_X3_bytesReversed_16 c_swapped (fun r σ' hf => ?_))
  obtain ⟨rfl, rfl⟩ := hf
  refine sg_X3_bytesReversed_19 (cs_X3_bytesReversed_24 c_swapped (fun r σ' hf => ?_))
  obtain ⟨rfl, rfl⟩ := hf
  exact sg_X3_bytesReversed_27 ⟨_, rfl, rfl, rfl⟩
def km_biR (x : Int64) : Int64 := km_byR (km_sw (km_sw (km_sw x 6148914691236517205 1) 3689348814741910323 2) 1085102592571150095 4)
theorem c_bitsReversed {x : Int64} : ks_M L xs mX3_bitsReversed rm_X3_bitsReversed [.long x] σ (pl_ fun r σ' => r = km_biR x ∧ σ' = σ) := by
  refine ks_body (by decide) (Nat.le_of_ble_eq_true rfl) ?_
  refine sg_X3_bitsReversed_0 (cs_X3_bitsReversed_5 c_swapped (fun r σ' hf => ?_))
  obtain ⟨rfl, rfl⟩ := hf
  refine sg_X3_bitsReversed_8 (cs_X3_bitsReversed_14 c_swapped (fun r σ' hf => ?_))
  obtain ⟨rfl, rfl⟩ := hf
  refine sg_X3_bitsReversed_17 (cs_X3_bitsReversed_25 c_swapped (fun r σ' hf => ?_))
  obtain ⟨rfl, rfl⟩ := hf
  refine cs_X3_bitsReversed_28 c_bytesReversed (fun r σ' hf => ?_)
  obtain ⟨rfl, rfl⟩ := hf
  exact sg_X3_bitsReversed_31 ⟨_, rfl, rfl, rfl⟩
end
