section KH
variable {L : Nat} {xs : Nat → Int32} {M : ka_Md} {R : Room} {pc q : Nat} {ls : List (Nat × Value)} {st : List Value} {h : ka_H} {N mc ms : Nat} {Q : ka_O → ka_H → Nat → Prop}
theorem ka_get {idx o ci k : Nat} {fs : List Value} {v : Value} {C : String} {T : u_T} {Nf : Nat} (hd : decode M.2.1 pc = .ok (.getfield idx, 3)) (hn : pc + 3 = q) (ho : o < N) (he : h o = .inr (ci, fs)) (hc : vwCl[ci]? = some (C, T, Nf)) (hin : ∀ w ∈ u_ws C T Nf, w ∈ ka_T) (hk : k < Nf)
    (hlink : Cond.fieldLink M.1.cls idx (T k).1 (T k).2.1 (T k).2.2.1 ∈ ka_T) (hv : fs[k]? = some v) (kk : ka_W L xs M R q ls (v :: st) h N mc ms Q) : ka_W L xs M R pc ls (.ref o :: st) h N mc ms Q := by
  subst hn
  intro l D τ b A φ0 N0 p e s m args below meth c H locs cells slots φ rls C0 hP hD hS hw hN hφ hb hl hmc hms
  obtain ⟨hx, hcb, hml, hr, hlk, hnm, htb, hown, hts, htr, hU⟩ := id C0
  exact va_get hx hcb hts hin hown hU.1 hP o (by rw [ka_w_at ho, he]; rfl) hc k hk (hts _ hlink) (fun x hx => hx) (v := ka_v φ v) (by simp [hv]) hd (kk l D τ b A φ0 N0 p e s m args below meth c H locs cells slots φ rls C0 hP hD hS hw hN hφ hb hl hmc hms)
theorem ka_wf_fs {o ci k : Nat} {fs : List Value} {v : Value} (hw : ka_wf h N) (ho : o < N) (he : h o = .inr (ci, fs)) (hr : ∀ j, v = .ref j → j < N) : ka_wf (ka_set h o (.inr (ci, fs.set k v))) N := by
  refine ka_wf_set hw (fun ci' fs' e j hj => ?_)
  cases e
  rcases List.mem_or_eq_of_mem_set hj with h1 | h1
  · exact hw o ho ci fs he j h1
  · exact hr j h1.symm
theorem ka_put {idx o ci k : Nat} {fs : List Value} {v : Value} {C : String} {T : u_T} {Nf : Nat} {ty0 : Nat → FieldType} {ty : FieldType} (hd : decode M.2.1 pc = .ok (.putfield idx, 3)) (hn : pc + 3 = q) (ho : o < N) (he : h o = .inr (ci, fs)) (hc : vwCl[ci]? = some (C, T, Nf)) (hin : ∀ w ∈ u_ws C T Nf, w ∈ ka_T)
    (hty : ∀ k, k < Nf → parseFieldDescriptor (T k).2.2.1 = some (ty0 k)) (hnm : ∀ a, a < Nf → ∀ b, b < Nf → a ≠ b → (T a).2.1 ≠ (T b).2.1) (hk : k < Nf) (hlink : Cond.fieldLink M.1.cls idx (T k).1 (T k).2.1 (T k).2.2.1 ∈ ka_T) (hfin : (T k).2.2.2 = false)
    (hp : parseFieldDescriptor (T k).2.2.1 = some ty) (hnar : ∀ φ, narrow ty (ka_v φ v) = ka_v φ v) (hfit : ∀ φ, fits ty (ka_v φ v) = true) (hrf : ∀ j, v = .ref j → j < N) (hlen : k < fs.length)
    (kk : ka_W L xs M R q ls st (ka_set h o (.inr (ci, fs.set k v))) N mc ms Q) : ka_W L xs M R pc ls (v :: .ref o :: st) h N mc ms Q := by
  subst hn
  intro l D τ b A φ0 N0 p e s m args below meth c H locs cells slots φ rls C0 hP hD hS hw hN hφ hb hl hmc hms
  obtain ⟨hx, hcb, hml, hr, hlk, hnm2, htb, hown, hts, htr, hU⟩ := id C0
  have e1 : (ka_w φ τ h N).set o (φ o, .inr (ci, (fs.map (ka_v φ)).set k (ka_v φ v))) = ka_w φ τ (ka_set h o (.inr (ci, fs.set k v))) N := by
    rw [← ka_w_set ho]
    simp only [ka_e, List.map_set]
  refine va_put hx hcb hts hin ty0 hty hnm hown hU.1 hP hD hS o (by rw [ka_w_at ho, he]; rfl) hc k hk (hts _ hlink) (fun x hx => hx) hfin hp (hnar φ) (hfit φ) (by simpa using hlen) hd (fun H1 locs1 hP1 hD1 hS1 => ?_)
  rw [e1] at hP1 hD1
  exact kk l D τ b A φ0 N0 p e s m args below meth c H1 locs1 cells slots φ rls C0 hP1 hD1 hS1 (ka_wf_fs hw ho he hrf) hN hφ hb hl hmc hms
theorem ka_putF {idx o ci k : Nat} {fs : List Value} {v : Value} {C : String} {T : u_T} {Nf : Nat} {ty0 : Nat → FieldType} {ty : FieldType} (hd : decode M.2.1 pc = .ok (.putfield idx, 3)) (hn : pc + 3 = q) (ho : o < N) (he : h o = .inr (ci, fs)) (hc : vwCl[ci]? = some (C, T, Nf)) (hin : ∀ w ∈ u_ws C T Nf, w ∈ ka_T)
    (hty : ∀ k, k < Nf → parseFieldDescriptor (T k).2.2.1 = some (ty0 k)) (hnm : ∀ a, a < Nf → ∀ b, b < Nf → a ≠ b → (T a).2.1 ≠ (T b).2.1) (hk : k < Nf) (hlink : Cond.fieldLink M.1.cls idx (T k).1 (T k).2.1 (T k).2.2.1 ∈ ka_T) (hfin : (T k).2.2.2 = true) (hini : M.1.name = "<init>") (hdecl : (T k).1 = M.1.cls)
    (hp : parseFieldDescriptor (T k).2.2.1 = some ty) (hnar : ∀ φ, narrow ty (ka_v φ v) = ka_v φ v) (hfit : ∀ φ, fits ty (ka_v φ v) = true) (hrf : ∀ j, v = .ref j → j < N) (hlen : k < fs.length)
    (kk : ka_W L xs M R q ls st (ka_set h o (.inr (ci, fs.set k v))) N mc ms Q) : ka_W L xs M R pc ls (v :: .ref o :: st) h N mc ms Q := by
  subst hn
  intro l D τ b A φ0 N0 p e s m args below meth c H locs cells slots φ rls C0 hP hD hS hw hN hφ hb hl hmc hms
  obtain ⟨hx, hcb, hml, hr, hlk, hnm2, htb, hown, hts, htr, hU⟩ := id C0
  have e1 : (ka_w φ τ h N).set o (φ o, .inr (ci, (fs.map (ka_v φ)).set k (ka_v φ v))) = ka_w φ τ (ka_set h o (.inr (ci, fs.set k v))) N := by
    rw [← ka_w_set ho]
    simp only [ka_e, List.map_set]
  refine va_putF hx hcb hts hin ty0 hty hnm hown hU.1 hP hD hS o (by rw [ka_w_at ho, he]; rfl) hc k hk (hts _ hlink) (fun x hx => hx) hfin (hnm2.trans hini) hdecl hp (hnar φ) (hfit φ) (by simpa using hlen) hd (fun H1 locs1 hP1 hD1 hS1 => ?_)
  rw [e1] at hP1 hD1
  exact kk l D τ b A φ0 N0 p e s m args below meth c H1 locs1 cells slots φ rls C0 hP1 hD1 hS1 (ka_wf_fs hw ho he hrf) hN hφ hb hl hmc hms
theorem ka_iald {o n : Nat} {f : Nat → Int32} {i : Int32} (hd : decode M.2.1 pc = .ok (.iaload, 1)) (hn : pc + 1 = q) (ho : o < N) (he : h o = .inl (0, n, .inl f)) (hi : vp_in i n) (kk : ka_W L xs M R q ls (.int (f i.toNatClampNeg) :: st) h N mc ms Q) : ka_W L xs M R pc ls (.int i :: .ref o :: st) h N mc ms Q := by
  subst hn
  intro l D τ b A φ0 N0 p e s m args below meth c H locs cells slots φ rls C0 hP hD hS hw hN hφ hb hl hmc hms
  obtain ⟨hx, hcb, hml, hr, hlk, hnm, htb, hown, hts, htr, hU⟩ := id C0
  exact va_iald hx hcb hU.1 hP o 0 (by rw [ka_w_at ho, he]; rfl) rfl hi hd (kk l D τ b A φ0 N0 p e s m args below meth c H locs cells slots φ rls C0 hP hD hS hw hN hφ hb hl hmc hms)
theorem ka_bald {o n : Nat} {f : Nat → Int32} {i : Int32} (hd : decode M.2.1 pc = .ok (.baload, 1)) (hn : pc + 1 = q) (ho : o < N) (he : h o = .inl (2, n, .inl f)) (hi : vp_in i n) (kk : ka_W L xs M R q ls (.int (f i.toNatClampNeg) :: st) h N mc ms Q) : ka_W L xs M R pc ls (.int i :: .ref o :: st) h N mc ms Q := by
  subst hn
  intro l D τ b A φ0 N0 p e s m args below meth c H locs cells slots φ rls C0 hP hD hS hw hN hφ hb hl hmc hms
  obtain ⟨hx, hcb, hml, hr, hlk, hnm, htb, hown, hts, htr, hU⟩ := id C0
  exact va_bald hx hcb hU.1 hP o 2 (by rw [ka_w_at ho, he]; rfl) rfl hi hd (kk l D τ b A φ0 N0 p e s m args below meth c H locs cells slots φ rls C0 hP hD hS hw hN hφ hb hl hmc hms)
theorem ka_lald {o n : Nat} {f : Nat → Int64} {i : Int32} (hd : decode M.2.1 pc = .ok (.laload, 1)) (hn : pc + 1 = q) (ho : o < N) (he : h o = .inl (1, n, .inr (.inl f))) (hi : vp_in i n) (kk : ka_W L xs M R q ls (.long (f i.toNatClampNeg) :: st) h N mc ms Q) : ka_W L xs M R pc ls (.int i :: .ref o :: st) h N mc ms Q := by
  subst hn
  intro l D τ b A φ0 N0 p e s m args below meth c H locs cells slots φ rls C0 hP hD hS hw hN hφ hb hl hmc hms
  obtain ⟨hx, hcb, hml, hr, hlk, hnm, htb, hown, hts, htr, hU⟩ := id C0
  exact va_lald hx hcb hU.1 hP o 1 (by rw [ka_w_at ho, he]; rfl) rfl hi hd (kk l D τ b A φ0 N0 p e s m args below meth c H locs cells slots φ rls C0 hP hD hS hw hN hφ hb hl hmc hms)
theorem ka_wf_arr {o k : Nat} {x : vp_A} (hw : ka_wf h N) : ka_wf (ka_set h o (.inl (k, x))) N := ka_wf_set hw (fun ci fs e => by cases e)
theorem ka_iast {o n : Nat} {f : Nat → Int32} {i x : Int32} (hd : decode M.2.1 pc = .ok (.iastore, 1)) (hn : pc + 1 = q) (ho : o < N) (he : h o = .inl (0, n, .inl f)) (hi : vp_in i n) (kk : ka_W L xs M R q ls st (ka_set h o (.inl (0, n, .inl (upd f i.toNatClampNeg x)))) N mc ms Q) : ka_W L xs M R pc ls (.int x :: .int i :: .ref o :: st) h N mc ms Q := by
  subst hn
  intro l D τ b A φ0 N0 p e s m args below meth c H locs cells slots φ rls C0 hP hD hS hw hN hφ hb hl hmc hms
  obtain ⟨hx, hcb, hml, hr, hlk, hnm, htb, hown, hts, htr, hU⟩ := id C0
  refine va_iast hx hcb hU.1 hP hD hS o 0 (by rw [ka_w_at ho, he]; rfl) rfl hi hd (fun H1 locs1 hP1 hD1 hS1 => ?_)
  have e1 : (ka_w φ τ h N).set o (φ o, .inl (τ 0, n, .inl (upd f i.toNatClampNeg x))) = ka_w φ τ (ka_set h o (.inl (0, n, .inl (upd f i.toNatClampNeg x)))) N := by rw [← ka_w_set ho]; rfl
  rw [e1] at hP1 hD1
  exact kk l D τ b A φ0 N0 p e s m args below meth c H1 locs1 cells slots φ rls C0 hP1 hD1 hS1 (ka_wf_arr hw) hN hφ hb hl hmc hms
theorem ka_bast {o n : Nat} {f : Nat → Int32} {i x : Int32} (hd : decode M.2.1 pc = .ok (.bastore, 1)) (hn : pc + 1 = q) (ho : o < N) (he : h o = .inl (2, n, .inl f)) (hi : vp_in i n) (kk : ka_W L xs M R q ls st (ka_set h o (.inl (2, n, .inl (upd f i.toNatClampNeg (vp_nar .byte x))))) N mc ms Q) : ka_W L xs M R pc ls (.int x :: .int i :: .ref o :: st) h N mc ms Q := by
  subst hn
  intro l D τ b A φ0 N0 p e s m args below meth c H locs cells slots φ rls C0 hP hD hS hw hN hφ hb hl hmc hms
  obtain ⟨hx, hcb, hml, hr, hlk, hnm, htb, hown, hts, htr, hU⟩ := id C0
  refine va_bast hx hcb hU.1 hP hD hS o 2 (by rw [ka_w_at ho, he]; rfl) rfl hi hd (fun H1 locs1 hP1 hD1 hS1 => ?_)
  have e1 : (ka_w φ τ h N).set o (φ o, .inl (τ 2, n, .inl (upd f i.toNatClampNeg (vp_nar .byte x)))) = ka_w φ τ (ka_set h o (.inl (2, n, .inl (upd f i.toNatClampNeg (vp_nar .byte x))))) N := by rw [← ka_w_set ho]; rfl
  rw [e1] at hP1 hD1
  exact kk l D τ b A φ0 N0 p e s m args below meth c H1 locs1 cells slots φ rls C0 hP1 hD1 hS1 (ka_wf_arr hw) hN hφ hb hl hmc hms
theorem ka_last {o n : Nat} {f : Nat → Int64} {i : Int32} {x : Int64} (hd : decode M.2.1 pc = .ok (.lastore, 1)) (hn : pc + 1 = q) (ho : o < N) (he : h o = .inl (1, n, .inr (.inl f))) (hi : vp_in i n) (kk : ka_W L xs M R q ls st (ka_set h o (.inl (1, n, .inr (.inl (vp_updL f i.toNatClampNeg x))))) N mc ms Q) : ka_W L xs M R pc ls (.long x :: .int i :: .ref o :: st) h N mc ms Q := by
  subst hn
  intro l D τ b A φ0 N0 p e s m args below meth c H locs cells slots φ rls C0 hP hD hS hw hN hφ hb hl hmc hms
  obtain ⟨hx, hcb, hml, hr, hlk, hnm, htb, hown, hts, htr, hU⟩ := id C0
  refine va_last hx hcb hU.1 hP hD hS o 1 (by rw [ka_w_at ho, he]; rfl) rfl hi hd (fun H1 locs1 hP1 hD1 hS1 => ?_)
  have e1 : (ka_w φ τ h N).set o (φ o, .inl (τ 1, n, .inr (.inl (vp_updL f i.toNatClampNeg x)))) = ka_w φ τ (ka_set h o (.inl (1, n, .inr (.inl (vp_updL f i.toNatClampNeg x))))) N := by rw [← ka_w_set ho]; rfl
  rw [e1] at hP1 hD1
  exact kk l D τ b A φ0 N0 p e s m args below meth c H1 locs1 cells slots φ rls C0 hP1 hD1 hS1 (ka_wf_arr hw) hN hφ hb hl hmc hms
theorem ka_alen {o t n : Nat} {x : (Nat → Int32) ⊕ (Nat → Int64) ⊕ (Nat → UInt32) ⊕ (Nat → UInt64) ⊕ (Nat → Option Nat)} (hd : decode M.2.1 pc = .ok (.arraylength, 1)) (hn : pc + 1 = q) (ho : o < N) (he : h o = .inl (t, n, x)) (ht : t < 3) (kk : ka_W L xs M R q ls (.int (nI n) :: st) h N mc ms Q) : ka_W L xs M R pc ls (.ref o :: st) h N mc ms Q := by
  subst hn
  intro l D τ b A φ0 N0 p e s m args below meth c H locs cells slots φ rls C0 hP hD hS hw hN hφ hb hl hmc hms
  obtain ⟨hx, hcb, hml, hr, hlk, hnm, htb, hown, hts, htr, hU⟩ := id C0
  have K := kk l D τ b A φ0 N0 p e s m args below meth c H locs cells slots φ rls C0 hP hD hS hw hN hφ hb hl hmc hms
  match t, ht, he with
  | 0, _, he => exact va_alen hx hcb hU.1 hP o 0 (x := (n, x)) (by rw [ka_w_at ho, he]; rfl) rfl rfl hd K
  | 1, _, he => exact va_alen hx hcb hU.1 hP o 1 (x := (n, x)) (by rw [ka_w_at ho, he]; rfl) rfl rfl hd K
  | 2, _, he => exact va_alen hx hcb hU.1 hP o 2 (x := (n, x)) (by rw [ka_w_at ho, he]; rfl) rfl rfl hd K
theorem ka_sld {i : Int32} (hd : decode M.2.1 pc = .ok (.iaload, 1)) (hn : pc + 1 = q) (hi : vp_in i L) (kk : ka_W L xs M R q ls (.int (xs i.toNatClampNeg) :: st) h N mc ms Q) : ka_W L xs M R pc ls (.int i :: .ref ka_S :: st) h N mc ms Q := by
  subst hn
  intro l D τ b A φ0 N0 p e s m args below meth c H locs cells slots φ rls C0 hP hD hS hw hN hφ hb hl hmc hms
  obtain ⟨hx, hcb, hml, hr, hlk, hnm, htb, hown, hts, htr, hU⟩ := id C0
  have K := kk l D τ b A φ0 N0 p e s m args below meth c H locs cells slots φ rls C0 hP hD hS hw hN hφ hb hl hmc hms
  show W p l e R s m args below meth c H locs cells slots _ (F0 m pc rls (.int i :: .ref (φ ka_S) :: st.map (ka_v φ)))
  rw [hb]
  exact va_sld hx hcb hU.2.2.1 hU.2.2.2.1 hU.2.2.2.2.1 hS hi hd K
theorem ka_slen (hd : decode M.2.1 pc = .ok (.arraylength, 1)) (hn : pc + 1 = q) (kk : ka_W L xs M R q ls (.int (nI L) :: st) h N mc ms Q) : ka_W L xs M R pc ls (.ref ka_S :: st) h N mc ms Q := by
  subst hn
  intro l D τ b A φ0 N0 p e s m args below meth c H locs cells slots φ rls C0 hP hD hS hw hN hφ hb hl hmc hms
  obtain ⟨hx, hcb, hml, hr, hlk, hnm, htb, hown, hts, htr, hU⟩ := id C0
  have K := kk l D τ b A φ0 N0 p e s m args below meth c H locs cells slots φ rls C0 hP hD hS hw hN hφ hb hl hmc hms
  show W p l e R s m args below meth c H locs cells slots _ (F0 m pc rls (.ref (φ ka_S) :: st.map (ka_v φ)))
  rw [hb]
  exact va_slen hx hcb hU.2.2.1 hU.2.2.2.1 hU.2.2.2.2.1 hS hd K
/-- a row of longs into another -/
theorem ka_copyl {idx o0 o1 n0 n1 : Nat} {f g : Nat → Int64} {sp dp n : Int32} (hd : decode M.2.1 pc = .ok (.invokestatic idx, 3)) (hn : pc + 3 = q) (hlink : Cond.methodLink M.1.cls idx arraycopyName ∈ ka_T) (hnat : Cond.native arraycopyName ∈ ka_T) (hstat : Cond.static arraycopyName ∈ ka_T) (hini : Cond.initialized "java/lang/System" ∈ ka_T)
    (ho0 : o0 < N) (he0 : h o0 = .inl (1, n0, .inr (.inl f))) (ho1 : o1 < N) (he1 : h o1 = .inl (1, n1, .inr (.inl g))) (h1 : ¬ sp < 0) (h2 : ¬ dp < 0) (h3 : ¬ n < 0) (h4 : sp.toNatClampNeg + n.toNatClampNeg ≤ n0) (h5 : dp.toNatClampNeg + n.toNatClampNeg ≤ n1)
    (hframes : 1 ≤ R.frames) (hlocals : (st.map fun v => v.category).sum + (nativeFrameWords "java/lang/System" "arraycopy" 5 + 11) ≤ R.locals)
    (kk : ka_W L xs M R q ls st (ka_set h o1 (.inl (1, n1, .inr (.inl (va_cpy f g sp.toNatClampNeg dp.toNatClampNeg n.toNatClampNeg))))) N mc ms Q) : ka_W L xs M R pc ls (.int n :: .int dp :: .ref o1 :: .int sp :: .ref o0 :: st) h N mc ms Q := by
  subst hn
  intro l D τ b A φ0 N0 p e s m args below meth c H locs cells slots φ rls C0 hP hD hS hw hN hφ hb hl hmc hms
  obtain ⟨hx, hcb, hml, hr, hlk, hnm, htb, hown, hts, htr, hU⟩ := id C0
  refine va_copyl hx hcb (hml.trans hl.1.symm) hown (hts _ hlink) (hts _ hnat) (hts _ hstat) (hts _ hini) hU.1 hP hD hS o0 o1 1 1 (ty := .long) (by rw [ka_w_at ho0, he0]; rfl) (by rw [ka_w_at ho1, he1]; rfl) rfl rfl rfl h1 h2 h3 h4 h5 (fun _ _ => rfl) hframes (by rw [ka_st_cat]; exact hlocals) hd (fun H1 locs1 hP1 hD1 hS1 => ?_)
  have e1 : (ka_w φ τ h N).set o1 (φ o1, .inl (τ 1, n1, .inr (.inl (va_cpy f g sp.toNatClampNeg dp.toNatClampNeg n.toNatClampNeg)))) = ka_w φ τ (ka_set h o1 (.inl (1, n1, .inr (.inl (va_cpy f g sp.toNatClampNeg dp.toNatClampNeg n.toNatClampNeg))))) N := by rw [← ka_w_set ho1]; rfl
  rw [e1] at hP1 hD1
  exact kk l D τ b A φ0 N0 p e s m args below meth c H1 locs1 cells slots φ rls C0 hP1 hD1 hS1 (ka_wf_arr hw) hN hφ hb hl hmc hms
/-- Object's constructor -/
theorem ka_obj {idx o : Nat} (hd : decode M.2.1 pc = .ok (.invokespecial idx, 3)) (hn : pc + 3 = q) (hlink : Cond.methodLink M.1.cls idx objectInit ∈ ka_T) (hinst : Cond.instanceMethod objectInit ∈ ka_T) (hcode : Cond.code objectInit ⟨#[0xb1]⟩ 1 none ∈ ka_T) (hframes : 1 ≤ R.frames) (hlocals : (st.map fun v => v.category).sum + 12 ≤ R.locals)
    (kk : ka_W L xs M R q ls st h N mc ms Q) : ka_W L xs M R pc ls (.ref o :: st) h N mc ms Q := by
  subst hn
  intro l D τ b A φ0 N0 p e s m args below meth c H locs cells slots φ rls C0 hP hD hS hw hN hφ hb hl hmc hms
  obtain ⟨hx, hcb, hml, hr, hlk, hnm, htb, hown, hts, htr, hU⟩ := id C0
  refine W.objInit hx hcb hown (hts _ hlink) (hts _ hinst) (hts _ hcode) rfl (hl.1.trans hml.symm) (rest := st.map (ka_v φ)) rfl hd hframes ?_ (kk l D τ b A φ0 N0 p e s m args below meth c H locs cells slots φ rls C0 hP hD hS hw hN hφ hb hl hmc hms)
  rw [ka_st_cat]
  have h0 : (F0 m pc rls (List.map (ka_v φ) (Value.ref o :: st))).monitorRoom = 0 := rfl
  rw [h0]
  omega
end KH
