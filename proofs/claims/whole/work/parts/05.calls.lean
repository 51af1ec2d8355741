section KC
variable {L : Nat} {xs : Nat → Int32} {M : ka_Md} {R : Room} {pc q : Nat} {ls : List (Nat × Value)} {st : List Value} {h : ka_H} {N mc ms : Nat} {Q : ka_O → ka_H → Nat → Prop}
/-! ends -/
theorem ka_end {D : va_G} {τ : Nat → ClassId} {A : Nat → Prop} {φ0 φ : Nat → Nat} {N0 : Nat} {s t : State} {args : Array Value} {H : Heap} {locs : List Loc} {v : Option Value} (hP : va_P D vwCl (ka_w φ τ h N) H) (hD : va_D A (ka_w φ τ h N)) (hS : va_S A s.heap H locs) (hw : ka_wf h N) (hN : N0 ≤ N) (hφ : ∀ k, k < N0 ∨ N ≤ k → φ k = φ0 k) (hq : Q (.inl v) h N) (ht : t.heap = H) :
    ka_Qc D τ A φ0 N0 Q args s (.returned (v.map (ka_v φ))) t :=
  ⟨⟨v, h, N, φ, rfl, hq, by rw [ht]; exact hP, hD, hw, hN, hφ⟩, hS.F ht⟩
theorem ka_iret {x : Int32} (hd : decode M.2.1 pc = .ok (.ireturn, 1)) {ty : FieldType} (hr : M.2.2.2.1 = some ty) (hnar : narrow ty (.int x) = .int x) (hq : Q (.inl (some (.int x))) h N) : ka_W L xs M R pc ls [.int x] h N mc ms Q := by
  intro l D τ b A φ0 N0 p e s m args below meth c H locs cells slots φ rls C0 hP hD hS hw hN hφ hb hl hmc hms
  obtain ⟨hx, hcb, hml, hr0, hlk, hnm, htb, hown, hts, htr, hU⟩ := id C0
  refine W.widen (k := R.cells) (n := R.slots) (by omega) (by omega) (vx_ret ?_)
  exact W.zret hx hcb (hr0.trans hr) hnar (fun t ht _ => ka_end (v := some (.int x)) hP hD hS hw hN hφ hq ht) (fun z hz => hS.2.2 z hz) hd hlk
theorem ka_lret {x : Int64} (hd : decode M.2.1 pc = .ok (.lreturn, 1)) (hr : M.2.2.2.1 = some .long) (hq : Q (.inl (some (.long x))) h N) : ka_W L xs M R pc ls [.long x] h N mc ms Q := by
  intro l D τ b A φ0 N0 p e s m args below meth c H locs cells slots φ rls C0 hP hD hS hw hN hφ hb hl hmc hms
  obtain ⟨hx, hcb, hml, hr0, hlk, hnm, htb, hown, hts, htr, hU⟩ := id C0
  refine W.widen (k := R.cells) (n := R.slots) (by omega) (by omega) (vx_ret ?_)
  exact W.lret hx hcb (hr0.trans hr) (fun t ht _ => ka_end (v := some (.long x)) hP hD hS hw hN hφ hq ht) (fun z hz => hS.2.2 z hz) hd hlk
theorem ka_vret (hd : decode M.2.1 pc = .ok (.return_, 1)) (hr : M.2.2.2.1 = none) (hq : Q (.inl none) h N) : ka_W L xs M R pc ls [] h N mc ms Q := by
  intro l D τ b A φ0 N0 p e s m args below meth c H locs cells slots φ rls C0 hP hD hS hw hN hφ hb hl hmc hms
  obtain ⟨hx, hcb, hml, hr0, hlk, hnm, htb, hown, hts, htr, hU⟩ := id C0
  refine W.widen (k := R.cells) (n := R.slots) (by omega) (by omega) (vx_ret ?_)
  exact W.vret hx hcb (hr0.trans hr) (fun t ht _ => ka_end (v := none) hP hD hS hw hN hφ hq ht) (fun z hz => hS.2.2 z hz) hd hlk
/-! things that are made -/
def ka_okv (N : Nat) (v : Value) : Bool := match v with
  | .ref j => decide (j < N) || decide (j = ka_S)
  | _ => true
theorem ka_okv_ref {N j : Nat} (h : ka_okv N (.ref j) = true) : j < N ∨ j = ka_S := by simpa [ka_okv] using h
theorem ka_new {idx ci Nf : Nat} {fs : List Value} {C : String} {T : u_T} {ty : Nat → FieldType} (hd : decode M.2.1 pc = .ok (.new idx, 3)) (hn : pc + 3 = q) (hin : ∀ w ∈ u_ws C T Nf, w ∈ ka_T) (hty : ∀ k, k < Nf → parseFieldDescriptor (T k).2.2.1 = some (ty k)) (hc : vwCl[ci]? = some (C, T, Nf))
    (hcl : Cond.classLink M.1.cls idx C ∈ ka_T) (hinst : Cond.instantiable C Nf ∈ ka_T) (hini : Cond.initialized C ∈ ka_T) (hfs : ∀ j, j < Nf → defaultValue (ty j) = vp_V fs j) (hnr : fs.all (fun v => match v with | .ref _ => false | _ => true) = true) (hNS : N < ka_S) (hls : ls.all (fun q => ka_okv N q.2) = true) (hst : st.all (ka_okv N) = true)
    (kk : ka_W L xs M R q ls (.ref N :: st) (ka_set h N (.inr (ci, fs))) (N + 1) mc ms Q) : ka_W L xs M R pc ls st h N (mc + 1) (ms + Nf) Q := by
  subst hn
  intro l D τ b A φ0 N0 p e s m args below meth c H locs cells slots φ rls C0 hP hD hS hw hN hφ hb hl hmc hms
  obtain ⟨hx, hcb, hml, hr, hlk, hnm, htb, hown, hts, htr, hU⟩ := id C0
  have hnr' : ∀ j, Value.ref j ∉ fs := fun j hj => by
    have := List.all_eq_true.mp hnr _ hj
    simp at this
  have hmap : ∀ ψ : Nat → Nat, fs.map (ka_v ψ) = fs := fun ψ => by
    have : fs.map (ka_v ψ) = fs.map id := List.map_congr_left (fun v hv => by
      cases v with
      | ref j => exact absurd hv (hnr' j)
      | _ => rfl)
    rw [this, List.map_id]
  refine va_new hx hcb hts hin ty hty hown (hts _ hcl) (hts _ hinst) (hts _ hini) hU.1 hP hD hS hU.2.1 hc (fs := fs) hfs (by omega) (by omega) hd (fun qn H1 hP1 hD1 hS1 => ?_)
  have hpush := ka_w_push (φ := φ) (τ := τ) (q := qn) (e := .inr (ci, fs)) hw (fun ci' fs' e j hj => by cases e; exact absurd hj (hnr' j))
  have e0 : ka_e φ τ (.inr (ci, fs)) = .inr (ci, fs) := by simp only [ka_e, hmap φ]
  rw [e0] at hpush
  rw [hpush] at hP1 hD1
  have hne : ∀ v, ka_okv N v = true → ka_v (fun k => if k = N then qn else φ k) v = ka_v φ v := fun v hv => ka_v_same (fun j e => by
    subst e
    rcases ka_okv_ref hv with h1 | h1
    · exact if_neg (Nat.ne_of_lt h1)
    · exact if_neg (by omega))
  have hst' : st.map (ka_v φ) = st.map (ka_v (fun k => if k = N then qn else φ k)) := List.map_congr_left (fun v hv => (hne v (List.all_eq_true.mp hst v hv)).symm)
  have hl' : lv_has rls M.2.2.1 (ka_loc (fun k => if k = N then qn else φ k) ls) := by
    have : ka_loc (fun k => if k = N then qn else φ k) ls = ka_loc φ ls := List.map_congr_left (fun z hz => by rw [hne z.2 (List.all_eq_true.mp hls z hz)])
    rw [this]; exact hl
  have K := kk l D τ b A φ0 N0 p e s m args below meth c H1 locs (cells + 1) (slots + Nf) (fun k => if k = N then qn else φ k) rls C0 hP1 hD1 hS1 (ka_wf_push hw (fun ci' fs' e j hj => by cases e; exact absurd hj (hnr' j))) (by omega)
    (fun k hk => by
      have hkN : k ≠ N := by omega
      simp only [if_neg hkN]
      exact hφ k (by omega)) (by
      have hkN : ka_S ≠ N := by omega
      simp only [if_neg hkN]
      exact hb) hl' (by omega) (by omega)
  have e2 : List.map (ka_v (fun k => if k = N then qn else φ k)) (.ref N :: st) = .ref qn :: st.map (ka_v φ) := by
    rw [List.map_cons, ← hst']
    simp [ka_v]
  rw [e2] at K
  exact K
/-- an array of numbers; t: 0 int, 1 long, 2 byte -/
def ka_dt (t : Nat) : FieldType := match t with
  | 0 => .int
  | 1 => .long
  | _ => .byte
def ka_da (t n : Nat) : vp_A := match t with
  | 1 => (n, .inr (.inl (fun _ => 0)))
  | _ => (n, .inl (fun _ => 0))
theorem ka_da_cell (t n : Nat) (ht : t < 3) (cA : ClassId) : vp_cell cA (ka_da t n) = arrV cA n (fun _ => defaultValue (ka_dt t)) := by
  match t, ht with
  | 0, _ => rfl
  | 1, _ => rfl
  | 2, _ => rfl
theorem ka_newa {atype : ArrayType} {t n : Nat} {x : Int32} (hd : decode M.2.1 pc = .ok (.newarray atype, 2)) (hn : pc + 2 = q) (ht : t < 3) (hat : newarray.typeOf atype = ka_dt t) (hw0 : Cond.arrayClass (newarray.typeOf atype) ∈ ka_T) (hx0 : ¬ x < 0) (hxn : x.toNatClampNeg = n) (hbytes : n * componentBytes (ka_dt t) ≤ 536870912)
    (hNS : N < ka_S) (hls : ls.all (fun q => ka_okv N q.2) = true) (hst : st.all (ka_okv N) = true)
    (kk : ka_W L xs M R q ls (.ref N :: st) (ka_set h N (.inl (t, ka_da t n))) (N + 1) mc ms Q) : ka_W L xs M R pc ls (.int x :: st) h N (mc + 1) (ms + n) Q := by
  subst hn
  intro l D τ b A φ0 N0 p e s m args below meth c H locs cells slots φ rls C0 hP hD hS hw hN hφ hb hl hmc hms
  obtain ⟨hx, hcb, hml, hr, hlk, hnm, htb, hown, hts, htr, hU⟩ := id C0
  refine va_newaK hx hcb (hts _ hw0) (g := F0 m pc rls (List.map (ka_v φ) (.int x :: st))) rfl hd (rest := st.map (ka_v φ)) rfl hx0 hxn (by rw [hat]; exact hbytes) (by omega) (by omega) rfl (fun H1 cA e1 z1 o1 hAr hNm => ?_)
  have hcA : cA = τ t := by
    rw [hat] at hNm
    obtain ⟨-, -, -, -, -, -, -, -, u1, u2, u3, -, -⟩ := hU
    match t, ht with
    | 0, _ => exact Option.some.inj (hNm.symm.trans u1)
    | 1, _ => exact Option.some.inj (hNm.symm.trans u2)
    | 2, _ => exact Option.some.inj (hNm.symm.trans u3)
  subst hcA
  have hk : ∀ (k : Nat) (x : Nat × va_E), (ka_w φ τ h N)[k]? = some x → H1[x.1]? = H[x.1]? := fun k x hx => o1 x.1 ((hP k x hx).lt)
  have hP1 : va_P D vwCl (ka_w φ τ h N ++ [(H.size, .inl (τ t, ka_da t n))]) H1 := (hP.kept hk).app (fun k x hx => by
    have hz : k < 1 := (List.getElem?_eq_some_iff.mp hx).1
    rw [show k = 0 by omega] at hx
    cases hx
    show H1[H.size]? = some (vp_cell _ _)
    rw [ka_da_cell t n ht, ← hat]
    exact e1)
  have hD1 : va_D A (ka_w φ τ h N ++ [(H.size, .inl (τ t, ka_da t n))]) := hD.push hP rfl (hU.2.1 _ hS.1)
  have hS1 : va_S A s.heap H1 locs := ⟨Nat.le_trans hS.1 (by omega), fun x h1 h2 => (o1 x (Nat.lt_of_lt_of_le h1 hS.1)).trans (hS.2.1 x h1 h2), hS.2.2⟩
  have hpush := ka_w_push (φ := φ) (τ := τ) (q := H.size) (e := .inl (t, ka_da t n)) hw (fun ci' fs' e j hj => by cases e)
  have e0 : ka_e φ τ (.inl (t, ka_da t n)) = .inl (τ t, ka_da t n) := rfl
  rw [e0] at hpush
  rw [hpush] at hP1 hD1
  have hne : ∀ v, ka_okv N v = true → ka_v (fun k => if k = N then H.size else φ k) v = ka_v φ v := fun v hv => ka_v_same (fun j e => by
    subst e
    rcases ka_okv_ref hv with h1 | h1
    · exact if_neg (Nat.ne_of_lt h1)
    · exact if_neg (by omega))
  have hst' : st.map (ka_v φ) = st.map (ka_v (fun k => if k = N then H.size else φ k)) := List.map_congr_left (fun v hv => (hne v (List.all_eq_true.mp hst v hv)).symm)
  have hl' : lv_has rls M.2.2.1 (ka_loc (fun k => if k = N then H.size else φ k) ls) := by
    have : ka_loc (fun k => if k = N then H.size else φ k) ls = ka_loc φ ls := List.map_congr_left (fun z hz => by rw [hne z.2 (List.all_eq_true.mp hls z hz)])
    rw [this]; exact hl
  have K := kk l D τ b A φ0 N0 p e s m args below meth c H1 locs (cells + 1) (slots + n) (fun k => if k = N then H.size else φ k) rls C0 hP1 hD1 hS1 (ka_wf_push hw (fun ci' fs' e j hj => by cases e)) (by omega)
    (fun k hk => by
      have hkN : k ≠ N := by omega
      simp only [if_neg hkN]
      exact hφ k (by omega)) (by
      have hkN : ka_S ≠ N := by omega
      simp only [if_neg hkN]
      exact hb) hl' (by omega) (by omega)
  have e2 : List.map (ka_v (fun k => if k = N then H.size else φ k)) (.ref N :: st) = .ref H.size :: st.map (ka_v φ) := by
    rw [List.map_cons, ← hst']
    simp [ka_v]
  rw [e2] at K
  exact K
/-! the entry -/
theorem ka_args (φ : Nat → Nat) : ∀ (vs : List Value) (i : Nat), lv_args i (vs.map (ka_v φ)) = ka_loc φ (lv_args i vs)
  | [], _ => rfl
  | v :: r, i => by
    simp only [List.map_cons, lv_args, ka_loc, ka_v_cat]
    rw [ka_args φ r]
    rfl
theorem ka_sl_len (φ : Nat → Nat) (vs : List Value) : (lg_sl (vs.map (ka_v φ))).length = (lg_sl vs).length := by
  induction vs with
  | nil => rfl
  | cons v r ih =>
    simp only [List.map_cons, lg_sl, List.flatMap_cons, List.length_append, ka_v_cat] at ih ⊢
    rw [ih]
    cases v <;> rfl
/-- a contract out of a walk of the body -/
theorem ka_body {av : List Value} (hy : plainName M.1.cls = true) (hav : (lg_sl av).length ≤ M.2.2.1) (k : ka_W L xs M R 0 (lv_args 0 av) [] h N R.cells R.slots Q) : ka_M L xs M R av h N Q := by
  intro l D τ b A φ htr
  have core : ∀ (p : Program) (e : Env) (s : State) (m : MethodId) (args : Array Value) (below : List Frame) (meth : Method) (c : Code) (s₁ : State), BodyLoose p l M.1 (headSpec (ka_ws M) R) M.2.1 M.2.2.1 M.2.2.2.1 e s m args below meth c s₁ → c.maxLocals = M.2.2.1 → c.exceptionTable.toList = tableOf M.2.2.2.2 → ka_Pc D τ b L xs A φ av h N args s →
      W p l e (headSpec (ka_ws M) R).room s m args below meth c s.heap [] 0 0 (vx_MQ below (ka_Qc D τ A φ N Q) (ka_Xc D τ A φ N Q) args s R.cells R.slots A) (entryFrame m args M.2.2.1) := by
    intro p e s m args below meth c s₁ B hml htab hpc
    obtain ⟨rfl, hU, hb, hP, hD, hw⟩ := hpc
    have hts : ∀ w ∈ ka_T, w.before (av.map (ka_v φ)).toArray s = true := fun w hw => atoms_spec (ws := ka_ws M) B.pre w (by
      unfold ka_ws
      split <;> exact List.mem_cons_of_mem _ hw)
    have hl := lv_entry (av.map (ka_v φ)) (n := M.2.2.1) (by rw [ka_sl_len]; exact hav)
    rw [ka_args] at hl
    rw [lg_entry_eq]
    exact k l D τ b A φ N p e s m _ below meth c s.heap [] 0 0 φ _ ⟨B.exec, B.bytes, hml, B.returns, B.notSynchronized, (name_of_methodNamed B.named B.method).1, htab, findClass_of_methodNamed B.named, hts, htr, hU⟩ hP hD va_S.rf hw (Nat.le_refl _) (fun _ _ => rfl) hb hl (by omega) (by omega)
  match hM : M.2.2.2.2 with
  | [] =>
    refine vx_ofW (ret := M.2.2.2.1) hy (show ka_ws M = Cond.code M.1 M.2.1 M.2.2.1 M.2.2.2.1 :: ka_T by unfold ka_ws; rw [hM]) (fun p e s m args below meth c s₁ B hml ht hpc => ?_)
    exact core p e s m args below meth c s₁ B hml (by
      rw [hM]
      have : c.exceptionTable.toList = [] := List.eq_nil_iff_forall_not_mem.mpr (fun x hx => ht x hx)
      rw [this]; rfl) hpc
  | a :: r =>
    have hws : ka_ws M = Cond.codeWith M.1 M.2.1 M.2.2.1 M.2.2.2.1 (a :: r) :: ka_T := by unfold ka_ws; rw [hM]
    refine vx_ofWH (ret := M.2.2.2.1) (hh := a :: r) hy hws (fun p e s m args below meth c s₁ B hml hpc => ?_)
    exact core p e s m args below meth c s₁ B hml (by
      rw [hM]
      exact vx_table (x := M.1) B (atoms_spec (ws := ka_ws M) B.pre _ (by rw [hws]; exact List.mem_cons_self))) hpc
end KC
