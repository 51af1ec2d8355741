section KE
variable {L : Nat} {xs : Nat → Int32} {M : ka_Md} {R : Room} {pc q : Nat} {ls : List (Nat × Value)} {st : List Value} {h : ka_H} {N mc ms : Nat} {Q : ka_O → ka_H → Nat → Prop}
theorem ka_noX {l : Launch} {y : MethodName} {ws : List Cond} {rm : Room} {Pc : Array Value → State → Prop} {Qc : Array Value → State → Outcome → State → Prop} {XC : String → State → State → Prop} {mc ms : Nat} {free : Addr → Prop} (hM : vx_Met l y ws rm Pc Qc XC mc ms free) (hx : ∀ E a t, ¬ XC E a t) : Met l y ws rm Pc Qc mc ms free := by
  intro p e ha hc hk s m args below hf happ hP hK
  obtain ⟨n, o, h1, h2, h3, h4⟩ := hM p e ha hc hk s m args below hf happ hP hK
  refine ⟨n, o, h1, h2, h3, ?_⟩
  rcases h4 with h4 | ⟨z, -, E, ce, Lz, h5, -⟩
  · exact h4
  · exact absurd h5 (hx _ _ _)
/-- a constructor of the system's: it may make things -/
theorem ka_callI {M2 : ka_Md} {R2 : Room} {As stk : List Value} {idx o : Nat} {Q2 : ka_O → ka_H → Nat → Prop} {mc' ms' : Nat} (hd : decode M.2.1 pc = .ok (.invokespecial idx, 3)) (hn : pc + 3 = q) (hstk : As.reverse ++ .ref o :: st = stk) (hlk : ka_lkI M.1.cls idx M2 As.length) (hret : M2.2.2.2.1 = none)
    (hR : R2.frames + 1 ≤ R.frames ∧ 8 + (M2.2.2.1 + 11) + R2.locals ≤ R.locals) (hW : (st.map fun v => v.category).sum ≤ 8) (hm : mc' + R2.cells ≤ mc ∧ ms' + R2.slots ≤ ms) (hK : ka_M L xs M2 R2 (.ref o :: As) h N Q2) (hx : ∀ E h' N', ¬ Q2 (.inr E) h' N') (hNS : ∀ v h' N', Q2 (.inl v) h' N' → N' ≤ ka_S)
    (hls : ls.all (fun q => ka_okv N q.2) = true) (hst : st.all (ka_okv N) = true)
    (kr : ∀ v h' N', Q2 (.inl v) h' N' → ka_W L xs M R q ls (v.toList ++ st) h' N' mc' ms' Q) : ka_W L xs M R pc ls stk h N mc ms Q := by
  subst hn; subst hstk
  intro l D τ b A φ0 N0 p e s m args below meth c H locs cells slots φ rls C0 hP hD hS hw hN hφ hb hl hmc hms
  obtain ⟨hx0, hcb, hml, hr, hlk2, hnm, htb, hown, hts, htr, hU⟩ := id C0
  intro T0 hT X
  have hMet := ka_noX (hK l D τ b A φ htr) (fun E a t hz => by
    obtain ⟨⟨h', N', φ', hq, -⟩, -⟩ := hz
    exact hx _ _ _ hq)
  have hCB := ka_callB (R := R) hlk.1 hts hR
  rw [hret] at hCB
  have hrun := va_runI (As := As.map (ka_v φ)) (rest := st.map (ka_v φ)) (g := F0 m pc rls (List.map (ka_v φ) (As.reverse ++ .ref o :: st))) (e := e) (below := below) (meth := meth) (locs := locs) (cells := cells) (slots := slots) (H := H) (b := φ o)
    ⟨hx0, hcb, hml, hown, hts⟩ hMet ⟨hCB, hlk.2.1, hts _ hlk.2.2⟩
    ⟨ka_blind, fun U hU1 hW1 => ⟨rfl, hU.moved hW1 hS hU1, hb, by rw [hU1]; exact hP, hD, hw⟩⟩ rfl (by rw [List.length_map]) hl.1
    (by simp [ka_v]) (by rw [ka_st_cat]; have h0 : (F0 m pc rls (List.map (ka_v φ) (As.reverse ++ .ref o :: st))).monitorRoom = 0 := rfl
                         rw [h0]; omega) hd ⟨by omega, by omega⟩ T0 hT X
  obtain ⟨v, st₀, t, T', Lz, h0, X', hL, e1, e2, ⟨⟨v', h', N', φ', ev, hq2, hP1, hD1, hw1, hNN, hφ1⟩, hF⟩, stp⟩ := hrun
  have hNS' := hNS _ _ _ hq2
  obtain ⟨-, -, k3⟩ := vx_keep (A1 := A) h0 e1 hS (fun _ _ z => z) (fun _ z => z) hL hF
  have hne : ∀ w, ka_okv N w = true → ka_v φ' w = ka_v φ w := fun w hw => ka_v_same (fun j ej => by
    subst ej
    rcases ka_okv_ref hw with h1 | h1
    · exact hφ1 j (Or.inl h1)
    · exact hφ1 j (Or.inr (by omega)))
  have hl' : lv_has rls M.2.2.1 (ka_loc φ' ls) := by
    have : ka_loc φ' ls = ka_loc φ ls := List.map_congr_left (fun z hz => by rw [hne z.2 (List.all_eq_true.mp hls z hz)])
    rw [this]; exact hl
  cases ev
  obtain ⟨t2, a1, b1⟩ := kr v' h' N' hq2 l D τ b A φ0 N0 p e s m args below meth c T'.heap (locs ++ Lz) (cells + R2.cells) (slots + R2.slots) φ' rls C0 (by rw [e1]; exact hP1) hD1 k3 hw1 (by omega)
    (fun k hk => (hφ1 k (by omega)).trans (hφ k (by omega))) ((hφ1 ka_S (Or.inr hNS')).trans hb) hl' (by omega) (by omega) T' rfl X'
  refine ⟨t2, stp t2 ?_, b1⟩
  have es : List.map (ka_v φ') (v'.toList ++ st) = (v'.map (ka_v φ')).toList ++ st.map (ka_v φ) := by
    have h9 : st.map (ka_v φ') = st.map (ka_v φ) := List.map_congr_left (fun w hw => hne w (List.all_eq_true.mp hst w hw))
    rw [List.map_append, h9]
    cases v' <;> simp
  rw [es] at a1
  exact a1
/-! throws -/
def ka_thrOk (own : String) (ik ic : Nat) (cls : String) (names : List String) : Prop :=
  ((vx_atS own ic cls names).filter goodWord).all (fun w => decide (w ∈ lw_tbl)) = true ∧ (∀ w ∈ (vx_atS own ic cls names).filter (fun w => !goodWord w), (∃ E ∈ ka_xs, w = Cond.castable E E) ∨ ∃ y b n r, w = Cond.declares y ∧ Cond.instanceMethod y ∈ ka_T ∧ Cond.code y b n r ∈ ka_T) ∧
  (Cond.classLink own ik cls :: Cond.initialized cls :: vx_atS own ic cls names).all vx_ot = true ∧ Cond.classLink own ik cls ∈ ka_T ∧ Cond.initialized cls ∈ ka_T ∧ Bundle.fit cls = true ∧ names.all Bundle.fit = true
theorem ka_decl {y : MethodName} {bs : ByteArray} {n : Nat} {r : Option FieldType} {args : Array Value} {s : State} (h1 : (Cond.instanceMethod y).before args s = true) (h2 : (Cond.code y bs n r).before args s = true) : (Cond.declares y).before args s = true := by
  obtain ⟨m, meth, hn, hm, hs, ha⟩ := Cond.instanceMethod_spec h1
  obtain ⟨meth', c', hm', -, -, -, -, -, -, hsig⟩ := Cond.code_spec hn h2
  cases hm.symm.trans hm'
  simp [Cond.before, Cond.holds, Cond.value, hn, hm, hs, hsig]
theorem ka_thr {own : String} {ik ic : Nat} {cls : String} {names : List String} {args : Array Value} {s : State} (hok : ka_thrOk own ik ic cls names) (hts : ∀ w ∈ ka_T, w.before args s = true) (hcs : ∀ E ∈ ka_xs, ka_cst E s) :
    (∀ w ∈ vx_atS own ic cls names, w.before args s = true) ∧ (∀ w ∈ Cond.classLink own ik cls :: Cond.initialized cls :: vx_atS own ic cls names, vx_ot w = true) ∧ Cond.classLink own ik cls ∈ ka_T ∧ Cond.initialized cls ∈ ka_T ∧ Bundle.fit cls = true ∧ ∀ n ∈ names, Bundle.fit n = true := by
  obtain ⟨h1, h0, h2, h3, h4, h5, h6⟩ := hok
  refine ⟨fun w hw => ?_, List.all_eq_true.mp h2, h3, h4, h5, List.all_eq_true.mp h6⟩
  cases hg : goodWord w with
  | true =>
    have h7 := List.all_eq_true.mp h1 w (List.mem_filter.mpr ⟨hw, hg⟩)
    simp only [decide_eq_true_eq] at h7
    exact hts w (List.mem_filter.mpr ⟨h7, hg⟩)
  | false =>
    rcases h0 w (List.mem_filter.mpr ⟨hw, by rw [hg]; rfl⟩) with ⟨E, hE, rfl⟩ | ⟨y, b, n, r, rfl, h8, h9⟩
    · exact (hcs E hE).word
    · exact ka_decl (hts _ h8) (hts _ h9)
/-- throw new cls("text"): two more cells' room than it needs is no harm -/
theorem ka_throw {ik is ic : Nat} {cls text : String} {names : List String} (d0 : decode M.2.1 pc = .ok (.new ik, 3)) (d3 : decode M.2.1 (pc + 3) = .ok (.dup, 1)) (d4 : decode M.2.1 (pc + 4) = .ok (.ldc is, 2)) (d6 : decode M.2.1 (pc + 6) = .ok (.invokespecial ic, 3)) (d9 : decode M.2.1 (pc + 9) = .ok (.athrow, 1))
    (hstr : (M.1.cls, is, text) ∈ ka_str) (hok : ka_thrOk M.1.cls ik ic cls names) (hM : M.2.2.2.2 = []) (hRf : names.length + 3 < R.frames) (hRl : (st.map fun v => v.category).sum + (13 * (names.length + 1) + 43) ≤ R.locals) (hmc0 : 1 ≤ mc) (hms0 : 6 ≤ ms) (hq : Q (.inr cls) h N) : ka_W L xs M R pc ls st h N mc ms Q := by
  intro l D τ b A φ0 N0 p e s m args below meth c H locs cells slots φ rls C0 hP hD hS hw hN hφ hb hl hmc hms
  obtain ⟨hx, hcb, hml, hr, hlk, hnm, htb, hown, hts, htr, hU⟩ := id C0
  obtain ⟨t1, t2, t3, t4, t5, t6⟩ := ka_thr hok hts hU.2.2.2.2.2.2.2.2.2.2.2.2
  obtain ⟨sa, hsa⟩ := hU.2.2.2.2.2.2.2.1 _ hstr
  refine vx_throwS hx hcb htr hown t5 t6 (hts _ t3) (hts _ t4) hsa t1 t2 hU.2.2.2.2.2.1 hU.2.2.2.2.2.2.1 hS (hl.1.trans hml.symm) d0 d3 d4 d6 d9 (fun x hx => ?_) hRf (by rw [ka_st_cat]; exact hRl) (by omega) (by omega) hlk (fun t hvm hz hk => ?_) (fun z hz => hS.2.2 z hz) (by omega) (by omega)
  · rw [htb, hM] at hx; cases hx
  · refine ⟨⟨h, N, φ, hq, hP.kept (fun k x hx => hk x.1 (hP k x hx).lt), hD, hw, hN, hφ⟩, Nat.le_trans hS.1 hz, fun q h1 h2 => ?_⟩
    rw [hk q (Nat.lt_of_lt_of_le h1 hS.1)]
    exact hS.2.1 q h1 h2
theorem ka_throwW {ik is ic : Nat} {cls text : String} {names : List String} (d0 : decode M.2.1 pc = .ok (.new ik, 3)) (d3 : decode M.2.1 (pc + 3) = .ok (.dup, 1)) (d4 : decode M.2.1 (pc + 4) = .ok (.ldc_w is, 3)) (d7 : decode M.2.1 (pc + 7) = .ok (.invokespecial ic, 3)) (d10 : decode M.2.1 (pc + 10) = .ok (.athrow, 1))
    (hstr : (M.1.cls, is, text) ∈ ka_str) (hok : ka_thrOk M.1.cls ik ic cls names) (hM : M.2.2.2.2 = []) (hRf : names.length + 3 < R.frames) (hRl : (st.map fun v => v.category).sum + (13 * (names.length + 1) + 43) ≤ R.locals) (hmc0 : 1 ≤ mc) (hms0 : 6 ≤ ms) (hq : Q (.inr cls) h N) : ka_W L xs M R pc ls st h N mc ms Q := by
  intro l D τ b A φ0 N0 p e s m args below meth c H locs cells slots φ rls C0 hP hD hS hw hN hφ hb hl hmc hms
  obtain ⟨hx, hcb, hml, hr, hlk, hnm, htb, hown, hts, htr, hU⟩ := id C0
  obtain ⟨t1, t2, t3, t4, t5, t6⟩ := ka_thr hok hts hU.2.2.2.2.2.2.2.2.2.2.2.2
  obtain ⟨sa, hsa⟩ := hU.2.2.2.2.2.2.2.1 _ hstr
  refine vx_throwSW hx hcb htr hown t5 t6 (hts _ t3) (hts _ t4) hsa t1 t2 hU.2.2.2.2.2.1 hU.2.2.2.2.2.2.1 hS (hl.1.trans hml.symm) d0 d3 d4 d7 d10 (fun x hx => ?_) hRf (by rw [ka_st_cat]; exact hRl) (by omega) (by omega) hlk (fun t hvm hz hk => ?_) (fun z hz => hS.2.2 z hz) (by omega) (by omega)
  · rw [htb, hM] at hx; cases hx
  · refine ⟨⟨h, N, φ, hq, hP.kept (fun k x hx => hk x.1 (hP k x hx).lt), hD, hw, hN, hφ⟩, Nat.le_trans hS.1 hz, fun q h1 h2 => ?_⟩
    rw [hk q (Nat.lt_of_lt_of_le h1 hS.1)]
    exact hS.2.1 q h1 h2
/-! a call in a method with a table of its own: what is thrown is taken by a handler that answers a number -/
def ka_hdl (M : ka_Md) (hp : Nat) (v : Int32) : Prop :=
  (∃ (n : Int) (j : Fin 4), decode M.2.1 hp = .ok (.astore_n j, 1) ∧ (j : Nat) < M.2.2.1 ∧ decode M.2.1 (hp + 1) = .ok (.iconst n, 1) ∧ Int32.ofInt n = v ∧ decode M.2.1 (hp + 1 + 1) = .ok (.ireturn, 1)) ∨
  (∃ (n : Int) (i : Nat), decode M.2.1 hp = .ok (.astore i, 2) ∧ i < M.2.2.1 ∧ decode M.2.1 (hp + 2) = .ok (.iconst n, 1) ∧ Int32.ofInt n = v ∧ decode M.2.1 (hp + 2 + 1) = .ok (.ireturn, 1))
def ka_ctc (M : ka_Md) (pc : Nat) (E : String) (v : Int32) : Prop :=
  ∃ (pre : List ExceptionTableEntry) (x : ExceptionTableEntry) (suf : List ExceptionTableEntry), tableOf M.2.2.2.2 = pre ++ x :: suf ∧ (∀ z ∈ pre, covers z pc = false ∨ (z.catchType ≠ 0 ∧ ∃ nm : String, Cond.classLink M.1.cls z.catchType nm ∈ ka_T ∧ (E, nm) ∈ ka_nc)) ∧ covers x pc = true ∧ x.catchType ≠ 0 ∧
    Cond.classLink M.1.cls x.catchType E ∈ ka_T ∧ E ∈ ka_xs ∧ ka_hdl M x.handlerPc v
theorem ka_callVC {M2 : ka_Md} {R2 : Room} {As stk : List Value} {idx : Nat} {Q2 : ka_O → ka_H → Nat → Prop} {mc' ms' : Nat} {o ci Nf : Nat} {fs : List Value} {T : u_T} (hd : decode M.2.1 pc = .ok (.invokevirtual idx, 3)) (hn : pc + 3 = q) (hstk : As.reverse ++ .ref o :: st = stk) (ho : o < N) (he : h o = .inr (ci, fs)) (hc : vwCl[ci]? = some (M2.1.cls, T, Nf)) (hlk : ka_lkV M.1.cls idx M2 As.length)
    (hR : R2.frames + 1 ≤ R.frames ∧ 8 + (M2.2.2.1 + 11) + R2.locals ≤ R.locals) (hW : (st.map fun v => v.category).sum ≤ 8) (hm : mc' + R2.cells ≤ mc ∧ ms' + R2.slots ≤ ms) (hret : M.2.2.2.1 = some .int) (hK : ka_M L xs M2 R2 (.ref o :: As) h N Q2) (hN2 : ∀ x h' N', Q2 x h' N' → N' = N)
    (kr : ∀ v h', Q2 (.inl v) h' N → ka_W L xs M R q ls (v.toList ++ st) h' N mc' ms' Q) (kx : ∀ E h', Q2 (.inr E) h' N → ∃ v, ka_ctc M pc E v ∧ Q (.inl (some (.int v))) h' N) : ka_W L xs M R pc ls stk h N mc ms Q := by
  subst hn; subst hstk
  intro l D τ b A φ0 N0 p e s m args below meth c H locs cells slots φ rls C0 hP hD hS hw hN hφ hb hl hmc hms
  obtain ⟨hx, hcb, hml, hr, hlk2, hnm, htb, hown, hts, htr, hU⟩ := id C0
  intro T0 hT X
  have hrun := vx_runV (C := M2.1.cls) (As := As.map (ka_v φ)) (rest := st.map (ka_v φ)) (g := F0 m pc rls (List.map (ka_v φ) (As.reverse ++ .ref o :: st))) (e := e) (below := below) (meth := meth) (locs := locs) (cells := cells) (slots := slots) (H := H) (b := φ o)
    ⟨hx, hcb, hml, hown, hts⟩ (hK l D τ b A φ htr) ⟨ka_callB hlk.1 hts hR, hts _ hlk.2.1, hts _ hlk.2.2⟩
    ⟨ka_blind, va_recv (ci := ci) (q0 := o) hU.1 hP hc (by rw [ka_w_at ho, he]; rfl), fun U hU1 hW1 => ⟨rfl, hU.moved hW1 hS hU1, hb, by rw [hU1]; exact hP, hD, hw⟩⟩ rfl (by rw [List.length_map]) hl.1
    (by simp [ka_v]) (by rw [ka_st_cat]; have h0 : (F0 m pc rls (List.map (ka_v φ) (As.reverse ++ .ref o :: st))).monitorRoom = 0 := rfl
                         rw [h0]; omega) hd ⟨by omega, by omega⟩ T0 hT X
  rcases hrun with ⟨v, st₀, t, T', Lz, h0, X', hL, e1, e2, ⟨⟨v', h', N', φ', ev, hq2, hB⟩, hF⟩, stp⟩ | ⟨z, st₀, t, T', Lz, E, ce, h0, X', hL, e1, e2, ⟨⟨h', N', φ', hq2, hB⟩, hF⟩, hce, hcv, hcl, stp⟩
  · have eN := hN2 _ _ _ hq2
    subst eN
    obtain ⟨ep, hP1, hD1, hw1, hS1⟩ := ka_back h0 e1 hS hL hF hB
    subst ep
    cases ev
    obtain ⟨t2, a1, b1⟩ := kr v' h' hq2 l D τ b A φ0 N0 p e s m args below meth c T'.heap (locs ++ Lz) (cells + R2.cells) (slots + R2.slots) φ' rls C0 hP1 hD1 hS1 hw1 hN hφ hb hl (by omega) (by omega) T' rfl X'
    refine ⟨t2, stp t2 ?_, b1⟩
    have es : List.map (ka_v φ') (v'.toList ++ st) = (v'.map (ka_v φ')).toList ++ st.map (ka_v φ') := by cases v' <;> simp
    rw [es] at a1
    exact a1
  · have eN := hN2 _ _ _ hq2
    subst eN
    obtain ⟨ep, hP1, hD1, hw1, hS1⟩ := ka_back h0 e1 hS hL hF hB
    subst ep
    obtain ⟨v, ⟨pre, x, suf, c1, c2, c3, c4, c5, c6, c7⟩, hQx⟩ := kx E h' hq2
    have fin : ∀ (rls2 : Array Slot) (pc2 : Nat), decode M.2.1 pc2 = .ok (.ireturn, 1) → W p l e R s m args below meth c T'.heap (locs ++ Lz) (cells + R2.cells) (slots + R2.slots) (vx_MQ below (ka_Qc D τ A φ0 N0 Q) (ka_Xc D τ A φ0 N0 Q) args s R.cells R.slots A) (F0 m pc2 rls2 [.int v]) := fun rls2 pc2 hd2 => by
      refine W.widen (k := R.cells) (n := R.slots) (by omega) (by omega) (vx_ret ?_)
      exact W.iret hx hcb (hr.trans hret) (fun t ht _ => ka_end (v := some (.int v)) hP1 hD1 hS1 hw1 hN hφ hQx ht) (fun z hz => hS1.2.2 z hz) hd2 hlk2
    have hcat := vx_catch (p := p) (l := l) (e := e) (R := R) (m := m) (below := below) (meth := meth) (locs := locs ++ Lz) (cells := cells + R2.cells) (slots := slots + R2.slots) (Q := vx_MQ below (ka_Qc D τ A φ0 N0 Q) (ka_Xc D τ A φ0 N0 Q) args s R.cells R.slots A) (ls := rls) (pc := pc) (rest := st.map (ka_v φ')) (q := z) (own := M.1.cls) (name := E) (E := E) (ce := ce) (H := T'.heap) hown pre x suf (htb.trans c1)
      (fun y hy => (c2 y hy).imp id (fun w => ⟨w.1, w.2.choose, hts _ w.2.choose_spec.1, hU.2.2.2.2.2.2.2.2.2.2.2.1 _ w.2.choose_spec.2⟩)) c3 c4 (hts _ c5) (hU.2.2.2.2.2.2.2.2.2.2.2.2 E c6).word (by rw [e1]; exact hce) hcv hcl (by
        rcases c7 with ⟨n, j, g1, g2, g3, g4, g5⟩ | ⟨n, i, g1, g2, g3, g4, g5⟩
        · exact lv_astore_n hx hcb g1 rfl hl g2 rfl (fun rls2 hl2 => lv_iconst hx hcb g3 g4 (fin rls2 _ g5))
        · exact lv_astore hx hcb g1 hl g2 rfl (fun rls2 hl2 => lv_iconst hx hcb g3 g4 (fin rls2 _ g5)))
    obtain ⟨t2, a1, b1⟩ := hcat T' rfl X'
    exact ⟨t2, stp.trans a1, b1⟩
end KE
