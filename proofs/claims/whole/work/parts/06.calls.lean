section KD
variable {L : Nat} {xs : Nat → Int32} {M : ka_Md} {R : Room} {pc q : Nat} {ls : List (Nat × Value)} {st : List Value} {h : ka_H} {N mc ms : Nat} {Q : ka_O → ka_H → Nat → Prop}
theorem ka_good {w0 : Cond} (h0 : w0 ∈ ka_T) : GoodIn ka_T (w0 :: ka_T) := by
  intro w hw
  have hm : w ∈ ka_T := (List.mem_cons.mp hw).elim (fun e => e ▸ h0) id
  exact ⟨hm, good_of_word (List.mem_filter.mp hm).2⟩
theorem ka_blind {D : va_G} {τ : Nat → ClassId} {b : Nat} {A : Nat → Prop} {φ : Nat → Nat} {av : List Value} : FrameBlind (ka_Pc D τ b L xs A φ av h N) := by
  intro a U g mk hp
  obtain ⟨e1, hU, hb, hP, hD, hw⟩ := hp
  exact ⟨e1, hU.moved (State.WarmedH.refl U) va_S.rf rfl, hb, hP, hD, hw⟩
/-- the world behind a call that made nothing, as the caller goes on in it -/
theorem ka_back {D : va_G} {τ : Nat → ClassId} {A : Nat → Prop} {φ φ' : Nat → Nat} {h' : ka_H} {t T' st₀ s : State} {H : Heap} {locs Lz : List Loc} (h0 : st₀.heap = H) (e1 : T'.heap = t.heap) (hS : va_S A s.heap H locs) (hL : ∀ z ∈ Lz, A z.base) (hF : va_F A st₀ t) (hB : ka_B D τ A φ N h' N φ' t) :
    φ' = φ ∧ va_P D vwCl (ka_w φ τ h' N) T'.heap ∧ va_D A (ka_w φ τ h' N) ∧ ka_wf h' N ∧ va_S A s.heap T'.heap (locs ++ Lz) := by
  obtain ⟨hP, hD, hw, -, hφ⟩ := hB
  have e : φ' = φ := funext fun k => hφ k (Nat.lt_or_ge k N)
  subst e
  obtain ⟨-, -, k3⟩ := vx_keep (A1 := A) h0 e1 hS (fun _ _ z => z) (fun _ z => z) hL hF
  exact ⟨rfl, by rw [e1]; exact hP, hD, hw, k3⟩
theorem ka_callB {M2 : ka_Md} {R2 : Room} {idx n : Nat} {s : State} {args : Array Value} (hlk : ka_lk M.1.cls idx M2 n) (hts : ∀ w ∈ ka_T, w.before args s = true) (hR : R2.frames + 1 ≤ R.frames ∧ 8 + (M2.2.2.1 + 11) + R2.locals ≤ R.locals) :
    CallB R s args M.1.cls idx M2.1 M2.2.1 M2.2.2.1 M2.2.2.2.1 (ka_ws M2) R2 R2.cells R2.slots n := by
  obtain ⟨h1, h2, h3, h4, h5⟩ := hlk
  have hws : ka_ws M2 = Cond.code M2.1 M2.2.1 M2.2.2.1 M2.2.2.2.1 :: ka_T := by unfold ka_ws; rw [h1]
  exact callB_of (Ts := ka_T) n hts (by rw [hws]; exact ka_good h4) hws rfl rfl (hts _ h3) (hts _ h2) h5 hR
/-- what is left to show at a throw that reaches this frame: no table here, the caller gets it -/
theorem ka_thrown {D : va_G} {τ : Nat → ClassId} {b : Nat} {A : Nat → Prop} {φ0 : Nat → Nat} {N0 : Nat} {p : Program} {l : Launch} {e : Env} {s : State} {m : MethodId} {args : Array Value} {below : List Frame} {meth : Method} {c : Code} {locs : List Loc} {cells slots : Nat} {φ : Nat → Nat} {rls : Array Slot} {E : String} {ce : Cell} {z : Addr} {rest : List Value} {H : Heap}
    (C0 : ka_C L xs M D τ b A p l s m args meth c) (hM : M.2.2.2.2 = []) (hP : va_P D vwCl (ka_w φ τ h N) H) (hD : va_D A (ka_w φ τ h N)) (hS : va_S A s.heap H locs) (hw : ka_wf h N) (hN : N0 ≤ N) (hφ : ∀ k, k < N0 ∨ N ≤ k → φ k = φ0 k) (hq : Q (.inr E) h N) (hcell : H[z]? = some ce) (hv : ce.vm = .none) (hcl : s.vm.findClass E = some ce.cls) (hc : cells ≤ R.cells) (hs : slots ≤ R.slots) :
    vx_W p l e R s m args below meth c H locs cells slots (vx_MQ below (ka_Qc D τ A φ0 N0 Q) (ka_Xc D τ A φ0 N0 Q) args s R.cells R.slots A) (F0 m pc rls rest) z := by
  obtain ⟨hx, hcb, hml, hr, hlk, hnm, htb, hown, hts, htr, hU⟩ := id C0
  refine vx_out (E := E) (ce := ce) (fun x hx => ?_) hlk hcell hv hcl (fun t ht _ => ⟨⟨h, N, φ, hq, by rw [ht]; exact hP, hD, hw, hN, hφ⟩, hS.F ht⟩) (fun z hz => hS.2.2 z hz) hc hs
  rw [htb, hM] at hx
  cases hx
section Calls
variable {M2 : ka_Md} {R2 : Room} {As stk : List Value} {idx : Nat} {Q2 : ka_O → ka_H → Nat → Prop} {mc' ms' : Nat}
theorem ka_callV {o ci Nf : Nat} {fs : List Value} {T : u_T} (hd : decode M.2.1 pc = .ok (.invokevirtual idx, 3)) (hn : pc + 3 = q) (hstk : As.reverse ++ .ref o :: st = stk) (ho : o < N) (he : h o = .inr (ci, fs)) (hc : vwCl[ci]? = some (M2.1.cls, T, Nf)) (hlk : ka_lkV M.1.cls idx M2 As.length)
    (hR : R2.frames + 1 ≤ R.frames ∧ 8 + (M2.2.2.1 + 11) + R2.locals ≤ R.locals) (hW : (st.map fun v => v.category).sum ≤ 8) (hm : mc' + R2.cells ≤ mc ∧ ms' + R2.slots ≤ ms) (hK : ka_M L xs M2 R2 (.ref o :: As) h N Q2) (hN2 : ∀ x h' N', Q2 x h' N' → N' = N)
    (kr : ∀ v h', Q2 (.inl v) h' N → ka_W L xs M R q ls (v.toList ++ st) h' N mc' ms' Q) (kx : ∀ E h', Q2 (.inr E) h' N → M.2.2.2.2 = [] ∧ Q (.inr E) h' N) : ka_W L xs M R pc ls stk h N mc ms Q := by
  subst hn; subst hstk
  intro l D τ b A φ0 N0 p e s m args below meth c H locs cells slots φ rls C0 hP hD hS hw hN hφ hb hl hmc hms
  obtain ⟨hx, hcb, hml, hr, hlk2, hnm, htb, hown, hts, htr, hU⟩ := id C0
  intro T0 hT X
  have hrun := vx_runV (C := M2.1.cls) (As := As.map (ka_v φ)) (rest := st.map (ka_v φ)) (g := F0 m pc rls (List.map (ka_v φ) (As.reverse ++ .ref o :: st))) (e := e) (below := below) (meth := meth) (locs := locs) (cells := cells) (slots := slots) (H := H) (b := φ o)
    ⟨hx, hcb, hml, hown, hts⟩ (hK l D τ b A φ htr) ⟨ka_callB hlk.1 hts hR, hts _ hlk.2.1, hts _ hlk.2.2⟩
    ⟨ka_blind, va_recv (ci := ci) (q0 := o) hU.1 hP hc (by rw [ka_w_at ho, he]; rfl), fun U hU1 hW1 => ⟨rfl, hU.moved hW1 hS hU1, hb, by rw [hU1]; exact hP, hD, hw⟩⟩ rfl (by rw [List.length_map]) hl.1
    (by simp [ka_v]) (by rw [ka_st_cat]; have h0 : (F0 m pc rls (List.map (ka_v φ) (As.reverse ++ .ref o :: st))).monitorRoom = 0 := rfl
                         rw [h0]; omega) hd ⟨by omega, by omega⟩ T0 hT X
  rcases hrun with ⟨v, st₀, t, T', Lz, h0, X', hL, e1, e2, ⟨⟨v', h', N', φ', ev, hq2, hB⟩, hF⟩, stp⟩ | ⟨z, st₀, t, T', Lz, E, ce, h0, X', hL, e1, e2, ⟨⟨h', N', φ', hq2, hB⟩, hF⟩, hce, hcv, hcl, stp⟩
  · have eN := hN2 _ _ _ hq2
    subst eN
    obtain ⟨ep, hP1, hD1, hw1, hS1⟩ := ka_back h0 e1 hS hL hF hB
    subst ep
    cases ev
    obtain ⟨t2, a1, b1⟩ := kr v' h' hq2 l D τ b A φ0 N0 p e s m args below meth c T'.heap (locs ++ Lz) (cells + R2.cells) (slots + R2.slots) φ' rls C0 hP1 hD1 hS1 hw1 hN hφ hb hl (by omega) (by omega) T' rfl X'
    refine ⟨t2, stp t2 ?_, b1⟩
    have es : List.map (ka_v φ') (v'.toList ++ st) = (v'.map (ka_v φ')).toList ++ st.map (ka_v φ') := by cases v' <;> simp
    rw [es] at a1
    exact a1
  · have eN := hN2 _ _ _ hq2
    subst eN
    obtain ⟨ep, hP1, hD1, hw1, hS1⟩ := ka_back h0 e1 hS hL hF hB
    subst ep
    obtain ⟨hMn, hQx⟩ := kx E h' hq2
    obtain ⟨t2, a1, b1⟩ := ka_thrown (rls := rls) (rest := st.map (ka_v φ')) C0 hMn hP1 hD1 hS1 hw1 hN hφ hQx (by rw [e1]; exact hce) hcv hcl (by omega) (by omega) T' rfl X'
    exact ⟨t2, stp.trans a1, b1⟩
theorem ka_callS (hd : decode M.2.1 pc = .ok (.invokestatic idx, 3)) (hn : pc + 3 = q) (hstk : As.reverse ++ st = stk) (hlk : ka_lkS M.1.cls idx M2 As.length)
    (hR : R2.frames + 1 ≤ R.frames ∧ 8 + (M2.2.2.1 + 11) + R2.locals ≤ R.locals) (hW : (st.map fun v => v.category).sum ≤ 8) (hm : mc' + R2.cells ≤ mc ∧ ms' + R2.slots ≤ ms) (hK : ka_M L xs M2 R2 As h N Q2) (hN2 : ∀ x h' N', Q2 x h' N' → N' = N)
    (kr : ∀ v h', Q2 (.inl v) h' N → ka_W L xs M R q ls (v.toList ++ st) h' N mc' ms' Q) (kx : ∀ E h', Q2 (.inr E) h' N → M.2.2.2.2 = [] ∧ Q (.inr E) h' N) : ka_W L xs M R pc ls stk h N mc ms Q := by
  subst hn; subst hstk
  intro l D τ b A φ0 N0 p e s m args below meth c H locs cells slots φ rls C0 hP hD hS hw hN hφ hb hl hmc hms
  obtain ⟨hx, hcb, hml, hr, hlk2, hnm, htb, hown, hts, htr, hU⟩ := id C0
  intro T0 hT X
  have hrun := vx_runS (As := As.map (ka_v φ)) (rest := st.map (ka_v φ)) (g := F0 m pc rls (List.map (ka_v φ) (As.reverse ++ st))) (e := e) (below := below) (meth := meth) (locs := locs) (cells := cells) (slots := slots) (H := H)
    ⟨hx, hcb, hml, hown, hts⟩ (hK l D τ b A φ htr) ⟨ka_callB hlk.1 hts hR, hts _ hlk.2⟩
    ⟨ka_blind, fun U hU1 hW1 => ⟨rfl, hU.moved hW1 hS hU1, hb, by rw [hU1]; exact hP, hD, hw⟩⟩ rfl (by rw [List.length_map]) hl.1
    (by simp) (by rw [ka_st_cat]; have h0 : (F0 m pc rls (List.map (ka_v φ) (As.reverse ++ st))).monitorRoom = 0 := rfl
                  rw [h0]; omega) hd ⟨by omega, by omega⟩ T0 hT X
  rcases hrun with ⟨v, st₀, t, T', Lz, h0, X', hL, e1, e2, ⟨⟨v', h', N', φ', ev, hq2, hB⟩, hF⟩, stp⟩ | ⟨z, st₀, t, T', Lz, E, ce, h0, X', hL, e1, e2, ⟨⟨h', N', φ', hq2, hB⟩, hF⟩, hce, hcv, hcl, stp⟩
  · have eN := hN2 _ _ _ hq2
    subst eN
    obtain ⟨ep, hP1, hD1, hw1, hS1⟩ := ka_back h0 e1 hS hL hF hB
    subst ep
    cases ev
    obtain ⟨t2, a1, b1⟩ := kr v' h' hq2 l D τ b A φ0 N0 p e s m args below meth c T'.heap (locs ++ Lz) (cells + R2.cells) (slots + R2.slots) φ' rls C0 hP1 hD1 hS1 hw1 hN hφ hb hl (by omega) (by omega) T' rfl X'
    refine ⟨t2, stp t2 ?_, b1⟩
    have es : List.map (ka_v φ') (v'.toList ++ st) = (v'.map (ka_v φ')).toList ++ st.map (ka_v φ') := by cases v' <;> simp
    rw [es] at a1
    exact a1
  · have eN := hN2 _ _ _ hq2
    subst eN
    obtain ⟨ep, hP1, hD1, hw1, hS1⟩ := ka_back h0 e1 hS hL hF hB
    subst ep
    obtain ⟨hMn, hQx⟩ := kx E h' hq2
    obtain ⟨t2, a1, b1⟩ := ka_thrown (rls := rls) (rest := st.map (ka_v φ')) C0 hMn hP1 hD1 hS1 hw1 hN hφ hQx (by rw [e1]; exact hce) hcv hcl (by omega) (by omega) T' rfl X'
    exact ⟨t2, stp.trans a1, b1⟩
end Calls
end KD
