/-- the law's loop, as it is owed -/
def law_Owed : Prop := ∀ (L : Nat) (xs : Nat → Int32), L ≤ 2561 → ks_W L xs mL_law rm_L_law 33 [(0, .ref ka_S), (1, .ref 0), (2, .ref 17), (3, .ref 29), (4, .int 1)] [] (ks_0 (km_cell L xs 0)) 600994 6977028 (fun o _ => o = .inl (some (.int 1)))
def R_law : String := "WidthWordsLaw"
def lw_P (b : Addr) (xs : List Int32) (args : Array Value) (s : State) : Prop := args = #[.ref b] ∧ s.IntsAt b xs ∧ xs.length ≤ 2561 ∧ (Jvm.Cond.and given_1 narrow_1).before args s = true
def lw_Q (_ : Array Value) (s : State) (o : Outcome) (t : State) : Prop := o = .returned (some (.int 1)) ∧ Framed s o t [] 601024 7293000
theorem ka_sub_T {w : Cond} (h : w ∈ ka_T) : w ∈ lw_tbl := (List.mem_filter.mp h).1
theorem in_Jx : ∀ w ∈ u_ws RJx00060 TJx00060 6, w ∈ ka_T := by
  intro w hw
  simp only [u_ws, List.range, List.range.loop, List.map_cons, List.map_nil, List.mem_cons, List.not_mem_nil, or_false] at hw
  rcases hw with rfl | rfl | rfl | rfl | rfl | rfl
  · exact ka_tm 281 (by decide +kernel) rfl
  · exact ka_tm 282 (by decide +kernel) rfl
  · exact ka_tm 283 (by decide +kernel) rfl
  · exact ka_tm 284 (by decide +kernel) rfl
  · exact ka_tm 285 (by decide +kernel) rfl
  · exact ka_tm 294 (by decide +kernel) rfl
theorem ka_arrT {args : Array Value} {s : State} {ty : FieldType} (hp : ∀ C, ty ≠ .object C) (h : (Cond.arrayClass ty).before args s = true) : ∃ c, s.vm.findClass ("[" ++ ty.toString) = some c ∧ ArrOfT s c ty ∧ va_RA s c ty := by
  obtain ⟨c, k, comp, h1, h2, h3⟩ := Cond.arrayClass_spec h
  refine ⟨c, h1, fun n z => ⟨fun k h => (by cases h), k, h2, comp, h3⟩, ?_⟩
  cases ty with
  | object C => exact absurd rfl (hp C)
  | _ => exact h1
/-- what the Statement gives of the start is what each method asks -/
theorem ka_start {s : State} {b L : Nat} {xs : Nat → Int32} (hts : ∀ w ∈ lw_tbl, w.before #[Value.ref b] s = true) (hX : va_X b L xs s s.heap) (hbl : b < s.heap.size) (hgv : (Jvm.Cond.and given_1 narrow_1).before #[Value.ref b] s = true) :
    ∃ (D : va_G) (τ : Nat → ClassId), ka_U D τ b L xs (fun q => s.heap.size ≤ q) s := by
  have hs := flat_of_before _ hgv
  obtain ⟨c0, iS0, hKn0⟩ := u_known (C := RJx00060) (T := TJx00060) (N := 6) (n := 6) hts (fun w h => ka_sub_T (in_Jx w h)) (hts _ (ka_sub_T (ka_tm 276 (by decide +kernel) rfl)))
  obtain ⟨c1, iS1, hKn1⟩ := u_known (C := RX0) (T := TX0) (N := 7) (n := 7) hts (fun w h => ka_sub_T (in_X0 w h)) (hts _ (ka_sub_T (ka_tm 33 (by decide +kernel) rfl)))
  obtain ⟨c2, iS2, hKn2⟩ := u_known (C := RX1) (T := TX1) (N := 7) (n := 7) hts (fun w h => ka_sub_T (in_X1 w h)) (hts _ (ka_sub_T (ka_tm 27 (by decide +kernel) rfl)))
  obtain ⟨c3, iS3, hKn3⟩ := u_known (C := RX2) (T := TX2) (N := 9) (n := 9) hts (fun w h => ka_sub_T (in_X2 w h)) (hts _ (ka_sub_T (ka_tm 92 (by decide +kernel) rfl)))
  obtain ⟨c4, iS4, hKn4⟩ := u_known (C := RX4) (T := TX4) (N := 9) (n := 9) hts (fun w h => ka_sub_T (in_X4 w h)) (hts _ (ka_sub_T (ka_tm 19 (by decide +kernel) rfl)))
  obtain ⟨c5, iS5, hKn5⟩ := u_known (C := RX5) (T := TX5) (N := 15) (n := 15) hts (fun w h => ka_sub_T (in_X5 w h)) (hts _ (ka_sub_T (ka_tm 700 (by decide +kernel) rfl)))
  obtain ⟨dC, dI, hKc⟩ : ∃ (dC : Nat → ClassId) (dI : Nat → Nat → Nat), ∀ (k : Nat) (q : vw_C), vwCl[k]? = some q → u_Kn s q.1 q.2.1 q.2.2 (dC k) (dI k) := by
    refine ⟨fun k => match k with | 0 => c0 | 1 => c1 | 2 => c2 | 3 => c3 | 4 => c4 | _ => c5, fun k => match k with | 0 => iS0 | 1 => iS1 | 2 => iS2 | 3 => iS3 | 4 => iS4 | _ => iS5, ?_⟩
    intro k q hq
    match k, hq with
    | 0, hq => cases hq; exact hKn0
    | 1, hq => cases hq; exact hKn1
    | 2, hq => cases hq; exact hKn2
    | 3, hq => cases hq; exact hKn3
    | 4, hq => cases hq; exact hKn4
    | 5, hq => cases hq; exact hKn5
    | k + 6, hq => simp [vwCl] at hq
  obtain ⟨t0, f0, a0, r0⟩ := ka_arrT (ty := .int) (fun C h => by cases h) (hts _ (ka_sub_T (ka_tm 63 (by decide +kernel) rfl)))
  obtain ⟨t1, f1, a1, r1⟩ := ka_arrT (ty := .long) (fun C h => by cases h) (hts _ (ka_sub_T (ka_tm 64 (by decide +kernel) rfl)))
  obtain ⟨t2, f2, a2, r2⟩ := ka_arrT (ty := .byte) (fun C h => by cases h) (hts _ (ka_sub_T (ka_tm 245 (by decide +kernel) rfl)))
  have hA : ∀ a : Nat, a < s.heap.size → ¬ s.heap.size ≤ a := fun a h => Nat.not_le.mpr h
  refine ⟨(dC, dI), fun k => match k with | 0 => t0 | 1 => t1 | _ => t2, ⟨hKc, fun k q hq => ?_⟩, fun q h => h, hX, hbl, hA b hbl, ?_, ?_, ?_, f0, f1, f2, ?_, ?_⟩
  · match k, hq with
    | 0, hq => cases hq; exact ⟨a0, r0⟩
    | 1, hq => cases hq; exact ⟨a1, r1⟩
    | 2, hq => cases hq; exact ⟨a2, r2⟩
    | k + 3, hq => simp [ka_tys] at hq
  · exact vx_Zqof (hts _ (List.mem_append_right _ (List.mem_of_getElem? (i := 204) (by decide +kernel)))) (hts _ (List.mem_append_right _ (List.mem_of_getElem? (i := 7) (by decide +kernel)))) (hs _ (by decide +kernel)) hA
  · exact vx_Zqof (hts _ (List.mem_append_right _ (List.mem_of_getElem? (i := 206) (by decide +kernel)))) (hts _ (List.mem_append_right _ (List.mem_of_getElem? (i := 7) (by decide +kernel)))) (hs _ (by decide +kernel)) hA
  · intro q hq
    simp only [ka_str, List.mem_cons, List.not_mem_nil, or_false] at hq
    rcases hq with rfl | rfl | rfl | rfl | rfl | rfl | rfl | rfl | rfl | rfl | rfl | rfl | rfl
    · obtain ⟨sa, _, _, _, e, -⟩ := Cond.exactly_spec (hs (Cond.exactly (Term.string "WidthWords" 86) "java/lang/String") (by decide +kernel))
      exact ⟨sa, vk_R.of (hts _ (List.mem_append_right _ (List.mem_of_getElem? (i := 336) (by decide +kernel)))) e⟩
    · obtain ⟨sa, _, _, _, e, -⟩ := Cond.exactly_spec (hs (Cond.exactly (Term.string "WidthWords" 101) "java/lang/String") (by decide +kernel))
      exact ⟨sa, vk_R.of (hts _ (List.mem_append_right _ (List.mem_of_getElem? (i := 353) (by decide +kernel)))) e⟩
    · obtain ⟨sa, _, _, _, e, -⟩ := Cond.exactly_spec (hs (Cond.exactly (Term.string "WidthWords" 120) "java/lang/String") (by decide +kernel))
      exact ⟨sa, vk_R.of (hts _ (List.mem_append_right _ (List.mem_of_getElem? (i := 515) (by decide +kernel)))) e⟩
    · obtain ⟨sa, _, _, _, e, -⟩ := Cond.exactly_spec (hs (Cond.exactly (Term.string "WidthWords" 122) "java/lang/String") (by decide +kernel))
      exact ⟨sa, vk_R.of (hts _ (List.mem_append_right _ (List.mem_of_getElem? (i := 523) (by decide +kernel)))) e⟩
    · obtain ⟨sa, _, _, _, e, -⟩ := Cond.exactly_spec (hs (Cond.exactly (Term.string "WidthWords" 128) "java/lang/String") (by decide +kernel))
      exact ⟨sa, vk_R.of (hts _ (List.mem_append_right _ (List.mem_of_getElem? (i := 532) (by decide +kernel)))) e⟩
    · obtain ⟨sa, _, _, _, e, -⟩ := Cond.exactly_spec (hs (Cond.exactly (Term.string "WidthWords" 133) "java/lang/String") (by decide +kernel))
      exact ⟨sa, vk_R.of (hts _ (List.mem_append_right _ (List.mem_of_getElem? (i := 541) (by decide +kernel)))) e⟩
    · obtain ⟨sa, _, _, _, e, -⟩ := Cond.exactly_spec (hs (Cond.exactly (Term.string "WidthWords" 145) "java/lang/String") (by decide +kernel))
      exact ⟨sa, vk_R.of (hts _ (List.mem_append_right _ (List.mem_of_getElem? (i := 566) (by decide +kernel)))) e⟩
    · obtain ⟨sa, _, _, _, e, -⟩ := Cond.exactly_spec (hs (Cond.exactly (Term.string "WidthWords" 151) "java/lang/String") (by decide +kernel))
      exact ⟨sa, vk_R.of (hts _ (List.mem_append_right _ (List.mem_of_getElem? (i := 581) (by decide +kernel)))) e⟩
    · obtain ⟨sa, _, _, _, e, -⟩ := Cond.exactly_spec (hs (Cond.exactly (Term.string "WidthWords" 171) "java/lang/String") (by decide +kernel))
      exact ⟨sa, vk_R.of (hts _ (List.mem_append_right _ (List.mem_of_getElem? (i := 286) (by decide +kernel)))) e⟩
    · obtain ⟨sa, _, _, _, e, -⟩ := Cond.exactly_spec (hs (Cond.exactly (Term.string "WidthWords" 174) "java/lang/String") (by decide +kernel))
      exact ⟨sa, vk_R.of (hts _ (List.mem_append_right _ (List.mem_of_getElem? (i := 300) (by decide +kernel)))) e⟩
    · obtain ⟨sa, _, _, _, e, -⟩ := Cond.exactly_spec (hs (Cond.exactly (Term.string "WidthWords" 176) "java/lang/String") (by decide +kernel))
      exact ⟨sa, vk_R.of (hts _ (List.mem_append_right _ (List.mem_of_getElem? (i := 324) (by decide +kernel)))) e⟩
    · obtain ⟨sa, _, _, _, e, -⟩ := Cond.exactly_spec (hs (Cond.exactly (Term.string "WidthWords" 178) "java/lang/String") (by decide +kernel))
      exact ⟨sa, vk_R.of (hts _ (List.mem_append_right _ (List.mem_of_getElem? (i := 335) (by decide +kernel)))) e⟩
    · obtain ⟨sa, _, _, _, e, -⟩ := Cond.exactly_spec (hs (Cond.exactly (Term.string "WidthWords" 182) "java/lang/String") (by decide +kernel))
      exact ⟨sa, vk_R.of (hts _ (List.mem_append_right _ (List.mem_of_getElem? (i := 219) (by decide +kernel)))) e⟩
  · intro q hq
    simp only [ka_nc, List.mem_cons, List.not_mem_nil, or_false] at hq
    rcases hq with rfl | rfl | rfl | rfl | rfl | rfl
    · exact va_Nc.of (hs _ (by decide +kernel))
    · exact va_Nc.of (hs _ (by decide +kernel))
    · exact va_Nc.of (hs _ (by decide +kernel))
    · exact va_Nc.of (hs _ (by decide +kernel))
    · exact va_Nc.of (hs _ (by decide +kernel))
    · exact va_Nc.of (hs _ (by decide +kernel))
  · intro E hE
    simp only [ka_xs, List.mem_cons, List.not_mem_nil, or_false] at hE
    rcases hE with rfl | rfl | rfl | rfl
    · obtain ⟨c1, c2, h1, h2, h3⟩ := Cond.castable_spec (hts (Cond.castable "java/lang/ArrayIndexOutOfBoundsException" "java/lang/ArrayIndexOutOfBoundsException") (List.mem_append_right _ (List.mem_of_getElem? (i := 277) (by decide +kernel))))
      cases Option.some.inj (h1.symm.trans h2)
      exact ⟨c1, h1, h3⟩
    · obtain ⟨c1, c2, h1, h2, h3⟩ := Cond.castable_spec (hts (Cond.castable "java/lang/IllegalArgumentException" "java/lang/IllegalArgumentException") (List.mem_append_right _ (List.mem_of_getElem? (i := 317) (by decide +kernel))))
      cases Option.some.inj (h1.symm.trans h2)
      exact ⟨c1, h1, h3⟩
    · obtain ⟨c1, c2, h1, h2, h3⟩ := Cond.castable_spec (hts (Cond.castable "java/lang/ArithmeticException" "java/lang/ArithmeticException") (List.mem_append_right _ (List.mem_of_getElem? (i := 346) (by decide +kernel))))
      cases Option.some.inj (h1.symm.trans h2)
      exact ⟨c1, h1, h3⟩
    · obtain ⟨c1, c2, h1, h2, h3⟩ := Cond.castable_spec (hts (Cond.castable "java/lang/UnsupportedOperationException" "java/lang/UnsupportedOperationException") (List.mem_append_right _ (List.mem_of_getElem? (i := 179) (by decide +kernel))))
      cases Option.some.inj (h1.symm.trans h2)
      exact ⟨c1, h1, h3⟩
set_option maxHeartbeats 4000000 in
theorem lw_walk_open (H : law_Owed) (l : Launch) (htr : l.stackTraces = false) (b : Addr) (xs : List Int32) : MetFree l x (headSpec (Jvm.Cond.code x code maxLocals ret :: tables_1) room_1) (lw_P b xs) (fun _ _ _ _ _ => True) lw_Q := by
  refine MetFree.of_bodyS (code := code) (maxLocals := maxLocals) (ret := ret) (by decide) ?_ ?_
  · intro args s m h hn
    obtain ⟨meth, c, h1, h2, h3, h4, h5, h6, -, -⟩ := Cond.code_spec hn (atoms_spec (ws := Jvm.Cond.code x code maxLocals ret :: tables_1) h _ List.mem_cons_self)
    exact ⟨meth, c, h1, h2, h3, h4, h5, h6⟩
  · intro p e s m args below meth c s₁ B hml0 hP _
    obtain ⟨rfl, hx, hbd, hgv⟩ := hP
    obtain ⟨scr, harrAt, hlist, hof, hsmall⟩ := hx
    obtain ⟨hcb, hkn, -, -⟩ := State.arrayAt?_spec harrAt
    have hts0 : ∀ c ∈ (Jvm.Cond.code x code maxLocals ret :: tables_1), c.before #[Value.ref b] s = true := atoms_spec (ws := Jvm.Cond.code x code maxLocals ret :: tables_1) B.pre
    have hts : ∀ w ∈ lw_tbl, w.before #[Value.ref b] s = true := k2_hts_sels lw_privs (fun w hw => hts0 w (List.mem_cons_of_mem _ hw)) lw_privs_ok
    have hml : c.maxLocals = 8 := B.maxLocals_eq (hts0 _ List.mem_cons_self)
    have X₀ : Stand p l e room_1 s m #[Value.ref b] below meth c s₁ [] 0 0 := Stand.of_body B
    have hh0 : s₁.heap = s.heap := by rw [B.state]; rfl
    have hsz : scr.slots.size = xs.length := by rw [← Array.length_toList, hlist, List.length_map]
    have hval : ∀ j : Nat, j < xs.length → scr.slots[j]? = some (.int (xs.getD j 0)) := fun j hj => by
      rw [← Array.getElem?_toList, hlist]
      simp [hj]
    have hbl : b < s.heap.size := (Array.getElem?_eq_some_iff.mp hcb).1
    have hX : va_X b xs.length (fun j => xs.getD j 0) s s.heap := ⟨scr, hcb, hof, hkn, hsz, hval⟩
    have htab : c.exceptionTable.toList = tableOf mL_law.2.2.2.2 := by
      rw [Array.isEmpty_iff.mp (B.noHandlers (hts0 _ List.mem_cons_self))]
      rfl
    obtain ⟨D, τ, hU⟩ := ka_start hts hX hbl hgv
    have hl := lv_entry ([.ref b]) (n := 8) (Nat.le_of_ble_eq_true rfl)
    have K := law_pre (h := fun _ => .inl (0, 0, .inl (fun _ => 0))) (P := fun o _ => o = .inl (some (.int 1))) hbd (H xs.length (fun j => xs.getD j 0) hbd) l D τ b (fun q => s.heap.size ≤ q) (fun _ => b) 0 p e s m #[Value.ref b] below meth c s.heap [] 0 0 (fun _ => b) _
      ⟨B.exec, B.bytes, hml, B.returns, B.notSynchronized, (name_of_methodNamed B.named B.method).1, htab, findClass_of_methodNamed B.named, fun w hw => hts w (ka_sub_T hw), htr, hU⟩
      (fun k q h => by simp [ka_w] at h) ⟨fun i j p q h => by simp [ka_w] at h, fun k q h => by simp [ka_w] at h⟩ va_S.rf (fun k hk => absurd hk (Nat.not_lt_zero _)) (Nat.le_refl _) (fun _ _ => rfl) rfl hl (Nat.le_refl _) (Nat.le_refl _)
    obtain ⟨t, a1, o, b1, b2, b3⟩ := K s₁ hh0 X₀
    refine ⟨t, o, ?_, b1, b2, ?_⟩
    · rw [lg_entry_eq]
      exact a1
    · rcases b3 with ⟨⟨⟨v, h', N', φ', e1, ⟨-, σ', -, e2⟩, -⟩, -⟩, Lz, ⟨f1, f2, f3⟩, hLz⟩ | ⟨z, -, E, ce, Lz, ⟨⟨h', N', φ', ⟨-, σ', -, e2⟩, -⟩, -⟩, -⟩
      · cases e2
        refine ⟨e1, f1, f2, ?_⟩
        exact f3.weaken (fun y hy hlt => absurd hlt (Nat.not_lt.mpr (hLz y hy))) (Nat.le_refl _) (Nat.le_refl _)
      · cases e2
theorem lw_pre_spec {args : Array Value} {s : State} (h : (Jvm.Cond.and given_1 narrow_1).before args s = true) (hr : rest_1_c.before args s = true) : ∃ (b : Addr) (xs : List Int32), lw_P b xs args s := by
  have hs := flat_of_before _ h
  have hq := flat_of_before _ hr
  have hc : (Cond.count 1).before args s = true := hs _ (by decide +kernel)
  have harr : (Cond.arrayOf (.arg 0) .int).before args s = true := hs _ (by decide +kernel)
  have hle : (Cond.le (.length (.arg 0)) (.int 2561)).before args s = true := hs _ (by decide +kernel)
  have hlen : (Cond.isInt (.length (.arg 0))).before args s = true := hq _ (by decide +kernel)
  have hall : (Cond.all (.arg 0) (.isInt (.elem (.arg 0) (.index 0)))).before args s = true := hq _ (by decide +kernel)
  obtain ⟨b, xs, hb, hx⟩ := State.ints_of_pre rfl harr hlen hall
  have hsm : xs.length < 2 ^ 31 := hx.choose_spec.2.2.2
  have hev : (Term.length (.arg 0)).eval args s none [] s = some (.int xs.length.toInt32) := hx.length_eval hb
  have hv := Cond.le_ints hev (show (Term.int 2561).eval args s none [] s = some (.int 2561) from rfl)
  have hd : xs.length.toInt32 ≤ 2561 := by
    simpa [Cond.before, Cond.holds, hv] using hle
  have hN : xs.length ≤ 2561 := (Int32.ofNat_le_ofNat hsm (by decide)).mp (show Int32.ofNat xs.length ≤ Int32.ofNat 2561 from hd)
  exact ⟨b, xs, Cond.one_arg hc (show args[0]? = some (.ref b) from hb), hx, hN, h⟩
theorem lw_comes_open (H : law_Owed) (l : Launch) (htr : l.stackTraces = false) : Comes l x (Jvm.Cond.code x code maxLocals ret :: tables_1) room_1 (fun tb e args s => Calls_1 tb e args s ∧ rest_1 tb e args s ∧ Pre_1 tb e args s)
    (fun _ _ args s o t => lw_Q args s o t) := by
  intro p e ha hc hk s m args below hf hfit hheap happ hpre
  obtain ⟨b, xs, hP⟩ := lw_pre_spec hpre.2.2 hpre.2.1
  obtain ⟨k, o, h1, h2, h3, hQ⟩ := lw_walk_open H l htr b xs p e ha hc hk s m args below hf ((Spec.applies_iff_loose hf).mp happ).1 hP trivial
  exact ⟨k, o, h1, h2, h3, hQ⟩
theorem lw_frame {s t : State} {o : Outcome} {args : Array Value} (h : Framed s o t [] 601024 7293000) :
    Framed s o t (fieldLocs frame_1_writes args s ++ arrayLocs frame_1_arrays args s ++ staticLocs frame_1_statics s) 601024 7293000 := h
theorem lw_limb_open (H : law_Owed) (L : Cond) (hL : ∀ (args : Array Value) (s t : State), L.after args s (.returned (some (.int 1))) t = true) :
    ArmFor flags0 classFile x code maxLocals ret World_1 tables_1 room_1 Calls_1 rest_1 Pre_1
      (fun tb e a s o t => postC L tb e a s o t ∧ Framed s o t (fieldLocs frame_1_writes a s ++ arrayLocs frame_1_arrays a s ++ staticLocs frame_1_statics s) 601024 7293000) := by
  intro l hfl _ _ p e ha hc hk s m args below hf hfit hheap happ hpre
  have htr : l.stackTraces = false := by
    unfold Launch.stackTraces
    rw [hfl]
    decide +kernel
  obtain ⟨k, o, h1, h2, h3, rfl, hF⟩ := lw_comes_open H l htr p e ha hc hk s m args below hf hfit hheap happ hpre
  exact ⟨k, _, h1, h2, h3, hL args s _, lw_frame hF⟩
theorem i_vc_open (H : law_Owed) : Claimed_1_1 ∧ Claimed_1_2 := ⟨lw_limb_open H limb_1_1 (fun args s t => by simp [limb_1_1, Cond.after, Cond.holds, Cond.value]), lw_limb_open H limb_1_2 (fun args s t => Cond.after_iff.mpr (by
  first | (rw [show limb_1_2 = Cond.eq .result (.int 1) from rfl, Cond.eq_ints (x := 1) (y := 1) rfl rfl]; simp; done) | (simp [limb_1_2, Cond.value, Term.eval]; done)))⟩
