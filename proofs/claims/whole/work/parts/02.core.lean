/-! ===== the walk told once: an abstract heap by numbers of things, a judgement over it ===== -/
abbrev ka_H : Type := Nat → va_E
/-- a method: name, code, locals, what it returns, its table -/
abbrev ka_Md : Type := MethodName × ByteArray × Nat × Option FieldType × List (Nat × Nat × Nat × Nat)
/-- how a call ends: it returned, or it threw something of the class of that name -/
abbrev ka_O : Type := Option Value ⊕ String
/-- the number of the law's script among the things -/
def ka_S : Nat := 1000000
/-- the tables' words that stay -/
def ka_T : List Cond := lw_tbl.filter goodWord
def ka_v (φ : Nat → Nat) (v : Value) : Value := match v with
  | .ref k => .ref (φ k)
  | w => w
def ka_e (φ : Nat → Nat) (τ : Nat → ClassId) (e : va_E) : va_E := match e with
  | .inl (k, x) => .inl (τ k, x)
  | .inr (ci, fs) => .inr (ci, fs.map (ka_v φ))
def ka_w (φ : Nat → Nat) (τ : Nat → ClassId) (h : ka_H) (N : Nat) : va_W := (List.range N).map (fun k => (φ k, ka_e φ τ (h k)))
def ka_tys (τ : Nat → ClassId) : List (ClassId × FieldType) := [(τ 0, .int), (τ 1, .long), (τ 2, .byte)]
def ka_set (h : ka_H) (k : Nat) (e : va_E) : ka_H := fun j => if j = k then e else h j
def ka_wf (h : ka_H) (N : Nat) : Prop := ∀ k, k < N → ∀ (ci : Nat) (fs : List Value), h k = .inr (ci, fs) → ∀ j, Value.ref j ∈ fs → j < N
def ka_str : List (String × Nat × String) := [("WidthWords", 86, "the word has no whole bytes"), ("WidthWords", 101, "a quotient or rest by 0"), ("WidthWords", 120, "there is no such flag"), ("WidthWords", 122, "the word has no such field"), ("WidthWords", 128, "both have more than 512 bits"), ("WidthWords", 133, "the word can't have that width"), ("WidthWords", 145, "the word has no such bit"), ("WidthWords", 151, "the words are too wide or too narrow for a point"), ("WidthWords", 171, "there is no such word"), ("WidthWords", 174, "there is no such limb"), ("WidthWords", 176, "there is no such kind or way"), ("WidthWords", 178, "the words have not one width"), ("WidthWords", 182, "there are 600 words")]
/-- classes of which the first isn't one of the second -/
def ka_nc : List (String × String) := [("java/lang/IllegalArgumentException", "java/lang/ArrayIndexOutOfBoundsException"), ("java/lang/ArithmeticException", "java/lang/ArrayIndexOutOfBoundsException"), ("java/lang/UnsupportedOperationException", "java/lang/ArrayIndexOutOfBoundsException"), ("java/lang/ArithmeticException", "java/lang/IllegalArgumentException"), ("java/lang/UnsupportedOperationException", "java/lang/IllegalArgumentException"), ("java/lang/UnsupportedOperationException", "java/lang/ArithmeticException")]
theorem ka_w_at {φ : Nat → Nat} {τ : Nat → ClassId} {h : ka_H} {N k : Nat} (hk : k < N) : (ka_w φ τ h N)[k]? = some (φ k, ka_e φ τ (h k)) := by
  simp [ka_w, hk]
theorem ka_w_len {φ : Nat → Nat} {τ : Nat → ClassId} {h : ka_H} {N : Nat} : (ka_w φ τ h N).length = N := by simp [ka_w]
theorem ka_w_set {φ : Nat → Nat} {τ : Nat → ClassId} {h : ka_H} {N k : Nat} {e : va_E} (hk : k < N) : (ka_w φ τ h N).set k (φ k, ka_e φ τ e) = ka_w φ τ (ka_set h k e) N := by
  apply List.ext_getElem?
  intro j
  rw [List.getElem?_set]
  by_cases hj : k = j
  · subst hj
    rw [if_pos rfl, if_pos (by rw [ka_w_len]; exact hk), ka_w_at hk]
    simp [ka_set]
  · rw [if_neg hj]
    simp only [ka_w, List.getElem?_map]
    cases hr : (List.range N)[j]? with
    | none => rfl
    | some i =>
      have hi : i = j := by
        rw [List.getElem?_range] at hr
        · exact (Option.some.inj hr).symm
        · rcases Nat.lt_or_ge j N with q | q
          · exact q
          · rw [List.getElem?_eq_none (by simpa using q)] at hr; cases hr
      subst hi
      simp [ka_set, Ne.symm hj]
theorem ka_v_int (φ : Nat → Nat) (x : Int32) : ka_v φ (.int x) = .int x := rfl
theorem ka_v_long (φ : Nat → Nat) (x : Int64) : ka_v φ (.long x) = .long x := rfl
theorem ka_v_ref (φ : Nat → Nat) (k : Nat) : ka_v φ (.ref k) = .ref (φ k) := rfl
theorem ka_v_cat (φ : Nat → Nat) (v : Value) : (ka_v φ v).category = v.category := by cases v <;> rfl
theorem ka_st_cat (φ : Nat → Nat) (st : List Value) : ((st.map (ka_v φ)).map fun v => v.category) = st.map (fun v => v.category) := by
  rw [List.map_map]
  exact List.map_congr_left (fun v _ => ka_v_cat φ v)
theorem ka_v_same {φ ψ : Nat → Nat} {v : Value} (h : ∀ j, v = .ref j → φ j = ψ j) : ka_v φ v = ka_v ψ v := by
  cases v with
  | ref j => simp only [ka_v, h j rfl]
  | _ => rfl
theorem ka_vs_same {φ ψ : Nat → Nat} {vs : List Value} (h : ∀ j, Value.ref j ∈ vs → φ j = ψ j) : vs.map (ka_v φ) = vs.map (ka_v ψ) :=
  List.map_congr_left (fun v hv => ka_v_same (fun j e => h j (e ▸ hv)))
theorem ka_e_same {φ ψ : Nat → Nat} {τ : Nat → ClassId} {e : va_E} (h : ∀ ci fs, e = .inr (ci, fs) → ∀ j, Value.ref j ∈ fs → φ j = ψ j) : ka_e φ τ e = ka_e ψ τ e := by
  match e, h with
  | .inl (k, x), _ => rfl
  | .inr (ci, fs), h => simp only [ka_e, ka_vs_same (h ci fs rfl)]
theorem ka_w_same {φ ψ : Nat → Nat} {τ : Nat → ClassId} {h : ka_H} {N : Nat} (hw : ka_wf h N) (hs : ∀ j, j < N → φ j = ψ j) : ka_w φ τ h N = ka_w ψ τ h N := by
  refine List.map_congr_left (fun k hk => ?_)
  have hk := List.mem_range.mp hk
  rw [hs k hk, ka_e_same (fun ci fs he j hj => hs j (hw k hk ci fs he j hj))]
theorem ka_w_push {φ : Nat → Nat} {τ : Nat → ClassId} {h : ka_H} {N q : Nat} {e : va_E} (hw : ka_wf h N) (he : ∀ ci fs, e = .inr (ci, fs) → ∀ j, Value.ref j ∈ fs → j < N) :
    ka_w φ τ h N ++ [(q, ka_e φ τ e)] = ka_w (fun k => if k = N then q else φ k) τ (ka_set h N e) (N + 1) := by
  have h1 : ka_w φ τ h N = (List.range N).map (fun k => ((fun k => if k = N then q else φ k) k, ka_e (fun k => if k = N then q else φ k) τ (ka_set h N e k))) := by
    refine List.map_congr_left (fun k hk => ?_)
    have hk := List.mem_range.mp hk
    have h2 : ka_set h N e k = h k := by simp [ka_set, Nat.ne_of_lt hk]
    have h3 : (if k = N then q else φ k) = φ k := if_neg (Nat.ne_of_lt hk)
    show (φ k, ka_e φ τ (h k)) = ((if k = N then q else φ k), ka_e (fun k => if k = N then q else φ k) τ (ka_set h N e k))
    rw [h3, h2, ka_e_same (ψ := fun k => if k = N then q else φ k) (fun ci fs he j hj => (if_neg (Nat.ne_of_lt (hw k hk ci fs he j hj))).symm)]
  rw [h1]
  simp only [ka_w, List.range_succ, List.map_append, List.map_cons, List.map_nil]
  congr 2
  simp only [ka_set, if_pos]
  rw [ka_e_same (ψ := fun k => if k = N then q else φ k) (fun ci fs he' j hj => (if_neg (Nat.ne_of_lt (he ci fs he' j hj))).symm)]
theorem ka_wf_push {h : ka_H} {N : Nat} {e : va_E} (hw : ka_wf h N) (he : ∀ ci fs, e = .inr (ci, fs) → ∀ j, Value.ref j ∈ fs → j < N) : ka_wf (ka_set h N e) (N + 1) := by
  intro k hk ci fs hh j hj
  by_cases e1 : k = N
  · subst e1
    simp only [ka_set, if_pos] at hh
    exact Nat.lt_succ_of_lt (he ci fs hh j hj)
  · simp only [ka_set, if_neg e1] at hh
    exact Nat.lt_succ_of_lt (hw k (by omega) ci fs hh j hj)
theorem ka_wf_set {h : ka_H} {N k : Nat} {e : va_E} (hw : ka_wf h N) (he : ∀ ci fs, e = .inr (ci, fs) → ∀ j, Value.ref j ∈ fs → j < N) : ka_wf (ka_set h k e) N := by
  intro i hi ci fs hh j hj
  by_cases e1 : i = k
  · subst e1
    simp only [ka_set, if_pos] at hh
    exact he ci fs hh j hj
  · simp only [ka_set, if_neg e1] at hh
    exact hw i hi ci fs hh j hj
def ka_xs : List String := ["java/lang/ArrayIndexOutOfBoundsException", "java/lang/IllegalArgumentException", "java/lang/ArithmeticException", "java/lang/UnsupportedOperationException"]
/-- a class that is there and is itself -/
def ka_cst (E : String) (s : State) : Prop := ∃ c, s.vm.findClass E = some c ∧ s.vm.assignable c c = true
theorem ka_cst.moved {E : String} {s U : State} (ha : s.vm.Alike U.vm) (h : ka_cst E s) : ka_cst E U := by
  obtain ⟨c, h1, h2⟩ := h
  exact ⟨c, by rw [ha.findClass]; exact h1, by rw [ha.assignable]; exact h2⟩
theorem ka_cst.word {E : String} {s : State} {args : Array Value} (h : ka_cst E s) : (Cond.castable E E).before args s = true := by
  obtain ⟨c, h1, h2⟩ := h
  simp [Cond.before, Cond.holds, Cond.value, h1, h2]
/-- what holds at the entry of each method of the system: the classes, the script, the two statics of Throwable, the texts; A: what may be written -/
def ka_U (D : va_G) (τ : Nat → ClassId) (b L : Nat) (xs : Nat → Int32) (A : Nat → Prop) (s : State) : Prop :=
  va_K D vwCl (ka_tys τ) s ∧ (∀ q, s.heap.size ≤ q → A q) ∧ va_X b L xs s s.heap ∧ b < s.heap.size ∧ ¬ A b ∧ vx_Zq Bundle.tN "UNASSIGNED_STACK" Bundle.steD A s s.heap ∧ vx_Zq Bundle.tN "SUPPRESSED_SENTINEL" Bundle.listD A s s.heap ∧
  (∀ q ∈ ka_str, ∃ sa, vk_R q.1 q.2.1 q.2.2 sa s) ∧ s.vm.findClass ("[" ++ FieldType.int.toString) = some (τ 0) ∧ s.vm.findClass ("[" ++ FieldType.long.toString) = some (τ 1) ∧ s.vm.findClass ("[" ++ FieldType.byte.toString) = some (τ 2) ∧ (∀ q ∈ ka_nc, va_Nc q.1 q.2 s) ∧ (∀ E ∈ ka_xs, ka_cst E s)
theorem ka_U.moved {D : va_G} {τ : Nat → ClassId} {b L : Nat} {xs : Nat → Int32} {A : Nat → Prop} {s U : State} {H : Heap} {locs : List Loc} (h : ka_U D τ b L xs A s) (hW : s.WarmedH U.vm) (hS : va_S A s.heap H locs) (hU : U.heap = H) : ka_U D τ b L xs A U := by
  obtain ⟨h1, h2, h3, h4, h5, h6, h7, h8, h9, h10, h11, h12, h13⟩ := h
  obtain ⟨s1, s2, -⟩ := hS
  rw [← hU] at s1 s2
  have ha : s.vm.Alike U.vm := hW.alike
  refine ⟨va_K.moved ha h1, fun q hq => h2 q (Nat.le_trans s1 hq), va_X.moved ha (h3.kept (s2 b h4 h5)), Nat.lt_of_lt_of_le h4 s1, h5, vx_Zq.moved ha (h6.kept s2), vx_Zq.moved ha (h7.kept s2), fun q hq => ?_, ?_, ?_, ?_, fun q hq => va_Nc.moved ha (h12 q hq), fun E hE => (h13 E hE).moved ha⟩
  · obtain ⟨sa, hsa⟩ := h8 q hq
    exact ⟨sa, hsa.warm hW⟩
  · rw [ha.findClass]; exact h9
  · rw [ha.findClass]; exact h10
  · rw [ha.findClass]; exact h11
/-- the world behind a call -/
def ka_B (D : va_G) (τ : Nat → ClassId) (A : Nat → Prop) (φ : Nat → Nat) (N : Nat) (h' : ka_H) (N' : Nat) (φ' : Nat → Nat) (t : State) : Prop :=
  va_P D vwCl (ka_w φ' τ h' N') t.heap ∧ va_D A (ka_w φ' τ h' N') ∧ ka_wf h' N' ∧ N ≤ N' ∧ (∀ k, k < N ∨ N' ≤ k → φ' k = φ k)
def ka_Pc (D : va_G) (τ : Nat → ClassId) (b L : Nat) (xs : Nat → Int32) (A : Nat → Prop) (φ : Nat → Nat) (av : List Value) (h : ka_H) (N : Nat) : Array Value → State → Prop := fun v U =>
  v = (av.map (ka_v φ)).toArray ∧ ka_U D τ b L xs A U ∧ φ ka_S = b ∧ va_P D vwCl (ka_w φ τ h N) U.heap ∧ va_D A (ka_w φ τ h N) ∧ ka_wf h N
def ka_Qc (D : va_G) (τ : Nat → ClassId) (A : Nat → Prop) (φ : Nat → Nat) (N : Nat) (Q : ka_O → ka_H → Nat → Prop) : Array Value → State → Outcome → State → Prop := fun _ st o t =>
  (∃ (v : Option Value) (h' : ka_H) (N' : Nat) (φ' : Nat → Nat), o = .returned (v.map (ka_v φ')) ∧ Q (.inl v) h' N' ∧ ka_B D τ A φ N h' N' φ' t) ∧ va_F A st t
def ka_Xc (D : va_G) (τ : Nat → ClassId) (A : Nat → Prop) (φ : Nat → Nat) (N : Nat) (Q : ka_O → ka_H → Nat → Prop) : String → State → State → Prop := fun E st t =>
  (∃ (h' : ka_H) (N' : Nat) (φ' : Nat → Nat), Q (.inr E) h' N' ∧ ka_B D τ A φ N h' N' φ' t) ∧ va_F A st t
def ka_ws (M : ka_Md) : List Cond := match M.2.2.2.2 with
  | [] => .code M.1 M.2.1 M.2.2.1 M.2.2.2.1 :: ka_T
  | hh => .codeWith M.1 M.2.1 M.2.2.1 M.2.2.2.1 hh :: ka_T
/-- THE CONTRACT of a method -/
def ka_M (L : Nat) (xs : Nat → Int32) (M : ka_Md) (R : Room) (av : List Value) (h : ka_H) (N : Nat) (Q : ka_O → ka_H → Nat → Prop) : Prop :=
  ∀ (l : Launch) (D : va_G) (τ : Nat → ClassId) (b : Nat) (A : Nat → Prop) (φ : Nat → Nat), l.stackTraces = false →
    vx_Met l M.1 (ka_ws M) R (ka_Pc D τ b L xs A φ av h N) (ka_Qc D τ A φ N Q) (ka_Xc D τ A φ N Q) R.cells R.slots A
/-- what is known inside a method's body -/
def ka_C (L : Nat) (xs : Nat → Int32) (M : ka_Md) (D : va_G) (τ : Nat → ClassId) (b : Nat) (A : Nat → Prop) (p : Program) (l : Launch) (s : State) (m : MethodId) (args : Array Value) (meth : Method) (c : Code) : Prop :=
  p.tables.exec = Jvm.exec ∧ c.code = M.2.1 ∧ c.maxLocals = M.2.2.1 ∧ meth.sig.returnType = M.2.2.2.1 ∧ meth.locks = false ∧ meth.name = M.1.name ∧ c.exceptionTable.toList = tableOf M.2.2.2.2 ∧ s.vm.findClass M.1.cls = some m.cls ∧
  (∀ w ∈ ka_T, w.before args s = true) ∧ l.stackTraces = false ∧ ka_U D τ b L xs A s
def ka_loc (φ : Nat → Nat) (ls : List (Nat × Value)) : List (Nat × Value) := ls.map (fun q => (q.1, ka_v φ q.2))
/-- THE JUDGEMENT: at pc with the locals ls and the operand stack st, over the things h (N of them), at most mc cells and ms slots still to be made: it comes to an end with Q -/
def ka_W (L : Nat) (xs : Nat → Int32) (M : ka_Md) (R : Room) (pc : Nat) (ls : List (Nat × Value)) (st : List Value) (h : ka_H) (N mc ms : Nat) (Q : ka_O → ka_H → Nat → Prop) : Prop :=
  ∀ (l : Launch) (D : va_G) (τ : Nat → ClassId) (b : Nat) (A : Nat → Prop) (φ0 : Nat → Nat) (N0 : Nat) (p : Program) (e : Env) (s : State) (m : MethodId) (args : Array Value) (below : List Frame) (meth : Method) (c : Code) (H : Heap) (locs : List Loc) (cells slots : Nat) (φ : Nat → Nat) (rls : Array Slot),
    ka_C L xs M D τ b A p l s m args meth c → va_P D vwCl (ka_w φ τ h N) H → va_D A (ka_w φ τ h N) → va_S A s.heap H locs → ka_wf h N → N0 ≤ N → (∀ k, k < N0 ∨ N ≤ k → φ k = φ0 k) → φ ka_S = b →
    lv_has rls M.2.2.1 (ka_loc φ ls) → cells + mc ≤ R.cells → slots + ms ≤ R.slots →
    W p l e R s m args below meth c H locs cells slots (vx_MQ below (ka_Qc D τ A φ0 N0 Q) (ka_Xc D τ A φ0 N0 Q) args s R.cells R.slots A) (F0 m pc rls (st.map (ka_v φ)))
section KA
variable {L : Nat} {xs : Nat → Int32} {M : ka_Md} {R : Room} {pc : Nat} {ls : List (Nat × Value)} {st : List Value} {h : ka_H} {N mc ms : Nat} {Q : ka_O → ka_H → Nat → Prop}
/-- a step that leaves locals and heap alone -/
theorem ka_pure {pc' : Nat} {st' : List Value} (hs : ∀ (p : Program) (l : Launch) (e : Env) (s : State) (m : MethodId) (args : Array Value) (below : List Frame) (meth : Method) (c : Code) (H : Heap) (locs : List Loc) (cells slots : Nat) (Z : State → Prop) (φ : Nat → Nat) (rls : Array Slot),
      p.tables.exec = Jvm.exec → c.code = M.2.1 → s.vm.findClass M.1.cls = some m.cls → (∀ w ∈ ka_T, w.before args s = true) → lv_has rls M.2.2.1 (ka_loc φ ls) →
      W p l e R s m args below meth c H locs cells slots Z (F0 m pc' rls (st'.map (ka_v φ))) → W p l e R s m args below meth c H locs cells slots Z (F0 m pc rls (st.map (ka_v φ))))
    (k : ka_W L xs M R pc' ls st' h N mc ms Q) : ka_W L xs M R pc ls st h N mc ms Q := by
  intro l D τ b A φ0 N0 p e s m args below meth c H locs cells slots φ rls C hP hD hS hw hN hφ hb hl hc hz
  exact hs p l e s m args below meth c H locs cells slots _ φ rls C.1 C.2.1 C.2.2.2.2.2.2.2.1 C.2.2.2.2.2.2.2.2.1 hl (k l D τ b A φ0 N0 p e s m args below meth c H locs cells slots φ rls C hP hD hS hw hN hφ hb hl hc hz)
theorem ka_at {φ : Nat → Nat} {rls : Array Slot} {nL : Nat} (hl : lv_has rls nL (ka_loc φ ls)) {k i : Nat} {v : Value} (hk : ls[k]? = some (i, v)) : rls[i]? = some (.val (ka_v φ v)) :=
  lv_at hl k (by simp [ka_loc, hk])
end KA
/-- the words of a call: by a name, of a method without a table -/
def ka_lk (own : String) (idx : Nat) (M2 : ka_Md) (n : Nat) : Prop :=
  M2.2.2.2.2 = [] ∧ Cond.methodLink own idx M2.1 ∈ ka_T ∧ Cond.initialized M2.1.cls ∈ ka_T ∧ Cond.code M2.1 M2.2.1 M2.2.2.1 M2.2.2.2.1 ∈ ka_T ∧ (M2.1.cls ≠ "java/lang/invoke/MethodHandle" ∧ M2.1.cls ≠ "java/lang/invoke/VarHandle" ∧ (parseMethodDescriptor M2.1.desc).map (fun d => d.parameters.length) = some n)
def ka_lkV (own : String) (idx : Nat) (M2 : ka_Md) (n : Nat) : Prop := ka_lk own idx M2 n ∧ Cond.instanceMethod M2.1 ∈ ka_T ∧ Cond.selects M2.1.cls M2.1 M2.1 ∈ ka_T
def ka_lkS (own : String) (idx : Nat) (M2 : ka_Md) (n : Nat) : Prop := ka_lk own idx M2 n ∧ Cond.static M2.1 ∈ ka_T
def ka_lkI (own : String) (idx : Nat) (M2 : ka_Md) (n : Nat) : Prop := ka_lk own idx M2 n ∧ M2.1.name = "<init>" ∧ Cond.instanceMethod M2.1 ∈ ka_T
