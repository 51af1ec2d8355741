section KR
variable {L : Nat} {xs : Nat → Int32} {M : ka_Md} {R : Room} {pc q : Nat} {ls : List (Nat × Value)} {st : List Value} {h : ka_H} {N mc ms : Nat} {Q : ka_O → ka_H → Nat → Prop}
theorem ka_iconst {n : Int} {v : Int32} (hd : decode M.2.1 pc = .ok (.iconst n, 1)) (hn : pc + 1 = q) (hv : Int32.ofInt n = v) (k : ka_W L xs M R q ls (.int v :: st) h N mc ms Q) : ka_W L xs M R pc ls st h N mc ms Q := by
  subst hn
  exact ka_pure (fun p l e s m args below meth c H locs cells slots Z φ rls hx hb hown hts hl kk => lv_iconst hx hb hd hv kk) k
theorem ka_bipush {n : Int} {v : Int32} (hd : decode M.2.1 pc = .ok (.bipush n, 2)) (hn : pc + 2 = q) (hv : (Int8.ofInt n).toInt32 = v) (k : ka_W L xs M R q ls (.int v :: st) h N mc ms Q) : ka_W L xs M R pc ls st h N mc ms Q := by
  subst hn
  exact ka_pure (fun p l e s m args below meth c H locs cells slots Z φ rls hx hb hown hts hl kk => lv_bipush hx hb hd hv kk) k
theorem ka_sipush {n : Int} {v : Int32} (hd : decode M.2.1 pc = .ok (.sipush n, 3)) (hn : pc + 3 = q) (hv : (Int16.ofInt n).toInt32 = v) (k : ka_W L xs M R q ls (.int v :: st) h N mc ms Q) : ka_W L xs M R pc ls st h N mc ms Q := by
  subst hn
  exact ka_pure (fun p l e s m args below meth c H locs cells slots Z φ rls hx hb hown hts hl kk => lv_sipush hx hb hd hv kk) k
theorem ka_lconst {n : Fin 2} {v : Int64} (hd : decode M.2.1 pc = .ok (.lconst n, 1)) (hn : pc + 1 = q) (hv : Int64.ofNat (n : Nat) = v) (k : ka_W L xs M R q ls (.long v :: st) h N mc ms Q) : ka_W L xs M R pc ls st h N mc ms Q := by
  subst hn
  exact ka_pure (fun p l e s m args below meth c H locs cells slots Z φ rls hx hb hown hts hl kk => lv_lconst hx hb hd hv kk) k
theorem ka_ldc {n : Nat} {v : Int32} (hd : decode M.2.1 pc = .ok (.ldc n, 2)) (hn : pc + 2 = q) (hw : Cond.constant M.1.cls n v ∈ ka_T) (k : ka_W L xs M R q ls (.int v :: st) h N mc ms Q) : ka_W L xs M R pc ls st h N mc ms Q := by
  subst hn
  exact ka_pure (fun p l e s m args below meth c H locs cells slots Z φ rls hx hb hown hts hl kk => lv_ldc hx hb hown (hts _ hw) hd kk) k
theorem ka_ldcw {n : Nat} {v : Int32} (hd : decode M.2.1 pc = .ok (.ldc_w n, 3)) (hn : pc + 3 = q) (hw : Cond.constant M.1.cls n v ∈ ka_T) (k : ka_W L xs M R q ls (.int v :: st) h N mc ms Q) : ka_W L xs M R pc ls st h N mc ms Q := by
  subst hn
  exact ka_pure (fun p l e s m args below meth c H locs cells slots Z φ rls hx hb hown hts hl kk => lv_ldcw hx hb hown (hts _ hw) hd kk) k
theorem ka_ldc2 {n : Nat} {v : Int64} (hd : decode M.2.1 pc = .ok (.ldc2_w n, 3)) (hn : pc + 3 = q) (hw : Cond.constantLong M.1.cls n v ∈ ka_T) (k : ka_W L xs M R q ls (.long v :: st) h N mc ms Q) : ka_W L xs M R pc ls st h N mc ms Q := by
  subst hn
  exact ka_pure (fun p l e s m args below meth c H locs cells slots Z φ rls hx hb hown hts hl kk => lv_ldc2 hx hb hown (hts _ hw) hd kk) k
theorem ka_iload_n {j : Fin 4} {i : Nat} {x : Int32} (hd : decode M.2.1 pc = .ok (.iload_n j, 1)) (hn : pc + 1 = q) (hi : (j : Nat) = i) (g : Nat) (hg : ls[g]? = some (i, .int x)) (k : ka_W L xs M R q ls (.int x :: st) h N mc ms Q) : ka_W L xs M R pc ls st h N mc ms Q := by
  subst hn
  exact ka_pure (fun p l e s m args below meth c H locs cells slots Z φ rls hx hb hown hts hl kk => lv_iload_n hx hb hd hi (ka_at hl hg) kk) k
theorem ka_iload {i : Nat} {x : Int32} (hd : decode M.2.1 pc = .ok (.iload i, 2)) (hn : pc + 2 = q) (g : Nat) (hg : ls[g]? = some (i, .int x)) (k : ka_W L xs M R q ls (.int x :: st) h N mc ms Q) : ka_W L xs M R pc ls st h N mc ms Q := by
  subst hn
  exact ka_pure (fun p l e s m args below meth c H locs cells slots Z φ rls hx hb hown hts hl kk => lv_iload hx hb hd (ka_at hl hg) kk) k
theorem ka_lload_n {j : Fin 4} {i : Nat} {x : Int64} (hd : decode M.2.1 pc = .ok (.lload_n j, 1)) (hn : pc + 1 = q) (hi : (j : Nat) = i) (g : Nat) (hg : ls[g]? = some (i, .long x)) (k : ka_W L xs M R q ls (.long x :: st) h N mc ms Q) : ka_W L xs M R pc ls st h N mc ms Q := by
  subst hn
  exact ka_pure (fun p l e s m args below meth c H locs cells slots Z φ rls hx hb hown hts hl kk => lv_lload_n hx hb hd hi (ka_at hl hg) kk) k
theorem ka_lload {i : Nat} {x : Int64} (hd : decode M.2.1 pc = .ok (.lload i, 2)) (hn : pc + 2 = q) (g : Nat) (hg : ls[g]? = some (i, .long x)) (k : ka_W L xs M R q ls (.long x :: st) h N mc ms Q) : ka_W L xs M R pc ls st h N mc ms Q := by
  subst hn
  exact ka_pure (fun p l e s m args below meth c H locs cells slots Z φ rls hx hb hown hts hl kk => lv_lload hx hb hd (ka_at hl hg) kk) k
theorem ka_aload_n {j : Fin 4} {i : Nat} {x : Nat} (hd : decode M.2.1 pc = .ok (.aload_n j, 1)) (hn : pc + 1 = q) (hi : (j : Nat) = i) (g : Nat) (hg : ls[g]? = some (i, .ref x)) (k : ka_W L xs M R q ls (.ref x :: st) h N mc ms Q) : ka_W L xs M R pc ls st h N mc ms Q := by
  subst hn
  exact ka_pure (fun p l e s m args below meth c H locs cells slots Z φ rls hx hb hown hts hl kk => lv_aload_n hx hb hd hi (ka_at hl hg) kk) k
theorem ka_aload {i : Nat} {x : Nat} (hd : decode M.2.1 pc = .ok (.aload i, 2)) (hn : pc + 2 = q) (g : Nat) (hg : ls[g]? = some (i, .ref x)) (k : ka_W L xs M R q ls (.ref x :: st) h N mc ms Q) : ka_W L xs M R pc ls st h N mc ms Q := by
  subst hn
  exact ka_pure (fun p l e s m args below meth c H locs cells slots Z φ rls hx hb hown hts hl kk => lv_aload hx hb hd (ka_at hl hg) kk) k
theorem ka_iadd {x y : Int32} (hd : decode M.2.1 pc = .ok (.iadd, 1)) (hn : pc + 1 = q)  (k : ka_W L xs M R q ls (.int (x + y) :: st) h N mc ms Q) : ka_W L xs M R pc ls (.int y :: .int x :: st) h N mc ms Q := by
  subst hn
  exact ka_pure (fun p l e s m args below meth c H locs cells slots Z φ rls hx hb hown hts hl kk => lv_iadd hx hb hd kk) k
theorem ka_isub {x y : Int32} (hd : decode M.2.1 pc = .ok (.isub, 1)) (hn : pc + 1 = q)  (k : ka_W L xs M R q ls (.int (x - y) :: st) h N mc ms Q) : ka_W L xs M R pc ls (.int y :: .int x :: st) h N mc ms Q := by
  subst hn
  exact ka_pure (fun p l e s m args below meth c H locs cells slots Z φ rls hx hb hown hts hl kk => lv_isub hx hb hd kk) k
theorem ka_imul {x y : Int32} (hd : decode M.2.1 pc = .ok (.imul, 1)) (hn : pc + 1 = q)  (k : ka_W L xs M R q ls (.int (x * y) :: st) h N mc ms Q) : ka_W L xs M R pc ls (.int y :: .int x :: st) h N mc ms Q := by
  subst hn
  exact ka_pure (fun p l e s m args below meth c H locs cells slots Z φ rls hx hb hown hts hl kk => lv_imul hx hb hd kk) k
theorem ka_iand {x y : Int32} (hd : decode M.2.1 pc = .ok (.iand, 1)) (hn : pc + 1 = q)  (k : ka_W L xs M R q ls (.int (x &&& y) :: st) h N mc ms Q) : ka_W L xs M R pc ls (.int y :: .int x :: st) h N mc ms Q := by
  subst hn
  exact ka_pure (fun p l e s m args below meth c H locs cells slots Z φ rls hx hb hown hts hl kk => lv_iand hx hb hd kk) k
theorem ka_ior {x y : Int32} (hd : decode M.2.1 pc = .ok (.ior, 1)) (hn : pc + 1 = q)  (k : ka_W L xs M R q ls (.int (x ||| y) :: st) h N mc ms Q) : ka_W L xs M R pc ls (.int y :: .int x :: st) h N mc ms Q := by
  subst hn
  exact ka_pure (fun p l e s m args below meth c H locs cells slots Z φ rls hx hb hown hts hl kk => lv_ior hx hb hd kk) k
theorem ka_ixor {x y : Int32} (hd : decode M.2.1 pc = .ok (.ixor, 1)) (hn : pc + 1 = q)  (k : ka_W L xs M R q ls (.int (x ^^^ y) :: st) h N mc ms Q) : ka_W L xs M R pc ls (.int y :: .int x :: st) h N mc ms Q := by
  subst hn
  exact ka_pure (fun p l e s m args below meth c H locs cells slots Z φ rls hx hb hown hts hl kk => lv_ixor hx hb hd kk) k
theorem ka_ishl {x y : Int32} (hd : decode M.2.1 pc = .ok (.ishl, 1)) (hn : pc + 1 = q)  (k : ka_W L xs M R q ls (.int (x <<< (y &&& 31)) :: st) h N mc ms Q) : ka_W L xs M R pc ls (.int y :: .int x :: st) h N mc ms Q := by
  subst hn
  exact ka_pure (fun p l e s m args below meth c H locs cells slots Z φ rls hx hb hown hts hl kk => lv_ishl hx hb hd kk) k
theorem ka_ishr {x y : Int32} (hd : decode M.2.1 pc = .ok (.ishr, 1)) (hn : pc + 1 = q)  (k : ka_W L xs M R q ls (.int (x >>> (y &&& 31)) :: st) h N mc ms Q) : ka_W L xs M R pc ls (.int y :: .int x :: st) h N mc ms Q := by
  subst hn
  exact ka_pure (fun p l e s m args below meth c H locs cells slots Z φ rls hx hb hown hts hl kk => lv_ishr hx hb hd kk) k
theorem ka_idiv {x y : Int32} (hd : decode M.2.1 pc = .ok (.idiv, 1)) (hn : pc + 1 = q) (hne : ¬ y = 0) (k : ka_W L xs M R q ls (.int (x / y) :: st) h N mc ms Q) : ka_W L xs M R pc ls (.int y :: .int x :: st) h N mc ms Q := by
  subst hn
  exact ka_pure (fun p l e s m args below meth c H locs cells slots Z φ rls hx hb hown hts hl kk => lv_idiv hx hb hd hne kk) k
theorem ka_irem {x y : Int32} (hd : decode M.2.1 pc = .ok (.irem, 1)) (hn : pc + 1 = q) (hne : ¬ y = 0) (k : ka_W L xs M R q ls (.int (x - x / y * y) :: st) h N mc ms Q) : ka_W L xs M R pc ls (.int y :: .int x :: st) h N mc ms Q := by
  subst hn
  exact ka_pure (fun p l e s m args below meth c H locs cells slots Z φ rls hx hb hown hts hl kk => lv_irem hx hb hd hne kk) k
theorem ka_ineg {x : Int32} (hd : decode M.2.1 pc = .ok (.ineg, 1)) (hn : pc + 1 = q)  (k : ka_W L xs M R q ls (.int (-x) :: st) h N mc ms Q) : ka_W L xs M R pc ls (.int x :: st) h N mc ms Q := by
  subst hn
  exact ka_pure (fun p l e s m args below meth c H locs cells slots Z φ rls hx hb hown hts hl kk => lv_ineg hx hb hd kk) k
theorem ka_ladd {x y : Int64} (hd : decode M.2.1 pc = .ok (.ladd, 1)) (hn : pc + 1 = q)  (k : ka_W L xs M R q ls (.long (x + y) :: st) h N mc ms Q) : ka_W L xs M R pc ls (.long y :: .long x :: st) h N mc ms Q := by
  subst hn
  exact ka_pure (fun p l e s m args below meth c H locs cells slots Z φ rls hx hb hown hts hl kk => lv_ladd hx hb hd kk) k
theorem ka_lsub {x y : Int64} (hd : decode M.2.1 pc = .ok (.lsub, 1)) (hn : pc + 1 = q)  (k : ka_W L xs M R q ls (.long (x - y) :: st) h N mc ms Q) : ka_W L xs M R pc ls (.long y :: .long x :: st) h N mc ms Q := by
  subst hn
  exact ka_pure (fun p l e s m args below meth c H locs cells slots Z φ rls hx hb hown hts hl kk => lv_lsub hx hb hd kk) k
theorem ka_lmul {x y : Int64} (hd : decode M.2.1 pc = .ok (.lmul, 1)) (hn : pc + 1 = q)  (k : ka_W L xs M R q ls (.long (x * y) :: st) h N mc ms Q) : ka_W L xs M R pc ls (.long y :: .long x :: st) h N mc ms Q := by
  subst hn
  exact ka_pure (fun p l e s m args below meth c H locs cells slots Z φ rls hx hb hown hts hl kk => lv_lmul hx hb hd kk) k
theorem ka_land {x y : Int64} (hd : decode M.2.1 pc = .ok (.land, 1)) (hn : pc + 1 = q)  (k : ka_W L xs M R q ls (.long (x &&& y) :: st) h N mc ms Q) : ka_W L xs M R pc ls (.long y :: .long x :: st) h N mc ms Q := by
  subst hn
  exact ka_pure (fun p l e s m args below meth c H locs cells slots Z φ rls hx hb hown hts hl kk => lv_land hx hb hd kk) k
theorem ka_lor {x y : Int64} (hd : decode M.2.1 pc = .ok (.lor, 1)) (hn : pc + 1 = q)  (k : ka_W L xs M R q ls (.long (x ||| y) :: st) h N mc ms Q) : ka_W L xs M R pc ls (.long y :: .long x :: st) h N mc ms Q := by
  subst hn
  exact ka_pure (fun p l e s m args below meth c H locs cells slots Z φ rls hx hb hown hts hl kk => lv_lor hx hb hd kk) k
theorem ka_lxor {x y : Int64} (hd : decode M.2.1 pc = .ok (.lxor, 1)) (hn : pc + 1 = q)  (k : ka_W L xs M R q ls (.long (x ^^^ y) :: st) h N mc ms Q) : ka_W L xs M R pc ls (.long y :: .long x :: st) h N mc ms Q := by
  subst hn
  exact ka_pure (fun p l e s m args below meth c H locs cells slots Z φ rls hx hb hown hts hl kk => lv_lxor hx hb hd kk) k
theorem ka_ldiv {x y : Int64} (hd : decode M.2.1 pc = .ok (.ldiv, 1)) (hn : pc + 1 = q) (hne : ¬ y = 0) (k : ka_W L xs M R q ls (.long (x / y) :: st) h N mc ms Q) : ka_W L xs M R pc ls (.long y :: .long x :: st) h N mc ms Q := by
  subst hn
  exact ka_pure (fun p l e s m args below meth c H locs cells slots Z φ rls hx hb hown hts hl kk => lv_ldiv hx hb hd hne kk) k
theorem ka_lrem {x y : Int64} (hd : decode M.2.1 pc = .ok (.lrem, 1)) (hn : pc + 1 = q) (hne : ¬ y = 0) (k : ka_W L xs M R q ls (.long (x - x / y * y) :: st) h N mc ms Q) : ka_W L xs M R pc ls (.long y :: .long x :: st) h N mc ms Q := by
  subst hn
  exact ka_pure (fun p l e s m args below meth c H locs cells slots Z φ rls hx hb hown hts hl kk => lv_lrem hx hb hd hne kk) k
theorem ka_lneg {x : Int64} (hd : decode M.2.1 pc = .ok (.lneg, 1)) (hn : pc + 1 = q)  (k : ka_W L xs M R q ls (.long (-x) :: st) h N mc ms Q) : ka_W L xs M R pc ls (.long x :: st) h N mc ms Q := by
  subst hn
  exact ka_pure (fun p l e s m args below meth c H locs cells slots Z φ rls hx hb hown hts hl kk => lv_lneg hx hb hd kk) k
theorem ka_i2l {x : Int32} (hd : decode M.2.1 pc = .ok (.i2l, 1)) (hn : pc + 1 = q)  (k : ka_W L xs M R q ls (.long x.toInt64 :: st) h N mc ms Q) : ka_W L xs M R pc ls (.int x :: st) h N mc ms Q := by
  subst hn
  exact ka_pure (fun p l e s m args below meth c H locs cells slots Z φ rls hx hb hown hts hl kk => lv_i2l hx hb hd rfl kk) k
theorem ka_l2i {x : Int64} (hd : decode M.2.1 pc = .ok (.l2i, 1)) (hn : pc + 1 = q)  (k : ka_W L xs M R q ls (.int x.toInt32 :: st) h N mc ms Q) : ka_W L xs M R pc ls (.long x :: st) h N mc ms Q := by
  subst hn
  exact ka_pure (fun p l e s m args below meth c H locs cells slots Z φ rls hx hb hown hts hl kk => lv_l2i hx hb hd rfl kk) k
theorem ka_i2b {x : Int32} (hd : decode M.2.1 pc = .ok (.i2b, 1)) (hn : pc + 1 = q)  (k : ka_W L xs M R q ls (.int x.toInt8.toInt32 :: st) h N mc ms Q) : ka_W L xs M R pc ls (.int x :: st) h N mc ms Q := by
  subst hn
  exact ka_pure (fun p l e s m args below meth c H locs cells slots Z φ rls hx hb hown hts hl kk => lv_i2b hx hb hd rfl kk) k
theorem ka_iushr {x y : Int32} (hd : decode M.2.1 pc = .ok (.iushr, 1)) (hn : pc + 1 = q)  (k : ka_W L xs M R q ls (.int (x.toUInt32 >>> (y.toUInt32 &&& Int32.toUInt32 31)).toInt32 :: st) h N mc ms Q) : ka_W L xs M R pc ls (.int y :: .int x :: st) h N mc ms Q := by
  subst hn
  exact ka_pure (fun p l e s m args below meth c H locs cells slots Z φ rls hx hb hown hts hl kk => lv_iushr hx hb hd rfl kk) k
theorem ka_lushr {x : Int64} {y : Int32} (hd : decode M.2.1 pc = .ok (.lushr, 1)) (hn : pc + 1 = q)  (k : ka_W L xs M R q ls (.long (x.toUInt64 >>> (y.toInt64.toUInt64 &&& Int64.toUInt64 63)).toInt64 :: st) h N mc ms Q) : ka_W L xs M R pc ls (.int y :: .long x :: st) h N mc ms Q := by
  subst hn
  exact ka_pure (fun p l e s m args below meth c H locs cells slots Z φ rls hx hb hown hts hl kk => lv_lushr hx hb hd rfl kk) k
theorem ka_lshl {x : Int64} {y : Int32} (hd : decode M.2.1 pc = .ok (.lshl, 1)) (hn : pc + 1 = q)  (k : ka_W L xs M R q ls (.long (x <<< (y.toInt64 &&& 63)) :: st) h N mc ms Q) : ka_W L xs M R pc ls (.int y :: .long x :: st) h N mc ms Q := by
  subst hn
  exact ka_pure (fun p l e s m args below meth c H locs cells slots Z φ rls hx hb hown hts hl kk => lv_lshl hx hb hd rfl kk) k
theorem ka_lshr {x : Int64} {y : Int32} (hd : decode M.2.1 pc = .ok (.lshr, 1)) (hn : pc + 1 = q)  (k : ka_W L xs M R q ls (.long (x >>> (y.toInt64 &&& 63)) :: st) h N mc ms Q) : ka_W L xs M R pc ls (.int y :: .long x :: st) h N mc ms Q := by
  subst hn
  exact ka_pure (fun p l e s m args below meth c H locs cells slots Z φ rls hx hb hown hts hl kk => lv_lshr hx hb hd rfl kk) k
theorem ka_lcmp {x y : Int64} (hd : decode M.2.1 pc = .ok (.lcmp, 1)) (hn : pc + 1 = q)  (k : ka_W L xs M R q ls (.int (lg_cmp x y) :: st) h N mc ms Q) : ka_W L xs M R pc ls (.long y :: .long x :: st) h N mc ms Q := by
  subst hn
  exact ka_pure (fun p l e s m args below meth c H locs cells slots Z φ rls hx hb hown hts hl kk => W.lcmp hx hb hd kk) k
theorem ka_dup {v : Value} (hd : decode M.2.1 pc = .ok (.dup, 1)) (hn : pc + 1 = q) (hv : v.category = 1) (k : ka_W L xs M R q ls (v :: v :: st) h N mc ms Q) : ka_W L xs M R pc ls (v :: st) h N mc ms Q := by
  subst hn
  exact ka_pure (fun p l e s m args below meth c H locs cells slots Z φ rls hx hb hown hts hl kk => lv_dup hx hb hd ((ka_v_cat φ v).trans hv) kk) k
theorem ka_pop {v : Value} (hd : decode M.2.1 pc = .ok (.pop, 1)) (hn : pc + 1 = q) (hv : v.category = 1) (k : ka_W L xs M R q ls st h N mc ms Q) : ka_W L xs M R pc ls (v :: st) h N mc ms Q := by
  subst hn
  exact ka_pure (fun p l e s m args below meth c H locs cells slots Z φ rls hx hb hown hts hl kk => lv_pop hx hb hd ((ka_v_cat φ v).trans hv) kk) k
theorem ka_dup2 {v w : Value} (hd : decode M.2.1 pc = .ok (.dup2, 1)) (hn : pc + 1 = q) (hv : v.category = 1) (hw : w.category = 1) (k : ka_W L xs M R q ls (v :: w :: v :: w :: st) h N mc ms Q) : ka_W L xs M R pc ls (v :: w :: st) h N mc ms Q := by
  subst hn
  exact ka_pure (fun p l e s m args below meth c H locs cells slots Z φ rls hx hb hown hts hl kk => lv_dup2_11 hx hb hd ((ka_v_cat φ v).trans hv) ((ka_v_cat φ w).trans hw) kk) k
theorem ka_goto {off : Int} (hd : decode M.2.1 pc = .ok (.goto off, 3)) (ht : (pc : Int) + off = (q : Int)) (k : ka_W L xs M R q ls st h N mc ms Q) : ka_W L xs M R pc ls st h N mc ms Q :=
  ka_pure (fun p l e s m args below meth c H locs cells slots Z φ rls hx hb hown hts hl kk => lv_goto hx hb hd ht kk) k
theorem ka_two {p1 p2 : Nat} {st' : List Value} {cd : Prop} (hs : ∀ (p : Program) (l : Launch) (e : Env) (s : State) (m : MethodId) (args : Array Value) (below : List Frame) (meth : Method) (c : Code) (H : Heap) (locs : List Loc) (cells slots : Nat) (Z : State → Prop) (φ : Nat → Nat) (rls : Array Slot),
      p.tables.exec = Jvm.exec → c.code = M.2.1 → (cd → W p l e R s m args below meth c H locs cells slots Z (F0 m p1 rls (st'.map (ka_v φ)))) → (¬ cd → W p l e R s m args below meth c H locs cells slots Z (F0 m p2 rls (st'.map (ka_v φ)))) → W p l e R s m args below meth c H locs cells slots Z (F0 m pc rls (st.map (ka_v φ))))
    (kt : cd → ka_W L xs M R p1 ls st' h N mc ms Q) (kf : ¬ cd → ka_W L xs M R p2 ls st' h N mc ms Q) : ka_W L xs M R pc ls st h N mc ms Q := by
  intro l D τ b A φ0 N0 p e s m args below meth c H locs cells slots φ rls C hP hD hS hw hN hφ hb hl hc hz
  exact hs p l e s m args below meth c H locs cells slots _ φ rls C.1 C.2.1 (fun z => kt z l D τ b A φ0 N0 p e s m args below meth c H locs cells slots φ rls C hP hD hS hw hN hφ hb hl hc hz) (fun z => kf z l D τ b A φ0 N0 p e s m args below meth c H locs cells slots φ rls C hP hD hS hw hN hφ hb hl hc hz)
theorem ka_if_eq {x : Int32} {off : Int} {tgt : Nat} (hd : decode M.2.1 pc = .ok (.ifCond .eq off, 3)) (ht : (pc : Int) + off = (tgt : Int)) (hn : pc + 3 = q) (kt : x = 0 → ka_W L xs M R tgt ls st h N mc ms Q) (kf : ¬ (x = 0) → ka_W L xs M R q ls st h N mc ms Q) : ka_W L xs M R pc ls (.int x :: st) h N mc ms Q := by
  subst hn
  exact ka_two (fun p l e s m args below meth c H locs cells slots Z φ rls hx hb k1 k2 => lv_if_eq hx hb hd ht k1 k2) kt kf
theorem ka_icmp_eq {x y : Int32} {off : Int} {tgt : Nat} (hd : decode M.2.1 pc = .ok (.if_icmp .eq off, 3)) (ht : (pc : Int) + off = (tgt : Int)) (hn : pc + 3 = q) (kt : x = y → ka_W L xs M R tgt ls st h N mc ms Q) (kf : ¬ (x = y) → ka_W L xs M R q ls st h N mc ms Q) : ka_W L xs M R pc ls (.int y :: .int x :: st) h N mc ms Q := by
  subst hn
  exact ka_two (fun p l e s m args below meth c H locs cells slots Z φ rls hx hb k1 k2 => lv_icmp_eq hx hb hd ht k1 k2) kt kf
theorem ka_if_ne {x : Int32} {off : Int} {tgt : Nat} (hd : decode M.2.1 pc = .ok (.ifCond .ne off, 3)) (ht : (pc : Int) + off = (tgt : Int)) (hn : pc + 3 = q) (kt : ¬ x = 0 → ka_W L xs M R tgt ls st h N mc ms Q) (kf : x = 0 → ka_W L xs M R q ls st h N mc ms Q) : ka_W L xs M R pc ls (.int x :: st) h N mc ms Q := by
  subst hn
  exact ka_two (fun p l e s m args below meth c H locs cells slots Z φ rls hx hb k1 k2 => lv_if_ne hx hb hd ht k1 (fun z => k2 (fun y => y z))) kt (fun z => kf (Decidable.not_not.mp z))
theorem ka_icmp_ne {x y : Int32} {off : Int} {tgt : Nat} (hd : decode M.2.1 pc = .ok (.if_icmp .ne off, 3)) (ht : (pc : Int) + off = (tgt : Int)) (hn : pc + 3 = q) (kt : ¬ x = y → ka_W L xs M R tgt ls st h N mc ms Q) (kf : x = y → ka_W L xs M R q ls st h N mc ms Q) : ka_W L xs M R pc ls (.int y :: .int x :: st) h N mc ms Q := by
  subst hn
  exact ka_two (fun p l e s m args below meth c H locs cells slots Z φ rls hx hb k1 k2 => lv_icmp_ne hx hb hd ht k1 (fun z => k2 (fun y => y z))) kt (fun z => kf (Decidable.not_not.mp z))
theorem ka_if_lt {x : Int32} {off : Int} {tgt : Nat} (hd : decode M.2.1 pc = .ok (.ifCond .lt off, 3)) (ht : (pc : Int) + off = (tgt : Int)) (hn : pc + 3 = q) (kt : x < 0 → ka_W L xs M R tgt ls st h N mc ms Q) (kf : ¬ (x < 0) → ka_W L xs M R q ls st h N mc ms Q) : ka_W L xs M R pc ls (.int x :: st) h N mc ms Q := by
  subst hn
  exact ka_two (fun p l e s m args below meth c H locs cells slots Z φ rls hx hb k1 k2 => lv_if_lt hx hb hd ht k1 k2) kt kf
theorem ka_icmp_lt {x y : Int32} {off : Int} {tgt : Nat} (hd : decode M.2.1 pc = .ok (.if_icmp .lt off, 3)) (ht : (pc : Int) + off = (tgt : Int)) (hn : pc + 3 = q) (kt : x < y → ka_W L xs M R tgt ls st h N mc ms Q) (kf : ¬ (x < y) → ka_W L xs M R q ls st h N mc ms Q) : ka_W L xs M R pc ls (.int y :: .int x :: st) h N mc ms Q := by
  subst hn
  exact ka_two (fun p l e s m args below meth c H locs cells slots Z φ rls hx hb k1 k2 => lv_icmp_lt hx hb hd ht k1 k2) kt kf
theorem ka_if_ge {x : Int32} {off : Int} {tgt : Nat} (hd : decode M.2.1 pc = .ok (.ifCond .ge off, 3)) (ht : (pc : Int) + off = (tgt : Int)) (hn : pc + 3 = q) (kt : 0 ≤ x → ka_W L xs M R tgt ls st h N mc ms Q) (kf : ¬ (0 ≤ x) → ka_W L xs M R q ls st h N mc ms Q) : ka_W L xs M R pc ls (.int x :: st) h N mc ms Q := by
  subst hn
  exact ka_two (fun p l e s m args below meth c H locs cells slots Z φ rls hx hb k1 k2 => lv_if_ge hx hb hd ht k1 k2) kt kf
theorem ka_icmp_ge {x y : Int32} {off : Int} {tgt : Nat} (hd : decode M.2.1 pc = .ok (.if_icmp .ge off, 3)) (ht : (pc : Int) + off = (tgt : Int)) (hn : pc + 3 = q) (kt : y ≤ x → ka_W L xs M R tgt ls st h N mc ms Q) (kf : ¬ (y ≤ x) → ka_W L xs M R q ls st h N mc ms Q) : ka_W L xs M R pc ls (.int y :: .int x :: st) h N mc ms Q := by
  subst hn
  exact ka_two (fun p l e s m args below meth c H locs cells slots Z φ rls hx hb k1 k2 => lv_icmp_ge hx hb hd ht k1 k2) kt kf
theorem ka_if_gt {x : Int32} {off : Int} {tgt : Nat} (hd : decode M.2.1 pc = .ok (.ifCond .gt off, 3)) (ht : (pc : Int) + off = (tgt : Int)) (hn : pc + 3 = q) (kt : 0 < x → ka_W L xs M R tgt ls st h N mc ms Q) (kf : ¬ (0 < x) → ka_W L xs M R q ls st h N mc ms Q) : ka_W L xs M R pc ls (.int x :: st) h N mc ms Q := by
  subst hn
  exact ka_two (fun p l e s m args below meth c H locs cells slots Z φ rls hx hb k1 k2 => lv_if_gt hx hb hd ht k1 k2) kt kf
theorem ka_icmp_gt {x y : Int32} {off : Int} {tgt : Nat} (hd : decode M.2.1 pc = .ok (.if_icmp .gt off, 3)) (ht : (pc : Int) + off = (tgt : Int)) (hn : pc + 3 = q) (kt : y < x → ka_W L xs M R tgt ls st h N mc ms Q) (kf : ¬ (y < x) → ka_W L xs M R q ls st h N mc ms Q) : ka_W L xs M R pc ls (.int y :: .int x :: st) h N mc ms Q := by
  subst hn
  exact ka_two (fun p l e s m args below meth c H locs cells slots Z φ rls hx hb k1 k2 => lv_icmp_gt hx hb hd ht k1 k2) kt kf
theorem ka_if_le {x : Int32} {off : Int} {tgt : Nat} (hd : decode M.2.1 pc = .ok (.ifCond .le off, 3)) (ht : (pc : Int) + off = (tgt : Int)) (hn : pc + 3 = q) (kt : x ≤ 0 → ka_W L xs M R tgt ls st h N mc ms Q) (kf : ¬ (x ≤ 0) → ka_W L xs M R q ls st h N mc ms Q) : ka_W L xs M R pc ls (.int x :: st) h N mc ms Q := by
  subst hn
  exact ka_two (fun p l e s m args below meth c H locs cells slots Z φ rls hx hb k1 k2 => lv_if_le hx hb hd ht k1 k2) kt kf
theorem ka_icmp_le {x y : Int32} {off : Int} {tgt : Nat} (hd : decode M.2.1 pc = .ok (.if_icmp .le off, 3)) (ht : (pc : Int) + off = (tgt : Int)) (hn : pc + 3 = q) (kt : x ≤ y → ka_W L xs M R tgt ls st h N mc ms Q) (kf : ¬ (x ≤ y) → ka_W L xs M R q ls st h N mc ms Q) : ka_W L xs M R pc ls (.int y :: .int x :: st) h N mc ms Q := by
  subst hn
  exact ka_two (fun p l e s m args below meth c H locs cells slots Z φ rls hx hb k1 k2 => lv_icmp_le hx hb hd ht k1 k2) kt kf
theorem ka_tabIn {dflt lo hi : Int} {offs : Array Int} {len : Nat} {x : Int32} {off : Int} (hd : decode M.2.1 pc = .ok (.tableswitch dflt lo hi offs, len)) (h1 : ¬ x.toInt < lo) (h2 : ¬ hi < x.toInt) (ho : offs[(x.toInt - lo).toNat]? = some off) (ht : (pc : Int) + off = (q : Int)) (k : ka_W L xs M R q ls st h N mc ms Q) : ka_W L xs M R pc ls (.int x :: st) h N mc ms Q :=
  ka_pure (fun p l e s m args below meth c H locs cells slots Z φ rls hx hb hown hts hl kk => lv_tableIn hx hb hd h1 h2 ho ht kk) k
theorem ka_tabOut {dflt lo hi : Int} {offs : Array Int} {len : Nat} {x : Int32} (hd : decode M.2.1 pc = .ok (.tableswitch dflt lo hi offs, len)) (hx0 : x.toInt < lo ∨ hi < x.toInt) (ht : (pc : Int) + dflt = (q : Int)) (k : ka_W L xs M R q ls st h N mc ms Q) : ka_W L xs M R pc ls (.int x :: st) h N mc ms Q :=
  ka_pure (fun p l e s m args below meth c H locs cells slots Z φ rls hx hb hown hts hl kk => lv_tableOut hx hb hd hx0 ht kk) k
theorem ka_loc1 (φ : Nat → Nat) (ls : List (Nat × Value)) (i : Nat) : (ka_loc φ ls).filter (fun q => !(q.1 == i) && !(q.1 + 1 == i && q.2.category == 2)) = ka_loc φ (ls.filter (fun q => !(q.1 == i) && !(q.1 + 1 == i && q.2.category == 2))) := by
  simp only [ka_loc, List.filter_map]
  congr 1
  apply List.filter_congr
  intro a _
  simp [ka_v_cat]
theorem ka_loc2 (φ : Nat → Nat) (ls : List (Nat × Value)) (i : Nat) : (ka_loc φ ls).filter (fun q => !(q.1 == i) && (!(q.1 == i + 1) && !(q.1 + 1 == i && q.2.category == 2))) = ka_loc φ (ls.filter (fun q => !(q.1 == i) && (!(q.1 == i + 1) && !(q.1 + 1 == i && q.2.category == 2)))) := by
  simp only [ka_loc, List.filter_map]
  congr 1
  apply List.filter_congr
  intro a _
  simp [ka_v_cat]
theorem ka_istore_n {j : Fin 4} {i : Nat} {x : Int32} {ls' : List (Nat × Value)} (hd : decode M.2.1 pc = .ok (.istore_n j, 1)) (hn : pc + 1 = q) (hi : (j : Nat) = i) (hL : i < M.2.2.1) (he : (i, Value.int x) :: ls.filter (fun q => !(q.1 == i) && !(q.1 + 1 == i && q.2.category == 2)) = ls') (k : ka_W L xs M R q (ls') st h N mc ms Q) : ka_W L xs M R pc ls (.int x :: st) h N mc ms Q := by
  subst hn; subst he
  intro l D τ b A φ0 N0 p e s m args below meth c H locs cells slots φ rls C hP hD hS hw hN hφ hb hl hc hz
  exact lv_istore_n (lv' := ka_loc φ ((i, Value.int x) :: ls.filter (fun q => !(q.1 == i) && !(q.1 + 1 == i && q.2.category == 2)))) C.1 C.2.1 hd hi hl hL (by rw [ka_loc1]; rfl) (fun rls2 hl2 => k l D τ b A φ0 N0 p e s m args below meth c H locs cells slots φ rls2 C hP hD hS hw hN hφ hb hl2 hc hz)
theorem ka_istore {i : Nat} {x : Int32} {ls' : List (Nat × Value)} (hd : decode M.2.1 pc = .ok (.istore i, 2)) (hn : pc + 2 = q) (hL : i < M.2.2.1) (he : (i, Value.int x) :: ls.filter (fun q => !(q.1 == i) && !(q.1 + 1 == i && q.2.category == 2)) = ls') (k : ka_W L xs M R q (ls') st h N mc ms Q) : ka_W L xs M R pc ls (.int x :: st) h N mc ms Q := by
  subst hn; subst he
  intro l D τ b A φ0 N0 p e s m args below meth c H locs cells slots φ rls C hP hD hS hw hN hφ hb hl hc hz
  exact lv_istore (lv' := ka_loc φ ((i, Value.int x) :: ls.filter (fun q => !(q.1 == i) && !(q.1 + 1 == i && q.2.category == 2)))) C.1 C.2.1 hd hl hL (by rw [ka_loc1]; rfl) (fun rls2 hl2 => k l D τ b A φ0 N0 p e s m args below meth c H locs cells slots φ rls2 C hP hD hS hw hN hφ hb hl2 hc hz)
theorem ka_lstore_n {j : Fin 4} {i : Nat} {x : Int64} {ls' : List (Nat × Value)} (hd : decode M.2.1 pc = .ok (.lstore_n j, 1)) (hn : pc + 1 = q) (hi : (j : Nat) = i) (hL : i + 1 < M.2.2.1) (he : (i, Value.long x) :: ls.filter (fun q => !(q.1 == i) && (!(q.1 == i + 1) && !(q.1 + 1 == i && q.2.category == 2))) = ls') (k : ka_W L xs M R q (ls') st h N mc ms Q) : ka_W L xs M R pc ls (.long x :: st) h N mc ms Q := by
  subst hn; subst he
  intro l D τ b A φ0 N0 p e s m args below meth c H locs cells slots φ rls C hP hD hS hw hN hφ hb hl hc hz
  exact lv_lstore_n (lv' := ka_loc φ ((i, Value.long x) :: ls.filter (fun q => !(q.1 == i) && (!(q.1 == i + 1) && !(q.1 + 1 == i && q.2.category == 2))))) C.1 C.2.1 hd hi hl hL (by rw [ka_loc2]; rfl) (fun rls2 hl2 => k l D τ b A φ0 N0 p e s m args below meth c H locs cells slots φ rls2 C hP hD hS hw hN hφ hb hl2 hc hz)
theorem ka_lstore {i : Nat} {x : Int64} {ls' : List (Nat × Value)} (hd : decode M.2.1 pc = .ok (.lstore i, 2)) (hn : pc + 2 = q) (hL : i + 1 < M.2.2.1) (he : (i, Value.long x) :: ls.filter (fun q => !(q.1 == i) && (!(q.1 == i + 1) && !(q.1 + 1 == i && q.2.category == 2))) = ls') (k : ka_W L xs M R q (ls') st h N mc ms Q) : ka_W L xs M R pc ls (.long x :: st) h N mc ms Q := by
  subst hn; subst he
  intro l D τ b A φ0 N0 p e s m args below meth c H locs cells slots φ rls C hP hD hS hw hN hφ hb hl hc hz
  exact lv_lstore (lv' := ka_loc φ ((i, Value.long x) :: ls.filter (fun q => !(q.1 == i) && (!(q.1 == i + 1) && !(q.1 + 1 == i && q.2.category == 2))))) C.1 C.2.1 hd hl hL (by rw [ka_loc2]; rfl) (fun rls2 hl2 => k l D τ b A φ0 N0 p e s m args below meth c H locs cells slots φ rls2 C hP hD hS hw hN hφ hb hl2 hc hz)
theorem ka_astore_n {j : Fin 4} {i : Nat} {x : Nat} {ls' : List (Nat × Value)} (hd : decode M.2.1 pc = .ok (.astore_n j, 1)) (hn : pc + 1 = q) (hi : (j : Nat) = i) (hL : i < M.2.2.1) (he : (i, Value.ref x) :: ls.filter (fun q => !(q.1 == i) && !(q.1 + 1 == i && q.2.category == 2)) = ls') (k : ka_W L xs M R q (ls') st h N mc ms Q) : ka_W L xs M R pc ls (.ref x :: st) h N mc ms Q := by
  subst hn; subst he
  intro l D τ b A φ0 N0 p e s m args below meth c H locs cells slots φ rls C hP hD hS hw hN hφ hb hl hc hz
  exact lv_astore_n (lv' := ka_loc φ ((i, Value.ref x) :: ls.filter (fun q => !(q.1 == i) && !(q.1 + 1 == i && q.2.category == 2)))) C.1 C.2.1 hd hi hl hL (by rw [ka_loc1]; rfl) (fun rls2 hl2 => k l D τ b A φ0 N0 p e s m args below meth c H locs cells slots φ rls2 C hP hD hS hw hN hφ hb hl2 hc hz)
theorem ka_astore {i : Nat} {x : Nat} {ls' : List (Nat × Value)} (hd : decode M.2.1 pc = .ok (.astore i, 2)) (hn : pc + 2 = q) (hL : i < M.2.2.1) (he : (i, Value.ref x) :: ls.filter (fun q => !(q.1 == i) && !(q.1 + 1 == i && q.2.category == 2)) = ls') (k : ka_W L xs M R q (ls') st h N mc ms Q) : ka_W L xs M R pc ls (.ref x :: st) h N mc ms Q := by
  subst hn; subst he
  intro l D τ b A φ0 N0 p e s m args below meth c H locs cells slots φ rls C hP hD hS hw hN hφ hb hl hc hz
  exact lv_astore (lv' := ka_loc φ ((i, Value.ref x) :: ls.filter (fun q => !(q.1 == i) && !(q.1 + 1 == i && q.2.category == 2)))) C.1 C.2.1 hd hl hL (by rw [ka_loc1]; rfl) (fun rls2 hl2 => k l D τ b A φ0 N0 p e s m args below meth c H locs cells slots φ rls2 C hP hD hS hw hN hφ hb hl2 hc hz)
theorem ka_iinc {i g : Nat} {n : Int} {x v : Int32} {ls' : List (Nat × Value)} (hd : decode M.2.1 pc = .ok (.iinc i n, 3)) (hn : pc + 3 = q) (hg : ls[g]? = some (i, .int x)) (hv : x + Int32.ofInt n = v) (hL : i < M.2.2.1) (he : (i, Value.int v) :: ls.filter (fun q => !(q.1 == i) && !(q.1 + 1 == i && q.2.category == 2)) = ls') (k : ka_W L xs M R q (ls') st h N mc ms Q) : ka_W L xs M R pc ls st h N mc ms Q := by
  subst hn; subst he
  intro l D τ b A φ0 N0 p e s m args below meth c H locs cells slots φ rls C hP hD hS hw hN hφ hb hl hc hz
  exact lv_iinc (k := g) (lv' := ka_loc φ ((i, Value.int v) :: ls.filter (fun q => !(q.1 == i) && !(q.1 + 1 == i && q.2.category == 2)))) C.1 C.2.1 hd hl (by simp [ka_loc, hg, ka_v]) hv hL (by rw [ka_loc1]; rfl) (fun rls2 hl2 => k l D τ b A φ0 N0 p e s m args below meth c H locs cells slots φ rls2 C hP hD hS hw hN hφ hb hl2 hc hz)
theorem ka_sub {ls' : List (Nat × Value)} (ks : List Nat) (he : lv_pick ls ks = ls') (k : ka_W L xs M R pc (ls') st h N mc ms Q) : ka_W L xs M R pc ls st h N mc ms Q := by
  subst he
  intro l D τ b A φ0 N0 p e s m args below meth c H locs cells slots φ rls C hP hD hS hw hN hφ hb hl hc hz
  refine k l D τ b A φ0 N0 p e s m args below meth c H locs cells slots φ rls C hP hD hS hw hN hφ hb (lv_sub hl ks ?_) hc hz
  simp only [lv_pick, ka_loc, List.map_filterMap, List.getElem?_map]
theorem ka_less {mc' ms' : Nat} (h1 : mc' ≤ mc) (h2 : ms' ≤ ms) (k : ka_W L xs M R pc ls st h N mc' ms' Q) : ka_W L xs M R pc ls st h N mc ms Q := by
  intro l D τ b A φ0 N0 p e s m args below meth c H locs cells slots φ rls C hP hD hS hw hN hφ hb hl hc hz
  exact k l D τ b A φ0 N0 p e s m args below meth c H locs cells slots φ rls C hP hD hS hw hN hφ hb hl (by omega) (by omega)
theorem ka_post {Q' : ka_O → ka_H → Nat → Prop} (hq : ∀ o h' N', Q o h' N' → Q' o h' N') (k : ka_W L xs M R pc ls st h N mc ms Q) : ka_W L xs M R pc ls st h N mc ms Q' := by
  intro l D τ b A φ0 N0 p e s m args below meth c H locs cells slots φ rls C hP hD hS hw hN hφ hb hl hc hz T hT X
  obtain ⟨t, a1, o, b1, b2, b3⟩ := k l D τ b A φ0 N0 p e s m args below meth c H locs cells slots φ rls C hP hD hS hw hN hφ hb hl hc hz T hT X
  refine ⟨t, a1, o, b1, b2, ?_⟩
  rcases b3 with ⟨⟨⟨v, h', N', φ', e1, e2, e3⟩, e4⟩, e5⟩ | ⟨z, e1, E, ce, L', ⟨⟨h', N', φ', e2, e3⟩, e4⟩, e5⟩
  · exact Or.inl ⟨⟨⟨v, h', N', φ', e1, hq _ _ _ e2, e3⟩, e4⟩, e5⟩
  · exact Or.inr ⟨z, e1, E, ce, L', ⟨⟨h', N', φ', hq _ _ _ e2, e3⟩, e4⟩, e5⟩
end KR
