section
/-! ===== the law: each call of the class answers as the reference does ===== -/
def lw_P1 : ka_O → ks_St → Prop := fun o _ => o = .inl (some (.int 1))
theorem lw_z {n : Nat} (h : n ≤ 3) (d : nI n = 0) : n = 0 := (nI_eq (b := 0) (by omega) (by decide)).mp d
theorem lw_ge {σ1 σ2 : ks_St} {r w : Int32} (f : fm_ σ1 σ2) (a : sg_ σ1 29 0 = w.toInt64) (b : r = w) : lg_cmp (sg_ σ2 29 (0 : Int32).toNatClampNeg) r.toInt64 = 0 := by
  rw [lg_cmp_eq, f.2.2.2 29 (by decide), b]; exact a
theorem lw_gl {σ1 σ2 : ks_St} {r w : Int64} (f : fm_ σ1 σ2) (a : sg_ σ1 29 0 = w) (b : r = w) : lg_cmp (sg_ σ2 29 (0 : Int32).toNatClampNeg) r = 0 := by
  rw [lg_cmp_eq, f.2.2.2 29 (by decide), b]; exact a
theorem lw_b0 {σ1 σ2 : ks_St} {r w : Int32} (f : fm_ σ1 σ2) (a : sg_ σ1 29 0 = w.toInt64) (b : r = w) (z : r = 0) : lg_cmp (sg_ σ2 29 (0 : Int32).toNatClampNeg) 0 = 0 := by
  have h := lw_ge f a b
  rw [z] at h; exact h
theorem lw_b1 {σ1 σ2 : ks_St} {r w : Int32} (f : fm_ σ1 σ2) (a : sg_ σ1 29 0 = w.toInt64) (b : r = w) (hw : ∃ q, w = b1_ q) (z : ¬ r = 0) : lg_cmp (sg_ σ2 29 (0 : Int32).toNatClampNeg) 1 = 0 := by
  have h := lw_ge f a b
  obtain ⟨q, e⟩ := hw
  rw [b, e, b1_0] at z
  rw [b, e, eq_true_of_ne_false z] at h; exact h
variable {L : Nat} {xs : Nat → Int32} {σ : ks_St} {A : wa_} {x4 : Int32} {mc ms : Nat}
theorem lc_word (h1 : CI_ A σ) (h2 : MI_ A σ) (hn : wN A < 600)  (KK : ∀ (A' : wa_) (σ' : ks_St), CI_ A' σ' → MI_ A' σ' → wN A' ≤ wN A + 1 → ks_W L xs mL_law rm_L_law 1118 [(0, .ref ka_S), (1, .ref 0), (2, .ref 17), (3, .ref 29), (4, .int x4)] [] σ' mc ms lw_P1) : ks_W L xs mL_law rm_L_law 122 [(0, .ref ka_S), (1, .ref 0), (2, .ref 17), (3, .ref 29), (4, .int x4)] [.ref 29, .ref 0] σ (mc + 7) (ms + 42) lw_P1 := by
  refine ka_less (mc' := mc + 1) (ms' := ms + 6) (by omega) (by omega) ?_
  refine cs_L_law_122 (w_word h1 hn) (fun r1 σ1 z => ?_)
  obtain ⟨rfl, z1, c1, f1⟩ := z
  have m1 := MI_fw h2 f1
  refine sg_L_law_125  (cs_L_law_128 (m_word m1 hn) (fun r2 σ2 z => ?_))
  obtain ⟨e14, e0, m2, f2⟩ := z
  refine sg_L_law_131 (cs_L_law_134 m_thrown (fun r3 σ3 z => ?_))
  obtain ⟨rfl, rfl⟩ := z
  have c2 := CI_of_m c1 f2
  have oc := oc_word (A := A)
  have K := KK _ _ c2 m2 oc.2
  have o3 : ∀ d : nI (o_word A).1 = 0, (o_word A).1 = 0 := fun d => lw_z (by have := oc.1; omega) d
  refine sg_L_law_137 (fun _ _ => sg_L_law_161 K) (fun _ _ _ => sg_L_law_161 K) (fun _ d y => absurd (lw_ge f2 (z1 (o3 d)) (e0 (o3 d))) y) (fun d => absurd e14 d)
theorem lc_set (h1 : CI_ A σ) (h2 : MI_ A σ) (hn : wN A < 600) (v1 : vp_in (x4 + 1) L) (v2 : vp_in (x4 + 2) L) (v3 : vp_in (x4 + 3) L) (v4 : vp_in (x4 + 4) L) (KK : ∀ (A' : wa_) (σ' : ks_St), CI_ A' σ' → MI_ A' σ' → wN A' ≤ wN A + 1 → ks_W L xs mL_law rm_L_law 1118 [(0, .ref ka_S), (1, .ref 0), (2, .ref 17), (3, .ref 29), (4, .int x4)] [] σ' mc ms lw_P1) : ks_W L xs mL_law rm_L_law 200 [(0, .ref ka_S), (1, .ref 0), (2, .ref 17), (3, .ref 29), (4, .int x4)] [.ref 29, .long ((((xs (x4 + 3).toNatClampNeg).toInt64) <<< (((32 : Int32)).toInt64 &&& 63)) ||| (((xs (x4 + 4).toNatClampNeg).toInt64) &&& 4294967295)), .int (xs (x4 + 2).toNatClampNeg), .int (xs (x4 + 1).toNatClampNeg), .ref 0] σ (mc + 7) (ms + 42) lw_P1 := by
  refine ka_less (mc' := mc + 2) (ms' := ms + 12) (by omega) (by omega) ?_
  refine cs_L_law_200 (w_set h1) (fun r1 σ1 z => ?_)
  obtain ⟨rfl, z1, c1, f1⟩ := z
  have m1 := MI_fw h2 f1
  refine sg_L_law_203 v1 v2 v3 v4 (cs_L_law_240 (m_set m1) (fun r2 σ2 z => ?_))
  obtain ⟨e14, e0, m2, f2⟩ := z
  refine sg_L_law_243 (cs_L_law_246 m_thrown (fun r3 σ3 z => ?_))
  obtain ⟨rfl, rfl⟩ := z
  have c2 := CI_of_m c1 f2
  have oc := oc_set (A := A) (x1 := (xs (x4 + 1).toNatClampNeg)) (x2 := (xs (x4 + 2).toNatClampNeg)) (v := ((((xs (x4 + 3).toNatClampNeg).toInt64) <<< (((32 : Int32)).toInt64 &&& 63)) ||| (((xs (x4 + 4).toNatClampNeg).toInt64) &&& 4294967295)))
  have K := KK _ _ c2 m2 oc.2
  have o3 : ∀ d : nI (o_set A (xs (x4 + 1).toNatClampNeg) (xs (x4 + 2).toNatClampNeg) ((((xs (x4 + 3).toNatClampNeg).toInt64) <<< (((32 : Int32)).toInt64 &&& 63)) ||| (((xs (x4 + 4).toNatClampNeg).toInt64) &&& 4294967295))).1 = 0, (o_set A (xs (x4 + 1).toNatClampNeg) (xs (x4 + 2).toNatClampNeg) ((((xs (x4 + 3).toNatClampNeg).toInt64) <<< (((32 : Int32)).toInt64 &&& 63)) ||| (((xs (x4 + 4).toNatClampNeg).toInt64) &&& 4294967295))).1 = 0 := fun d => lw_z (by have := oc.1; omega) d
  refine sg_L_law_249 (fun _ _ => sg_L_law_280 K) (fun _ d x => sg_L_law_274 (fun _ => sg_L_law_280 K) (fun y => absurd (lw_b0 f2 (z1 (o3 d)) (e0 (o3 d)) x) y)) (fun _ d x => sg_L_law_274 (fun _ => sg_L_law_280 K) (fun y => absurd (lw_b1 f2 (z1 (o3 d)) (e0 (o3 d)) (ob_set (A := A) (x1 := (xs (x4 + 1).toNatClampNeg)) (x2 := (xs (x4 + 2).toNatClampNeg)) (v := ((((xs (x4 + 3).toNatClampNeg).toInt64) <<< (((32 : Int32)).toInt64 &&& 63)) ||| (((xs (x4 + 4).toNatClampNeg).toInt64) &&& 4294967295)))) x) y)) (fun d => absurd e14 d)
theorem lc_op (h1 : CI_ A σ) (h2 : MI_ A σ) (hn : wN A < 600) (v1 : vp_in (x4 + 1) L) (v2 : vp_in (x4 + 2) L) (v3 : vp_in (x4 + 3) L) (KK : ∀ (A' : wa_) (σ' : ks_St), CI_ A' σ' → MI_ A' σ' → wN A' ≤ wN A + 1 → ks_W L xs mL_law rm_L_law 1118 [(0, .ref ka_S), (1, .ref 0), (2, .ref 17), (3, .ref 29), (4, .int x4)] [] σ' mc ms lw_P1) : ks_W L xs mL_law rm_L_law 303 [(0, .ref ka_S), (1, .ref 0), (2, .ref 17), (3, .ref 29), (4, .int x4)] [.ref 29, .int (xs (x4 + 3).toNatClampNeg), .int (xs (x4 + 2).toNatClampNeg), .int (xs (x4 + 1).toNatClampNeg), .ref 0] σ (mc + 7) (ms + 42) lw_P1 := by
  refine ka_less (mc' := mc + 7) (ms' := ms + 42) (by omega) (by omega) ?_
  refine cs_L_law_303 (w_op h1 hn) (fun r1 σ1 z => ?_)
  obtain ⟨rfl, z1, c1, f1⟩ := z
  have m1 := MI_fw h2 f1
  refine sg_L_law_306 v1 v2 v3 (cs_L_law_327 (m_op m1 hn) (fun r2 σ2 z => ?_))
  obtain ⟨e14, e0, m2, f2⟩ := z
  refine sg_L_law_330 (cs_L_law_333 m_thrown (fun r3 σ3 z => ?_))
  obtain ⟨rfl, rfl⟩ := z
  have c2 := CI_of_m c1 f2
  have oc := oc_op (A := A) (x1 := (xs (x4 + 1).toNatClampNeg)) (x2 := (xs (x4 + 2).toNatClampNeg)) (x3 := (xs (x4 + 3).toNatClampNeg))
  have K := KK _ _ c2 m2 oc.2
  have o3 : ∀ d : nI (o_op A (xs (x4 + 1).toNatClampNeg) (xs (x4 + 2).toNatClampNeg) (xs (x4 + 3).toNatClampNeg)).1 = 0, (o_op A (xs (x4 + 1).toNatClampNeg) (xs (x4 + 2).toNatClampNeg) (xs (x4 + 3).toNatClampNeg)).1 = 0 := fun d => lw_z (by have := oc.1; omega) d
  refine sg_L_law_336 (fun _ _ => sg_L_law_360 K) (fun _ _ _ => sg_L_law_360 K) (fun _ d y => absurd (lw_ge f2 (z1 (o3 d)) (e0 (o3 d))) y) (fun d => absurd e14 d)
theorem lc_flag (h1 : CI_ A σ) (h2 : MI_ A σ) (hn : wN A < 600) (v1 : vp_in (x4 + 1) L) (KK : ∀ (A' : wa_) (σ' : ks_St), CI_ A' σ' → MI_ A' σ' → wN A' ≤ wN A + 1 → ks_W L xs mL_law rm_L_law 1118 [(0, .ref ka_S), (1, .ref 0), (2, .ref 17), (3, .ref 29), (4, .int x4)] [] σ' mc ms lw_P1) : ks_W L xs mL_law rm_L_law 371 [(0, .ref ka_S), (1, .ref 0), (2, .ref 17), (3, .ref 29), (4, .int x4)] [.ref 29, .int (xs (x4 + 1).toNatClampNeg), .ref 0] σ (mc + 7) (ms + 42) lw_P1 := by
  refine ka_less (mc' := mc + 1) (ms' := ms + 6) (by omega) (by omega) ?_
  refine cs_L_law_371 (w_flag h1) (fun r1 σ1 z => ?_)
  obtain ⟨rfl, z1, c1, f1⟩ := z
  have m1 := MI_fw h2 f1
  refine sg_L_law_374 v1 (cs_L_law_383 (m_flag m1) (fun r2 σ2 z => ?_))
  obtain ⟨e14, e0, m2, f2⟩ := z
  refine sg_L_law_386 (cs_L_law_389 m_thrown (fun r3 σ3 z => ?_))
  obtain ⟨rfl, rfl⟩ := z
  have c2 := CI_of_m c1 f2
  have oc := oc_flag (A := A) (x1 := (xs (x4 + 1).toNatClampNeg))
  have K := KK _ _ c2 m2 oc.2
  have o3 : ∀ d : nI (o_flag A (xs (x4 + 1).toNatClampNeg)).1 = 0, (o_flag A (xs (x4 + 1).toNatClampNeg)).1 = 0 := fun d => lw_z (by have := oc.1; omega) d
  refine sg_L_law_392 (fun _ _ => sg_L_law_416 K) (fun _ _ _ => sg_L_law_416 K) (fun _ d y => absurd (lw_ge f2 (z1 (o3 d)) (e0 (o3 d))) y) (fun d => absurd e14 d)
theorem lc_field (h1 : CI_ A σ) (h2 : MI_ A σ) (hn : wN A < 600) (v1 : vp_in (x4 + 1) L) (v2 : vp_in (x4 + 2) L) (v3 : vp_in (x4 + 3) L) (KK : ∀ (A' : wa_) (σ' : ks_St), CI_ A' σ' → MI_ A' σ' → wN A' ≤ wN A + 1 → ks_W L xs mL_law rm_L_law 1118 [(0, .ref ka_S), (1, .ref 0), (2, .ref 17), (3, .ref 29), (4, .int x4)] [] σ' mc ms lw_P1) : ks_W L xs mL_law rm_L_law 439 [(0, .ref ka_S), (1, .ref 0), (2, .ref 17), (3, .ref 29), (4, .int x4)] [.ref 29, .int (xs (x4 + 3).toNatClampNeg), .int (xs (x4 + 2).toNatClampNeg), .int (xs (x4 + 1).toNatClampNeg), .ref 0] σ (mc + 7) (ms + 42) lw_P1 := by
  refine ka_less (mc' := mc + 3) (ms' := ms + 18) (by omega) (by omega) ?_
  refine cs_L_law_439 (w_field h1 hn) (fun r1 σ1 z => ?_)
  obtain ⟨rfl, z1, c1, f1⟩ := z
  have m1 := MI_fw h2 f1
  refine sg_L_law_442 v1 v2 v3 (cs_L_law_463 (m_field m1 hn) (fun r2 σ2 z => ?_))
  obtain ⟨e14, e0, m2, f2⟩ := z
  refine sg_L_law_466 (cs_L_law_469 m_thrown (fun r3 σ3 z => ?_))
  obtain ⟨rfl, rfl⟩ := z
  have c2 := CI_of_m c1 f2
  have oc := oc_field (A := A) (x1 := (xs (x4 + 1).toNatClampNeg)) (x2 := (xs (x4 + 2).toNatClampNeg)) (x3 := (xs (x4 + 3).toNatClampNeg))
  have K := KK _ _ c2 m2 oc.2
  have o3 : ∀ d : nI (o_field A (xs (x4 + 1).toNatClampNeg) (xs (x4 + 2).toNatClampNeg) (xs (x4 + 3).toNatClampNeg)).1 = 0, (o_field A (xs (x4 + 1).toNatClampNeg) (xs (x4 + 2).toNatClampNeg) (xs (x4 + 3).toNatClampNeg)).1 = 0 := fun d => lw_z (by have := oc.1; omega) d
  refine sg_L_law_472 (fun _ _ => sg_L_law_496 K) (fun _ _ _ => sg_L_law_496 K) (fun _ d y => absurd (lw_ge f2 (z1 (o3 d)) (e0 (o3 d))) y) (fun d => absurd e14 d)
theorem lc_join (h1 : CI_ A σ) (h2 : MI_ A σ) (hn : wN A < 600) (v1 : vp_in (x4 + 1) L) (v2 : vp_in (x4 + 2) L) (KK : ∀ (A' : wa_) (σ' : ks_St), CI_ A' σ' → MI_ A' σ' → wN A' ≤ wN A + 1 → ks_W L xs mL_law rm_L_law 1118 [(0, .ref ka_S), (1, .ref 0), (2, .ref 17), (3, .ref 29), (4, .int x4)] [] σ' mc ms lw_P1) : ks_W L xs mL_law rm_L_law 513 [(0, .ref ka_S), (1, .ref 0), (2, .ref 17), (3, .ref 29), (4, .int x4)] [.ref 29, .int (xs (x4 + 2).toNatClampNeg), .int (xs (x4 + 1).toNatClampNeg), .ref 0] σ (mc + 7) (ms + 42) lw_P1 := by
  refine ka_less (mc' := mc + 4) (ms' := ms + 24) (by omega) (by omega) ?_
  refine cs_L_law_513 (w_join h1 hn) (fun r1 σ1 z => ?_)
  obtain ⟨rfl, z1, c1, f1⟩ := z
  have m1 := MI_fw h2 f1
  refine sg_L_law_516 v1 v2 (cs_L_law_531 (m_join m1 hn) (fun r2 σ2 z => ?_))
  obtain ⟨e14, e0, m2, f2⟩ := z
  refine sg_L_law_534 (cs_L_law_537 m_thrown (fun r3 σ3 z => ?_))
  obtain ⟨rfl, rfl⟩ := z
  have c2 := CI_of_m c1 f2
  have oc := oc_join (A := A) (x1 := (xs (x4 + 1).toNatClampNeg)) (x2 := (xs (x4 + 2).toNatClampNeg))
  have K := KK _ _ c2 m2 oc.2
  have o3 : ∀ d : nI (o_join A (xs (x4 + 1).toNatClampNeg) (xs (x4 + 2).toNatClampNeg)).1 = 0, (o_join A (xs (x4 + 1).toNatClampNeg) (xs (x4 + 2).toNatClampNeg)).1 = 0 := fun d => lw_z (by have := oc.1; omega) d
  refine sg_L_law_540 (fun _ _ => sg_L_law_564 K) (fun _ _ _ => sg_L_law_564 K) (fun _ d y => absurd (lw_ge f2 (z1 (o3 d)) (e0 (o3 d))) y) (fun d => absurd e14 d)
theorem lc_extend0 (h1 : CI_ A σ) (h2 : MI_ A σ) (hn : wN A < 600) (v1 : vp_in (x4 + 1) L) (v2 : vp_in (x4 + 2) L) (v3 : vp_in (x4 + 3) L) (hc : (xs (x4 + 3).toNatClampNeg) = 0) (KK : ∀ (A' : wa_) (σ' : ks_St), CI_ A' σ' → MI_ A' σ' → wN A' ≤ wN A + 1 → ks_W L xs mL_law rm_L_law 1118 [(0, .ref ka_S), (1, .ref 0), (2, .ref 17), (3, .ref 29), (4, .int x4)] [] σ' mc ms lw_P1) : ks_W L xs mL_law rm_L_law 594 [(0, .ref ka_S), (1, .ref 0), (2, .ref 17), (3, .ref 29), (4, .int x4)] [.int 0, .int (xs (x4 + 2).toNatClampNeg), .int (xs (x4 + 1).toNatClampNeg), .ref 0] σ (mc + 7) (ms + 42) lw_P1 := by
  refine ka_less (mc' := mc + 3) (ms' := ms + 18) (by omega) (by omega) ?_
  refine sg_L_law_594 (cs_L_law_595 (w_extend h1 hn) (fun r1 σ1 z => ?_))
  obtain ⟨rfl, z1, c1, f1⟩ := z
  have m1 := MI_fw h2 f1
  refine sg_L_law_598 v1 v2 v3 (fun _ => (cs_L_law_627 (m_extend m1 hn) (fun r2 σ2 z => ?_))) (fun q => absurd hc q)
  obtain ⟨e14, e0, m2, f2⟩ := z
  refine sg_L_law_630 (cs_L_law_633 m_thrown (fun r3 σ3 z => ?_))
  obtain ⟨rfl, rfl⟩ := z
  have c2 := CI_of_m c1 f2
  have oc := oc_extend (A := A) (x1 := (xs (x4 + 1).toNatClampNeg)) (x2 := (xs (x4 + 2).toNatClampNeg)) (x3 := 0)
  have K := KK _ _ c2 m2 oc.2
  have o3 : ∀ d : nI (o_extend A (xs (x4 + 1).toNatClampNeg) (xs (x4 + 2).toNatClampNeg) 0).1 = 0, (o_extend A (xs (x4 + 1).toNatClampNeg) (xs (x4 + 2).toNatClampNeg) 0).1 = 0 := fun d => lw_z (by have := oc.1; omega) d
  refine sg_L_law_636 (fun _ _ => sg_L_law_660 K) (fun _ _ _ => sg_L_law_660 K) (fun _ d y => absurd (lw_ge f2 (z1 (o3 d)) (e0 (o3 d))) y) (fun d => absurd e14 d)
theorem lc_extend1 (h1 : CI_ A σ) (h2 : MI_ A σ) (hn : wN A < 600) (v1 : vp_in (x4 + 1) L) (v2 : vp_in (x4 + 2) L) (v3 : vp_in (x4 + 3) L) (hc : ¬ (xs (x4 + 3).toNatClampNeg) = 0) (KK : ∀ (A' : wa_) (σ' : ks_St), CI_ A' σ' → MI_ A' σ' → wN A' ≤ wN A + 1 → ks_W L xs mL_law rm_L_law 1118 [(0, .ref ka_S), (1, .ref 0), (2, .ref 17), (3, .ref 29), (4, .int x4)] [] σ' mc ms lw_P1) : ks_W L xs mL_law rm_L_law 594 [(0, .ref ka_S), (1, .ref 0), (2, .ref 17), (3, .ref 29), (4, .int x4)] [.int 1, .int (xs (x4 + 2).toNatClampNeg), .int (xs (x4 + 1).toNatClampNeg), .ref 0] σ (mc + 7) (ms + 42) lw_P1 := by
  refine ka_less (mc' := mc + 3) (ms' := ms + 18) (by omega) (by omega) ?_
  refine sg_L_law_594 (cs_L_law_595 (w_extend h1 hn) (fun r1 σ1 z => ?_))
  obtain ⟨rfl, z1, c1, f1⟩ := z
  have m1 := MI_fw h2 f1
  refine sg_L_law_598 v1 v2 v3 (fun q => absurd q hc) (fun _ => (cs_L_law_627 (m_extend m1 hn) (fun r2 σ2 z => ?_)))
  obtain ⟨e14, e0, m2, f2⟩ := z
  refine sg_L_law_630 (cs_L_law_633 m_thrown (fun r3 σ3 z => ?_))
  obtain ⟨rfl, rfl⟩ := z
  have c2 := CI_of_m c1 f2
  have oc := oc_extend (A := A) (x1 := (xs (x4 + 1).toNatClampNeg)) (x2 := (xs (x4 + 2).toNatClampNeg)) (x3 := 1)
  have K := KK _ _ c2 m2 oc.2
  have o3 : ∀ d : nI (o_extend A (xs (x4 + 1).toNatClampNeg) (xs (x4 + 2).toNatClampNeg) 1).1 = 0, (o_extend A (xs (x4 + 1).toNatClampNeg) (xs (x4 + 2).toNatClampNeg) 1).1 = 0 := fun d => lw_z (by have := oc.1; omega) d
  refine sg_L_law_636 (fun _ _ => sg_L_law_660 K) (fun _ _ _ => sg_L_law_660 K) (fun _ d y => absurd (lw_ge f2 (z1 (o3 d)) (e0 (o3 d))) y) (fun d => absurd e14 d)
theorem lc_compare0 (h1 : CI_ A σ) (h2 : MI_ A σ) (hn : wN A < 600) (v1 : vp_in (x4 + 1) L) (v2 : vp_in (x4 + 2) L) (v3 : vp_in (x4 + 3) L) (hc : (xs (x4 + 3).toNatClampNeg) = 0) (KK : ∀ (A' : wa_) (σ' : ks_St), CI_ A' σ' → MI_ A' σ' → wN A' ≤ wN A + 1 → ks_W L xs mL_law rm_L_law 1118 [(0, .ref ka_S), (1, .ref 0), (2, .ref 17), (3, .ref 29), (4, .int x4)] [] σ' mc ms lw_P1) : ks_W L xs mL_law rm_L_law 690 [(0, .ref ka_S), (1, .ref 0), (2, .ref 17), (3, .ref 29), (4, .int x4)] [.int 0, .int (xs (x4 + 2).toNatClampNeg), .int (xs (x4 + 1).toNatClampNeg), .ref 0] σ (mc + 7) (ms + 42) lw_P1 := by
  refine ka_less (mc' := mc + 3) (ms' := ms + 18) (by omega) (by omega) ?_
  refine sg_L_law_690 (cs_L_law_691 (w_compare h1) (fun r1 σ1 z => ?_))
  obtain ⟨rfl, z1, c1, f1⟩ := z
  have m1 := MI_fw h2 f1
  refine sg_L_law_694 v1 v2 v3 (fun _ => (cs_L_law_723 (m_compare m1) (fun r2 σ2 z => ?_))) (fun q => absurd hc q)
  obtain ⟨e14, e0, m2, f2⟩ := z
  refine sg_L_law_726 (cs_L_law_729 m_thrown (fun r3 σ3 z => ?_))
  obtain ⟨rfl, rfl⟩ := z
  have c2 := CI_of_m c1 f2
  have oc := oc_compare (A := A) (x1 := (xs (x4 + 1).toNatClampNeg)) (x2 := (xs (x4 + 2).toNatClampNeg)) (x3 := 0)
  have K := KK _ _ c2 m2 oc.2
  have o3 : ∀ d : nI (o_compare A (xs (x4 + 1).toNatClampNeg) (xs (x4 + 2).toNatClampNeg) 0).1 = 0, (o_compare A (xs (x4 + 1).toNatClampNeg) (xs (x4 + 2).toNatClampNeg) 0).1 = 0 := fun d => lw_z (by have := oc.1; omega) d
  refine sg_L_law_732 (fun _ _ => sg_L_law_756 K) (fun _ _ _ => sg_L_law_756 K) (fun _ d y => absurd (lw_ge f2 (z1 (o3 d)) (e0 (o3 d))) y) (fun d => absurd e14 d)
theorem lc_compare1 (h1 : CI_ A σ) (h2 : MI_ A σ) (hn : wN A < 600) (v1 : vp_in (x4 + 1) L) (v2 : vp_in (x4 + 2) L) (v3 : vp_in (x4 + 3) L) (hc : ¬ (xs (x4 + 3).toNatClampNeg) = 0) (KK : ∀ (A' : wa_) (σ' : ks_St), CI_ A' σ' → MI_ A' σ' → wN A' ≤ wN A + 1 → ks_W L xs mL_law rm_L_law 1118 [(0, .ref ka_S), (1, .ref 0), (2, .ref 17), (3, .ref 29), (4, .int x4)] [] σ' mc ms lw_P1) : ks_W L xs mL_law rm_L_law 690 [(0, .ref ka_S), (1, .ref 0), (2, .ref 17), (3, .ref 29), (4, .int x4)] [.int 1, .int (xs (x4 + 2).toNatClampNeg), .int (xs (x4 + 1).toNatClampNeg), .ref 0] σ (mc + 7) (ms + 42) lw_P1 := by
  refine ka_less (mc' := mc + 3) (ms' := ms + 18) (by omega) (by omega) ?_
  refine sg_L_law_690 (cs_L_law_691 (w_compare h1) (fun r1 σ1 z => ?_))
  obtain ⟨rfl, z1, c1, f1⟩ := z
  have m1 := MI_fw h2 f1
  refine sg_L_law_694 v1 v2 v3 (fun q => absurd q hc) (fun _ => (cs_L_law_723 (m_compare m1) (fun r2 σ2 z => ?_)))
  obtain ⟨e14, e0, m2, f2⟩ := z
  refine sg_L_law_726 (cs_L_law_729 m_thrown (fun r3 σ3 z => ?_))
  obtain ⟨rfl, rfl⟩ := z
  have c2 := CI_of_m c1 f2
  have oc := oc_compare (A := A) (x1 := (xs (x4 + 1).toNatClampNeg)) (x2 := (xs (x4 + 2).toNatClampNeg)) (x3 := 1)
  have K := KK _ _ c2 m2 oc.2
  have o3 : ∀ d : nI (o_compare A (xs (x4 + 1).toNatClampNeg) (xs (x4 + 2).toNatClampNeg) 1).1 = 0, (o_compare A (xs (x4 + 1).toNatClampNeg) (xs (x4 + 2).toNatClampNeg) 1).1 = 0 := fun d => lw_z (by have := oc.1; omega) d
  refine sg_L_law_732 (fun _ _ => sg_L_law_756 K) (fun _ _ _ => sg_L_law_756 K) (fun _ d y => absurd (lw_ge f2 (z1 (o3 d)) (e0 (o3 d))) y) (fun d => absurd e14 d)
theorem lc_bit (h1 : CI_ A σ) (h2 : MI_ A σ) (hn : wN A < 600) (v1 : vp_in (x4 + 1) L) (v2 : vp_in (x4 + 2) L) (KK : ∀ (A' : wa_) (σ' : ks_St), CI_ A' σ' → MI_ A' σ' → wN A' ≤ wN A + 1 → ks_W L xs mL_law rm_L_law 1118 [(0, .ref ka_S), (1, .ref 0), (2, .ref 17), (3, .ref 29), (4, .int x4)] [] σ' mc ms lw_P1) : ks_W L xs mL_law rm_L_law 773 [(0, .ref ka_S), (1, .ref 0), (2, .ref 17), (3, .ref 29), (4, .int x4)] [.ref 29, .int (xs (x4 + 2).toNatClampNeg), .int (xs (x4 + 1).toNatClampNeg), .ref 0] σ (mc + 7) (ms + 42) lw_P1 := by
  refine ka_less (mc' := mc + 2) (ms' := ms + 12) (by omega) (by omega) ?_
  refine cs_L_law_773 (w_bit h1) (fun r1 σ1 z => ?_)
  obtain ⟨rfl, z1, c1, f1⟩ := z
  have m1 := MI_fw h2 f1
  refine sg_L_law_776 v1 v2 (cs_L_law_791 (m_bit m1) (fun r2 σ2 z => ?_))
  obtain ⟨e14, e0, m2, f2⟩ := z
  refine sg_L_law_794 (cs_L_law_797 m_thrown (fun r3 σ3 z => ?_))
  obtain ⟨rfl, rfl⟩ := z
  have c2 := CI_of_m c1 f2
  have oc := oc_bit (A := A) (x1 := (xs (x4 + 1).toNatClampNeg)) (x2 := (xs (x4 + 2).toNatClampNeg))
  have K := KK _ _ c2 m2 oc.2
  have o3 : ∀ d : nI (o_bit A (xs (x4 + 1).toNatClampNeg) (xs (x4 + 2).toNatClampNeg)).1 = 0, (o_bit A (xs (x4 + 1).toNatClampNeg) (xs (x4 + 2).toNatClampNeg)).1 = 0 := fun d => lw_z (by have := oc.1; omega) d
  refine sg_L_law_800 (fun _ _ => sg_L_law_831 K) (fun _ d x => sg_L_law_825 (fun _ => sg_L_law_831 K) (fun y => absurd (lw_b0 f2 (z1 (o3 d)) (e0 (o3 d)) x) y)) (fun _ d x => sg_L_law_825 (fun _ => sg_L_law_831 K) (fun y => absurd (lw_b1 f2 (z1 (o3 d)) (e0 (o3 d)) (ob_bit (A := A) (x1 := (xs (x4 + 1).toNatClampNeg)) (x2 := (xs (x4 + 2).toNatClampNeg))) x) y)) (fun d => absurd e14 d)
theorem lc_limb (h1 : CI_ A σ) (h2 : MI_ A σ) (hn : wN A < 600) (v1 : vp_in (x4 + 1) L) (v2 : vp_in (x4 + 2) L) (KK : ∀ (A' : wa_) (σ' : ks_St), CI_ A' σ' → MI_ A' σ' → wN A' ≤ wN A + 1 → ks_W L xs mL_law rm_L_law 1118 [(0, .ref ka_S), (1, .ref 0), (2, .ref 17), (3, .ref 29), (4, .int x4)] [] σ' mc ms lw_P1) : ks_W L xs mL_law rm_L_law 848 [(0, .ref ka_S), (1, .ref 0), (2, .ref 17), (3, .ref 29), (4, .int x4)] [.ref 29, .int (xs (x4 + 2).toNatClampNeg), .int (xs (x4 + 1).toNatClampNeg), .ref 0] σ (mc + 7) (ms + 42) lw_P1 := by
  refine ka_less (mc' := mc + 2) (ms' := ms + 12) (by omega) (by omega) ?_
  refine cs_L_law_848 (w_limb h1) (fun r1 σ1 z => ?_)
  obtain ⟨rfl, z1, c1, f1⟩ := z
  have m1 := MI_fw h2 f1
  refine sg_L_law_851 v1 v2 (cs_L_law_866 (m_limb m1) (fun r2 σ2 z => ?_))
  obtain ⟨e14, e0, m2, f2⟩ := z
  refine sg_L_law_869 (cs_L_law_872 m_thrown (fun r3 σ3 z => ?_))
  obtain ⟨rfl, rfl⟩ := z
  have c2 := CI_of_m c1 f2
  have oc := oc_limb (A := A) (x1 := (xs (x4 + 1).toNatClampNeg)) (x2 := (xs (x4 + 2).toNatClampNeg))
  have K := KK _ _ c2 m2 oc.2
  have o3 : ∀ d : nI (o_limb A (xs (x4 + 1).toNatClampNeg) (xs (x4 + 2).toNatClampNeg)).1 = 0, (o_limb A (xs (x4 + 1).toNatClampNeg) (xs (x4 + 2).toNatClampNeg)).1 = 0 := fun d => lw_z (by have := oc.1; omega) d
  refine sg_L_law_875 (fun _ _ => sg_L_law_898 K) (fun _ _ _ => sg_L_law_898 K) (fun _ d y => absurd (lw_gl f2 (z1 (o3 d)) (e0 (o3 d))) y) (fun d => absurd e14 d)
theorem lc_real (h1 : CI_ A σ) (h2 : MI_ A σ) (hn : wN A < 600) (v1 : vp_in (x4 + 1) L) (v2 : vp_in (x4 + 2) L) (v3 : vp_in (x4 + 3) L) (v4 : vp_in (x4 + 4) L) (KK : ∀ (A' : wa_) (σ' : ks_St), CI_ A' σ' → MI_ A' σ' → wN A' ≤ wN A + 1 → ks_W L xs mL_law rm_L_law 1118 [(0, .ref ka_S), (1, .ref 0), (2, .ref 17), (3, .ref 29), (4, .int x4)] [] σ' mc ms lw_P1) : ks_W L xs mL_law rm_L_law 927 [(0, .ref ka_S), (1, .ref 0), (2, .ref 17), (3, .ref 29), (4, .int x4)] [.ref 29, .int (xs (x4 + 4).toNatClampNeg), .int (xs (x4 + 3).toNatClampNeg), .int (xs (x4 + 2).toNatClampNeg), .int (xs (x4 + 1).toNatClampNeg), .ref 0] σ (mc + 7) (ms + 42) lw_P1 := by
  refine ka_less (mc' := mc + 7) (ms' := ms + 42) (by omega) (by omega) ?_
  refine cs_L_law_927 (w_real h1 hn) (fun r1 σ1 z => ?_)
  obtain ⟨rfl, z1, c1, f1⟩ := z
  have m1 := MI_fw h2 f1
  refine sg_L_law_930 v1 v2 v3 v4 (cs_L_law_957 (m_real m1 hn) (fun r2 σ2 z => ?_))
  obtain ⟨e14, e0, m2, f2⟩ := z
  refine sg_L_law_960 (cs_L_law_963 m_thrown (fun r3 σ3 z => ?_))
  obtain ⟨rfl, rfl⟩ := z
  have c2 := CI_of_m c1 f2
  have oc := oc_real (A := A) (x1 := (xs (x4 + 1).toNatClampNeg)) (x2 := (xs (x4 + 2).toNatClampNeg)) (x3 := (xs (x4 + 3).toNatClampNeg)) (x4 := (xs (x4 + 4).toNatClampNeg))
  have K := KK _ _ c2 m2 oc.2
  have o3 : ∀ d : nI (o_real A (xs (x4 + 1).toNatClampNeg) (xs (x4 + 2).toNatClampNeg) (xs (x4 + 3).toNatClampNeg) (xs (x4 + 4).toNatClampNeg)).1 = 0, (o_real A (xs (x4 + 1).toNatClampNeg) (xs (x4 + 2).toNatClampNeg) (xs (x4 + 3).toNatClampNeg) (xs (x4 + 4).toNatClampNeg)).1 = 0 := fun d => lw_z (by have := oc.1; omega) d
  refine sg_L_law_966 (fun _ _ => sg_L_law_990 K) (fun _ _ _ => sg_L_law_990 K) (fun _ d y => absurd (lw_ge f2 (z1 (o3 d)) (e0 (o3 d))) y) (fun d => absurd e14 d)
theorem lc_count (h1 : CI_ A σ) (h2 : MI_ A σ) (hn : wN A < 600) (v1 : vp_in (x4 + 1) L) (KK : ∀ (A' : wa_) (σ' : ks_St), CI_ A' σ' → MI_ A' σ' → wN A' ≤ wN A + 1 → ks_W L xs mL_law rm_L_law 1118 [(0, .ref ka_S), (1, .ref 0), (2, .ref 17), (3, .ref 29), (4, .int x4)] [] σ' mc ms lw_P1) : ks_W L xs mL_law rm_L_law 1014 [(0, .ref ka_S), (1, .ref 0), (2, .ref 17), (3, .ref 29), (4, .int x4)] [.ref 29, .int (xs (x4 + 1).toNatClampNeg), .ref 0] σ (mc + 7) (ms + 42) lw_P1 := by
  refine ka_less (mc' := mc + 1) (ms' := ms + 6) (by omega) (by omega) ?_
  refine cs_L_law_1014 (w_count h1) (fun r1 σ1 z => ?_)
  obtain ⟨rfl, z1, c1, f1⟩ := z
  have m1 := MI_fw h2 f1
  refine sg_L_law_1017 v1 (cs_L_law_1026 (m_count m1) (fun r2 σ2 z => ?_))
  obtain ⟨e14, e0, m2, f2⟩ := z
  refine sg_L_law_1029 (cs_L_law_1032 m_thrown (fun r3 σ3 z => ?_))
  obtain ⟨rfl, rfl⟩ := z
  have c2 := CI_of_m c1 f2
  have oc := oc_count (A := A) (x1 := (xs (x4 + 1).toNatClampNeg))
  have K := KK _ _ c2 m2 oc.2
  have o3 : ∀ d : nI (o_count A (xs (x4 + 1).toNatClampNeg)).1 = 0, (o_count A (xs (x4 + 1).toNatClampNeg)).1 = 0 := fun d => lw_z (by have := oc.1; omega) d
  refine sg_L_law_1035 (fun _ _ => sg_L_law_1059 K) (fun _ _ _ => sg_L_law_1059 K) (fun _ d y => absurd (lw_ge f2 (z1 (o3 d)) (e0 (o3 d))) y) (fun d => absurd e14 d)
theorem lc_width (h1 : CI_ A σ) (h2 : MI_ A σ) (hn : wN A < 600) (v1 : vp_in (x4 + 1) L) (KK : ∀ (A' : wa_) (σ' : ks_St), CI_ A' σ' → MI_ A' σ' → wN A' ≤ wN A + 1 → ks_W L xs mL_law rm_L_law 1118 [(0, .ref ka_S), (1, .ref 0), (2, .ref 17), (3, .ref 29), (4, .int x4)] [] σ' mc ms lw_P1) : ks_W L xs mL_law rm_L_law 1070 [(0, .ref ka_S), (1, .ref 0), (2, .ref 17), (3, .ref 29), (4, .int x4)] [.ref 29, .int (xs (x4 + 1).toNatClampNeg), .ref 0] σ (mc + 7) (ms + 42) lw_P1 := by
  refine ka_less (mc' := mc + 1) (ms' := ms + 6) (by omega) (by omega) ?_
  refine cs_L_law_1070 (w_width h1) (fun r1 σ1 z => ?_)
  obtain ⟨rfl, z1, c1, f1⟩ := z
  have m1 := MI_fw h2 f1
  refine sg_L_law_1073 v1 (cs_L_law_1082 (m_width m1) (fun r2 σ2 z => ?_))
  obtain ⟨e14, e0, m2, f2⟩ := z
  refine sg_L_law_1085 (cs_L_law_1088 m_thrown (fun r3 σ3 z => ?_))
  obtain ⟨rfl, rfl⟩ := z
  have c2 := CI_of_m c1 f2
  have oc := oc_width (A := A) (x1 := (xs (x4 + 1).toNatClampNeg))
  have K := KK _ _ c2 m2 oc.2
  have o3 : ∀ d : nI (o_width A (xs (x4 + 1).toNatClampNeg)).1 = 0, (o_width A (xs (x4 + 1).toNatClampNeg)).1 = 0 := fun d => lw_z (by have := oc.1; omega) d
  refine sg_L_law_1091 (fun _ _ => sg_L_law_1115 K) (fun _ _ _ => sg_L_law_1115 K) (fun _ d y => absurd (lw_ge f2 (z1 (o3 d)) (e0 (o3 d))) y) (fun d => absurd e14 d)
theorem lc_flags (h1 : CI_ A σ) (h2 : MI_ A σ) (KK : ∀ (A' : wa_) (σ' : ks_St), CI_ A' σ' → MI_ A' σ' → wN A' ≤ wN A + 1 → ks_W L xs mL_law rm_L_law 1118 [(0, .ref ka_S), (1, .ref 0), (2, .ref 17), (3, .ref 29), (4, .int x4)] [] σ' mc ms lw_P1) : ks_W L xs mL_law rm_L_law 994 [(0, .ref ka_S), (1, .ref 0), (2, .ref 17), (3, .ref 29), (4, .int x4)] [.ref 0] σ (mc + 7) (ms + 42) lw_P1 := by
  refine ka_less (mc' := mc) (ms' := ms) (by omega) (by omega) ?_
  refine cs_L_law_994 (c_flags h1) (fun r1 σ1 z => ?_)
  obtain ⟨rfl, rfl⟩ := z
  refine sg_L_law_997 (cs_L_law_998 (m_flags h2) (fun r2 σ2 z => ?_))
  obtain ⟨rfl, rfl⟩ := z
  exact sg_L_law_1001 (fun _ => KK A _ (CI_of_m h1 fm_14) (MI_14 h2) (Nat.le_succ _)) (fun d => absurd rfl d)
theorem lw_step (h1 : CI_ A σ) (h2 : MI_ A σ) (hn : wN A < 600) (hx : ¬ (nI L - 5 < x4)) (v0 : vp_in x4 L) (v1 : vp_in (x4 + 1) L) (v2 : vp_in (x4 + 2) L) (v3 : vp_in (x4 + 3) L) (v4 : vp_in (x4 + 4) L) (KK : ∀ (A' : wa_) (σ' : ks_St), CI_ A' σ' → MI_ A' σ' → wN A' ≤ wN A + 1 → ks_W L xs mL_law rm_L_law 1118 [(0, .ref ka_S), (1, .ref 0), (2, .ref 17), (3, .ref 29), (4, .int x4)] [] σ' mc ms lw_P1) : ks_W L xs mL_law rm_L_law 33 [(0, .ref ka_S), (1, .ref 0), (2, .ref 17), (3, .ref 29), (4, .int x4)] [] σ (mc + 7) (ms + 42) lw_P1 := by
  refine sg_L_law_33 (fun q => absurd q hx)
    (fun _ => v0)
    (fun _ _ => lc_word h1 h2 hn KK)
    (fun _ _ _ => v1)
    (fun _ _ _ => v2)
    (fun _ _ _ => v3)
    (fun _ _ _ => v4)
    (fun _ _ _ => lc_set h1 h2 hn v1 v2 v3 v4 KK)
    (fun _ _ _ _ => v1)
    (fun _ _ _ _ => v2)
    (fun _ _ _ _ => v3)
    (fun _ _ _ _ => lc_op h1 h2 hn v1 v2 v3 KK)
    (fun _ _ _ _ _ => v1)
    (fun _ _ _ _ _ => lc_flag h1 h2 hn v1 KK)
    (fun _ _ _ _ _ _ => v1)
    (fun _ _ _ _ _ _ => v2)
    (fun _ _ _ _ _ _ => v3)
    (fun _ _ _ _ _ _ => lc_field h1 h2 hn v1 v2 v3 KK)
    (fun _ _ _ _ _ _ _ => v1)
    (fun _ _ _ _ _ _ _ => v2)
    (fun _ _ _ _ _ _ _ => lc_join h1 h2 hn v1 v2 KK)
    (fun _ _ _ _ _ _ _ _ => v1)
    (fun _ _ _ _ _ _ _ _ => v2)
    (fun _ _ _ _ _ _ _ _ => v3)
    (fun _ _ _ _ _ _ _ _ c => lc_extend0 h1 h2 hn v1 v2 v3 c KK)
    (fun _ _ _ _ _ _ _ _ c => lc_extend1 h1 h2 hn v1 v2 v3 c KK)
    (fun _ _ _ _ _ _ _ _ _ => v1)
    (fun _ _ _ _ _ _ _ _ _ => v2)
    (fun _ _ _ _ _ _ _ _ _ => v3)
    (fun _ _ _ _ _ _ _ _ _ c => lc_compare0 h1 h2 hn v1 v2 v3 c KK)
    (fun _ _ _ _ _ _ _ _ _ c => lc_compare1 h1 h2 hn v1 v2 v3 c KK)
    (fun _ _ _ _ _ _ _ _ _ _ => v1)
    (fun _ _ _ _ _ _ _ _ _ _ => v2)
    (fun _ _ _ _ _ _ _ _ _ _ => lc_bit h1 h2 hn v1 v2 KK)
    (fun _ _ _ _ _ _ _ _ _ _ _ => v1)
    (fun _ _ _ _ _ _ _ _ _ _ _ => v2)
    (fun _ _ _ _ _ _ _ _ _ _ _ => lc_limb h1 h2 hn v1 v2 KK)
    (fun _ _ _ _ _ _ _ _ _ _ _ _ => v1)
    (fun _ _ _ _ _ _ _ _ _ _ _ _ => v2)
    (fun _ _ _ _ _ _ _ _ _ _ _ _ => v3)
    (fun _ _ _ _ _ _ _ _ _ _ _ _ => v4)
    (fun _ _ _ _ _ _ _ _ _ _ _ _ => lc_real h1 h2 hn v1 v2 v3 v4 KK)
    (fun _ _ _ _ _ _ _ _ _ _ _ _ _ => lc_flags h1 h2 KK)
    (fun _ _ _ _ _ _ _ _ _ _ _ _ _ _ => v1)
    (fun _ _ _ _ _ _ _ _ _ _ _ _ _ _ => lc_count h1 h2 hn v1 KK)
    (fun _ _ _ _ _ _ _ _ _ _ _ _ _ _ _ => v1)
    (fun _ _ _ _ _ _ _ _ _ _ _ _ _ _ _ => lc_width h1 h2 hn v1 KK)
    (fun _ _ _ _ _ _ _ _ _ _ _ _ _ _ _ => ka_less (mc' := mc) (ms' := ms) (by omega) (by omega) (KK A σ h1 h2 (Nat.le_succ _)))
theorem lw_stop (hx : nI L - 5 < x4) : ks_W L xs mL_law rm_L_law 33 [(0, .ref ka_S), (1, .ref 0), (2, .ref 17), (3, .ref 29), (4, .int x4)] [] σ mc ms lw_P1 := by
  refine sg_L_law_33 (fun _ => rfl) (fun q => absurd hx q) (fun q => absurd hx q) (fun q => absurd hx q) (fun q => absurd hx q) (fun q => absurd hx q) (fun q => absurd hx q) (fun q => absurd hx q) (fun q => absurd hx q) (fun q => absurd hx q) (fun q => absurd hx q) (fun q => absurd hx q) (fun q => absurd hx q) (fun q => absurd hx q) (fun q => absurd hx q) (fun q => absurd hx q) (fun q => absurd hx q) (fun q => absurd hx q) (fun q => absurd hx q) (fun q => absurd hx q) (fun q => absurd hx q) (fun q => absurd hx q) (fun q => absurd hx q) (fun q => absurd hx q) (fun q => absurd hx q) (fun q => absurd hx q) (fun q => absurd hx q) (fun q => absurd hx q) (fun q => absurd hx q) (fun q => absurd hx q) (fun q => absurd hx q) (fun q => absurd hx q) (fun q => absurd hx q) (fun q => absurd hx q) (fun q => absurd hx q) (fun q => absurd hx q) (fun q => absurd hx q) (fun q => absurd hx q) (fun q => absurd hx q) (fun q => absurd hx q) (fun q => absurd hx q) (fun q => absurd hx q) (fun q => absurd hx q) (fun q => absurd hx q) (fun q => absurd hx q) (fun q => absurd hx q) (fun q => absurd hx q) (fun q => absurd hx q)
theorem lw_in {i k : Nat} {y : Int32} (hL : L ≤ 2561) (hi : i + 5 ≤ L) (hk : k ≤ 4) (hy : y = nI k) : vp_in (nI i + y) L := by
  rw [hy, nI_add]; exact vp_in_nI (by omega) (by omega)
theorem lw_loop (hL : L ≤ 2561) : ∀ (r i : Nat) (A : wa_) (σ : ks_St), i ≤ 2600 → L < i + 5 * r + 5 → CI_ A σ → MI_ A σ → wN A + r ≤ 600 → ks_W L xs mL_law rm_L_law 33 [(0, .ref ka_S), (1, .ref 0), (2, .ref 17), (3, .ref 29), (4, .int (nI i))] [] σ (7 * r) (42 * r) lw_P1 := by
  intro r
  induction r with
  | zero =>
    intro i A σ hi hr _ _ _
    refine lw_stop ?_
    rw [Int32.lt_iff_toInt_lt, show (5 : Int32) = nI 5 from rfl, pk_sub_toInt (by omega) (by decide), nI_toInt (by omega)]
    omega
  | succ r ih =>
    intro i A σ hi hr h1 h2 hn
    by_cases hx : nI L - 5 < nI i
    · exact lw_stop hx
    · have hx' := hx
      rw [Int32.lt_iff_toInt_lt, show (5 : Int32) = nI 5 from rfl, pk_sub_toInt (by omega) (by decide), nI_toInt (by omega)] at hx'
      have hi5 : i + 5 ≤ L := by omega
      refine lw_step (mc := 7 * r) (ms := 42 * r) h1 h2 (by omega) hx (vp_in_nI (by omega) (by omega)) (lw_in hL hi5 (k := 1) (by decide) rfl) (lw_in hL hi5 (k := 2) (by decide) rfl) (lw_in hL hi5 (k := 3) (by decide) rfl) (lw_in hL hi5 (k := 4) (by decide) rfl) (fun A' σ' g1 g2 g3 => ?_)
      refine sg_L_law_1118 ?_
      rw [show nI i + 5 = nI (i + 5) from nI_add i 5]
      exact ih (i + 5) A' σ' (by omega) (by omega) g1 g2 (by omega)
theorem fm_sg (x : Int32) : 0 ≤ x ^^^ 512 ↔ 0 ≤ x.toInt := by
  rw [Int32.le_iff_toInt_le]
  have h1 := BitVec.msb_eq_toInt (x := (x ^^^ 512).toBitVec)
  have h2 := BitVec.msb_eq_toInt (x := x.toBitVec)
  have h3 : (x ^^^ 512).toBitVec.msb = x.toBitVec.msb := by
    rw [Int32.toBitVec_xor, BitVec.msb_xor, show (512 : Int32).toBitVec.msb = false from by decide, Bool.xor_false]
  rw [h1, h2] at h3
  have h4 := decide_eq_decide.mp h3
  have e1 : (x ^^^ 512).toBitVec.toInt = (x ^^^ 512).toInt := rfl
  have e2 : x.toBitVec.toInt = x.toInt := rfl
  have e3 : (0 : Int32).toInt = 0 := rfl
  omega
theorem fm_and (x : Int32) : (x &&& 511).toInt = x.toInt % 512 := by
  have e1 : (x &&& 511).toBitVec.toNat = x.toBitVec.toNat % 512 := by
    rw [Int32.toBitVec_and, BitVec.toNat_and, show (511 : Int32).toBitVec.toNat = 2 ^ 9 - 1 from rfl, Nat.and_two_pow_sub_one_eq_mod]
  have e2 : (x &&& 511).toInt = ((x &&& 511).toBitVec.toNat : Int) := by
    show (x &&& 511).toBitVec.toInt = _
    rw [BitVec.toInt_eq_toNat_of_lt]
    rw [e1]; omega
  rw [e2, e1]
  have h := x.toBitVec.isLt
  have e3 : x.toInt = x.toBitVec.toInt := rfl
  rw [e3, BitVec.toInt_eq_toNat_cond]
  split <;> omega
theorem fm_tm (a : Int) : a.tmod 512 = if 0 ≤ a then a % 512 else if a % 512 = 0 then 0 else a % 512 - 512 := by
  rw [Int.tmod_eq_emod]
  split <;> split <;> try split
  all_goals omega
theorem fm_rem (x : Int32) : (x - x / 512 * 512).toInt = x.toInt.tmod 512 := by
  have hb1 := Int32.le_toInt x
  have hb2 := Int32.toInt_lt x
  have hq : (x / 512).toInt = x.toInt.tdiv 512 := by
    rw [Int32.toInt_div, show (512 : Int32).toInt = 512 from rfl]
    have := Int.mul_tdiv_add_tmod x.toInt 512
    have := Int.tmod_lt_of_pos x.toInt (show (0 : Int) < 512 by decide)
    have := Int.lt_tmod_of_pos x.toInt (show (0 : Int) < 512 by decide)
    rw [Int.bmod_eq_of_le] <;> omega
  have h1 := Int.mul_tdiv_add_tmod x.toInt 512
  have h2 := Int.tmod_lt_of_pos x.toInt (show (0 : Int) < 512 by decide)
  have h3 := Int.lt_tmod_of_pos x.toInt (show (0 : Int) < 512 by decide)
  have h4 : (0 ≤ x.toInt → 0 ≤ x.toInt.tmod 512) ∧ (x.toInt < 0 → x.toInt.tmod 512 ≤ 0) := by
    have h := fm_tm x.toInt
    split at h
    · exact ⟨fun _ => by omega, fun _ => by omega⟩
    · split at h <;> exact ⟨fun _ => by omega, fun _ => by omega⟩
  rw [Int32.toInt_sub, Int32.toInt_mul, hq, show (512 : Int32).toInt = 512 from rfl]
  rw [Int.bmod_eq_of_le (n := x.toInt.tdiv 512 * 512) (by omega) (by omega)]
  rw [Int.bmod_eq_of_le (by omega) (by omega)]
  omega
theorem fm_ok (x : Int32) : km_fm x 512 = x &&& 511 := by
  have hr := fm_rem x
  have ht := fm_tm x.toInt
  have hs := fm_sg x
  have ha := fm_and x
  apply Int32.toInt_inj.mp
  rw [ha]
  unfold km_fm
  split
  · rename_i c
    rw [if_pos (hs.mp c)] at ht
    rw [hr, ht]
  · rename_i c
    rw [if_neg (fun h => c (hs.mpr h))] at ht
    split
    · rename_i d
      have := congrArg Int32.toInt d
      rw [hr, show (0 : Int32).toInt = 0 from rfl] at this
      rw [hr]; split at ht <;> omega
    · rename_i d
      have d' : x.toInt.tmod 512 ≠ 0 := fun z => d (Int32.toInt_inj.mp (by rw [hr, z]; rfl))
      rw [Int32.toInt_add, hr, show (512 : Int32).toInt = 512 from rfl, Int.bmod_eq_of_le] <;> split at ht <;> omega
theorem fm_n (x : Int32) : ∃ n, n < 512 ∧ x &&& 511 = nI n := by
  have h := fm_and x
  have h3 := Int.emod_nonneg x.toInt (show (512 : Int) ≠ 0 by decide)
  have h4 := Int.emod_lt_of_pos x.toInt (show (0 : Int) < 512 by decide)
  refine ⟨(x.toInt % 512).toNat, by omega, Int32.toInt_inj.mp ?_⟩
  rw [h, nI_toInt (by omega)]; omega
theorem law_st0 (x : Int32) : ∃ A : wa_, wN A = 0 ∧ CI_ A (ks_0 x) ∧ MI_ A (ks_0 x) := by
  obtain ⟨n, hn, e⟩ := fm_n (x - 1)
  have e1 : 1 + ((x - 1) &&& 511) = nI (1 + n) := by rw [e]; exact nI_add 1 n
  have e2 : 1 + km_fm (x - 1) 512 = nI (1 + n) := by rw [fm_ok]; exact e1
  have hw : wo_ (1 + n, 0, fun _ => 0, fun _ => 0, (false, false, false, false), 0) := ⟨⟨Nat.le_add_right 1 n, show 1 + n ≤ 512 by omega⟩, Nat.zero_le _, fun j hj => absurd hj (Nat.not_lt_zero _)⟩
  refine ⟨(1 + n, 0, fun _ => 0, fun _ => 0, (false, false, false, false), 0), rfl, ?_, ?_⟩
  · exact ⟨hw, e2, rfl, fun j hj => absurd hj (Nat.not_lt_zero _), ⟨rfl, rfl, rfl, rfl⟩, rfl⟩
  · exact ⟨hw, e1, rfl, fun j hj => absurd hj (Nat.not_lt_zero _), ⟨rfl, rfl, rfl, rfl⟩, rfl⟩
theorem law_main : law_Owed := by
  intro L xs hL
  obtain ⟨A, a0, a1, a2⟩ := law_st0 (km_cell L xs 0)
  exact ka_less (mc' := 7 * 513) (ms' := 42 * 513) (by decide) (by decide) (lw_loop hL 513 1 A _ (by decide) (by omega) a1 a2 (by omega))
end
