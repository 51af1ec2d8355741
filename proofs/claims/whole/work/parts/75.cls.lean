section
/-! ===== the class's call real ===== -/
def ff_ (w : Nat) : Nat := if w = 8 then 3 else if w = 16 then 10 else 23
def ee_ (w : Nat) : Nat := w - 1 - ff_ w
abbrev w3_ (w : Nat) : Prop := w = 8 ∨ w = 16 ∨ w = 32
theorem fmt_w {w : Nat} (h : w3_ w) : fmt_ (ff_ w) (ee_ w) ∧ ff_ w + ee_ w + 1 = w := by
  rcases h with rfl | rfl | rfl
  · exact ⟨Or.inl ⟨rfl, rfl⟩, rfl⟩
  · exact ⟨Or.inr (Or.inl ⟨rfl, rfl⟩), rfl⟩
  · exact ⟨Or.inr (Or.inr ⟨rfl, rfl⟩), rfl⟩
def o_real (A : wa_) (k a b y : Int32) : Nat × Int32 × wa_ :=
  if ow_ A a ∧ ow_ A b then
    (if k < 0 ∨ ¬ k ≤ 3 ∨ y < 0 ∨ ¬ y ≤ 4 ∨ wW A a.toNatClampNeg ≠ wW A b.toNatClampNeg ∨ ¬ w3_ (wW A a.toNatClampNeg) then (2, 0, A)
     else (0, nI (wN A), wp_ (wr_ A (ra_ (ff_ (wW A a.toNatClampNeg)) (ee_ (wW A a.toNatClampNeg)) y.toNatClampNeg k.toNatClampNeg (wV A a.toNatClampNeg) (wV A b.toNatClampNeg)).2) (wW A a.toNatClampNeg)
       ((ra_ (ff_ (wW A a.toNatClampNeg)) (ee_ (wW A a.toNatClampNeg)) y.toNatClampNeg k.toNatClampNeg (wV A a.toNatClampNeg) (wV A b.toNatClampNeg)).1 % 2 ^ wW A a.toNatClampNeg)))
  else (1, 0, A)
theorem CI_wr {A : wa_} {σ σ' : ks_St} {g : Nat} (h : CI_ A σ) (f : fr_ [7, 8, 9, 10, 11, 12, 13] [0, 1] [] [5] σ σ') (e : si_ σ' 7 = nI g) : CI_ (wr_ A g) σ' := by
  obtain ⟨a0, a1, a2, a3, ⟨b0, b1, b2, b3⟩, -⟩ := h
  refine ⟨a0, (f.1 0 (by decide)).trans a1, (f.1 1 (by decide)).trans a2, fun j hj => ?_, ⟨(f.1 2 (by decide)).trans b0, (f.1 3 (by decide)).trans b1, (f.1 4 (by decide)).trans b2, (f.1 5 (by decide)).trans b3⟩, e⟩
  rw [f.2.2.1 1 (by decide), f.2.2.2 2 (by decide)]
  exact a3 j hj
section
variable {L : Nat} {xs : Nat → Int32} {σ : ks_St} {A : wa_}
theorem lim0 (h : CI_ A σ) {j : Nat} (hj : j < wN A) (hw : wW A j ≤ 32) : sg_ σ 2 (nI j * 8).toNatClampNeg = lN (wV A j) ∧ vp_in (nI j * 8) 4800 := by
  have hn := CI_n h
  have hV := (CI_w h hj).2.2
  have h32 : wV A j < 2 ^ 32 := Nat.lt_of_lt_of_le hV (Nat.pow_le_pow_right (by decide) hw)
  rw [show nI j * 8 = nI (j * 8) from pk_mul j 8]
  refine ⟨?_, vp_in_nI (by omega) (by decide)⟩
  have := rw_get (h.2.2.2.1 j hj).2 (k := 0) (by decide)
  rw [Nat.mul_zero, Nat.pow_zero, Nat.div_one, Nat.mod_eq_of_lt (by omega)] at this
  rw [nI_clamp (by omega), Nat.mul_comm]
  exact this
theorem c_real {k a b y : Int32} (h : CI_ A σ) (hn : wN A < 600) : ks_M L xs mX4_real rm_X4_real [.ref 0, .int k, .int a, .int b, .int y] σ (pc_ en_ (o_real A k a b y) σ) := by
  refine ks_body (by decide) (Nat.le_of_ble_eq_true rfl) ?_
  have t1 : ¬ (ow_ A a ∧ ow_ A b) → ∀ σ', σ' = σ → pc_ en_ (o_real A k a b y) σ (.inr (en_ 1)) σ' := fun z σ' e => Or.inr ⟨_, rfl, by
    rw [o_real, if_neg z]; exact ⟨Nat.succ_ne_zero _, rfl, e ▸ h, e ▸ fr_refl _⟩⟩
  have t2 : (ow_ A a ∧ ow_ A b) → (k < 0 ∨ ¬ k ≤ 3 ∨ y < 0 ∨ ¬ y ≤ 4 ∨ wW A a.toNatClampNeg ≠ wW A b.toNatClampNeg ∨ ¬ w3_ (wW A a.toNatClampNeg)) → ∀ σ', σ' = σ → pc_ en_ (o_real A k a b y) σ (.inr (en_ 2)) σ' := fun z q σ' e => Or.inr ⟨_, rfl, by
    rw [o_real, if_pos z, if_pos q]; exact ⟨Nat.succ_ne_zero _, rfl, e ▸ h, e ▸ fr_refl _⟩⟩
  refine sg_X4_real_0 (cs_X4_real_2 (mc := 6) (ms := 36) (c_requireWord h) (fun E σ' z => ?_) (fun σ1 e => ?_))
  · obtain ⟨rfl, e, z⟩ := z
    exact t1 (fun q => z q.1) _ e
  obtain ⟨rfl, za⟩ := e
  refine sg_X4_real_5 (cs_X4_real_7 (mc := 5) (ms := 30) (c_requireWord h) (fun E σ' z => ?_) (fun σ2 e => ?_))
  · obtain ⟨rfl, e, z⟩ := z
    exact t1 (fun q => z q.2) _ e
  obtain ⟨rfl, zb⟩ := e
  refine sg_X4_real_10 (cs_X4_real_13 (mc := 4) (ms := 24) c_requireKind (fun E σ' z => ?_) (fun σ3 e => ?_))
  · obtain ⟨rfl, e, z⟩ := z
    refine t2 ⟨za, zb⟩ ?_ _ e
    by_cases c : k < 0
    · exact Or.inl c
    · exact Or.inr (Or.inl (fun d => z ⟨c, d⟩))
  obtain ⟨rfl, k0, k3⟩ := e
  refine sg_X4_real_16 (cs_X4_real_20 (mc := 3) (ms := 18) c_requireKind (fun E σ' z => ?_) (fun σ4 e => ?_))
  · obtain ⟨rfl, e, z⟩ := z
    refine t2 ⟨za, zb⟩ ?_ _ e
    by_cases c : y < 0
    · exact Or.inr (Or.inr (Or.inl c))
    · exact Or.inr (Or.inr (Or.inr (Or.inl (fun d => z ⟨c, d⟩))))
  obtain ⟨rfl, y0, y4⟩ := e
  obtain ⟨i, hi, rfl, ei⟩ := ow_ix h.1 za
  obtain ⟨j, hj, rfl, ej⟩ := ow_ix h.1 zb
  refine sg_X4_real_23 (cs_X4_real_26 (mc := 2) (ms := 12) (c_requireOneWidth h hi hj) (fun E σ' z => ?_) (fun σ5 e => ?_))
  · obtain ⟨rfl, e, z⟩ := z
    exact t2 ⟨za, zb⟩ (Or.inr (Or.inr (Or.inr (Or.inr (Or.inl (by rw [ei, ej]; exact z)))))) _ e
  obtain ⟨rfl, ew⟩ := e
  have hwi := CI_w h hi
  have hwj := CI_w h hj
  have eW := CI_sf h hi
  have q8 : sf_ σ5 1 (nI i).toNatClampNeg = 8 ↔ wW A i = 8 := by rw [eW]; exact nI_eq (b := 8) (by omega) (by decide)
  have q16 : sf_ σ5 1 (nI i).toNatClampNeg = 16 ↔ wW A i = 16 := by rw [eW]; exact nI_eq (b := 16) (by omega) (by decide)
  have q32 : sf_ σ5 1 (nI i).toNatClampNeg = 32 ↔ wW A i = 32 := by rw [eW]; exact nI_eq (b := 32) (by omega) (by decide)
  have main : w3_ (wW A i) → ks_W L xs mX4_real rm_X4_real 68 [(0, .ref 0), (1, .int k), (2, .int (nI i)), (3, .int (nI j)), (4, .int y), (5, .int (sf_ σ5 1 (nI i).toNatClampNeg))] [] σ5 2 12 (pc_ en_ (o_real A k (nI i) (nI j) y) σ5) := by
    intro hw3
    have ho : o_real A k (nI i) (nI j) y = (0, nI (wN A), wp_ (wr_ A (ra_ (ff_ (wW A i)) (ee_ (wW A i)) y.toNatClampNeg k.toNatClampNeg (wV A i) (wV A j)).2) (wW A i) ((ra_ (ff_ (wW A i)) (ee_ (wW A i)) y.toNatClampNeg k.toNatClampNeg (wV A i) (wV A j)).1 % 2 ^ wW A i)) := by
      rw [o_real, if_pos ⟨za, zb⟩, ei, ej, if_neg]
      rintro (z | z | z | z | z | z)
      · exact k0 z
      · exact z k3
      · exact y0 z
      · exact z y4
      · exact z ew
      · exact z hw3
    obtain ⟨p, hp, rfl⟩ := nI_of k0
    obtain ⟨q, hq, rfl⟩ := nI_of y0
    rw [show (3 : Int32) = nI 3 from rfl, nI_leI hp (by decide)] at k3
    rw [show (4 : Int32) = nI 4 from rfl, nI_leI hq (by decide)] at y4
    rw [nI_clamp hp, nI_clamp hq] at ho
    rw [ho, eW]
    clear ho t1 t2
    obtain ⟨hf, hwe⟩ := fmt_w hw3
    have hw32 : wW A i ≤ 32 := by rcases hw3 with z | z | z <;> omega
    refine sg_X4_real_68 (cs_X4_real_69 (mc := 1) (ms := 6) (c_requireRoom h hn) (fun E σ' z => z.elim) (fun σ6 e => ?_))
    subst e
    refine sg_X4_real_72 ?_
    have C : ks_M L xs mX2_choose rm_X2_choose [.ref 16, .int (nI (wW A i)), .int (nI q)] σ6 (pv_ fun σ' => PN_ (ff_ (wW A i)) (ee_ (wW A i)) q σ' ∧ fr_ [8, 9, 10, 11] [0] [] [] σ6 σ') := by
      have := c_choose (L := L) (xs := xs) (σ := σ6) hf y4
      rw [hwe] at this
      exact this
    refine cs_X4_real_80 C (fun σ8 hr => ?_)
    obtain ⟨P8, f8⟩ := hr
    have h8 : CI_ A σ8 := CI_fr h f8 (by decide) (by decide) (by decide)
    have lI := lim0 h8 hi hw32
    have lJ := lim0 h8 hj (by omega)
    have bI : wV A i < 2 ^ (ff_ (wW A i) + ee_ (wW A i) + 1) := by rw [hwe]; exact hwi.2.2
    have bJ : wV A j < 2 ^ (ff_ (wW A i) + ee_ (wW A i) + 1) := by rw [hwe, ew]; exact hwj.2.2
    refine sg_X4_real_83 lI.2 lJ.2 ?_
    rw [lI.1, lJ.1]
    refine cs_X4_real_111 (c_answer P8 k3 bI bJ) (fun r σ9 hr => ?_)
    obtain ⟨rfl, e9, f9⟩ := hr
    have fall : fr_ [7, 8, 9, 10, 11, 12, 13] [0, 1] [] [5] σ6 σ9 := fr_trans (fr_mono f8 (by decide) (by decide) (by decide) (by decide)) (fr_mono f9 (by decide) (by decide) (by decide) (by decide))
    have h9 := CI_wr h fall e9
    generalize ra_ (ff_ (wW A i)) (ee_ (wW A i)) q p (wV A i) (wV A j) = v at *
    refine sg_X4_real_114 (vp_in_nI (n := 0) (by decide) (by decide)) ?_
    have f10' : fr_ [] [] [] [5] σ9 (ug_ σ9 5 (vp_updL (sg_ σ9 5) (0 : Int32).toNatClampNeg (lN v.1))) := fr_ug _ _ (by decide)
    have g10 : ∃ X, rw_ (sg_ (ug_ σ9 5 (vp_updL (sg_ σ9 5) (0 : Int32).toNatClampNeg (lN v.1))) 5) 9 X ∧ X % 2 ^ 64 = v.1 % 2 ^ 64 := by
      rw [sg_self]
      obtain ⟨X, hX⟩ := rw_ex (vp_updL (sg_ σ9 5) (0 : Int32).toNatClampNeg (lN v.1)) 9
      refine ⟨X, hX, ?_⟩
      have e0 := hX.2 0 (by decide)
      rw [Nat.mul_zero, Nat.pow_zero, Nat.div_one] at e0
      rw [← e0]
      show un_ (vp_updL (sg_ σ9 5) 0 (lN v.1) 0) = _
      rw [pk_uLs, un_lN]
    generalize ug_ σ9 5 (vp_updL (sg_ σ9 5) (0 : Int32).toNatClampNeg (lN v.1)) = σ10 at f10' g10 ⊢
    obtain ⟨X, g10, eX⟩ := g10
    have h10 : CI_ (wr_ A v.2) σ10 := CI_fr h9 f10' (by decide) (by decide) (by decide)
    refine cs_X4_real_118 (c_keepMade h10 hn g10 hwi.1 hwi.2.1) (fun r σ11 hr => ?_)
    obtain ⟨e1, e2, e3⟩ := hr
    rw [show X % 2 ^ wW A i = v.1 % 2 ^ wW A i by
      rw [← Nat.mod_mod_of_dvd X (Nat.pow_dvd_pow 2 (show wW A i ≤ 64 by omega)), eX, Nat.mod_mod_of_dvd _ (Nat.pow_dvd_pow 2 (by omega))]] at e2
    exact sg_X4_real_121 (Or.inl ⟨_, rfl, rfl, e1, e2, fr_trans (fr_mono fall (by decide) (by decide) (by decide) (by decide)) (fr_trans (fr_mono f10' (by decide) (by decide) (by decide) (by decide)) (fr_mono e3 (by decide) (by decide) (by decide) (by decide)))⟩)
  refine sg_X4_real_29 (by decide) (by decide) (CI_in h hi) (fun c => main (Or.inl (q8.mp c))) (fun _ c => main (Or.inr (Or.inl (q16.mp c)))) (fun _ _ c => main (Or.inr (Or.inr (q32.mp c)))) (fun c d g => ?_)
  refine t2 ⟨za, zb⟩ (Or.inr (Or.inr (Or.inr (Or.inr (Or.inr ?_))))) _ rfl
  rw [ei]
  rintro (z | z | z)
  · exact c (q8.mpr z)
  · exact d (q16.mpr z)
  · exact g (q32.mpr z)
end
end
