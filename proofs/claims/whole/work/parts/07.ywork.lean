theorem bs_vn0 : vp_nar .boolean 0 = 0 := rfl
theorem bs_vn1 : vp_nar .boolean 1 = 1 := rfl
theorem bs_Kset {kn : Nat → Int32} {k : Nat → Bool} (h : bs_K kn k) (i : Nat) : bs_K (upd kn i (vp_nar .boolean 1)) (bs_set k i) := by
  intro j hj
  by_cases y : j = i
  · rw [y, bs_updS, bs_setS]; rfl
  · rw [bs_updN y, bs_setN y]; exact h j hj
theorem ys_inner {post : SY → Prop} {J : Int32 → (Nat → Int32) → (Nat → Int32) → (Nat → Int32) → (Nat → Int32) → (Nat → Int32) → (Nat → Int32) → (Nat → Int32) → (Nat → Int32) → (Nat → Int32) → (Nat → Int32) → (Nat → Int32) → (Nat → Int32) → (Nat → Int32) → Prop} {x1 : Int32} {ch df : Int32} {op on tw nm oc oo oa ob ov kt vt : Nat → Int32} {R O N : Nat → Int32} {k0 : Nat → Bool} (C : bs_CC R O N op on tw nm) (hz : ∀ j, j < 16 → R j = 0 → k0 j = true)
    (H : ∀ (k : Nat → Bool) (kn vl : Nat → Int32), bs_K kn k → (∀ j, j < 16 → k0 j = true → k j = true) → (∀ q, q < 16 → bs_rdy R k0 q → k q = true) → bs_S R O N k vl → bs_L R O N k vl → (∀ j, j < 16 → k j = false → vl j = 0) → J (x1 + 1) op on tw nm oc oo oa ob ov kn vl kt vt) :
    ∀ d i : Nat, i + d = 16 → ∀ (k : Nat → Bool) (kn vl : Nat → Int32), bs_K kn k → (∀ j, j < 16 → k0 j = true → k j = true) → (∀ q, q < i → bs_rdy R k0 q → k q = true) → bs_S R O N k vl → bs_L R O N k vl → (∀ j, j < 16 → k j = false → vl j = 0) → wY_work_69 post J x1 ch df (d + 1) (nI i) op on tw nm oc oo oa ob ov kn vl kt vt := by
  intro d
  induction d with
  | zero =>
    intro i hi k kn vl K hm hF S L Z
    obtain rfl : i = 16 := by omega
    exact br_t bs_16 (nm_e (H k kn vl K hm hF S L Z))
  | succ d ih =>
    intro i hi k kn vl K hm hF S L Z
    have hl : i < 16 := by omega
    refine br_f (bs_n16 hl) ⟨bs_vi hl, ?_⟩
    rw [bs_cl hl]
    cases z : k i
    · have nz : R i ≠ 0 := fun e => by
        have g := hm i hl (hz i hl e)
        rw [z] at g; exact absurd g (by decide)
      refine br_t (bs_K0 K hl z) (ys_all hl C K (fun q => br_f bs_n10 (ys_res hl (C i hl) nz ⟨bs_vi hl, nm_e ⟨bs_vi hl, nm_e (nm_r (nI_1 i) ?_)⟩⟩)) (fun q => br_t rfl (nm_r (nI_1 i) ?_)))
      · refine ih (i + 1) (by omega) (bs_set k i) _ _ (bs_Kset K i) (fun j hj h => bs_setM (hm j hj h)) (fun j hj hr => ?_) (bs_stS S z q) (bs_stL L hl q) (fun j hj hk => ?_)
        · by_cases y : j = i
          · rw [y]; exact bs_setS
          · exact bs_setM (hF j (by omega) hr)
        · by_cases y : j = i
          · rw [y, bs_setS] at hk; exact absurd hk (by decide)
          · rw [bs_setN y] at hk
            rw [bs_updN y]; exact Z j hj hk
      · refine ih (i + 1) (by omega) k kn vl K hm (fun j hj hr => ?_) S L Z
        by_cases y : j = i
        · rw [y] at hr; exact absurd (bs_rdyM k0 k i hm hr) q
        · exact hF j (by omega) hr
    · refine br_f (bs_K1 K hl z) (nm_r (nI_1 i) (ih (i + 1) (by omega) k kn vl K hm (fun j hj hr => ?_) S L Z))
      by_cases y : j = i
      · rw [y]; exact z
      · exact hF j (by omega) hr
theorem ys_outer {post : SY → Prop} {ch df : Int32} {op on tw nm oc oo oa ob ov kt vt : Nat → Int32} {R O N : Nat → Int32} (C : bs_CC R O N op on tw nm)
    (H : ∀ (k : Nat → Bool) (kn vl : Nat → Int32), bs_K kn k → bs_W R O N k vl → post (ch, df, op, on, tw, nm, oc, oo, oa, ob, ov, kn, vl, kt, vt)) :
    ∀ d i : Nat, i + d = 16 → ∀ (k : Nat → Bool) (kn vl : Nat → Int32), bs_K kn k → (∀ j, j < 16 → R j = 0 → k j = true) → bs_S R O N k vl → bs_L R O N k vl → (∀ j, j < 16 → k j = false → vl j = 0) → (i ≤ bs_cnt k 16 ∨ bs_D R k) → wY_work_61 post ch df (d + 1) (nI i) op on tw nm oc oo oa ob ov kn vl kt vt := by
  intro d
  induction d with
  | zero =>
    intro i hi k kn vl K hz S L Z h
    obtain rfl : i = 16 := by omega
    exact br_t bs_16 (H k kn vl K ⟨S, L, bs_endD h, Z⟩)
  | succ d ih =>
    intro i hi k kn vl K hz S L Z h
    have hl : i < 16 := by omega
    refine br_f (bs_n16 hl) ⟨17, ys_inner C hz (fun k1 kn1 vl1 K1 hm hF S1 L1 Z1 => ?_) 16 0 rfl k kn vl K (fun _ _ h => h) (fun q hq => absurd hq (by omega)) S L Z⟩
    rw [nI_1 i]
    exact ih (i + 1) (by omega) k1 kn1 vl1 K1 (fun j hj e => hm j hj (hz j hj e)) S1 L1 Z1 (bs_rndS hm hF S L1 h)
theorem bs_iS {R O N vl : Nat → Int32} (h : ∀ j, j < 16 → vl j = if R j = 0 then N j else 0) : bs_S R O N (fun j => decide (R j = 0)) vl := by
  intro i hi hk
  have z : R i = 0 := of_decide_eq_true hk
  refine ⟨fun j hj hb => ?_, ?_⟩
  · rw [z, b_0] at hb; exact absurd hb (by decide)
  · rw [h i hi, if_pos z]
    unfold bs_val
    rw [if_pos z]
theorem bs_iL {R O N vl : Nat → Int32} (h : ∀ j, j < 16 → vl j = if R j = 0 then N j else 0) : bs_L R O N (fun j => decide (R j = 0)) vl := by
  intro k' v' D S i hi hk
  have z : R i = 0 := of_decide_eq_true hk
  have g : k' i = true := D i hi (fun j hj hb => by rw [z, b_0] at hb; exact absurd hb (by decide))
  refine ⟨g, ?_⟩
  rw [h i hi, if_pos z, (S i hi g).2]
  unfold bs_val
  rw [if_pos z]
theorem ys_27T {post : SY → Prop} {J : Int32 → (Nat → Int32) → (Nat → Int32) → (Nat → Int32) → (Nat → Int32) → (Nat → Int32) → (Nat → Int32) → (Nat → Int32) → (Nat → Int32) → (Nat → Int32) → (Nat → Int32) → (Nat → Int32) → (Nat → Int32) → (Nat → Int32) → Prop} {ch df : Int32} {op on tw nm oc oo oa ob ov kn vl kt vt : Nat → Int32} {i : Nat} (hi : i < 16) (e : ¬ 0 ≤ op i) (H : J (nI (i + 1)) op on tw nm oc oo oa ob ov (upd kn i 1) (upd vl i (nm i)) kt vt) : wY_work_27 post J (nI i) 1 (nI i) ch df op on tw nm oc oo oa ob ov kn vl kt vt := by
  unfold wY_work_27
  rw [bs_cl hi, bs_vn1]
  have v := bs_vi hi
  exact ⟨v, nm_e ⟨v, br_f e ⟨v, v, nm_e (nm_r (nI_1 i) H)⟩⟩⟩
theorem ys_27F {post : SY → Prop} {J : Int32 → (Nat → Int32) → (Nat → Int32) → (Nat → Int32) → (Nat → Int32) → (Nat → Int32) → (Nat → Int32) → (Nat → Int32) → (Nat → Int32) → (Nat → Int32) → (Nat → Int32) → (Nat → Int32) → (Nat → Int32) → (Nat → Int32) → Prop} {ch df : Int32} {op on tw nm oc oo oa ob ov kn vl kt vt : Nat → Int32} {i : Nat} (hi : i < 16) (e : 0 ≤ op i) (H : J (nI (i + 1)) op on tw nm oc oo oa ob ov (upd kn i 0) (upd vl i 0) kt vt) : wY_work_27 post J (nI i) 0 (nI i) ch df op on tw nm oc oo oa ob ov kn vl kt vt := by
  unfold wY_work_27
  rw [bs_cl hi, bs_vn0]
  have v := bs_vi hi
  exact ⟨v, nm_e ⟨v, br_t e ⟨v, nm_e (nm_r (nI_1 i) H)⟩⟩⟩
theorem ys_init {post : SY → Prop} {ch df : Int32} {op on tw nm oc oo oa ob ov kt vt : Nat → Int32} {R O N : Nat → Int32} (C : bs_CC R O N op on tw nm)
    (H : ∀ kn vl : Nat → Int32, bs_K kn (fun j => decide (R j = 0)) → (∀ j, j < 16 → vl j = if R j = 0 then N j else 0) → ∃ n : Nat, wY_work_61 post ch df n 0 op on tw nm oc oo oa ob ov kn vl kt vt) :
    ∀ d i : Nat, i + d = 16 → ∀ kn vl : Nat → Int32, (∀ j, j < i → kn j = if decide (R j = 0) = true then 1 else 0) → (∀ j, j < i → vl j = if R j = 0 then N j else 0) → wY_work_2 post ch df (d + 1) (nI i) op on tw nm oc oo oa ob ov kn vl kt vt := by
  intro d
  induction d with
  | zero =>
    intro i hi kn vl h1 h2
    obtain rfl : i = 16 := by omega
    exact br_t bs_16 (H kn vl h1 h2)
  | succ d ih =>
    intro i hi kn vl h1 h2
    have hl : i < 16 := by omega
    refine br_f (bs_n16 hl) ⟨bs_vi hl, ?_⟩
    rw [bs_cl hl]
    have ci := C i hl
    have e0 := bs_CO ci
    by_cases z : op i < 0
    · have rz := e0.mp z
      have ng : ¬ 0 ≤ op i := Int32.not_le.mpr z
      refine br_f ng (ys_27T hl ng (ih (i + 1) (by omega) _ _ (fun j hj => ?_) (fun j hj => ?_)))
      · by_cases y : j = i
        · rw [y, bs_updS, decide_eq_true rz]; rfl
        · rw [bs_updN y]; exact h1 j (by omega)
      · by_cases y : j = i
        · rw [y, bs_updS, if_pos rz]; exact ci.1.symm
        · rw [bs_updN y]; exact h2 j (by omega)
    · have rz : ¬ R i = 0 := fun g => z (e0.mpr g)
      have ng : 0 ≤ op i := Int32.not_lt.mp z
      refine br_t ng (ys_27F hl ng (ih (i + 1) (by omega) _ _ (fun j hj => ?_) (fun j hj => ?_)))
      · by_cases y : j = i
        · rw [y, bs_updS, decide_eq_false rz]; rfl
        · rw [bs_updN y]; exact h1 j (by omega)
      · by_cases y : j = i
        · rw [y, bs_updS, if_neg rz]
        · rw [bs_updN y]; exact h2 j (by omega)
theorem ys_work {post : SY → Prop} {ch df : Int32} {op on tw nm oc oo oa ob ov kn vl kt vt : Nat → Int32} {R O N : Nat → Int32} (C : bs_CC R O N op on tw nm)
    (H : ∀ (k : Nat → Bool) (kn vl : Nat → Int32), bs_K kn k → bs_W R O N k vl → post (ch, df, op, on, tw, nm, oc, oo, oa, ob, ov, kn, vl, kt, vt)) : wpY_work post (ch, df, op, on, tw, nm, oc, oo, oa, ob, ov, kn, vl, kt, vt) := by
  refine ⟨17, ys_init C (fun kn vl h1 h2 => ⟨17, ys_outer C H 16 0 rfl _ kn vl h1 (fun j hj e => decide_eq_true e) (bs_iS h2) (bs_iL h2) (fun j hj hk => ?_) (Or.inl (Nat.zero_le _))⟩) 16 0 rfl kn vl (fun j hj => absurd hj (by omega)) (fun j hj => absurd hj (by omega))⟩
  rw [h2 j hj, if_neg (of_decide_eq_false hk)]
theorem ys_befL {post : SY → Prop} {ch df : Int32} {op on tw nm oc oo oa ob ov kn vl : Nat → Int32} (H : ∀ kt vt : Nat → Int32, (∀ j, j < 16 → kt j = vp_nar .boolean (kn j)) → (∀ j, j < 16 → vt j = vl j) → post (ch, df, op, on, tw, nm, oc, oo, oa, ob, ov, kn, vl, kt, vt)) :
    ∀ d i : Nat, i + d = 16 → ∀ kt vt : Nat → Int32, (∀ j, j < i → kt j = vp_nar .boolean (kn j)) → (∀ j, j < i → vt j = vl j) → wY_before_6 post ch df (d + 1) (nI i) op on tw nm oc oo oa ob ov kn vl kt vt := by
  intro d
  induction d with
  | zero =>
    intro i hi kt vt h1 h2
    obtain rfl : i = 16 := by omega
    exact br_t bs_16 (H kt vt h1 h2)
  | succ d ih =>
    intro i hi kt vt h1 h2
    have hl : i < 16 := by omega
    have v := bs_vi hl
    refine br_f (bs_n16 hl) ⟨v, v, ?_⟩
    rw [bs_cl hl]
    refine nm_e ⟨v, v, nm_e (nm_r (nI_1 i) (ih (i + 1) (by omega) _ _ (fun j hj => ?_) (fun j hj => ?_)))⟩
    · by_cases y : j = i
      · rw [y, bs_updS]
      · rw [bs_updN y]; exact h1 j (by omega)
    · by_cases y : j = i
      · rw [y, bs_updS]
      · rw [bs_updN y]; exact h2 j (by omega)
theorem ys_before {post : SY → Prop} {ch df : Int32} {op on tw nm oc oo oa ob ov kn vl kt vt : Nat → Int32} {R O N : Nat → Int32} (C : bs_CC R O N op on tw nm)
    (H : ∀ (k : Nat → Bool) (kn vl kt vt : Nat → Int32), bs_K kt k → bs_W R O N k vl → (∀ j, j < 16 → vt j = vl j) → post (ch, df, op, on, tw, nm, oc, oo, oa, ob, ov, kn, vl, kt, vt)) : wpY_before post (ch, df, op, on, tw, nm, oc, oo, oa, ob, ov, kn, vl, kt, vt) := by
  unfold wpY_before
  refine ys_work C (fun k kn vl K W => ⟨17, ys_befL (fun kt vt h1 h2 => H k kn vl kt vt (fun j hj => ?_) W h2) 16 0 rfl kt vt (fun j hj => absurd hj (by omega)) (fun j hj => absurd hj (by omega))⟩)
  rw [h1 j hj, K j hj]
  cases k j <;> rfl
def bs_dfr (k k0 : Nat → Bool) (v v0 : Nat → Int32) : Nat → Bool := fun j => !(decide (k j = k0 j) && decide (v j = v0 j))
theorem bs_Keq {kn kt : Nat → Int32} {k k0 : Nat → Bool} (K : bs_K kn k) (K0 : bs_K kt k0) {i : Nat} (hi : i < 16) : kn i = kt i ↔ k i = k0 i := by
  rw [K i hi, K0 i hi]
  cases k i <;> cases k0 i <;> decide
theorem ys_52 {post : SY → Prop} {J : Int32 → Int32 → Prop} {z w : Int32} {ch df : Int32} {op on tw nm oc oo oa ob ov kn vl kt vt : Nat → Int32} {i : Nat} (e : z ||| ((1 : Int32) <<< (nI i &&& 31)) = w) (H : J (nI (i + 1)) w) : wY_after_52 post J (nI i) z ch df op on tw nm oc oo oa ob ov kn vl kt vt :=
  nm_r e (nm_r (nI_1 i) H)
theorem ys_aftL {post : SY → Prop} {ch df : Int32} {op on tw nm oc oo oa ob ov kn vl kt vt : Nat → Int32} {k k0 : Nat → Bool} {v0 : Nat → Int32} (K : bs_K kn k) (K0 : bs_K kt k0) (hv : ∀ j, j < 16 → vt j = v0 j) (H : post (ch, bs_mk (bs_dfr k k0 vl v0) 16, op, on, tw, nm, oc, oo, oa, ob, ov, kn, vl, kt, vt)) :
    ∀ d i : Nat, i + d = 16 → wY_after_11 post ch op on tw nm oc oo oa ob ov kn vl kt vt (d + 1) (nI i) (bs_mk (bs_dfr k k0 vl v0) i) := by
  intro d
  induction d with
  | zero =>
    intro i hi
    obtain rfl : i = 16 := by omega
    exact br_t bs_16 H
  | succ d ih =>
    intro i hi
    have hl : i < 16 := by omega
    have v := bs_vi hl
    have hx := ih (i + 1) (by omega)
    refine br_f (bs_n16 hl) ⟨v, v, ?_⟩
    rw [bs_cl hl]
    by_cases a : k i = k0 i
    · refine br_t ((bs_Keq K K0 hl).mpr a) ⟨v, v, ?_⟩
      by_cases b : vl i = v0 i
      · rw [bs_mkF (p := bs_dfr k k0 vl v0) (n := i) (by unfold bs_dfr; rw [decide_eq_true a, decide_eq_true b]; rfl)] at hx
        exact br_t (by rw [hv i hl]; exact b) (nm_r (Int32.or_zero) (nm_r (nI_1 i) hx))
      · exact br_f (by rw [hv i hl]; exact b) (ys_52 (bs_mkT (p := bs_dfr k k0 vl v0) (n := i) (by unfold bs_dfr; rw [decide_eq_false b, Bool.and_false]; rfl)).symm hx)
    · exact br_f (fun e => a ((bs_Keq K K0 hl).mp e)) (ys_52 (bs_mkT (p := bs_dfr k k0 vl v0) (n := i) (by unfold bs_dfr; rw [decide_eq_false a, Bool.false_and]; rfl)).symm hx)
theorem ys_after {post : SY → Prop} {ch df : Int32} {op on tw nm oc oo oa ob ov kn vl kt vt : Nat → Int32} {R O N : Nat → Int32} {k0 : Nat → Bool} {v0 : Nat → Int32} (C : bs_CC R O N op on tw nm) (K0 : bs_K kt k0) (hv : ∀ j, j < 16 → vt j = v0 j)
    (H : ∀ (k : Nat → Bool) (kn vl : Nat → Int32), bs_W R O N k vl → post (ch, bs_mk (bs_dfr k k0 vl v0) 16, op, on, tw, nm, oc, oo, oa, ob, ov, kn, vl, kt, vt)) : wpY_after post (ch, df, op, on, tw, nm, oc, oo, oa, ob, ov, kn, vl, kt, vt) := by
  unfold wpY_after
  exact ys_work C (fun k kn vl K W => ⟨17, ys_aftL (df := df) K K0 hv (H k kn vl W) 16 0 rfl⟩)
