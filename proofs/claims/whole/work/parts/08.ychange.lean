theorem ys_hold {post : SY → Prop} {p1 p2 p3 p4 : Int32} {ch df : Int32} {op on tw nm oc oo oa ob ov kn vl kt vt : Nat → Int32} {f : Nat} (hf : f < 16) (H : post (ch, df, upd op f p1, upd on f p2, upd tw f p3, upd nm f p4, oc, oo, oa, ob, ov, kn, vl, kt, vt)) : wpY_hold post (ch, df, op, on, tw, nm, oc, oo, oa, ob, ov, kn, vl, kt, vt) (nI f) p1 p2 p3 p4 := by
  unfold wpY_hold
  rw [bs_cl hf]
  have v := bs_vi hf
  exact ⟨v, nm_e ⟨v, nm_e ⟨v, nm_e ⟨v, nm_e H⟩⟩⟩⟩
theorem ys_115 {post : SY → Prop} {p1 p2 p3 p4 : Int32} {df : Int32} {op on tw nm oc oo oa ob ov kn vl kt vt : Nat → Int32} {R O N : Nat → Int32} {k0 : Nat → Bool} {v0 : Nat → Int32} {m f : Nat} (hm : m < 8) (hf : f < 16)
    (C : bs_CC R O N (upd op f p1) (upd on f p2) (upd tw f p3) (upd nm f p4)) (K0 : bs_K kt k0) (hv : ∀ j, j < 16 → vt j = v0 j)
    (H : ∀ (k : Nat → Bool) (kn vl : Nat → Int32), bs_W R O N k vl → post (nI (m + 1), bs_mk (bs_dfr k k0 vl v0) 16, upd op f p1, upd on f p2, upd tw f p3, upd nm f p4, upd oc m (nI f), upd oo m (op f), upd oa m (on f), upd ob m (tw f), upd ov m (nm f), kn, vl, kt, vt)) :
    wY_change_115 post (nI f) p1 p2 p3 p4 (nI m) df op on tw nm oc oo oa ob ov kn vl kt vt := by
  have v8 := bs_v8 hm
  have vf := bs_vi hf
  unfold wY_change_115
  rw [bs_c8 hm, bs_cl hf]
  exact ⟨v8, nm_e ⟨vf, v8, nm_e ⟨vf, v8, nm_e ⟨vf, v8, nm_e ⟨vf, v8, nm_e (nm_r (nI_1 m) (ys_hold hf (ys_after C K0 hv H)))⟩⟩⟩⟩⟩
theorem ys_16L {post : SY → Prop} {p0 p1 p2 p3 p4 : Int32} {ch df : Int32} {op on tw nm oc oo oa ob ov kn vl kt vt : Nat → Int32}
    (H : ∀ oc' oo' oa' ob' ov' : Nat → Int32, bs_shf oc oc' 7 → bs_shf oo oo' 7 → bs_shf oa oa' 7 → bs_shf ob ob' 7 → bs_shf ov ov' 7 → wY_change_115 post p0 p1 p2 p3 p4 7 df op on tw nm oc' oo' oa' ob' ov' kn vl kt vt) :
    ∀ d i : Nat, i + d = 7 → ∀ oc' oo' oa' ob' ov' : Nat → Int32, bs_shf oc oc' i → bs_shf oo oo' i → bs_shf oa oa' i → bs_shf ob ob' i → bs_shf ov ov' i → wY_change_16 post p0 p1 p2 p3 p4 ch df (d + 1) (nI i) op on tw nm oc' oo' oa' ob' ov' kn vl kt vt := by
  intro d
  induction d with
  | zero =>
    intro i hi oc' oo' oa' ob' ov' h1 h2 h3 h4 h5
    obtain rfl : i = 7 := by omega
    exact br_t (by decide) (H oc' oo' oa' ob' ov' h1 h2 h3 h4 h5)
  | succ d ih =>
    intro i hi oc' oo' oa' ob' ov' h1 h2 h3 h4 h5
    have v1 := bs_v8 (i := i + 1) (by omega)
    have v0 := bs_v8 (i := i) (by omega)
    refine br_f (nI_ge (b := 7) (by omega) (by decide)) ?_
    rw [nI_1 i, bs_c8 (i := i + 1) (by omega), bs_c8 (i := i) (by omega)]
    exact ⟨v1, v0, nm_e ⟨v1, v0, nm_e ⟨v1, v0, nm_e ⟨v1, v0, nm_e ⟨v1, v0, nm_e (nm_e (ih (i + 1) (by omega) _ _ _ _ _ (bs_shfS h1) (bs_shfS h2) (bs_shfS h3) (bs_shfS h4) (bs_shfS h5)))⟩⟩⟩⟩⟩
theorem ys_change {post : SY → Prop} {p1 p2 p3 p4 : Int32} {df : Int32} {op on tw nm oc oo oa ob ov kn vl kt vt : Nat → Int32} {R O N R' O' N' : Nat → Int32} {n f : Nat} (hn : n ≤ 8) (hf : f < 16) (C : bs_CC R O N op on tw nm)
    (C' : bs_CC R' O' N' (upd op f p1) (upd on f p2) (upd tw f p3) (upd nm f p4))
    (H : ∀ (m s : Nat) (oc' oo' oa' ob' ov' : Nat → Int32) (k0 k : Nat → Bool) (v0 kn vl kt vt : Nat → Int32), bs_ms n m s → bs_psh oc oc' m s (nI f) → bs_psh oo oo' m s (op f) → bs_psh oa oa' m s (on f) → bs_psh ob ob' m s (tw f) → bs_psh ov ov' m s (nm f) →
      bs_W R O N k0 v0 → bs_W R' O' N' k vl → post (nI (m + 1), bs_mk (bs_dfr k k0 vl v0) 16, upd op f p1, upd on f p2, upd tw f p3, upd nm f p4, oc', oo', oa', ob', ov', kn, vl, kt, vt)) :
    wpY_change post (nI n, df, op, on, tw, nm, oc, oo, oa, ob, ov, kn, vl, kt, vt) (nI f) p1 p2 p3 p4 := by
  unfold wpY_change
  refine ys_before C (fun k0 kn v0 kt vt K0 W0 hv => ?_)
  by_cases z : n < 8
  · exact br_f (by rw [show (8 : Int32) = nI 8 from rfl, nI_eq (by omega) (by omega)]; omega) (ys_115 z hf C' K0 hv (fun k kn' vl W => H n 0 _ _ _ _ _ k0 k v0 kn' vl kt vt (Or.inl ⟨z, rfl, rfl⟩) (bs_pshN oc n _) (bs_pshN oo n _) (bs_pshN oa n _) (bs_pshN ob n _) (bs_pshN ov n _) W0 W))
  · obtain rfl : n = 8 := by omega
    refine br_t rfl ⟨8, ys_16L (fun oc' oo' oa' ob' ov' h1 h2 h3 h4 h5 => ?_) 7 0 rfl oc oo oa ob ov (bs_shf0 oc) (bs_shf0 oo) (bs_shf0 oa) (bs_shf0 ob) (bs_shf0 ov)⟩
    exact ys_115 (m := 7) (by omega) hf C' K0 hv (fun k kn' vl W => H 7 1 _ _ _ _ _ k0 k v0 kn' vl kt vt (Or.inr ⟨rfl, rfl, rfl⟩) (bs_psh8 _ h1) (bs_psh8 _ h2) (bs_psh8 _ h3) (bs_psh8 _ h4) (bs_psh8 _ h5) W0 W)
theorem ys_undo {post : Int32 → SY → Prop} {df : Int32} {op on tw nm oc oo oa ob ov kn vl kt vt : Nat → Int32} {R O N R' O' N' : Nat → Int32} {n f : Nat} (hn : n < 8) (hf : f < 16) (ef : oc n = nI f) (C : bs_CC R O N op on tw nm)
    (C' : bs_CC R' O' N' (upd op f (oo n)) (upd on f (oa n)) (upd tw f (ob n)) (upd nm f (ov n)))
    (H : ∀ (k0 k : Nat → Bool) (v0 kn vl kt vt : Nat → Int32), bs_W R O N k0 v0 → bs_W R' O' N' k vl → post (nI f) (nI n, bs_mk (bs_dfr k k0 vl v0) 16, upd op f (oo n), upd on f (oa n), upd tw f (ob n), upd nm f (ov n), oc, oo, oa, ob, ov, kn, vl, kt, vt)) :
    wpY_undo post (nI (n + 1), df, op, on, tw, nm, oc, oo, oa, ob, ov, kn, vl, kt, vt) := by
  unfold wpY_undo
  refine br_f (nI_ne0 (by omega) (by omega)) (ys_before C (fun k0 kn v0 kt vt K0 W0 hv => nm_r (nI_pred n) ?_))
  have v8 := bs_v8 hn
  rw [bs_c8 hn]
  refine ⟨v8, nm_r ef ⟨v8, v8, v8, v8, ys_hold hf (ys_after C' K0 hv (fun k kn' vl W => H k0 k v0 kn' vl kt vt W0 W))⟩⟩
theorem ys_bcL {post : Int32 → SY → Prop} {ch df : Int32} {op on tw nm oc oo oa ob ov kn vl kt vt : Nat → Int32} {k : Nat → Bool} (K : bs_K kn k) (H : post (bs_mk (fun j => !k j) 16) (ch, df, op, on, tw, nm, oc, oo, oa, ob, ov, kn, vl, kt, vt)) : ∀ d i : Nat, i + d = 16 → wY_brokenCells_8 post ch df op on tw nm oc oo oa ob ov kn vl kt vt (d + 1) (bs_mk (fun j => !k j) i) (nI i) := by
  intro d
  induction d with
  | zero =>
    intro i hi
    obtain rfl : i = 16 := by omega
    exact br_t bs_16 H
  | succ d ih =>
    intro i hi
    have hl : i < 16 := by omega
    have hx := ih (i + 1) (by omega)
    refine br_f (bs_n16 hl) ⟨bs_vi hl, ?_⟩
    rw [bs_cl hl]
    cases z : k i
    · exact br_t (bs_K0 K hl z) (nm_r (bs_mkT (p := fun j => !k j) (n := i) (by rw [z]; rfl)).symm (nm_r (nI_1 i) hx))
    · rw [bs_mkF (p := fun j => !k j) (n := i) (by rw [z]; rfl)] at hx
      exact br_f (bs_K1 K hl z) (nm_r Int32.or_zero (nm_r (nI_1 i) hx))
theorem ys_rdrL {post : Int32 → Prop} {ch df : Int32} {op on tw nm oc oo oa ob ov kn vl kt vt : Nat → Int32} {R O N : Nat → Int32} {q : Nat} (hq : q < 16) (C : bs_CC R O N op on tw nm) (H : post (bs_mk (fun j => bt (R j) q) 16)) : ∀ d i : Nat, i + d = 16 → wY_readers_4 post (nI q) ch df op on tw nm oc oo oa ob ov kn vl kt vt (d + 1) (bs_mk (fun j => bt (R j) q) i) (nI i) := by
  intro d
  induction d with
  | zero =>
    intro i hi
    obtain rfl : i = 16 := by omega
    exact br_t bs_16 H
  | succ d ih =>
    intro i hi
    have hl : i < 16 := by omega
    have hx := ih (i + 1) (by omega)
    refine br_f (bs_n16 hl) (ys_cellT hq (br_f bs_n10 (ys_reads hl hq (C i hl) (fun b => br_f bs_n10 ?_) (fun b => br_t rfl ?_))))
    · exact nm_r (bs_mkT (p := fun j => bt (R j) q) (n := i) b).symm (nm_r (nI_1 i) hx)
    · rw [bs_mkF (p := fun j => bt (R j) q) (n := i) b] at hx
      exact nm_r Int32.or_zero (nm_r (nI_1 i) hx)
theorem ys_rdr {post : Int32 → Prop} {ch df : Int32} {op on tw nm oc oo oa ob ov kn vl kt vt : Nat → Int32} {R O N : Nat → Int32} {q : Nat} (hq : q < 16) (C : bs_CC R O N op on tw nm) (H : post (bs_mk (fun j => bt (R j) q) 16)) : wpY_readers post (ch, df, op, on, tw, nm, oc, oo, oa, ob, ov, kn, vl, kt, vt) (nI q) :=
  ⟨17, ys_rdrL hq C H 16 0 rfl⟩
theorem ys_rdrN {post : Int32 → Prop} {ch df : Int32} {op on tw nm oc oo oa ob ov kn vl kt vt : Nat → Int32} {p : Int32} (hp : ¬ bs_cell p) (H : post 0) : wpY_readers post (ch, df, op, on, tw, nm, oc, oo, oa, ob, ov, kn, vl, kt, vt) p :=
  ⟨1, br_f (by decide) (ys_cellF hp (br_t rfl H))⟩
theorem ys_depI {post : Int32 → Prop} {J : Int32 → Int32 → Prop} {x3 : Int32} {ch df : Int32} {op on tw nm oc oo oa ob ov kn vl kt vt : Nat → Int32} {R O N : Nat → Int32} {q : Nat} {k0 : Nat → Bool} (C : bs_CC R O N op on tw nm)
    (H : ∀ k : Nat → Bool, (∀ f, f < 16 → k0 f = true → k f = true) → (∀ j, j < 16 → k0 j = true → ∀ f, f < 16 → bt (R f) j = true → k f = true) → bs_dL R q k → J (bs_mk k 16) (x3 + 1)) :
    ∀ d i : Nat, i + d = 16 → ∀ k : Nat → Bool, (∀ f, f < 16 → k0 f = true → k f = true) → (∀ j, j < i → k0 j = true → ∀ f, f < 16 → bt (R f) j = true → k f = true) → bs_dL R q k → wY_dependents_17 post J x3 ch df op on tw nm oc oo oa ob ov kn vl kt vt (d + 1) (bs_mk k 16) (nI i) := by
  intro d
  induction d with
  | zero =>
    intro i hi k hm hF L
    obtain rfl : i = 16 := by omega
    exact br_t bs_16 (nm_e (H k hm hF L))
  | succ d ih =>
    intro i hi k hm hF L
    have hl : i < 16 := by omega
    refine br_f (bs_n16 hl) ?_
    cases z : k i
    · refine br_f (fun e => by rw [bs_sh1 hl, bs_mk16 _ hl, z] at e; exact absurd e (by decide)) (nm_r (nI_1 i) (ih (i + 1) (by omega) k hm (fun j hj g f hf hb => ?_) L))
      by_cases y : j = i
      · rw [y] at g
        have e := hm i hl g
        rw [z] at e; exact absurd e (by decide)
      · exact hF j (by omega) g f hf hb
    · refine br_t ((bs_sh1 hl).mpr (by rw [bs_mk16 _ hl]; exact z)) (ys_rdr hl C (nm_r (bs_mkOr k _) (nm_r (nI_1 i) (ih (i + 1) (by omega) _ (fun f hf g => ?_) (fun j hj g f hf hb => ?_) (fun k' D f hf g => ?_)))))
      · show (k f || bt (R f) i) = true
        rw [hm f hf g, Bool.true_or]
      · show (k f || bt (R f) i) = true
        by_cases y : j = i
        · rw [← y, hb, Bool.or_true]
        · rw [hF j (by omega) g f hf hb, Bool.true_or]
      · rcases Bool.or_eq_true _ _ ▸ g with y | y
        · exact L k' D f hf y
        · exact D f hf (Or.inr ⟨i, hl, y, L k' D i hl z⟩)
theorem ys_depL {post : Int32 → Prop} {ch df : Int32} {op on tw nm oc oo oa ob ov kn vl kt vt : Nat → Int32} {R O N : Nat → Int32} {q : Nat} (C : bs_CC R O N op on tw nm) (H : ∀ k : Nat → Bool, bs_dD R q k → bs_dL R q k → post (bs_mk k 16)) :
    ∀ d i : Nat, i + d = 16 → ∀ k : Nat → Bool, (∀ f, f < 16 → bt (R f) q = true → k f = true) → bs_dL R q k → (i ≤ bs_cnt k 16 ∨ bs_dD R q k) → wY_dependents_8 post ch df op on tw nm oc oo oa ob ov kn vl kt vt (d + 1) (bs_mk k 16) (nI i) := by
  intro d
  induction d with
  | zero =>
    intro i hi k hb L h
    obtain rfl : i = 16 := by omega
    exact br_t bs_16 (H k (bs_endDD h) L)
  | succ d ih =>
    intro i hi k hb L h
    have hl : i < 16 := by omega
    refine br_f (bs_n16 hl) ⟨17, ys_depI (q := q) (k0 := k) C (fun k1 hm hF L1 => ?_) 16 0 rfl k (fun _ _ h => h) (fun j hj => absurd hj (by omega)) L⟩
    rw [nI_1 i]
    refine ih (i + 1) (by omega) k1 (fun f hf g => hm f hf (hb f hf g)) L1 (bs_rndD hm (fun f hf g => ?_) L1 h)
    rcases g with g | ⟨j, hj, hbj, hkj⟩
    · exact hm f hf (hb f hf g)
    · exact hF j hj hkj f hf hbj
theorem ys_dep {post : Int32 → Prop} {ch df : Int32} {op on tw nm oc oo oa ob ov kn vl kt vt : Nat → Int32} {R O N : Nat → Int32} {q : Nat} (hq : q < 16) (C : bs_CC R O N op on tw nm) (H : ∀ k : Nat → Bool, bs_dD R q k → bs_dL R q k → post (bs_mk k 16)) : wpY_dependents post (ch, df, op, on, tw, nm, oc, oo, oa, ob, ov, kn, vl, kt, vt) (nI q) := by
  unfold wpY_dependents
  exact ys_rdr hq C ⟨17, ys_depL C H 16 0 rfl _ (fun _ _ h => h) (bs_dL0 R q) (Or.inl (Nat.zero_le _))⟩
theorem ys_dep0I {post : Int32 → Prop} {J : Int32 → Int32 → Prop} {x3 : Int32} {ch df : Int32} {op on tw nm oc oo oa ob ov kn vl kt vt : Nat → Int32} (H : J 0 (x3 + 1)) : ∀ d i : Nat, i + d = 16 → wY_dependents_17 post J x3 ch df op on tw nm oc oo oa ob ov kn vl kt vt (d + 1) 0 (nI i) := by
  intro d
  induction d with
  | zero =>
    intro i hi
    obtain rfl : i = 16 := by omega
    exact br_t bs_16 (nm_e H)
  | succ d ih =>
    intro i hi
    have hl : i < 16 := by omega
    exact br_f (bs_n16 hl) (br_f (fun e => by rw [bs_sh1 hl, b_0] at e; exact absurd e (by decide)) (nm_r (nI_1 i) (ih (i + 1) (by omega))))
theorem ys_dep0L {post : Int32 → Prop} {ch df : Int32} {op on tw nm oc oo oa ob ov kn vl kt vt : Nat → Int32} (H : post 0) : ∀ d i : Nat, i + d = 16 → wY_dependents_8 post ch df op on tw nm oc oo oa ob ov kn vl kt vt (d + 1) 0 (nI i) := by
  intro d
  induction d with
  | zero =>
    intro i hi
    obtain rfl : i = 16 := by omega
    exact br_t bs_16 H
  | succ d ih =>
    intro i hi
    have hl : i < 16 := by omega
    exact br_f (bs_n16 hl) ⟨17, ys_dep0I (by rw [nI_1 i]; exact ih (i + 1) (by omega)) 16 0 rfl⟩
theorem ys_depN {post : Int32 → Prop} {ch df : Int32} {op on tw nm oc oo oa ob ov kn vl kt vt : Nat → Int32} {p : Int32} (hp : ¬ bs_cell p) (H : post 0) : wpY_dependents post (ch, df, op, on, tw, nm, oc, oo, oa, ob, ov, kn, vl, kt, vt) p := by
  unfold wpY_dependents
  exact ys_rdrN hp ⟨17, ys_dep0L H 16 0 rfl⟩
theorem ys_totL {post : Int32 → SY → Prop} {ch df : Int32} {op on tw nm oc oo oa ob ov kn vl kt vt : Nat → Int32} {a b : Nat} (ha : a < 16) (hb : b < 16) (H : post (bs_sm (bs_mk (bs_in a b) 16) vl 16) (ch, df, op, on, tw, nm, oc, oo, oa, ob, ov, kn, vl, kt, vt)) :
    ∀ d i : Nat, i + d = 16 → wY_total_9 post (nI a) (nI b) ch df op on tw nm oc oo oa ob ov kn vl kt vt (d + 1) (bs_sm (bs_mk (bs_in a b) 16) vl i) (nI i) := by
  intro d
  induction d with
  | zero =>
    intro i hi
    obtain rfl : i = 16 := by omega
    exact br_t bs_16 H
  | succ d ih =>
    intro i hi
    have hl : i < 16 := by omega
    have hx := ih (i + 1) (by omega)
    refine br_f (bs_n16 hl) (ys_cellT ha (br_f bs_n10 (ys_cellT hb (br_f bs_n10 (ys_in hl ha hb (fun g => br_f bs_n10 ⟨bs_vi hl, ?_⟩) (fun g => br_t rfl ?_))))))
    · rw [bs_cl hl]
      exact nm_r (bs_smT (by rw [bs_mk16 _ hl]; exact g)) (nm_r (nI_1 i) hx)
    · rw [← bs_smF (by rw [bs_mk16 _ hl]; exact g)] at hx
      exact nm_r (Int32.add_zero _) (nm_r (nI_1 i) hx)
theorem ys_mosL {post : Int32 → SY → Prop} {ch df : Int32} {op on tw nm oc oo oa ob ov kn vl kt vt : Nat → Int32} {k : Nat → Bool} (K : bs_K kn k) {a b : Nat} (ha : a < 16) (hb : b < 16) (H : post (bs_mx (-2147483648) (bs_mk (fun j => bs_in a b j && k j) 16) vl 16) (ch, df, op, on, tw, nm, oc, oo, oa, ob, ov, kn, vl, kt, vt)) :
    ∀ d i : Nat, i + d = 16 → wY_most_10 post (nI a) (nI b) ch df op on tw nm oc oo oa ob ov kn vl kt vt (d + 1) (bs_mx (-2147483648) (bs_mk (fun j => bs_in a b j && k j) 16) vl i) (nI i) := by
  intro d
  induction d with
  | zero =>
    intro i hi
    obtain rfl : i = 16 := by omega
    exact br_t bs_16 H
  | succ d ih =>
    intro i hi
    have hl : i < 16 := by omega
    have hx := ih (i + 1) (by omega)
    refine br_f (bs_n16 hl) (ys_cellT ha (br_f bs_n10 (ys_cellT hb (br_f bs_n10 (ys_in hl ha hb (fun g => br_f bs_n10 ⟨bs_vi hl, ?_⟩) (fun g => br_t rfl ?_))))))
    · rw [bs_cl hl]
      cases z : k i
      · rw [← bs_mxF (by rw [bs_mk16 _ hl, z, Bool.and_false])] at hx
        exact br_t (bs_K0 K hl z) (nm_r (nI_1 i) hx)
      · refine br_f (bs_K1 K hl z) ⟨bs_vi hl, ?_⟩
        by_cases w : vl i ≤ bs_mx (-2147483648) (bs_mk (fun j => bs_in a b j && k j) 16) vl i
        · rw [← bs_mxL w] at hx
          exact br_t w (nm_r (nI_1 i) hx)
        · exact br_f w ⟨bs_vi hl, nm_r (bs_mxT (by rw [bs_mk16 _ hl, g, z]; rfl) w) (nm_r (nI_1 i) hx)⟩
    · rw [← bs_mxF (by rw [bs_mk16 _ hl, g, Bool.false_and])] at hx
      exact nm_r (nI_1 i) hx
