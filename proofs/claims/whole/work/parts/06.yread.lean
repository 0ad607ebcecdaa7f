/-- what a cell holds, at X (rd ro rn) and at Y -/
def bs_C (rd ro rn op on tw nm : Int32) : Prop :=
  rn = nm ∧ ((op = -1 ∧ rd = 0) ∨ ∃ o a b : Nat, o < 4 ∧ a < 16 ∧ b < 16 ∧ op = nI o ∧ ro = nI o ∧ on = nI a ∧ tw = nI b ∧ rd = bs_mk (bs_in a b) 16)
def bs_CC (R O N op on tw nm : Nat → Int32) : Prop := ∀ f, f < 16 → bs_C (R f) (O f) (N f) (op f) (on f) (tw f) (nm f)
def bs_K (kn : Nat → Int32) (k : Nat → Bool) : Prop := ∀ j, j < 16 → kn j = if k j = true then 1 else 0
theorem bs_K0 {kn : Nat → Int32} {k : Nat → Bool} (h : bs_K kn k) {i : Nat} (hi : i < 16) (z : k i = false) : kn i = 0 := by
  rw [h i hi, z]; rfl
theorem bs_K1 {kn : Nat → Int32} {k : Nat → Bool} (h : bs_K kn k) {i : Nat} (hi : i < 16) (z : k i = true) : ¬ kn i = 0 := by
  rw [h i hi, z]; exact bs_n10
theorem bs_rnz {a b : Nat} (ha : a < 16) : bs_mk (bs_in a b) 16 ≠ 0 := by
  intro e
  have h := bs_mk16 (bs_in a b) ha
  rw [e, b_0, bs_inC] at h
  exact absurd h (by decide)
theorem bs_CO {rd ro rn op on tw nm : Int32} (C : bs_C rd ro rn op on tw nm) : op < 0 ↔ rd = 0 := by
  obtain ⟨_, ⟨e, z⟩ | ⟨o, a, b, ho, ha, hb, e1, e2, e3, e4, e5⟩⟩ := C
  · exact ⟨fun _ => z, fun _ => by rw [e]; decide⟩
  · refine ⟨fun h => ?_, fun h => ?_⟩
    · rw [e1] at h; exact absurd h (nI_pos (by omega))
    · rw [e5] at h; exact absurd h (bs_rnz ha)
theorem ys_cellT {post : Int32 → Prop} {ch df : Int32} {op on tw nm oc oo oa ob ov kn vl kt vt : Nat → Int32} {i : Nat} (hi : i < 16) (h : post 1) : wpY_cell post (ch, df, op, on, tw, nm, oc, oo, oa, ob, ov, kn, vl, kt, vt) (nI i) :=
  br_f (nI_pos (by omega)) (br_f (bs_n16 hi) h)
theorem ys_cellF {post : Int32 → Prop} {ch df : Int32} {op on tw nm oc oo oa ob ov kn vl kt vt : Nat → Int32} {p : Int32} (hp : ¬ bs_cell p) (h : post 0) : wpY_cell post (ch, df, op, on, tw, nm, oc, oo, oa, ob, ov, kn, vl, kt, vt) p :=
  br_c (fun _ => h) (fun z => br_t (bs_cellN hp z) h)
theorem ys_bw {post : Int32 → Prop} {ch df : Int32} {op on tw nm oc oo oa ob ov kn vl kt vt : Nat → Int32} {x p q : Nat} (hx : x < 16) (hp : p < 16) (hq : q < 16) (h1 : bs_bw x p q = true → post 1) (h0 : bs_bw x p q = false → post 0) : wpY_between post (ch, df, op, on, tw, nm, oc, oo, oa, ob, ov, kn, vl, kt, vt) (nI x) (nI p) (nI q) :=
  xs_bw hx hp hq h1 h0
theorem ys_in {post : Int32 → Prop} {ch df : Int32} {op on tw nm oc oo oa ob ov kn vl kt vt : Nat → Int32} {i a b : Nat} (hi : i < 16) (ha : a < 16) (hb : b < 16) (h1 : bs_in a b i = true → post 1) (h0 : bs_in a b i = false → post 0) : wpY_in post (ch, df, op, on, tw, nm, oc, oo, oa, ob, ov, kn, vl, kt, vt) (nI i) (nI a) (nI b) := by
  unfold wpY_in
  rw [bs_r4 i hi, bs_r4 a ha, bs_r4 b hb, bs_d4 i hi, bs_d4 a ha, bs_d4 b hb]
  refine ⟨bs_n40, bs_n40, bs_n40, ys_bw (by omega) (by omega) (by omega) (fun p1 => br_f bs_n10 ⟨bs_n40, bs_n40, bs_n40, ys_bw (by omega) (by omega) (by omega) (fun q1 => br_f bs_n10 (h1 ?_)) (fun q0 => br_t rfl (h0 ?_))⟩) (fun p0 => br_t rfl (h0 ?_))⟩
  · unfold bs_in; rw [p1, q1]; rfl
  · unfold bs_in; rw [q0, Bool.and_false]
  · unfold bs_in; rw [p0, Bool.false_and]
theorem ys_reads {post : Int32 → Prop} {ch df : Int32} {op on tw nm oc oo oa ob ov kn vl kt vt : Nat → Int32} {rd ro rn : Int32} {f i : Nat} (hf : f < 16) (hi : i < 16) (C : bs_C rd ro rn (op f) (on f) (tw f) (nm f)) (h1 : bt rd i = true → post 1) (h0 : bt rd i = false → post 0) : wpY_reads post (ch, df, op, on, tw, nm, oc, oo, oa, ob, ov, kn, vl, kt, vt) (nI f) (nI i) := by
  unfold wpY_reads
  rw [bs_cl hf]
  refine ⟨bs_vi hf, ?_⟩
  obtain ⟨_, ⟨e, z⟩ | ⟨o, a, b, ho, ha, hb, e1, e2, e3, e4, e5⟩⟩ := C
  · exact br_t (by rw [e]; decide) (h0 (by rw [z]; exact b_0 i))
  · refine br_f (by rw [e1]; exact nI_pos (by omega)) ⟨bs_vi hf, bs_vi hf, ?_⟩
    rw [e3, e4]
    exact ys_in hi ha hb (fun g => br_f bs_n10 (h1 (by rw [e5, bs_mk16 _ hi]; exact g))) (fun g => br_t rfl (h0 (by rw [e5, bs_mk16 _ hi]; exact g)))
theorem bs_nb0 : narrow .boolean (.int 0) = .int 0 := rfl
theorem bs_nb1 : narrow .boolean (.int 1) = .int 1 := rfl
theorem ys_allZ {post : Int32 → Prop} {x : Int32} {ch df : Int32} {op on tw nm oc oo oa ob ov kn vl kt vt : Nat → Int32} (h : post 0) : ∀ d i : Nat, i + d = 16 → wY_allKnown_4 post x ch df op on tw nm oc oo oa ob ov kn vl kt vt (d + 1) 0 (nI i) := by
  intro d
  induction d with
  | zero =>
    intro i hi
    obtain rfl : i = 16 := by omega
    exact br_t bs_16 ⟨bs_nb0, h⟩
  | succ d ih =>
    intro i hi
    have hl : i < 16 := by omega
    exact br_f (bs_n16 hl) (br_t rfl (nm_r (nI_1 i) (ih (i + 1) (by omega))))
theorem ys_allL {post : Int32 → Prop} {ch df : Int32} {op on tw nm oc oo oa ob ov kn vl kt vt : Nat → Int32} {R O N : Nat → Int32} {k : Nat → Bool} {f : Nat} (hf : f < 16) (C : bs_CC R O N op on tw nm) (K : bs_K kn k) (h1 : bs_rdy R k f → post 1) (h0 : ¬ bs_rdy R k f → post 0) :
    ∀ d i : Nat, i + d = 16 → (∀ j, j < i → bt (R f) j = true → k j = true) → wY_allKnown_4 post (nI f) ch df op on tw nm oc oo oa ob ov kn vl kt vt (d + 1) 1 (nI i) := by
  intro d
  induction d with
  | zero =>
    intro i hi g
    obtain rfl : i = 16 := by omega
    exact br_t bs_16 ⟨bs_nb1, h1 g⟩
  | succ d ih =>
    intro i hi g
    have hl : i < 16 := by omega
    refine br_f (bs_n16 hl) (br_f bs_n10 ⟨bs_vi hl, ?_⟩)
    rw [bs_cl hl]
    cases z : k i
    · refine br_t (bs_K0 K hl z) (ys_reads hf hl (C f hf) (fun b => br_f bs_n10 (nm_r (nI_1 i) (ys_allZ (h0 (fun r => ?_)) d (i + 1) (by omega)))) (fun b => br_t rfl (nm_r (nI_1 i) (ih (i + 1) (by omega) (fun j hj hb => ?_)))))
      · have e := r i hl b
        rw [z] at e; exact absurd e (by decide)
      · by_cases y : j = i
        · rw [y, b] at hb; exact absurd hb (by decide)
        · exact g j (by omega) hb
    · refine br_f (bs_K1 K hl z) (nm_r (nI_1 i) (ih (i + 1) (by omega) (fun j hj hb => ?_)))
      by_cases y : j = i
      · rw [y]; exact z
      · exact g j (by omega) hb
theorem ys_all {post : Int32 → Prop} {ch df : Int32} {op on tw nm oc oo oa ob ov kn vl kt vt : Nat → Int32} {R O N : Nat → Int32} {k : Nat → Bool} {f : Nat} (hf : f < 16) (C : bs_CC R O N op on tw nm) (K : bs_K kn k) (h1 : bs_rdy R k f → post 1) (h0 : ¬ bs_rdy R k f → post 0) : wpY_allKnown post (ch, df, op, on, tw, nm, oc, oo, oa, ob, ov, kn, vl, kt, vt) (nI f) :=
  ⟨17, ys_allL hf C K h1 h0 16 0 rfl (fun j hj => absurd hj (by omega))⟩
theorem ys_r93 {post : Int32 → Prop} {J : Int32 → Int32 → Int32 → Int32 → Int32 → Prop} {x1 x2 x3 z0 m x : Int32} {ch df : Int32} {op on tw nm oc oo oa ob ov kn vl kt vt : Nat → Int32} {i : Nat} (hi : i < 16) (hb : bt x i = true) (H : J x2 x3 z0 (bs_mn m x vl (i + 1)) (nI (i + 1))) : wY_result_93 post J x1 x2 x3 (bs_mn m x vl i) (nI i) z0 ch df op on tw nm oc oo oa ob ov kn vl kt vt := by
  unfold wY_result_93
  rw [bs_cl hi]
  refine ⟨bs_vi hi, ?_⟩
  by_cases g : bs_mn m x vl i ≤ vl i
  · rw [← bs_mnL g] at H
    exact br_t g (nm_r (nI_1 i) H)
  · exact br_f g ⟨bs_vi hi, nm_r (bs_mnT hb g) (nm_r (nI_1 i) H)⟩
theorem ys_r67 {post : Int32 → Prop} {J : Int32 → Int32 → Int32 → Int32 → Int32 → Prop} {x1 x2 x3 z0 z1 m m' x : Int32} {ch df : Int32} {op on tw nm oc oo oa ob ov kn vl kt vt : Nat → Int32} {i : Nat} (hi : i < 16) (hb : bt x i = true) (e : z1 + z0 = x3) (H : J x2 x3 (bs_mx m x vl (i + 1)) (bs_mn m' x vl (i + 1)) (nI (i + 1))) : wY_result_67 post J x1 x2 (bs_mx m x vl i) (bs_mn m' x vl i) (nI i) z0 z1 ch df op on tw nm oc oo oa ob ov kn vl kt vt := by
  unfold wY_result_67
  rw [bs_cl hi]
  refine nm_r e ⟨bs_vi hi, ?_⟩
  by_cases g : vl i ≤ bs_mx m x vl i
  · rw [← bs_mxL g] at H
    exact br_t g (ys_r93 hi hb H)
  · rw [← bs_mxT hb g] at H
    exact br_f g ⟨bs_vi hi, ys_r93 hi hb H⟩
theorem ys_fin {post : Int32 → Prop} {rd rn nu w : Int32} {vl : Nat → Int32} {o a f : Nat} (hf : f < 16) (ho : o < 4) (ha : a < 16) (hb : bt rd a = true) (hz : rd ≠ 0) (hn : rn = nu) (hw : w = nI o) (H : post (bs_val rd (nI o) rn vl)) :
    (w = 0 → post (nu + bs_sm rd vl 16)) ∧ (¬ w = 0 → vp_in (nI f) 16 ∧ ((w = 1 → post (nu + bs_mx (vl a) rd vl 16)) ∧ (¬ w = 1 → vp_in (nI f) 16 ∧ ((w = 2 → post (nu + bs_mn (vl a) rd vl 16)) ∧ (¬ w = 2 → post (nu + bs_up rd vl 16)))))) := by
  have vf := bs_vi hf
  subst hn hw
  rw [bs_mxE ha hb, bs_mnE ha hb, Int32.add_comm rn, Int32.add_comm rn, Int32.add_comm rn, Int32.add_comm rn]
  unfold bs_val at H
  rw [if_neg hz] at H
  obtain rfl | rfl | rfl | rfl : o = 0 ∨ o = 1 ∨ o = 2 ∨ o = 3 := by omega
  · rw [if_neg (by decide), if_neg (by decide), if_neg (by decide)] at H
    exact br_t (by decide) H
  · rw [if_pos (by decide)] at H
    exact br_f (by decide) ⟨vf, br_t (by decide) H⟩
  · rw [if_neg (by decide), if_pos (by decide)] at H
    exact br_f (by decide) ⟨vf, br_f (by decide) ⟨vf, br_t (by decide) H⟩⟩
  · rw [if_neg (by decide), if_neg (by decide), if_pos (by decide)] at H
    exact br_f (by decide) ⟨vf, br_f (by decide) ⟨vf, br_f (by decide) H⟩⟩
theorem ys_resL {post : Int32 → Prop} {ch df : Int32} {op on tw nm oc oo oa ob ov kn vl kt vt : Nat → Int32} {rd ro rn : Int32} {f o a : Nat} (hf : f < 16) (C : bs_C rd ro rn (op f) (on f) (tw f) (nm f)) (ho : o < 4) (ha : a < 16) (hb : bt rd a = true) (hz : rd ≠ 0) (hn : rn = nm f) (hw : op f = nI o) (H : post (bs_val rd (nI o) rn vl)) :
    ∀ d i : Nat, i + d = 16 → wY_result_24 post (nI f) ch df op on tw nm oc oo oa ob ov kn vl kt vt (d + 1) (bs_sm rd vl i) (bs_up rd vl i) (bs_mx (vl a) rd vl i) (bs_mn (vl a) rd vl i) (nI i) := by
  intro d
  induction d with
  | zero =>
    intro i hi
    obtain rfl : i = 16 := by omega
    refine br_t bs_16 ⟨bs_vi hf, bs_vi hf, ?_⟩
    rw [bs_cl hf]
    exact ys_fin hf ho ha hb hz hn hw H
  | succ d ih =>
    intro i hi
    have hl : i < 16 := by omega
    have hx := ih (i + 1) (by omega)
    refine br_f (bs_n16 hl) (ys_reads hf hl C (fun b => br_f bs_n10 ⟨bs_vi hl, ?_⟩) (fun b => br_t rfl (nm_r (nI_1 i) ?_)))
    · rw [bs_cl hl]
      refine nm_r (bs_smT b) ⟨bs_vi hl, ?_⟩
      by_cases g : vl i ≤ 0
      · exact br_t g (ys_r67 hl b (by rw [Int32.add_zero]; exact bs_upL g) hx)
      · exact br_f g (ys_r67 hl b (bs_upT b g) hx)
    · rw [← bs_smF b, ← bs_upF b, ← bs_mxF b, ← bs_mnF b] at hx
      exact hx
theorem ys_res {post : Int32 → Prop} {ch df : Int32} {op on tw nm oc oo oa ob ov kn vl kt vt : Nat → Int32} {rd ro rn : Int32} {f : Nat} (hf : f < 16) (C : bs_C rd ro rn (op f) (on f) (tw f) (nm f)) (hz : rd ≠ 0) (H : post (bs_val rd ro rn vl)) : wpY_result post (ch, df, op, on, tw, nm, oc, oo, oa, ob, ov, kn, vl, kt, vt) (nI f) := by
  have C' := C
  obtain ⟨e0, ⟨e, z⟩ | ⟨o, a, b, ho, ha, hb, e1, e2, e3, e4, e5⟩⟩ := C'
  · exact absurd z hz
  · unfold wpY_result
    rw [bs_cl hf]
    refine ⟨bs_vi hf, ?_⟩
    rw [e3]
    refine ⟨bs_vi ha, ?_⟩
    rw [bs_cl ha]
    rw [e2] at H
    exact nm_e ⟨17, ys_resL hf C ho ha (by rw [e5, bs_mk16 _ ha, bs_inC]) hz e0 e1 H 16 0 rfl⟩
