theorem bs_16 : (16 : Int32) ≤ nI 16 := by decide
theorem bs_n16 {i : Nat} (h : i < 16) : ¬ (16 : Int32) ≤ nI i := nI_ge (b := 16) h (by decide)
theorem bs_cl {i : Nat} (h : i < 16) : (nI i).toNatClampNeg = i := nI_clamp (by omega)
theorem bs_vi {i : Nat} (h : i < 16) : vp_in (nI i) 16 := vp_in_nI h (by decide)
theorem pk_lt {x y : Int32} {A B : Prop} (a b : Nat) (f : a < b → A) (g : b ≤ a → B) (hx : x = nI a := by rfl) (hy : y = nI b := by rfl) (ha : a < 2 ^ 31 := by omega) (hb : b < 2 ^ 31 := by omega) : (x < y → A) ∧ (¬ x < y → B) := by
  subst hx hy
  rw [nI_ltI ha hb]
  exact ⟨f, fun z => g (by omega)⟩
/-- a cell's number -/
def bs_cell (p : Int32) : Prop := ∃ i : Nat, i < 16 ∧ p = nI i
theorem bs_cellN {p : Int32} (h : ¬ bs_cell p) (h0 : ¬ p < 0) : (16 : Int32) ≤ p := by
  obtain ⟨j, hj, rfl⟩ := nI_of h0
  by_cases z : j < 16
  · exact absurd ⟨j, z, rfl⟩ h
  · exact nI_le (a := 16) (by omega) hj
theorem xs_cellT {post : Int32 → Prop} {i : Nat} (hi : i < 16) (h : post 1) : wpX_isCell post (nI i) :=
  br_f (nI_pos (by omega)) (br_f (bs_n16 hi) h)
theorem xs_cellF {post : Int32 → Prop} {p : Int32} (hp : ¬ bs_cell p) (h : post 0) : wpX_isCell post p :=
  br_c (fun _ => h) (fun z => br_t (bs_cellN hp z) h)
theorem xs_bw {post : Int32 → Prop} {x p q : Nat} (hx : x < 16) (hp : p < 16) (hq : q < 16) (h1 : bs_bw x p q = true → post 1) (h0 : bs_bw x p q = false → post 0) : wpX_isBetween post (nI x) (nI p) (nI q) := by
  unfold bs_bw at h1 h0
  refine pk_lt q p (fun a => ?_) (fun a => ?_)
  · rw [if_pos a] at h1 h0
    refine pk_lt x q (fun b => h0 ?_) (fun b => pk_lt p x (fun e => h0 ?_) (fun e => h1 ?_))
    · rw [decide_eq_false (show ¬ q ≤ x by omega)]; rfl
    · rw [decide_eq_false (show ¬ x ≤ p by omega), Bool.and_false]
    · rw [decide_eq_true (show q ≤ x by omega), decide_eq_true (show x ≤ p by omega)]; rfl
  · rw [if_neg (show ¬ q < p by omega)] at h1 h0
    refine pk_lt x p (fun b => h0 ?_) (fun b => pk_lt q x (fun e => h0 ?_) (fun e => h1 ?_))
    · rw [decide_eq_false (show ¬ p ≤ x by omega)]; rfl
    · rw [decide_eq_false (show ¬ x ≤ q by omega), Bool.and_false]
    · rw [decide_eq_true (show p ≤ x by omega), decide_eq_true (show x ≤ q by omega)]; rfl
theorem bs_d4 : ∀ i, i < 16 → nI i / 4 = nI (i / 4) := by decide +kernel
theorem bs_r4 : ∀ i, i < 16 → nI i - nI i / 4 * 4 = nI (i % 4) := by decide +kernel
theorem bs_n40 : ¬ (4 : Int32) = 0 := by decide
theorem bs_n10 : ¬ (1 : Int32) = 0 := by decide
theorem xs_rectL {post : Int32 → Prop} {a b : Nat} (ha : a < 16) (hb : b < 16) (h : post (bs_mk (bs_in a b) 16)) : ∀ d i : Nat, i + d = 16 → wX_rectangleOf_4 post (nI a) (nI b) (d + 1) (bs_mk (bs_in a b) i) (nI i) := by
  intro d
  induction d with
  | zero =>
    intro i hi
    obtain rfl : i = 16 := by omega
    exact br_t bs_16 h
  | succ d ih =>
    intro i hi
    have hl : i < 16 := by omega
    have hn := ih (i + 1) (by omega)
    refine br_f (bs_n16 hl) ⟨bs_n40, bs_n40, bs_n40, ?_⟩
    rw [bs_r4 i hl, bs_r4 a ha, bs_r4 b hb, bs_d4 i hl, bs_d4 a ha, bs_d4 b hb]
    refine xs_bw (by omega) (by omega) (by omega) (fun p1 => br_f bs_n10 ⟨bs_n40, bs_n40, bs_n40, ?_⟩) (fun p0 => br_t rfl (nm_r (nI_1 i) ?_))
    · refine xs_bw (by omega) (by omega) (by omega) (fun q1 => br_f bs_n10 ?_) (fun q0 => br_t rfl (nm_r (nI_1 i) ?_))
      · exact nm_r (bs_mkT (p := bs_in a b) (by unfold bs_in; rw [p1, q1]; rfl)).symm (nm_r (nI_1 i) hn)
      · rw [bs_mkF (p := bs_in a b) (by unfold bs_in; rw [q0, Bool.and_false])] at hn
        exact hn
    · rw [bs_mkF (p := bs_in a b) (by unfold bs_in; rw [p0, Bool.false_and])] at hn
      exact hn
theorem xs_rect {post : Int32 → Prop} {a b : Nat} (ha : a < 16) (hb : b < 16) (h : post (bs_mk (bs_in a b) 16)) : wpX_rectangleOf post (nI a) (nI b) :=
  ⟨17, xs_rectL ha hb h 16 0 rfl⟩
theorem xs_sumL {post : Int32 → Prop} {x : Int32} {B T c : Int32} {R O N V VB pc pr po pn : Nat → Int32} (h : post (bs_sm x V 16)) : ∀ d i : Nat, i + d = 16 → wX_sumOf_4 post x B T c R O N V VB pc pr po pn (d + 1) (bs_sm x V i) (nI i) := by
  intro d
  induction d with
  | zero =>
    intro i hi
    obtain rfl : i = 16 := by omega
    exact br_t bs_16 h
  | succ d ih =>
    intro i hi
    have hl : i < 16 := by omega
    have hn := ih (i + 1) (by omega)
    refine br_f (bs_n16 hl) ?_
    cases z : bt x i
    · rw [← bs_smF z] at hn
      exact br_t (bs_bit0 hl z) (nm_r (nI_1 i) hn)
    · refine br_f (bs_bit1 hl z) ⟨bs_vi hl, ?_⟩
      rw [bs_cl hl]
      exact nm_r (bs_smT z) (nm_r (nI_1 i) hn)
theorem xs_sum {post : Int32 → Prop} {x : Int32} {B T c : Int32} {R O N V VB pc pr po pn : Nat → Int32} (h : post (bs_sm x V 16)) : wpX_sumOf post (B, T, c, R, O, N, V, VB, pc, pr, po, pn) x :=
  ⟨17, xs_sumL h 16 0 rfl⟩
theorem xs_greL {post : Int32 → Prop} {x : Int32} {B T c : Int32} {R O N V VB pc pr po pn : Nat → Int32} (h : post (bs_mx (-2147483648) x V 16)) : ∀ d i : Nat, i + d = 16 → wX_greatestOf_5 post x B T c R O N V VB pc pr po pn (d + 1) (bs_mx (-2147483648) x V i) (nI i) := by
  intro d
  induction d with
  | zero =>
    intro i hi
    obtain rfl : i = 16 := by omega
    exact br_t bs_16 h
  | succ d ih =>
    intro i hi
    have hl : i < 16 := by omega
    have hn := ih (i + 1) (by omega)
    refine br_f (bs_n16 hl) ?_
    cases z : bt x i
    · rw [← bs_mxF z] at hn
      exact br_t (bs_bit0 hl z) (nm_r (nI_1 i) hn)
    · refine br_f (bs_bit1 hl z) ⟨bs_vi hl, ?_⟩
      rw [bs_cl hl]
      by_cases g : V i ≤ bs_mx (-2147483648) x V i
      · rw [← bs_mxL g] at hn
        exact br_t g (nm_r (nI_1 i) hn)
      · exact br_f g ⟨bs_vi hl, nm_r (bs_mxT z g) (nm_r (nI_1 i) hn)⟩
theorem xs_gre {post : Int32 → Prop} {x : Int32} {B T c : Int32} {R O N V VB pc pr po pn : Nat → Int32} (h : post (bs_mx (-2147483648) x V 16)) : wpX_greatestOf post (B, T, c, R, O, N, V, VB, pc, pr, po, pn) x :=
  ⟨17, xs_greL h 16 0 rfl⟩
theorem xs_leaL {post : Int32 → Prop} {x : Int32} {B T c : Int32} {R O N V VB pc pr po pn : Nat → Int32} (h : post (bs_mn 2147483647 x V 16)) : ∀ d i : Nat, i + d = 16 → wX_leastOf_5 post x B T c R O N V VB pc pr po pn (d + 1) (bs_mn 2147483647 x V i) (nI i) := by
  intro d
  induction d with
  | zero =>
    intro i hi
    obtain rfl : i = 16 := by omega
    exact br_t bs_16 h
  | succ d ih =>
    intro i hi
    have hl : i < 16 := by omega
    have hn := ih (i + 1) (by omega)
    refine br_f (bs_n16 hl) ?_
    cases z : bt x i
    · rw [← bs_mnF z] at hn
      exact br_t (bs_bit0 hl z) (nm_r (nI_1 i) hn)
    · refine br_f (bs_bit1 hl z) ⟨bs_vi hl, ?_⟩
      rw [bs_cl hl]
      by_cases g : bs_mn 2147483647 x V i ≤ V i
      · rw [← bs_mnL g] at hn
        exact br_t g (nm_r (nI_1 i) hn)
      · exact br_f g ⟨bs_vi hl, nm_r (bs_mnT z g) (nm_r (nI_1 i) hn)⟩
theorem xs_lea {post : Int32 → Prop} {x : Int32} {B T c : Int32} {R O N V VB pc pr po pn : Nat → Int32} (h : post (bs_mn 2147483647 x V 16)) : wpX_leastOf post (B, T, c, R, O, N, V, VB, pc, pr, po, pn) x :=
  ⟨17, xs_leaL h 16 0 rfl⟩
theorem xs_upL {post : Int32 → Prop} {x : Int32} {B T c : Int32} {R O N V VB pc pr po pn : Nat → Int32} (h : post (bs_up x V 16)) : ∀ d i : Nat, i + d = 16 → wX_countAboveZero_4 post x B T c R O N V VB pc pr po pn (d + 1) (bs_up x V i) (nI i) := by
  intro d
  induction d with
  | zero =>
    intro i hi
    obtain rfl : i = 16 := by omega
    exact br_t bs_16 h
  | succ d ih =>
    intro i hi
    have hl : i < 16 := by omega
    have hn := ih (i + 1) (by omega)
    refine br_f (bs_n16 hl) ?_
    cases z : bt x i
    · rw [← bs_upF z] at hn
      exact br_t (bs_bit0 hl z) (nm_r (nI_1 i) hn)
    · refine br_f (bs_bit1 hl z) ⟨bs_vi hl, ?_⟩
      rw [bs_cl hl]
      by_cases g : V i ≤ 0
      · rw [← bs_upL g] at hn
        exact br_t g (nm_r (nI_1 i) hn)
      · exact br_f g (nm_r (bs_upT z g) (nm_r (nI_1 i) hn))
theorem xs_up {post : Int32 → Prop} {x : Int32} {B T c : Int32} {R O N V VB pc pr po pn : Nat → Int32} (h : post (bs_up x V 16)) : wpX_countAboveZero post (B, T, c, R, O, N, V, VB, pc, pr, po, pn) x :=
  ⟨17, xs_upL h 16 0 rfl⟩
theorem xs_wo {post : Int32 → Prop} {B T c : Int32} {R O N V VB pc pr po pn : Nat → Int32} {f : Nat} (hf : f < 16) (h : post (bs_val (R f) (O f) (N f) V)) : wpX_workedOut post (B, T, c, R, O, N, V, VB, pc, pr, po, pn) (nI f) := by
  have vf := bs_vi hf
  unfold wpX_workedOut
  rw [bs_cl hf]
  refine ⟨vf, ?_⟩
  unfold bs_val at h
  by_cases z : R f = 0
  · rw [if_pos z] at h
    exact br_t z ⟨vf, h⟩
  · rw [if_neg z] at h
    refine br_f z ⟨vf, nm_e ?_⟩
    by_cases o1 : O f = 1
    · rw [if_pos o1] at h
      exact br_f (by rw [o1]; decide) (br_f (by rw [o1]; decide) (br_t o1 ⟨vf, xs_gre ⟨vf, h⟩⟩))
    · rw [if_neg o1] at h
      by_cases o2 : O f = 2
      · rw [if_pos o2] at h
        exact br_f (by rw [o2]; decide) (br_f (by rw [o2]; decide) (br_f o1 (br_t o2 ⟨vf, xs_lea ⟨vf, h⟩⟩)))
      · rw [if_neg o2] at h
        by_cases o3 : O f = 3
        · rw [if_pos o3] at h
          exact br_f (by rw [o3]; decide) (br_f (by rw [o3]; decide) (br_f o1 (br_f o2 (br_t o3 ⟨vf, xs_up ⟨vf, h⟩⟩))))
        · rw [if_neg o3] at h
          exact br_c (fun _ => ⟨vf, xs_sum ⟨vf, h⟩⟩) (fun _ => br_c (fun _ => ⟨vf, xs_sum ⟨vf, h⟩⟩) (fun _ => br_f o1 (br_f o2 (br_f o3 trivial))))
theorem xs_difL {post : Int32 → Prop} {B T c : Int32} {R O N V VB pc pr po pn : Nat → Int32} (h : post (bs_mk (fun j => !decide (V j = VB j)) 16)) : ∀ d i : Nat, i + d = 16 → wX_differingValues_4 post B T c R O N V VB pc pr po pn (d + 1) (bs_mk (fun j => !decide (V j = VB j)) i) (nI i) := by
  intro d
  induction d with
  | zero =>
    intro i hi
    obtain rfl : i = 16 := by omega
    exact br_t bs_16 h
  | succ d ih =>
    intro i hi
    have hl : i < 16 := by omega
    have hn := ih (i + 1) (by omega)
    refine br_f (bs_n16 hl) ⟨bs_vi hl, bs_vi hl, ?_⟩
    rw [bs_cl hl]
    by_cases z : V i = VB i
    · rw [bs_mkF (p := fun j => !decide (V j = VB j)) (n := i) (by rw [decide_eq_true z]; rfl)] at hn
      exact br_t z (nm_r (nI_1 i) hn)
    · exact br_f z (nm_r (bs_mkT (p := fun j => !decide (V j = VB j)) (n := i) (by rw [decide_eq_false z]; rfl)).symm (nm_r (nI_1 i) hn))
theorem xs_dif {post : Int32 → Prop} {B T c : Int32} {R O N V VB pc pr po pn : Nat → Int32} (h : post (bs_mk (fun j => !decide (V j = VB j)) 16)) : wpX_differingValues post (B, T, c, R, O, N, V, VB, pc, pr, po, pn) :=
  ⟨17, xs_difL h 16 0 rfl⟩
theorem xs_rdrL {post : Int32 → Prop} {x : Int32} {B T c : Int32} {R O N V VB pc pr po pn : Nat → Int32} (h : post (bs_mk (fun j => !decide (R j &&& x = 0)) 16)) : ∀ d i : Nat, i + d = 16 → wX_readersOf_4 post x B T c R O N V VB pc pr po pn (d + 1) (bs_mk (fun j => !decide (R j &&& x = 0)) i) (nI i) := by
  intro d
  induction d with
  | zero =>
    intro i hi
    obtain rfl : i = 16 := by omega
    exact br_t bs_16 h
  | succ d ih =>
    intro i hi
    have hl : i < 16 := by omega
    have hn := ih (i + 1) (by omega)
    refine br_f (bs_n16 hl) ⟨bs_vi hl, ?_⟩
    rw [bs_cl hl]
    by_cases z : R i &&& x = 0
    · rw [bs_mkF (p := fun j => !decide (R j &&& x = 0)) (n := i) (by rw [decide_eq_true z]; rfl)] at hn
      exact br_t z (nm_r (nI_1 i) hn)
    · exact br_f z (nm_r (bs_mkT (p := fun j => !decide (R j &&& x = 0)) (n := i) (by rw [decide_eq_false z]; rfl)).symm (nm_r (nI_1 i) hn))
theorem xs_rdr {post : Int32 → Prop} {x : Int32} {B T c : Int32} {R O N V VB pc pr po pn : Nat → Int32} (h : post (bs_mk (fun j => !decide (R j &&& x = 0)) 16)) : wpX_readersOf post (B, T, c, R, O, N, V, VB, pc, pr, po, pn) x :=
  ⟨17, xs_rdrL h 16 0 rfl⟩
theorem bs_rd1 {R : Nat → Int32} {c : Nat} (hc : c < 16) : bs_mk (fun j => !decide (R j &&& ((1 : Int32) <<< (nI c &&& 31)) = 0)) 16 = bs_mk (fun j => bt (R j) c) 16 := by
  apply bs_mkE
  intro i hi
  cases z : bt (R i) c
  · rw [decide_eq_true (bs_bit0 hc z)]; rfl
  · rw [decide_eq_false (bs_bit1 hc z)]; rfl
