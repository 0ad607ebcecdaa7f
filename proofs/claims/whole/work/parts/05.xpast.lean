theorem bs_v8 {i : Nat} (h : i < 8) : vp_in (nI i) 8 := vp_in_nI h (by decide)
theorem bs_c8 {i : Nat} (h : i < 8) : (nI i).toNatClampNeg = i := nI_clamp (by omega)
/-- p' is p, one further on, below t, and p from t on -/
def bs_shf (p p' : Nat → Int32) (t : Nat) : Prop := (∀ j, j < t → p' j = p (j + 1)) ∧ ∀ j, t ≤ j → p' j = p j
theorem bs_shf0 (p : Nat → Int32) : bs_shf p p 0 := ⟨fun j hj => absurd hj (by omega), fun _ _ => rfl⟩
theorem bs_shfS {p p' : Nat → Int32} {t : Nat} (h : bs_shf p p' t) : bs_shf p (upd p' t (p' (t + 1))) (t + 1) := by
  refine ⟨fun j hj => ?_, fun j hj => ?_⟩
  · by_cases y : j = t
    · rw [y, bs_updS]; exact h.2 (t + 1) (by omega)
    · rw [bs_updN y]; exact h.1 j (by omega)
  · rw [bs_updN (by omega)]; exact h.2 j (by omega)
theorem xs_forL {post : SX → Prop} {B T c : Int32} {R O N V VB pc pr po pn : Nat → Int32}
    (H : ∀ pc' pr' po' pn' : Nat → Int32, bs_shf pc pc' 7 → bs_shf pr pr' 7 → bs_shf po po' 7 → bs_shf pn pn' 7 → post (B, T, 7, R, O, N, V, VB, pc', pr', po', pn')) :
    ∀ d i : Nat, i + d = 7 → ∀ pc' pr' po' pn' : Nat → Int32, bs_shf pc pc' i → bs_shf pr pr' i → bs_shf po po' i → bs_shf pn pn' i → wX_forgetOldest_2 post B T c (d + 1) (nI (i + 1)) R O N V VB pc' pr' po' pn' := by
  intro d
  induction d with
  | zero =>
    intro i hi pc' pr' po' pn' h1 h2 h3 h4
    obtain rfl : i = 7 := by omega
    exact br_t (by decide) (H pc' pr' po' pn' h1 h2 h3 h4)
  | succ d ih =>
    intro i hi pc' pr' po' pn' h1 h2 h3 h4
    have hl : i < 7 := by omega
    have v1 := bs_v8 (i := i + 1) (by omega)
    have v0 := bs_v8 (i := i) (by omega)
    refine br_f (nI_ge (b := 8) (by omega) (by decide)) ?_
    rw [nI_pred i, bs_c8 (i := i + 1) (by omega), bs_c8 (i := i) (by omega)]
    exact ⟨v1, v0, nm_e ⟨v1, v0, nm_e ⟨v1, v0, nm_e ⟨v1, v0, nm_e (nm_r (nI_1 (i + 1)) (ih (i + 1) (by omega) _ _ _ _ (bs_shfS h1) (bs_shfS h2) (bs_shfS h3) (bs_shfS h4)))⟩⟩⟩⟩
theorem xs_for {post : SX → Prop} {B T c : Int32} {R O N V VB pc pr po pn : Nat → Int32}
    (H : ∀ pc' pr' po' pn' : Nat → Int32, bs_shf pc pc' 7 → bs_shf pr pr' 7 → bs_shf po po' 7 → bs_shf pn pn' 7 → post (B, T, 7, R, O, N, V, VB, pc', pr', po', pn')) : wpX_forgetOldest post (B, T, c, R, O, N, V, VB, pc, pr, po, pn) :=
  ⟨8, xs_forL H 7 0 rfl pc pr po pn (bs_shf0 pc) (bs_shf0 pr) (bs_shf0 po) (bs_shf0 pn)⟩
/-- p' holds x at m, and below m what p holds, s further on -/
def bs_psh (p p' : Nat → Int32) (m s : Nat) (x : Int32) : Prop := p' m = x ∧ ∀ j, j < m → p' j = p (j + s)
/-- n changes are remembered: the next is the m-th, the others go down by s -/
def bs_ms (n m s : Nat) : Prop := (n < 8 ∧ m = n ∧ s = 0) ∨ (n = 8 ∧ m = 7 ∧ s = 1)
theorem bs_pshN (p : Nat → Int32) (m : Nat) (x : Int32) : bs_psh p (upd p m x) m 0 x := ⟨bs_updS, fun j hj => bs_updN (by omega)⟩
theorem bs_psh8 {p p' : Nat → Int32} (x : Int32) (h : bs_shf p p' 7) : bs_psh p (upd p' 7 x) 7 1 x := ⟨bs_updS, fun j hj => by rw [bs_updN (by omega)]; exact h.1 j hj⟩
theorem xs_rem13 {post : SX → Prop} {m f : Nat} {B T : Int32} {R O N V VB pc pr po pn : Nat → Int32} (hm : m < 8) (hf : f < 16)
    (H : post (B, T, nI (m + 1), R, O, N, V, VB, upd pc m (nI f), upd pr m (R f), upd po m (O f), upd pn m (N f))) : wX_remember_13 post (nI f) B T (nI m) R O N V VB pc pr po pn := by
  have v8 := bs_v8 hm
  have vf := bs_vi hf
  unfold wX_remember_13
  rw [bs_c8 hm, bs_cl hf]
  exact ⟨v8, nm_e ⟨vf, v8, nm_e ⟨vf, v8, nm_e ⟨vf, v8, nm_e (nm_r (nI_1 m) H)⟩⟩⟩⟩
theorem xs_rem {post : SX → Prop} {n f : Nat} {B T : Int32} {R O N V VB pc pr po pn : Nat → Int32} (hn : n ≤ 8) (hf : f < 16)
    (H : ∀ (m s : Nat) (pc' pr' po' pn' : Nat → Int32), bs_ms n m s → bs_psh pc pc' m s (nI f) → bs_psh pr pr' m s (R f) → bs_psh po po' m s (O f) → bs_psh pn pn' m s (N f) → post (B, T, nI (m + 1), R, O, N, V, VB, pc', pr', po', pn')) :
    wpX_remember post (B, T, nI n, R, O, N, V, VB, pc, pr, po, pn) (nI f) := by
  by_cases z : n < 8
  · exact br_t (nI_lt (b := 8) z (by decide)) (xs_rem13 z hf (H n 0 _ _ _ _ (Or.inl ⟨z, rfl, rfl⟩) (bs_pshN pc n _) (bs_pshN pr n _) (bs_pshN po n _) (bs_pshN pn n _)))
  · obtain rfl : n = 8 := by omega
    exact br_f (by decide) (xs_for (fun pc' pr' po' pn' h1 h2 h3 h4 => xs_rem13 (m := 7) (by omega) hf (H 7 1 _ _ _ _ (Or.inr ⟨rfl, rfl, rfl⟩) (bs_psh8 _ h1) (bs_psh8 _ h2) (bs_psh8 _ h3) (bs_psh8 _ h4))))
theorem bs_dRd {R : Nat → Int32} {k : Nat → Bool} : bs_mk k 16 ||| bs_mk (fun j => !decide (R j &&& bs_mk k 16 = 0)) 16 = bs_mk (fun j => k j || !decide (R j &&& bs_mk k 16 = 0)) 16 := bs_mkOr k _
theorem bs_dRz {R : Nat → Int32} {k : Nat → Bool} {f : Nat} : (!decide (R f &&& bs_mk k 16 = 0)) = true ↔ ∃ j, j < 16 ∧ bt (R f) j = true ∧ k j = true := by
  constructor
  · intro h
    by_cases z : R f &&& bs_mk k 16 = 0
    · rw [decide_eq_true z] at h; exact absurd h (by decide)
    · by_cases y : ∃ j, j < 16 ∧ bt (R f) j = true ∧ k j = true
      · exact y
      · refine absurd (bs_mkZ.mpr (fun j hj hb => ?_)) z
        cases x : k j
        · rfl
        · exact absurd ⟨j, hj, hb, x⟩ y
  · rintro ⟨j, hj, hb, hk⟩
    rw [decide_eq_false (fun e => by have g := bs_mkZ.mp e j hj hb; rw [hk] at g; exact absurd g (by decide))]; rfl
theorem xs_depL {post : Int32 → Prop} {B T c : Int32} {R O N V VB pc pr po pn : Nat → Int32} {q : Nat} (H : ∀ k : Nat → Bool, bs_dD R q k → bs_dL R q k → post (bs_mk k 16)) :
    ∀ d i : Nat, i + d = 16 → ∀ k : Nat → Bool, (∀ f, f < 16 → bt (R f) q = true → k f = true) → bs_dL R q k → (i ≤ bs_cnt k 16 ∨ bs_dD R q k) → wX_dependents_19 post B T c R O N V VB pc pr po pn (d + 1) (bs_mk k 16) (nI i) := by
  intro d
  induction d with
  | zero =>
    intro i hi k hb L h
    obtain rfl : i = 16 := by omega
    exact br_t bs_16 (H k (bs_endDD h) L)
  | succ d ih =>
    intro i hi k hb L h
    have hl : i < 16 := by omega
    have L1 : bs_dL R q (fun j => k j || !decide (R j &&& bs_mk k 16 = 0)) := by
      intro k' D f hf hk
      rcases Bool.or_eq_true _ _ ▸ hk with y | y
      · exact L k' D f hf y
      · obtain ⟨j, hj, hbj, hkj⟩ := bs_dRz.mp y
        exact D f hf (Or.inr ⟨j, hj, hbj, L k' D j hj hkj⟩)
    have hm : ∀ f, f < 16 → k f = true → (fun j => k j || !decide (R j &&& bs_mk k 16 = 0)) f = true := fun f hf hk => by dsimp only; rw [hk, Bool.true_or]
    refine br_f (bs_n16 hl) (xs_rdr (nm_r bs_dRd (nm_r (nI_1 i) (ih (i + 1) (by omega) _ (fun f hf g => hm f hf (hb f hf g)) L1 (bs_rndD hm (fun f hf g => ?_) L1 h)))))
    rcases g with g | g
    · exact hm f hf (hb f hf g)
    · rw [bs_dRz.mpr g, Bool.or_true]
theorem bs_dL0 (R : Nat → Int32) (q : Nat) : bs_dL R q (fun j => bt (R j) q) := fun _ D f hf hk => D f hf (Or.inl hk)
theorem xs_dep {post : Int32 → Prop} {B T c : Int32} {R O N V VB pc pr po pn : Nat → Int32} {q : Nat} (hq : q < 16) (H : ∀ k : Nat → Bool, bs_dD R q k → bs_dL R q k → post (bs_mk k 16)) : wpX_dependents post (B, T, c, R, O, N, V, VB, pc, pr, po, pn) (nI q) := by
  unfold wpX_dependents
  refine xs_cellT hq (br_f bs_n10 (xs_rdr ?_))
  rw [bs_rd1 hq]
  exact ⟨17, xs_depL H 16 0 rfl _ (fun _ _ h => h) (bs_dL0 R q) (Or.inl (Nat.zero_le _))⟩
