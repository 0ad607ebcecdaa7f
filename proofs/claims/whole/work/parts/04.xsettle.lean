theorem bs_opn {k : Nat → Bool} {i : Nat} (hi : i < 16) (h : k i = true) : bt (bs_mk (fun j => !k j) 16) i = false := by
  rw [bs_mk16 _ hi, h]; rfl
theorem bs_cls {k : Nat → Bool} {i : Nat} (hi : i < 16) (h : k i = false) : bt (bs_mk (fun j => !k j) 16) i = true := by
  rw [bs_mk16 _ hi, h]; rfl
theorem bs_clr (k : Nat → Bool) {i : Nat} (hi : i < 16) : (bs_mk (fun j => !k j) 16) &&& (((1 : Int32) <<< (nI i &&& 31)) ^^^ (-1)) = bs_mk (fun j => !bs_set k i j) 16 := by
  rw [bs_mkClr _ hi]
  apply bs_mkE
  intro j _
  unfold bs_set
  rw [Bool.not_or]
theorem bs_rdyZ {R : Nat → Int32} {k : Nat → Bool} {i : Nat} : R i &&& (bs_mk (fun j => !k j) 16) = 0 ↔ bs_rdy R k i := by
  rw [bs_mkZ]
  constructor
  · intro h j hj hb
    have e := h j hj hb
    cases z : k j
    · rw [z] at e; exact absurd e (by decide)
    · rfl
  · intro h j hj hb
    rw [h j hj hb]; rfl
theorem xs_inner {post : SX → Prop} {J5 : Int32 → Int32 → (Nat → Int32) → (Nat → Int32) → (Nat → Int32) → (Nat → Int32) → (Nat → Int32) → (Nat → Int32) → (Nat → Int32) → (Nat → Int32) → (Nat → Int32) → Prop} {x2 : Int32} {B T c : Int32} {R O N V VB pc pr po pn : Nat → Int32} {k0 : Nat → Bool}
    (H : ∀ (k : Nat → Bool) (V : Nat → Int32), (∀ i, i < 16 → k0 i = true → k i = true) → (∀ q, q < 16 → bs_rdy R k0 q → k q = true) → bs_S R O N k V → bs_L R O N k V → J5 (bs_mk (fun j => !k j) 16) (x2 + 1) R O N V VB pc pr po pn) :
    ∀ d i : Nat, i + d = 16 → ∀ (k : Nat → Bool) (V : Nat → Int32), (∀ i, i < 16 → k0 i = true → k i = true) → (∀ q, q < i → bs_rdy R k0 q → k q = true) → bs_S R O N k V → bs_L R O N k V → wX_settle_13 post J5 x2 B T c (d + 1) (bs_mk (fun j => !k j) 16) (nI i) R O N V VB pc pr po pn := by
  intro d
  induction d with
  | zero =>
    intro i hi k V hm hF S L
    obtain rfl : i = 16 := by omega
    exact br_t bs_16 (nm_e (H k V hm hF S L))
  | succ d ih =>
    intro i hi k V hm hF S L
    have hl : i < 16 := by omega
    refine br_f (bs_n16 hl) ?_
    cases z : k i
    · refine br_f (bs_bit1 hl (bs_cls hl z)) ⟨bs_vi hl, ?_⟩
      rw [bs_cl hl]
      by_cases q : bs_rdy R k i
      · refine br_t (bs_rdyZ.mpr q) (xs_wo hl ⟨bs_vi hl, nm_e (nm_r (bs_clr k hl) (nm_r (nI_1 i) ?_))⟩)
        refine ih (i + 1) (by omega) (bs_set k i) _ (fun j hj h => bs_setM (hm j hj h)) (fun j hj hr => ?_) (bs_stS S z q) (bs_stL L hl q)
        by_cases y : j = i
        · rw [y]; exact bs_setS
        · exact bs_setM (hF j (by omega) hr)
      · refine br_f (fun e => q (bs_rdyZ.mp e)) (nm_r (nI_1 i) (ih (i + 1) (by omega) k V hm (fun j hj hr => ?_) S L))
        by_cases y : j = i
        · rw [y] at hr; exact absurd (bs_rdyM k0 k i hm hr) q
        · exact hF j (by omega) hr
    · refine br_t (bs_bit0 hl (bs_opn hl z)) (nm_r (nI_1 i) (ih (i + 1) (by omega) k V hm (fun j hj hr => ?_) S L))
      by_cases y : j = i
      · rw [y]; exact z
      · exact hF j (by omega) hr
theorem xs_outer {post : SX → Prop} {B T c : Int32} {R O N V VB pc pr po pn : Nat → Int32}
    (H : ∀ (k : Nat → Bool) (V : Nat → Int32), bs_S R O N k V → bs_L R O N k V → bs_D R k → ∃ n : Nat, wX_settle_76 post (bs_mk (fun j => !k j) 16) (bs_mk (fun j => !k j) 16) T c n 0 R O N V VB pc pr po pn) :
    ∀ d i : Nat, i + d = 16 → ∀ (k : Nat → Bool) (V : Nat → Int32), bs_S R O N k V → bs_L R O N k V → (i ≤ bs_cnt k 16 ∨ bs_D R k) → wX_settle_5 post B T c (d + 1) (bs_mk (fun j => !k j) 16) (nI i) R O N V VB pc pr po pn := by
  intro d
  induction d with
  | zero =>
    intro i hi k V S L h
    obtain rfl : i = 16 := by omega
    exact br_t bs_16 (H k V S L (bs_endD h))
  | succ d ih =>
    intro i hi k V S L h
    have hl : i < 16 := by omega
    refine br_f (bs_n16 hl) ⟨17, xs_inner (V := V) (k0 := k) (fun k1 V1 hm hF S1 L1 => ?_) 16 0 rfl k V (fun _ _ h => h) (fun q hq => absurd hq (by omega)) S L⟩
    rw [nI_1 i]
    exact ih (i + 1) (by omega) k1 V1 S1 L1 (bs_rndS hm hF S L1 h)
theorem xs_zero {post : SX → Prop} {B T c : Int32} {R O N V VB pc pr po pn : Nat → Int32} {k : Nat → Bool} {V0 : Nat → Int32}
    (H : ∀ V : Nat → Int32, (∀ j, j < 16 → k j = true → V j = V0 j) → (∀ j, j < 16 → k j = false → V j = 0) → post (B, T, c, R, O, N, V, VB, pc, pr, po, pn)) :
    ∀ d i : Nat, i + d = 16 → ∀ V : Nat → Int32, (∀ j, j < 16 → k j = true → V j = V0 j) → (∀ j, j < i → k j = false → V j = 0) → wX_settle_76 post (bs_mk (fun j => !k j) 16) B T c (d + 1) (nI i) R O N V VB pc pr po pn := by
  intro d
  induction d with
  | zero =>
    intro i hi V h1 h0
    obtain rfl : i = 16 := by omega
    exact br_t bs_16 (H V h1 h0)
  | succ d ih =>
    intro i hi V h1 h0
    have hl : i < 16 := by omega
    refine br_f (bs_n16 hl) ?_
    cases z : k i
    · refine br_f (bs_bit1 hl (bs_cls hl z)) ⟨bs_vi hl, ?_⟩
      rw [bs_cl hl]
      refine nm_e (nm_r (nI_1 i) (ih (i + 1) (by omega) _ (fun j hj hk => ?_) (fun j hj hk => ?_)))
      · by_cases y : j = i
        · rw [y, z] at hk; exact absurd hk (by decide)
        · rw [bs_updN y]; exact h1 j hj hk
      · by_cases y : j = i
        · rw [y]; exact bs_updS
        · rw [bs_updN y]; exact h0 j (by omega) hk
    · refine br_t (bs_bit0 hl (bs_opn hl z)) (nm_r (nI_1 i) (ih (i + 1) (by omega) V h1 (fun j hj hk => ?_)))
      by_cases y : j = i
      · rw [y, z] at hk; exact absurd hk (by decide)
      · exact h0 j (by omega) hk
theorem xs_settle {post : SX → Prop} {B T c : Int32} {R O N V VB pc pr po pn : Nat → Int32}
    (H : ∀ (k : Nat → Bool) (V : Nat → Int32), bs_W R O N k V → post ((bs_mk (fun j => !k j) 16), T, c, R, O, N, V, VB, pc, pr, po, pn)) : wpX_settle post (B, T, c, R, O, N, V, VB, pc, pr, po, pn) := by
  have e : ∀ (k : Nat → Bool) (V : Nat → Int32), bs_S R O N k V → bs_L R O N k V → bs_D R k → ∃ n : Nat, wX_settle_76 post (bs_mk (fun j => !k j) 16) (bs_mk (fun j => !k j) 16) T c n 0 R O N V VB pc pr po pn := fun k V0 S L D =>
    ⟨17, xs_zero (B := (bs_mk (fun j => !k j) 16)) (V := V0) (V0 := V0) (fun V h1 h0 => H k V ⟨bs_cS S h1, bs_cL L h1, D, h0⟩) 16 0 rfl V0 (fun _ _ _ => rfl) (fun q hq => absurd hq (by omega))⟩
  have h := xs_outer (B := B) (V := V) e 16 0 rfl (fun _ => false) V (fun i hi hk => absurd hk Bool.false_ne_true) (fun k' v' _ _ i hi hk => absurd hk Bool.false_ne_true) (Or.inl (Nat.zero_le _))
  have m : bs_mk (fun j => !(fun _ : Nat => false) j) 16 = (65535 : Int32) := bs_mkAll.symm
  rw [m] at h
  exact ⟨17, h⟩
theorem xs_holdL {post : SX → Prop} {x2 x3 x4 x5 : Int32} {B T c : Int32} {R O N V VB pc pr po pn : Nat → Int32} {f : Nat} (hf : f < 16)
    (H : ∀ (VB : Nat → Int32) (k : Nat → Bool) (V' : Nat → Int32), bs_W (upd R f x2) (upd O f x3) (upd N f x4) k V' → post ((bs_mk (fun j => !k j) 16), (x5 ^^^ (bs_mk (fun j => !k j) 16)) ||| bs_mk (fun j => !decide (V' j = V j)) 16, c, upd R f x2, upd O f x3, upd N f x4, V', VB, pc, pr, po, pn)) :
    ∀ d i : Nat, i + d = 16 → ∀ VB : Nat → Int32, (∀ j, j < i → VB j = V j) → wX_hold_9 post (nI f) x2 x3 x4 x5 B T c (d + 1) (nI i) R O N V VB pc pr po pn := by
  intro d
  induction d with
  | zero =>
    intro i hi VB hv
    obtain rfl : i = 16 := by omega
    have vf := bs_vi hf
    refine br_t bs_16 ⟨vf, ?_⟩
    rw [bs_cl hf]
    refine nm_e ⟨vf, nm_e ⟨vf, nm_e (xs_settle (fun k V' W => xs_dif (nm_e ?_)))⟩⟩
    have e : bs_mk (fun j => !decide (V' j = VB j)) 16 = bs_mk (fun j => !decide (V' j = V j)) 16 := bs_mkE (fun j hj => by rw [hv j hj])
    rw [e]
    exact H VB k V' W
  | succ d ih =>
    intro i hi VB hv
    have hl : i < 16 := by omega
    refine br_f (bs_n16 hl) ⟨bs_vi hl, bs_vi hl, ?_⟩
    rw [bs_cl hl]
    refine nm_e (nm_r (nI_1 i) (ih (i + 1) (by omega) _ (fun j hj => ?_)))
    by_cases y : j = i
    · rw [y, bs_updS]
    · rw [bs_updN y]; exact hv j (by omega)
theorem xs_hold {post : SX → Prop} {x2 x3 x4 : Int32} {B T c : Int32} {R O N V VB pc pr po pn : Nat → Int32} {f : Nat} (hf : f < 16)
    (H : ∀ (VB : Nat → Int32) (k : Nat → Bool) (V' : Nat → Int32), bs_W (upd R f x2) (upd O f x3) (upd N f x4) k V' → post ((bs_mk (fun j => !k j) 16), (B ^^^ (bs_mk (fun j => !k j) 16)) ||| bs_mk (fun j => !decide (V' j = V j)) 16, c, upd R f x2, upd O f x3, upd N f x4, V', VB, pc, pr, po, pn)) :
    wpX_hold post (B, T, c, R, O, N, V, VB, pc, pr, po, pn) (nI f) x2 x3 x4 :=
  ⟨17, xs_holdL (VB := VB) hf H 16 0 rfl VB (fun j hj => absurd hj (by omega))⟩
