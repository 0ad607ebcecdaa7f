/-- the remembered changes, at X and at Y -/
def bs_P (n : Nat) (pc pr po pn oc oo oa ob ov : Nat → Int32) : Prop := ∀ j, j < n → (∃ q : Nat, q < 16 ∧ pc j = nI q ∧ oc j = nI q) ∧ bs_C (pr j) (po j) (pn j) (oo j) (oa j) (ob j) (ov j)
/-- the same contents, the same past, one touched set; X's broken set and values are the settled sheet's -/
def i_Rel (_ : Nat) (u : SX) (v : SY) : Prop := match u, v with
  | (B, T, c, R, O, N, V, VB, pc, pr, po, pn), (ch, df, op, on, tw, nm, oc, oo, oa, ob, ov, kn, vl, kt, vt) => T = df ∧ bs_CC R O N op on tw nm ∧ (∃ n : Nat, n ≤ 8 ∧ c = nI n ∧ ch = nI n ∧ bs_P n pc pr po pn oc oo oa ob ov) ∧ ∃ g : Nat → Bool, B = (bs_mk (fun j => !g j) 16) ∧ bs_W R O N g V
theorem i_up {k : Nat} {u : SX} {v : SY} (h : i_Rel k u v) : i_Rel (k + 5) u v := h
theorem bs_relI {k n : Nat} {g : Nat → Bool} {T : Int32} {R O N V VB pc pr po pn : Nat → Int32} {df : Int32} {op on tw nm oc oo oa ob ov kn vl kt vt : Nat → Int32} (hT : T = df) (C : bs_CC R O N op on tw nm) (hn : n ≤ 8) (P : bs_P n pc pr po pn oc oo oa ob ov) (W : bs_W R O N g V) : i_Rel k ((bs_mk (fun j => !g j) 16), T, nI n, R, O, N, V, VB, pc, pr, po, pn) (nI n, df, op, on, tw, nm, oc, oo, oa, ob, ov, kn, vl, kt, vt) :=
  ⟨hT, C, ⟨n, hn, rfl, rfl, P⟩, g, rfl, W⟩
theorem bs_msU {n m s m' s' : Nat} (h : bs_ms n m s) (h' : bs_ms n m' s') : m = m' ∧ s = s' := by
  unfold bs_ms at h h'
  omega
theorem bs_msL {n m s : Nat} (h : bs_ms n m s) : m + 1 ≤ 8 ∧ ∀ j, j < m → j + s < n := by
  unfold bs_ms at h
  exact ⟨by omega, fun j hj => by omega⟩
theorem bs_tq (a b : Bool) (x y : Int32) : ((!b ^^ !a) || !decide (x = y)) = !(decide (a = b) && decide (x = y)) := by
  by_cases h : x = y
  · rw [decide_eq_true h]; cases a <;> cases b <;> rfl
  · rw [decide_eq_false h]; cases a <;> cases b <;> rfl
theorem bs_touch {R O N R' O' N' V v0 V' v1 : Nat → Int32} {g g0 g' g1 : Nat → Bool} (W : bs_W R O N g V) (W0 : bs_W R O N g0 v0) (W' : bs_W R' O' N' g' V') (W1 : bs_W R' O' N' g1 v1) :
    ((bs_mk (fun j => !g j) 16) ^^^ (bs_mk (fun j => !g' j) 16)) ||| bs_mk (fun j => !decide (V' j = V j)) 16 = bs_mk (bs_dfr g1 g0 v1 v0) 16 := by
  rw [bs_mkXor, bs_mkOr]
  apply bs_mkE
  intro i hi
  obtain ⟨a, b⟩ := bs_uniq W W0 i hi
  obtain ⟨d, e⟩ := bs_uniq W' W1 i hi
  unfold bs_dfr
  rw [a, b, d, e]
  exact bs_tq _ _ _ _
theorem bs_upC {R O N op on tw nm : Nat → Int32} {rd ro rn p1 p2 p3 p4 : Int32} {f : Nat} (C : bs_CC R O N op on tw nm) (h : bs_C rd ro rn p1 p2 p3 p4) :
    bs_CC (upd R f rd) (upd O f ro) (upd N f rn) (upd op f p1) (upd on f p2) (upd tw f p3) (upd nm f p4) := by
  intro j hj
  by_cases y : j = f
  · rw [y, bs_updS, bs_updS, bs_updS, bs_updS, bs_updS, bs_updS, bs_updS]; exact h
  · rw [bs_updN y, bs_updN y, bs_updN y, bs_updN y, bs_updN y, bs_updN y, bs_updN y]; exact C j hj
theorem bs_Pn {n m s f : Nat} {pc pr po pn oc oo oa ob ov pc' pr' po' pn' oc' oo' oa' ob' ov' : Nat → Int32} {rd ro rn p1 p2 p3 p4 : Int32} (P : bs_P n pc pr po pn oc oo oa ob ov) (hm : bs_ms n m s) (hf : f < 16)
    (h1 : bs_psh pc pc' m s (nI f)) (h2 : bs_psh pr pr' m s rd) (h3 : bs_psh po po' m s ro) (h4 : bs_psh pn pn' m s rn)
    (y1 : bs_psh oc oc' m s (nI f)) (y2 : bs_psh oo oo' m s p1) (y3 : bs_psh oa oa' m s p2) (y4 : bs_psh ob ob' m s p3) (y5 : bs_psh ov ov' m s p4) (C : bs_C rd ro rn p1 p2 p3 p4) :
    bs_P (m + 1) pc' pr' po' pn' oc' oo' oa' ob' ov' := by
  intro j hj
  by_cases y : j = m
  · subst y
    rw [h1.1, h2.1, h3.1, h4.1, y1.1, y2.1, y3.1, y4.1, y5.1]
    exact ⟨⟨f, hf, rfl, rfl⟩, C⟩
  · have l : j < m := by omega
    rw [h1.2 j l, h2.2 j l, h3.2 j l, h4.2 j l, y1.2 j l, y2.2 j l, y3.2 j l, y4.2 j l, y5.2 j l]
    exact P (j + s) ((bs_msL hm).2 j l)
theorem ys_chg {post : SY → Prop} {k n m s f : Nat} {g g' : Nat → Bool} {rd ro rn p1 p2 p3 p4 : Int32} {R O N V VB pc pr po pn : Nat → Int32} {df : Int32} {op on tw nm oc oo oa ob ov kn vl kt vt : Nat → Int32} {pc' pr' po' pn' V' : Nat → Int32} (hn : n ≤ 8) (hf : f < 16) (C : bs_CC R O N op on tw nm) (P : bs_P n pc pr po pn oc oo oa ob ov) (W : bs_W R O N g V)
    (hm : bs_ms n m s) (h1 : bs_psh pc pc' m s (nI f)) (h2 : bs_psh pr pr' m s (R f)) (h3 : bs_psh po po' m s (O f)) (h4 : bs_psh pn pn' m s (N f)) (D : bs_C rd ro rn p1 p2 p3 p4) (W' : bs_W (upd R f rd) (upd O f ro) (upd N f rn) g' V')
    (H : ∀ v' : SY, i_Rel k ((bs_mk (fun j => !g' j) 16), ((bs_mk (fun j => !g j) 16) ^^^ (bs_mk (fun j => !g' j) 16)) ||| bs_mk (fun j => !decide (V' j = V j)) 16, nI (m + 1), upd R f rd, upd O f ro, upd N f rn, V', VB, pc', pr', po', pn') v' → post v') : wpY_change post (nI n, df, op, on, tw, nm, oc, oo, oa, ob, ov, kn, vl, kt, vt) (nI f) p1 p2 p3 p4 := by
  refine ys_change hn hf C (bs_upC C D) (fun m' s' oc' oo' oa' ob' ov' k0 k1 v0 kn' vl' kt' vt' hm' y1 y2 y3 y4 y5 W0 W1 => ?_)
  obtain ⟨rfl, rfl⟩ := bs_msU hm hm'
  refine H _ ?_
  exact bs_relI (bs_touch W W0 W' W1) (bs_upC C D) (bs_msL hm).1 (bs_Pn P hm hf h1 h2 h3 h4 y1 y2 y3 y4 y5 (C f hf)) W'
theorem ys_ini {post : SY → Prop} {ch df : Int32} {on tw nm oc oo oa ob ov kn vl kt vt : Nat → Int32} (H : ∀ op : Nat → Int32, (∀ j, j < 16 → op j = -1) → post (ch, df, op, on, tw, nm, oc, oo, oa, ob, ov, kn, vl, kt, vt)) : ∀ d i : Nat, i + d = 16 → ∀ op : Nat → Int32, (∀ j, j < i → op j = -1) → wY_init_110 post ch df (d + 1) (nI i) op on tw nm oc oo oa ob ov kn vl kt vt := by
  intro d
  induction d with
  | zero =>
    intro i hi op h
    obtain rfl : i = 16 := by omega
    exact br_t bs_16 (H op h)
  | succ d ih =>
    intro i hi op h
    have hl : i < 16 := by omega
    refine br_f (bs_n16 hl) ⟨bs_vi hl, ?_⟩
    rw [bs_cl hl]
    refine nm_e (nm_r (nI_1 i) (ih (i + 1) (by omega) _ (fun j hj => ?_)))
    by_cases y : j = i
    · rw [y, bs_updS]
    · rw [bs_updN y]; exact h j (by omega)
theorem bs_W0 : bs_W (fun _ => 0) (fun _ => 0) (fun _ => 0) (fun _ => true) (fun _ => 0) := by
  have r : ∀ (q : Nat → Bool) (i : Nat), bs_rdy (fun _ => 0) q i := fun q i j hj hb => by
    have e : bt (0 : Int32) j = true := hb
    rw [b_0] at e; exact absurd e (by decide)
  refine ⟨fun i hi _ => ⟨r _ i, rfl⟩, fun k' v' D S i hi _ => ?_, fun _ _ _ => rfl, fun i hi h => Bool.noConfusion (show true = false from h)⟩
  have g : k' i = true := D i hi (r k' i)
  exact ⟨g, (S i hi g).2⟩
theorem i_vc0 : wpX_init (fun u => wpY_init (fun v => i_Rel 0 u v)) := by
  unfold wpX_init wpY_init
  refine ⟨17, ys_ini (fun op h => ?_) 16 0 rfl (fun _ => 0) (fun j hj => absurd hj (by omega))⟩
  exact ⟨rfl, fun f hf => ⟨rfl, Or.inl ⟨h f hf, rfl⟩⟩, ⟨0, by omega, rfl, rfl, fun j hj => absurd hj (by omega)⟩, fun _ => true, by decide +kernel, bs_W0⟩
