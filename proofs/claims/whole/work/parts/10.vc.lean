theorem i_vc_put {k : Nat} {u : SX} {v : SY} (I : i_Rel k u v) (hk : k + 5 ≤ 2560) (v1 : Int32) (v2 : Int32) : wpX_put (fun r u' => wpY_put (fun r' v' => r' = r ∧ i_Rel (k + 5) u' v') v v1 v2) u v1 v2 := by
  have I0 := I
  obtain ⟨B, T, c, R, O, N, V, VB, pc, pr, po, pn⟩ := u
  obtain ⟨ch, df, op, on, tw, nm, oc, oo, oa, ob, ov, kn, vl, kt, vt⟩ := v
  obtain ⟨rfl, C, ⟨n, hn, rfl, rfl, P⟩, g, rfl, W⟩ := I
  by_cases hc : bs_cell v1
  · obtain ⟨f, hf, rfl⟩ := hc
    unfold wpX_put
    refine xs_cellT hf (br_f bs_n10 (xs_rem hn hf (fun m s pc' pr' po' pn' hm h1 h2 h3 h4 => xs_hold hf (fun VB' g' V' W' => ?_))))
    unfold wpY_put
    refine ys_cellT hf (br_f bs_n10 ?_)
    exact ys_chg (VB := VB') hn hf C P W hm h1 h2 h3 h4 ⟨rfl, Or.inl ⟨rfl, rfl⟩⟩ W' (fun v' h => ⟨rfl, h⟩)
  · unfold wpX_put
    refine xs_cellF hc (br_t rfl ?_)
    unfold wpY_put
    exact ys_cellF hc (br_t rfl ⟨rfl, I0⟩)
theorem i_vc_formula {k : Nat} {u : SX} {v : SY} (I : i_Rel k u v) (hk : k + 5 ≤ 2560) (v1 : Int32) (v2 : Int32) (v3 : Int32) (v4 : Int32) : wpX_formula (fun r u' => wpY_formula (fun r' v' => r' = r ∧ i_Rel (k + 5) u' v') v v1 v2 v3 v4) u v1 v2 v3 v4 := by
  have I0 := I
  obtain ⟨B, T, c, R, O, N, V, VB, pc, pr, po, pn⟩ := u
  obtain ⟨ch, df, op, on, tw, nm, oc, oo, oa, ob, ov, kn, vl, kt, vt⟩ := v
  obtain ⟨rfl, C, ⟨n, hn, rfl, rfl, P⟩, g, rfl, W⟩ := I
  by_cases hc : bs_cell v1
  · obtain ⟨f, hf, rfl⟩ := hc
    by_cases ha : bs_cell v3
    · obtain ⟨a, ha, rfl⟩ := ha
      by_cases hb : bs_cell v4
      · obtain ⟨b, hb, rfl⟩ := hb
        by_cases o0 : v2 < 0
        · unfold wpX_formula
          refine xs_cellT hf (br_f bs_n10 (xs_cellT ha (br_f bs_n10 (xs_cellT hb (br_f bs_n10 (br_t o0 ?_))))))
          unfold wpY_formula
          exact ys_cellT hf (br_f bs_n10 (ys_cellT ha (br_f bs_n10 (ys_cellT hb (br_f bs_n10 (br_t o0 ⟨rfl, I0⟩))))))
        · by_cases o3 : v2 ≤ 3
          · obtain ⟨o, ho, rfl⟩ := nI_of o0
            have o4 : o < 4 := by
              have e := (nI_leI (a := o) (b := 3) ho (by decide)).mp o3
              omega
            unfold wpX_formula
            refine xs_cellT hf (br_f bs_n10 (xs_cellT ha (br_f bs_n10 (xs_cellT hb (br_f bs_n10 (br_f o0 (br_t o3 (xs_rect ha hb (xs_rem hn hf (fun m s pc' pr' po' pn' hm h1 h2 h3 h4 => xs_hold hf (fun VB' g' V' W' => ?_)))))))))))
            unfold wpY_formula
            refine ys_cellT hf (br_f bs_n10 (ys_cellT ha (br_f bs_n10 (ys_cellT hb (br_f bs_n10 (br_f o0 (br_t o3 ?_)))))))
            exact ys_chg (VB := VB') hn hf C P W hm h1 h2 h3 h4 ⟨rfl, Or.inr ⟨o, a, b, o4, ha, hb, rfl, rfl, rfl, rfl, rfl⟩⟩ W' (fun v' h => ⟨rfl, h⟩)
          · unfold wpX_formula
            refine xs_cellT hf (br_f bs_n10 (xs_cellT ha (br_f bs_n10 (xs_cellT hb (br_f bs_n10 (br_f o0 (br_f o3 ?_)))))))
            unfold wpY_formula
            exact ys_cellT hf (br_f bs_n10 (ys_cellT ha (br_f bs_n10 (ys_cellT hb (br_f bs_n10 (br_f o0 (br_f o3 ⟨rfl, I0⟩)))))))
      · unfold wpX_formula
        refine xs_cellT hf (br_f bs_n10 (xs_cellT ha (br_f bs_n10 (xs_cellF hb (br_t rfl ?_)))))
        unfold wpY_formula
        exact ys_cellT hf (br_f bs_n10 (ys_cellT ha (br_f bs_n10 (ys_cellF hb (br_t rfl ⟨rfl, I0⟩)))))
    · unfold wpX_formula
      refine xs_cellT hf (br_f bs_n10 (xs_cellF ha (br_t rfl ?_)))
      unfold wpY_formula
      exact ys_cellT hf (br_f bs_n10 (ys_cellF ha (br_t rfl ⟨rfl, I0⟩)))
  · unfold wpX_formula
    refine xs_cellF hc (br_t rfl ?_)
    unfold wpY_formula
    exact ys_cellF hc (br_t rfl ⟨rfl, I0⟩)
theorem i_vc_offset {k : Nat} {u : SX} {v : SY} (I : i_Rel k u v) (hk : k + 5 ≤ 2560) (v1 : Int32) (v2 : Int32) : wpX_offset (fun r u' => wpY_offset (fun r' v' => r' = r ∧ i_Rel (k + 5) u' v') v v1 v2) u v1 v2 := by
  have I0 := I
  obtain ⟨B, T, c, R, O, N, V, VB, pc, pr, po, pn⟩ := u
  obtain ⟨ch, df, op, on, tw, nm, oc, oo, oa, ob, ov, kn, vl, kt, vt⟩ := v
  obtain ⟨rfl, C, ⟨n, hn, rfl, rfl, P⟩, g, rfl, W⟩ := I
  by_cases hc : bs_cell v1
  · obtain ⟨f, hf, rfl⟩ := hc
    have vf := bs_vi hf
    have e0 := bs_CO (C f hf)
    unfold wpX_offset
    refine xs_cellT hf (br_f bs_n10 ⟨vf, ?_⟩)
    rw [bs_cl hf]
    by_cases z : op f < 0
    · refine br_t (e0.mp z) ?_
      unfold wpY_offset
      refine ys_cellT hf (br_f bs_n10 ⟨vf, ?_⟩)
      rw [bs_cl hf]
      exact br_f (Int32.not_le.mpr z) ⟨rfl, I0⟩
    · refine br_f (fun e => z (e0.mpr e)) (xs_rem hn hf (fun m s pc' pr' po' pn' hm h1 h2 h3 h4 => ⟨vf, vf, xs_hold hf (fun VB' g' V' W' => ?_)⟩))
      unfold wpY_offset
      refine ys_cellT hf (br_f bs_n10 ⟨vf, ?_⟩)
      rw [bs_cl hf]
      refine br_t (Int32.not_lt.mp z) ⟨vf, vf, vf, ?_⟩
      exact ys_chg (VB := VB') hn hf C P W hm h1 h2 h3 h4 ⟨rfl, (C f hf).2⟩ W' (fun v' h => ⟨rfl, h⟩)
  · unfold wpX_offset
    refine xs_cellF hc (br_t rfl ?_)
    unfold wpY_offset
    exact ys_cellF hc (br_t rfl ⟨rfl, I0⟩)
theorem i_vc_undo {k : Nat} {u : SX} {v : SY} (I : i_Rel k u v) (hk : k + 5 ≤ 2560) : wpX_undo (fun r u' => wpY_undo (fun r' v' => r' = r ∧ i_Rel (k + 5) u' v') v) u := by
  have I0 := I
  obtain ⟨B, T, c, R, O, N, V, VB, pc, pr, po, pn⟩ := u
  obtain ⟨ch, df, op, on, tw, nm, oc, oo, oa, ob, ov, kn, vl, kt, vt⟩ := v
  obtain ⟨rfl, C, ⟨n, hn, rfl, rfl, P⟩, g, rfl, W⟩ := I
  cases n with
  | zero => exact br_f (by decide) (br_t rfl ⟨rfl, I0⟩)
  | succ n =>
    have hl : n < 8 := by omega
    have v8 := bs_v8 hl
    obtain ⟨⟨q, hq, e1, e2⟩, D⟩ := P n (by omega)
    unfold wpX_undo
    refine br_t (nI_le (a := 1) (by omega) (by omega)) (nm_r (nI_pred n) ⟨v8, ?_⟩)
    rw [bs_c8 hl]
    refine nm_r e1 ⟨v8, v8, v8, xs_hold hq (fun VB' g' V' W' => ?_)⟩
    refine ys_undo hl hq e2 C (bs_upC C D) (fun k0 k1 v0 kn' vl' kt' vt' W0 W1 => ⟨rfl, ?_⟩)
    exact bs_relI (bs_touch W W0 W' W1) (bs_upC C D) (by omega) (fun j hj => P j (by omega)) W'
theorem i_vc_value {k : Nat} {u : SX} {v : SY} (I : i_Rel k u v) (hk : k + 5 ≤ 2560) (v1 : Int32) : wpX_value (fun r => wpY_value (fun r' v' => r' = r ∧ i_Rel (k + 5) u v') v v1) u v1 := by
  obtain ⟨B, T, c, R, O, N, V, VB, pc, pr, po, pn⟩ := u
  obtain ⟨ch, df, op, on, tw, nm, oc, oo, oa, ob, ov, kn, vl, kt, vt⟩ := v
  obtain ⟨rfl, C, ⟨n, hn, rfl, rfl, P⟩, g, rfl, W⟩ := I
  by_cases hc : bs_cell v1
  · obtain ⟨f, hf, rfl⟩ := hc
    have vf := bs_vi hf
    unfold wpX_value
    refine xs_cellT hf (br_f bs_n10 ⟨vf, ?_⟩)
    rw [bs_cl hf]
    unfold wpY_value
    refine ys_work C (fun k1 kn' vl' K1 W1 => ys_cellT hf (br_f bs_n10 ⟨vf, ?_, bs_relI rfl C hn P W⟩))
    rw [bs_cl hf]
    exact (bs_uniq W1 W f hf).2
  · unfold wpX_value
    refine xs_cellF hc (br_t rfl ?_)
    unfold wpY_value
    exact ys_work C (fun k1 kn' vl' K1 W1 => ys_cellF hc (br_t rfl ⟨rfl, bs_relI rfl C hn P W⟩))
theorem i_vc_broken {k : Nat} {u : SX} {v : SY} (I : i_Rel k u v) (hk : k + 5 ≤ 2560) (v1 : Int32) : wpX_broken (fun r => wpY_broken (fun r' v' => r' = r ∧ i_Rel (k + 5) u v') v v1) u v1 := by
  obtain ⟨B, T, c, R, O, N, V, VB, pc, pr, po, pn⟩ := u
  obtain ⟨ch, df, op, on, tw, nm, oc, oo, oa, ob, ov, kn, vl, kt, vt⟩ := v
  obtain ⟨rfl, C, ⟨n, hn, rfl, rfl, P⟩, g, rfl, W⟩ := I
  by_cases hc : bs_cell v1
  · obtain ⟨f, hf, rfl⟩ := hc
    have vf := bs_vi hf
    unfold wpX_broken
    refine xs_cellT hf (br_f bs_n10 ?_)
    cases z : g f
    · refine br_f (bs_bit1 hf (bs_cls hf z)) ?_
      unfold wpY_broken
      refine ys_work C (fun k1 kn' vl' K1 W1 => ys_cellT hf (br_f bs_n10 ⟨vf, ?_⟩))
      rw [bs_cl hf]
      exact br_t (bs_K0 K1 hf (by rw [(bs_uniq W1 W f hf).1]; exact z)) ⟨rfl, bs_relI rfl C hn P W⟩
    · refine br_t (bs_bit0 hf (bs_opn hf z)) ?_
      unfold wpY_broken
      refine ys_work C (fun k1 kn' vl' K1 W1 => ys_cellT hf (br_f bs_n10 ⟨vf, ?_⟩))
      rw [bs_cl hf]
      exact br_f (bs_K1 K1 hf (by rw [(bs_uniq W1 W f hf).1]; exact z)) ⟨rfl, bs_relI rfl C hn P W⟩
  · unfold wpX_broken
    refine xs_cellF hc (br_t rfl ?_)
    unfold wpY_broken
    exact ys_work C (fun k1 kn' vl' K1 W1 => ys_cellF hc (br_t rfl ⟨rfl, bs_relI rfl C hn P W⟩))
theorem i_vc_brokenCells {k : Nat} {u : SX} {v : SY} (I : i_Rel k u v) (hk : k + 5 ≤ 2560) : wpX_brokenCells (fun r => wpY_brokenCells (fun r' v' => r' = r ∧ i_Rel (k + 5) u v') v) u := by
  obtain ⟨B, T, c, R, O, N, V, VB, pc, pr, po, pn⟩ := u
  obtain ⟨ch, df, op, on, tw, nm, oc, oo, oa, ob, ov, kn, vl, kt, vt⟩ := v
  obtain ⟨rfl, C, ⟨n, hn, rfl, rfl, P⟩, g, rfl, W⟩ := I
  unfold wpX_brokenCells wpY_brokenCells
  refine ys_work C (fun k1 kn' vl' K1 W1 => ⟨17, ys_bcL K1 ⟨?_, bs_relI rfl C hn P W⟩ 16 0 rfl⟩)
  exact bs_mkE (fun i hi => by rw [(bs_uniq W1 W i hi).1])
theorem i_vc_touched {k : Nat} {u : SX} {v : SY} (I : i_Rel k u v) (hk : k + 5 ≤ 2560) : wpX_touched (fun r => wpY_touched (fun r' => r' = r ∧ i_Rel (k + 5) u v) v) u := by
  have I0 := I
  obtain ⟨B, T, c, R, O, N, V, VB, pc, pr, po, pn⟩ := u
  obtain ⟨ch, df, op, on, tw, nm, oc, oo, oa, ob, ov, kn, vl, kt, vt⟩ := v
  obtain ⟨e, _⟩ := I
  exact ⟨e.symm, I0⟩
theorem i_vc_readers {k : Nat} {u : SX} {v : SY} (I : i_Rel k u v) (hk : k + 5 ≤ 2560) (v1 : Int32) : wpX_readers (fun r => wpY_readers (fun r' => r' = r ∧ i_Rel (k + 5) u v) v v1) u v1 := by
  have I0 := I
  obtain ⟨B, T, c, R, O, N, V, VB, pc, pr, po, pn⟩ := u
  obtain ⟨ch, df, op, on, tw, nm, oc, oo, oa, ob, ov, kn, vl, kt, vt⟩ := v
  obtain ⟨_, C, _⟩ := I
  by_cases hc : bs_cell v1
  · obtain ⟨f, hf, rfl⟩ := hc
    unfold wpX_readers
    refine xs_cellT hf (br_f bs_n10 (xs_rdr ?_))
    rw [bs_rd1 hf]
    exact ys_rdr hf C ⟨rfl, I0⟩
  · unfold wpX_readers
    refine xs_cellF hc (br_t rfl ?_)
    exact ys_rdrN hc ⟨rfl, I0⟩
theorem i_vc_dependents {k : Nat} {u : SX} {v : SY} (I : i_Rel k u v) (hk : k + 5 ≤ 2560) (v1 : Int32) : wpX_dependents (fun r => wpY_dependents (fun r' => r' = r ∧ i_Rel (k + 5) u v) v v1) u v1 := by
  have I0 := I
  obtain ⟨B, T, c, R, O, N, V, VB, pc, pr, po, pn⟩ := u
  obtain ⟨ch, df, op, on, tw, nm, oc, oo, oa, ob, ov, kn, vl, kt, vt⟩ := v
  obtain ⟨_, C, _⟩ := I
  by_cases hc : bs_cell v1
  · obtain ⟨f, hf, rfl⟩ := hc
    exact xs_dep hf (fun k1 D1 L1 => ys_dep hf C (fun k2 D2 L2 => ⟨bs_dU D2 L2 D1 L1, I0⟩))
  · unfold wpX_dependents
    refine xs_cellF hc (br_t rfl ?_)
    exact ys_depN hc ⟨rfl, I0⟩
theorem i_vc_total {k : Nat} {u : SX} {v : SY} (I : i_Rel k u v) (hk : k + 5 ≤ 2560) (v1 : Int32) (v2 : Int32) : wpX_total (fun r => wpY_total (fun r' v' => r' = r ∧ i_Rel (k + 5) u v') v v1 v2) u v1 v2 := by
  obtain ⟨B, T, c, R, O, N, V, VB, pc, pr, po, pn⟩ := u
  obtain ⟨ch, df, op, on, tw, nm, oc, oo, oa, ob, ov, kn, vl, kt, vt⟩ := v
  obtain ⟨rfl, C, ⟨n, hn, rfl, rfl, P⟩, g, rfl, W⟩ := I
  by_cases ha : bs_cell v1
  · obtain ⟨a, ha, rfl⟩ := ha
    by_cases hb : bs_cell v2
    · obtain ⟨b, hb, rfl⟩ := hb
      unfold wpX_total
      refine xs_cellT ha (br_f bs_n10 (xs_cellT hb (br_f bs_n10 (xs_rect ha hb (xs_sum ?_)))))
      unfold wpY_total
      refine ys_work C (fun k1 kn' vl' K1 W1 => ⟨17, ys_totL ha hb ⟨?_, bs_relI rfl C hn P W⟩ 16 0 rfl⟩)
      exact (bs_foldC (fun j hj _ => (bs_uniq W1 W j hj).2) 0 0 16 (by omega)).1
    · unfold wpX_total
      refine xs_cellT ha (br_f bs_n10 (xs_cellF hb (br_t rfl ?_)))
      unfold wpY_total
      exact ys_work C (fun k1 kn' vl' K1 W1 => ⟨1, br_f (by decide) (ys_cellT ha (br_f bs_n10 (ys_cellF hb (br_t rfl ⟨rfl, bs_relI rfl C hn P W⟩))))⟩)
  · unfold wpX_total
    refine xs_cellF ha (br_t rfl ?_)
    unfold wpY_total
    exact ys_work C (fun k1 kn' vl' K1 W1 => ⟨1, br_f (by decide) (ys_cellF ha (br_t rfl ⟨rfl, bs_relI rfl C hn P W⟩))⟩)
theorem i_vc_most {k : Nat} {u : SX} {v : SY} (I : i_Rel k u v) (hk : k + 5 ≤ 2560) (v1 : Int32) (v2 : Int32) : wpX_most (fun r => wpY_most (fun r' v' => r' = r ∧ i_Rel (k + 5) u v') v v1 v2) u v1 v2 := by
  obtain ⟨B, T, c, R, O, N, V, VB, pc, pr, po, pn⟩ := u
  obtain ⟨ch, df, op, on, tw, nm, oc, oo, oa, ob, ov, kn, vl, kt, vt⟩ := v
  obtain ⟨rfl, C, ⟨n, hn, rfl, rfl, P⟩, g, rfl, W⟩ := I
  by_cases ha : bs_cell v1
  · obtain ⟨a, ha, rfl⟩ := ha
    by_cases hb : bs_cell v2
    · obtain ⟨b, hb, rfl⟩ := hb
      unfold wpX_most
      refine xs_cellT ha (br_f bs_n10 (xs_cellT hb (br_f bs_n10 (xs_rect ha hb (xs_gre ?_)))))
      unfold wpY_most
      refine ys_work C (fun k1 kn' vl' K1 W1 => ⟨17, ys_mosL K1 ha hb ⟨?_, bs_relI rfl C hn P W⟩ 16 0 rfl⟩)
      have e : bs_mk (bs_in a b) 16 &&& ((bs_mk (fun j => !g j) 16) ^^^ (-1)) = bs_mk (fun j => bs_in a b j && k1 j) 16 := by
        rw [bs_mkNot]
        exact bs_mkE (fun i hi => by rw [(bs_uniq W1 W i hi).1, Bool.not_not])
      rw [e]
      exact (bs_foldC (fun j hj _ => (bs_uniq W1 W j hj).2) _ 0 16 (by omega)).2.1
    · unfold wpX_most
      refine xs_cellT ha (br_f bs_n10 (xs_cellF hb (br_t rfl ?_)))
      unfold wpY_most
      exact ys_work C (fun k1 kn' vl' K1 W1 => ⟨1, br_f (by decide) (ys_cellT ha (br_f bs_n10 (ys_cellF hb (br_t rfl ⟨rfl, bs_relI rfl C hn P W⟩))))⟩)
  · unfold wpX_most
    refine xs_cellF ha (br_t rfl ?_)
    unfold wpY_most
    exact ys_work C (fun k1 kn' vl' K1 W1 => ⟨1, br_f (by decide) (ys_cellF ha (br_t rfl ⟨rfl, bs_relI rfl C hn P W⟩))⟩)
