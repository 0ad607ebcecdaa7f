def bs_sm (x : Int32) (v : Nat → Int32) : Nat → Int32
  | 0 => 0
  | n + 1 => if bt x n = true then bs_sm x v n + v n else bs_sm x v n
def bs_mx (m x : Int32) (v : Nat → Int32) : Nat → Int32
  | 0 => m
  | n + 1 => if bt x n = true ∧ ¬ v n ≤ bs_mx m x v n then v n else bs_mx m x v n
def bs_mn (m x : Int32) (v : Nat → Int32) : Nat → Int32
  | 0 => m
  | n + 1 => if bt x n = true ∧ ¬ bs_mn m x v n ≤ v n then v n else bs_mn m x v n
def bs_up (x : Int32) (v : Nat → Int32) : Nat → Int32
  | 0 => 0
  | n + 1 => if bt x n = true ∧ ¬ v n ≤ 0 then bs_up x v n + 1 else bs_up x v n
theorem bs_smS (x : Int32) (v : Nat → Int32) (n : Nat) : bs_sm x v (n + 1) = if bt x n = true then bs_sm x v n + v n else bs_sm x v n := rfl
theorem bs_mxS (m x : Int32) (v : Nat → Int32) (n : Nat) : bs_mx m x v (n + 1) = if bt x n = true ∧ ¬ v n ≤ bs_mx m x v n then v n else bs_mx m x v n := rfl
theorem bs_mnS (m x : Int32) (v : Nat → Int32) (n : Nat) : bs_mn m x v (n + 1) = if bt x n = true ∧ ¬ bs_mn m x v n ≤ v n then v n else bs_mn m x v n := rfl
theorem bs_upS (x : Int32) (v : Nat → Int32) (n : Nat) : bs_up x v (n + 1) = if bt x n = true ∧ ¬ v n ≤ 0 then bs_up x v n + 1 else bs_up x v n := rfl
theorem bs_nf {b : Bool} (h : b = false) : ¬ b = true := by rw [h]; decide
theorem bs_smT {x : Int32} {v : Nat → Int32} {n : Nat} (h : bt x n = true) : bs_sm x v n + v n = bs_sm x v (n + 1) := (if_pos h).symm
theorem bs_smF {x : Int32} {v : Nat → Int32} {n : Nat} (h : bt x n = false) : bs_sm x v n = bs_sm x v (n + 1) := (if_neg (bs_nf h)).symm
theorem bs_mxT {m x : Int32} {v : Nat → Int32} {n : Nat} (h : bt x n = true) (g : ¬ v n ≤ bs_mx m x v n) : v n = bs_mx m x v (n + 1) := (if_pos ⟨h, g⟩).symm
theorem bs_mxL {m x : Int32} {v : Nat → Int32} {n : Nat} (g : v n ≤ bs_mx m x v n) : bs_mx m x v n = bs_mx m x v (n + 1) := (if_neg (fun z => z.2 g)).symm
theorem bs_mxF {m x : Int32} {v : Nat → Int32} {n : Nat} (h : bt x n = false) : bs_mx m x v n = bs_mx m x v (n + 1) := (if_neg (fun z => bs_nf h z.1)).symm
theorem bs_mnT {m x : Int32} {v : Nat → Int32} {n : Nat} (h : bt x n = true) (g : ¬ bs_mn m x v n ≤ v n) : v n = bs_mn m x v (n + 1) := (if_pos ⟨h, g⟩).symm
theorem bs_mnL {m x : Int32} {v : Nat → Int32} {n : Nat} (g : bs_mn m x v n ≤ v n) : bs_mn m x v n = bs_mn m x v (n + 1) := (if_neg (fun z => z.2 g)).symm
theorem bs_mnF {m x : Int32} {v : Nat → Int32} {n : Nat} (h : bt x n = false) : bs_mn m x v n = bs_mn m x v (n + 1) := (if_neg (fun z => bs_nf h z.1)).symm
theorem bs_upT {x : Int32} {v : Nat → Int32} {n : Nat} (h : bt x n = true) (g : ¬ v n ≤ 0) : bs_up x v n + 1 = bs_up x v (n + 1) := (if_pos ⟨h, g⟩).symm
theorem bs_upL {x : Int32} {v : Nat → Int32} {n : Nat} (g : v n ≤ 0) : bs_up x v n = bs_up x v (n + 1) := (if_neg (fun z => z.2 g)).symm
theorem bs_upF {x : Int32} {v : Nat → Int32} {n : Nat} (h : bt x n = false) : bs_up x v n = bs_up x v (n + 1) := (if_neg (fun z => bs_nf h z.1)).symm
theorem bs_foldC {x : Int32} {v w : Nat → Int32} (h : ∀ j, j < 16 → bt x j = true → v j = w j) (m m' : Int32) : ∀ n, n ≤ 16 → bs_sm x v n = bs_sm x w n ∧ bs_mx m x v n = bs_mx m x w n ∧ bs_mn m' x v n = bs_mn m' x w n ∧ bs_up x v n = bs_up x w n := by
  intro n
  induction n with
  | zero => intro _; exact ⟨rfl, rfl, rfl, rfl⟩
  | succ n ih =>
    intro hn
    obtain ⟨a, b, c, d⟩ := ih (by omega)
    cases hb : bt x n
    · rw [← bs_smF hb, ← bs_mxF hb, ← bs_mnF hb, ← bs_upF hb, ← bs_smF hb, ← bs_mxF hb, ← bs_mnF hb, ← bs_upF hb]
      exact ⟨a, b, c, d⟩
    · have e := h n (by omega) hb
      rw [bs_smS, bs_mxS, bs_mnS, bs_upS, bs_smS, bs_mxS, bs_mnS, bs_upS, a, b, c, d, e]
      exact ⟨rfl, rfl, rfl, rfl⟩
theorem bs_mxG (m x : Int32) (v : Nat → Int32) : ∀ n, m ≤ bs_mx m x v n ∧ (∀ i, i < n → bt x i = true → v i ≤ bs_mx m x v n) ∧ (bs_mx m x v n = m ∨ ∃ i, i < n ∧ bt x i = true ∧ bs_mx m x v n = v i) := by
  intro n
  induction n with
  | zero => exact ⟨Int32.le_refl m, fun i hi => by omega, Or.inl rfl⟩
  | succ n ih =>
    obtain ⟨a, b, c⟩ := ih
    by_cases z : bt x n = true ∧ ¬ v n ≤ bs_mx m x v n
    · rw [← bs_mxT z.1 z.2]
      have l : bs_mx m x v n ≤ v n := Int32.le_of_lt (Int32.not_le.mp z.2)
      refine ⟨Int32.le_trans a l, fun i hi hb => ?_, Or.inr ⟨n, by omega, z.1, rfl⟩⟩
      by_cases y : i = n
      · rw [y]; exact Int32.le_refl _
      · exact Int32.le_trans (b i (by omega) hb) l
    · rw [bs_mxS, if_neg z]
      refine ⟨a, fun i hi hb => ?_, ?_⟩
      · by_cases y : i = n
        · subst y
          by_cases q : v i ≤ bs_mx m x v i
          · exact q
          · exact absurd ⟨hb, q⟩ z
        · exact b i (by omega) hb
      · rcases c with c | ⟨i, hi, hb, e⟩
        · exact Or.inl c
        · exact Or.inr ⟨i, by omega, hb, e⟩
theorem bs_mnG (m x : Int32) (v : Nat → Int32) : ∀ n, bs_mn m x v n ≤ m ∧ (∀ i, i < n → bt x i = true → bs_mn m x v n ≤ v i) ∧ (bs_mn m x v n = m ∨ ∃ i, i < n ∧ bt x i = true ∧ bs_mn m x v n = v i) := by
  intro n
  induction n with
  | zero => exact ⟨Int32.le_refl m, fun i hi => by omega, Or.inl rfl⟩
  | succ n ih =>
    obtain ⟨a, b, c⟩ := ih
    by_cases z : bt x n = true ∧ ¬ bs_mn m x v n ≤ v n
    · rw [← bs_mnT z.1 z.2]
      have l : v n ≤ bs_mn m x v n := Int32.le_of_lt (Int32.not_le.mp z.2)
      refine ⟨Int32.le_trans l a, fun i hi hb => ?_, Or.inr ⟨n, by omega, z.1, rfl⟩⟩
      by_cases y : i = n
      · rw [y]; exact Int32.le_refl _
      · exact Int32.le_trans l (b i (by omega) hb)
    · rw [bs_mnS, if_neg z]
      refine ⟨a, fun i hi hb => ?_, ?_⟩
      · by_cases y : i = n
        · subst y
          by_cases q : bs_mn m x v i ≤ v i
          · exact q
          · exact absurd ⟨hb, q⟩ z
        · exact b i (by omega) hb
      · rcases c with c | ⟨i, hi, hb, e⟩
        · exact Or.inl c
        · exact Or.inr ⟨i, by omega, hb, e⟩
theorem bs_min (x : Int32) : (-2147483648 : Int32) ≤ x := by
  rw [Int32.le_iff_toInt_le]
  have h : (-2147483648 : Int32).toInt = -2147483648 := by decide
  have g := Int32.le_toInt x
  rw [h]
  exact g
theorem bs_max (x : Int32) : x ≤ (2147483647 : Int32) := by
  rw [Int32.le_iff_toInt_le]
  have h : (2147483647 : Int32).toInt = 2147483647 := by decide
  have g := Int32.toInt_lt x
  rw [h]
  omega
theorem bs_mxE {x : Int32} {v : Nat → Int32} {a : Nat} (ha : a < 16) (hb : bt x a = true) : bs_mx (v a) x v 16 = bs_mx (-2147483648) x v 16 := by
  obtain ⟨a1, b1, c1⟩ := bs_mxG (v a) x v 16
  obtain ⟨a2, b2, c2⟩ := bs_mxG (-2147483648) x v 16
  apply Int32.le_antisymm
  · rcases c1 with c | ⟨i, hi, hc, e⟩
    · rw [c]; exact b2 a ha hb
    · rw [e]; exact b2 i hi hc
  · rcases c2 with c | ⟨i, hi, hc, e⟩
    · rw [c]; exact bs_min _
    · rw [e]; exact b1 i hi hc
theorem bs_mnE {x : Int32} {v : Nat → Int32} {a : Nat} (ha : a < 16) (hb : bt x a = true) : bs_mn (v a) x v 16 = bs_mn 2147483647 x v 16 := by
  obtain ⟨a1, b1, c1⟩ := bs_mnG (v a) x v 16
  obtain ⟨a2, b2, c2⟩ := bs_mnG 2147483647 x v 16
  apply Int32.le_antisymm
  · rcases c2 with c | ⟨i, hi, hc, e⟩
    · rw [c]; exact bs_max _
    · rw [e]; exact b1 i hi hc
  · rcases c1 with c | ⟨i, hi, hc, e⟩
    · rw [c]; exact b2 a ha hb
    · rw [e]; exact b2 i hi hc
/-- the value of a cell that holds rd, oo, nu, over the values v -/
def bs_val (rd oo nu : Int32) (v : Nat → Int32) : Int32 :=
  if rd = 0 then nu else if oo = 1 then bs_mx (-2147483648) rd v 16 + nu else if oo = 2 then bs_mn 2147483647 rd v 16 + nu else if oo = 3 then bs_up rd v 16 + nu else bs_sm rd v 16 + nu
theorem bs_valC {rd oo nu : Int32} {v w : Nat → Int32} (h : ∀ j, j < 16 → bt rd j = true → v j = w j) : bs_val rd oo nu v = bs_val rd oo nu w := by
  obtain ⟨a, b, c, d⟩ := bs_foldC h (-2147483648) 2147483647 16 (Nat.le_refl 16)
  unfold bs_val
  rw [a, b, c, d]
def bs_rdy (R : Nat → Int32) (k : Nat → Bool) (c : Nat) : Prop := ∀ j, j < 16 → bt (R c) j = true → k j = true
def bs_D (R : Nat → Int32) (k : Nat → Bool) : Prop := ∀ c, c < 16 → bs_rdy R k c → k c = true
def bs_S (R O N : Nat → Int32) (k : Nat → Bool) (v : Nat → Int32) : Prop := ∀ i, i < 16 → k i = true → bs_rdy R k i ∧ v i = bs_val (R i) (O i) (N i) v
def bs_L (R O N : Nat → Int32) (k : Nat → Bool) (v : Nat → Int32) : Prop := ∀ (k' : Nat → Bool) (v' : Nat → Int32), bs_D R k' → bs_S R O N k' v' → ∀ i, i < 16 → k i = true → k' i = true ∧ v' i = v i
def bs_set (k : Nat → Bool) (c : Nat) : Nat → Bool := fun j => k j || decide (j = c)
/-- the settled sheet: what is known, and the values; an unknown cell's value is 0 -/
def bs_W (R O N : Nat → Int32) (k : Nat → Bool) (v : Nat → Int32) : Prop := bs_S R O N k v ∧ bs_L R O N k v ∧ bs_D R k ∧ ∀ i, i < 16 → k i = false → v i = 0
theorem bs_setS {k : Nat → Bool} {c : Nat} : bs_set k c c = true := by unfold bs_set; rw [decide_eq_true rfl, Bool.or_true]
theorem bs_setM {k : Nat → Bool} {c j : Nat} (h : k j = true) : bs_set k c j = true := by unfold bs_set; rw [h, Bool.true_or]
theorem bs_setN {k : Nat → Bool} {c j : Nat} (h : j ≠ c) : bs_set k c j = k j := by unfold bs_set; rw [decide_eq_false h, Bool.or_false]
theorem bs_updS {f : Nat → Int32} {k : Nat} {x : Int32} : upd f k x k = x := if_pos rfl
theorem bs_updN {f : Nat → Int32} {k j : Nat} {x : Int32} (h : j ≠ k) : upd f k x j = f j := if_neg h
theorem bs_stS {R O N : Nat → Int32} {k : Nat → Bool} {v : Nat → Int32} {c : Nat} (h : bs_S R O N k v) (hk : k c = false) (hr : bs_rdy R k c) : bs_S R O N (bs_set k c) (upd v c (bs_val (R c) (O c) (N c) v)) := by
  have ne : ∀ j, k j = true → j ≠ c := fun j hj e => by rw [e, hk] at hj; exact absurd hj (by decide)
  intro i hi hki
  by_cases z : i = c
  · subst z
    refine ⟨fun j hj hb => bs_setM (hr j hj hb), ?_⟩
    rw [bs_updS]
    exact bs_valC (fun j hj hb => (bs_updN (ne j (hr j hj hb))).symm)
  · rw [bs_setN z] at hki
    obtain ⟨h1, h2⟩ := h i hi hki
    refine ⟨fun j hj hb => bs_setM (h1 j hj hb), ?_⟩
    rw [bs_updN z, h2]
    exact bs_valC (fun j hj hb => (bs_updN (ne j (h1 j hj hb))).symm)
theorem bs_stL {R O N : Nat → Int32} {k : Nat → Bool} {v : Nat → Int32} {c : Nat} (h : bs_L R O N k v) (hc : c < 16) (hr : bs_rdy R k c) : bs_L R O N (bs_set k c) (upd v c (bs_val (R c) (O c) (N c) v)) := by
  intro k' v' hD hS i hi hki
  by_cases z : i = c
  · subst z
    have hk : k' i = true := hD i hi (fun j hj hb => (h k' v' hD hS j hj (hr j hj hb)).1)
    refine ⟨hk, ?_⟩
    rw [bs_updS, (hS i hi hk).2]
    exact bs_valC (fun j hj hb => (h k' v' hD hS j hj (hr j hj hb)).2)
  · rw [bs_setN z] at hki
    rw [bs_updN z]
    exact h k' v' hD hS i hi hki
theorem bs_cS {R O N : Nat → Int32} {k : Nat → Bool} {v w : Nat → Int32} (h : bs_S R O N k v) (e : ∀ i, i < 16 → k i = true → w i = v i) : bs_S R O N k w := by
  intro i hi hk
  obtain ⟨h1, h2⟩ := h i hi hk
  refine ⟨h1, ?_⟩
  rw [e i hi hk, h2]
  exact bs_valC (fun j hj hb => (e j hj (h1 j hj hb)).symm)
theorem bs_cL {R O N : Nat → Int32} {k : Nat → Bool} {v w : Nat → Int32} (h : bs_L R O N k v) (e : ∀ i, i < 16 → k i = true → w i = v i) : bs_L R O N k w := by
  intro k' v' hD hS i hi hk
  rw [e i hi hk]
  exact h k' v' hD hS i hi hk
theorem bs_uniq {R O N : Nat → Int32} {k k' : Nat → Bool} {v v' : Nat → Int32} (h : bs_W R O N k v) (h' : bs_W R O N k' v') : ∀ i, i < 16 → k i = k' i ∧ v i = v' i := by
  obtain ⟨S, L, D, Z⟩ := h
  obtain ⟨S', L', D', Z'⟩ := h'
  intro i hi
  cases a : k i
  · cases b : k' i
    · exact ⟨rfl, by rw [Z i hi a, Z' i hi b]⟩
    · have e := (L' k v D S i hi b).1
      rw [a] at e; exact absurd e (by decide)
  · obtain ⟨e, f⟩ := L k' v' D' S' i hi a
    exact ⟨e.symm, f.symm⟩
theorem bs_rdyM {R : Nat → Int32} (k k' : Nat → Bool) (c : Nat) (h : ∀ i, i < 16 → k i = true → k' i = true) (g : bs_rdy R k c) : bs_rdy R k' c := fun j hj hb => h j hj (g j hj hb)
theorem bs_rndS {R O N : Nat → Int32} {k0 k1 : Nat → Bool} {v0 v1 : Nat → Int32} {r : Nat} (hm : ∀ i, i < 16 → k0 i = true → k1 i = true) (hF : ∀ c, c < 16 → bs_rdy R k0 c → k1 c = true)
    (S0 : bs_S R O N k0 v0) (L1 : bs_L R O N k1 v1) (h : r ≤ bs_cnt k0 16 ∨ bs_D R k0) : r + 1 ≤ bs_cnt k1 16 ∨ bs_D R k1 :=
  bs_round (F := fun k c => bs_rdy R k c) bs_rdyM hm hF (fun hD i hi hk => (L1 k0 v0 hD S0 i hi hk).1) h
theorem bs_endD {R : Nat → Int32} {k : Nat → Bool} (h : 16 ≤ bs_cnt k 16 ∨ bs_D R k) : bs_D R k := by
  rcases h with h | h
  · exact fun c hc _ => bs_cntAll 16 h c hc
  · exact h
/-- the dependents of cell c: the closed sets and the least -/
def bs_dF (R : Nat → Int32) (c : Nat) (k : Nat → Bool) (f : Nat) : Prop := bt (R f) c = true ∨ ∃ j, j < 16 ∧ bt (R f) j = true ∧ k j = true
def bs_dD (R : Nat → Int32) (c : Nat) (k : Nat → Bool) : Prop := ∀ f, f < 16 → bs_dF R c k f → k f = true
def bs_dL (R : Nat → Int32) (c : Nat) (k : Nat → Bool) : Prop := ∀ k' : Nat → Bool, bs_dD R c k' → ∀ f, f < 16 → k f = true → k' f = true
theorem bs_dFM {R : Nat → Int32} {c : Nat} (k k' : Nat → Bool) (f : Nat) (h : ∀ i, i < 16 → k i = true → k' i = true) (g : bs_dF R c k f) : bs_dF R c k' f := by
  rcases g with g | ⟨j, hj, hb, hk⟩
  · exact Or.inl g
  · exact Or.inr ⟨j, hj, hb, h j hj hk⟩
theorem bs_rndD {R : Nat → Int32} {c : Nat} {k0 k1 : Nat → Bool} {r : Nat} (hm : ∀ i, i < 16 → k0 i = true → k1 i = true) (hF : ∀ f, f < 16 → bs_dF R c k0 f → k1 f = true)
    (L1 : bs_dL R c k1) (h : r ≤ bs_cnt k0 16 ∨ bs_dD R c k0) : r + 1 ≤ bs_cnt k1 16 ∨ bs_dD R c k1 :=
  bs_round (F := fun k f => bs_dF R c k f) bs_dFM hm hF (fun hD i hi hk => L1 k0 hD i hi hk) h
theorem bs_endDD {R : Nat → Int32} {c : Nat} {k : Nat → Bool} (h : 16 ≤ bs_cnt k 16 ∨ bs_dD R c k) : bs_dD R c k := by
  rcases h with h | h
  · exact fun c hc _ => bs_cntAll 16 h c hc
  · exact h
theorem bs_dU {R : Nat → Int32} {c : Nat} {k k' : Nat → Bool} (D : bs_dD R c k) (L : bs_dL R c k) (D' : bs_dD R c k') (L' : bs_dL R c k') : bs_mk k 16 = bs_mk k' 16 := by
  apply bs_mkE
  intro i hi
  cases a : k i
  · cases b : k' i
    · rfl
    · have e := L' k D i hi b
      rw [a] at e; exact absurd e (by decide)
  · exact (L k' D' i hi a).symm
