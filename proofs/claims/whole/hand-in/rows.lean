section
def bt (x : Int32) (i : Nat) : Bool := x.toBitVec.getLsbD i
theorem b_ext {x y : Int32} (h : ∀ i, i < 32 → bt x i = bt y i) : x = y := Int32.toBitVec_inj.mp (BitVec.eq_of_getLsbD_eq (fun i hi => h i hi))
theorem b_or (x y : Int32) (i : Nat) : bt (x ||| y) i = (bt x i || bt y i) := by unfold bt; rw [Int32.toBitVec_or, BitVec.getLsbD_or]
theorem b_and (x y : Int32) (i : Nat) : bt (x &&& y) i = (bt x i && bt y i) := by unfold bt; rw [Int32.toBitVec_and, BitVec.getLsbD_and]
theorem b_xor (x y : Int32) (i : Nat) : bt (x ^^^ y) i = (bt x i ^^ bt y i) := by unfold bt; rw [Int32.toBitVec_xor, BitVec.getLsbD_xor]
theorem b_big {x : Int32} {i : Nat} (h : 32 ≤ i) : bt x i = false := BitVec.getLsbD_of_ge _ _ h
theorem b_255 (i : Nat) : bt 255 i = decide (i < 8) := by
  rcases Nat.lt_or_ge i 32 with h | h
  · exact (by decide +kernel : ∀ i, i < 32 → bt 255 i = decide (i < 8)) i h
  · rw [b_big h, decide_eq_false (by omega)]
theorem b_65535 (i : Nat) : bt 65535 i = decide (i < 16) := by
  rcases Nat.lt_or_ge i 32 with h | h
  · exact (by decide +kernel : ∀ i, i < 32 → bt 65535 i = decide (i < 16)) i h
  · rw [b_big h, decide_eq_false (by omega)]
theorem b_m1 : ∀ i, i < 32 → bt (-1) i = true := by decide +kernel
theorem b_0 (i : Nat) : bt 0 i = false := BitVec.getLsbD_zero
theorem s_l : ∀ n, n < 32 → ((nI n &&& 31).toBitVec.smod 32).toNat = n := by decide +kernel
theorem s_u : ∀ n, n < 32 → (((nI n).toUInt32 &&& Int32.toUInt32 31).toBitVec % 32).toNat = n := by decide +kernel
theorem b_shl (n : Nat) (hn : n < 32) (x : Int32) {i : Nat} (hi : i < 32) : bt (x <<< (nI n &&& 31)) i = (decide (n ≤ i) && bt x (i - n)) := by
  unfold bt
  rw [Int32.toBitVec_shiftLeft]
  show (x.toBitVec <<< ((nI n &&& 31).toBitVec.smod 32).toNat).getLsbD i = _
  rw [s_l n hn, BitVec.getLsbD_shiftLeft]
  rcases Nat.lt_or_ge i n with h | h
  · simp [h, Nat.not_le.mpr h]
  · simp [hi, h, Nat.not_lt.mpr h]
theorem b_ushr (n : Nat) (hn : n < 32) (x : Int32) (i : Nat) : bt ((x.toUInt32 >>> ((nI n).toUInt32 &&& Int32.toUInt32 31)).toInt32) i = bt x (n + i) := by
  show (x.toUInt32 >>> ((nI n).toUInt32 &&& Int32.toUInt32 31)).toBitVec.getLsbD i = x.toUInt32.toBitVec.getLsbD (n + i)
  rw [UInt32.toBitVec_shiftRight]
  show (x.toUInt32.toBitVec >>> (((nI n).toUInt32 &&& Int32.toUInt32 31).toBitVec % 32).toNat).getLsbD i = _
  rw [s_u n hn, BitVec.getLsbD_ushiftRight]
theorem b_sshr (n : Nat) (hn : n < 32) (x : Int32) {i : Nat} (hi : i < 32) : bt (x >>> (nI n &&& 31)) i = if n + i < 32 then bt x (n + i) else bt x 31 := by
  unfold bt
  rw [Int32.toBitVec_shiftRight]
  show (x.toBitVec.sshiftRight ((nI n &&& 31).toBitVec.smod 32).toNat).getLsbD i = _
  rw [s_l n hn, BitVec.getLsbD_sshiftRight, BitVec.msb_eq_getLsbD_last]
  simp [hi]
theorem bs_one : ∀ n, n < 32 → ∀ i, i < 32 → bt ((1 : Int32) <<< (nI n &&& 31)) i = decide (i = n) := by decide +kernel
theorem bs_z {x y : Int32} : x &&& y = 0 ↔ ∀ i, i < 32 → bt x i = true → bt y i = true → False := by
  constructor
  · intro h i hi h1 h2
    have e := b_and x y i
    rw [h, b_0, h1, h2] at e
    exact absurd e (by decide)
  · intro h
    apply b_ext
    intro i hi
    rw [b_and, b_0]
    cases h1 : bt x i
    · rfl
    · cases h2 : bt y i
      · rfl
      · exact (h i hi h1 h2).elim
theorem bs_bit {x : Int32} {i : Nat} (hi : i < 32) : x &&& ((1 : Int32) <<< (nI i &&& 31)) = 0 ↔ bt x i = false := by
  rw [bs_z]
  constructor
  · intro h
    cases hb : bt x i
    · rfl
    · exact (h i hi hb (by rw [bs_one i hi i hi]; exact decide_eq_true rfl)).elim
  · intro h j hj h1 h2
    rw [bs_one i hi j hj] at h2
    have e := of_decide_eq_true h2
    subst e
    rw [h] at h1
    exact absurd h1 (by decide)
theorem bs_bit0 {x : Int32} {i : Nat} (hi : i < 16) (h : bt x i = false) : x &&& ((1 : Int32) <<< (nI i &&& 31)) = 0 := (bs_bit (by omega)).mpr h
theorem bs_bit1 {x : Int32} {i : Nat} (hi : i < 16) (h : bt x i = true) : ¬ x &&& ((1 : Int32) <<< (nI i &&& 31)) = 0 := by
  rw [bs_bit (by omega), h]
  decide
theorem bs_sh1 {x : Int32} {i : Nat} (hi : i < 16) : ((x >>> (nI i &&& 31)) &&& 1) = 1 ↔ bt x i = true := by
  have e1 : ∀ j, j < 32 → bt 1 j = decide (j = 0) := by decide +kernel
  have e2 : bt (x >>> (nI i &&& 31)) 0 = bt x i := by
    rw [b_sshr i (by omega) x (by omega), if_pos (by omega), Nat.add_zero]
  constructor
  · intro h
    have e := b_and (x >>> (nI i &&& 31)) 1 0
    rw [h, e2, e1 0 (by omega)] at e
    cases hb : bt x i
    · rw [hb] at e; exact absurd e (by decide)
    · rfl
  · intro h
    apply b_ext
    intro j hj
    rw [b_and, e1 j hj]
    by_cases z : j = 0
    · subst z
      rw [e2, h]
      rfl
    · rw [decide_eq_false z, Bool.and_false]
/-- the set of those below n that p holds of -/
def bs_mk (p : Nat → Bool) : Nat → Int32
  | 0 => 0
  | n + 1 => if p n = true then bs_mk p n ||| ((1 : Int32) <<< (nI n &&& 31)) else bs_mk p n
theorem bs_mkT {p : Nat → Bool} {n : Nat} (h : p n = true) : bs_mk p (n + 1) = bs_mk p n ||| ((1 : Int32) <<< (nI n &&& 31)) := if_pos h
theorem bs_mkF {p : Nat → Bool} {n : Nat} (h : p n = false) : bs_mk p (n + 1) = bs_mk p n := if_neg (by rw [h]; decide)
theorem bs_mkB (p : Nat → Bool) : ∀ n, n ≤ 32 → ∀ i, i < 32 → bt (bs_mk p n) i = (decide (i < n) && p i) := by
  intro n
  induction n with
  | zero => intro _ i _; show bt 0 i = _; rw [b_0, decide_eq_false (by omega)]; rfl
  | succ n ih =>
    intro hn i hi
    cases hp : p n
    · rw [bs_mkF hp, ih (by omega) i hi]
      by_cases z : i = n
      · subst z; rw [hp, Bool.and_false, Bool.and_false]
      · by_cases y : i < n
        · rw [decide_eq_true y, decide_eq_true (show i < n + 1 by omega)]
        · rw [decide_eq_false y, decide_eq_false (show ¬ i < n + 1 by omega)]
    · rw [bs_mkT hp, b_or, ih (by omega) i hi, bs_one n (by omega) i hi]
      by_cases z : i = n
      · subst z; rw [hp, decide_eq_true (show i < i + 1 by omega), decide_eq_true (show i = i from rfl), Bool.or_true]; rfl
      · rw [decide_eq_false z, Bool.or_false]
        by_cases y : i < n
        · rw [decide_eq_true y, decide_eq_true (show i < n + 1 by omega)]
        · rw [decide_eq_false y, decide_eq_false (show ¬ i < n + 1 by omega)]
theorem bs_mk16 (p : Nat → Bool) {i : Nat} (hi : i < 16) : bt (bs_mk p 16) i = p i := by
  rw [bs_mkB p 16 (by omega) i (by omega), decide_eq_true hi, Bool.true_and]
theorem bs_mkO (p : Nat → Bool) {i : Nat} (h : 16 ≤ i) (hi : i < 32) : bt (bs_mk p 16) i = false := by
  rw [bs_mkB p 16 (by omega) i hi, decide_eq_false (by omega), Bool.false_and]
theorem bs_mkL {p : Nat → Bool} {i : Nat} (hi : i < 32) (h : bt (bs_mk p 16) i = true) : i < 16 ∧ p i = true := by
  by_cases z : i < 16
  · rw [bs_mk16 p z] at h; exact ⟨z, h⟩
  · rw [bs_mkO p (by omega) hi] at h; exact absurd h (by decide)
theorem bs_mkX {p : Nat → Bool} {x : Int32} (h : ∀ i, i < 16 → bt x i = p i) (h' : ∀ i, 16 ≤ i → i < 32 → bt x i = false) : x = bs_mk p 16 := by
  apply b_ext
  intro i hi
  by_cases z : i < 16
  · rw [bs_mk16 p z]; exact h i z
  · rw [bs_mkO p (by omega) hi]; exact h' i (by omega) hi
theorem bs_mkE {p q : Nat → Bool} (h : ∀ i, i < 16 → p i = q i) : bs_mk p 16 = bs_mk q 16 :=
  bs_mkX (fun i hi => by rw [bs_mk16 p hi]; exact h i hi) (fun _ h1 h2 => bs_mkO p h1 h2)
theorem bs_mkOr (p q : Nat → Bool) : bs_mk p 16 ||| bs_mk q 16 = bs_mk (fun i => p i || q i) 16 :=
  bs_mkX (fun i hi => by rw [b_or, bs_mk16 p hi, bs_mk16 q hi]) (fun i h1 h2 => by rw [b_or, bs_mkO p h1 h2, bs_mkO q h1 h2]; rfl)
theorem bs_mkXor (p q : Nat → Bool) : bs_mk p 16 ^^^ bs_mk q 16 = bs_mk (fun i => p i ^^ q i) 16 :=
  bs_mkX (fun i hi => by rw [b_xor, bs_mk16 p hi, bs_mk16 q hi]) (fun i h1 h2 => by rw [b_xor, bs_mkO p h1 h2, bs_mkO q h1 h2]; rfl)
theorem bs_mkClr (p : Nat → Bool) {n : Nat} (hn : n < 16) : bs_mk p 16 &&& (((1 : Int32) <<< (nI n &&& 31)) ^^^ (-1)) = bs_mk (fun i => p i && !decide (i = n)) 16 :=
  bs_mkX (fun i hi => by rw [b_and, b_xor, bs_mk16 p hi, bs_one n (by omega) i (by omega), b_m1 i (by omega), Bool.xor_true])
    (fun i h1 h2 => by rw [b_and, bs_mkO p h1 h2]; rfl)
theorem bs_mkNot (p q : Nat → Bool) : bs_mk p 16 &&& (bs_mk q 16 ^^^ (-1)) = bs_mk (fun i => p i && !q i) 16 :=
  bs_mkX (fun i hi => by rw [b_and, b_xor, bs_mk16 p hi, bs_mk16 q hi, b_m1 i (by omega), Bool.xor_true])
    (fun i h1 h2 => by rw [b_and, bs_mkO p h1 h2]; rfl)
theorem bs_mkZ {x : Int32} {p : Nat → Bool} : x &&& bs_mk p 16 = 0 ↔ ∀ j, j < 16 → bt x j = true → p j = false := by
  rw [bs_z]
  constructor
  · intro h j hj h1
    cases hp : p j
    · rfl
    · exact (h j (by omega) h1 (by rw [bs_mk16 p hj]; exact hp)).elim
  · intro h i hi h1 h2
    have e := bs_mkL hi h2
    rw [h i e.1 h1] at e
    exact absurd e.2 (by decide)
theorem bs_mkAll : (65535 : Int32) = bs_mk (fun _ => true) 16 := by decide +kernel
/-- x between p and q -/
def bs_bw (x p q : Nat) : Bool := if q < p then decide (q ≤ x) && decide (x ≤ p) else decide (p ≤ x) && decide (x ≤ q)
/-- cell i in the rectangle of a and b -/
def bs_in (a b i : Nat) : Bool := bs_bw (i / 4) (a / 4) (b / 4) && bs_bw (i % 4) (a % 4) (b % 4)
theorem bs_bwC (p q : Nat) : bs_bw p p q = true := by
  unfold bs_bw
  by_cases h : q < p
  · rw [if_pos h, decide_eq_true (show q ≤ p by omega), decide_eq_true (show p ≤ p by omega)]; rfl
  · rw [if_neg h, decide_eq_true (show p ≤ q by omega), decide_eq_true (show p ≤ p by omega)]; rfl
theorem bs_inC (a b : Nat) : bs_in a b a = true := by
  unfold bs_in
  rw [bs_bwC, bs_bwC]; rfl
/-- how many below n -/
def bs_cnt (k : Nat → Bool) : Nat → Nat
  | 0 => 0
  | n + 1 => bs_cnt k n + (if k n = true then 1 else 0)
theorem bs_cntS (k : Nat → Bool) (n : Nat) : bs_cnt k (n + 1) = bs_cnt k n + (if k n = true then 1 else 0) := rfl
theorem bs_cntLe (k : Nat → Bool) : ∀ n, bs_cnt k n ≤ n := by
  intro n
  induction n with
  | zero => exact Nat.le_refl 0
  | succ n ih => rw [bs_cntS]; split <;> omega
theorem bs_cntAll {k : Nat → Bool} : ∀ n, n ≤ bs_cnt k n → ∀ i, i < n → k i = true := by
  intro n
  induction n with
  | zero => intro _ i hi; omega
  | succ n ih =>
    intro h i hi
    have l := bs_cntLe k n
    rw [bs_cntS] at h
    by_cases z : k n = true
    · rw [if_pos z] at h
      by_cases y : i = n
      · rw [y]; exact z
      · exact ih (by omega) i (by omega)
    · rw [if_neg z] at h; omega
theorem bs_cntM {k k' : Nat → Bool} : ∀ n, (∀ i, i < n → k i = true → k' i = true) → bs_cnt k n ≤ bs_cnt k' n := by
  intro n
  induction n with
  | zero => intro _; exact Nat.le_refl 0
  | succ n ih =>
    intro h
    have l := ih (fun i hi => h i (by omega))
    have m := h n (by omega)
    rw [bs_cntS, bs_cntS]
    by_cases z : k n = true
    · rw [if_pos z, if_pos (m z)]; omega
    · rw [if_neg z]; omega
theorem bs_cntE {k k' : Nat → Bool} : ∀ n, (∀ i, i < n → k i = true → k' i = true) → bs_cnt k' n ≤ bs_cnt k n → ∀ i, i < n → k' i = true → k i = true := by
  intro n
  induction n with
  | zero => intro _ _ i hi; omega
  | succ n ih =>
    intro h hc i hi hk
    have l := bs_cntM n (fun i hi => h i (by omega))
    have m := h n (by omega)
    rw [bs_cntS, bs_cntS] at hc
    by_cases y : i = n
    · subst y
      cases z : k i
      · rw [if_pos hk, if_neg (by rw [z]; decide)] at hc; omega
      · rfl
    · refine ih (fun i hi => h i (by omega)) ?_ i (by omega) hk
      by_cases z : k n = true
      · rw [if_pos z, if_pos (m z)] at hc; omega
      · rw [if_neg z] at hc; omega
theorem bs_round {F : (Nat → Bool) → Nat → Prop} {k0 k1 : Nat → Bool} {r : Nat} (hx : ∀ (k k' : Nat → Bool) (c : Nat), (∀ i, i < 16 → k i = true → k' i = true) → F k c → F k' c)
    (hm : ∀ i, i < 16 → k0 i = true → k1 i = true) (hF : ∀ c, c < 16 → F k0 c → k1 c = true)
    (hc : (∀ c, c < 16 → F k0 c → k0 c = true) → ∀ i, i < 16 → k1 i = true → k0 i = true)
    (h : r ≤ bs_cnt k0 16 ∨ ∀ c, c < 16 → F k0 c → k0 c = true) : r + 1 ≤ bs_cnt k1 16 ∨ ∀ c, c < 16 → F k1 c → k1 c = true := by
  by_cases z : bs_cnt k1 16 ≤ bs_cnt k0 16
  · right
    intro c hc' hf
    exact hF c hc' (hx k1 k0 c (bs_cntE 16 hm z) hf)
  · rcases h with h | h
    · left; omega
    · right
      intro c hc' hf
      exact hF c hc' (hx k1 k0 c (hc h) hf)
end
section
def bs_sm (x : Int32) (v : Nat → Int32) : Nat → Int32
  | 0 => 0
  | n + 1 => if bt x n = true then bs_sm x v n + v n else bs_sm x v n
def bs_mx (m x : Int32) (v : Nat → Int32) : Nat → Int32
  | 0 => m
  | n + 1 => if bt x n = true ∧ ¬ v n ≤ bs_mx m x v n then v n else bs_mx m x v n
def bs_mn (m x : Int32) (v : Nat → Int32) : Nat → Int32
  | 0 => m
  | n + 1 => if bt x n = true ∧ ¬ bs_mn m x v n ≤ v n then v n else bs_mn m x v n
def bs_up (x : Int32) (v : Nat → Int32) : Nat → Int32
  | 0 => 0
  | n + 1 => if bt x n = true ∧ ¬ v n ≤ 0 then bs_up x v n + 1 else bs_up x v n
theorem bs_smS (x : Int32) (v : Nat → Int32) (n : Nat) : bs_sm x v (n + 1) = if bt x n = true then bs_sm x v n + v n else bs_sm x v n := rfl
theorem bs_mxS (m x : Int32) (v : Nat → Int32) (n : Nat) : bs_mx m x v (n + 1) = if bt x n = true ∧ ¬ v n ≤ bs_mx m x v n then v n else bs_mx m x v n := rfl
theorem bs_mnS (m x : Int32) (v : Nat → Int32) (n : Nat) : bs_mn m x v (n + 1) = if bt x n = true ∧ ¬ bs_mn m x v n ≤ v n then v n else bs_mn m x v n := rfl
theorem bs_upS (x : Int32) (v : Nat → Int32) (n : Nat) : bs_up x v (n + 1) = if bt x n = true ∧ ¬ v n ≤ 0 then bs_up x v n + 1 else bs_up x v n := rfl
theorem bs_nf {b : Bool} (h : b = false) : ¬ b = true := by rw [h]; decide
theorem bs_smT {x : Int32} {v : Nat → Int32} {n : Nat} (h : bt x n = true) : bs_sm x v n + v n = bs_sm x v (n + 1) := (if_pos h).symm
theorem bs_smF {x : Int32} {v : Nat → Int32} {n : Nat} (h : bt x n = false) : bs_sm x v n = bs_sm x v (n + 1) := (if_neg (bs_nf h)).symm
theorem bs_mxT {m x : Int32} {v : Nat → Int32} {n : Nat} (h : bt x n = true) (g : ¬ v n ≤ bs_mx m x v n) : v n = bs_mx m x v (n + 1) := (if_pos ⟨h, g⟩).symm
theorem bs_mxL {m x : Int32} {v : Nat → Int32} {n : Nat} (g : v n ≤ bs_mx m x v n) : bs_mx m x v n = bs_mx m x v (n + 1) := (if_neg (fun z => z.2 g)).symm
theorem bs_mxF {m x : Int32} {v : Nat → Int32} {n : Nat} (h : bt x n = false) : bs_mx m x v n = bs_mx m x v (n + 1) := (if_neg (fun z => bs_nf h z.1)).symm
theorem bs_mnT {m x : Int32} {v : Nat → Int32} {n : Nat} (h : bt x n = true) (g : ¬ bs_mn m x v n ≤ v n) : v n = bs_mn m x v (n + 1) := (if_pos ⟨h, g⟩).symm
theorem bs_mnL {m x : Int32} {v : Nat → Int32} {n : Nat} (g : bs_mn m x v n ≤ v n) : bs_mn m x v n = bs_mn m x v (n + 1) := (if_neg (fun z => z.2 g)).symm
theorem bs_mnF {m x : Int32} {v : Nat → Int32} {n : Nat} (h : bt x n = false) : bs_mn m x v n = bs_mn m x v (n + 1) := (if_neg (fun z => bs_nf h z.1)).symm
theorem bs_upT {x : Int32} {v : Nat → Int32} {n : Nat} (h : bt x n = true) (g : ¬ v n ≤ 0) : bs_up x v n + 1 = bs_up x v (n + 1) := (if_pos ⟨h, g⟩).symm
theorem bs_upL {x : Int32} {v : Nat → Int32} {n : Nat} (g : v n ≤ 0) : bs_up x v n = bs_up x v (n + 1) := (if_neg (fun z => z.2 g)).symm
theorem bs_upF {x : Int32} {v : Nat → Int32} {n : Nat} (h : bt x n = false) : bs_up x v n = bs_up x v (n + 1) := (if_neg (fun z => bs_nf h z.1)).symm
theorem bs_foldC {x : Int32} {v w : Nat → Int32} (h : ∀ j, j < 16 → bt x j = true → v j = w j) (m m' : Int32) : ∀ n, n ≤ 16 → bs_sm x v n = bs_sm x w n ∧ bs_mx m x v n = bs_mx m x w n ∧ bs_mn m' x v n = bs_mn m' x w n ∧ bs_up x v n = bs_up x w n := by
  intro n
  induction n with
  | zero => intro _; exact ⟨rfl, rfl, rfl, rfl⟩
  | succ n ih =>
    intro hn
    obtain ⟨a, b, c, d⟩ := ih (by omega)
    cases hb : bt x n
    · rw [← bs_smF hb, ← bs_mxF hb, ← bs_mnF hb, ← bs_upF hb, ← bs_smF hb, ← bs_mxF hb, ← bs_mnF hb, ← bs_upF hb]
      exact ⟨a, b, c, d⟩
    · have e := h n (by omega) hb
      rw [bs_smS, bs_mxS, bs_mnS, bs_upS, bs_smS, bs_mxS, bs_mnS, bs_upS, a, b, c, d, e]
      exact ⟨rfl, rfl, rfl, rfl⟩
theorem bs_mxG (m x : Int32) (v : Nat → Int32) : ∀ n, m ≤ bs_mx m x v n ∧ (∀ i, i < n → bt x i = true → v i ≤ bs_mx m x v n) ∧ (bs_mx m x v n = m ∨ ∃ i, i < n ∧ bt x i = true ∧ bs_mx m x v n = v i) := by
  intro n
  induction n with
  | zero => exact ⟨Int32.le_refl m, fun i hi => by omega, Or.inl rfl⟩
  | succ n ih =>
    obtain ⟨a, b, c⟩ := ih
    by_cases z : bt x n = true ∧ ¬ v n ≤ bs_mx m x v n
    · rw [← bs_mxT z.1 z.2]
      have l : bs_mx m x v n ≤ v n := Int32.le_of_lt (Int32.not_le.mp z.2)
      refine ⟨Int32.le_trans a l, fun i hi hb => ?_, Or.inr ⟨n, by omega, z.1, rfl⟩⟩
      by_cases y : i = n
      · rw [y]; exact Int32.le_refl _
      · exact Int32.le_trans (b i (by omega) hb) l
    · rw [bs_mxS, if_neg z]
      refine ⟨a, fun i hi hb => ?_, ?_⟩
      · by_cases y : i = n
        · subst y
          by_cases q : v i ≤ bs_mx m x v i
          · exact q
          · exact absurd ⟨hb, q⟩ z
        · exact b i (by omega) hb
      · rcases c with c | ⟨i, hi, hb, e⟩
        · exact Or.inl c
        · exact Or.inr ⟨i, by omega, hb, e⟩
theorem bs_mnG (m x : Int32) (v : Nat → Int32) : ∀ n, bs_mn m x v n ≤ m ∧ (∀ i, i < n → bt x i = true → bs_mn m x v n ≤ v i) ∧ (bs_mn m x v n = m ∨ ∃ i, i < n ∧ bt x i = true ∧ bs_mn m x v n = v i) := by
  intro n
  induction n with
  | zero => exact ⟨Int32.le_refl m, fun i hi => by omega, Or.inl rfl⟩
  | succ n ih =>
    obtain ⟨a, b, c⟩ := ih
    by_cases z : bt x n = true ∧ ¬ bs_mn m x v n ≤ v n
    · rw [← bs_mnT z.1 z.2]
      have l : v n ≤ bs_mn m x v n := Int32.le_of_lt (Int32.not_le.mp z.2)
      refine ⟨Int32.le_trans l a, fun i hi hb => ?_, Or.inr ⟨n, by omega, z.1, rfl⟩⟩
      by_cases y : i = n
      · rw [y]; exact Int32.le_refl _
      · exact Int32.le_trans l (b i (by omega) hb)
    · rw [bs_mnS, if_neg z]
      refine ⟨a, fun i hi hb => ?_, ?_⟩
      · by_cases y : i = n
        · subst y
          by_cases q : bs_mn m x v i ≤ v i
          · exact q
          · exact absurd ⟨hb, q⟩ z
        · exact b i (by omega) hb
      · rcases c with c | ⟨i, hi, hb, e⟩
        · exact Or.inl c
        · exact Or.inr ⟨i, by omega, hb, e⟩
theorem bs_min (x : Int32) : (-2147483648 : Int32) ≤ x := by
  rw [Int32.le_iff_toInt_le]
  have h : (-2147483648 : Int32).toInt = -2147483648 := by decide
  have g := Int32.le_toInt x
  rw [h]
  exact g
theorem bs_max (x : Int32) : x ≤ (2147483647 : Int32) := by
  rw [Int32.le_iff_toInt_le]
  have h : (2147483647 : Int32).toInt = 2147483647 := by decide
  have g := Int32.toInt_lt x
  rw [h]
  omega
theorem bs_mxE {x : Int32} {v : Nat → Int32} {a : Nat} (ha : a < 16) (hb : bt x a = true) : bs_mx (v a) x v 16 = bs_mx (-2147483648) x v 16 := by
  obtain ⟨a1, b1, c1⟩ := bs_mxG (v a) x v 16
  obtain ⟨a2, b2, c2⟩ := bs_mxG (-2147483648) x v 16
  apply Int32.le_antisymm
  · rcases c1 with c | ⟨i, hi, hc, e⟩
    · rw [c]; exact b2 a ha hb
    · rw [e]; exact b2 i hi hc
  · rcases c2 with c | ⟨i, hi, hc, e⟩
    · rw [c]; exact bs_min _
    · rw [e]; exact b1 i hi hc
theorem bs_mnE {x : Int32} {v : Nat → Int32} {a : Nat} (ha : a < 16) (hb : bt x a = true) : bs_mn (v a) x v 16 = bs_mn 2147483647 x v 16 := by
  obtain ⟨a1, b1, c1⟩ := bs_mnG (v a) x v 16
  obtain ⟨a2, b2, c2⟩ := bs_mnG 2147483647 x v 16
  apply Int32.le_antisymm
  · rcases c2 with c | ⟨i, hi, hc, e⟩
    · rw [c]; exact bs_max _
    · rw [e]; exact b1 i hi hc
  · rcases c1 with c | ⟨i, hi, hc, e⟩
    · rw [c]; exact b2 a ha hb
    · rw [e]; exact b2 i hi hc
/-- the value of a cell that holds rd, oo, nu, over the values v -/
def bs_val (rd oo nu : Int32) (v : Nat → Int32) : Int32 :=
  if rd = 0 then nu else if oo = 1 then bs_mx (-2147483648) rd v 16 + nu else if oo = 2 then bs_mn 2147483647 rd v 16 + nu else if oo = 3 then bs_up rd v 16 + nu else bs_sm rd v 16 + nu
theorem bs_valC {rd oo nu : Int32} {v w : Nat → Int32} (h : ∀ j, j < 16 → bt rd j = true → v j = w j) : bs_val rd oo nu v = bs_val rd oo nu w := by
  obtain ⟨a, b, c, d⟩ := bs_foldC h (-2147483648) 2147483647 16 (Nat.le_refl 16)
  unfold bs_val
  rw [a, b, c, d]
def bs_rdy (R : Nat → Int32) (k : Nat → Bool) (c : Nat) : Prop := ∀ j, j < 16 → bt (R c) j = true → k j = true
def bs_D (R : Nat → Int32) (k : Nat → Bool) : Prop := ∀ c, c < 16 → bs_rdy R k c → k c = true
def bs_S (R O N : Nat → Int32) (k : Nat → Bool) (v : Nat → Int32) : Prop := ∀ i, i < 16 → k i = true → bs_rdy R k i ∧ v i = bs_val (R i) (O i) (N i) v
def bs_L (R O N : Nat → Int32) (k : Nat → Bool) (v : Nat → Int32) : Prop := ∀ (k' : Nat → Bool) (v' : Nat → Int32), bs_D R k' → bs_S R O N k' v' → ∀ i, i < 16 → k i = true → k' i = true ∧ v' i = v i
def bs_set (k : Nat → Bool) (c : Nat) : Nat → Bool := fun j => k j || decide (j = c)
/-- the settled sheet: what is known, and the values; an unknown cell's value is 0 -/
def bs_W (R O N : Nat → Int32) (k : Nat → Bool) (v : Nat → Int32) : Prop := bs_S R O N k v ∧ bs_L R O N k v ∧ bs_D R k ∧ ∀ i, i < 16 → k i = false → v i = 0
theorem bs_setS {k : Nat → Bool} {c : Nat} : bs_set k c c = true := by unfold bs_set; rw [decide_eq_true rfl, Bool.or_true]
theorem bs_setM {k : Nat → Bool} {c j : Nat} (h : k j = true) : bs_set k c j = true := by unfold bs_set; rw [h, Bool.true_or]
theorem bs_setN {k : Nat → Bool} {c j : Nat} (h : j ≠ c) : bs_set k c j = k j := by unfold bs_set; rw [decide_eq_false h, Bool.or_false]
theorem bs_updS {f : Nat → Int32} {k : Nat} {x : Int32} : upd f k x k = x := if_pos rfl
theorem bs_updN {f : Nat → Int32} {k j : Nat} {x : Int32} (h : j ≠ k) : upd f k x j = f j := if_neg h
theorem bs_stS {R O N : Nat → Int32} {k : Nat → Bool} {v : Nat → Int32} {c : Nat} (h : bs_S R O N k v) (hk : k c = false) (hr : bs_rdy R k c) : bs_S R O N (bs_set k c) (upd v c (bs_val (R c) (O c) (N c) v)) := by
  have ne : ∀ j, k j = true → j ≠ c := fun j hj e => by rw [e, hk] at hj; exact absurd hj (by decide)
  intro i hi hki
  by_cases z : i = c
  · subst z
    refine ⟨fun j hj hb => bs_setM (hr j hj hb), ?_⟩
    rw [bs_updS]
    exact bs_valC (fun j hj hb => (bs_updN (ne j (hr j hj hb))).symm)
  · rw [bs_setN z] at hki
    obtain ⟨h1, h2⟩ := h i hi hki
    refine ⟨fun j hj hb => bs_setM (h1 j hj hb), ?_⟩
    rw [bs_updN z, h2]
    exact bs_valC (fun j hj hb => (bs_updN (ne j (h1 j hj hb))).symm)
theorem bs_stL {R O N : Nat → Int32} {k : Nat → Bool} {v : Nat → Int32} {c : Nat} (h : bs_L R O N k v) (hc : c < 16) (hr : bs_rdy R k c) : bs_L R O N (bs_set k c) (upd v c (bs_val (R c) (O c) (N c) v)) := by
  intro k' v' hD hS i hi hki
  by_cases z : i = c
  · subst z
    have hk : k' i = true := hD i hi (fun j hj hb => (h k' v' hD hS j hj (hr j hj hb)).1)
    refine ⟨hk, ?_⟩
    rw [bs_updS, (hS i hi hk).2]
    exact bs_valC (fun j hj hb => (h k' v' hD hS j hj (hr j hj hb)).2)
  · rw [bs_setN z] at hki
    rw [bs_updN z]
    exact h k' v' hD hS i hi hki
theorem bs_cS {R O N : Nat → Int32} {k : Nat → Bool} {v w : Nat → Int32} (h : bs_S R O N k v) (e : ∀ i, i < 16 → k i = true → w i = v i) : bs_S R O N k w := by
  intro i hi hk
  obtain ⟨h1, h2⟩ := h i hi hk
  refine ⟨h1, ?_⟩
  rw [e i hi hk, h2]
  exact bs_valC (fun j hj hb => (e j hj (h1 j hj hb)).symm)
theorem bs_cL {R O N : Nat → Int32} {k : Nat → Bool} {v w : Nat → Int32} (h : bs_L R O N k v) (e : ∀ i, i < 16 → k i = true → w i = v i) : bs_L R O N k w := by
  intro k' v' hD hS i hi hk
  rw [e i hi hk]
  exact h k' v' hD hS i hi hk
theorem bs_uniq {R O N : Nat → Int32} {k k' : Nat → Bool} {v v' : Nat → Int32} (h : bs_W R O N k v) (h' : bs_W R O N k' v') : ∀ i, i < 16 → k i = k' i ∧ v i = v' i := by
  obtain ⟨S, L, D, Z⟩ := h
  obtain ⟨S', L', D', Z'⟩ := h'
  intro i hi
  cases a : k i
  · cases b : k' i
    · exact ⟨rfl, by rw [Z i hi a, Z' i hi b]⟩
    · have e := (L' k v D S i hi b).1
      rw [a] at e; exact absurd e (by decide)
  · obtain ⟨e, f⟩ := L k' v' D' S' i hi a
    exact ⟨e.symm, f.symm⟩
theorem bs_rdyM {R : Nat → Int32} (k k' : Nat → Bool) (c : Nat) (h : ∀ i, i < 16 → k i = true → k' i = true) (g : bs_rdy R k c) : bs_rdy R k' c := fun j hj hb => h j hj (g j hj hb)
theorem bs_rndS {R O N : Nat → Int32} {k0 k1 : Nat → Bool} {v0 v1 : Nat → Int32} {r : Nat} (hm : ∀ i, i < 16 → k0 i = true → k1 i = true) (hF : ∀ c, c < 16 → bs_rdy R k0 c → k1 c = true)
    (S0 : bs_S R O N k0 v0) (L1 : bs_L R O N k1 v1) (h : r ≤ bs_cnt k0 16 ∨ bs_D R k0) : r + 1 ≤ bs_cnt k1 16 ∨ bs_D R k1 :=
  bs_round (F := fun k c => bs_rdy R k c) bs_rdyM hm hF (fun hD i hi hk => (L1 k0 v0 hD S0 i hi hk).1) h
theorem bs_endD {R : Nat → Int32} {k : Nat → Bool} (h : 16 ≤ bs_cnt k 16 ∨ bs_D R k) : bs_D R k := by
  rcases h with h | h
  · exact fun c hc _ => bs_cntAll 16 h c hc
  · exact h
/-- the dependents of cell c: the closed sets and the least -/
def bs_dF (R : Nat → Int32) (c : Nat) (k : Nat → Bool) (f : Nat) : Prop := bt (R f) c = true ∨ ∃ j, j < 16 ∧ bt (R f) j = true ∧ k j = true
def bs_dD (R : Nat → Int32) (c : Nat) (k : Nat → Bool) : Prop := ∀ f, f < 16 → bs_dF R c k f → k f = true
def bs_dL (R : Nat → Int32) (c : Nat) (k : Nat → Bool) : Prop := ∀ k' : Nat → Bool, bs_dD R c k' → ∀ f, f < 16 → k f = true → k' f = true
theorem bs_dFM {R : Nat → Int32} {c : Nat} (k k' : Nat → Bool) (f : Nat) (h : ∀ i, i < 16 → k i = true → k' i = true) (g : bs_dF R c k f) : bs_dF R c k' f := by
  rcases g with g | ⟨j, hj, hb, hk⟩
  · exact Or.inl g
  · exact Or.inr ⟨j, hj, hb, h j hj hk⟩
theorem bs_rndD {R : Nat → Int32} {c : Nat} {k0 k1 : Nat → Bool} {r : Nat} (hm : ∀ i, i < 16 → k0 i = true → k1 i = true) (hF : ∀ f, f < 16 → bs_dF R c k0 f → k1 f = true)
    (L1 : bs_dL R c k1) (h : r ≤ bs_cnt k0 16 ∨ bs_dD R c k0) : r + 1 ≤ bs_cnt k1 16 ∨ bs_dD R c k1 :=
  bs_round (F := fun k f => bs_dF R c k f) bs_dFM hm hF (fun hD i hi hk => L1 k0 hD i hi hk) h
theorem bs_endDD {R : Nat → Int32} {c : Nat} {k : Nat → Bool} (h : 16 ≤ bs_cnt k 16 ∨ bs_dD R c k) : bs_dD R c k := by
  rcases h with h | h
  · exact fun c hc _ => bs_cntAll 16 h c hc
  · exact h
theorem bs_dU {R : Nat → Int32} {c : Nat} {k k' : Nat → Bool} (D : bs_dD R c k) (L : bs_dL R c k) (D' : bs_dD R c k') (L' : bs_dL R c k') : bs_mk k 16 = bs_mk k' 16 := by
  apply bs_mkE
  intro i hi
  cases a : k i
  · cases b : k' i
    · rfl
    · have e := L' k D i hi b
      rw [a] at e; exact absurd e (by decide)
  · exact (L k' D' i hi a).symm
end
section
theorem bs_16 : (16 : Int32) ≤ nI 16 := by decide
theorem bs_n16 {i : Nat} (h : i < 16) : ¬ (16 : Int32) ≤ nI i := nI_ge (b := 16) h (by decide)
theorem bs_cl {i : Nat} (h : i < 16) : (nI i).toNatClampNeg = i := nI_clamp (by omega)
theorem bs_vi {i : Nat} (h : i < 16) : vp_in (nI i) 16 := vp_in_nI h (by decide)
theorem pk_lt {x y : Int32} {A B : Prop} (a b : Nat) (f : a < b → A) (g : b ≤ a → B) (hx : x = nI a := by rfl) (hy : y = nI b := by rfl) (ha : a < 2 ^ 31 := by omega) (hb : b < 2 ^ 31 := by omega) : (x < y → A) ∧ (¬ x < y → B) := by
  subst hx hy
  rw [nI_ltI ha hb]
  exact ⟨f, fun z => g (by omega)⟩
/-- a cell's number -/
def bs_cell (p : Int32) : Prop := ∃ i : Nat, i < 16 ∧ p = nI i
theorem bs_cellN {p : Int32} (h : ¬ bs_cell p) (h0 : ¬ p < 0) : (16 : Int32) ≤ p := by
  obtain ⟨j, hj, rfl⟩ := nI_of h0
  by_cases z : j < 16
  · exact absurd ⟨j, z, rfl⟩ h
  · exact nI_le (a := 16) (by omega) hj
theorem xs_cellT {post : Int32 → Prop} {i : Nat} (hi : i < 16) (h : post 1) : wpX_isCell post (nI i) :=
  br_f (nI_pos (by omega)) (br_f (bs_n16 hi) h)
theorem xs_cellF {post : Int32 → Prop} {p : Int32} (hp : ¬ bs_cell p) (h : post 0) : wpX_isCell post p :=
  br_c (fun _ => h) (fun z => br_t (bs_cellN hp z) h)
theorem xs_bw {post : Int32 → Prop} {x p q : Nat} (hx : x < 16) (hp : p < 16) (hq : q < 16) (h1 : bs_bw x p q = true → post 1) (h0 : bs_bw x p q = false → post 0) : wpX_isBetween post (nI x) (nI p) (nI q) := by
  unfold bs_bw at h1 h0
  refine pk_lt q p (fun a => ?_) (fun a => ?_)
  · rw [if_pos a] at h1 h0
    refine pk_lt x q (fun b => h0 ?_) (fun b => pk_lt p x (fun e => h0 ?_) (fun e => h1 ?_))
    · rw [decide_eq_false (show ¬ q ≤ x by omega)]; rfl
    · rw [decide_eq_false (show ¬ x ≤ p by omega), Bool.and_false]
    · rw [decide_eq_true (show q ≤ x by omega), decide_eq_true (show x ≤ p by omega)]; rfl
  · rw [if_neg (show ¬ q < p by omega)] at h1 h0
    refine pk_lt x p (fun b => h0 ?_) (fun b => pk_lt q x (fun e => h0 ?_) (fun e => h1 ?_))
    · rw [decide_eq_false (show ¬ p ≤ x by omega)]; rfl
    · rw [decide_eq_false (show ¬ x ≤ q by omega), Bool.and_false]
    · rw [decide_eq_true (show p ≤ x by omega), decide_eq_true (show x ≤ q by omega)]; rfl
theorem bs_d4 : ∀ i, i < 16 → nI i / 4 = nI (i / 4) := by decide +kernel
theorem bs_r4 : ∀ i, i < 16 → nI i - nI i / 4 * 4 = nI (i % 4) := by decide +kernel
theorem bs_n40 : ¬ (4 : Int32) = 0 := by decide
theorem bs_n10 : ¬ (1 : Int32) = 0 := by decide
theorem xs_rectL {post : Int32 → Prop} {a b : Nat} (ha : a < 16) (hb : b < 16) (h : post (bs_mk (bs_in a b) 16)) : ∀ d i : Nat, i + d = 16 → wX_rectangleOf_4 post (nI a) (nI b) (d + 1) (bs_mk (bs_in a b) i) (nI i) := by
  intro d
  induction d with
  | zero =>
    intro i hi
    obtain rfl : i = 16 := by omega
    exact br_t bs_16 h
  | succ d ih =>
    intro i hi
    have hl : i < 16 := by omega
    have hn := ih (i + 1) (by omega)
    refine br_f (bs_n16 hl) ⟨bs_n40, bs_n40, bs_n40, ?_⟩
    rw [bs_r4 i hl, bs_r4 a ha, bs_r4 b hb, bs_d4 i hl, bs_d4 a ha, bs_d4 b hb]
    refine xs_bw (by omega) (by omega) (by omega) (fun p1 => br_f bs_n10 ⟨bs_n40, bs_n40, bs_n40, ?_⟩) (fun p0 => br_t rfl (nm_r (nI_1 i) ?_))
    · refine xs_bw (by omega) (by omega) (by omega) (fun q1 => br_f bs_n10 ?_) (fun q0 => br_t rfl (nm_r (nI_1 i) ?_))
      · exact nm_r (bs_mkT (p := bs_in a b) (by unfold bs_in; rw [p1, q1]; rfl)).symm (nm_r (nI_1 i) hn)
      · rw [bs_mkF (p := bs_in a b) (by unfold bs_in; rw [q0, Bool.and_false])] at hn
        exact hn
    · rw [bs_mkF (p := bs_in a b) (by unfold bs_in; rw [p0, Bool.false_and])] at hn
      exact hn
theorem xs_rect {post : Int32 → Prop} {a b : Nat} (ha : a < 16) (hb : b < 16) (h : post (bs_mk (bs_in a b) 16)) : wpX_rectangleOf post (nI a) (nI b) :=
  ⟨17, xs_rectL ha hb h 16 0 rfl⟩
theorem xs_sumL {post : Int32 → Prop} {x : Int32} {B T c : Int32} {R O N V VB pc pr po pn : Nat → Int32} (h : post (bs_sm x V 16)) : ∀ d i : Nat, i + d = 16 → wX_sumOf_4 post x B T c R O N V VB pc pr po pn (d + 1) (bs_sm x V i) (nI i) := by
  intro d
  induction d with
  | zero =>
    intro i hi
    obtain rfl : i = 16 := by omega
    exact br_t bs_16 h
  | succ d ih =>
    intro i hi
    have hl : i < 16 := by omega
    have hn := ih (i + 1) (by omega)
    refine br_f (bs_n16 hl) ?_
    cases z : bt x i
    · rw [← bs_smF z] at hn
      exact br_t (bs_bit0 hl z) (nm_r (nI_1 i) hn)
    · refine br_f (bs_bit1 hl z) ⟨bs_vi hl, ?_⟩
      rw [bs_cl hl]
      exact nm_r (bs_smT z) (nm_r (nI_1 i) hn)
theorem xs_sum {post : Int32 → Prop} {x : Int32} {B T c : Int32} {R O N V VB pc pr po pn : Nat → Int32} (h : post (bs_sm x V 16)) : wpX_sumOf post (B, T, c, R, O, N, V, VB, pc, pr, po, pn) x :=
  ⟨17, xs_sumL h 16 0 rfl⟩
theorem xs_greL {post : Int32 → Prop} {x : Int32} {B T c : Int32} {R O N V VB pc pr po pn : Nat → Int32} (h : post (bs_mx (-2147483648) x V 16)) : ∀ d i : Nat, i + d = 16 → wX_greatestOf_5 post x B T c R O N V VB pc pr po pn (d + 1) (bs_mx (-2147483648) x V i) (nI i) := by
  intro d
  induction d with
  | zero =>
    intro i hi
    obtain rfl : i = 16 := by omega
    exact br_t bs_16 h
  | succ d ih =>
    intro i hi
    have hl : i < 16 := by omega
    have hn := ih (i + 1) (by omega)
    refine br_f (bs_n16 hl) ?_
    cases z : bt x i
    · rw [← bs_mxF z] at hn
      exact br_t (bs_bit0 hl z) (nm_r (nI_1 i) hn)
    · refine br_f (bs_bit1 hl z) ⟨bs_vi hl, ?_⟩
      rw [bs_cl hl]
      by_cases g : V i ≤ bs_mx (-2147483648) x V i
      · rw [← bs_mxL g] at hn
        exact br_t g (nm_r (nI_1 i) hn)
      · exact br_f g ⟨bs_vi hl, nm_r (bs_mxT z g) (nm_r (nI_1 i) hn)⟩
theorem xs_gre {post : Int32 → Prop} {x : Int32} {B T c : Int32} {R O N V VB pc pr po pn : Nat → Int32} (h : post (bs_mx (-2147483648) x V 16)) : wpX_greatestOf post (B, T, c, R, O, N, V, VB, pc, pr, po, pn) x :=
  ⟨17, xs_greL h 16 0 rfl⟩
theorem xs_leaL {post : Int32 → Prop} {x : Int32} {B T c : Int32} {R O N V VB pc pr po pn : Nat → Int32} (h : post (bs_mn 2147483647 x V 16)) : ∀ d i : Nat, i + d = 16 → wX_leastOf_5 post x B T c R O N V VB pc pr po pn (d + 1) (bs_mn 2147483647 x V i) (nI i) := by
  intro d
  induction d with
  | zero =>
    intro i hi
    obtain rfl : i = 16 := by omega
    exact br_t bs_16 h
  | succ d ih =>
    intro i hi
    have hl : i < 16 := by omega
    have hn := ih (i + 1) (by omega)
    refine br_f (bs_n16 hl) ?_
    cases z : bt x i
    · rw [← bs_mnF z] at hn
      exact br_t (bs_bit0 hl z) (nm_r (nI_1 i) hn)
    · refine br_f (bs_bit1 hl z) ⟨bs_vi hl, ?_⟩
      rw [bs_cl hl]
      by_cases g : bs_mn 2147483647 x V i ≤ V i
      · rw [← bs_mnL g] at hn
        exact br_t g (nm_r (nI_1 i) hn)
      · exact br_f g ⟨bs_vi hl, nm_r (bs_mnT z g) (nm_r (nI_1 i) hn)⟩
theorem xs_lea {post : Int32 → Prop} {x : Int32} {B T c : Int32} {R O N V VB pc pr po pn : Nat → Int32} (h : post (bs_mn 2147483647 x V 16)) : wpX_leastOf post (B, T, c, R, O, N, V, VB, pc, pr, po, pn) x :=
  ⟨17, xs_leaL h 16 0 rfl⟩
theorem xs_upL {post : Int32 → Prop} {x : Int32} {B T c : Int32} {R O N V VB pc pr po pn : Nat → Int32} (h : post (bs_up x V 16)) : ∀ d i : Nat, i + d = 16 → wX_countAboveZero_4 post x B T c R O N V VB pc pr po pn (d + 1) (bs_up x V i) (nI i) := by
  intro d
  induction d with
  | zero =>
    intro i hi
    obtain rfl : i = 16 := by omega
    exact br_t bs_16 h
  | succ d ih =>
    intro i hi
    have hl : i < 16 := by omega
    have hn := ih (i + 1) (by omega)
    refine br_f (bs_n16 hl) ?_
    cases z : bt x i
    · rw [← bs_upF z] at hn
      exact br_t (bs_bit0 hl z) (nm_r (nI_1 i) hn)
    · refine br_f (bs_bit1 hl z) ⟨bs_vi hl, ?_⟩
      rw [bs_cl hl]
      by_cases g : V i ≤ 0
      · rw [← bs_upL g] at hn
        exact br_t g (nm_r (nI_1 i) hn)
      · exact br_f g (nm_r (bs_upT z g) (nm_r (nI_1 i) hn))
theorem xs_up {post : Int32 → Prop} {x : Int32} {B T c : Int32} {R O N V VB pc pr po pn : Nat → Int32} (h : post (bs_up x V 16)) : wpX_countAboveZero post (B, T, c, R, O, N, V, VB, pc, pr, po, pn) x :=
  ⟨17, xs_upL h 16 0 rfl⟩
theorem xs_wo {post : Int32 → Prop} {B T c : Int32} {R O N V VB pc pr po pn : Nat → Int32} {f : Nat} (hf : f < 16) (h : post (bs_val (R f) (O f) (N f) V)) : wpX_workedOut post (B, T, c, R, O, N, V, VB, pc, pr, po, pn) (nI f) := by
  have vf := bs_vi hf
  unfold wpX_workedOut
  rw [bs_cl hf]
  refine ⟨vf, ?_⟩
  unfold bs_val at h
  by_cases z : R f = 0
  · rw [if_pos z] at h
    exact br_t z ⟨vf, h⟩
  · rw [if_neg z] at h
    refine br_f z ⟨vf, nm_e ?_⟩
    by_cases o1 : O f = 1
    · rw [if_pos o1] at h
      exact br_f (by rw [o1]; decide) (br_f (by rw [o1]; decide) (br_t o1 ⟨vf, xs_gre ⟨vf, h⟩⟩))
    · rw [if_neg o1] at h
      by_cases o2 : O f = 2
      · rw [if_pos o2] at h
        exact br_f (by rw [o2]; decide) (br_f (by rw [o2]; decide) (br_f o1 (br_t o2 ⟨vf, xs_lea ⟨vf, h⟩⟩)))
      · rw [if_neg o2] at h
        by_cases o3 : O f = 3
        · rw [if_pos o3] at h
          exact br_f (by rw [o3]; decide) (br_f (by rw [o3]; decide) (br_f o1 (br_f o2 (br_t o3 ⟨vf, xs_up ⟨vf, h⟩⟩))))
        · rw [if_neg o3] at h
          exact br_c (fun _ => ⟨vf, xs_sum ⟨vf, h⟩⟩) (fun _ => br_c (fun _ => ⟨vf, xs_sum ⟨vf, h⟩⟩) (fun _ => br_f o1 (br_f o2 (br_f o3 trivial))))
theorem xs_difL {post : Int32 → Prop} {B T c : Int32} {R O N V VB pc pr po pn : Nat → Int32} (h : post (bs_mk (fun j => !decide (V j = VB j)) 16)) : ∀ d i : Nat, i + d = 16 → wX_differingValues_4 post B T c R O N V VB pc pr po pn (d + 1) (bs_mk (fun j => !decide (V j = VB j)) i) (nI i) := by
  intro d
  induction d with
  | zero =>
    intro i hi
    obtain rfl : i = 16 := by omega
    exact br_t bs_16 h
  | succ d ih =>
    intro i hi
    have hl : i < 16 := by omega
    have hn := ih (i + 1) (by omega)
    refine br_f (bs_n16 hl) ⟨bs_vi hl, bs_vi hl, ?_⟩
    rw [bs_cl hl]
    by_cases z : V i = VB i
    · rw [bs_mkF (p := fun j => !decide (V j = VB j)) (n := i) (by rw [decide_eq_true z]; rfl)] at hn
      exact br_t z (nm_r (nI_1 i) hn)
    · exact br_f z (nm_r (bs_mkT (p := fun j => !decide (V j = VB j)) (n := i) (by rw [decide_eq_false z]; rfl)).symm (nm_r (nI_1 i) hn))
theorem xs_dif {post : Int32 → Prop} {B T c : Int32} {R O N V VB pc pr po pn : Nat → Int32} (h : post (bs_mk (fun j => !decide (V j = VB j)) 16)) : wpX_differingValues post (B, T, c, R, O, N, V, VB, pc, pr, po, pn) :=
  ⟨17, xs_difL h 16 0 rfl⟩
theorem xs_rdrL {post : Int32 → Prop} {x : Int32} {B T c : Int32} {R O N V VB pc pr po pn : Nat → Int32} (h : post (bs_mk (fun j => !decide (R j &&& x = 0)) 16)) : ∀ d i : Nat, i + d = 16 → wX_readersOf_4 post x B T c R O N V VB pc pr po pn (d + 1) (bs_mk (fun j => !decide (R j &&& x = 0)) i) (nI i) := by
  intro d
  induction d with
  | zero =>
    intro i hi
    obtain rfl : i = 16 := by omega
    exact br_t bs_16 h
  | succ d ih =>
    intro i hi
    have hl : i < 16 := by omega
    have hn := ih (i + 1) (by omega)
    refine br_f (bs_n16 hl) ⟨bs_vi hl, ?_⟩
    rw [bs_cl hl]
    by_cases z : R i &&& x = 0
    · rw [bs_mkF (p := fun j => !decide (R j &&& x = 0)) (n := i) (by rw [decide_eq_true z]; rfl)] at hn
      exact br_t z (nm_r (nI_1 i) hn)
    · exact br_f z (nm_r (bs_mkT (p := fun j => !decide (R j &&& x = 0)) (n := i) (by rw [decide_eq_false z]; rfl)).symm (nm_r (nI_1 i) hn))
theorem xs_rdr {post : Int32 → Prop} {x : Int32} {B T c : Int32} {R O N V VB pc pr po pn : Nat → Int32} (h : post (bs_mk (fun j => !decide (R j &&& x = 0)) 16)) : wpX_readersOf post (B, T, c, R, O, N, V, VB, pc, pr, po, pn) x :=
  ⟨17, xs_rdrL h 16 0 rfl⟩
theorem bs_rd1 {R : Nat → Int32} {c : Nat} (hc : c < 16) : bs_mk (fun j => !decide (R j &&& ((1 : Int32) <<< (nI c &&& 31)) = 0)) 16 = bs_mk (fun j => bt (R j) c) 16 := by
  apply bs_mkE
  intro i hi
  cases z : bt (R i) c
  · rw [decide_eq_true (bs_bit0 hc z)]; rfl
  · rw [decide_eq_false (bs_bit1 hc z)]; rfl
end
section
theorem bs_opn {k : Nat → Bool} {i : Nat} (hi : i < 16) (h : k i = true) : bt (bs_mk (fun j => !k j) 16) i = false := by
  rw [bs_mk16 _ hi, h]; rfl
theorem bs_cls {k : Nat → Bool} {i : Nat} (hi : i < 16) (h : k i = false) : bt (bs_mk (fun j => !k j) 16) i = true := by
  rw [bs_mk16 _ hi, h]; rfl
theorem bs_clr (k : Nat → Bool) {i : Nat} (hi : i < 16) : (bs_mk (fun j => !k j) 16) &&& (((1 : Int32) <<< (nI i &&& 31)) ^^^ (-1)) = bs_mk (fun j => !bs_set k i j) 16 := by
  rw [bs_mkClr _ hi]
  apply bs_mkE
  intro j _
  unfold bs_set
  rw [Bool.not_or]
theorem bs_rdyZ {R : Nat → Int32} {k : Nat → Bool} {i : Nat} : R i &&& (bs_mk (fun j => !k j) 16) = 0 ↔ bs_rdy R k i := by
  rw [bs_mkZ]
  constructor
  · intro h j hj hb
    have e := h j hj hb
    cases z : k j
    · rw [z] at e; exact absurd e (by decide)
    · rfl
  · intro h j hj hb
    rw [h j hj hb]; rfl
theorem xs_inner {post : SX → Prop} {J5 : Int32 → Int32 → (Nat → Int32) → (Nat → Int32) → (Nat → Int32) → (Nat → Int32) → (Nat → Int32) → (Nat → Int32) → (Nat → Int32) → (Nat → Int32) → (Nat → Int32) → Prop} {x2 : Int32} {B T c : Int32} {R O N V VB pc pr po pn : Nat → Int32} {k0 : Nat → Bool}
    (H : ∀ (k : Nat → Bool) (V : Nat → Int32), (∀ i, i < 16 → k0 i = true → k i = true) → (∀ q, q < 16 → bs_rdy R k0 q → k q = true) → bs_S R O N k V → bs_L R O N k V → J5 (bs_mk (fun j => !k j) 16) (x2 + 1) R O N V VB pc pr po pn) :
    ∀ d i : Nat, i + d = 16 → ∀ (k : Nat → Bool) (V : Nat → Int32), (∀ i, i < 16 → k0 i = true → k i = true) → (∀ q, q < i → bs_rdy R k0 q → k q = true) → bs_S R O N k V → bs_L R O N k V → wX_settle_13 post J5 x2 B T c (d + 1) (bs_mk (fun j => !k j) 16) (nI i) R O N V VB pc pr po pn := by
  intro d
  induction d with
  | zero =>
    intro i hi k V hm hF S L
    obtain rfl : i = 16 := by omega
    exact br_t bs_16 (nm_e (H k V hm hF S L))
  | succ d ih =>
    intro i hi k V hm hF S L
    have hl : i < 16 := by omega
    refine br_f (bs_n16 hl) ?_
    cases z : k i
    · refine br_f (bs_bit1 hl (bs_cls hl z)) ⟨bs_vi hl, ?_⟩
      rw [bs_cl hl]
      by_cases q : bs_rdy R k i
      · refine br_t (bs_rdyZ.mpr q) (xs_wo hl ⟨bs_vi hl, nm_e (nm_r (bs_clr k hl) (nm_r (nI_1 i) ?_))⟩)
        refine ih (i + 1) (by omega) (bs_set k i) _ (fun j hj h => bs_setM (hm j hj h)) (fun j hj hr => ?_) (bs_stS S z q) (bs_stL L hl q)
        by_cases y : j = i
        · rw [y]; exact bs_setS
        · exact bs_setM (hF j (by omega) hr)
      · refine br_f (fun e => q (bs_rdyZ.mp e)) (nm_r (nI_1 i) (ih (i + 1) (by omega) k V hm (fun j hj hr => ?_) S L))
        by_cases y : j = i
        · rw [y] at hr; exact absurd (bs_rdyM k0 k i hm hr) q
        · exact hF j (by omega) hr
    · refine br_t (bs_bit0 hl (bs_opn hl z)) (nm_r (nI_1 i) (ih (i + 1) (by omega) k V hm (fun j hj hr => ?_) S L))
      by_cases y : j = i
      · rw [y]; exact z
      · exact hF j (by omega) hr
theorem xs_outer {post : SX → Prop} {B T c : Int32} {R O N V VB pc pr po pn : Nat → Int32}
    (H : ∀ (k : Nat → Bool) (V : Nat → Int32), bs_S R O N k V → bs_L R O N k V → bs_D R k → ∃ n : Nat, wX_settle_76 post (bs_mk (fun j => !k j) 16) (bs_mk (fun j => !k j) 16) T c n 0 R O N V VB pc pr po pn) :
    ∀ d i : Nat, i + d = 16 → ∀ (k : Nat → Bool) (V : Nat → Int32), bs_S R O N k V → bs_L R O N k V → (i ≤ bs_cnt k 16 ∨ bs_D R k) → wX_settle_5 post B T c (d + 1) (bs_mk (fun j => !k j) 16) (nI i) R O N V VB pc pr po pn := by
  intro d
  induction d with
  | zero =>
    intro i hi k V S L h
    obtain rfl : i = 16 := by omega
    exact br_t bs_16 (H k V S L (bs_endD h))
  | succ d ih =>
    intro i hi k V S L h
    have hl : i < 16 := by omega
    refine br_f (bs_n16 hl) ⟨17, xs_inner (V := V) (k0 := k) (fun k1 V1 hm hF S1 L1 => ?_) 16 0 rfl k V (fun _ _ h => h) (fun q hq => absurd hq (by omega)) S L⟩
    rw [nI_1 i]
    exact ih (i + 1) (by omega) k1 V1 S1 L1 (bs_rndS hm hF S L1 h)
theorem xs_zero {post : SX → Prop} {B T c : Int32} {R O N V VB pc pr po pn : Nat → Int32} {k : Nat → Bool} {V0 : Nat → Int32}
    (H : ∀ V : Nat → Int32, (∀ j, j < 16 → k j = true → V j = V0 j) → (∀ j, j < 16 → k j = false → V j = 0) → post (B, T, c, R, O, N, V, VB, pc, pr, po, pn)) :
    ∀ d i : Nat, i + d = 16 → ∀ V : Nat → Int32, (∀ j, j < 16 → k j = true → V j = V0 j) → (∀ j, j < i → k j = false → V j = 0) → wX_settle_76 post (bs_mk (fun j => !k j) 16) B T c (d + 1) (nI i) R O N V VB pc pr po pn := by
  intro d
  induction d with
  | zero =>
    intro i hi V h1 h0
    obtain rfl : i = 16 := by omega
    exact br_t bs_16 (H V h1 h0)
  | succ d ih =>
    intro i hi V h1 h0
    have hl : i < 16 := by omega
    refine br_f (bs_n16 hl) ?_
    cases z : k i
    · refine br_f (bs_bit1 hl (bs_cls hl z)) ⟨bs_vi hl, ?_⟩
      rw [bs_cl hl]
      refine nm_e (nm_r (nI_1 i) (ih (i + 1) (by omega) _ (fun j hj hk => ?_) (fun j hj hk => ?_)))
      · by_cases y : j = i
        · rw [y, z] at hk; exact absurd hk (by decide)
        · rw [bs_updN y]; exact h1 j hj hk
      · by_cases y : j = i
        · rw [y]; exact bs_updS
        · rw [bs_updN y]; exact h0 j (by omega) hk
    · refine br_t (bs_bit0 hl (bs_opn hl z)) (nm_r (nI_1 i) (ih (i + 1) (by omega) V h1 (fun j hj hk => ?_)))
      by_cases y : j = i
      · rw [y, z] at hk; exact absurd hk (by decide)
      · exact h0 j (by omega) hk
theorem xs_settle {post : SX → Prop} {B T c : Int32} {R O N V VB pc pr po pn : Nat → Int32}
    (H : ∀ (k : Nat → Bool) (V : Nat → Int32), bs_W R O N k V → post ((bs_mk (fun j => !k j) 16), T, c, R, O, N, V, VB, pc, pr, po, pn)) : wpX_settle post (B, T, c, R, O, N, V, VB, pc, pr, po, pn) := by
  have e : ∀ (k : Nat → Bool) (V : Nat → Int32), bs_S R O N k V → bs_L R O N k V → bs_D R k → ∃ n : Nat, wX_settle_76 post (bs_mk (fun j => !k j) 16) (bs_mk (fun j => !k j) 16) T c n 0 R O N V VB pc pr po pn := fun k V0 S L D =>
    ⟨17, xs_zero (B := (bs_mk (fun j => !k j) 16)) (V := V0) (V0 := V0) (fun V h1 h0 => H k V ⟨bs_cS S h1, bs_cL L h1, D, h0⟩) 16 0 rfl V0 (fun _ _ _ => rfl) (fun q hq => absurd hq (by omega))⟩
  have h := xs_outer (B := B) (V := V) e 16 0 rfl (fun _ => false) V (fun i hi hk => absurd hk Bool.false_ne_true) (fun k' v' _ _ i hi hk => absurd hk Bool.false_ne_true) (Or.inl (Nat.zero_le _))
  have m : bs_mk (fun j => !(fun _ : Nat => false) j) 16 = (65535 : Int32) := bs_mkAll.symm
  rw [m] at h
  exact ⟨17, h⟩
theorem xs_holdL {post : SX → Prop} {x2 x3 x4 x5 : Int32} {B T c : Int32} {R O N V VB pc pr po pn : Nat → Int32} {f : Nat} (hf : f < 16)
    (H : ∀ (VB : Nat → Int32) (k : Nat → Bool) (V' : Nat → Int32), bs_W (upd R f x2) (upd O f x3) (upd N f x4) k V' → post ((bs_mk (fun j => !k j) 16), (x5 ^^^ (bs_mk (fun j => !k j) 16)) ||| bs_mk (fun j => !decide (V' j = V j)) 16, c, upd R f x2, upd O f x3, upd N f x4, V', VB, pc, pr, po, pn)) :
    ∀ d i : Nat, i + d = 16 → ∀ VB : Nat → Int32, (∀ j, j < i → VB j = V j) → wX_hold_9 post (nI f) x2 x3 x4 x5 B T c (d + 1) (nI i) R O N V VB pc pr po pn := by
  intro d
  induction d with
  | zero =>
    intro i hi VB hv
    obtain rfl : i = 16 := by omega
    have vf := bs_vi hf
    refine br_t bs_16 ⟨vf, ?_⟩
    rw [bs_cl hf]
    refine nm_e ⟨vf, nm_e ⟨vf, nm_e (xs_settle (fun k V' W => xs_dif (nm_e ?_)))⟩⟩
    have e : bs_mk (fun j => !decide (V' j = VB j)) 16 = bs_mk (fun j => !decide (V' j = V j)) 16 := bs_mkE (fun j hj => by rw [hv j hj])
    rw [e]
    exact H VB k V' W
  | succ d ih =>
    intro i hi VB hv
    have hl : i < 16 := by omega
    refine br_f (bs_n16 hl) ⟨bs_vi hl, bs_vi hl, ?_⟩
    rw [bs_cl hl]
    refine nm_e (nm_r (nI_1 i) (ih (i + 1) (by omega) _ (fun j hj => ?_)))
    by_cases y : j = i
    · rw [y, bs_updS]
    · rw [bs_updN y]; exact hv j (by omega)
theorem xs_hold {post : SX → Prop} {x2 x3 x4 : Int32} {B T c : Int32} {R O N V VB pc pr po pn : Nat → Int32} {f : Nat} (hf : f < 16)
    (H : ∀ (VB : Nat → Int32) (k : Nat → Bool) (V' : Nat → Int32), bs_W (upd R f x2) (upd O f x3) (upd N f x4) k V' → post ((bs_mk (fun j => !k j) 16), (B ^^^ (bs_mk (fun j => !k j) 16)) ||| bs_mk (fun j => !decide (V' j = V j)) 16, c, upd R f x2, upd O f x3, upd N f x4, V', VB, pc, pr, po, pn)) :
    wpX_hold post (B, T, c, R, O, N, V, VB, pc, pr, po, pn) (nI f) x2 x3 x4 :=
  ⟨17, xs_holdL (VB := VB) hf H 16 0 rfl VB (fun j hj => absurd hj (by omega))⟩
end
section
theorem bs_v8 {i : Nat} (h : i < 8) : vp_in (nI i) 8 := vp_in_nI h (by decide)
theorem bs_c8 {i : Nat} (h : i < 8) : (nI i).toNatClampNeg = i := nI_clamp (by omega)
/-- p' is p, one further on, below t, and p from t on -/
def bs_shf (p p' : Nat → Int32) (t : Nat) : Prop := (∀ j, j < t → p' j = p (j + 1)) ∧ ∀ j, t ≤ j → p' j = p j
theorem bs_shf0 (p : Nat → Int32) : bs_shf p p 0 := ⟨fun j hj => absurd hj (by omega), fun _ _ => rfl⟩
theorem bs_shfS {p p' : Nat → Int32} {t : Nat} (h : bs_shf p p' t) : bs_shf p (upd p' t (p' (t + 1))) (t + 1) := by
  refine ⟨fun j hj => ?_, fun j hj => ?_⟩
  · by_cases y : j = t
    · rw [y, bs_updS]; exact h.2 (t + 1) (by omega)
    · rw [bs_updN y]; exact h.1 j (by omega)
  · rw [bs_updN (by omega)]; exact h.2 j (by omega)
theorem xs_forL {post : SX → Prop} {B T c : Int32} {R O N V VB pc pr po pn : Nat → Int32}
    (H : ∀ pc' pr' po' pn' : Nat → Int32, bs_shf pc pc' 7 → bs_shf pr pr' 7 → bs_shf po po' 7 → bs_shf pn pn' 7 → post (B, T, 7, R, O, N, V, VB, pc', pr', po', pn')) :
    ∀ d i : Nat, i + d = 7 → ∀ pc' pr' po' pn' : Nat → Int32, bs_shf pc pc' i → bs_shf pr pr' i → bs_shf po po' i → bs_shf pn pn' i → wX_forgetOldest_2 post B T c (d + 1) (nI (i + 1)) R O N V VB pc' pr' po' pn' := by
  intro d
  induction d with
  | zero =>
    intro i hi pc' pr' po' pn' h1 h2 h3 h4
    obtain rfl : i = 7 := by omega
    exact br_t (by decide) (H pc' pr' po' pn' h1 h2 h3 h4)
  | succ d ih =>
    intro i hi pc' pr' po' pn' h1 h2 h3 h4
    have hl : i < 7 := by omega
    have v1 := bs_v8 (i := i + 1) (by omega)
    have v0 := bs_v8 (i := i) (by omega)
    refine br_f (nI_ge (b := 8) (by omega) (by decide)) ?_
    rw [nI_pred i, bs_c8 (i := i + 1) (by omega), bs_c8 (i := i) (by omega)]
    exact ⟨v1, v0, nm_e ⟨v1, v0, nm_e ⟨v1, v0, nm_e ⟨v1, v0, nm_e (nm_r (nI_1 (i + 1)) (ih (i + 1) (by omega) _ _ _ _ (bs_shfS h1) (bs_shfS h2) (bs_shfS h3) (bs_shfS h4)))⟩⟩⟩⟩
theorem xs_for {post : SX → Prop} {B T c : Int32} {R O N V VB pc pr po pn : Nat → Int32}
    (H : ∀ pc' pr' po' pn' : Nat → Int32, bs_shf pc pc' 7 → bs_shf pr pr' 7 → bs_shf po po' 7 → bs_shf pn pn' 7 → post (B, T, 7, R, O, N, V, VB, pc', pr', po', pn')) : wpX_forgetOldest post (B, T, c, R, O, N, V, VB, pc, pr, po, pn) :=
  ⟨8, xs_forL H 7 0 rfl pc pr po pn (bs_shf0 pc) (bs_shf0 pr) (bs_shf0 po) (bs_shf0 pn)⟩
/-- p' holds x at m, and below m what p holds, s further on -/
def bs_psh (p p' : Nat → Int32) (m s : Nat) (x : Int32) : Prop := p' m = x ∧ ∀ j, j < m → p' j = p (j + s)
/-- n changes are remembered: the next is the m-th, the others go down by s -/
def bs_ms (n m s : Nat) : Prop := (n < 8 ∧ m = n ∧ s = 0) ∨ (n = 8 ∧ m = 7 ∧ s = 1)
theorem bs_pshN (p : Nat → Int32) (m : Nat) (x : Int32) : bs_psh p (upd p m x) m 0 x := ⟨bs_updS, fun j hj => bs_updN (by omega)⟩
theorem bs_psh8 {p p' : Nat → Int32} (x : Int32) (h : bs_shf p p' 7) : bs_psh p (upd p' 7 x) 7 1 x := ⟨bs_updS, fun j hj => by rw [bs_updN (by omega)]; exact h.1 j hj⟩
theorem xs_rem13 {post : SX → Prop} {m f : Nat} {B T : Int32} {R O N V VB pc pr po pn : Nat → Int32} (hm : m < 8) (hf : f < 16)
    (H : post (B, T, nI (m + 1), R, O, N, V, VB, upd pc m (nI f), upd pr m (R f), upd po m (O f), upd pn m (N f))) : wX_remember_13 post (nI f) B T (nI m) R O N V VB pc pr po pn := by
  have v8 := bs_v8 hm
  have vf := bs_vi hf
  unfold wX_remember_13
  rw [bs_c8 hm, bs_cl hf]
  exact ⟨v8, nm_e ⟨vf, v8, nm_e ⟨vf, v8, nm_e ⟨vf, v8, nm_e (nm_r (nI_1 m) H)⟩⟩⟩⟩
theorem xs_rem {post : SX → Prop} {n f : Nat} {B T : Int32} {R O N V VB pc pr po pn : Nat → Int32} (hn : n ≤ 8) (hf : f < 16)
    (H : ∀ (m s : Nat) (pc' pr' po' pn' : Nat → Int32), bs_ms n m s → bs_psh pc pc' m s (nI f) → bs_psh pr pr' m s (R f) → bs_psh po po' m s (O f) → bs_psh pn pn' m s (N f) → post (B, T, nI (m + 1), R, O, N, V, VB, pc', pr', po', pn')) :
    wpX_remember post (B, T, nI n, R, O, N, V, VB, pc, pr, po, pn) (nI f) := by
  by_cases z : n < 8
  · exact br_t (nI_lt (b := 8) z (by decide)) (xs_rem13 z hf (H n 0 _ _ _ _ (Or.inl ⟨z, rfl, rfl⟩) (bs_pshN pc n _) (bs_pshN pr n _) (bs_pshN po n _) (bs_pshN pn n _)))
  · obtain rfl : n = 8 := by omega
    exact br_f (by decide) (xs_for (fun pc' pr' po' pn' h1 h2 h3 h4 => xs_rem13 (m := 7) (by omega) hf (H 7 1 _ _ _ _ (Or.inr ⟨rfl, rfl, rfl⟩) (bs_psh8 _ h1) (bs_psh8 _ h2) (bs_psh8 _ h3) (bs_psh8 _ h4))))
theorem bs_dRd {R : Nat → Int32} {k : Nat → Bool} : bs_mk k 16 ||| bs_mk (fun j => !decide (R j &&& bs_mk k 16 = 0)) 16 = bs_mk (fun j => k j || !decide (R j &&& bs_mk k 16 = 0)) 16 := bs_mkOr k _
theorem bs_dRz {R : Nat → Int32} {k : Nat → Bool} {f : Nat} : (!decide (R f &&& bs_mk k 16 = 0)) = true ↔ ∃ j, j < 16 ∧ bt (R f) j = true ∧ k j = true := by
  constructor
  · intro h
    by_cases z : R f &&& bs_mk k 16 = 0
    · rw [decide_eq_true z] at h; exact absurd h (by decide)
    · by_cases y : ∃ j, j < 16 ∧ bt (R f) j = true ∧ k j = true
      · exact y
      · refine absurd (bs_mkZ.mpr (fun j hj hb => ?_)) z
        cases x : k j
        · rfl
        · exact absurd ⟨j, hj, hb, x⟩ y
  · rintro ⟨j, hj, hb, hk⟩
    rw [decide_eq_false (fun e => by have g := bs_mkZ.mp e j hj hb; rw [hk] at g; exact absurd g (by decide))]; rfl
theorem xs_depL {post : Int32 → Prop} {B T c : Int32} {R O N V VB pc pr po pn : Nat → Int32} {q : Nat} (H : ∀ k : Nat → Bool, bs_dD R q k → bs_dL R q k → post (bs_mk k 16)) :
    ∀ d i : Nat, i + d = 16 → ∀ k : Nat → Bool, (∀ f, f < 16 → bt (R f) q = true → k f = true) → bs_dL R q k → (i ≤ bs_cnt k 16 ∨ bs_dD R q k) → wX_dependents_19 post B T c R O N V VB pc pr po pn (d + 1) (bs_mk k 16) (nI i) := by
  intro d
  induction d with
  | zero =>
    intro i hi k hb L h
    obtain rfl : i = 16 := by omega
    exact br_t bs_16 (H k (bs_endDD h) L)
  | succ d ih =>
    intro i hi k hb L h
    have hl : i < 16 := by omega
    have L1 : bs_dL R q (fun j => k j || !decide (R j &&& bs_mk k 16 = 0)) := by
      intro k' D f hf hk
      rcases Bool.or_eq_true _ _ ▸ hk with y | y
      · exact L k' D f hf y
      · obtain ⟨j, hj, hbj, hkj⟩ := bs_dRz.mp y
        exact D f hf (Or.inr ⟨j, hj, hbj, L k' D j hj hkj⟩)
    have hm : ∀ f, f < 16 → k f = true → (fun j => k j || !decide (R j &&& bs_mk k 16 = 0)) f = true := fun f hf hk => by dsimp only; rw [hk, Bool.true_or]
    refine br_f (bs_n16 hl) (xs_rdr (nm_r bs_dRd (nm_r (nI_1 i) (ih (i + 1) (by omega) _ (fun f hf g => hm f hf (hb f hf g)) L1 (bs_rndD hm (fun f hf g => ?_) L1 h)))))
    rcases g with g | g
    · exact hm f hf (hb f hf g)
    · rw [bs_dRz.mpr g, Bool.or_true]
theorem bs_dL0 (R : Nat → Int32) (q : Nat) : bs_dL R q (fun j => bt (R j) q) := fun _ D f hf hk => D f hf (Or.inl hk)
theorem xs_dep {post : Int32 → Prop} {B T c : Int32} {R O N V VB pc pr po pn : Nat → Int32} {q : Nat} (hq : q < 16) (H : ∀ k : Nat → Bool, bs_dD R q k → bs_dL R q k → post (bs_mk k 16)) : wpX_dependents post (B, T, c, R, O, N, V, VB, pc, pr, po, pn) (nI q) := by
  unfold wpX_dependents
  refine xs_cellT hq (br_f bs_n10 (xs_rdr ?_))
  rw [bs_rd1 hq]
  exact ⟨17, xs_depL H 16 0 rfl _ (fun _ _ h => h) (bs_dL0 R q) (Or.inl (Nat.zero_le _))⟩
end
section
/-- what a cell holds, at X (rd ro rn) and at Y -/
def bs_C (rd ro rn op on tw nm : Int32) : Prop :=
  rn = nm ∧ ((op = -1 ∧ rd = 0) ∨ ∃ o a b : Nat, o < 4 ∧ a < 16 ∧ b < 16 ∧ op = nI o ∧ ro = nI o ∧ on = nI a ∧ tw = nI b ∧ rd = bs_mk (bs_in a b) 16)
def bs_CC (R O N op on tw nm : Nat → Int32) : Prop := ∀ f, f < 16 → bs_C (R f) (O f) (N f) (op f) (on f) (tw f) (nm f)
def bs_K (kn : Nat → Int32) (k : Nat → Bool) : Prop := ∀ j, j < 16 → kn j = if k j = true then 1 else 0
theorem bs_K0 {kn : Nat → Int32} {k : Nat → Bool} (h : bs_K kn k) {i : Nat} (hi : i < 16) (z : k i = false) : kn i = 0 := by
  rw [h i hi, z]; rfl
theorem bs_K1 {kn : Nat → Int32} {k : Nat → Bool} (h : bs_K kn k) {i : Nat} (hi : i < 16) (z : k i = true) : ¬ kn i = 0 := by
  rw [h i hi, z]; exact bs_n10
theorem bs_rnz {a b : Nat} (ha : a < 16) : bs_mk (bs_in a b) 16 ≠ 0 := by
  intro e
  have h := bs_mk16 (bs_in a b) ha
  rw [e, b_0, bs_inC] at h
  exact absurd h (by decide)
theorem bs_CO {rd ro rn op on tw nm : Int32} (C : bs_C rd ro rn op on tw nm) : op < 0 ↔ rd = 0 := by
  obtain ⟨_, ⟨e, z⟩ | ⟨o, a, b, ho, ha, hb, e1, e2, e3, e4, e5⟩⟩ := C
  · exact ⟨fun _ => z, fun _ => by rw [e]; decide⟩
  · refine ⟨fun h => ?_, fun h => ?_⟩
    · rw [e1] at h; exact absurd h (nI_pos (by omega))
    · rw [e5] at h; exact absurd h (bs_rnz ha)
theorem ys_cellT {post : Int32 → Prop} {ch df : Int32} {op on tw nm oc oo oa ob ov kn vl kt vt : Nat → Int32} {i : Nat} (hi : i < 16) (h : post 1) : wpY_cell post (ch, df, op, on, tw, nm, oc, oo, oa, ob, ov, kn, vl, kt, vt) (nI i) :=
  br_f (nI_pos (by omega)) (br_f (bs_n16 hi) h)
theorem ys_cellF {post : Int32 → Prop} {ch df : Int32} {op on tw nm oc oo oa ob ov kn vl kt vt : Nat → Int32} {p : Int32} (hp : ¬ bs_cell p) (h : post 0) : wpY_cell post (ch, df, op, on, tw, nm, oc, oo, oa, ob, ov, kn, vl, kt, vt) p :=
  br_c (fun _ => h) (fun z => br_t (bs_cellN hp z) h)
theorem ys_bw {post : Int32 → Prop} {ch df : Int32} {op on tw nm oc oo oa ob ov kn vl kt vt : Nat → Int32} {x p q : Nat} (hx : x < 16) (hp : p < 16) (hq : q < 16) (h1 : bs_bw x p q = true → post 1) (h0 : bs_bw x p q = false → post 0) : wpY_between post (ch, df, op, on, tw, nm, oc, oo, oa, ob, ov, kn, vl, kt, vt) (nI x) (nI p) (nI q) :=
  xs_bw hx hp hq h1 h0
theorem ys_in {post : Int32 → Prop} {ch df : Int32} {op on tw nm oc oo oa ob ov kn vl kt vt : Nat → Int32} {i a b : Nat} (hi : i < 16) (ha : a < 16) (hb : b < 16) (h1 : bs_in a b i = true → post 1) (h0 : bs_in a b i = false → post 0) : wpY_in post (ch, df, op, on, tw, nm, oc, oo, oa, ob, ov, kn, vl, kt, vt) (nI i) (nI a) (nI b) := by
  unfold wpY_in
  rw [bs_r4 i hi, bs_r4 a ha, bs_r4 b hb, bs_d4 i hi, bs_d4 a ha, bs_d4 b hb]
  refine ⟨bs_n40, bs_n40, bs_n40, ys_bw (by omega) (by omega) (by omega) (fun p1 => br_f bs_n10 ⟨bs_n40, bs_n40, bs_n40, ys_bw (by omega) (by omega) (by omega) (fun q1 => br_f bs_n10 (h1 ?_)) (fun q0 => br_t rfl (h0 ?_))⟩) (fun p0 => br_t rfl (h0 ?_))⟩
  · unfold bs_in; rw [p1, q1]; rfl
  · unfold bs_in; rw [q0, Bool.and_false]
  · unfold bs_in; rw [p0, Bool.false_and]
theorem ys_reads {post : Int32 → Prop} {ch df : Int32} {op on tw nm oc oo oa ob ov kn vl kt vt : Nat → Int32} {rd ro rn : Int32} {f i : Nat} (hf : f < 16) (hi : i < 16) (C : bs_C rd ro rn (op f) (on f) (tw f) (nm f)) (h1 : bt rd i = true → post 1) (h0 : bt rd i = false → post 0) : wpY_reads post (ch, df, op, on, tw, nm, oc, oo, oa, ob, ov, kn, vl, kt, vt) (nI f) (nI i) := by
  unfold wpY_reads
  rw [bs_cl hf]
  refine ⟨bs_vi hf, ?_⟩
  obtain ⟨_, ⟨e, z⟩ | ⟨o, a, b, ho, ha, hb, e1, e2, e3, e4, e5⟩⟩ := C
  · exact br_t (by rw [e]; decide) (h0 (by rw [z]; exact b_0 i))
  · refine br_f (by rw [e1]; exact nI_pos (by omega)) ⟨bs_vi hf, bs_vi hf, ?_⟩
    rw [e3, e4]
    exact ys_in hi ha hb (fun g => br_f bs_n10 (h1 (by rw [e5, bs_mk16 _ hi]; exact g))) (fun g => br_t rfl (h0 (by rw [e5, bs_mk16 _ hi]; exact g)))
theorem bs_nb0 : narrow .boolean (.int 0) = .int 0 := rfl
theorem bs_nb1 : narrow .boolean (.int 1) = .int 1 := rfl
theorem ys_allZ {post : Int32 → Prop} {x : Int32} {ch df : Int32} {op on tw nm oc oo oa ob ov kn vl kt vt : Nat → Int32} (h : post 0) : ∀ d i : Nat, i + d = 16 → wY_allKnown_4 post x ch df op on tw nm oc oo oa ob ov kn vl kt vt (d + 1) 0 (nI i) := by
  intro d
  induction d with
  | zero =>
    intro i hi
    obtain rfl : i = 16 := by omega
    exact br_t bs_16 ⟨bs_nb0, h⟩
  | succ d ih =>
    intro i hi
    have hl : i < 16 := by omega
    exact br_f (bs_n16 hl) (br_t rfl (nm_r (nI_1 i) (ih (i + 1) (by omega))))
theorem ys_allL {post : Int32 → Prop} {ch df : Int32} {op on tw nm oc oo oa ob ov kn vl kt vt : Nat → Int32} {R O N : Nat → Int32} {k : Nat → Bool} {f : Nat} (hf : f < 16) (C : bs_CC R O N op on tw nm) (K : bs_K kn k) (h1 : bs_rdy R k f → post 1) (h0 : ¬ bs_rdy R k f → post 0) :
    ∀ d i : Nat, i + d = 16 → (∀ j, j < i → bt (R f) j = true → k j = true) → wY_allKnown_4 post (nI f) ch df op on tw nm oc oo oa ob ov kn vl kt vt (d + 1) 1 (nI i) := by
  intro d
  induction d with
  | zero =>
    intro i hi g
    obtain rfl : i = 16 := by omega
    exact br_t bs_16 ⟨bs_nb1, h1 g⟩
  | succ d ih =>
    intro i hi g
    have hl : i < 16 := by omega
    refine br_f (bs_n16 hl) (br_f bs_n10 ⟨bs_vi hl, ?_⟩)
    rw [bs_cl hl]
    cases z : k i
    · refine br_t (bs_K0 K hl z) (ys_reads hf hl (C f hf) (fun b => br_f bs_n10 (nm_r (nI_1 i) (ys_allZ (h0 (fun r => ?_)) d (i + 1) (by omega)))) (fun b => br_t rfl (nm_r (nI_1 i) (ih (i + 1) (by omega) (fun j hj hb => ?_)))))
      · have e := r i hl b
        rw [z] at e; exact absurd e (by decide)
      · by_cases y : j = i
        · rw [y, b] at hb; exact absurd hb (by decide)
        · exact g j (by omega) hb
    · refine br_f (bs_K1 K hl z) (nm_r (nI_1 i) (ih (i + 1) (by omega) (fun j hj hb => ?_)))
      by_cases y : j = i
      · rw [y]; exact z
      · exact g j (by omega) hb
theorem ys_all {post : Int32 → Prop} {ch df : Int32} {op on tw nm oc oo oa ob ov kn vl kt vt : Nat → Int32} {R O N : Nat → Int32} {k : Nat → Bool} {f : Nat} (hf : f < 16) (C : bs_CC R O N op on tw nm) (K : bs_K kn k) (h1 : bs_rdy R k f → post 1) (h0 : ¬ bs_rdy R k f → post 0) : wpY_allKnown post (ch, df, op, on, tw, nm, oc, oo, oa, ob, ov, kn, vl, kt, vt) (nI f) :=
  ⟨17, ys_allL hf C K h1 h0 16 0 rfl (fun j hj => absurd hj (by omega))⟩
theorem ys_r93 {post : Int32 → Prop} {J : Int32 → Int32 → Int32 → Int32 → Int32 → Prop} {x1 x2 x3 z0 m x : Int32} {ch df : Int32} {op on tw nm oc oo oa ob ov kn vl kt vt : Nat → Int32} {i : Nat} (hi : i < 16) (hb : bt x i = true) (H : J x2 x3 z0 (bs_mn m x vl (i + 1)) (nI (i + 1))) : wY_result_93 post J x1 x2 x3 (bs_mn m x vl i) (nI i) z0 ch df op on tw nm oc oo oa ob ov kn vl kt vt := by
  unfold wY_result_93
  rw [bs_cl hi]
  refine ⟨bs_vi hi, ?_⟩
  by_cases g : bs_mn m x vl i ≤ vl i
  · rw [← bs_mnL g] at H
    exact br_t g (nm_r (nI_1 i) H)
  · exact br_f g ⟨bs_vi hi, nm_r (bs_mnT hb g) (nm_r (nI_1 i) H)⟩
theorem ys_r67 {post : Int32 → Prop} {J : Int32 → Int32 → Int32 → Int32 → Int32 → Prop} {x1 x2 x3 z0 z1 m m' x : Int32} {ch df : Int32} {op on tw nm oc oo oa ob ov kn vl kt vt : Nat → Int32} {i : Nat} (hi : i < 16) (hb : bt x i = true) (e : z1 + z0 = x3) (H : J x2 x3 (bs_mx m x vl (i + 1)) (bs_mn m' x vl (i + 1)) (nI (i + 1))) : wY_result_67 post J x1 x2 (bs_mx m x vl i) (bs_mn m' x vl i) (nI i) z0 z1 ch df op on tw nm oc oo oa ob ov kn vl kt vt := by
  unfold wY_result_67
  rw [bs_cl hi]
  refine nm_r e ⟨bs_vi hi, ?_⟩
  by_cases g : vl i ≤ bs_mx m x vl i
  · rw [← bs_mxL g] at H
    exact br_t g (ys_r93 hi hb H)
  · rw [← bs_mxT hb g] at H
    exact br_f g ⟨bs_vi hi, ys_r93 hi hb H⟩
theorem ys_fin {post : Int32 → Prop} {rd rn nu w : Int32} {vl : Nat → Int32} {o a f : Nat} (hf : f < 16) (ho : o < 4) (ha : a < 16) (hb : bt rd a = true) (hz : rd ≠ 0) (hn : rn = nu) (hw : w = nI o) (H : post (bs_val rd (nI o) rn vl)) :
    (w = 0 → post (nu + bs_sm rd vl 16)) ∧ (¬ w = 0 → vp_in (nI f) 16 ∧ ((w = 1 → post (nu + bs_mx (vl a) rd vl 16)) ∧ (¬ w = 1 → vp_in (nI f) 16 ∧ ((w = 2 → post (nu + bs_mn (vl a) rd vl 16)) ∧ (¬ w = 2 → post (nu + bs_up rd vl 16)))))) := by
  have vf := bs_vi hf
  subst hn hw
  rw [bs_mxE ha hb, bs_mnE ha hb, Int32.add_comm rn, Int32.add_comm rn, Int32.add_comm rn, Int32.add_comm rn]
  unfold bs_val at H
  rw [if_neg hz] at H
  obtain rfl | rfl | rfl | rfl : o = 0 ∨ o = 1 ∨ o = 2 ∨ o = 3 := by omega
  · rw [if_neg (by decide), if_neg (by decide), if_neg (by decide)] at H
    exact br_t (by decide) H
  · rw [if_pos (by decide)] at H
    exact br_f (by decide) ⟨vf, br_t (by decide) H⟩
  · rw [if_neg (by decide), if_pos (by decide)] at H
    exact br_f (by decide) ⟨vf, br_f (by decide) ⟨vf, br_t (by decide) H⟩⟩
  · rw [if_neg (by decide), if_neg (by decide), if_pos (by decide)] at H
    exact br_f (by decide) ⟨vf, br_f (by decide) ⟨vf, br_f (by decide) H⟩⟩
theorem ys_resL {post : Int32 → Prop} {ch df : Int32} {op on tw nm oc oo oa ob ov kn vl kt vt : Nat → Int32} {rd ro rn : Int32} {f o a : Nat} (hf : f < 16) (C : bs_C rd ro rn (op f) (on f) (tw f) (nm f)) (ho : o < 4) (ha : a < 16) (hb : bt rd a = true) (hz : rd ≠ 0) (hn : rn = nm f) (hw : op f = nI o) (H : post (bs_val rd (nI o) rn vl)) :
    ∀ d i : Nat, i + d = 16 → wY_result_24 post (nI f) ch df op on tw nm oc oo oa ob ov kn vl kt vt (d + 1) (bs_sm rd vl i) (bs_up rd vl i) (bs_mx (vl a) rd vl i) (bs_mn (vl a) rd vl i) (nI i) := by
  intro d
  induction d with
  | zero =>
    intro i hi
    obtain rfl : i = 16 := by omega
    refine br_t bs_16 ⟨bs_vi hf, bs_vi hf, ?_⟩
    rw [bs_cl hf]
    exact ys_fin hf ho ha hb hz hn hw H
  | succ d ih =>
    intro i hi
    have hl : i < 16 := by omega
    have hx := ih (i + 1) (by omega)
    refine br_f (bs_n16 hl) (ys_reads hf hl C (fun b => br_f bs_n10 ⟨bs_vi hl, ?_⟩) (fun b => br_t rfl (nm_r (nI_1 i) ?_)))
    · rw [bs_cl hl]
      refine nm_r (bs_smT b) ⟨bs_vi hl, ?_⟩
      by_cases g : vl i ≤ 0
      · exact br_t g (ys_r67 hl b (by rw [Int32.add_zero]; exact bs_upL g) hx)
      · exact br_f g (ys_r67 hl b (bs_upT b g) hx)
    · rw [← bs_smF b, ← bs_upF b, ← bs_mxF b, ← bs_mnF b] at hx
      exact hx
theorem ys_res {post : Int32 → Prop} {ch df : Int32} {op on tw nm oc oo oa ob ov kn vl kt vt : Nat → Int32} {rd ro rn : Int32} {f : Nat} (hf : f < 16) (C : bs_C rd ro rn (op f) (on f) (tw f) (nm f)) (hz : rd ≠ 0) (H : post (bs_val rd ro rn vl)) : wpY_result post (ch, df, op, on, tw, nm, oc, oo, oa, ob, ov, kn, vl, kt, vt) (nI f) := by
  have C' := C
  obtain ⟨e0, ⟨e, z⟩ | ⟨o, a, b, ho, ha, hb, e1, e2, e3, e4, e5⟩⟩ := C'
  · exact absurd z hz
  · unfold wpY_result
    rw [bs_cl hf]
    refine ⟨bs_vi hf, ?_⟩
    rw [e3]
    refine ⟨bs_vi ha, ?_⟩
    rw [bs_cl ha]
    rw [e2] at H
    exact nm_e ⟨17, ys_resL hf C ho ha (by rw [e5, bs_mk16 _ ha, bs_inC]) hz e0 e1 H 16 0 rfl⟩
end
section
theorem bs_vn0 : vp_nar .boolean 0 = 0 := rfl
theorem bs_vn1 : vp_nar .boolean 1 = 1 := rfl
theorem bs_Kset {kn : Nat → Int32} {k : Nat → Bool} (h : bs_K kn k) (i : Nat) : bs_K (upd kn i (vp_nar .boolean 1)) (bs_set k i) := by
  intro j hj
  by_cases y : j = i
  · rw [y, bs_updS, bs_setS]; rfl
  · rw [bs_updN y, bs_setN y]; exact h j hj
theorem ys_inner {post : SY → Prop} {J : Int32 → (Nat → Int32) → (Nat → Int32) → (Nat → Int32) → (Nat → Int32) → (Nat → Int32) → (Nat → Int32) → (Nat → Int32) → (Nat → Int32) → (Nat → Int32) → (Nat → Int32) → (Nat → Int32) → (Nat → Int32) → (Nat → Int32) → Prop} {x1 : Int32} {ch df : Int32} {op on tw nm oc oo oa ob ov kt vt : Nat → Int32} {R O N : Nat → Int32} {k0 : Nat → Bool} (C : bs_CC R O N op on tw nm) (hz : ∀ j, j < 16 → R j = 0 → k0 j = true)
    (H : ∀ (k : Nat → Bool) (kn vl : Nat → Int32), bs_K kn k → (∀ j, j < 16 → k0 j = true → k j = true) → (∀ q, q < 16 → bs_rdy R k0 q → k q = true) → bs_S R O N k vl → bs_L R O N k vl → (∀ j, j < 16 → k j = false → vl j = 0) → J (x1 + 1) op on tw nm oc oo oa ob ov kn vl kt vt) :
    ∀ d i : Nat, i + d = 16 → ∀ (k : Nat → Bool) (kn vl : Nat → Int32), bs_K kn k → (∀ j, j < 16 → k0 j = true → k j = true) → (∀ q, q < i → bs_rdy R k0 q → k q = true) → bs_S R O N k vl → bs_L R O N k vl → (∀ j, j < 16 → k j = false → vl j = 0) → wY_work_69 post J x1 ch df (d + 1) (nI i) op on tw nm oc oo oa ob ov kn vl kt vt := by
  intro d
  induction d with
  | zero =>
    intro i hi k kn vl K hm hF S L Z
    obtain rfl : i = 16 := by omega
    exact br_t bs_16 (nm_e (H k kn vl K hm hF S L Z))
  | succ d ih =>
    intro i hi k kn vl K hm hF S L Z
    have hl : i < 16 := by omega
    refine br_f (bs_n16 hl) ⟨bs_vi hl, ?_⟩
    rw [bs_cl hl]
    cases z : k i
    · have nz : R i ≠ 0 := fun e => by
        have g := hm i hl (hz i hl e)
        rw [z] at g; exact absurd g (by decide)
      refine br_t (bs_K0 K hl z) (ys_all hl C K (fun q => br_f bs_n10 (ys_res hl (C i hl) nz ⟨bs_vi hl, nm_e ⟨bs_vi hl, nm_e (nm_r (nI_1 i) ?_)⟩⟩)) (fun q => br_t rfl (nm_r (nI_1 i) ?_)))
      · refine ih (i + 1) (by omega) (bs_set k i) _ _ (bs_Kset K i) (fun j hj h => bs_setM (hm j hj h)) (fun j hj hr => ?_) (bs_stS S z q) (bs_stL L hl q) (fun j hj hk => ?_)
        · by_cases y : j = i
          · rw [y]; exact bs_setS
          · exact bs_setM (hF j (by omega) hr)
        · by_cases y : j = i
          · rw [y, bs_setS] at hk; exact absurd hk (by decide)
          · rw [bs_setN y] at hk
            rw [bs_updN y]; exact Z j hj hk
      · refine ih (i + 1) (by omega) k kn vl K hm (fun j hj hr => ?_) S L Z
        by_cases y : j = i
        · rw [y] at hr; exact absurd (bs_rdyM k0 k i hm hr) q
        · exact hF j (by omega) hr
    · refine br_f (bs_K1 K hl z) (nm_r (nI_1 i) (ih (i + 1) (by omega) k kn vl K hm (fun j hj hr => ?_) S L Z))
      by_cases y : j = i
      · rw [y]; exact z
      · exact hF j (by omega) hr
theorem ys_outer {post : SY → Prop} {ch df : Int32} {op on tw nm oc oo oa ob ov kt vt : Nat → Int32} {R O N : Nat → Int32} (C : bs_CC R O N op on tw nm)
    (H : ∀ (k : Nat → Bool) (kn vl : Nat → Int32), bs_K kn k → bs_W R O N k vl → post (ch, df, op, on, tw, nm, oc, oo, oa, ob, ov, kn, vl, kt, vt)) :
    ∀ d i : Nat, i + d = 16 → ∀ (k : Nat → Bool) (kn vl : Nat → Int32), bs_K kn k → (∀ j, j < 16 → R j = 0 → k j = true) → bs_S R O N k vl → bs_L R O N k vl → (∀ j, j < 16 → k j = false → vl j = 0) → (i ≤ bs_cnt k 16 ∨ bs_D R k) → wY_work_61 post ch df (d + 1) (nI i) op on tw nm oc oo oa ob ov kn vl kt vt := by
  intro d
  induction d with
  | zero =>
    intro i hi k kn vl K hz S L Z h
    obtain rfl : i = 16 := by omega
    exact br_t bs_16 (H k kn vl K ⟨S, L, bs_endD h, Z⟩)
  | succ d ih =>
    intro i hi k kn vl K hz S L Z h
    have hl : i < 16 := by omega
    refine br_f (bs_n16 hl) ⟨17, ys_inner C hz (fun k1 kn1 vl1 K1 hm hF S1 L1 Z1 => ?_) 16 0 rfl k kn vl K (fun _ _ h => h) (fun q hq => absurd hq (by omega)) S L Z⟩
    rw [nI_1 i]
    exact ih (i + 1) (by omega) k1 kn1 vl1 K1 (fun j hj e => hm j hj (hz j hj e)) S1 L1 Z1 (bs_rndS hm hF S L1 h)
theorem bs_iS {R O N vl : Nat → Int32} (h : ∀ j, j < 16 → vl j = if R j = 0 then N j else 0) : bs_S R O N (fun j => decide (R j = 0)) vl := by
  intro i hi hk
  have z : R i = 0 := of_decide_eq_true hk
  refine ⟨fun j hj hb => ?_, ?_⟩
  · rw [z, b_0] at hb; exact absurd hb (by decide)
  · rw [h i hi, if_pos z]
    unfold bs_val
    rw [if_pos z]
theorem bs_iL {R O N vl : Nat → Int32} (h : ∀ j, j < 16 → vl j = if R j = 0 then N j else 0) : bs_L R O N (fun j => decide (R j = 0)) vl := by
  intro k' v' D S i hi hk
  have z : R i = 0 := of_decide_eq_true hk
  have g : k' i = true := D i hi (fun j hj hb => by rw [z, b_0] at hb; exact absurd hb (by decide))
  refine ⟨g, ?_⟩
  rw [h i hi, if_pos z, (S i hi g).2]
  unfold bs_val
  rw [if_pos z]
theorem ys_27T {post : SY → Prop} {J : Int32 → (Nat → Int32) → (Nat → Int32) → (Nat → Int32) → (Nat → Int32) → (Nat → Int32) → (Nat → Int32) → (Nat → Int32) → (Nat → Int32) → (Nat → Int32) → (Nat → Int32) → (Nat → Int32) → (Nat → Int32) → (Nat → Int32) → Prop} {ch df : Int32} {op on tw nm oc oo oa ob ov kn vl kt vt : Nat → Int32} {i : Nat} (hi : i < 16) (e : ¬ 0 ≤ op i) (H : J (nI (i + 1)) op on tw nm oc oo oa ob ov (upd kn i 1) (upd vl i (nm i)) kt vt) : wY_work_27 post J (nI i) 1 (nI i) ch df op on tw nm oc oo oa ob ov kn vl kt vt := by
  unfold wY_work_27
  rw [bs_cl hi, bs_vn1]
  have v := bs_vi hi
  exact ⟨v, nm_e ⟨v, br_f e ⟨v, v, nm_e (nm_r (nI_1 i) H)⟩⟩⟩
theorem ys_27F {post : SY → Prop} {J : Int32 → (Nat → Int32) → (Nat → Int32) → (Nat → Int32) → (Nat → Int32) → (Nat → Int32) → (Nat → Int32) → (Nat → Int32) → (Nat → Int32) → (Nat → Int32) → (Nat → Int32) → (Nat → Int32) → (Nat → Int32) → (Nat → Int32) → Prop} {ch df : Int32} {op on tw nm oc oo oa ob ov kn vl kt vt : Nat → Int32} {i : Nat} (hi : i < 16) (e : 0 ≤ op i) (H : J (nI (i + 1)) op on tw nm oc oo oa ob ov (upd kn i 0) (upd vl i 0) kt vt) : wY_work_27 post J (nI i) 0 (nI i) ch df op on tw nm oc oo oa ob ov kn vl kt vt := by
  unfold wY_work_27
  rw [bs_cl hi, bs_vn0]
  have v := bs_vi hi
  exact ⟨v, nm_e ⟨v, br_t e ⟨v, nm_e (nm_r (nI_1 i) H)⟩⟩⟩
theorem ys_init {post : SY → Prop} {ch df : Int32} {op on tw nm oc oo oa ob ov kt vt : Nat → Int32} {R O N : Nat → Int32} (C : bs_CC R O N op on tw nm)
    (H : ∀ kn vl : Nat → Int32, bs_K kn (fun j => decide (R j = 0)) → (∀ j, j < 16 → vl j = if R j = 0 then N j else 0) → ∃ n : Nat, wY_work_61 post ch df n 0 op on tw nm oc oo oa ob ov kn vl kt vt) :
    ∀ d i : Nat, i + d = 16 → ∀ kn vl : Nat → Int32, (∀ j, j < i → kn j = if decide (R j = 0) = true then 1 else 0) → (∀ j, j < i → vl j = if R j = 0 then N j else 0) → wY_work_2 post ch df (d + 1) (nI i) op on tw nm oc oo oa ob ov kn vl kt vt := by
  intro d
  induction d with
  | zero =>
    intro i hi kn vl h1 h2
    obtain rfl : i = 16 := by omega
    exact br_t bs_16 (H kn vl h1 h2)
  | succ d ih =>
    intro i hi kn vl h1 h2
    have hl : i < 16 := by omega
    refine br_f (bs_n16 hl) ⟨bs_vi hl, ?_⟩
    rw [bs_cl hl]
    have ci := C i hl
    have e0 := bs_CO ci
    by_cases z : op i < 0
    · have rz := e0.mp z
      have ng : ¬ 0 ≤ op i := Int32.not_le.mpr z
      refine br_f ng (ys_27T hl ng (ih (i + 1) (by omega) _ _ (fun j hj => ?_) (fun j hj => ?_)))
      · by_cases y : j = i
        · rw [y, bs_updS, decide_eq_true rz]; rfl
        · rw [bs_updN y]; exact h1 j (by omega)
      · by_cases y : j = i
        · rw [y, bs_updS, if_pos rz]; exact ci.1.symm
        · rw [bs_updN y]; exact h2 j (by omega)
    · have rz : ¬ R i = 0 := fun g => z (e0.mpr g)
      have ng : 0 ≤ op i := Int32.not_lt.mp z
      refine br_t ng (ys_27F hl ng (ih (i + 1) (by omega) _ _ (fun j hj => ?_) (fun j hj => ?_)))
      · by_cases y : j = i
        · rw [y, bs_updS, decide_eq_false rz]; rfl
        · rw [bs_updN y]; exact h1 j (by omega)
      · by_cases y : j = i
        · rw [y, bs_updS, if_neg rz]
        · rw [bs_updN y]; exact h2 j (by omega)
theorem ys_work {post : SY → Prop} {ch df : Int32} {op on tw nm oc oo oa ob ov kn vl kt vt : Nat → Int32} {R O N : Nat → Int32} (C : bs_CC R O N op on tw nm)
    (H : ∀ (k : Nat → Bool) (kn vl : Nat → Int32), bs_K kn k → bs_W R O N k vl → post (ch, df, op, on, tw, nm, oc, oo, oa, ob, ov, kn, vl, kt, vt)) : wpY_work post (ch, df, op, on, tw, nm, oc, oo, oa, ob, ov, kn, vl, kt, vt) := by
  refine ⟨17, ys_init C (fun kn vl h1 h2 => ⟨17, ys_outer C H 16 0 rfl _ kn vl h1 (fun j hj e => decide_eq_true e) (bs_iS h2) (bs_iL h2) (fun j hj hk => ?_) (Or.inl (Nat.zero_le _))⟩) 16 0 rfl kn vl (fun j hj => absurd hj (by omega)) (fun j hj => absurd hj (by omega))⟩
  rw [h2 j hj, if_neg (of_decide_eq_false hk)]
theorem ys_befL {post : SY → Prop} {ch df : Int32} {op on tw nm oc oo oa ob ov kn vl : Nat → Int32} (H : ∀ kt vt : Nat → Int32, (∀ j, j < 16 → kt j = vp_nar .boolean (kn j)) → (∀ j, j < 16 → vt j = vl j) → post (ch, df, op, on, tw, nm, oc, oo, oa, ob, ov, kn, vl, kt, vt)) :
    ∀ d i : Nat, i + d = 16 → ∀ kt vt : Nat → Int32, (∀ j, j < i → kt j = vp_nar .boolean (kn j)) → (∀ j, j < i → vt j = vl j) → wY_before_6 post ch df (d + 1) (nI i) op on tw nm oc oo oa ob ov kn vl kt vt := by
  intro d
  induction d with
  | zero =>
    intro i hi kt vt h1 h2
    obtain rfl : i = 16 := by omega
    exact br_t bs_16 (H kt vt h1 h2)
  | succ d ih =>
    intro i hi kt vt h1 h2
    have hl : i < 16 := by omega
    have v := bs_vi hl
    refine br_f (bs_n16 hl) ⟨v, v, ?_⟩
    rw [bs_cl hl]
    refine nm_e ⟨v, v, nm_e (nm_r (nI_1 i) (ih (i + 1) (by omega) _ _ (fun j hj => ?_) (fun j hj => ?_)))⟩
    · by_cases y : j = i
      · rw [y, bs_updS]
      · rw [bs_updN y]; exact h1 j (by omega)
    · by_cases y : j = i
      · rw [y, bs_updS]
      · rw [bs_updN y]; exact h2 j (by omega)
theorem ys_before {post : SY → Prop} {ch df : Int32} {op on tw nm oc oo oa ob ov kn vl kt vt : Nat → Int32} {R O N : Nat → Int32} (C : bs_CC R O N op on tw nm)
    (H : ∀ (k : Nat → Bool) (kn vl kt vt : Nat → Int32), bs_K kt k → bs_W R O N k vl → (∀ j, j < 16 → vt j = vl j) → post (ch, df, op, on, tw, nm, oc, oo, oa, ob, ov, kn, vl, kt, vt)) : wpY_before post (ch, df, op, on, tw, nm, oc, oo, oa, ob, ov, kn, vl, kt, vt) := by
  unfold wpY_before
  refine ys_work C (fun k kn vl K W => ⟨17, ys_befL (fun kt vt h1 h2 => H k kn vl kt vt (fun j hj => ?_) W h2) 16 0 rfl kt vt (fun j hj => absurd hj (by omega)) (fun j hj => absurd hj (by omega))⟩)
  rw [h1 j hj, K j hj]
  cases k j <;> rfl
def bs_dfr (k k0 : Nat → Bool) (v v0 : Nat → Int32) : Nat → Bool := fun j => !(decide (k j = k0 j) && decide (v j = v0 j))
theorem bs_Keq {kn kt : Nat → Int32} {k k0 : Nat → Bool} (K : bs_K kn k) (K0 : bs_K kt k0) {i : Nat} (hi : i < 16) : kn i = kt i ↔ k i = k0 i := by
  rw [K i hi, K0 i hi]
  cases k i <;> cases k0 i <;> decide
theorem ys_52 {post : SY → Prop} {J : Int32 → Int32 → Prop} {z w : Int32} {ch df : Int32} {op on tw nm oc oo oa ob ov kn vl kt vt : Nat → Int32} {i : Nat} (e : z ||| ((1 : Int32) <<< (nI i &&& 31)) = w) (H : J (nI (i + 1)) w) : wY_after_52 post J (nI i) z ch df op on tw nm oc oo oa ob ov kn vl kt vt :=
  nm_r e (nm_r (nI_1 i) H)
theorem ys_aftL {post : SY → Prop} {ch df : Int32} {op on tw nm oc oo oa ob ov kn vl kt vt : Nat → Int32} {k k0 : Nat → Bool} {v0 : Nat → Int32} (K : bs_K kn k) (K0 : bs_K kt k0) (hv : ∀ j, j < 16 → vt j = v0 j) (H : post (ch, bs_mk (bs_dfr k k0 vl v0) 16, op, on, tw, nm, oc, oo, oa, ob, ov, kn, vl, kt, vt)) :
    ∀ d i : Nat, i + d = 16 → wY_after_11 post ch op on tw nm oc oo oa ob ov kn vl kt vt (d + 1) (nI i) (bs_mk (bs_dfr k k0 vl v0) i) := by
  intro d
  induction d with
  | zero =>
    intro i hi
    obtain rfl : i = 16 := by omega
    exact br_t bs_16 H
  | succ d ih =>
    intro i hi
    have hl : i < 16 := by omega
    have v := bs_vi hl
    have hx := ih (i + 1) (by omega)
    refine br_f (bs_n16 hl) ⟨v, v, ?_⟩
    rw [bs_cl hl]
    by_cases a : k i = k0 i
    · refine br_t ((bs_Keq K K0 hl).mpr a) ⟨v, v, ?_⟩
      by_cases b : vl i = v0 i
      · rw [bs_mkF (p := bs_dfr k k0 vl v0) (n := i) (by unfold bs_dfr; rw [decide_eq_true a, decide_eq_true b]; rfl)] at hx
        exact br_t (by rw [hv i hl]; exact b) (nm_r (Int32.or_zero) (nm_r (nI_1 i) hx))
      · exact br_f (by rw [hv i hl]; exact b) (ys_52 (bs_mkT (p := bs_dfr k k0 vl v0) (n := i) (by unfold bs_dfr; rw [decide_eq_false b, Bool.and_false]; rfl)).symm hx)
    · exact br_f (fun e => a ((bs_Keq K K0 hl).mp e)) (ys_52 (bs_mkT (p := bs_dfr k k0 vl v0) (n := i) (by unfold bs_dfr; rw [decide_eq_false a, Bool.false_and]; rfl)).symm hx)
theorem ys_after {post : SY → Prop} {ch df : Int32} {op on tw nm oc oo oa ob ov kn vl kt vt : Nat → Int32} {R O N : Nat → Int32} {k0 : Nat → Bool} {v0 : Nat → Int32} (C : bs_CC R O N op on tw nm) (K0 : bs_K kt k0) (hv : ∀ j, j < 16 → vt j = v0 j)
    (H : ∀ (k : Nat → Bool) (kn vl : Nat → Int32), bs_W R O N k vl → post (ch, bs_mk (bs_dfr k k0 vl v0) 16, op, on, tw, nm, oc, oo, oa, ob, ov, kn, vl, kt, vt)) : wpY_after post (ch, df, op, on, tw, nm, oc, oo, oa, ob, ov, kn, vl, kt, vt) := by
  unfold wpY_after
  exact ys_work C (fun k kn vl K W => ⟨17, ys_aftL (df := df) K K0 hv (H k kn vl W) 16 0 rfl⟩)
end
section
theorem ys_hold {post : SY → Prop} {p1 p2 p3 p4 : Int32} {ch df : Int32} {op on tw nm oc oo oa ob ov kn vl kt vt : Nat → Int32} {f : Nat} (hf : f < 16) (H : post (ch, df, upd op f p1, upd on f p2, upd tw f p3, upd nm f p4, oc, oo, oa, ob, ov, kn, vl, kt, vt)) : wpY_hold post (ch, df, op, on, tw, nm, oc, oo, oa, ob, ov, kn, vl, kt, vt) (nI f) p1 p2 p3 p4 := by
  unfold wpY_hold
  rw [bs_cl hf]
  have v := bs_vi hf
  exact ⟨v, nm_e ⟨v, nm_e ⟨v, nm_e ⟨v, nm_e H⟩⟩⟩⟩
theorem ys_115 {post : SY → Prop} {p1 p2 p3 p4 : Int32} {df : Int32} {op on tw nm oc oo oa ob ov kn vl kt vt : Nat → Int32} {R O N : Nat → Int32} {k0 : Nat → Bool} {v0 : Nat → Int32} {m f : Nat} (hm : m < 8) (hf : f < 16)
    (C : bs_CC R O N (upd op f p1) (upd on f p2) (upd tw f p3) (upd nm f p4)) (K0 : bs_K kt k0) (hv : ∀ j, j < 16 → vt j = v0 j)
    (H : ∀ (k : Nat → Bool) (kn vl : Nat → Int32), bs_W R O N k vl → post (nI (m + 1), bs_mk (bs_dfr k k0 vl v0) 16, upd op f p1, upd on f p2, upd tw f p3, upd nm f p4, upd oc m (nI f), upd oo m (op f), upd oa m (on f), upd ob m (tw f), upd ov m (nm f), kn, vl, kt, vt)) :
    wY_change_115 post (nI f) p1 p2 p3 p4 (nI m) df op on tw nm oc oo oa ob ov kn vl kt vt := by
  have v8 := bs_v8 hm
  have vf := bs_vi hf
  unfold wY_change_115
  rw [bs_c8 hm, bs_cl hf]
  exact ⟨v8, nm_e ⟨vf, v8, nm_e ⟨vf, v8, nm_e ⟨vf, v8, nm_e ⟨vf, v8, nm_e (nm_r (nI_1 m) (ys_hold hf (ys_after C K0 hv H)))⟩⟩⟩⟩⟩
theorem ys_16L {post : SY → Prop} {p0 p1 p2 p3 p4 : Int32} {ch df : Int32} {op on tw nm oc oo oa ob ov kn vl kt vt : Nat → Int32}
    (H : ∀ oc' oo' oa' ob' ov' : Nat → Int32, bs_shf oc oc' 7 → bs_shf oo oo' 7 → bs_shf oa oa' 7 → bs_shf ob ob' 7 → bs_shf ov ov' 7 → wY_change_115 post p0 p1 p2 p3 p4 7 df op on tw nm oc' oo' oa' ob' ov' kn vl kt vt) :
    ∀ d i : Nat, i + d = 7 → ∀ oc' oo' oa' ob' ov' : Nat → Int32, bs_shf oc oc' i → bs_shf oo oo' i → bs_shf oa oa' i → bs_shf ob ob' i → bs_shf ov ov' i → wY_change_16 post p0 p1 p2 p3 p4 ch df (d + 1) (nI i) op on tw nm oc' oo' oa' ob' ov' kn vl kt vt := by
  intro d
  induction d with
  | zero =>
    intro i hi oc' oo' oa' ob' ov' h1 h2 h3 h4 h5
    obtain rfl : i = 7 := by omega
    exact br_t (by decide) (H oc' oo' oa' ob' ov' h1 h2 h3 h4 h5)
  | succ d ih =>
    intro i hi oc' oo' oa' ob' ov' h1 h2 h3 h4 h5
    have v1 := bs_v8 (i := i + 1) (by omega)
    have v0 := bs_v8 (i := i) (by omega)
    refine br_f (nI_ge (b := 7) (by omega) (by decide)) ?_
    rw [nI_1 i, bs_c8 (i := i + 1) (by omega), bs_c8 (i := i) (by omega)]
    exact ⟨v1, v0, nm_e ⟨v1, v0, nm_e ⟨v1, v0, nm_e ⟨v1, v0, nm_e ⟨v1, v0, nm_e (nm_e (ih (i + 1) (by omega) _ _ _ _ _ (bs_shfS h1) (bs_shfS h2) (bs_shfS h3) (bs_shfS h4) (bs_shfS h5)))⟩⟩⟩⟩⟩
theorem ys_change {post : SY → Prop} {p1 p2 p3 p4 : Int32} {df : Int32} {op on tw nm oc oo oa ob ov kn vl kt vt : Nat → Int32} {R O N R' O' N' : Nat → Int32} {n f : Nat} (hn : n ≤ 8) (hf : f < 16) (C : bs_CC R O N op on tw nm)
    (C' : bs_CC R' O' N' (upd op f p1) (upd on f p2) (upd tw f p3) (upd nm f p4))
    (H : ∀ (m s : Nat) (oc' oo' oa' ob' ov' : Nat → Int32) (k0 k : Nat → Bool) (v0 kn vl kt vt : Nat → Int32), bs_ms n m s → bs_psh oc oc' m s (nI f) → bs_psh oo oo' m s (op f) → bs_psh oa oa' m s (on f) → bs_psh ob ob' m s (tw f) → bs_psh ov ov' m s (nm f) →
      bs_W R O N k0 v0 → bs_W R' O' N' k vl → post (nI (m + 1), bs_mk (bs_dfr k k0 vl v0) 16, upd op f p1, upd on f p2, upd tw f p3, upd nm f p4, oc', oo', oa', ob', ov', kn, vl, kt, vt)) :
    wpY_change post (nI n, df, op, on, tw, nm, oc, oo, oa, ob, ov, kn, vl, kt, vt) (nI f) p1 p2 p3 p4 := by
  unfold wpY_change
  refine ys_before C (fun k0 kn v0 kt vt K0 W0 hv => ?_)
  by_cases z : n < 8
  · exact br_f (by rw [show (8 : Int32) = nI 8 from rfl, nI_eq (by omega) (by omega)]; omega) (ys_115 z hf C' K0 hv (fun k kn' vl W => H n 0 _ _ _ _ _ k0 k v0 kn' vl kt vt (Or.inl ⟨z, rfl, rfl⟩) (bs_pshN oc n _) (bs_pshN oo n _) (bs_pshN oa n _) (bs_pshN ob n _) (bs_pshN ov n _) W0 W))
  · obtain rfl : n = 8 := by omega
    refine br_t rfl ⟨8, ys_16L (fun oc' oo' oa' ob' ov' h1 h2 h3 h4 h5 => ?_) 7 0 rfl oc oo oa ob ov (bs_shf0 oc) (bs_shf0 oo) (bs_shf0 oa) (bs_shf0 ob) (bs_shf0 ov)⟩
    exact ys_115 (m := 7) (by omega) hf C' K0 hv (fun k kn' vl W => H 7 1 _ _ _ _ _ k0 k v0 kn' vl kt vt (Or.inr ⟨rfl, rfl, rfl⟩) (bs_psh8 _ h1) (bs_psh8 _ h2) (bs_psh8 _ h3) (bs_psh8 _ h4) (bs_psh8 _ h5) W0 W)
theorem ys_undo {post : Int32 → SY → Prop} {df : Int32} {op on tw nm oc oo oa ob ov kn vl kt vt : Nat → Int32} {R O N R' O' N' : Nat → Int32} {n f : Nat} (hn : n < 8) (hf : f < 16) (ef : oc n = nI f) (C : bs_CC R O N op on tw nm)
    (C' : bs_CC R' O' N' (upd op f (oo n)) (upd on f (oa n)) (upd tw f (ob n)) (upd nm f (ov n)))
    (H : ∀ (k0 k : Nat → Bool) (v0 kn vl kt vt : Nat → Int32), bs_W R O N k0 v0 → bs_W R' O' N' k vl → post (nI f) (nI n, bs_mk (bs_dfr k k0 vl v0) 16, upd op f (oo n), upd on f (oa n), upd tw f (ob n), upd nm f (ov n), oc, oo, oa, ob, ov, kn, vl, kt, vt)) :
    wpY_undo post (nI (n + 1), df, op, on, tw, nm, oc, oo, oa, ob, ov, kn, vl, kt, vt) := by
  unfold wpY_undo
  refine br_f (nI_ne0 (by omega) (by omega)) (ys_before C (fun k0 kn v0 kt vt K0 W0 hv => nm_r (nI_pred n) ?_))
  have v8 := bs_v8 hn
  rw [bs_c8 hn]
  refine ⟨v8, nm_r ef ⟨v8, v8, v8, v8, ys_hold hf (ys_after C' K0 hv (fun k kn' vl W => H k0 k v0 kn' vl kt vt W0 W))⟩⟩
theorem ys_bcL {post : Int32 → SY → Prop} {ch df : Int32} {op on tw nm oc oo oa ob ov kn vl kt vt : Nat → Int32} {k : Nat → Bool} (K : bs_K kn k) (H : post (bs_mk (fun j => !k j) 16) (ch, df, op, on, tw, nm, oc, oo, oa, ob, ov, kn, vl, kt, vt)) : ∀ d i : Nat, i + d = 16 → wY_brokenCells_8 post ch df op on tw nm oc oo oa ob ov kn vl kt vt (d + 1) (bs_mk (fun j => !k j) i) (nI i) := by
  intro d
  induction d with
  | zero =>
    intro i hi
    obtain rfl : i = 16 := by omega
    exact br_t bs_16 H
  | succ d ih =>
    intro i hi
    have hl : i < 16 := by omega
    have hx := ih (i + 1) (by omega)
    refine br_f (bs_n16 hl) ⟨bs_vi hl, ?_⟩
    rw [bs_cl hl]
    cases z : k i
    · exact br_t (bs_K0 K hl z) (nm_r (bs_mkT (p := fun j => !k j) (n := i) (by rw [z]; rfl)).symm (nm_r (nI_1 i) hx))
    · rw [bs_mkF (p := fun j => !k j) (n := i) (by rw [z]; rfl)] at hx
      exact br_f (bs_K1 K hl z) (nm_r Int32.or_zero (nm_r (nI_1 i) hx))
theorem ys_rdrL {post : Int32 → Prop} {ch df : Int32} {op on tw nm oc oo oa ob ov kn vl kt vt : Nat → Int32} {R O N : Nat → Int32} {q : Nat} (hq : q < 16) (C : bs_CC R O N op on tw nm) (H : post (bs_mk (fun j => bt (R j) q) 16)) : ∀ d i : Nat, i + d = 16 → wY_readers_4 post (nI q) ch df op on tw nm oc oo oa ob ov kn vl kt vt (d + 1) (bs_mk (fun j => bt (R j) q) i) (nI i) := by
  intro d
  induction d with
  | zero =>
    intro i hi
    obtain rfl : i = 16 := by omega
    exact br_t bs_16 H
  | succ d ih =>
    intro i hi
    have hl : i < 16 := by omega
    have hx := ih (i + 1) (by omega)
    refine br_f (bs_n16 hl) (ys_cellT hq (br_f bs_n10 (ys_reads hl hq (C i hl) (fun b => br_f bs_n10 ?_) (fun b => br_t rfl ?_))))
    · exact nm_r (bs_mkT (p := fun j => bt (R j) q) (n := i) b).symm (nm_r (nI_1 i) hx)
    · rw [bs_mkF (p := fun j => bt (R j) q) (n := i) b] at hx
      exact nm_r Int32.or_zero (nm_r (nI_1 i) hx)
theorem ys_rdr {post : Int32 → Prop} {ch df : Int32} {op on tw nm oc oo oa ob ov kn vl kt vt : Nat → Int32} {R O N : Nat → Int32} {q : Nat} (hq : q < 16) (C : bs_CC R O N op on tw nm) (H : post (bs_mk (fun j => bt (R j) q) 16)) : wpY_readers post (ch, df, op, on, tw, nm, oc, oo, oa, ob, ov, kn, vl, kt, vt) (nI q) :=
  ⟨17, ys_rdrL hq C H 16 0 rfl⟩
theorem ys_rdrN {post : Int32 → Prop} {ch df : Int32} {op on tw nm oc oo oa ob ov kn vl kt vt : Nat → Int32} {p : Int32} (hp : ¬ bs_cell p) (H : post 0) : wpY_readers post (ch, df, op, on, tw, nm, oc, oo, oa, ob, ov, kn, vl, kt, vt) p :=
  ⟨1, br_f (by decide) (ys_cellF hp (br_t rfl H))⟩
theorem ys_depI {post : Int32 → Prop} {J : Int32 → Int32 → Prop} {x3 : Int32} {ch df : Int32} {op on tw nm oc oo oa ob ov kn vl kt vt : Nat → Int32} {R O N : Nat → Int32} {q : Nat} {k0 : Nat → Bool} (C : bs_CC R O N op on tw nm)
    (H : ∀ k : Nat → Bool, (∀ f, f < 16 → k0 f = true → k f = true) → (∀ j, j < 16 → k0 j = true → ∀ f, f < 16 → bt (R f) j = true → k f = true) → bs_dL R q k → J (bs_mk k 16) (x3 + 1)) :
    ∀ d i : Nat, i + d = 16 → ∀ k : Nat → Bool, (∀ f, f < 16 → k0 f = true → k f = true) → (∀ j, j < i → k0 j = true → ∀ f, f < 16 → bt (R f) j = true → k f = true) → bs_dL R q k → wY_dependents_17 post J x3 ch df op on tw nm oc oo oa ob ov kn vl kt vt (d + 1) (bs_mk k 16) (nI i) := by
  intro d
  induction d with
  | zero =>
    intro i hi k hm hF L
    obtain rfl : i = 16 := by omega
    exact br_t bs_16 (nm_e (H k hm hF L))
  | succ d ih =>
    intro i hi k hm hF L
    have hl : i < 16 := by omega
    refine br_f (bs_n16 hl) ?_
    cases z : k i
    · refine br_f (fun e => by rw [bs_sh1 hl, bs_mk16 _ hl, z] at e; exact absurd e (by decide)) (nm_r (nI_1 i) (ih (i + 1) (by omega) k hm (fun j hj g f hf hb => ?_) L))
      by_cases y : j = i
      · rw [y] at g
        have e := hm i hl g
        rw [z] at e; exact absurd e (by decide)
      · exact hF j (by omega) g f hf hb
    · refine br_t ((bs_sh1 hl).mpr (by rw [bs_mk16 _ hl]; exact z)) (ys_rdr hl C (nm_r (bs_mkOr k _) (nm_r (nI_1 i) (ih (i + 1) (by omega) _ (fun f hf g => ?_) (fun j hj g f hf hb => ?_) (fun k' D f hf g => ?_)))))
      · show (k f || bt (R f) i) = true
        rw [hm f hf g, Bool.true_or]
      · show (k f || bt (R f) i) = true
        by_cases y : j = i
        · rw [← y, hb, Bool.or_true]
        · rw [hF j (by omega) g f hf hb, Bool.true_or]
      · rcases Bool.or_eq_true _ _ ▸ g with y | y
        · exact L k' D f hf y
        · exact D f hf (Or.inr ⟨i, hl, y, L k' D i hl z⟩)
theorem ys_depL {post : Int32 → Prop} {ch df : Int32} {op on tw nm oc oo oa ob ov kn vl kt vt : Nat → Int32} {R O N : Nat → Int32} {q : Nat} (C : bs_CC R O N op on tw nm) (H : ∀ k : Nat → Bool, bs_dD R q k → bs_dL R q k → post (bs_mk k 16)) :
    ∀ d i : Nat, i + d = 16 → ∀ k : Nat → Bool, (∀ f, f < 16 → bt (R f) q = true → k f = true) → bs_dL R q k → (i ≤ bs_cnt k 16 ∨ bs_dD R q k) → wY_dependents_8 post ch df op on tw nm oc oo oa ob ov kn vl kt vt (d + 1) (bs_mk k 16) (nI i) := by
  intro d
  induction d with
  | zero =>
    intro i hi k hb L h
    obtain rfl : i = 16 := by omega
    exact br_t bs_16 (H k (bs_endDD h) L)
  | succ d ih =>
    intro i hi k hb L h
    have hl : i < 16 := by omega
    refine br_f (bs_n16 hl) ⟨17, ys_depI (q := q) (k0 := k) C (fun k1 hm hF L1 => ?_) 16 0 rfl k (fun _ _ h => h) (fun j hj => absurd hj (by omega)) L⟩
    rw [nI_1 i]
    refine ih (i + 1) (by omega) k1 (fun f hf g => hm f hf (hb f hf g)) L1 (bs_rndD hm (fun f hf g => ?_) L1 h)
    rcases g with g | ⟨j, hj, hbj, hkj⟩
    · exact hm f hf (hb f hf g)
    · exact hF j hj hkj f hf hbj
theorem ys_dep {post : Int32 → Prop} {ch df : Int32} {op on tw nm oc oo oa ob ov kn vl kt vt : Nat → Int32} {R O N : Nat → Int32} {q : Nat} (hq : q < 16) (C : bs_CC R O N op on tw nm) (H : ∀ k : Nat → Bool, bs_dD R q k → bs_dL R q k → post (bs_mk k 16)) : wpY_dependents post (ch, df, op, on, tw, nm, oc, oo, oa, ob, ov, kn, vl, kt, vt) (nI q) := by
  unfold wpY_dependents
  exact ys_rdr hq C ⟨17, ys_depL C H 16 0 rfl _ (fun _ _ h => h) (bs_dL0 R q) (Or.inl (Nat.zero_le _))⟩
theorem ys_dep0I {post : Int32 → Prop} {J : Int32 → Int32 → Prop} {x3 : Int32} {ch df : Int32} {op on tw nm oc oo oa ob ov kn vl kt vt : Nat → Int32} (H : J 0 (x3 + 1)) : ∀ d i : Nat, i + d = 16 → wY_dependents_17 post J x3 ch df op on tw nm oc oo oa ob ov kn vl kt vt (d + 1) 0 (nI i) := by
  intro d
  induction d with
  | zero =>
    intro i hi
    obtain rfl : i = 16 := by omega
    exact br_t bs_16 (nm_e H)
  | succ d ih =>
    intro i hi
    have hl : i < 16 := by omega
    exact br_f (bs_n16 hl) (br_f (fun e => by rw [bs_sh1 hl, b_0] at e; exact absurd e (by decide)) (nm_r (nI_1 i) (ih (i + 1) (by omega))))
theorem ys_dep0L {post : Int32 → Prop} {ch df : Int32} {op on tw nm oc oo oa ob ov kn vl kt vt : Nat → Int32} (H : post 0) : ∀ d i : Nat, i + d = 16 → wY_dependents_8 post ch df op on tw nm oc oo oa ob ov kn vl kt vt (d + 1) 0 (nI i) := by
  intro d
  induction d with
  | zero =>
    intro i hi
    obtain rfl : i = 16 := by omega
    exact br_t bs_16 H
  | succ d ih =>
    intro i hi
    have hl : i < 16 := by omega
    exact br_f (bs_n16 hl) ⟨17, ys_dep0I (by rw [nI_1 i]; exact ih (i + 1) (by omega)) 16 0 rfl⟩
theorem ys_depN {post : Int32 → Prop} {ch df : Int32} {op on tw nm oc oo oa ob ov kn vl kt vt : Nat → Int32} {p : Int32} (hp : ¬ bs_cell p) (H : post 0) : wpY_dependents post (ch, df, op, on, tw, nm, oc, oo, oa, ob, ov, kn, vl, kt, vt) p := by
  unfold wpY_dependents
  exact ys_rdrN hp ⟨17, ys_dep0L H 16 0 rfl⟩
theorem ys_totL {post : Int32 → SY → Prop} {ch df : Int32} {op on tw nm oc oo oa ob ov kn vl kt vt : Nat → Int32} {a b : Nat} (ha : a < 16) (hb : b < 16) (H : post (bs_sm (bs_mk (bs_in a b) 16) vl 16) (ch, df, op, on, tw, nm, oc, oo, oa, ob, ov, kn, vl, kt, vt)) :
    ∀ d i : Nat, i + d = 16 → wY_total_9 post (nI a) (nI b) ch df op on tw nm oc oo oa ob ov kn vl kt vt (d + 1) (bs_sm (bs_mk (bs_in a b) 16) vl i) (nI i) := by
  intro d
  induction d with
  | zero =>
    intro i hi
    obtain rfl : i = 16 := by omega
    exact br_t bs_16 H
  | succ d ih =>
    intro i hi
    have hl : i < 16 := by omega
    have hx := ih (i + 1) (by omega)
    refine br_f (bs_n16 hl) (ys_cellT ha (br_f bs_n10 (ys_cellT hb (br_f bs_n10 (ys_in hl ha hb (fun g => br_f bs_n10 ⟨bs_vi hl, ?_⟩) (fun g => br_t rfl ?_))))))
    · rw [bs_cl hl]
      exact nm_r (bs_smT (by rw [bs_mk16 _ hl]; exact g)) (nm_r (nI_1 i) hx)
    · rw [← bs_smF (by rw [bs_mk16 _ hl]; exact g)] at hx
      exact nm_r (Int32.add_zero _) (nm_r (nI_1 i) hx)
theorem ys_mosL {post : Int32 → SY → Prop} {ch df : Int32} {op on tw nm oc oo oa ob ov kn vl kt vt : Nat → Int32} {k : Nat → Bool} (K : bs_K kn k) {a b : Nat} (ha : a < 16) (hb : b < 16) (H : post (bs_mx (-2147483648) (bs_mk (fun j => bs_in a b j && k j) 16) vl 16) (ch, df, op, on, tw, nm, oc, oo, oa, ob, ov, kn, vl, kt, vt)) :
    ∀ d i : Nat, i + d = 16 → wY_most_10 post (nI a) (nI b) ch df op on tw nm oc oo oa ob ov kn vl kt vt (d + 1) (bs_mx (-2147483648) (bs_mk (fun j => bs_in a b j && k j) 16) vl i) (nI i) := by
  intro d
  induction d with
  | zero =>
    intro i hi
    obtain rfl : i = 16 := by omega
    exact br_t bs_16 H
  | succ d ih =>
    intro i hi
    have hl : i < 16 := by omega
    have hx := ih (i + 1) (by omega)
    refine br_f (bs_n16 hl) (ys_cellT ha (br_f bs_n10 (ys_cellT hb (br_f bs_n10 (ys_in hl ha hb (fun g => br_f bs_n10 ⟨bs_vi hl, ?_⟩) (fun g => br_t rfl ?_))))))
    · rw [bs_cl hl]
      cases z : k i
      · rw [← bs_mxF (by rw [bs_mk16 _ hl, z, Bool.and_false])] at hx
        exact br_t (bs_K0 K hl z) (nm_r (nI_1 i) hx)
      · refine br_f (bs_K1 K hl z) ⟨bs_vi hl, ?_⟩
        by_cases w : vl i ≤ bs_mx (-2147483648) (bs_mk (fun j => bs_in a b j && k j) 16) vl i
        · rw [← bs_mxL w] at hx
          exact br_t w (nm_r (nI_1 i) hx)
        · exact br_f w ⟨bs_vi hl, nm_r (bs_mxT (by rw [bs_mk16 _ hl, g, z]; rfl) w) (nm_r (nI_1 i) hx)⟩
    · rw [← bs_mxF (by rw [bs_mk16 _ hl, g, Bool.false_and])] at hx
      exact nm_r (nI_1 i) hx
end
section
/-- the remembered changes, at X and at Y -/
def bs_P (n : Nat) (pc pr po pn oc oo oa ob ov : Nat → Int32) : Prop := ∀ j, j < n → (∃ q : Nat, q < 16 ∧ pc j = nI q ∧ oc j = nI q) ∧ bs_C (pr j) (po j) (pn j) (oo j) (oa j) (ob j) (ov j)
/-- the same contents, the same past, one touched set; X's broken set and values are the settled sheet's -/
def i_Rel (_ : Nat) (u : SX) (v : SY) : Prop := match u, v with
  | (B, T, c, R, O, N, V, VB, pc, pr, po, pn), (ch, df, op, on, tw, nm, oc, oo, oa, ob, ov, kn, vl, kt, vt) => T = df ∧ bs_CC R O N op on tw nm ∧ (∃ n : Nat, n ≤ 8 ∧ c = nI n ∧ ch = nI n ∧ bs_P n pc pr po pn oc oo oa ob ov) ∧ ∃ g : Nat → Bool, B = (bs_mk (fun j => !g j) 16) ∧ bs_W R O N g V
theorem i_up {k : Nat} {u : SX} {v : SY} (h : i_Rel k u v) : i_Rel (k + 5) u v := h
theorem bs_relI {k n : Nat} {g : Nat → Bool} {T : Int32} {R O N V VB pc pr po pn : Nat → Int32} {df : Int32} {op on tw nm oc oo oa ob ov kn vl kt vt : Nat → Int32} (hT : T = df) (C : bs_CC R O N op on tw nm) (hn : n ≤ 8) (P : bs_P n pc pr po pn oc oo oa ob ov) (W : bs_W R O N g V) : i_Rel k ((bs_mk (fun j => !g j) 16), T, nI n, R, O, N, V, VB, pc, pr, po, pn) (nI n, df, op, on, tw, nm, oc, oo, oa, ob, ov, kn, vl, kt, vt) :=
  ⟨hT, C, ⟨n, hn, rfl, rfl, P⟩, g, rfl, W⟩
theorem bs_msU {n m s m' s' : Nat} (h : bs_ms n m s) (h' : bs_ms n m' s') : m = m' ∧ s = s' := by
  unfold bs_ms at h h'
  omega
theorem bs_msL {n m s : Nat} (h : bs_ms n m s) : m + 1 ≤ 8 ∧ ∀ j, j < m → j + s < n := by
  unfold bs_ms at h
  exact ⟨by omega, fun j hj => by omega⟩
theorem bs_tq (a b : Bool) (x y : Int32) : ((!b ^^ !a) || !decide (x = y)) = !(decide (a = b) && decide (x = y)) := by
  by_cases h : x = y
  · rw [decide_eq_true h]; cases a <;> cases b <;> rfl
  · rw [decide_eq_false h]; cases a <;> cases b <;> rfl
theorem bs_touch {R O N R' O' N' V v0 V' v1 : Nat → Int32} {g g0 g' g1 : Nat → Bool} (W : bs_W R O N g V) (W0 : bs_W R O N g0 v0) (W' : bs_W R' O' N' g' V') (W1 : bs_W R' O' N' g1 v1) :
    ((bs_mk (fun j => !g j) 16) ^^^ (bs_mk (fun j => !g' j) 16)) ||| bs_mk (fun j => !decide (V' j = V j)) 16 = bs_mk (bs_dfr g1 g0 v1 v0) 16 := by
  rw [bs_mkXor, bs_mkOr]
  apply bs_mkE
  intro i hi
  obtain ⟨a, b⟩ := bs_uniq W W0 i hi
  obtain ⟨d, e⟩ := bs_uniq W' W1 i hi
  unfold bs_dfr
  rw [a, b, d, e]
  exact bs_tq _ _ _ _
theorem bs_upC {R O N op on tw nm : Nat → Int32} {rd ro rn p1 p2 p3 p4 : Int32} {f : Nat} (C : bs_CC R O N op on tw nm) (h : bs_C rd ro rn p1 p2 p3 p4) :
    bs_CC (upd R f rd) (upd O f ro) (upd N f rn) (upd op f p1) (upd on f p2) (upd tw f p3) (upd nm f p4) := by
  intro j hj
  by_cases y : j = f
  · rw [y, bs_updS, bs_updS, bs_updS, bs_updS, bs_updS, bs_updS, bs_updS]; exact h
  · rw [bs_updN y, bs_updN y, bs_updN y, bs_updN y, bs_updN y, bs_updN y, bs_updN y]; exact C j hj
theorem bs_Pn {n m s f : Nat} {pc pr po pn oc oo oa ob ov pc' pr' po' pn' oc' oo' oa' ob' ov' : Nat → Int32} {rd ro rn p1 p2 p3 p4 : Int32} (P : bs_P n pc pr po pn oc oo oa ob ov) (hm : bs_ms n m s) (hf : f < 16)
    (h1 : bs_psh pc pc' m s (nI f)) (h2 : bs_psh pr pr' m s rd) (h3 : bs_psh po po' m s ro) (h4 : bs_psh pn pn' m s rn)
    (y1 : bs_psh oc oc' m s (nI f)) (y2 : bs_psh oo oo' m s p1) (y3 : bs_psh oa oa' m s p2) (y4 : bs_psh ob ob' m s p3) (y5 : bs_psh ov ov' m s p4) (C : bs_C rd ro rn p1 p2 p3 p4) :
    bs_P (m + 1) pc' pr' po' pn' oc' oo' oa' ob' ov' := by
  intro j hj
  by_cases y : j = m
  · subst y
    rw [h1.1, h2.1, h3.1, h4.1, y1.1, y2.1, y3.1, y4.1, y5.1]
    exact ⟨⟨f, hf, rfl, rfl⟩, C⟩
  · have l : j < m := by omega
    rw [h1.2 j l, h2.2 j l, h3.2 j l, h4.2 j l, y1.2 j l, y2.2 j l, y3.2 j l, y4.2 j l, y5.2 j l]
    exact P (j + s) ((bs_msL hm).2 j l)
theorem ys_chg {post : SY → Prop} {k n m s f : Nat} {g g' : Nat → Bool} {rd ro rn p1 p2 p3 p4 : Int32} {R O N V VB pc pr po pn : Nat → Int32} {df : Int32} {op on tw nm oc oo oa ob ov kn vl kt vt : Nat → Int32} {pc' pr' po' pn' V' : Nat → Int32} (hn : n ≤ 8) (hf : f < 16) (C : bs_CC R O N op on tw nm) (P : bs_P n pc pr po pn oc oo oa ob ov) (W : bs_W R O N g V)
    (hm : bs_ms n m s) (h1 : bs_psh pc pc' m s (nI f)) (h2 : bs_psh pr pr' m s (R f)) (h3 : bs_psh po po' m s (O f)) (h4 : bs_psh pn pn' m s (N f)) (D : bs_C rd ro rn p1 p2 p3 p4) (W' : bs_W (upd R f rd) (upd O f ro) (upd N f rn) g' V')
    (H : ∀ v' : SY, i_Rel k ((bs_mk (fun j => !g' j) 16), ((bs_mk (fun j => !g j) 16) ^^^ (bs_mk (fun j => !g' j) 16)) ||| bs_mk (fun j => !decide (V' j = V j)) 16, nI (m + 1), upd R f rd, upd O f ro, upd N f rn, V', VB, pc', pr', po', pn') v' → post v') : wpY_change post (nI n, df, op, on, tw, nm, oc, oo, oa, ob, ov, kn, vl, kt, vt) (nI f) p1 p2 p3 p4 := by
  refine ys_change hn hf C (bs_upC C D) (fun m' s' oc' oo' oa' ob' ov' k0 k1 v0 kn' vl' kt' vt' hm' y1 y2 y3 y4 y5 W0 W1 => ?_)
  obtain ⟨rfl, rfl⟩ := bs_msU hm hm'
  refine H _ ?_
  exact bs_relI (bs_touch W W0 W' W1) (bs_upC C D) (bs_msL hm).1 (bs_Pn P hm hf h1 h2 h3 h4 y1 y2 y3 y4 y5 (C f hf)) W'
theorem ys_ini {post : SY → Prop} {ch df : Int32} {on tw nm oc oo oa ob ov kn vl kt vt : Nat → Int32} (H : ∀ op : Nat → Int32, (∀ j, j < 16 → op j = -1) → post (ch, df, op, on, tw, nm, oc, oo, oa, ob, ov, kn, vl, kt, vt)) : ∀ d i : Nat, i + d = 16 → ∀ op : Nat → Int32, (∀ j, j < i → op j = -1) → wY_init_110 post ch df (d + 1) (nI i) op on tw nm oc oo oa ob ov kn vl kt vt := by
  intro d
  induction d with
  | zero =>
    intro i hi op h
    obtain rfl : i = 16 := by omega
    exact br_t bs_16 (H op h)
  | succ d ih =>
    intro i hi op h
    have hl : i < 16 := by omega
    refine br_f (bs_n16 hl) ⟨bs_vi hl, ?_⟩
    rw [bs_cl hl]
    refine nm_e (nm_r (nI_1 i) (ih (i + 1) (by omega) _ (fun j hj => ?_)))
    by_cases y : j = i
    · rw [y, bs_updS]
    · rw [bs_updN y]; exact h j (by omega)
theorem bs_W0 : bs_W (fun _ => 0) (fun _ => 0) (fun _ => 0) (fun _ => true) (fun _ => 0) := by
  have r : ∀ (q : Nat → Bool) (i : Nat), bs_rdy (fun _ => 0) q i := fun q i j hj hb => by
    have e : bt (0 : Int32) j = true := hb
    rw [b_0] at e; exact absurd e (by decide)
  refine ⟨fun i hi _ => ⟨r _ i, rfl⟩, fun k' v' D S i hi _ => ?_, fun _ _ _ => rfl, fun i hi h => Bool.noConfusion (show true = false from h)⟩
  have g : k' i = true := D i hi (r k' i)
  exact ⟨g, (S i hi g).2⟩
theorem i_vc0 : wpX_init (fun u => wpY_init (fun v => i_Rel 0 u v)) := by
  unfold wpX_init wpY_init
  refine ⟨17, ys_ini (fun op h => ?_) 16 0 rfl (fun _ => 0) (fun j hj => absurd hj (by omega))⟩
  exact ⟨rfl, fun f hf => ⟨rfl, Or.inl ⟨h f hf, rfl⟩⟩, ⟨0, by omega, rfl, rfl, fun j hj => absurd hj (by omega)⟩, fun _ => true, by decide +kernel, bs_W0⟩
end
section
theorem i_vc_put {k : Nat} {u : SX} {v : SY} (I : i_Rel k u v) (hk : k + 5 ≤ 2560) (v1 : Int32) (v2 : Int32) : wpX_put (fun r u' => wpY_put (fun r' v' => r' = r ∧ i_Rel (k + 5) u' v') v v1 v2) u v1 v2 := by
  have I0 := I
  obtain ⟨B, T, c, R, O, N, V, VB, pc, pr, po, pn⟩ := u
  obtain ⟨ch, df, op, on, tw, nm, oc, oo, oa, ob, ov, kn, vl, kt, vt⟩ := v
  obtain ⟨rfl, C, ⟨n, hn, rfl, rfl, P⟩, g, rfl, W⟩ := I
  by_cases hc : bs_cell v1
  · obtain ⟨f, hf, rfl⟩ := hc
    unfold wpX_put
    refine xs_cellT hf (br_f bs_n10 (xs_rem hn hf (fun m s pc' pr' po' pn' hm h1 h2 h3 h4 => xs_hold hf (fun VB' g' V' W' => ?_))))
    unfold wpY_put
    refine ys_cellT hf (br_f bs_n10 ?_)
    exact ys_chg (VB := VB') hn hf C P W hm h1 h2 h3 h4 ⟨rfl, Or.inl ⟨rfl, rfl⟩⟩ W' (fun v' h => ⟨rfl, h⟩)
  · unfold wpX_put
    refine xs_cellF hc (br_t rfl ?_)
    unfold wpY_put
    exact ys_cellF hc (br_t rfl ⟨rfl, I0⟩)
theorem i_vc_formula {k : Nat} {u : SX} {v : SY} (I : i_Rel k u v) (hk : k + 5 ≤ 2560) (v1 : Int32) (v2 : Int32) (v3 : Int32) (v4 : Int32) : wpX_formula (fun r u' => wpY_formula (fun r' v' => r' = r ∧ i_Rel (k + 5) u' v') v v1 v2 v3 v4) u v1 v2 v3 v4 := by
  have I0 := I
  obtain ⟨B, T, c, R, O, N, V, VB, pc, pr, po, pn⟩ := u
  obtain ⟨ch, df, op, on, tw, nm, oc, oo, oa, ob, ov, kn, vl, kt, vt⟩ := v
  obtain ⟨rfl, C, ⟨n, hn, rfl, rfl, P⟩, g, rfl, W⟩ := I
  by_cases hc : bs_cell v1
  · obtain ⟨f, hf, rfl⟩ := hc
    by_cases ha : bs_cell v3
    · obtain ⟨a, ha, rfl⟩ := ha
      by_cases hb : bs_cell v4
      · obtain ⟨b, hb, rfl⟩ := hb
        by_cases o0 : v2 < 0
        · unfold wpX_formula
          refine xs_cellT hf (br_f bs_n10 (xs_cellT ha (br_f bs_n10 (xs_cellT hb (br_f bs_n10 (br_t o0 ?_))))))
          unfold wpY_formula
          exact ys_cellT hf (br_f bs_n10 (ys_cellT ha (br_f bs_n10 (ys_cellT hb (br_f bs_n10 (br_t o0 ⟨rfl, I0⟩))))))
        · by_cases o3 : v2 ≤ 3
          · obtain ⟨o, ho, rfl⟩ := nI_of o0
            have o4 : o < 4 := by
              have e := (nI_leI (a := o) (b := 3) ho (by decide)).mp o3
              omega
            unfold wpX_formula
            refine xs_cellT hf (br_f bs_n10 (xs_cellT ha (br_f bs_n10 (xs_cellT hb (br_f bs_n10 (br_f o0 (br_t o3 (xs_rect ha hb (xs_rem hn hf (fun m s pc' pr' po' pn' hm h1 h2 h3 h4 => xs_hold hf (fun VB' g' V' W' => ?_)))))))))))
            unfold wpY_formula
            refine ys_cellT hf (br_f bs_n10 (ys_cellT ha (br_f bs_n10 (ys_cellT hb (br_f bs_n10 (br_f o0 (br_t o3 ?_)))))))
            exact ys_chg (VB := VB') hn hf C P W hm h1 h2 h3 h4 ⟨rfl, Or.inr ⟨o, a, b, o4, ha, hb, rfl, rfl, rfl, rfl, rfl⟩⟩ W' (fun v' h => ⟨rfl, h⟩)
          · unfold wpX_formula
            refine xs_cellT hf (br_f bs_n10 (xs_cellT ha (br_f bs_n10 (xs_cellT hb (br_f bs_n10 (br_f o0 (br_f o3 ?_)))))))
            unfold wpY_formula
            exact ys_cellT hf (br_f bs_n10 (ys_cellT ha (br_f bs_n10 (ys_cellT hb (br_f bs_n10 (br_f o0 (br_f o3 ⟨rfl, I0⟩)))))))
      · unfold wpX_formula
        refine xs_cellT hf (br_f bs_n10 (xs_cellT ha (br_f bs_n10 (xs_cellF hb (br_t rfl ?_)))))
        unfold wpY_formula
        exact ys_cellT hf (br_f bs_n10 (ys_cellT ha (br_f bs_n10 (ys_cellF hb (br_t rfl ⟨rfl, I0⟩)))))
    · unfold wpX_formula
      refine xs_cellT hf (br_f bs_n10 (xs_cellF ha (br_t rfl ?_)))
      unfold wpY_formula
      exact ys_cellT hf (br_f bs_n10 (ys_cellF ha (br_t rfl ⟨rfl, I0⟩)))
  · unfold wpX_formula
    refine xs_cellF hc (br_t rfl ?_)
    unfold wpY_formula
    exact ys_cellF hc (br_t rfl ⟨rfl, I0⟩)
theorem i_vc_offset {k : Nat} {u : SX} {v : SY} (I : i_Rel k u v) (hk : k + 5 ≤ 2560) (v1 : Int32) (v2 : Int32) : wpX_offset (fun r u' => wpY_offset (fun r' v' => r' = r ∧ i_Rel (k + 5) u' v') v v1 v2) u v1 v2 := by
  have I0 := I
  obtain ⟨B, T, c, R, O, N, V, VB, pc, pr, po, pn⟩ := u
  obtain ⟨ch, df, op, on, tw, nm, oc, oo, oa, ob, ov, kn, vl, kt, vt⟩ := v
  obtain ⟨rfl, C, ⟨n, hn, rfl, rfl, P⟩, g, rfl, W⟩ := I
  by_cases hc : bs_cell v1
  · obtain ⟨f, hf, rfl⟩ := hc
    have vf := bs_vi hf
    have e0 := bs_CO (C f hf)
    unfold wpX_offset
    refine xs_cellT hf (br_f bs_n10 ⟨vf, ?_⟩)
    rw [bs_cl hf]
    by_cases z : op f < 0
    · refine br_t (e0.mp z) ?_
      unfold wpY_offset
      refine ys_cellT hf (br_f bs_n10 ⟨vf, ?_⟩)
      rw [bs_cl hf]
      exact br_f (Int32.not_le.mpr z) ⟨rfl, I0⟩
    · refine br_f (fun e => z (e0.mpr e)) (xs_rem hn hf (fun m s pc' pr' po' pn' hm h1 h2 h3 h4 => ⟨vf, vf, xs_hold hf (fun VB' g' V' W' => ?_)⟩))
      unfold wpY_offset
      refine ys_cellT hf (br_f bs_n10 ⟨vf, ?_⟩)
      rw [bs_cl hf]
      refine br_t (Int32.not_lt.mp z) ⟨vf, vf, vf, ?_⟩
      exact ys_chg (VB := VB') hn hf C P W hm h1 h2 h3 h4 ⟨rfl, (C f hf).2⟩ W' (fun v' h => ⟨rfl, h⟩)
  · unfold wpX_offset
    refine xs_cellF hc (br_t rfl ?_)
    unfold wpY_offset
    exact ys_cellF hc (br_t rfl ⟨rfl, I0⟩)
theorem i_vc_undo {k : Nat} {u : SX} {v : SY} (I : i_Rel k u v) (hk : k + 5 ≤ 2560) : wpX_undo (fun r u' => wpY_undo (fun r' v' => r' = r ∧ i_Rel (k + 5) u' v') v) u := by
  have I0 := I
  obtain ⟨B, T, c, R, O, N, V, VB, pc, pr, po, pn⟩ := u
  obtain ⟨ch, df, op, on, tw, nm, oc, oo, oa, ob, ov, kn, vl, kt, vt⟩ := v
  obtain ⟨rfl, C, ⟨n, hn, rfl, rfl, P⟩, g, rfl, W⟩ := I
  cases n with
  | zero => exact br_f (by decide) (br_t rfl ⟨rfl, I0⟩)
  | succ n =>
    have hl : n < 8 := by omega
    have v8 := bs_v8 hl
    obtain ⟨⟨q, hq, e1, e2⟩, D⟩ := P n (by omega)
    unfold wpX_undo
    refine br_t (nI_le (a := 1) (by omega) (by omega)) (nm_r (nI_pred n) ⟨v8, ?_⟩)
    rw [bs_c8 hl]
    refine nm_r e1 ⟨v8, v8, v8, xs_hold hq (fun VB' g' V' W' => ?_)⟩
    refine ys_undo hl hq e2 C (bs_upC C D) (fun k0 k1 v0 kn' vl' kt' vt' W0 W1 => ⟨rfl, ?_⟩)
    exact bs_relI (bs_touch W W0 W' W1) (bs_upC C D) (by omega) (fun j hj => P j (by omega)) W'
theorem i_vc_value {k : Nat} {u : SX} {v : SY} (I : i_Rel k u v) (hk : k + 5 ≤ 2560) (v1 : Int32) : wpX_value (fun r => wpY_value (fun r' v' => r' = r ∧ i_Rel (k + 5) u v') v v1) u v1 := by
  obtain ⟨B, T, c, R, O, N, V, VB, pc, pr, po, pn⟩ := u
  obtain ⟨ch, df, op, on, tw, nm, oc, oo, oa, ob, ov, kn, vl, kt, vt⟩ := v
  obtain ⟨rfl, C, ⟨n, hn, rfl, rfl, P⟩, g, rfl, W⟩ := I
  by_cases hc : bs_cell v1
  · obtain ⟨f, hf, rfl⟩ := hc
    have vf := bs_vi hf
    unfold wpX_value
    refine xs_cellT hf (br_f bs_n10 ⟨vf, ?_⟩)
    rw [bs_cl hf]
    unfold wpY_value
    refine ys_work C (fun k1 kn' vl' K1 W1 => ys_cellT hf (br_f bs_n10 ⟨vf, ?_, bs_relI rfl C hn P W⟩))
    rw [bs_cl hf]
    exact (bs_uniq W1 W f hf).2
  · unfold wpX_value
    refine xs_cellF hc (br_t rfl ?_)
    unfold wpY_value
    exact ys_work C (fun k1 kn' vl' K1 W1 => ys_cellF hc (br_t rfl ⟨rfl, bs_relI rfl C hn P W⟩))
theorem i_vc_broken {k : Nat} {u : SX} {v : SY} (I : i_Rel k u v) (hk : k + 5 ≤ 2560) (v1 : Int32) : wpX_broken (fun r => wpY_broken (fun r' v' => r' = r ∧ i_Rel (k + 5) u v') v v1) u v1 := by
  obtain ⟨B, T, c, R, O, N, V, VB, pc, pr, po, pn⟩ := u
  obtain ⟨ch, df, op, on, tw, nm, oc, oo, oa, ob, ov, kn, vl, kt, vt⟩ := v
  obtain ⟨rfl, C, ⟨n, hn, rfl, rfl, P⟩, g, rfl, W⟩ := I
  by_cases hc : bs_cell v1
  · obtain ⟨f, hf, rfl⟩ := hc
    have vf := bs_vi hf
    unfold wpX_broken
    refine xs_cellT hf (br_f bs_n10 ?_)
    cases z : g f
    · refine br_f (bs_bit1 hf (bs_cls hf z)) ?_
      unfold wpY_broken
      refine ys_work C (fun k1 kn' vl' K1 W1 => ys_cellT hf (br_f bs_n10 ⟨vf, ?_⟩))
      rw [bs_cl hf]
      exact br_t (bs_K0 K1 hf (by rw [(bs_uniq W1 W f hf).1]; exact z)) ⟨rfl, bs_relI rfl C hn P W⟩
    · refine br_t (bs_bit0 hf (bs_opn hf z)) ?_
      unfold wpY_broken
      refine ys_work C (fun k1 kn' vl' K1 W1 => ys_cellT hf (br_f bs_n10 ⟨vf, ?_⟩))
      rw [bs_cl hf]
      exact br_f (bs_K1 K1 hf (by rw [(bs_uniq W1 W f hf).1]; exact z)) ⟨rfl, bs_relI rfl C hn P W⟩
  · unfold wpX_broken
    refine xs_cellF hc (br_t rfl ?_)
    unfold wpY_broken
    exact ys_work C (fun k1 kn' vl' K1 W1 => ys_cellF hc (br_t rfl ⟨rfl, bs_relI rfl C hn P W⟩))
theorem i_vc_brokenCells {k : Nat} {u : SX} {v : SY} (I : i_Rel k u v) (hk : k + 5 ≤ 2560) : wpX_brokenCells (fun r => wpY_brokenCells (fun r' v' => r' = r ∧ i_Rel (k + 5) u v') v) u := by
  obtain ⟨B, T, c, R, O, N, V, VB, pc, pr, po, pn⟩ := u
  obtain ⟨ch, df, op, on, tw, nm, oc, oo, oa, ob, ov, kn, vl, kt, vt⟩ := v
  obtain ⟨rfl, C, ⟨n, hn, rfl, rfl, P⟩, g, rfl, W⟩ := I
  unfold wpX_brokenCells wpY_brokenCells
  refine ys_work C (fun k1 kn' vl' K1 W1 => ⟨17, ys_bcL K1 ⟨?_, bs_relI rfl C hn P W⟩ 16 0 rfl⟩)
  exact bs_mkE (fun i hi => by rw [(bs_uniq W1 W i hi).1])
theorem i_vc_touched {k : Nat} {u : SX} {v : SY} (I : i_Rel k u v) (hk : k + 5 ≤ 2560) : wpX_touched (fun r => wpY_touched (fun r' => r' = r ∧ i_Rel (k + 5) u v) v) u := by
  have I0 := I
  obtain ⟨B, T, c, R, O, N, V, VB, pc, pr, po, pn⟩ := u
  obtain ⟨ch, df, op, on, tw, nm, oc, oo, oa, ob, ov, kn, vl, kt, vt⟩ := v
  obtain ⟨e, _⟩ := I
  exact ⟨e.symm, I0⟩
theorem i_vc_readers {k : Nat} {u : SX} {v : SY} (I : i_Rel k u v) (hk : k + 5 ≤ 2560) (v1 : Int32) : wpX_readers (fun r => wpY_readers (fun r' => r' = r ∧ i_Rel (k + 5) u v) v v1) u v1 := by
  have I0 := I
  obtain ⟨B, T, c, R, O, N, V, VB, pc, pr, po, pn⟩ := u
  obtain ⟨ch, df, op, on, tw, nm, oc, oo, oa, ob, ov, kn, vl, kt, vt⟩ := v
  obtain ⟨_, C, _⟩ := I
  by_cases hc : bs_cell v1
  · obtain ⟨f, hf, rfl⟩ := hc
    unfold wpX_readers
    refine xs_cellT hf (br_f bs_n10 (xs_rdr ?_))
    rw [bs_rd1 hf]
    exact ys_rdr hf C ⟨rfl, I0⟩
  · unfold wpX_readers
    refine xs_cellF hc (br_t rfl ?_)
    exact ys_rdrN hc ⟨rfl, I0⟩
theorem i_vc_dependents {k : Nat} {u : SX} {v : SY} (I : i_Rel k u v) (hk : k + 5 ≤ 2560) (v1 : Int32) : wpX_dependents (fun r => wpY_dependents (fun r' => r' = r ∧ i_Rel (k + 5) u v) v v1) u v1 := by
  have I0 := I
  obtain ⟨B, T, c, R, O, N, V, VB, pc, pr, po, pn⟩ := u
  obtain ⟨ch, df, op, on, tw, nm, oc, oo, oa, ob, ov, kn, vl, kt, vt⟩ := v
  obtain ⟨_, C, _⟩ := I
  by_cases hc : bs_cell v1
  · obtain ⟨f, hf, rfl⟩ := hc
    exact xs_dep hf (fun k1 D1 L1 => ys_dep hf C (fun k2 D2 L2 => ⟨bs_dU D2 L2 D1 L1, I0⟩))
  · unfold wpX_dependents
    refine xs_cellF hc (br_t rfl ?_)
    exact ys_depN hc ⟨rfl, I0⟩
theorem i_vc_total {k : Nat} {u : SX} {v : SY} (I : i_Rel k u v) (hk : k + 5 ≤ 2560) (v1 : Int32) (v2 : Int32) : wpX_total (fun r => wpY_total (fun r' v' => r' = r ∧ i_Rel (k + 5) u v') v v1 v2) u v1 v2 := by
  obtain ⟨B, T, c, R, O, N, V, VB, pc, pr, po, pn⟩ := u
  obtain ⟨ch, df, op, on, tw, nm, oc, oo, oa, ob, ov, kn, vl, kt, vt⟩ := v
  obtain ⟨rfl, C, ⟨n, hn, rfl, rfl, P⟩, g, rfl, W⟩ := I
  by_cases ha : bs_cell v1
  · obtain ⟨a, ha, rfl⟩ := ha
    by_cases hb : bs_cell v2
    · obtain ⟨b, hb, rfl⟩ := hb
      unfold wpX_total
      refine xs_cellT ha (br_f bs_n10 (xs_cellT hb (br_f bs_n10 (xs_rect ha hb (xs_sum ?_)))))
      unfold wpY_total
      refine ys_work C (fun k1 kn' vl' K1 W1 => ⟨17, ys_totL ha hb ⟨?_, bs_relI rfl C hn P W⟩ 16 0 rfl⟩)
      exact (bs_foldC (fun j hj _ => (bs_uniq W1 W j hj).2) 0 0 16 (by omega)).1
    · unfold wpX_total
      refine xs_cellT ha (br_f bs_n10 (xs_cellF hb (br_t rfl ?_)))
      unfold wpY_total
      exact ys_work C (fun k1 kn' vl' K1 W1 => ⟨1, br_f (by decide) (ys_cellT ha (br_f bs_n10 (ys_cellF hb (br_t rfl ⟨rfl, bs_relI rfl C hn P W⟩))))⟩)
  · unfold wpX_total
    refine xs_cellF ha (br_t rfl ?_)
    unfold wpY_total
    exact ys_work C (fun k1 kn' vl' K1 W1 => ⟨1, br_f (by decide) (ys_cellF ha (br_t rfl ⟨rfl, bs_relI rfl C hn P W⟩))⟩)
theorem i_vc_most {k : Nat} {u : SX} {v : SY} (I : i_Rel k u v) (hk : k + 5 ≤ 2560) (v1 : Int32) (v2 : Int32) : wpX_most (fun r => wpY_most (fun r' v' => r' = r ∧ i_Rel (k + 5) u v') v v1 v2) u v1 v2 := by
  obtain ⟨B, T, c, R, O, N, V, VB, pc, pr, po, pn⟩ := u
  obtain ⟨ch, df, op, on, tw, nm, oc, oo, oa, ob, ov, kn, vl, kt, vt⟩ := v
  obtain ⟨rfl, C, ⟨n, hn, rfl, rfl, P⟩, g, rfl, W⟩ := I
  by_cases ha : bs_cell v1
  · obtain ⟨a, ha, rfl⟩ := ha
    by_cases hb : bs_cell v2
    · obtain ⟨b, hb, rfl⟩ := hb
      unfold wpX_most
      refine xs_cellT ha (br_f bs_n10 (xs_cellT hb (br_f bs_n10 (xs_rect ha hb (xs_gre ?_)))))
      unfold wpY_most
      refine ys_work C (fun k1 kn' vl' K1 W1 => ⟨17, ys_mosL K1 ha hb ⟨?_, bs_relI rfl C hn P W⟩ 16 0 rfl⟩)
      have e : bs_mk (bs_in a b) 16 &&& ((bs_mk (fun j => !g j) 16) ^^^ (-1)) = bs_mk (fun j => bs_in a b j && k1 j) 16 := by
        rw [bs_mkNot]
        exact bs_mkE (fun i hi => by rw [(bs_uniq W1 W i hi).1, Bool.not_not])
      rw [e]
      exact (bs_foldC (fun j hj _ => (bs_uniq W1 W j hj).2) _ 0 16 (by omega)).2.1
    · unfold wpX_most
      refine xs_cellT ha (br_f bs_n10 (xs_cellF hb (br_t rfl ?_)))
      unfold wpY_most
      exact ys_work C (fun k1 kn' vl' K1 W1 => ⟨1, br_f (by decide) (ys_cellT ha (br_f bs_n10 (ys_cellF hb (br_t rfl ⟨rfl, bs_relI rfl C hn P W⟩))))⟩)
  · unfold wpX_most
    refine xs_cellF ha (br_t rfl ?_)
    unfold wpY_most
    exact ys_work C (fun k1 kn' vl' K1 W1 => ⟨1, br_f (by decide) (ys_cellF ha (br_t rfl ⟨rfl, bs_relI rfl C hn P W⟩))⟩)
end
