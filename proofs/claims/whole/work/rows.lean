section
def bt (x : Int32) (i : Nat) : Bool := x.toBitVec.getLsbD i
theorem b_ext {x y : Int32} (h : ∀ i, i < 32 → bt x i = bt y i) : x = y := Int32.toBitVec_inj.mp (BitVec.eq_of_getLsbD_eq (fun i hi => h i hi))
theorem b_or (x y : Int32) (i : Nat) : bt (x ||| y) i = (bt x i || bt y i) := by unfold bt; rw [Int32.toBitVec_or, BitVec.getLsbD_or]
theorem b_and (x y : Int32) (i : Nat) : bt (x &&& y) i = (bt x i && bt y i) := by unfold bt; rw [Int32.toBitVec_and, BitVec.getLsbD_and]
theorem b_xor (x y : Int32) (i : Nat) : bt (x ^^^ y) i = (bt x i ^^ bt y i) := by unfold bt; rw [Int32.toBitVec_xor, BitVec.getLsbD_xor]
theorem b_big {x : Int32} {i : Nat} (h : 32 ≤ i) : bt x i = false := BitVec.getLsbD_of_ge _ _ h
theorem b_255 (i : Nat) : bt 255 i = decide (i < 8) := by
  rcases Nat.lt_or_ge i 32 with h | h
  · exact (by decide +kernel : ∀ i, i < 32 → bt 255 i = decide (i < 8)) i h
  · rw [b_big h, decide_eq_false (by omega)]
theorem b_65535 (i : Nat) : bt 65535 i = decide (i < 16) := by
  rcases Nat.lt_or_ge i 32 with h | h
  · exact (by decide +kernel : ∀ i, i < 32 → bt 65535 i = decide (i < 16)) i h
  · rw [b_big h, decide_eq_false (by omega)]
theorem b_m1 : ∀ i, i < 32 → bt (-1) i = true := by decide +kernel
theorem b_0 (i : Nat) : bt 0 i = false := BitVec.getLsbD_zero
theorem s_l : ∀ n, n < 32 → ((nI n &&& 31).toBitVec.smod 32).toNat = n := by decide +kernel
theorem s_u : ∀ n, n < 32 → (((nI n).toUInt32 &&& Int32.toUInt32 31).toBitVec % 32).toNat = n := by decide +kernel
theorem b_shl (n : Nat) (hn : n < 32) (x : Int32) {i : Nat} (hi : i < 32) : bt (x <<< (nI n &&& 31)) i = (decide (n ≤ i) && bt x (i - n)) := by
  unfold bt
  rw [Int32.toBitVec_shiftLeft]
  show (x.toBitVec <<< ((nI n &&& 31).toBitVec.smod 32).toNat).getLsbD i = _
  rw [s_l n hn, BitVec.getLsbD_shiftLeft]
  rcases Nat.lt_or_ge i n with h | h
  · simp [h, Nat.not_le.mpr h]
  · simp [hi, h, Nat.not_lt.mpr h]
theorem b_ushr (n : Nat) (hn : n < 32) (x : Int32) (i : Nat) : bt ((x.toUInt32 >>> ((nI n).toUInt32 &&& Int32.toUInt32 31)).toInt32) i = bt x (n + i) := by
  show (x.toUInt32 >>> ((nI n).toUInt32 &&& Int32.toUInt32 31)).toBitVec.getLsbD i = x.toUInt32.toBitVec.getLsbD (n + i)
  rw [UInt32.toBitVec_shiftRight]
  show (x.toUInt32.toBitVec >>> (((nI n).toUInt32 &&& Int32.toUInt32 31).toBitVec % 32).toNat).getLsbD i = _
  rw [s_u n hn, BitVec.getLsbD_ushiftRight]
theorem b_sshr (n : Nat) (hn : n < 32) (x : Int32) {i : Nat} (hi : i < 32) : bt (x >>> (nI n &&& 31)) i = if n + i < 32 then bt x (n + i) else bt x 31 := by
  unfold bt
  rw [Int32.toBitVec_shiftRight]
  show (x.toBitVec.sshiftRight ((nI n &&& 31).toBitVec.smod 32).toNat).getLsbD i = _
  rw [s_l n hn, BitVec.getLsbD_sshiftRight, BitVec.msb_eq_getLsbD_last]
  simp [hi]
theorem bs_one : ∀ n, n < 32 → ∀ i, i < 32 → bt ((1 : Int32) <<< (nI n &&& 31)) i = decide (i = n) := by decide +kernel
theorem bs_z {x y : Int32} : x &&& y = 0 ↔ ∀ i, i < 32 → bt x i = true → bt y i = true → False := by
  constructor
  · intro h i hi h1 h2
    have e := b_and x y i
    rw [h, b_0, h1, h2] at e
    exact absurd e (by decide)
  · intro h
    apply b_ext
    intro i hi
    rw [b_and, b_0]
    cases h1 : bt x i
    · rfl
    · cases h2 : bt y i
      · rfl
      · exact (h i hi h1 h2).elim
theorem bs_bit {x : Int32} {i : Nat} (hi : i < 32) : x &&& ((1 : Int32) <<< (nI i &&& 31)) = 0 ↔ bt x i = false := by
  rw [bs_z]
  constructor
  · intro h
    cases hb : bt x i
    · rfl
    · exact (h i hi hb (by rw [bs_one i hi i hi]; exact decide_eq_true rfl)).elim
  · intro h j hj h1 h2
    rw [bs_one i hi j hj] at h2
    have e := of_decide_eq_true h2
    subst e
    rw [h] at h1
    exact absurd h1 (by decide)
theorem bs_bit0 {x : Int32} {i : Nat} (hi : i < 16) (h : bt x i = false) : x &&& ((1 : Int32) <<< (nI i &&& 31)) = 0 := (bs_bit (by omega)).mpr h
theorem bs_bit1 {x : Int32} {i : Nat} (hi : i < 16) (h : bt x i = true) : ¬ x &&& ((1 : Int32) <<< (nI i &&& 31)) = 0 := by
  rw [bs_bit (by omega), h]
  decide
theorem bs_sh1 {x : Int32} {i : Nat} (hi : i < 16) : ((x >>> (nI i &&& 31)) &&& 1) = 1 ↔ bt x i = true := by
  have e1 : ∀ j, j < 32 → bt 1 j = decide (j = 0) := by decide +kernel
  have e2 : bt (x >>> (nI i &&& 31)) 0 = bt x i := by
    rw [b_sshr i (by omega) x (by omega), if_pos (by omega), Nat.add_zero]
  constructor
  · intro h
    have e := b_and (x >>> (nI i &&& 31)) 1 0
    rw [h, e2, e1 0 (by omega)] at e
    cases hb : bt x i
    · rw [hb] at e; exact absurd e (by decide)
    · rfl
  · intro h
    apply b_ext
    intro j hj
    rw [b_and, e1 j hj]
    by_cases z : j = 0
    · subst z
      rw [e2, h]
      rfl
    · rw [decide_eq_false z, Bool.and_false]
/-- the set of those below n that p holds of -/
def bs_mk (p : Nat → Bool) : Nat → Int32
  | 0 => 0
  | n + 1 => if p n = true then bs_mk p n ||| ((1 : Int32) <<< (nI n &&& 31)) else bs_mk p n
theorem bs_mkT {p : Nat → Bool} {n : Nat} (h : p n = true) : bs_mk p (n + 1) = bs_mk p n ||| ((1 : Int32) <<< (nI n &&& 31)) := if_pos h
theorem bs_mkF {p : Nat → Bool} {n : Nat} (h : p n = false) : bs_mk p (n + 1) = bs_mk p n := if_neg (by rw [h]; decide)
theorem bs_mkB (p : Nat → Bool) : ∀ n, n ≤ 32 → ∀ i, i < 32 → bt (bs_mk p n) i = (decide (i < n) && p i) := by
  intro n
  induction n with
  | zero => intro _ i _; show bt 0 i = _; rw [b_0, decide_eq_false (by omega)]; rfl
  | succ n ih =>
    intro hn i hi
    cases hp : p n
    · rw [bs_mkF hp, ih (by omega) i hi]
      by_cases z : i = n
      · subst z; rw [hp, Bool.and_false, Bool.and_false]
      · by_cases y : i < n
        · rw [decide_eq_true y, decide_eq_true (show i < n + 1 by omega)]
        · rw [decide_eq_false y, decide_eq_false (show ¬ i < n + 1 by omega)]
    · rw [bs_mkT hp, b_or, ih (by omega) i hi, bs_one n (by omega) i hi]
      by_cases z : i = n
      · subst z; rw [hp, decide_eq_true (show i < i + 1 by omega), decide_eq_true (show i = i from rfl), Bool.or_true]; rfl
      · rw [decide_eq_false z, Bool.or_false]
        by_cases y : i < n
        · rw [decide_eq_true y, decide_eq_true (show i < n + 1 by omega)]
        · rw [decide_eq_false y, decide_eq_false (show ¬ i < n + 1 by omega)]
theorem bs_mk16 (p : Nat → Bool) {i : Nat} (hi : i < 16) : bt (bs_mk p 16) i = p i := by
  rw [bs_mkB p 16 (by omega) i (by omega), decide_eq_true hi, Bool.true_and]
theorem bs_mkO (p : Nat → Bool) {i : Nat} (h : 16 ≤ i) (hi : i < 32) : bt (bs_mk p 16) i = false := by
  rw [bs_mkB p 16 (by omega) i hi, decide_eq_false (by omega), Bool.false_and]
theorem bs_mkL {p : Nat → Bool} {i : Nat} (hi : i < 32) (h : bt (bs_mk p 16) i = true) : i < 16 ∧ p i = true := by
  by_cases z : i < 16
  · rw [bs_mk16 p z] at h; exact ⟨z, h⟩
  · rw [bs_mkO p (by omega) hi] at h; exact absurd h (by decide)
theorem bs_mkX {p : Nat → Bool} {x : Int32} (h : ∀ i, i < 16 → bt x i = p i) (h' : ∀ i, 16 ≤ i → i < 32 → bt x i = false) : x = bs_mk p 16 := by
  apply b_ext
  intro i hi
  by_cases z : i < 16
  · rw [bs_mk16 p z]; exact h i z
  · rw [bs_mkO p (by omega) hi]; exact h' i (by omega) hi
theorem bs_mkE {p q : Nat → Bool} (h : ∀ i, i < 16 → p i = q i) : bs_mk p 16 = bs_mk q 16 :=
  bs_mkX (fun i hi => by rw [bs_mk16 p hi]; exact h i hi) (fun _ h1 h2 => bs_mkO p h1 h2)
theorem bs_mkOr (p q : Nat → Bool) : bs_mk p 16 ||| bs_mk q 16 = bs_mk (fun i => p i || q i) 16 :=
  bs_mkX (fun i hi => by rw [b_or, bs_mk16 p hi, bs_mk16 q hi]) (fun i h1 h2 => by rw [b_or, bs_mkO p h1 h2, bs_mkO q h1 h2]; rfl)
theorem bs_mkXor (p q : Nat → Bool) : bs_mk p 16 ^^^ bs_mk q 16 = bs_mk (fun i => p i ^^ q i) 16 :=
  bs_mkX (fun i hi => by rw [b_xor, bs_mk16 p hi, bs_mk16 q hi]) (fun i h1 h2 => by rw [b_xor, bs_mkO p h1 h2, bs_mkO q h1 h2]; rfl)
theorem bs_mkClr (p : Nat → Bool) {n : Nat} (hn : n < 16) : bs_mk p 16 &&& (((1 : Int32) <<< (nI n &&& 31)) ^^^ (-1)) = bs_mk (fun i => p i && !decide (i = n)) 16 :=
  bs_mkX (fun i hi => by rw [b_and, b_xor, bs_mk16 p hi, bs_one n (by omega) i (by omega), b_m1 i (by omega), Bool.xor_true])
    (fun i h1 h2 => by rw [b_and, bs_mkO p h1 h2]; rfl)
theorem bs_mkNot (p q : Nat → Bool) : bs_mk p 16 &&& (bs_mk q 16 ^^^ (-1)) = bs_mk (fun i => p i && !q i) 16 :=
  bs_mkX (fun i hi => by rw [b_and, b_xor, bs_mk16 p hi, bs_mk16 q hi, b_m1 i (by omega), Bool.xor_true])
    (fun i h1 h2 => by rw [b_and, bs_mkO p h1 h2]; rfl)
theorem bs_mkZ {x : Int32} {p : Nat → Bool} : x &&& bs_mk p 16 = 0 ↔ ∀ j, j < 16 → bt x j = true → p j = false := by
  rw [bs_z]
  constructor
  · intro h j hj h1
    cases hp : p j
    · rfl
    · exact (h j (by omega) h1 (by rw [bs_mk16 p hj]; exact hp)).elim
  · intro h i hi h1 h2
    have e := bs_mkL hi h2
    rw [h i e.1 h1] at e
    exact absurd e.2 (by decide)
theorem bs_mkAll : (65535 : Int32) = bs_mk (fun _ => true) 16 := by decide +kernel
/-- x between p and q -/
def bs_bw (x p q : Nat) : Bool := if q < p then decide (q ≤ x) && decide (x ≤ p) else decide (p ≤ x) && decide (x ≤ q)
/-- cell i in the rectangle of a and b -/
def bs_in (a b i : Nat) : Bool := bs_bw (i / 4) (a / 4) (b / 4) && bs_bw (i % 4) (a % 4) (b % 4)
theorem bs_bwC (p q : Nat) : bs_bw p p q = true := by
  unfold bs_bw
  by_cases h : q < p
  · rw [if_pos h, decide_eq_true (show q ≤ p by omega), decide_eq_true (show p ≤ p by omega)]; rfl
  · rw [if_neg h, decide_eq_true (show p ≤ q by omega), decide_eq_true (show p ≤ p by omega)]; rfl
theorem bs_inC (a b : Nat) : bs_in a b a = true := by
  unfold bs_in
  rw [bs_bwC, bs_bwC]; rfl
/-- how many below n -/
def bs_cnt (k : Nat → Bool) : Nat → Nat
  | 0 => 0
  | n + 1 => bs_cnt k n + (if k n = true then 1 else 0)
theorem bs_cntS (k : Nat → Bool) (n : Nat) : bs_cnt k (n + 1) = bs_cnt k n + (if k n = true then 1 else 0) := rfl
theorem bs_cntLe (k : Nat → Bool) : ∀ n, bs_cnt k n ≤ n := by
  intro n
  induction n with
  | zero => exact Nat.le_refl 0
  | succ n ih => rw [bs_cntS]; split <;> omega
theorem bs_cntAll {k : Nat → Bool} : ∀ n, n ≤ bs_cnt k n → ∀ i, i < n → k i = true := by
  intro n
  induction n with
  | zero => intro _ i hi; omega
  | succ n ih =>
    intro h i hi
    have l := bs_cntLe k n
    rw [bs_cntS] at h
    by_cases z : k n = true
    · rw [if_pos z] at h
      by_cases y : i = n
      · rw [y]; exact z
      · exact ih (by omega) i (by omega)
    · rw [if_neg z] at h; omega
theorem bs_cntM {k k' : Nat → Bool} : ∀ n, (∀ i, i < n → k i = true → k' i = true) → bs_cnt k n ≤ bs_cnt k' n := by
  intro n
  induction n with
  | zero => intro _; exact Nat.le_refl 0
  | succ n ih =>
    intro h
    have l := ih (fun i hi => h i (by omega))
    have m := h n (by omega)
    rw [bs_cntS, bs_cntS]
    by_cases z : k n = true
    · rw [if_pos z, if_pos (m z)]; omega
    · rw [if_neg z]; omega
theorem bs_cntE {k k' : Nat → Bool} : ∀ n, (∀ i, i < n → k i = true → k' i = true) → bs_cnt k' n ≤ bs_cnt k n → ∀ i, i < n → k' i = true → k i = true := by
  intro n
  induction n with
  | zero => intro _ _ i hi; omega
  | succ n ih =>
    intro h hc i hi hk
    have l := bs_cntM n (fun i hi => h i (by omega))
    have m := h n (by omega)
    rw [bs_cntS, bs_cntS] at hc
    by_cases y : i = n
    · subst y
      cases z : k i
      · rw [if_pos hk, if_neg (by rw [z]; decide)] at hc; omega
      · rfl
    · refine ih (fun i hi => h i (by omega)) ?_ i (by omega) hk
      by_cases z : k n = true
      · rw [if_pos z, if_pos (m z)] at hc; omega
      · rw [if_neg z] at hc; omega
theorem bs_round {F : (Nat → Bool) → Nat → Prop} {k0 k1 : Nat → Bool} {r : Nat} (hx : ∀ (k k' : Nat → Bool) (c : Nat), (∀ i, i < 16 → k i = true → k' i = true) → F k c → F k' c)
    (hm : ∀ i, i < 16 → k0 i = true → k1 i = true) (hF : ∀ c, c < 16 → F k0 c → k1 c = true)
    (hc : (∀ c, c < 16 → F k0 c → k0 c = true) → ∀ i, i < 16 → k1 i = true → k0 i = true)
    (h : r ≤ bs_cnt k0 16 ∨ ∀ c, c < 16 → F k0 c → k0 c = true) : r + 1 ≤ bs_cnt k1 16 ∨ ∀ c, c < 16 → F k1 c → k1 c = true := by
  by_cases z : bs_cnt k1 16 ≤ bs_cnt k0 16
  · right
    intro c hc' hf
    exact hF c hc' (hx k1 k0 c (bs_cntE 16 hm z) hf)
  · rcases h with h | h
    · left; omega
    · right
      intro c hc' hf
      exact hF c hc' (hx k1 k0 c (hc h) hf)
end
section
def bs_sm (x : Int32) (v : Nat → Int32) : Nat → Int32
  | 0 => 0
  | n + 1 => if bt x n = true then bs_sm x v n + v n else bs_sm x v n
def bs_mx (m x : Int32) (v : Nat → Int32) : Nat → Int32
  | 0 => m
  | n + 1 => if bt x n = true ∧ ¬ v n ≤ bs_mx m x v n then v n else bs_mx m x v n
def bs_mn (m x : Int32) (v : Nat → Int32) : Nat → Int32
  | 0 => m
  | n + 1 => if bt x n = true ∧ ¬ bs_mn m x v n ≤ v n then v n else bs_mn m x v n
def bs_up (x : Int32) (v : Nat → Int32) : Nat → Int32
  | 0 => 0
  | n + 1 => if bt x n = true ∧ ¬ v n ≤ 0 then bs_up x v n + 1 else bs_up x v n
theorem bs_smS (x : Int32) (v : Nat → Int32) (n : Nat) : bs_sm x v (n + 1) = if bt x n = true then bs_sm x v n + v n else bs_sm x v n := rfl
theorem bs_mxS (m x : Int32) (v : Nat → Int32) (n : Nat) : bs_mx m x v (n + 1) = if bt x n = true ∧ ¬ v n ≤ bs_mx m x v n then v n else bs_mx m x v n := rfl
theorem bs_mnS (m x : Int32) (v : Nat → Int32) (n : Nat) : bs_mn m x v (n + 1) = if bt x n = true ∧ ¬ bs_mn m x v n ≤ v n then v n else bs_mn m x v n := rfl
theorem bs_upS (x : Int32) (v : Nat → Int32) (n : Nat) : bs_up x v (n + 1) = if bt x n = true ∧ ¬ v n ≤ 0 then bs_up x v n + 1 else bs_up x v n := rfl
theorem bs_nf {b : Bool} (h : b = false) : ¬ b = true := by rw [h]; decide
theorem bs_smT {x : Int32} {v : Nat → Int32} {n : Nat} (h : bt x n = true) : bs_sm x v n + v n = bs_sm x v (n + 1) := (if_pos h).symm
theorem bs_smF {x : Int32} {v : Nat → Int32} {n : Nat} (h : bt x n = false) : bs_sm x v n = bs_sm x v (n + 1) := (if_neg (bs_nf h)).symm
theorem bs_mxT {m x : Int32} {v : Nat → Int32} {n : Nat} (h : bt x n = true) (g : ¬ v n ≤ bs_mx m x v n) : v n = bs_mx m x v (n + 1) := (if_pos ⟨h, g⟩).symm
theorem bs_mxL {m x : Int32} {v : Nat → Int32} {n : Nat} (g : v n ≤ bs_mx m x v n) : bs_mx m x v n = bs_mx m x v (n + 1) := (if_neg (fun z => z.2 g)).symm
theorem bs_mxF {m x : Int32} {v : Nat → Int32} {n : Nat} (h : bt x n = false) : bs_mx m x v n = bs_mx m x v (n + 1) := (if_neg (fun z => bs_nf h z.1)).symm
theorem bs_mnT {m x : Int32} {v : Nat → Int32} {n : Nat} (h : bt x n = true) (g : ¬ bs_mn m x v n ≤ v n) : v n = bs_mn m x v (n + 1) := (if_pos ⟨h, g⟩).symm
theorem bs_mnL {m x : Int32} {v : Nat → Int32} {n : Nat} (g : bs_mn m x v n ≤ v n) : bs_mn m x v n = bs_mn m x v (n + 1) := (if_neg (fun z => z.2 g)).symm
theorem bs_mnF {m x : Int32} {v : Nat → Int32} {n : Nat} (h : bt x n = false) : bs_mn m x v n = bs_mn m x v (n + 1) := (if_neg (fun z => bs_nf h z.1)).symm
theorem bs_upT {x : Int32} {v : Nat → Int32} {n : Nat} (h : bt x n = true) (g : ¬ v n ≤ 0) : bs_up x v n + 1 = bs_up x v (n + 1) := (if_pos ⟨h, g⟩).symm
theorem bs_upL {x : Int32} {v : Nat → Int32} {n : Nat} (g : v n ≤ 0) : bs_up x v n = bs_up x v (n + 1) := (if_neg (fun z => z.2 g)).symm
theorem bs_upF {x : Int32} {v : Nat → Int32} {n : Nat} (h : bt x n = false) : bs_up x v n = bs_up x v (n + 1) := (if_neg (fun z => bs_nf h z.1)).symm
theorem bs_foldC {x : Int32} {v w : Nat → Int32} (h : ∀ j, j < 16 → bt x j = true → v j = w j) (m m' : Int32) : ∀ n, n ≤ 16 → bs_sm x v n = bs_sm x w n ∧ bs_mx m x v n = bs_mx m x w n ∧ bs_mn m' x v n = bs_mn m' x w n ∧ bs_up x v n = bs_up x w n := by
  intro n
  induction n with
  | zero => intro _; exact ⟨rfl, rfl, rfl, rfl⟩
  | succ n ih =>
    intro hn
    obtain ⟨a, b, c, d⟩ := ih (by omega)
    cases hb : bt x n
    · rw [← bs_smF hb, ← bs_mxF hb, ← bs_mnF hb, ← bs_upF hb, ← bs_smF hb, ← bs_mxF hb, ← bs_mnF hb, ← bs_upF hb]
      exact ⟨a, b, c, d⟩
    · have e := h n (by omega) hb
      rw [bs_smS, bs_mxS, bs_mnS, bs_upS, bs_smS, bs_mxS, bs_mnS, bs_upS, a, b, c, d, e]
      exact ⟨rfl, rfl, rfl, rfl⟩
theorem bs_mxG (m x : Int32) (v : Nat → Int32) : ∀ n, m ≤ bs_mx m x v n ∧ (∀ i, i < n → bt x i = true → v i ≤ bs_mx m x v n) ∧ (bs_mx m x v n = m ∨ ∃ i, i < n ∧ bt x i = true ∧ bs_mx m x v n = v i) := by
  intro n
  induction n with
  | zero => exact ⟨Int32.le_refl m, fun i hi => by omega, Or.inl rfl⟩
  | succ n ih =>
    obtain ⟨a, b, c⟩ := ih
    by_cases z : bt x n = true ∧ ¬ v n ≤ bs_mx m x v n
    · rw [← bs_mxT z.1 z.2]
      have l : bs_mx m x v n ≤ v n := Int32.le_of_lt (Int32.not_le.mp z.2)
      refine ⟨Int32.le_trans a l, fun i hi hb => ?_, Or.inr ⟨n, by omega, z.1, rfl⟩⟩
      by_cases y : i = n
      · rw [y]; exact Int32.le_refl _
      · exact Int32.le_trans (b i (by omega) hb) l
    · rw [bs_mxS, if_neg z]
      refine ⟨a, fun i hi hb => ?_, ?_⟩
      · by_cases y : i = n
        · subst y
          by_cases q : v i ≤ bs_mx m x v i
          · exact q
          · exact absurd ⟨hb, q⟩ z
        · exact b i (by omega) hb
      · rcases c with c | ⟨i, hi, hb, e⟩
        · exact Or.inl c
        · exact Or.inr ⟨i, by omega, hb, e⟩
theorem bs_mnG (m x : Int32) (v : Nat → Int32) : ∀ n, bs_mn m x v n ≤ m ∧ (∀ i, i < n → bt x i = true → bs_mn m x v n ≤ v i) ∧ (bs_mn m x v n = m ∨ ∃ i, i < n ∧ bt x i = true ∧ bs_mn m x v n = v i) := by
  intro n
  induction n with
  | zero => exact ⟨Int32.le_refl m, fun i hi => by omega, Or.inl rfl⟩
  | succ n ih =>
    obtain ⟨a, b, c⟩ := ih
    by_cases z : bt x n = true ∧ ¬ bs_mn m x v n ≤ v n
    · rw [← bs_mnT z.1 z.2]
      have l : v n ≤ bs_mn m x v n := Int32.le_of_lt (Int32.not_le.mp z.2)
      refine ⟨Int32.le_trans l a, fun i hi hb => ?_, Or.inr ⟨n, by omega, z.1, rfl⟩⟩
      by_cases y : i = n
      · rw [y]; exact Int32.le_refl _
      · exact Int32.le_trans l (b i (by omega) hb)
    · rw [bs_mnS, if_neg z]
      refine ⟨a, fun i hi hb => ?_, ?_⟩
      · by_cases y : i = n
        · subst y
          by_cases q : bs_mn m x v i ≤ v i
          · exact q
          · exact absurd ⟨hb, q⟩ z
        · exact b i (by omega) hb
      · rcases c with c | ⟨i, hi, hb, e⟩
        · exact Or.inl c
        · exact Or.inr ⟨i, by omega, hb, e⟩
theorem bs_min (x : Int32) : (-2147483648 : Int32) ≤ x := by
  rw [Int32.le_iff_toInt_le]
  have h : (-2147483648 : Int32).toInt = -2147483648 := by decide
  have g := Int32.le_toInt x
  rw [h]
  exact g
theorem bs_max (x : Int32) : x ≤ (2147483647 : Int32) := by
  rw [Int32.le_iff_toInt_le]
  have h : (2147483647 : Int32).toInt = 2147483647 := by decide
  have g := Int32.toInt_lt x
  rw [h]
  omega
theorem bs_mxE {x : Int32} {v : Nat → Int32} {a : Nat} (ha : a < 16) (hb : bt x a = true) : bs_mx (v a) x v 16 = bs_mx (-2147483648) x v 16 := by
  obtain ⟨a1, b1, c1⟩ := bs_mxG (v a) x v 16
  obtain ⟨a2, b2, c2⟩ := bs_mxG (-2147483648) x v 16
  apply Int32.le_antisymm
  · rcases c1 with c | ⟨i, hi, hc, e⟩
    · rw [c]; exact b2 a ha hb
    · rw [e]; exact b2 i hi hc
  · rcases c2 with c | ⟨i, hi, hc, e⟩
    · rw [c]; exact bs_min _
    · rw [e]; exact b1 i hi hc
theorem bs_mnE {x : Int32} {v : Nat → Int32} {a : Nat} (ha : a < 16) (hb : bt x a = true) : bs_mn (v a) x v 16 = bs_mn 2147483647 x v 16 := by
  obtain ⟨a1, b1, c1⟩ := bs_mnG (v a) x v 16
  obtain ⟨a2, b2, c2⟩ := bs_mnG 2147483647 x v 16
  apply Int32.le_antisymm
  · rcases c2 with c | ⟨i, hi, hc, e⟩
    · rw [c]; exact bs_max _
    · rw [e]; exact b1 i hi hc
  · rcases c1 with c | ⟨i, hi, hc, e⟩
    · rw [c]; exact b2 a ha hb
    · rw [e]; exact b2 i hi hc
/-- the value of a cell that holds rd, oo, nu, over the values v -/
def bs_val (rd oo nu : Int32) (v : Nat → Int32) : Int32 :=
  if rd = 0 then nu else if oo = 1 then bs_mx (-2147483648) rd v 16 + nu else if oo = 2 then bs_mn 2147483647 rd v 16 + nu else if oo = 3 then bs_up rd v 16 + nu else bs_sm rd v 16 + nu
theorem bs_valC {rd oo nu : Int32} {v w : Nat → Int32} (h : ∀ j, j < 16 → bt rd j = true → v j = w j) : bs_val rd oo nu v = bs_val rd oo nu w := by
  obtain ⟨a, b, c, d⟩ := bs_foldC h (-2147483648) 2147483647 16 (Nat.le_refl 16)
  unfold bs_val
  rw [a, b, c, d]
def bs_rdy (R : Nat → Int32) (k : Nat → Bool) (c : Nat) : Prop := ∀ j, j < 16 → bt (R c) j = true → k j = true
def bs_D (R : Nat → Int32) (k : Nat → Bool) : Prop := ∀ c, c < 16 → bs_rdy R k c → k c = true
def bs_S (R O N : Nat → Int32) (k : Nat → Bool) (v : Nat → Int32) : Prop := ∀ i, i < 16 → k i = true → bs_rdy R k i ∧ v i = bs_val (R i) (O i) (N i) v
def bs_L (R O N : Nat → Int32) (k : Nat → Bool) (v : Nat → Int32) : Prop := ∀ (k' : Nat → Bool) (v' : Nat → Int32), bs_D R k' → bs_S R O N k' v' → ∀ i, i < 16 → k i = true → k' i = true ∧ v' i = v i
def bs_set (k : Nat → Bool) (c : Nat) : Nat → Bool := fun j => k j || decide (j = c)
/-- the settled sheet: what is known, and the values; an unknown cell's value is 0 -/
def bs_W (R O N : Nat → Int32) (k : Nat → Bool) (v : Nat → Int32) : Prop := bs_S R O N k v ∧ bs_L R O N k v ∧ bs_D R k ∧ ∀ i, i < 16 → k i = false → v i = 0
theorem bs_setS {k : Nat → Bool} {c : Nat} : bs_set k c c = true := by unfold bs_set; rw [decide_eq_true rfl, Bool.or_true]
theorem bs_setM {k : Nat → Bool} {c j : Nat} (h : k j = true) : bs_set k c j = true := by unfold bs_set; rw [h, Bool.true_or]
theorem bs_setN {k : Nat → Bool} {c j : Nat} (h : j ≠ c) : bs_set k c j = k j := by unfold bs_set; rw [decide_eq_false h, Bool.or_false]
theorem bs_updS {f : Nat → Int32} {k : Nat} {x : Int32} : upd f k x k = x := if_pos rfl
theorem bs_updN {f : Nat → Int32} {k j : Nat} {x : Int32} (h : j ≠ k) : upd f k x j = f j := if_neg h
theorem bs_stS {R O N : Nat → Int32} {k : Nat → Bool} {v : Nat → Int32} {c : Nat} (h : bs_S R O N k v) (hk : k c = false) (hr : bs_rdy R k c) : bs_S R O N (bs_set k c) (upd v c (bs_val (R c) (O c) (N c) v)) := by
  have ne : ∀ j, k j = true → j ≠ c := fun j hj e => by rw [e, hk] at hj; exact absurd hj (by decide)
  intro i hi hki
  by_cases z : i = c
  · subst z
    refine ⟨fun j hj hb => bs_setM (hr j hj hb), ?_⟩
    rw [bs_updS]
    exact bs_valC (fun j hj hb => (bs_updN (ne j (hr j hj hb))).symm)
  · rw [bs_setN z] at hki
    obtain ⟨h1, h2⟩ := h i hi hki
    refine ⟨fun j hj hb => bs_setM (h1 j hj hb), ?_⟩
    rw [bs_updN z, h2]
    exact bs_valC (fun j hj hb => (bs_updN (ne j (h1 j hj hb))).symm)
theorem bs_stL {R O N : Nat → Int32} {k : Nat → Bool} {v : Nat → Int32} {c : Nat} (h : bs_L R O N k v) (hc : c < 16) (hr : bs_rdy R k c) : bs_L R O N (bs_set k c) (upd v c (bs_val (R c) (O c) (N c) v)) := by
  intro k' v' hD hS i hi hki
  by_cases z : i = c
  · subst z
    have hk : k' i = true := hD i hi (fun j hj hb => (h k' v' hD hS j hj (hr j hj hb)).1)
    refine ⟨hk, ?_⟩
    rw [bs_updS, (hS i hi hk).2]
    exact bs_valC (fun j hj hb => (h k' v' hD hS j hj (hr j hj hb)).2)
  · rw [bs_setN z] at hki
    rw [bs_updN z]
    exact h k' v' hD hS i hi hki
theorem bs_cS {R O N : Nat → Int32} {k : Nat → Bool} {v w : Nat → Int32} (h : bs_S R O N k v) (e : ∀ i, i < 16 → k i = true → w i = v i) : bs_S R O N k w := by
  intro i hi hk
  obtain ⟨h1, h2⟩ := h i hi hk
  refine ⟨h1, ?_⟩
  rw [e i hi hk, h2]
  exact bs_valC (fun j hj hb => (e j hj (h1 j hj hb)).symm)
theorem bs_cL {R O N : Nat → Int32} {k : Nat → Bool} {v w : Nat → Int32} (h : bs_L R O N k v) (e : ∀ i, i < 16 → k i = true → w i = v i) : bs_L R O N k w := by
  intro k' v' hD hS i hi hk
  rw [e i hi hk]
  exact h k' v' hD hS i hi hk
theorem bs_uniq {R O N : Nat → Int32} {k k' : Nat → Bool} {v v' : Nat → Int32} (h : bs_W R O N k v) (h' : bs_W R O N k' v') : ∀ i, i < 16 → k i = k' i ∧ v i = v' i := by
  obtain ⟨S, L, D, Z⟩ := h
  obtain ⟨S', L', D', Z'⟩ := h'
  intro i hi
  cases a : k i
  · cases b : k' i
    · exact ⟨rfl, by rw [Z i hi a, Z' i hi b]⟩
    · have e := (L' k v D S i hi b).1
      rw [a] at e; exact absurd e (by decide)
  · obtain ⟨e, f⟩ := L k' v' D' S' i hi a
    exact ⟨e.symm, f.symm⟩
theorem bs_rdyM {R : Nat → Int32} (k k' : Nat → Bool) (c : Nat) (h : ∀ i, i < 16 → k i = true → k' i = true) (g : bs_rdy R k c) : bs_rdy R k' c := fun j hj hb => h j hj (g j hj hb)
theorem bs_rndS {R O N : Nat → Int32} {k0 k1 : Nat → Bool} {v0 v1 : Nat → Int32} {r : Nat} (hm : ∀ i, i < 16 → k0 i = true → k1 i = true) (hF : ∀ c, c < 16 → bs_rdy R k0 c → k1 c = true)
    (S0 : bs_S R O N k0 v0) (L1 : bs_L R O N k1 v1) (h : r ≤ bs_cnt k0 16 ∨ bs_D R k0) : r + 1 ≤ bs_cnt k1 16 ∨ bs_D R k1 :=
  bs_round (F := fun k c => bs_rdy R k c) bs_rdyM hm hF (fun hD i hi hk => (L1 k0 v0 hD S0 i hi hk).1) h
theorem bs_endD {R : Nat → Int32} {k : Nat → Bool} (h : 16 ≤ bs_cnt k 16 ∨ bs_D R k) : bs_D R k := by
  rcases h with h | h
  · exact fun c hc _ => bs_cntAll 16 h c hc
  · exact h
/-- the dependents of cell c: the closed sets and the least -/
def bs_dF (R : Nat → Int32) (c : Nat) (k : Nat → Bool) (f : Nat) : Prop := bt (R f) c = true ∨ ∃ j, j < 16 ∧ bt (R f) j = true ∧ k j = true
def bs_dD (R : Nat → Int32) (c : Nat) (k : Nat → Bool) : Prop := ∀ f, f < 16 → bs_dF R c k f → k f = true
def bs_dL (R : Nat → Int32) (c : Nat) (k : Nat → Bool) : Prop := ∀ k' : Nat → Bool, bs_dD R c k' → ∀ f, f < 16 → k f = true → k' f = true
theorem bs_dFM {R : Nat → Int32} {c : Nat} (k k' : Nat → Bool) (f : Nat) (h : ∀ i, i < 16 → k i = true → k' i = true) (g : bs_dF R c k f) : bs_dF R c k' f := by
  rcases g with g | ⟨j, hj, hb, hk⟩
  · exact Or.inl g
  · exact Or.inr ⟨j, hj, hb, h j hj hk⟩
theorem bs_rndD {R : Nat → Int32} {c : Nat} {k0 k1 : Nat → Bool} {r : Nat} (hm : ∀ i, i < 16 → k0 i = true → k1 i = true) (hF : ∀ f, f < 16 → bs_dF R c k0 f → k1 f = true)
    (L1 : bs_dL R c k1) (h : r ≤ bs_cnt k0 16 ∨ bs_dD R c k0) : r + 1 ≤ bs_cnt k1 16 ∨ bs_dD R c k1 :=
  bs_round (F := fun k f => bs_dF R c k f) bs_dFM hm hF (fun hD i hi hk => L1 k0 hD i hi hk) h
theorem bs_endDD {R : Nat → Int32} {c : Nat} {k : Nat → Bool} (h : 16 ≤ bs_cnt k 16 ∨ bs_dD R c k) : bs_dD R c k := by
  rcases h with h | h
  · exact fun c hc _ => bs_cntAll 16 h c hc
  · exact h
theorem bs_dU {R : Nat → Int32} {c : Nat} {k k' : Nat → Bool} (D : bs_dD R c k) (L : bs_dL R c k) (D' : bs_dD R c k') (L' : bs_dL R c k') : bs_mk k 16 = bs_mk k' 16 := by
  apply bs_mkE
  intro i hi
  cases a : k i
  · cases b : k' i
    · rfl
    · have e := L' k D i hi b
      rw [a] at e; exact absurd e (by decide)
  · exact (L k' D' i hi a).symm
end
