def bt (x : Int32) (i : Nat) : Bool := x.toBitVec.getLsbD i
theorem b_ext {x y : Int32} (h : ∀ i, i < 32 → bt x i = bt y i) : x = y := Int32.toBitVec_inj.mp (BitVec.eq_of_getLsbD_eq (fun i hi => h i hi))
theorem b_or (x y : Int32) (i : Nat) : bt (x ||| y) i = (bt x i || bt y i) := by unfold bt; rw [Int32.toBitVec_or, BitVec.getLsbD_or]
theorem b_and (x y : Int32) (i : Nat) : bt (x &&& y) i = (bt x i && bt y i) := by unfold bt; rw [Int32.toBitVec_and, BitVec.getLsbD_and]
theorem b_xor (x y : Int32) (i : Nat) : bt (x ^^^ y) i = (bt x i ^^ bt y i) := by unfold bt; rw [Int32.toBitVec_xor, BitVec.getLsbD_xor]
theorem b_big {x : Int32} {i : Nat} (h : 32 ≤ i) : bt x i = false := BitVec.getLsbD_of_ge _ _ h
theorem b_255 (i : Nat) : bt 255 i = decide (i < 8) := by
  rcases Nat.lt_or_ge i 32 with h | h
  · exact (by decide +kernel : ∀ i, i < 32 → bt 255 i = decide (i < 8)) i h
  · rw [b_big h, decide_eq_false (by omega)]
theorem b_65535 (i : Nat) : bt 65535 i = decide (i < 16) := by
  rcases Nat.lt_or_ge i 32 with h | h
  · exact (by decide +kernel : ∀ i, i < 32 → bt 65535 i = decide (i < 16)) i h
  · rw [b_big h, decide_eq_false (by omega)]
theorem b_m1 : ∀ i, i < 32 → bt (-1) i = true := by decide +kernel
theorem b_0 (i : Nat) : bt 0 i = false := BitVec.getLsbD_zero
theorem s_l : ∀ n, n < 32 → ((nI n &&& 31).toBitVec.smod 32).toNat = n := by decide +kernel
theorem s_u : ∀ n, n < 32 → (((nI n).toUInt32 &&& Int32.toUInt32 31).toBitVec % 32).toNat = n := by decide +kernel
theorem b_shl (n : Nat) (hn : n < 32) (x : Int32) {i : Nat} (hi : i < 32) : bt (x <<< (nI n &&& 31)) i = (decide (n ≤ i) && bt x (i - n)) := by
  unfold bt
  rw [Int32.toBitVec_shiftLeft]
  show (x.toBitVec <<< ((nI n &&& 31).toBitVec.smod 32).toNat).getLsbD i = _
  rw [s_l n hn, BitVec.getLsbD_shiftLeft]
  rcases Nat.lt_or_ge i n with h | h
  · simp [h, Nat.not_le.mpr h]
  · simp [hi, h, Nat.not_lt.mpr h]
theorem b_ushr (n : Nat) (hn : n < 32) (x : Int32) (i : Nat) : bt ((x.toUInt32 >>> ((nI n).toUInt32 &&& Int32.toUInt32 31)).toInt32) i = bt x (n + i) := by
  show (x.toUInt32 >>> ((nI n).toUInt32 &&& Int32.toUInt32 31)).toBitVec.getLsbD i = x.toUInt32.toBitVec.getLsbD (n + i)
  rw [UInt32.toBitVec_shiftRight]
  show (x.toUInt32.toBitVec >>> (((nI n).toUInt32 &&& Int32.toUInt32 31).toBitVec % 32).toNat).getLsbD i = _
  rw [s_u n hn, BitVec.getLsbD_ushiftRight]
theorem b_sshr (n : Nat) (hn : n < 32) (x : Int32) {i : Nat} (hi : i < 32) : bt (x >>> (nI n &&& 31)) i = if n + i < 32 then bt x (n + i) else bt x 31 := by
  unfold bt
  rw [Int32.toBitVec_shiftRight]
  show (x.toBitVec.sshiftRight ((nI n &&& 31).toBitVec.smod 32).toNat).getLsbD i = _
  rw [s_l n hn, BitVec.getLsbD_sshiftRight, BitVec.msb_eq_getLsbD_last]
  simp [hi]
theorem bs_one : ∀ n, n < 32 → ∀ i, i < 32 → bt ((1 : Int32) <<< (nI n &&& 31)) i = decide (i = n) := by decide +kernel
theorem bs_z {x y : Int32} : x &&& y = 0 ↔ ∀ i, i < 32 → bt x i = true → bt y i = true → False := by
  constructor
  · intro h i hi h1 h2
    have e := b_and x y i
    rw [h, b_0, h1, h2] at e
    exact absurd e (by decide)
  · intro h
    apply b_ext
    intro i hi
    rw [b_and, b_0]
    cases h1 : bt x i
    · rfl
    · cases h2 : bt y i
      · rfl
      · exact (h i hi h1 h2).elim
theorem bs_bit {x : Int32} {i : Nat} (hi : i < 32) : x &&& ((1 : Int32) <<< (nI i &&& 31)) = 0 ↔ bt x i = false := by
  rw [bs_z]
  constructor
  · intro h
    cases hb : bt x i
    · rfl
    · exact (h i hi hb (by rw [bs_one i hi i hi]; exact decide_eq_true rfl)).elim
  · intro h j hj h1 h2
    rw [bs_one i hi j hj] at h2
    have e := of_decide_eq_true h2
    subst e
    rw [h] at h1
    exact absurd h1 (by decide)
theorem bs_bit0 {x : Int32} {i : Nat} (hi : i < 16) (h : bt x i = false) : x &&& ((1 : Int32) <<< (nI i &&& 31)) = 0 := (bs_bit (by omega)).mpr h
theorem bs_bit1 {x : Int32} {i : Nat} (hi : i < 16) (h : bt x i = true) : ¬ x &&& ((1 : Int32) <<< (nI i &&& 31)) = 0 := by
  rw [bs_bit (by omega), h]
  decide
theorem bs_sh1 {x : Int32} {i : Nat} (hi : i < 16) : ((x >>> (nI i &&& 31)) &&& 1) = 1 ↔ bt x i = true := by
  have e1 : ∀ j, j < 32 → bt 1 j = decide (j = 0) := by decide +kernel
  have e2 : bt (x >>> (nI i &&& 31)) 0 = bt x i := by
    rw [b_sshr i (by omega) x (by omega), if_pos (by omega), Nat.add_zero]
  constructor
  · intro h
    have e := b_and (x >>> (nI i &&& 31)) 1 0
    rw [h, e2, e1 0 (by omega)] at e
    cases hb : bt x i
    · rw [hb] at e; exact absurd e (by decide)
    · rfl
  · intro h
    apply b_ext
    intro j hj
    rw [b_and, e1 j hj]
    by_cases z : j = 0
    · subst z
      rw [e2, h]
      rfl
    · rw [decide_eq_false z, Bool.and_false]
/-- the set of those below n that p holds of -/
def bs_mk (p : Nat → Bool) : Nat → Int32
  | 0 => 0
  | n + 1 => if p n = true then bs_mk p n ||| ((1 : Int32) <<< (nI n &&& 31)) else bs_mk p n
theorem bs_mkT {p : Nat → Bool} {n : Nat} (h : p n = true) : bs_mk p (n + 1) = bs_mk p n ||| ((1 : Int32) <<< (nI n &&& 31)) := if_pos h
theorem bs_mkF {p : Nat → Bool} {n : Nat} (h : p n = false) : bs_mk p (n + 1) = bs_mk p n := if_neg (by rw [h]; decide)
theorem bs_mkB (p : Nat → Bool) : ∀ n, n ≤ 32 → ∀ i, i < 32 → bt (bs_mk p n) i = (decide (i < n) && p i) := by
  intro n
  induction n with
  | zero => intro _ i _; show bt 0 i = _; rw [b_0, decide_eq_false (by omega)]; rfl
  | succ n ih =>
    intro hn i hi
    cases hp : p n
    · rw [bs_mkF hp, ih (by omega) i hi]
      by_cases z : i = n
      · subst z; rw [hp, Bool.and_false, Bool.and_false]
      · by_cases y : i < n
        · rw [decide_eq_true y, decide_eq_true (show i < n + 1 by omega)]
        · rw [decide_eq_false y, decide_eq_false (show ¬ i < n + 1 by omega)]
    · rw [bs_mkT hp, b_or, ih (by omega) i hi, bs_one n (by omega) i hi]
      by_cases z : i = n
      · subst z; rw [hp, decide_eq_true (show i < i + 1 by omega), decide_eq_true (show i = i from rfl), Bool.or_true]; rfl
      · rw [decide_eq_false z, Bool.or_false]
        by_cases y : i < n
        · rw [decide_eq_true y, decide_eq_true (show i < n + 1 by omega)]
        · rw [decide_eq_false y, decide_eq_false (show ¬ i < n + 1 by omega)]
theorem bs_mk16 (p : Nat → Bool) {i : Nat} (hi : i < 16) : bt (bs_mk p 16) i = p i := by
  rw [bs_mkB p 16 (by omega) i (by omega), decide_eq_true hi, Bool.true_and]
theorem bs_mkO (p : Nat → Bool) {i : Nat} (h : 16 ≤ i) (hi : i < 32) : bt (bs_mk p 16) i = false := by
  rw [bs_mkB p 16 (by omega) i hi, decide_eq_false (by omega), Bool.false_and]
theorem bs_mkL {p : Nat → Bool} {i : Nat} (hi : i < 32) (h : bt (bs_mk p 16) i = true) : i < 16 ∧ p i = true := by
  by_cases z : i < 16
  · rw [bs_mk16 p z] at h; exact ⟨z, h⟩
  · rw [bs_mkO p (by omega) hi] at h; exact absurd h (by decide)
theorem bs_mkX {p : Nat → Bool} {x : Int32} (h : ∀ i, i < 16 → bt x i = p i) (h' : ∀ i, 16 ≤ i → i < 32 → bt x i = false) : x = bs_mk p 16 := by
  apply b_ext
  intro i hi
  by_cases z : i < 16
  · rw [bs_mk16 p z]; exact h i z
  · rw [bs_mkO p (by omega) hi]; exact h' i (by omega) hi
theorem bs_mkE {p q : Nat → Bool} (h : ∀ i, i < 16 → p i = q i) : bs_mk p 16 = bs_mk q 16 :=
  bs_mkX (fun i hi => by rw [bs_mk16 p hi]; exact h i hi) (fun _ h1 h2 => bs_mkO p h1 h2)
theorem bs_mkOr (p q : Nat → Bool) : bs_mk p 16 ||| bs_mk q 16 = bs_mk (fun i => p i || q i) 16 :=
  bs_mkX (fun i hi => by rw [b_or, bs_mk16 p hi, bs_mk16 q hi]) (fun i h1 h2 => by rw [b_or, bs_mkO p h1 h2, bs_mkO q h1 h2]; rfl)
theorem bs_mkXor (p q : Nat → Bool) : bs_mk p 16 ^^^ bs_mk q 16 = bs_mk (fun i => p i ^^ q i) 16 :=
  bs_mkX (fun i hi => by rw [b_xor, bs_mk16 p hi, bs_mk16 q hi]) (fun i h1 h2 => by rw [b_xor, bs_mkO p h1 h2, bs_mkO q h1 h2]; rfl)
theorem bs_mkClr (p : Nat → Bool) {n : Nat} (hn : n < 16) : bs_mk p 16 &&& (((1 : Int32) <<< (nI n &&& 31)) ^^^ (-1)) = bs_mk (fun i => p i && !decide (i = n)) 16 :=
  bs_mkX (fun i hi => by rw [b_and, b_xor, bs_mk16 p hi, bs_one n (by omega) i (by omega), b_m1 i (by omega), Bool.xor_true])
    (fun i h1 h2 => by rw [b_and, bs_mkO p h1 h2]; rfl)
theorem bs_mkNot (p q : Nat → Bool) : bs_mk p 16 &&& (bs_mk q 16 ^^^ (-1)) = bs_mk (fun i => p i && !q i) 16 :=
  bs_mkX (fun i hi => by rw [b_and, b_xor, bs_mk16 p hi, bs_mk16 q hi, b_m1 i (by omega), Bool.xor_true])
    (fun i h1 h2 => by rw [b_and, bs_mkO p h1 h2]; rfl)
theorem bs_mkZ {x : Int32} {p : Nat → Bool} : x &&& bs_mk p 16 = 0 ↔ ∀ j, j < 16 → bt x j = true → p j = false := by
  rw [bs_z]
  constructor
  · intro h j hj h1
    cases hp : p j
    · rfl
    · exact (h j (by omega) h1 (by rw [bs_mk16 p hj]; exact hp)).elim
  · intro h i hi h1 h2
    have e := bs_mkL hi h2
    rw [h i e.1 h1] at e
    exact absurd e.2 (by decide)
theorem bs_mkAll : (65535 : Int32) = bs_mk (fun _ => true) 16 := by decide +kernel
/-- x between p and q -/
def bs_bw (x p q : Nat) : Bool := if q < p then decide (q ≤ x) && decide (x ≤ p) else decide (p ≤ x) && decide (x ≤ q)
/-- cell i in the rectangle of a and b -/
def bs_in (a b i : Nat) : Bool := bs_bw (i / 4) (a / 4) (b / 4) && bs_bw (i % 4) (a % 4) (b % 4)
theorem bs_bwC (p q : Nat) : bs_bw p p q = true := by
  unfold bs_bw
  by_cases h : q < p
  · rw [if_pos h, decide_eq_true (show q ≤ p by omega), decide_eq_true (show p ≤ p by omega)]; rfl
  · rw [if_neg h, decide_eq_true (show p ≤ q by omega), decide_eq_true (show p ≤ p by omega)]; rfl
theorem bs_inC (a b : Nat) : bs_in a b a = true := by
  unfold bs_in
  rw [bs_bwC, bs_bwC]; rfl
/-- how many below n -/
def bs_cnt (k : Nat → Bool) : Nat → Nat
  | 0 => 0
  | n + 1 => bs_cnt k n + (if k n = true then 1 else 0)
theorem bs_cntS (k : Nat → Bool) (n : Nat) : bs_cnt k (n + 1) = bs_cnt k n + (if k n = true then 1 else 0) := rfl
theorem bs_cntLe (k : Nat → Bool) : ∀ n, bs_cnt k n ≤ n := by
  intro n
  induction n with
  | zero => exact Nat.le_refl 0
  | succ n ih => rw [bs_cntS]; split <;> omega
theorem bs_cntAll {k : Nat → Bool} : ∀ n, n ≤ bs_cnt k n → ∀ i, i < n → k i = true := by
  intro n
  induction n with
  | zero => intro _ i hi; omega
  | succ n ih =>
    intro h i hi
    have l := bs_cntLe k n
    rw [bs_cntS] at h
    by_cases z : k n = true
    · rw [if_pos z] at h
      by_cases y : i = n
      · rw [y]; exact z
      · exact ih (by omega) i (by omega)
    · rw [if_neg z] at h; omega
theorem bs_cntM {k k' : Nat → Bool} : ∀ n, (∀ i, i < n → k i = true → k' i = true) → bs_cnt k n ≤ bs_cnt k' n := by
  intro n
  induction n with
  | zero => intro _; exact Nat.le_refl 0
  | succ n ih =>
    intro h
    have l := ih (fun i hi => h i (by omega))
    have m := h n (by omega)
    rw [bs_cntS, bs_cntS]
    by_cases z : k n = true
    · rw [if_pos z, if_pos (m z)]; omega
    · rw [if_neg z]; omega
theorem bs_cntE {k k' : Nat → Bool} : ∀ n, (∀ i, i < n → k i = true → k' i = true) → bs_cnt k' n ≤ bs_cnt k n → ∀ i, i < n → k' i = true → k i = true := by
  intro n
  induction n with
  | zero => intro _ _ i hi; omega
  | succ n ih =>
    intro h hc i hi hk
    have l := bs_cntM n (fun i hi => h i (by omega))
    have m := h n (by omega)
    rw [bs_cntS, bs_cntS] at hc
    by_cases y : i = n
    · subst y
      cases z : k i
      · rw [if_pos hk, if_neg (by rw [z]; decide)] at hc; omega
      · rfl
    · refine ih (fun i hi => h i (by omega)) ?_ i (by omega) hk
      by_cases z : k n = true
      · rw [if_pos z, if_pos (m z)] at hc; omega
      · rw [if_neg z] at hc; omega
theorem bs_round {F : (Nat → Bool) → Nat → Prop} {k0 k1 : Nat → Bool} {r : Nat} (hx : ∀ (k k' : Nat → Bool) (c : Nat), (∀ i, i < 16 → k i = true → k' i = true) → F k c → F k' c)
    (hm : ∀ i, i < 16 → k0 i = true → k1 i = true) (hF : ∀ c, c < 16 → F k0 c → k1 c = true)
    (hc : (∀ c, c < 16 → F k0 c → k0 c = true) → ∀ i, i < 16 → k1 i = true → k0 i = true)
    (h : r ≤ bs_cnt k0 16 ∨ ∀ c, c < 16 → F k0 c → k0 c = true) : r + 1 ≤ bs_cnt k1 16 ∨ ∀ c, c < 16 → F k1 c → k1 c = true := by
  by_cases z : bs_cnt k1 16 ≤ bs_cnt k0 16
  · right
    intro c hc' hf
    exact hF c hc' (hx k1 k0 c (bs_cntE 16 hm z) hf)
  · rcases h with h | h
    · left; omega
    · right
      intro c hc' hf
      exact hF c hc' (hx k1 k0 c (hc h) hf)
