/-! numbers as sets of vertices (behind kit/rows/BITS: the family bt, b_ext .. b_sshr, and nx_and, nx_xor; kit/rows/PURE-ROWS: pk_shrN, pk_sub) -/
theorem bs_bt (n : Nat) {i : Nat} (hi : i < 32) : bt (nI n) i = n.testBit i := by
  unfold bt
  show (BitVec.ofNat 32 n).getLsbD i = _
  rw [BitVec.getLsbD_ofNat]
  simp [hi]
/-- a without b -/
def bs_d (a b : Nat) : Nat := a ^^^ (a &&& b)
theorem bs_d_t (a b i : Nat) : (bs_d a b).testBit i = (a.testBit i && !b.testBit i) := by
  unfold bs_d
  rw [Nat.testBit_xor, Nat.testBit_and]
  cases a.testBit i <;> cases b.testBit i <;> rfl
theorem bs_or (a b : Nat) : nI a ||| nI b = nI (a ||| b) := b_ext fun i hi => by
  rw [b_or, bs_bt a hi, bs_bt b hi, bs_bt _ hi, Nat.testBit_or]
theorem bs_diff (a b : Nat) : nI a &&& (nI b ^^^ (-1)) = nI (bs_d a b) := b_ext fun i hi => by
  rw [b_and, b_xor, b_m1 i hi, bs_bt a hi, bs_bt b hi, bs_bt _ hi, bs_d_t]
  cases a.testBit i <;> cases b.testBit i <;> rfl
theorem bs_1 : ∀ l, l < 31 → (1 : Int32) <<< (nI l &&& 31) = nI (2 ^ l) := by decide +kernel
theorem bs_all {n : Nat} (h : n < 31) : (1 : Int32) <<< (nI n &&& 31) - 1 = nI (2 ^ n - 1) := by
  rw [bs_1 n h]
  exact pk_sub Nat.one_le_two_pow
theorem bs_has {m i : Nat} (hm : m < 2 ^ 31) (hi : i < 32) : (nI m >>> (nI i &&& 31)) &&& 1 = if m.testBit i = true then 1 else 0 := by
  rw [pk_shrN hm _ i (s_l i hi)]
  show nI _ &&& nI 1 = _
  rw [nx_and, Nat.and_one_is_mod, Nat.testBit_eq_decide_div_mod_eq]
  generalize m / 2 ^ i = z
  have : z % 2 = 0 ∨ z % 2 = 1 := by omega
  rcases this with e | e <;> rw [e] <;> decide
theorem bs_has1 {m i : Nat} (hm : m < 2 ^ 31) (hi : i < 32) : (nI m >>> (nI i &&& 31)) &&& 1 = 1 ↔ m.testBit i = true := by
  rw [bs_has hm hi]
  by_cases h : m.testBit i = true
  · rw [if_pos h]; exact ⟨fun _ => h, fun _ => rfl⟩
  · rw [if_neg h]; exact ⟨fun z => absurd z (by decide), fun z => absurd z h⟩
/-- a lies within b -/
def bs_s (a b : Nat) : Prop := ∀ i, a.testBit i = true → b.testBit i = true
theorem bs_d_0 {a b : Nat} : bs_d a b = 0 ↔ bs_s a b := by
  constructor
  · intro h i hi
    have := bs_d_t a b i
    rw [h, Nat.zero_testBit, hi] at this
    cases hb : b.testBit i
    · rw [hb] at this; exact absurd this (by decide)
    · rfl
  · intro h
    refine Nat.eq_of_testBit_eq (fun i => ?_)
    rw [bs_d_t, Nat.zero_testBit]
    cases ha : a.testBit i
    · rfl
    · rw [h i ha]; rfl
theorem bs_s_le {a b : Nat} (h : bs_s a b) : a ≤ b := by
  have e : a = a &&& b := by
    refine Nat.eq_of_testBit_eq (fun i => ?_)
    rw [Nat.testBit_and]
    cases ha : a.testBit i
    · rfl
    · rw [h i ha]; rfl
  rw [e]
  exact Nat.and_le_right
theorem bs_d_le (a b : Nat) : bs_d a b ≤ a := bs_s_le (fun i h => by rw [bs_d_t, Bool.and_eq_true] at h; exact h.1)
theorem bs_lt {m n i : Nat} (hm : m < 2 ^ n) (h : m.testBit i = true) : i < n := by
  rcases Nat.lt_or_ge i n with c | c
  · exact c
  · rw [Nat.testBit_lt_two_pow (Nat.lt_of_lt_of_le hm (Nat.pow_le_pow_right (by decide) c))] at h
    exact absurd h (by decide)
theorem bs_of_lt {m n : Nat} (h : ∀ i, m.testBit i = true → i < n) : m < 2 ^ n := by
  refine Nat.lt_pow_two_of_testBit m (fun i hi => ?_)
  cases c : m.testBit i
  · rfl
  · have := h i c
    omega
theorem bs_ne0 {m : Nat} (h : m ≠ 0) : ∃ i, m.testBit i = true := Nat.exists_testBit_of_ne_zero h
theorem bs_pow8 {n : Nat} (h : n ≤ 8) : 2 ^ n ≤ 256 := Nat.pow_le_pow_right (by decide) h
/-! how many there are below k -/
def bs_c (m : Nat) : Nat → Nat
  | 0 => 0
  | k + 1 => bs_c m k + if m.testBit k = true then 1 else 0
theorem bs_c_s (m k : Nat) : bs_c m (k + 1) = bs_c m k + if m.testBit k = true then 1 else 0 := rfl
theorem bs_c_le (m : Nat) : ∀ k, bs_c m k ≤ k
  | 0 => Nat.le_refl _
  | k + 1 => by
    have := bs_c_le m k
    rw [bs_c_s]
    split <;> omega
theorem bs_c_mono {a b : Nat} (h : bs_s a b) : ∀ k, bs_c a k ≤ bs_c b k
  | 0 => Nat.le_refl _
  | k + 1 => by
    have := bs_c_mono h k
    rw [bs_c_s, bs_c_s]
    by_cases c : a.testBit k = true
    · rw [if_pos c, if_pos (h k c)]; omega
    · rw [if_neg c]; omega
theorem bs_c_lt {a b i : Nat} (h : bs_s a b) (ha : ¬ a.testBit i = true) (hb : b.testBit i = true) : ∀ k, i < k → bs_c a k < bs_c b k
  | 0, z => absurd z (by omega)
  | k + 1, z => by
    have hm := bs_c_mono h k
    rw [bs_c_s, bs_c_s]
    rcases Nat.lt_or_ge i k with c | c
    · have := bs_c_lt h ha hb k c
      by_cases c : a.testBit k = true
      · rw [if_pos c, if_pos (h k c)]; omega
      · rw [if_neg c]; omega
    · have e : i = k := by omega
      subst e
      rw [if_neg ha, if_pos hb]
      omega
theorem bs_c_pos {m i : Nat} (h : m.testBit i = true) : ∀ k, i < k → 0 < bs_c m k := by
  intro k hk
  have := bs_c_lt (a := 0) (b := m) (i := i) (fun j hj => by rw [Nat.zero_testBit] at hj; exact absurd hj (by decide)) (by rw [Nat.zero_testBit]; decide) h k hk
  omega
/-! the numbers 1 .. k-1 gone through with an accumulator; numbers that P refuses change nothing -/
def bs_F {α : Type} (P : Nat → Bool) (f : Nat → α → α) (a : α) : Nat → α
  | 0 => a
  | k + 1 => if P k = true then f k (bs_F P f a k) else bs_F P f a k
theorem bs_F_s {α : Type} (P : Nat → Bool) (f : Nat → α → α) (a : α) (k : Nat) : bs_F P f a (k + 1) = if P k = true then f k (bs_F P f a k) else bs_F P f a k := rfl
theorem bs_F_cut {α : Type} {P : Nat → Bool} {f : Nat → α → α} {a : α} {m : Nat} (h : ∀ i, m ≤ i → P i = false) : ∀ d, bs_F P f a (m + d) = bs_F P f a m
  | 0 => rfl
  | d + 1 => by
    rw [show m + (d + 1) = m + d + 1 by omega, bs_F_s, h (m + d) (by omega), bs_F_cut h d]
    rfl
