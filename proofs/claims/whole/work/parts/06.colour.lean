/-! the least number of colours: T q says that q may have one colour -/
/-- C is right at p: it is the least of 1 + C of what is left -/
def co_R (T : Nat → Prop) (C : Nat → Nat) (p : Nat) : Prop := (∃ q, q ≠ 0 ∧ bs_s q p ∧ T q ∧ C p = 1 + C (bs_d p q)) ∧ ∀ q, q ≠ 0 → bs_s q p → T q → C p ≤ 1 + C (bs_d p q)
theorem co_d_lt {p q : Nat} (h0 : q ≠ 0) (h : bs_s q p) : bs_d p q < p := by
  have h1 := bs_d_le p q
  rcases Nat.lt_or_ge (bs_d p q) p with c | c
  · exact c
  · exfalso
    obtain ⟨i, hi⟩ := bs_ne0 h0
    have e : bs_d p q = p := by omega
    have := bs_d_t p q i
    rw [e, hi, h i hi] at this
    exact absurd this (by decide)
theorem co_d_s (p q : Nat) : bs_s (bs_d p q) p := fun i h => by
  rw [bs_d_t, Bool.and_eq_true] at h
  exact h.1
theorem co_s_tr {a b c : Nat} (h : bs_s a b) (h' : bs_s b c) : bs_s a c := fun i hi => h' i (h i hi)
theorem co_uniq {T : Nat → Prop} {C D : Nat → Nat} {s : Nat} (c0 : C 0 = 0) (d0 : D 0 = 0) (hC : ∀ p, p ≠ 0 → bs_s p s → co_R T C p) (hD : ∀ p, p ≠ 0 → bs_s p s → co_R T D p) : ∀ k p, p < k → bs_s p s → C p = D p := by
  intro k
  induction k with
  | zero => intro p h; exact absurd h (by omega)
  | succ k ih =>
    intro p hk hs
    by_cases h0 : p = 0
    · rw [h0, c0, d0]
    · obtain ⟨⟨q, q1, q2, q3, q4⟩, qm⟩ := hC p h0 hs
      obtain ⟨⟨r, r1, r2, r3, r4⟩, rm⟩ := hD p h0 hs
      have a1 := qm r r1 r2 r3
      have a2 := rm q q1 q2 q3
      have b1 := ih (bs_d p r) (by have := co_d_lt r1 r2; omega) (co_s_tr (co_d_s p r) hs)
      have b2 := ih (bs_d p q) (by have := co_d_lt q1 q2; omega) (co_s_tr (co_d_s p q) hs)
      omega
/-- how far the search for p has come: colour classes below k; B is what it begins with -/
def co_I (T : Nat → Prop) (C : Nat → Nat) (B p k f : Nat) : Prop := (f = B ∨ ∃ q, q ≠ 0 ∧ q < k ∧ bs_s q p ∧ T q ∧ f = 1 + C (bs_d p q)) ∧ f ≤ B ∧ ∀ q, q ≠ 0 → q < k → bs_s q p → T q → f ≤ 1 + C (bs_d p q)
theorem co_I0 (T : Nat → Prop) (C : Nat → Nat) (B p : Nat) : co_I T C B p 1 B := ⟨Or.inl rfl, Nat.le_refl _, fun q h0 h1 => absurd h1 (by omega)⟩
theorem co_I_skip {T : Nat → Prop} {C : Nat → Nat} {B p k f : Nat} (h : co_I T C B p k f) (hk : bs_s k p → T k → f ≤ 1 + C (bs_d p k)) : co_I T C B p (k + 1) f := by
  obtain ⟨h1, h2, h3⟩ := h
  refine ⟨?_, h2, fun q q0 q1 q2 q3 => ?_⟩
  · rcases h1 with e | ⟨q, q0, q1, q2⟩
    · exact Or.inl e
    · exact Or.inr ⟨q, q0, by omega, q2⟩
  · rcases Nat.lt_or_ge q k with c | c
    · exact h3 q q0 c q2 q3
    · have e : q = k := by omega
      subst e
      exact hk q2 q3
theorem co_I_take {T : Nat → Prop} {C : Nat → Nat} {B p k f : Nat} (h : co_I T C B p k f) (h0 : k ≠ 0) (hs : bs_s k p) (hT : T k) (hf : 1 + C (bs_d p k) < f) : co_I T C B p (k + 1) (1 + C (bs_d p k)) := by
  obtain ⟨h1, h2, h3⟩ := h
  refine ⟨Or.inr ⟨k, h0, by omega, hs, hT, rfl⟩, by omega, fun q q0 q1 q2 q3 => ?_⟩
  rcases Nat.lt_or_ge q k with c | c
  · have := h3 q q0 c q2 q3
    omega
  · have e : q = k := by omega
    subst e
    exact Nat.le_refl _
/-- one vertex taken out counts one less -/
theorem co_single {p i : Nat} (h : p.testBit i = true) (hp : p < 2 ^ 8) : bs_s (2 ^ i) p ∧ 2 ^ i ≠ 0 ∧ bs_c (bs_d p (2 ^ i)) 8 + 1 ≤ bs_c p 8 := by
  have h1 : bs_s (2 ^ i) p := by
    intro j hj
    rw [Nat.testBit_two_pow] at hj
    have e : i = j := of_decide_eq_true hj
    rw [← e]; exact h
  refine ⟨h1, Nat.ne_of_gt (Nat.two_pow_pos i), ?_⟩
  refine bs_c_lt (co_d_s p (2 ^ i)) (i := i) ?_ h 8 (bs_lt hp h)
  rw [bs_d_t, Nat.testBit_two_pow_self, h]
  decide
/-- at its end the search has the least, if what is smaller has it -/
theorem co_I_end {T : Nat → Prop} {C : Nat → Nat} {B p f : Nat} (hB : 8 ≤ B) (hp : p < 2 ^ 8) (h0 : p ≠ 0) (hT : ∀ i, p.testBit i = true → T (2 ^ i)) (hC : ∀ q, bs_s q p → q ≠ p → C q ≤ bs_c q 8) (h : co_I T C B p (p + 1) f) :
    f ≤ bs_c p 8 ∧ (∃ q, q ≠ 0 ∧ bs_s q p ∧ T q ∧ f = 1 + C (bs_d p q)) ∧ ∀ q, q ≠ 0 → bs_s q p → T q → f ≤ 1 + C (bs_d p q) := by
  obtain ⟨h1, h2, h3⟩ := h
  have hall : ∀ q, q ≠ 0 → bs_s q p → T q → f ≤ 1 + C (bs_d p q) := fun q q0 q1 q2 => h3 q q0 (by have := bs_s_le q1; omega) q1 q2
  obtain ⟨i, hi⟩ := bs_ne0 h0
  obtain ⟨s1, s2, s3⟩ := co_single hi hp
  have a1 := hall _ s2 s1 (hT i hi)
  have a2 := hC (bs_d p (2 ^ i)) (co_d_s _ _) (by have := co_d_lt s2 s1; omega)
  have a3 := bs_c_le p 8
  refine ⟨by omega, ?_, hall⟩
  rcases h1 with e | ⟨q, q0, _, q2, q3, q4⟩
  · exact ⟨2 ^ i, s2, s1, hT i hi, by omega⟩
  · exact ⟨q, q0, q2, q3, q4⟩
