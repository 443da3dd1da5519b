/-! four-paths in the order of their lists -/
def fp_P (g : Nat → Nat) (a b c d : Nat) : Prop := a < d ∧ (g a).testBit b = true ∧ (g b).testBit c = true ∧ (g c).testBit d = true ∧ ¬ (g a).testBit c = true ∧ ¬ (g a).testBit d = true ∧ ¬ (g b).testBit d = true
def fp_K (a b c d : Nat) : Nat := ((a * 8 + b) * 8 + c) * 8 + d
/-- none whose list stands before k -/
def fp_0 (g : Nat → Nat) (k : Nat) : Prop := ∀ a b c d, b < 8 → c < 8 → d < 8 → fp_K a b c d < k → ¬ fp_P g a b c d
theorem fp_00 (g : Nat → Nat) : fp_0 g 0 := fun _ _ _ _ _ _ _ h => absurd h (by omega)
theorem fp_to {g : Nat → Nat} {k m : Nat} (h : fp_0 g k) (hm : ∀ a b c d, b < 8 → c < 8 → d < 8 → k ≤ fp_K a b c d → fp_K a b c d < m → ¬ fp_P g a b c d) : fp_0 g m := by
  intro a b c d hb hc hd hk
  rcases Nat.lt_or_ge (fp_K a b c d) k with z | z
  · exact h a b c d hb hc hd z
  · exact hm a b c d hb hc hd z hk
/-- the four differ, where no vertex is joined to itself -/
theorem fp_ne {g : Nat → Nat} {a b c d : Nat} (hi : ∀ v, ¬ (g v).testBit v = true) (h : fp_P g a b c d) : a ≠ b ∧ a ≠ c ∧ a ≠ d ∧ b ≠ c ∧ b ≠ d ∧ c ≠ d := by
  obtain ⟨h0, h1, h2, h3, h4, h5, h6⟩ := h
  refine ⟨?_, ?_, ?_, ?_, ?_, ?_⟩
  · rintro rfl; exact hi _ h1
  · rintro rfl; exact h5 h3
  · omega
  · rintro rfl; exact hi _ h2
  · rintro rfl; exact h5 h1
  · rintro rfl; exact hi _ h3
/-- one list on -/
theorem fp_next {g : Nat → Nat} {a b c d : Nat} (hb : b < 8) (hc : c < 8) (hd : d < 8) (h : fp_0 g (fp_K a b c d)) (hp : ¬ fp_P g a b c d) : fp_0 g (fp_K a b c (d + 1)) := by
  refine fp_to h (fun a' b' c' d' h1 h2 h3 h4 h5 => ?_)
  unfold fp_K at h4 h5
  have e1 : d' = d := by omega
  have e2 : c' = c := by omega
  have e3 : b' = b := by omega
  have e4 : a' = a := by omega
  rw [e1, e2, e3, e4]
  exact hp
/-- the same by the list's number -/
theorem fp_code {g : Nat → Nat} {k : Nat} (h : fp_0 g k) (hp : ¬ fp_P g (k / 512) (k / 64 % 8) (k / 8 % 8) (k % 8)) : fp_0 g (k + 1) := by
  refine fp_to h (fun a b c d h1 h2 h3 h4 h5 => ?_)
  unfold fp_K at h4 h5
  have e1 : k % 8 = d := by omega
  have e2 : k / 8 % 8 = c := by omega
  have e3 : k / 64 % 8 = b := by omega
  have e4 : k / 512 = a := by omega
  rw [e1, e2, e3, e4] at hp
  exact hp
theorem fp_endD {g : Nat → Nat} {n : Nat} (hn : n ≤ 8) (hg : ∀ v x, (g v).testBit x = true → v < n ∧ x < n) {a b c : Nat} (ha : a < n) (hb : b < 8) (hc : c < 8) (h : fp_0 g (fp_K a b c n)) : fp_0 g (fp_K a b (c + 1) (a + 1)) := by
  refine fp_to h (fun a' b' c' d' h1 h2 h3 h4 h5 hp => ?_)
  obtain ⟨p0, p1, p2, p3, _⟩ := hp
  have q3 := hg _ _ p3
  unfold fp_K at h4 h5
  omega
theorem fp_endC {g : Nat → Nat} {n : Nat} (hn : n ≤ 8) (hg : ∀ v x, (g v).testBit x = true → v < n ∧ x < n) {a b : Nat} (ha : a < n) (hb : b < 8) (h : fp_0 g (fp_K a b n (a + 1))) : fp_0 g (fp_K a (b + 1) 0 (a + 1)) := by
  refine fp_to h (fun a' b' c' d' h1 h2 h3 h4 h5 hp => ?_)
  obtain ⟨p0, p1, p2, p3, _⟩ := hp
  have q2 := hg _ _ p2
  unfold fp_K at h4 h5
  have e4 : a' = a ∨ a' = a + 1 := by omega
  rcases e4 with e4 | e4
  · rw [e4] at h4 h5 p0
    have e3 : b' = b ∨ b' = b + 1 := by omega
    rcases e3 with e3 | e3
    · rw [e3] at h4 h5
      omega
    · rw [e3] at h4 h5
      omega
  · rw [e4] at h4 h5 p0
    omega
theorem fp_endB {g : Nat → Nat} {n : Nat} (hn : n ≤ 8) (hg : ∀ v x, (g v).testBit x = true → v < n ∧ x < n) {a : Nat} (ha : a < n) (h : fp_0 g (fp_K a n 0 (a + 1))) : fp_0 g (fp_K (a + 1) 0 0 (a + 2)) := by
  refine fp_to h (fun a' b' c' d' h1 h2 h3 h4 h5 hp => ?_)
  obtain ⟨p0, p1, p2, p3, _⟩ := hp
  have q1 := hg _ _ p1
  unfold fp_K at h4 h5
  omega
theorem fp_endA {g : Nat → Nat} {n : Nat} (hn : n ≤ 8) (hg : ∀ v x, (g v).testBit x = true → v < n ∧ x < n) (h : fp_0 g (fp_K n 0 0 (n + 1))) : fp_0 g 4096 := by
  refine fp_to h (fun a' b' c' d' h1 h2 h3 h4 h5 hp => ?_)
  obtain ⟨p0, p1, p2, p3, _⟩ := hp
  have q1 := hg _ _ p1
  unfold fp_K at h4 h5
  omega
theorem fp_beg {g : Nat → Nat} : fp_0 g (fp_K 0 0 0 1) := by
  intro a b c d h1 h2 h3 h4 hp
  obtain ⟨p0, _⟩ := hp
  unfold fp_K at h4
  omega
/-- the first is one alone -/
theorem fp_uniq {g : Nat → Nat} {a b c d a' b' c' d' : Nat} (hb : b < 8) (hc : c < 8) (hd : d < 8) (hb' : b' < 8) (hc' : c' < 8) (hd' : d' < 8) (h : fp_P g a b c d) (h0 : fp_0 g (fp_K a b c d)) (h' : fp_P g a' b' c' d') (h0' : fp_0 g (fp_K a' b' c' d')) : a = a' ∧ b = b' ∧ c = c' ∧ d = d' := by
  have e : fp_K a b c d = fp_K a' b' c' d' := by
    rcases Nat.lt_trichotomy (fp_K a b c d) (fp_K a' b' c' d') with z | z | z
    · exact absurd h (h0' a b c d hb hc hd z)
    · exact z
    · exact absurd h' (h0 a' b' c' d' hb' hc' hd' z)
  unfold fp_K at e
  omega
