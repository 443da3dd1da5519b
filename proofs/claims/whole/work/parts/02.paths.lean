/-! lists of vertices and where a new path must begin; the least number over all arrangements -/
def pt_b (g : Nat → Nat) : List Nat → Nat
  | [] => 0
  | [_] => 1
  | a :: b :: l => pt_b g (b :: l) + if (g b).testBit a then 0 else 1
theorem pt_b_1 (g : Nat → Nat) (a : Nat) : pt_b g [a] = 1 := rfl
theorem pt_b_2 (g : Nat → Nat) (a b : Nat) (l : List Nat) : pt_b g (a :: b :: l) = pt_b g (b :: l) + if (g b).testBit a then 0 else 1 := rfl
theorem pt_b_le (g : Nat → Nat) : ∀ l, pt_b g l ≤ l.length
  | [] => Nat.le_refl _
  | [_] => Nat.le_refl _
  | a :: b :: l => by
    have := pt_b_le g (b :: l)
    rw [pt_b_2, List.length_cons]
    split <;> omega
/-- l lists the vertices of the set S, each once -/
def pt_S (S : Nat) (l : List Nat) : Prop := l.Nodup ∧ ∀ x, S.testBit x = true ↔ x ∈ l
theorem pt_S_len {S n : Nat} {l : List Nat} (h : pt_S S l) (hS : S < 2 ^ n) : l.length ≤ n := by
  have h1 : l ⊆ List.range n := by
    intro x hx
    rw [List.mem_range]
    have h2 := (h.2 x).mpr hx
    rcases Nat.lt_or_ge x n with h3 | h3
    · exact h3
    · have : S < 2 ^ x := Nat.lt_of_lt_of_le hS (Nat.pow_le_pow_right (by decide) h3)
      rw [Nat.testBit_lt_two_pow this] at h2
      exact absurd h2 (by decide)
  have := h.1.length_le_of_subset h1
  rwa [List.length_range] at this
/-- r is the least number of breaks over the arrangements of S that end (the head) with a -/
def pt_M (g : Nat → Nat) (S a r : Nat) : Prop := (∃ l, pt_S S (a :: l) ∧ r = pt_b g (a :: l)) ∧ ∀ l, pt_S S (a :: l) → r ≤ pt_b g (a :: l)
theorem pt_M_le {g : Nat → Nat} {S a r n : Nat} (h : pt_M g S a r) (hS : S < 2 ^ n) : r ≤ n := by
  obtain ⟨⟨l, h1, rfl⟩, _⟩ := h
  exact Nat.le_trans (pt_b_le g _) (pt_S_len h1 hS)
/-- a set without one of its vertices: T is S without a -/
theorem pt_S_cons {S T a : Nat} (ha : S.testBit a = true) (hT : ∀ x, T.testBit x = (S.testBit x && decide (x ≠ a))) (l : List Nat) : pt_S S (a :: l) ↔ pt_S T l := by
  unfold pt_S
  rw [List.nodup_cons]
  constructor
  · rintro ⟨⟨h1, h2⟩, h3⟩
    refine ⟨h2, fun x => ?_⟩
    rw [hT, Bool.and_eq_true, decide_eq_true_eq, h3 x, List.mem_cons]
    constructor
    · rintro ⟨e | e, h⟩
      · exact absurd e h
      · exact e
    · intro e
      exact ⟨Or.inr e, fun h => h1 (h ▸ e)⟩
  · rintro ⟨h2, h3⟩
    have hn : a ∉ l := by
      intro h
      have := (h3 a).mpr h
      rw [hT] at this
      simp at this
    refine ⟨⟨hn, h2⟩, fun x => ?_⟩
    rw [List.mem_cons, ← h3 x, hT, Bool.and_eq_true, decide_eq_true_eq]
    constructor
    · intro h
      by_cases e : x = a
      · exact Or.inl e
      · exact Or.inr ⟨h, e⟩
    · rintro (e | e)
      · rw [e]; exact ha
      · exact e.1
theorem pt_S_nil {l : List Nat} : pt_S 0 l ↔ l = [] := by
  unfold pt_S
  constructor
  · rintro ⟨_, h⟩
    cases l with
    | nil => rfl
    | cons a l =>
      have := (h a).mpr (List.mem_cons_self ..)
      rw [Nat.zero_testBit] at this
      exact absurd this (by decide)
  · rintro rfl
    refine ⟨List.nodup_nil, fun x => ?_⟩
    rw [Nat.zero_testBit]
    exact ⟨fun z => absurd z (by decide), fun z => nomatch z⟩
/-- one vertex alone -/
theorem pt_M_one {g : Nat → Nat} {S a : Nat} (ha : S.testBit a = true) (hT : ∀ x, (0 : Nat).testBit x = (S.testBit x && decide (x ≠ a))) : pt_M g S a 1 := by
  constructor
  · exact ⟨[], (pt_S_cons ha hT []).mpr (pt_S_nil.mpr rfl), rfl⟩
  · intro l hl
    rw [pt_S_nil.mp ((pt_S_cons ha hT l).mp hl)]
    exact Nat.le_refl _
/-- the step: r is the least of D v + (0 or 1) over the vertices v of T = S without a -/
theorem pt_M_step {g : Nat → Nat} {S T a r : Nat} {D : Nat → Nat} (ha : S.testBit a = true) (hT : ∀ x, T.testBit x = (S.testBit x && decide (x ≠ a))) (hD : ∀ v, T.testBit v = true → pt_M g T v (D v))
    (h1 : ∃ v, T.testBit v = true ∧ r = D v + if (g v).testBit a then 0 else 1) (h2 : ∀ v, T.testBit v = true → r ≤ D v + if (g v).testBit a then 0 else 1) : pt_M g S a r := by
  constructor
  · obtain ⟨v, hv, rfl⟩ := h1
    obtain ⟨⟨l, hl, e⟩, _⟩ := hD v hv
    exact ⟨v :: l, (pt_S_cons ha hT _).mpr hl, by rw [pt_b_2, e]⟩
  · intro l hl
    have hl := (pt_S_cons ha hT l).mp hl
    cases l with
    | nil =>
      obtain ⟨v, hv, _⟩ := h1
      exact absurd ((hl.2 v).mp hv) (by simp)
    | cons v l =>
      have hv := (hl.2 v).mpr (List.mem_cons_self ..)
      have := (hD v hv).2 l hl
      have := h2 v hv
      rw [pt_b_2]
      omega
/-- r is the least number of breaks over all arrangements of n vertices -/
def pt_A (g : Nat → Nat) (n r : Nat) : Prop := (∃ l : List Nat, l.Perm (pm_l (fun k => k) 0 n) ∧ r = pt_b g l) ∧ ∀ l : List Nat, l.Perm (pm_l (fun k => k) 0 n) → r ≤ pt_b g l
theorem pt_A_uniq {g : Nat → Nat} {n r s : Nat} (h : pt_A g n r) (h' : pt_A g n s) : r = s := by
  obtain ⟨⟨l, hl, e⟩, h2⟩ := h
  obtain ⟨⟨m, hm, e'⟩, h2'⟩ := h'
  have := h2 m hm
  have := h2' l hl
  omega
theorem pt_range {n x : Nat} : x ∈ pm_l (fun k => k) 0 n ↔ x < n := by
  rw [pm_l_mem]
  constructor
  · rintro ⟨q, _, h, rfl⟩
    omega
  · intro h
    exact ⟨x, by omega, by omega, rfl⟩
theorem pt_range_nd (n : Nat) : (pm_l (fun k => k) 0 n).Nodup := by
  have key : ∀ m i, (pm_l (fun k => k) i m).Nodup := by
    intro m
    induction m with
    | zero => intro i; exact List.nodup_nil
    | succ m ih =>
      intro i
      rw [pm_l_s, List.nodup_cons]
      refine ⟨fun h => ?_, ih (i + 1)⟩
      obtain ⟨q, h1, _, e⟩ := pm_l_mem.mp h
      omega
  exact key n 0
theorem pt_S_perm {n : Nat} {l : List Nat} : pt_S (2 ^ n - 1) l ↔ l.Perm (pm_l (fun k => k) 0 n) := by
  have hb : ∀ x, (2 ^ n - 1).testBit x = true ↔ x ∈ pm_l (fun k => k) 0 n := by
    intro x
    rw [Nat.testBit_two_pow_sub_one, decide_eq_true_eq, pt_range]
  constructor
  · rintro ⟨h1, h2⟩
    exact (List.perm_ext_iff_of_nodup h1 (pt_range_nd n)).mpr (fun x => (h2 x).symm.trans (hb x))
  · intro h
    exact ⟨h.symm.nodup (pt_range_nd n), fun x => (hb x).trans h.mem_iff.symm⟩
/-- from the least over the last vertex to the least over all -/
theorem pt_A_of {g : Nat → Nat} {n r : Nat} {D : Nat → Nat} (h0 : 0 < n) (hD : ∀ v, v < n → pt_M g (2 ^ n - 1) v (D v)) (h1 : ∃ v, v < n ∧ r = D v) (h2 : ∀ v, v < n → r ≤ D v) : pt_A g n r := by
  constructor
  · obtain ⟨v, hv, rfl⟩ := h1
    obtain ⟨⟨l, hl, e⟩, _⟩ := hD v hv
    exact ⟨v :: l, pt_S_perm.mp hl, e⟩
  · intro l hl
    cases l with
    | nil =>
      have := hl.length_eq
      rw [pm_l_len] at this
      simp at this
      omega
    | cons v l =>
      have hv : v < n := pt_range.mp (hl.mem_iff.mp (List.mem_cons_self ..))
      have := (hD v hv).2 l (pt_S_perm.mpr hl)
      have := h2 v hv
      omega
/-- the other road: a walk over the arrangements by their places -/
def pt_V (g : Nat → Nat) (n t r : Nat) : Prop := (r = 8 ∨ ∃ l : List Nat, l.Perm (pm_l (fun k => k) 0 n) ∧ r = pt_b g l.reverse) ∧ r ≤ 8 ∧ ∀ l : List Nat, l.Perm (pm_l (fun k => k) 0 n) → pm_r l < t → r ≤ pt_b g l.reverse
theorem pt_V0 (g : Nat → Nat) (n : Nat) : pt_V g n 0 8 := ⟨Or.inl rfl, Nat.le_refl _, fun _ _ h => absurd h (by omega)⟩
theorem pt_Vs {g : Nat → Nat} {n t r s : Nat} {l : List Nat} (h : pt_V g n t r) (hl : l.Perm (pm_l (fun k => k) 0 n)) (ht : pm_r l = t) (hs : s = if pt_b g l.reverse < r then pt_b g l.reverse else r) : pt_V g n (t + 1) s := by
  obtain ⟨h1, h2, h3⟩ := h
  have hle : s ≤ r ∧ s ≤ pt_b g l.reverse := by
    rw [hs]
    split <;> omega
  refine ⟨?_, by omega, fun m hm hlt => ?_⟩
  · by_cases c : pt_b g l.reverse < r
    · rw [if_pos c] at hs
      exact Or.inr ⟨l, hl, hs⟩
    · rw [if_neg c] at hs
      rw [hs]
      exact h1
  · rcases Nat.lt_or_ge (pm_r m) t with c | c
    · have := h3 m hm c
      omega
    · have e : m = l := pm_inj m l (hm.trans hl.symm) (by omega)
      rw [e]
      exact hle.2
theorem pt_V_A {g : Nat → Nat} {n t r : Nat} (h0 : 0 < n) (hn : n ≤ 8) (h : pt_V g n t r) (ht : pm_f n ≤ t) : pt_A g n r := by
  obtain ⟨h1, h2, h3⟩ := h
  have hall : ∀ l, l.Perm (pm_l (fun k => k) 0 n) → r ≤ pt_b g l := by
    intro l hl
    have hr := (List.reverse_perm l).trans hl
    have hlt : pm_r l.reverse < t := by
      have := pm_r_lt l.reverse
      rw [hr.length_eq, pm_l_len] at this
      omega
    have := h3 l.reverse hr hlt
    rwa [List.reverse_reverse] at this
  refine ⟨?_, hall⟩
  rcases h1 with e | ⟨l, hl, e⟩
  · have hp := List.Perm.refl (pm_l (fun k => k) 0 n)
    refine ⟨_, hp, ?_⟩
    have a1 := hall _ hp
    have a2 := pt_b_le g (pm_l (fun k => k) 0 n)
    rw [pm_l_len] at a2
    omega
  · exact ⟨l.reverse, (List.reverse_perm l).trans hl, e⟩
/-- the count along an array -/
theorem pt_walk (g o : Nat → Nat) (k : Nat) : pt_b g (pm_l o 0 (k + 2)).reverse = pt_b g (pm_l o 0 (k + 1)).reverse + if (g (o k)).testBit (o (k + 1)) then 0 else 1 := by
  rw [pm_l_snoc o (k + 1) 0, pm_l_snoc o k 0, List.reverse_append, List.reverse_append, Nat.zero_add, Nat.zero_add]
  exact pt_b_2 ..
theorem pt_walk1 (g o : Nat → Nat) : pt_b g (pm_l o 0 1).reverse = 1 := rfl
