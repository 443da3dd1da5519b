/-! components: what is reached from a vertex within a set, by steps; the first vertex of each component -/
/-- all neighbours of the vertices of m below k -/
def cm_N (g : Nat → Nat) (m : Nat) : Nat → Nat
  | 0 => 0
  | k + 1 => if m.testBit k = true then cm_N g m k ||| g k else cm_N g m k
theorem cm_N_s (g : Nat → Nat) (m k : Nat) : cm_N g m (k + 1) = if m.testBit k = true then cm_N g m k ||| g k else cm_N g m k := rfl
theorem cm_N_t (g : Nat → Nat) (m x : Nat) : ∀ k, (cm_N g m k).testBit x = true ↔ ∃ v, v < k ∧ m.testBit v = true ∧ (g v).testBit x = true
  | 0 => by
    show (0 : Nat).testBit x = true ↔ _
    rw [Nat.zero_testBit]
    exact ⟨fun z => absurd z (by decide), fun ⟨v, h, _⟩ => absurd h (by omega)⟩
  | k + 1 => by
    have ih := cm_N_t g m x k
    rw [cm_N_s]
    by_cases c : m.testBit k = true
    · rw [if_pos c, Nat.testBit_or, Bool.or_eq_true, ih]
      constructor
      · rintro (⟨v, h1, h2⟩ | h)
        · exact ⟨v, by omega, h2⟩
        · exact ⟨k, by omega, c, h⟩
      · rintro ⟨v, h1, h2, h3⟩
        rcases Nat.lt_or_ge v k with d | d
        · exact Or.inl ⟨v, d, h2, h3⟩
        · have e : v = k := by omega
          subst e
          exact Or.inr h3
    · rw [if_neg c, ih]
      constructor
      · rintro ⟨v, h1, h2⟩
        exact ⟨v, by omega, h2⟩
      · rintro ⟨v, h1, h2, h3⟩
        rcases Nat.lt_or_ge v k with d | d
        · exact ⟨v, d, h2, h3⟩
        · have e : v = k := by omega
          subst e
          exact absurd h2 c
/-- reached from v within s, in at most r steps -/
def cm_D (g : Nat → Nat) (n s v : Nat) : Nat → Nat
  | 0 => 2 ^ v
  | r + 1 => cm_D g n s v r ||| (cm_N g (cm_D g n s v r) n &&& s)
theorem cm_D_s (g : Nat → Nat) (n s v r : Nat) : cm_D g n s v (r + 1) = cm_D g n s v r ||| (cm_N g (cm_D g n s v r) n &&& s) := rfl
theorem cm_D_t (g : Nat → Nat) (n s v r x : Nat) : (cm_D g n s v (r + 1)).testBit x = true ↔ (cm_D g n s v r).testBit x = true ∨ (s.testBit x = true ∧ ∃ u, u < n ∧ (cm_D g n s v r).testBit u = true ∧ (g u).testBit x = true) := by
  rw [cm_D_s, Nat.testBit_or, Nat.testBit_and, Bool.or_eq_true, Bool.and_eq_true, cm_N_t]
  constructor
  · rintro (h | ⟨h1, h2⟩)
    · exact Or.inl h
    · exact Or.inr ⟨h2, h1⟩
  · rintro (h | ⟨h1, h2⟩)
    · exact Or.inl h
    · exact Or.inr ⟨h2, h1⟩
theorem cm_D_v (g : Nat → Nat) (n s v : Nat) : ∀ r, (cm_D g n s v r).testBit v = true
  | 0 => Nat.testBit_two_pow_self
  | r + 1 => (cm_D_t ..).mpr (Or.inl (cm_D_v g n s v r))
theorem cm_D_in {g : Nat → Nat} {n s v : Nat} (hv : s.testBit v = true) : ∀ r x, (cm_D g n s v r).testBit x = true → s.testBit x = true
  | 0, x, h => by
    have e : v = x := by
      rw [show cm_D g n s v 0 = 2 ^ v from rfl, Nat.testBit_two_pow] at h
      exact of_decide_eq_true h
    rw [← e]; exact hv
  | r + 1, x, h => by
    rcases (cm_D_t ..).mp h with h | ⟨h, _⟩
    · exact cm_D_in hv r x h
    · exact h
theorem cm_D_up (g : Nat → Nat) (n s v r : Nat) : bs_s (cm_D g n s v r) (cm_D g n s v (r + 1)) := fun x h => (cm_D_t ..).mpr (Or.inl h)
theorem cm_grow {g : Nat → Nat} {n s v : Nat} (hs : s < 2 ^ n) (hv : s.testBit v = true) : ∀ r, cm_D g n s v (r + 1) = cm_D g n s v r ∨ r + 2 ≤ bs_c (cm_D g n s v (r + 1)) n := by
  have strict : ∀ r, cm_D g n s v (r + 1) ≠ cm_D g n s v r → bs_c (cm_D g n s v r) n < bs_c (cm_D g n s v (r + 1)) n := by
    intro r hne
    have : ∃ i, (cm_D g n s v (r + 1)).testBit i = true ∧ ¬ (cm_D g n s v r).testBit i = true := by
      refine Classical.byContradiction (fun hno => hne ?_)
      refine Nat.eq_of_testBit_eq (fun i => ?_)
      cases h1 : (cm_D g n s v (r + 1)).testBit i
      · cases h2 : (cm_D g n s v r).testBit i
        · rfl
        · rw [cm_D_up g n s v r i h2] at h1
          exact absurd h1 (by decide)
      · cases h2 : (cm_D g n s v r).testBit i
        · exact absurd ⟨i, h1, by rw [h2]; decide⟩ hno
        · rfl
    obtain ⟨i, h1, h2⟩ := this
    exact bs_c_lt (cm_D_up g n s v r) h2 h1 n (bs_lt hs (cm_D_in hv _ _ h1))
  intro r
  induction r with
  | zero =>
    by_cases e : cm_D g n s v 1 = cm_D g n s v 0
    · exact Or.inl e
    · have h1 := strict 0 e
      have h2 := bs_c_pos (cm_D_v g n s v 0) n (bs_lt hs hv)
      exact Or.inr (by omega)
  | succ r ih =>
    by_cases e : cm_D g n s v (r + 1 + 1) = cm_D g n s v (r + 1)
    · exact Or.inl e
    · have h1 := strict (r + 1) e
      rcases ih with ih | ih
      · exfalso
        apply e
        rw [cm_D_s g n s v (r + 1), ih, ← cm_D_s, ih]
      · exact Or.inr (by omega)
/-- the component of v within s -/
def cm_C (g : Nat → Nat) (n s v : Nat) : Nat := cm_D g n s v n
theorem cm_C_closed {g : Nat → Nat} {n s v : Nat} (hs : s < 2 ^ n) (hv : s.testBit v = true) {u x : Nat} (hu : (cm_C g n s v).testBit u = true) (hx : s.testBit x = true) (he : (g u).testBit x = true) : (cm_C g n s v).testBit x = true := by
  have e : cm_D g n s v (n + 1) = cm_D g n s v n := by
    rcases cm_grow (g := g) hs hv n with e | e
    · exact e
    · have := bs_c_le (cm_D g n s v (n + 1)) n
      omega
  unfold cm_C at hu ⊢
  rw [← e, cm_D_t]
  exact Or.inr ⟨hx, u, bs_lt hs (cm_D_in hv _ _ hu), hu, he⟩
/-- it is the least closed one -/
theorem cm_least {g : Nat → Nat} {n s v w : Nat} (hs : s < 2 ^ n) (hw : s.testBit w = true) (h : (cm_C g n s w).testBit v = true) : ∀ r, bs_s (cm_D g n s v r) (cm_C g n s w)
  | 0, x, hx => by
    have e : v = x := by
      rw [show cm_D g n s v 0 = 2 ^ v from rfl, Nat.testBit_two_pow] at hx
      exact of_decide_eq_true hx
    rw [← e]; exact h
  | r + 1, x, hx => by
    rcases (cm_D_t ..).mp hx with hx | ⟨h1, u, h2, h3, h4⟩
    · exact cm_least hs hw h r x hx
    · exact cm_C_closed hs hw (cm_least hs hw h r u h3) h1 h4
/-- v is in s, and no smaller vertex of s has it in its component -/
def cm_1 (g : Nat → Nat) (n s v : Nat) : Prop := s.testBit v = true ∧ ∀ w, w < v → s.testBit w = true → ¬ (cm_C g n s w).testBit v = true
/-- what the search has seen before vertex v -/
def cm_seen (g : Nat → Nat) (n s v m : Nat) : Prop := ∀ x, m.testBit x = true ↔ ∃ w, w < v ∧ s.testBit w = true ∧ (cm_C g n s w).testBit x = true
theorem cm_seen0 (g : Nat → Nat) (n s : Nat) : cm_seen g n s 0 0 := fun x => by
  rw [Nat.zero_testBit]
  exact ⟨fun z => absurd z (by decide), fun ⟨w, h, _⟩ => absurd h (by omega)⟩
theorem cm_seen_new {g : Nat → Nat} {n s v m : Nat} (h : cm_seen g n s v m) (hv : s.testBit v = true) : cm_seen g n s (v + 1) (m ||| cm_C g n s v) := fun x => by
  rw [Nat.testBit_or, Bool.or_eq_true, h x]
  constructor
  · rintro (⟨w, h1, h2⟩ | h1)
    · exact ⟨w, by omega, h2⟩
    · exact ⟨v, by omega, hv, h1⟩
  · rintro ⟨w, h1, h2, h3⟩
    rcases Nat.lt_or_ge w v with c | c
    · exact Or.inl ⟨w, c, h2, h3⟩
    · have e : w = v := by omega
      subst e
      exact Or.inr h3
theorem cm_seen_old {g : Nat → Nat} {n s v m : Nat} (hs : s < 2 ^ n) (h : cm_seen g n s v m) (hv : s.testBit v = true → m.testBit v = true) : cm_seen g n s (v + 1) m := fun x => by
  rw [h x]
  constructor
  · rintro ⟨w, h1, h2⟩
    exact ⟨w, by omega, h2⟩
  · rintro ⟨w, h1, h2, h3⟩
    rcases Nat.lt_or_ge w v with c | c
    · exact ⟨w, c, h2, h3⟩
    · have e : w = v := by omega
      subst e
      obtain ⟨w', a1, a2, a3⟩ := (h w).mp (hv h2)
      exact ⟨w', a1, a2, cm_least hs a2 a3 n x h3⟩
theorem cm_1_iff {g : Nat → Nat} {n s v m : Nat} (h : cm_seen g n s v m) : cm_1 g n s v ↔ s.testBit v = true ∧ ¬ m.testBit v = true := by
  unfold cm_1
  rw [h v]
  constructor
  · rintro ⟨h1, h2⟩
    exact ⟨h1, fun ⟨w, a, b, c⟩ => h2 w a b c⟩
  · rintro ⟨h1, h2⟩
    exact ⟨h1, fun w a b c => h2 ⟨w, a, b, c⟩⟩
/-! labels -/
/-- what holds of the labels in the midst of a round: r rounds are through, and the couples below p -/
def cm_L (g : Nat → Nat) (n s r p : Nat) (f : Nat → Nat) : Prop :=
  (∀ u, s.testBit u = true → s.testBit (f u) = true ∧ f u ≤ u ∧ (cm_C g n s (f u)).testBit u = true) ∧
  (∀ w u, s.testBit w = true → (cm_D g n s w r).testBit u = true → f u ≤ w) ∧
  (∀ w u x, s.testBit w = true → s.testBit u = true → u * 8 + x < p → (cm_D g n s w r).testBit x = true → (g u).testBit x = true → f u ≤ w)
theorem cm_L0 {g : Nat → Nat} {n s : Nat} {f : Nat → Nat} (hf : ∀ u, s.testBit u = true → f u = u) : cm_L g n s 0 0 f := by
  refine ⟨fun u hu => ?_, fun w u hw h => ?_, fun w u x _ _ h => absurd h (by omega)⟩
  · rw [hf u hu]
    exact ⟨hu, Nat.le_refl _, cm_D_v ..⟩
  · have e : w = u := by
      rw [show cm_D g n s w 0 = 2 ^ w from rfl, Nat.testBit_two_pow] at h
      exact of_decide_eq_true h
    subst e
    rw [hf w hw]
    exact Nat.le_refl _
theorem cm_L_round {g : Nat → Nat} {n s r : Nat} {f : Nat → Nat} (hs : s < 2 ^ n) (hn : n ≤ 8) (hy : ∀ u x, u < n → x < n → (g u).testBit x = true → (g x).testBit u = true) (h : cm_L g n s r 64 f) : cm_L g n s (r + 1) 0 f := by
  obtain ⟨h1, h2, h3⟩ := h
  refine ⟨h1, fun w u hw hu => ?_, fun w u x _ _ h => absurd h (by omega)⟩
  rcases (cm_D_t ..).mp hu with hu | ⟨hu, x, hx, hd, he⟩
  · exact h2 w u hw hu
  · have hun := bs_lt hs hu
    exact h3 w u x hw hu (by omega) hd (hy x u hx hun he)
theorem cm_L_skip {g : Nat → Nat} {n s r p : Nat} {f : Nat → Nat} (h : cm_L g n s r p f) (hp : ∀ u x, p = u * 8 + x → x < 8 → s.testBit u = true → s.testBit x = true → (g u).testBit x = true → f u ≤ f x) (hb : ∀ u x, (g u).testBit x = true → x < 8) : cm_L g n s r (p + 1) f := by
  obtain ⟨h1, h2, h3⟩ := h
  refine ⟨h1, h2, fun w u x hw hu hlt hd he => ?_⟩
  rcases Nat.lt_or_ge (u * 8 + x) p with c | c
  · exact h3 w u x hw hu c hd he
  · exact Nat.le_trans (hp u x (by omega) (hb u x he) hu (cm_D_in hw _ _ hd) he) (h2 w x hw hd)
theorem cm_L_set {g : Nat → Nat} {n s r p a b : Nat} {f f' : Nat → Nat} (hs : s < 2 ^ n) (h : cm_L g n s r p f) (hp : p = a * 8 + b) (hb8 : b < 8) (ha : s.testBit a = true) (hb : s.testBit b = true) (hba : (g b).testBit a = true) (hlt : f b < f a) (e1 : f' a = f b) (e2 : ∀ u, u ≠ a → f' u = f u) (hg : ∀ u x, (g u).testBit x = true → x < 8) : cm_L g n s r (p + 1) f' := by
  obtain ⟨h1, h2, h3⟩ := h
  have hle : ∀ u, f' u ≤ f u := by
    intro u
    by_cases e : u = a
    · subst e; omega
    · rw [e2 u e]; exact Nat.le_refl _
  refine ⟨fun u hu => ?_, fun w u hw hd => Nat.le_trans (hle u) (h2 w u hw hd), fun w u x hw hu hc hd he => ?_⟩
  · by_cases e : u = a
    · subst e
      obtain ⟨a1, a2, a3⟩ := h1 b hb
      obtain ⟨_, b2, _⟩ := h1 u hu
      rw [e1]
      exact ⟨a1, by omega, cm_C_closed hs a1 a3 hu hba⟩
    · rw [e2 u e]
      exact h1 u hu
  · rcases Nat.lt_or_ge (u * 8 + x) p with c | c
    · exact Nat.le_trans (hle u) (h3 w u x hw hu c hd he)
    · have hx := hg u x he
      have eu : u = a := by omega
      have ex : x = b := by omega
      subst eu
      subst ex
      rw [e1]
      exact h2 w x hw hd
theorem cm_L_end {g : Nat → Nat} {n s : Nat} {f : Nat → Nat} (h : cm_L g n s n 0 f) {u : Nat} (hu : s.testBit u = true) : f u = u ↔ cm_1 g n s u := by
  obtain ⟨h1, h2, _⟩ := h
  obtain ⟨a1, a2, a3⟩ := h1 u hu
  constructor
  · intro e
    refine ⟨hu, fun w hw hsw hc => ?_⟩
    have := h2 w u hsw hc
    omega
  · rintro ⟨_, h⟩
    rcases Nat.lt_or_ge (f u) u with c | c
    · exact absurd a3 (h (f u) c a1)
    · omega
/-- how many first vertices there are below k -/
noncomputable def cm_K (g : Nat → Nat) (n s : Nat) : Nat → Nat
  | 0 => 0
  | k + 1 => cm_K g n s k + @ite _ (cm_1 g n s k) (Classical.propDecidable _) 1 0
theorem cm_K_t {g : Nat → Nat} {n s k : Nat} (h : cm_1 g n s k) : cm_K g n s (k + 1) = cm_K g n s k + 1 := by
  show cm_K g n s k + @ite _ (cm_1 g n s k) (Classical.propDecidable _) 1 0 = _
  rw [if_pos h]
theorem cm_K_f {g : Nat → Nat} {n s k : Nat} (h : ¬ cm_1 g n s k) : cm_K g n s (k + 1) = cm_K g n s k := by
  show cm_K g n s k + @ite _ (cm_1 g n s k) (Classical.propDecidable _) 1 0 = _
  rw [if_neg h]
  rfl
