/-! the component's table of paths -/
theorem pt_M_uniq {g : Nat → Nat} {S a r s : Nat} (h : pt_M g S a r) (h' : pt_M g S a s) : r = s := by
  obtain ⟨⟨l, hl, e⟩, h2⟩ := h
  obtain ⟨⟨m, hm, e'⟩, h2'⟩ := h'
  have := h2 m hm
  have := h2' l hl
  omega
def dp_c (g : Nat → Nat) (a v : Nat) : Nat := if (g v).testBit a then 0 else 1
/-- the search over the vertices below i for the one before the last -/
def dp_I (g : Nat → Nat) (T a i f : Nat) : Prop := (f = 8 ∨ ∃ v r, v < i ∧ T.testBit v = true ∧ pt_M g T v r ∧ f = r + dp_c g a v) ∧ f ≤ 8 ∧ ∀ v r, v < i → T.testBit v = true → pt_M g T v r → f ≤ r + dp_c g a v
theorem dp_I0 (g : Nat → Nat) (T a : Nat) : dp_I g T a 0 8 := ⟨Or.inl rfl, Nat.le_refl _, fun v _ h => absurd h (by omega)⟩
theorem dp_I_no {g : Nat → Nat} {T a i f : Nat} (h : dp_I g T a i f) (hi : ∀ r, T.testBit i = true → pt_M g T i r → f ≤ r + dp_c g a i) : dp_I g T a (i + 1) f := by
  obtain ⟨h1, h2, h3⟩ := h
  refine ⟨?_, h2, fun v r hv hT hM => ?_⟩
  · rcases h1 with e | ⟨v, r, hv, hr⟩
    · exact Or.inl e
    · exact Or.inr ⟨v, r, by omega, hr⟩
  · rcases Nat.lt_or_ge v i with c | c
    · exact h3 v r c hT hM
    · obtain rfl : v = i := by omega
      exact hi r hT hM
theorem dp_I_yes {g : Nat → Nat} {T a i f r : Nat} (h : dp_I g T a i f) (hT : T.testBit i = true) (hM : pt_M g T i r) (hf : r + dp_c g a i < f) : dp_I g T a (i + 1) (r + dp_c g a i) := by
  obtain ⟨h1, h2, h3⟩ := h
  refine ⟨Or.inr ⟨i, r, by omega, hT, hM, rfl⟩, by omega, fun v s hv hT' hM' => ?_⟩
  rcases Nat.lt_or_ge v i with c | c
  · have := h3 v s c hT' hM'
    omega
  · obtain rfl : v = i := by omega
    rw [pt_M_uniq hM hM']
    exact Nat.le_refl _
theorem dp_end {g : Nat → Nat} {S T a n f : Nat} (hn : n ≤ 8) (hS : S < 2 ^ n) (ha : S.testBit a = true) (hT : ∀ x, T.testBit x = (S.testBit x && decide (x ≠ a))) (hT0 : T ≠ 0) (hD : ∀ v, T.testBit v = true → ∃ r, pt_M g T v r) (h : dp_I g T a n f) : pt_M g S a f := by
  have hTS : ∀ v, T.testBit v = true → v < n := by
    intro v hv
    rw [hT, Bool.and_eq_true] at hv
    exact bs_lt hS hv.1
  obtain ⟨h1, h2, h3⟩ := h
  constructor
  · rcases h1 with e | ⟨v, r, _, hv, ⟨⟨l, hl, er⟩, _⟩, ef⟩
    · obtain ⟨v, hv⟩ := bs_ne0 hT0
      obtain ⟨r, hr⟩ := hD v hv
      have a1 := h3 v r (hTS v hv) hv hr
      obtain ⟨⟨l, hl, er⟩, _⟩ := hr
      have hl' := (pt_S_cons ha hT (v :: l)).mpr hl
      have a2 := pt_b_le g (a :: v :: l)
      have a3 := pt_S_len hl' hS
      have a4 : pt_b g (a :: v :: l) = r + dp_c g a v := by rw [pt_b_2, er]; rfl
      exact ⟨v :: l, hl', by omega⟩
    · exact ⟨v :: l, (pt_S_cons ha hT (v :: l)).mpr hl, by rw [pt_b_2, ef, er]; rfl⟩
  · intro l hl
    have hl := (pt_S_cons ha hT l).mp hl
    cases l with
    | nil =>
      obtain ⟨v, hv⟩ := bs_ne0 hT0
      exact absurd ((hl.2 v).mp hv) (by simp)
    | cons v l =>
      have hv := (hl.2 v).mpr (List.mem_cons_self ..)
      obtain ⟨r, hr⟩ := hD v hv
      have a1 := h3 v r (hTS v hv) hv hr
      have a2 := hr.2 l hl
      have a4 : pt_b g (a :: v :: l) = pt_b g (v :: l) + dp_c g a v := rfl
      omega
/-- what the table holds ahead of set S, last j -/
def dp_P (g : Nat → Nat) (n : Nat) (ap : Nat → Int32) (S j : Nat) : Prop := ∀ S' l, S' < 2 ^ n → S'.testBit l = true → S' < S ∨ (S' = S ∧ l < j) → ∃ r, ap (S' * 8 + l) = nI r ∧ pt_M g S' l r
theorem dp_P_put {g : Nat → Nat} {n : Nat} {ap : Nat → Int32} {S j r : Nat} (hn : n ≤ 8) (hj : j < n) (h : dp_P g n ap S j) (hr : pt_M g S j r) : dp_P g n (upd ap (S * 8 + j) (nI r)) S (j + 1) := by
  intro S' l h1 h2 h3
  have hl := bs_lt h1 h2
  dsimp only [upd]
  by_cases e : S' * 8 + l = S * 8 + j
  · have e1 : S' = S := by omega
    have e2 : l = j := by omega
    rw [if_pos e, e1, e2]
    exact ⟨r, rfl, hr⟩
  · rw [if_neg e]
    exact h S' l h1 h2 (by omega)
theorem dp_P_skip {g : Nat → Nat} {n : Nat} {ap : Nat → Int32} {S j : Nat} (h : dp_P g n ap S j) (hj : ¬ S.testBit j = true) : dp_P g n ap S (j + 1) := by
  intro S' l h1 h2 h3
  refine h S' l h1 h2 ?_
  rcases h3 with h3 | ⟨e, h3⟩
  · exact Or.inl h3
  · rcases Nat.lt_or_ge l j with c | c
    · exact Or.inr ⟨e, c⟩
    · obtain rfl : l = j := by omega
      rw [e] at h2
      exact absurd h2 hj
theorem dp_P_next {g : Nat → Nat} {n : Nat} {ap : Nat → Int32} {S : Nat} (h : dp_P g n ap S n) : dp_P g n ap (S + 1) 0 := by
  intro S' l h1 h2 h3
  have hl := bs_lt h1 h2
  exact h S' l h1 h2 (by omega)
theorem dp_ix (b v : Nat) : nI b * 8 + nI v = nI (b * 8 + v) := by
  rw [show (8 : Int32) = nI 8 from rfl, pk_mul, nI_add]
section
variable {nw hw : Int32} {ar aw aq am ac ap : Nat → Int32} {n : Nat} {g : Nat → Nat}
theorem xw_last (G : gr_G n g) (hX : ∀ v, v < n → ar v = nI (g v)) {S a : Nat} (hS : S < 2 ^ n) (ha : S.testBit a = true) (hP : ∀ T l, T < S → T.testBit l = true → ∃ r, ap (T * 8 + l) = nI r ∧ pt_M g T l r) {post : Int32 → Prop} (h : ∀ r, pt_M g S a r → post (nI r)) : wpX_fewestPathsWithLast post (nw, nI n, hw, ar, aw, aq, am, ac, ap) (nI S) (nI a) := by
  have hn := G.1
  have h8 := bs_pow8 hn
  have han := bs_lt hS ha
  have hT : ∀ x, (bs_d S (2 ^ a)).testBit x = (S.testBit x && decide (x ≠ a)) := by
    intro x
    rw [bs_d_t, Nat.testBit_two_pow]
    by_cases e : a = x
    · have e1 : ¬ x ≠ a := fun z => z e.symm
      rw [decide_eq_true e, decide_eq_false e1]; rfl
    · have e1 : x ≠ a := fun z => e z.symm
      rw [decide_eq_false e, decide_eq_true e1]; rfl
  have hTS : bs_d S (2 ^ a) < S := co_d_lt (Nat.ne_of_gt (Nat.two_pow_pos a)) (fun j hj => by
    rw [Nat.testBit_two_pow] at hj
    have e : a = j := of_decide_eq_true hj
    rw [← e]; exact ha)
  refine nm_r (e' := nI (bs_d S (2 ^ a))) (by rw [bs_1 a (by omega), bs_diff]) ?_
  generalize bs_d S (2 ^ a) = T at hT hTS
  refine br_c (fun z => ?_) (fun z => ?_)
  · rw [← nI_0, nI_eq (by omega) (by decide)] at z
    subst z
    exact h 1 (pt_M_one ha hT)
  · have hT0 : T ≠ 0 := fun e => z (by rw [e]; rfl)
    have key : ∀ d i f, i + d = n → dp_I g T a i f → wX_fewestPathsWithLast_21 post (nI a) (nI T) nw (nI n) hw ar aw aq am ac ap (d + 1) (nI f) (nI i) := by
      intro d
      induction d with
      | zero =>
        intro i f hi I
        obtain rfl : i = n := by omega
        exact br_t (nI_le (Nat.le_refl _) (by omega)) (h f (dp_end hn hS ha hT hT0 (fun v hv => by obtain ⟨r, _, hr⟩ := hP T v hTS hv; exact ⟨r, hr⟩) I))
      | succ d ih =>
        intro i f hi I
        have hf : f ≤ 8 := I.2.1
        refine br_f (nI_ge (by omega) (by omega)) (xw_contains (by omega) (by omega) (fun c => wz_1 ?_) (fun c => wz_0 (nm_r (nI_1 i) (ih (i + 1) f (by omega) (dp_I_no I (fun _ z => absurd z c))))))
        obtain ⟨r, er, hr⟩ := hP T i hTS c
        have hr8 : r ≤ 8 := Nat.le_trans (pt_M_le hr (show T < 2 ^ n by omega)) hn
        have hix : (nI T * 8 + nI i).toNatClampNeg = T * 8 + i := by rw [dp_ix, nI_clamp (by omega)]
        have fin : ∀ z : Nat, z = dp_c g a i → (nI f ≤ nI (r + z) → ∀ x : Int32, x = nI i + 1 → wX_fewestPathsWithLast_21 post (nI a) (nI T) nw (nI n) hw ar aw aq am ac ap (d + 1) (nI f) x) ∧ (¬ nI f ≤ nI (r + z) → ∀ x : Int32, x = nI i + 1 → wX_fewestPathsWithLast_21 post (nI a) (nI T) nw (nI n) hw ar aw aq am ac ap (d + 1) (nI (r + z)) x) := by
          intro z hz
          have hz1 : z ≤ 1 := by
            rw [hz]
            unfold dp_c
            split <;> omega
          refine br_c (fun y => nm_r (nI_1 i) ?_) (fun y => nm_r (nI_1 i) ?_)
          · rw [nI_leI (by omega) (by omega)] at y
            exact ih (i + 1) f (by omega) (dp_I_no I (fun s _ hs => by rw [pt_M_uniq hs hr, ← hz]; exact y))
          · rw [nI_leI (by omega) (by omega)] at y
            rw [hz]
            exact ih (i + 1) _ (by omega) (dp_I_yes I c hr (by rw [← hz]; omega))
        rw [hix, er]
        refine ⟨by rw [dp_ix]; exact vp_in_nI (by omega) (by decide), xw_joined hn hX (gr_256 G) (by omega) (by omega) (fun l => wz_1 ?_) (fun l => wz_0 ?_)⟩
        · exact nm_r (e' := nI (r + 0)) (by rw [Nat.add_zero, Int32.add_zero]) (fin 0 (by unfold dp_c; rw [if_pos l]))
        · exact nm_r (e' := nI (r + 1)) (nI_1 r) (fin 1 (by unfold dp_c; rw [if_neg l]))
    exact Exists.intro (n + 1) (key n 0 8 (by omega) (dp_I0 g T a))
/-- the least over the last vertex -/
def dp_F (g : Nat → Nat) (n i f : Nat) : Prop := (f = n ∨ ∃ v, v < i ∧ pt_M g (2 ^ n - 1) v f) ∧ f ≤ n ∧ ∀ v r, v < i → pt_M g (2 ^ n - 1) v r → f ≤ r
theorem dp_F_A {f : Nat} (h0 : 0 < n) (hD : ∀ v, v < n → ∃ r, pt_M g (2 ^ n - 1) v r) (h : dp_F g n n f) : pt_A g n f := by
  have hw : 2 ^ n - 1 < 2 ^ n := by have := Nat.two_pow_pos n; omega
  obtain ⟨h1, h2, h3⟩ := h
  constructor
  · rcases h1 with e | ⟨v, hv, ⟨⟨l, hl, er⟩, _⟩⟩
    · obtain ⟨r, hr⟩ := hD 0 h0
      have a1 := h3 0 r h0 hr
      have a2 := pt_M_le hr hw
      obtain ⟨⟨l, hl, er⟩, _⟩ := hr
      exact ⟨0 :: l, pt_S_perm.mp hl, by omega⟩
    · exact ⟨v :: l, pt_S_perm.mp hl, er⟩
  · intro l hl
    cases l with
    | nil =>
      have := hl.length_eq
      rw [pm_l_len] at this
      simp at this
      omega
    | cons v l =>
      have hv : v < n := pt_range.mp (hl.mem_iff.mp (List.mem_cons_self ..))
      obtain ⟨r, hr⟩ := hD v hv
      have a1 := h3 v r hv hr
      have a2 := hr.2 l (pt_S_perm.mpr hl)
      omega
def pt_Z (g : Nat → Nat) (n f : Nat) : Prop := (n = 0 ∧ f = 0) ∨ (0 < n ∧ pt_A g n f)
theorem xq_paths (G : gr_G n g) (hX : ∀ v, v < n → ar v = nI (g v)) {post : Int32 → SX → Prop} (h : ∀ (ap : Nat → Int32) (f : Nat), pt_Z g n f → post (nI f) (nw, nI n, hw, ar, aw, aq, am, ac, ap)) : wpX_fewestPaths post (nw, nI n, hw, ar, aw, aq, am, ac, ap) := by
  have hn := G.1
  have h8 := bs_pow8 hn
  have hp := Nat.two_pow_pos n
  have last : ∀ ap : Nat → Int32, dp_P g n ap (2 ^ n) 0 → ∀ d i f, i + d = n → dp_F g n i f → wX_fewestPaths_66 post (nI (2 ^ n - 1)) nw (nI n) hw ar aw aq am ac ap (d + 1) (nI f) (nI i) := by
    intro ap hP d
    have hall : ∀ v, v < n → ∃ r, ap ((2 ^ n - 1) * 8 + v) = nI r ∧ pt_M g (2 ^ n - 1) v r := by
      intro v hv
      exact hP (2 ^ n - 1) v (by omega) (by rw [Nat.testBit_two_pow_sub_one]; exact decide_eq_true hv) (Or.inl (by omega))
    induction d with
    | zero =>
      intro i f hi I
      obtain rfl : i = n := by omega
      refine br_t (nI_le (Nat.le_refl _) (by omega)) (h ap f ?_)
      rcases Nat.eq_zero_or_pos i with e | e
      · exact Or.inl ⟨e, by have := I.2.1; omega⟩
      · exact Or.inr ⟨e, dp_F_A e (fun v hv => by obtain ⟨r, _, hr⟩ := hall v hv; exact ⟨r, hr⟩) I⟩
    | succ d ih =>
      intro i f hi I
      obtain ⟨r, er, hr⟩ := hall i (by omega)
      have hr8 : r ≤ n := pt_M_le hr (show 2 ^ n - 1 < 2 ^ n by omega)
      have hf := I.2.1
      have hix : (nI (2 ^ n - 1) * 8 + nI i).toNatClampNeg = (2 ^ n - 1) * 8 + i := by rw [dp_ix, nI_clamp (by omega)]
      refine br_f (nI_ge (by omega) (by omega)) ⟨by rw [dp_ix]; exact vp_in_nI (by omega) (by decide), nm_r (e' := nI r) (by rw [hix, er]) ?_⟩
      obtain ⟨h1, h2, h3⟩ := I
      refine br_c (fun z => nm_r (nI_1 i) ?_) (fun z => nm_r (nI_1 i) ?_)
      · rw [nI_leI (by omega) (by omega)] at z
        refine ih (i + 1) f (by omega) ⟨?_, h2, fun v s hv hs => ?_⟩
        · rcases h1 with e | ⟨v, hv, hM⟩
          · exact Or.inl e
          · exact Or.inr ⟨v, by omega, hM⟩
        · rcases Nat.lt_or_ge v i with c | c
          · exact h3 v s c hs
          · obtain rfl : v = i := by omega
            rw [pt_M_uniq hs hr]
            exact z
      · rw [nI_leI (by omega) (by omega)] at z
        refine ih (i + 1) r (by omega) ⟨Or.inr ⟨i, by omega, hr⟩, hr8, fun v s hv hs => ?_⟩
        rcases Nat.lt_or_ge v i with c | c
        · have := h3 v s c hs
          omega
        · obtain rfl : v = i := by omega
          rw [pt_M_uniq hs hr]
          exact Nat.le_refl _
  have sets : ∀ d S (ap : Nat → Int32), 0 < S → S + d = 2 ^ n → dp_P g n ap S 0 → wX_fewestPaths_7 post (nI (2 ^ n - 1)) nw (nI n) hw (d + 1) (nI S) ar aw aq am ac ap := by
    intro d
    induction d with
    | zero =>
      intro S ap h0 hS hP
      obtain rfl : S = 2 ^ n := by omega
      exact br_t (nI_lt (by omega) (by omega)) ⟨n + 1, last ap hP n 0 n (by omega) ⟨Or.inl rfl, Nat.le_refl _, fun v r hv => absurd hv (by omega)⟩⟩
    | succ d ih =>
      intro S ap h0 hS hP
      have inner : ∀ e j (ap : Nat → Int32), j + e = n → dp_P g n ap S j → wX_fewestPaths_14 post (wX_fewestPaths_7 post (nI (2 ^ n - 1)) nw (nI n) hw (d + 1)) (nI (2 ^ n - 1)) (nI S) nw (nI n) hw (e + 1) (nI j) ar aw aq am ac ap := by
        intro e
        induction e with
        | zero =>
          intro j ap hj hP
          obtain rfl : j = n := by omega
          exact br_t (nI_le (Nat.le_refl _) (by omega)) (nm_r (nI_1 S) (ih (S + 1) ap (by omega) (by omega) (dp_P_next hP)))
        | succ e ihe =>
          intro j ap hj hP
          refine br_f (nI_ge (by omega) (by omega)) (xw_contains (by omega) (by omega) (fun c => wz_1 ?_) (fun c => wz_0 (nm_r (nI_1 j) (ihe (j + 1) ap (by omega) (dp_P_skip hP c)))))
          refine xw_last G hX (by omega) c (fun T l hT hl => hP T l (by omega) hl (Or.inl hT)) (fun r hr => ?_)
          refine ⟨by rw [dp_ix]; exact vp_in_nI (by omega) (by decide), nm_e (nm_r (nI_1 j) ?_)⟩
          rw [dp_ix, nI_clamp (by omega)]
          exact ihe (j + 1) _ (by omega) (dp_P_put hn (by omega) hP hr)
      exact br_f (nI_nlt (by omega) (by omega)) ⟨n + 1, inner n 0 ap (by omega) hP⟩
  unfold wpX_fewestPaths
  dsimp only
  refine xw_whole hn ?_
  refine Exists.intro (2 ^ n - 1 + 1) (sets (2 ^ n - 1) 1 ap (by omega) (by omega) (fun S' l h1 h2 h3 => ?_))
  have e : S' = 0 := by omega
  rw [e, Nat.zero_testBit] at h2
  exact absurd h2 (by decide)
end
