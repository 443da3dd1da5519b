/-! the component's own small methods, each with a general post -/
def gr_G (n : Nat) (g : Nat → Nat) : Prop := n ≤ 8 ∧ (∀ v x, (g v).testBit x = true → v < n ∧ x < n) ∧ (∀ v x, (g v).testBit x = true → (g x).testBit v = true) ∧ ∀ v, ¬ (g v).testBit v = true
theorem gr_lt {n : Nat} {g : Nat → Nat} (G : gr_G n g) (v : Nat) : g v < 2 ^ n := bs_of_lt (fun x h => (G.2.1 v x h).2)
theorem gr_256 {n : Nat} {g : Nat → Nat} (G : gr_G n g) (v : Nat) : g v < 256 := Nat.lt_of_lt_of_le (gr_lt G v) (bs_pow8 G.1)
theorem gr_out {n : Nat} {g : Nat → Nat} (G : gr_G n g) {v : Nat} (h : n ≤ v) : g v = 0 := by
  refine Nat.eq_of_testBit_eq (fun x => ?_)
  rw [Nat.zero_testBit]
  cases c : (g v).testBit x
  · rfl
  · have := (G.2.1 v x c).1
    omega
theorem wz_1 {A B : Prop} (b : B) : ((1 : Int32) = 0 → A) ∧ (¬ (1 : Int32) = 0 → B) := br_f (by decide) b
theorem wz_0 {A B : Prop} (a : A) : ((0 : Int32) = 0 → A) ∧ (¬ (0 : Int32) = 0 → B) := br_t rfl a
theorem wz_w {a b : Nat} (ha : a < 2 ^ 31) : nI a &&& (nI b ^^^ (-1)) = 0 ↔ bs_s a b := by
  rw [bs_diff, ← nI_0, nI_eq (Nat.lt_of_le_of_lt (bs_d_le a b) ha) (by decide), bs_d_0]
/-- one truth value in both forms -/
noncomputable def qq_P (Q : Nat → Prop) (i : Nat) : Bool := @decide (Q i) (Classical.propDecidable _)
theorem qq_t {Q : Nat → Prop} {i : Nat} (h : Q i) : qq_P Q i = true := @decide_eq_true _ (Classical.propDecidable _) h
theorem qq_f {Q : Nat → Prop} {i : Nat} (h : ¬ Q i) : qq_P Q i = false := @decide_eq_false _ (Classical.propDecidable _) h
theorem qq_Ft {Q : Nat → Prop} {f : Nat → Int32 → Int32} {a : Int32} {i : Nat} (h : Q i) : bs_F (qq_P Q) f a (i + 1) = f i (bs_F (qq_P Q) f a i) := by rw [bs_F_s, qq_t h, if_pos rfl]
theorem qq_Ff {Q : Nat → Prop} {f : Nat → Int32 → Int32} {a : Int32} {i : Nat} (h : ¬ Q i) : bs_F (qq_P Q) f a (i + 1) = bs_F (qq_P Q) f a i := by rw [bs_F_s, qq_f h, if_neg (by decide)]
/-- cliques, stable sets -/
def cl_K (g : Nat → Nat) (m : Nat) : Prop := ∀ u v, m.testBit u = true → m.testBit v = true → u ≠ v → (g u).testBit v = true
def st_T (g : Nat → Nat) (m : Nat) : Prop := ∀ u v, m.testBit u = true → m.testBit v = true → ¬ (g u).testBit v = true
/-- every vertex outside sees all of m or none -/
def mo_A (g : Nat → Nat) (n m : Nat) : Prop := ∀ v, v < n → ¬ m.testBit v = true → g v &&& m = 0 ∨ g v &&& m = m
section
variable {nw hw : Int32} {ar aw aq am ac ap : Nat → Int32} {n : Nat} {g : Nat → Nat}
theorem xw_whole (hn : n ≤ 8) {post : Int32 → Prop} (h : post (nI (2 ^ n - 1))) : wpX_wholeSet post (nw, nI n, hw, ar, aw, aq, am, ac, ap) := by
  show post (((1 : Int32) <<< (nI n &&& 31)) - 1)
  rw [bs_all (by omega)]
  exact h
theorem xw_contains {m i : Nat} (hm : m < 2 ^ 31) (hi : i < 32) {post : Int32 → Prop} (h1 : m.testBit i = true → post 1) (h0 : ¬ m.testBit i = true → post 0) : wpX_contains post (nI m) (nI i) :=
  br_c (fun z => h1 ((bs_has1 hm hi).mp z)) (fun z => h0 (fun y => z ((bs_has1 hm hi).mpr y)))
theorem xw_within {a b : Nat} (ha : a < 2 ^ 31) {post : Int32 → Prop} (h1 : bs_s a b → post 1) (h0 : ¬ bs_s a b → post 0) : wpX_isWithin post (nI a) (nI b) :=
  br_c (fun z => h1 ((wz_w ha).mp z)) (fun z => h0 (fun y => z ((wz_w ha).mpr y)))
theorem xw_isVt {a : Nat} (hn : n ≤ 8) (ha : a < n) {post : Int32 → Prop} (h : post 1) : wpX_isVertex post (nw, nI n, hw, ar, aw, aq, am, ac, ap) (nI a) :=
  br_f (nI_pos (by omega)) (br_f (nI_ge ha (by omega)) h)
theorem xw_isVf {p : Int32} (hp : p < 0 ∨ nI n ≤ p) {post : Int32 → Prop} (h : post 0) : wpX_isVertex post (nw, nI n, hw, ar, aw, aq, am, ac, ap) p := by
  refine br_c (fun _ => h) (fun z => ?_)
  rcases hp with hp | hp
  · exact absurd hp z
  · exact br_t hp h
theorem xw_isSt {m : Nat} (hn : n ≤ 8) (hm : m < 2 ^ n) {post : Int32 → Prop} (h : post 1) : wpX_isSet post (nw, nI n, hw, ar, aw, aq, am, ac, ap) (nI m) := by
  have h8 := bs_pow8 hn
  refine br_f (nI_pos (by omega)) (xw_whole hn ?_)
  exact br_f (nI_nlt (by omega) (by omega)) h
theorem xw_isSf {p : Int32} (hn : n ≤ 8) (hp : p < 0 ∨ nI (2 ^ n) ≤ p) {post : Int32 → Prop} (h : post 0) : wpX_isSet post (nw, nI n, hw, ar, aw, aq, am, ac, ap) p := by
  have h8 := bs_pow8 hn
  have h1 := Nat.one_le_two_pow (n := n)
  refine br_c (fun _ => h) (fun z => xw_whole hn ?_)
  rcases hp with hp | hp
  · exact absurd hp z
  · obtain ⟨j, hj, rfl⟩ := nI_of z
    rw [nI_leI (by omega) hj] at hp
    exact br_t (nI_lt (by omega) hj) h
theorem xw_joined (hn : n ≤ 8) (hX : ∀ v, v < n → ar v = nI (g v)) (hg : ∀ v, g v < 256) {a b : Nat} (ha : a < n) (hb : b < 32) {post : Int32 → Prop} (h1 : (g a).testBit b = true → post 1) (h0 : ¬ (g a).testBit b = true → post 0) : wpX_joined post (nw, nI n, hw, ar, aw, aq, am, ac, ap) (nI a) (nI b) := by
  refine And.intro (vp_in_nI (by omega) (by omega)) ?_
  rw [nI_clamp (by omega), hX a ha]
  exact xw_contains (by have := hg a; omega) hb (fun z => ⟨rfl, h1 z⟩) (fun z => ⟨rfl, h0 z⟩)
theorem xw_nb (hn : n ≤ 8) (hX : ∀ v, v < n → ar v = nI (g v)) {m : Nat} (hm : m < 2 ^ 31) {post : Int32 → Prop} (h : post (nI (cm_N g m n))) : wpX_neighboursOf post (nw, nI n, hw, ar, aw, aq, am, ac, ap) (nI m) := by
  have key : ∀ d i, i + d = n → wX_neighboursOf_4 post (nI m) nw (nI n) hw ar aw aq am ac ap (d + 1) (nI (cm_N g m i)) (nI i) := by
    intro d
    induction d with
    | zero =>
      intro i hi
      obtain rfl : i = n := by omega
      exact br_t (nI_le (Nat.le_refl _) (by omega)) h
    | succ d ih =>
      intro i hi
      refine br_f (nI_ge (by omega) (by omega)) (xw_contains hm (by omega) (fun c => ?_) (fun c => ?_))
      · refine wz_1 ⟨vp_in_nI (by omega) (by omega), nm_r (e' := nI (cm_N g m (i + 1))) ?_ (nm_r (nI_1 i) (ih (i + 1) (by omega)))⟩
        rw [nI_clamp (by omega), hX i (by omega), bs_or, cm_N_s, if_pos c]
      · refine wz_0 (nm_r (nI_1 i) ?_)
        have := ih (i + 1) (by omega)
        rw [cm_N_s, if_neg c] at this
        exact this
  exact Exists.intro (n + 1) (key n 0 (by omega))
theorem xw_count {m : Nat} (hm : m < 2 ^ 31) {post : Int32 → Prop} (h : post (nI (bs_c m 8))) : wpX_memberCount post (nI m) := by
  have key : ∀ d i, i + d = 8 → wX_memberCount_4 post (nI m) (d + 1) (nI (bs_c m i)) (nI i) := by
    intro d
    induction d with
    | zero =>
      intro i hi
      obtain rfl : i = 8 := by omega
      exact br_t (nI_le (a := 8) (b := 8) (Nat.le_refl _) (by decide)) h
    | succ d ih =>
      intro i hi
      refine br_f (nI_ge (b := 8) (by omega) (by decide)) (nm_r (e' := nI (bs_c m (i + 1))) ?_ (nm_r (nI_1 i) (ih (i + 1) (by omega))))
      rw [bs_has hm (by omega), bs_c_s]
      by_cases c : m.testBit i = true
      · rw [if_pos c, if_pos c, nI_1]
      · rw [if_neg c, if_neg c, Nat.add_zero, Int32.add_zero]
  exact Exists.intro (8 + 1) (key 8 0 (by omega))
theorem xw_clique (hn : n ≤ 8) (hX : ∀ v, v < n → ar v = nI (g v)) {m : Nat} (hm : m < 2 ^ n) {post : Int32 → Prop} (h1 : cl_K g m → post 1) (h0 : ¬ cl_K g m → post 0) : wpX_isClique post (nw, nI n, hw, ar, aw, aq, am, ac, ap) (nI m) := by
  have h8 := bs_pow8 hn
  have key : ∀ d i, i + d = n → (∀ u, u < i → m.testBit u = true → bs_s m (g u ||| 2 ^ u)) → wX_isClique_2 post (nI m) nw (nI n) hw ar aw aq am ac ap (d + 1) (nI i) := by
    intro d
    induction d with
    | zero =>
      intro i hi I
      obtain rfl : i = n := by omega
      refine br_t (nI_le (Nat.le_refl _) (by omega)) (h1 (fun u v hu hv hne => ?_))
      have := I u (bs_lt hm hu) hu v hv
      rw [Nat.testBit_or, Nat.testBit_two_pow, Bool.or_eq_true] at this
      rcases this with z | z
      · exact z
      · exact absurd (of_decide_eq_true z) hne
    | succ d ih =>
      intro i hi I
      refine br_f (nI_ge (by omega) (by omega)) (xw_contains (by omega) (by omega) (fun c => ?_) (fun c => ?_))
      · refine wz_1 ⟨vp_in_nI (by omega) (by omega), ?_⟩
        rw [nI_clamp (by omega), hX i (by omega), bs_1 i (by omega), bs_or]
        refine xw_within (by omega) (fun s => ?_) (fun s => ?_)
        · refine wz_1 (nm_r (nI_1 i) (ih (i + 1) (by omega) (fun u hu hmu => ?_)))
          rcases Nat.lt_or_ge u i with z | z
          · exact I u z hmu
          · obtain rfl : u = i := by omega
            exact s
        · refine wz_0 (h0 (fun K => s (fun v hv => ?_)))
          rw [Nat.testBit_or, Nat.testBit_two_pow, Bool.or_eq_true]
          by_cases e : i = v
          · exact Or.inr (decide_eq_true e)
          · exact Or.inl (K i v c hv e)
      · refine wz_0 (nm_r (nI_1 i) (ih (i + 1) (by omega) (fun u hu hmu => ?_)))
        rcases Nat.lt_or_ge u i with z | z
        · exact I u z hmu
        · obtain rfl : u = i := by omega
          exact absurd hmu c
  exact Exists.intro (n + 1) (key n 0 (by omega) (fun u hu => absurd hu (by omega)))
theorem st_N {m : Nat} (hm : m < 2 ^ n) : cm_N g m n &&& m = 0 ↔ st_T g m := by
  constructor
  · intro h u v hu hv he
    have : (cm_N g m n &&& m).testBit v = true := by
      rw [Nat.testBit_and, hv, Bool.and_true]
      exact (cm_N_t g m v n).mpr ⟨u, bs_lt hm hu, hu, he⟩
    rw [h, Nat.zero_testBit] at this
    exact absurd this (by decide)
  · intro h
    refine Nat.eq_of_testBit_eq (fun v => ?_)
    rw [Nat.zero_testBit, Nat.testBit_and]
    cases c : m.testBit v
    · rw [Bool.and_false]
    · rw [Bool.and_true]
      cases e : (cm_N g m n).testBit v
      · rfl
      · obtain ⟨u, _, hu, he⟩ := (cm_N_t g m v n).mp e
        exact absurd he (h u v hu c)
theorem xw_stable (hn : n ≤ 8) (hX : ∀ v, v < n → ar v = nI (g v)) {m : Nat} (hm : m < 2 ^ n) {post : Int32 → Prop} (h1 : st_T g m → post 1) (h0 : ¬ st_T g m → post 0) : wpX_isStable post (nw, nI n, hw, ar, aw, aq, am, ac, ap) (nI m) := by
  have h8 := bs_pow8 hn
  refine xw_nb hn hX (by omega) ?_
  have e : nI (cm_N g m n) &&& nI m = 0 ↔ st_T g m := by
    rw [nx_and, ← nI_0, nI_eq (Nat.lt_of_le_of_lt Nat.and_le_right (by omega)) (by decide), st_N hm]
  exact br_c (fun z => h1 (e.mp z)) (fun z => h0 (fun y => z (e.mpr y)))
/-- the sum of the weights -/
def ws_W (w : Nat → Int32) (m : Nat) : Nat → Int32
  | 0 => 0
  | k + 1 => if m.testBit k = true then ws_W w m k + w k else ws_W w m k
theorem ws_W_s (w : Nat → Int32) (m k : Nat) : ws_W w m (k + 1) = if m.testBit k = true then ws_W w m k + w k else ws_W w m k := rfl
theorem xw_weight (hn : n ≤ 8) {m : Nat} (hm : m < 2 ^ 31) {post : Int32 → Prop} (h : post (ws_W aw m n)) : wpX_weightOf post (nw, nI n, hw, ar, aw, aq, am, ac, ap) (nI m) := by
  have key : ∀ d i, i + d = n → wX_weightOf_4 post (nI m) nw (nI n) hw ar aw aq am ac ap (d + 1) (ws_W aw m i) (nI i) := by
    intro d
    induction d with
    | zero =>
      intro i hi
      obtain rfl : i = n := by omega
      exact br_t (nI_le (Nat.le_refl _) (by omega)) h
    | succ d ih =>
      intro i hi
      refine br_f (nI_ge (by omega) (by omega)) (xw_contains hm (by omega) (fun c => ?_) (fun c => ?_))
      · refine wz_1 ⟨vp_in_nI (by omega) (by omega), nm_r (e' := ws_W aw m (i + 1)) ?_ (nm_r (nI_1 i) (ih (i + 1) (by omega)))⟩
        rw [nI_clamp (by omega), ws_W_s, if_pos c]
      · refine wz_0 (nm_r (nI_1 i) ?_)
        have := ih (i + 1) (by omega)
        rw [ws_W_s, if_neg c] at this
        exact this
  exact Exists.intro (n + 1) (key n 0 (by omega))
theorem xw_alike (hn : n ≤ 8) (hX : ∀ v, v < n → ar v = nI (g v)) (hg : ∀ v, g v < 256) {m : Nat} (hm : m < 2 ^ n) {post : Int32 → Prop} (h1 : mo_A g n m → post 1) (h0 : ¬ mo_A g n m → post 0) : wpX_seenAlikeFromOutside post (nw, nI n, hw, ar, aw, aq, am, ac, ap) (nI m) := by
  have h8 := bs_pow8 hn
  have key : ∀ d i, i + d = n → (∀ v, v < i → ¬ m.testBit v = true → g v &&& m = 0 ∨ g v &&& m = m) → wX_seenAlikeFromOutside_2 post (nI m) nw (nI n) hw ar aw aq am ac ap (d + 1) (nI i) := by
    intro d
    induction d with
    | zero =>
      intro i hi I
      obtain rfl : i = n := by omega
      exact br_t (nI_le (Nat.le_refl _) (by omega)) (h1 I)
    | succ d ih =>
      intro i hi I
      have more : (¬ m.testBit i = true → g i &&& m = 0 ∨ g i &&& m = m) → wX_seenAlikeFromOutside_2 post (nI m) nw (nI n) hw ar aw aq am ac ap (d + 1) (nI (i + 1)) := by
        intro hi'
        refine ih (i + 1) (by omega) (fun v hv hmv => ?_)
        rcases Nat.lt_or_ge v i with z | z
        · exact I v z hmv
        · obtain rfl : v = i := by omega
          exact hi' hmv
      have hlt : g i &&& m < 2 ^ 31 := Nat.lt_of_le_of_lt Nat.and_le_right (by omega)
      refine br_f (nI_ge (by omega) (by omega)) ⟨vp_in_nI (by omega) (by omega), nm_r (e' := nI (g i &&& m)) (by rw [nI_clamp (by omega), hX i (by omega), nx_and]) ?_⟩
      refine xw_contains (by omega) (by omega) (fun c => ?_) (fun c => ?_)
      · exact wz_1 (nm_r (nI_1 i) (more (fun z => absurd c z)))
      · refine wz_0 (br_c (fun z => nm_r (nI_1 i) (more (fun _ => Or.inl ?_))) (fun z => br_c (fun y => nm_r (nI_1 i) (more (fun _ => Or.inr ?_))) (fun y => h0 (fun A => ?_))))
        · rw [← nI_0, nI_eq hlt (by decide)] at z
          exact z
        · rw [nI_eq hlt (by omega)] at y
          exact y
        · rcases A i (by omega) c with e | e
          · exact z (by rw [e]; rfl)
          · exact y (by rw [e])
  exact Exists.intro (n + 1) (key n 0 (by omega) (fun v hv => absurd hv (by omega)))
end
