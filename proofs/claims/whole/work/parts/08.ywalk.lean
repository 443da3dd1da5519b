/-! the reference's small methods -/
section
variable {fr yw : Int32} {br bw bq bl bo bm be : Nat → Int32} {n : Nat} {g : Nat → Nat}
theorem yw_has {m i : Nat} (hm : m < 2 ^ 31) (hi : i < 32) {post : Int32 → Prop} (h1 : m.testBit i = true → post 1) (h0 : ¬ m.testBit i = true → post 0) : wpY_has post (fr, nI n, yw, br, bw, bq, bl, bo, bm, be) (nI m) (nI i) :=
  br_c (fun z => h1 ((bs_has1 hm hi).mp z)) (fun z => h0 (fun y => z ((bs_has1 hm hi).mpr y)))
theorem yw_within {a b : Nat} (ha : a < 2 ^ 31) {post : Int32 → Prop} (h1 : bs_s a b → post 1) (h0 : ¬ bs_s a b → post 0) : wpY_within post (fr, nI n, yw, br, bw, bq, bl, bo, bm, be) (nI a) (nI b) :=
  br_c (fun z => h1 ((wz_w ha).mp z)) (fun z => h0 (fun y => z ((wz_w ha).mpr y)))
theorem yw_isVt {a : Nat} (hn : n ≤ 8) (ha : a < n) {post : Int32 → Prop} (h : post 1) : wpY_isVertex post (fr, nI n, yw, br, bw, bq, bl, bo, bm, be) (nI a) :=
  br_f (nI_pos (by omega)) (br_f (nI_ge ha (by omega)) h)
theorem yw_isVf {p : Int32} (hp : p < 0 ∨ nI n ≤ p) {post : Int32 → Prop} (h : post 0) : wpY_isVertex post (fr, nI n, yw, br, bw, bq, bl, bo, bm, be) p := by
  refine br_c (fun _ => h) (fun z => ?_)
  rcases hp with hp | hp
  · exact absurd hp z
  · exact br_t hp h
theorem yw_isSt {m : Nat} (hn : n ≤ 8) (hm : m < 2 ^ n) {post : Int32 → Prop} (h : post 1) : wpY_isSet post (fr, nI n, yw, br, bw, bq, bl, bo, bm, be) (nI m) := by
  have h8 := bs_pow8 hn
  refine br_f (nI_pos (by omega)) ?_
  rw [bs_1 n (by omega)]
  exact br_f (nI_ge hm (by omega)) h
theorem yw_isSf {p : Int32} (hn : n ≤ 8) (hp : p < 0 ∨ nI (2 ^ n) ≤ p) {post : Int32 → Prop} (h : post 0) : wpY_isSet post (fr, nI n, yw, br, bw, bq, bl, bo, bm, be) p := by
  refine br_c (fun _ => h) (fun z => ?_)
  rw [bs_1 n (by omega)]
  rcases hp with hp | hp
  · exact absurd hp z
  · exact br_t hp h
theorem yw_linked (hY : ∀ v, v < 8 → br v = nI (g v)) (hg : ∀ v, g v < 256) {a b : Nat} (ha : a < 8) (hb : b < 32) {post : Int32 → Prop} (h1 : (g a).testBit b = true → post 1) (h0 : ¬ (g a).testBit b = true → post 0) : wpY_linked post (fr, nI n, yw, br, bw, bq, bl, bo, bm, be) (nI a) (nI b) := by
  refine And.intro (vp_in_nI (by omega) (by omega)) ?_
  rw [nI_clamp (by omega), hY a ha]
  exact yw_has (by have := hg a; omega) hb (fun z => ⟨rfl, h1 z⟩) (fun z => ⟨rfl, h0 z⟩)
theorem yw_size {m : Nat} (hm : m < 2 ^ 31) {post : Int32 → Prop} (h : post (nI (bs_c m 8))) : wpY_sizeOf post (fr, nI n, yw, br, bw, bq, bl, bo, bm, be) (nI m) := by
  have key : ∀ d i, i + d = 8 → wY_sizeOf_4 post (nI m) fr (nI n) yw br bw bq bl bo bm be (d + 1) (nI (bs_c m i)) (nI i) := by
    intro d
    induction d with
    | zero =>
      intro i hi
      obtain rfl : i = 8 := by omega
      exact br_t (nI_le (a := 8) (b := 8) (Nat.le_refl _) (by decide)) h
    | succ d ih =>
      intro i hi
      refine br_f (nI_ge (b := 8) (by omega) (by decide)) (yw_has hm (by omega) (fun c => ?_) (fun c => ?_))
      · refine wz_1 (nm_r (e' := nI (bs_c m (i + 1))) ?_ (nm_r (nI_1 i) (ih (i + 1) (by omega))))
        rw [nI_1, bs_c_s, if_pos c]
      · refine wz_0 (nm_r (nI_1 i) ?_)
        have := ih (i + 1) (by omega)
        rw [bs_c_s, if_neg c, Nat.add_zero] at this
        exact this
  exact Exists.intro (8 + 1) (key 8 0 (by omega))
/-- w is 1 (all joined) or 0 (none) -/
def un_B (w : Bool) : Int32 := if w = true then 1 else 0
def un_O (g : Nat → Nat) (m : Nat) (w : Bool) (u v : Nat) : Prop := m.testBit u = true → m.testBit v = true → u ≠ v → (g u).testBit v = w
theorem un_in (hn : n ≤ 8) (hY : ∀ v, v < 8 → br v = nI (g v)) (hg : ∀ v, g v < 256) {m : Nat} (hm : m < 256) (w : Bool) {post J : Int32 → Prop} {i : Nat} (hi : i < n) (hJ : (∀ v, v < n → un_O g m w i v) → J (nI (i + 1))) (h0 : (¬ ∀ v, v < n → un_O g m w i v) → post 0) :
    ∀ d j, j + d = n → (∀ v, v < j → un_O g m w i v) → wY_uniform_13 post J (nI m) (un_B w) (nI i) fr (nI n) yw br bw bq bl bo bm be (d + 1) (nI j) := by
  intro d
  induction d with
  | zero =>
    intro j hj I
    obtain rfl : j = n := by omega
    exact br_t (nI_le (Nat.le_refl _) (by omega)) (nm_r (nI_1 i) (hJ I))
  | succ d ih =>
    intro j hj I
    have more : un_O g m w i j → wY_uniform_13 post J (nI m) (un_B w) (nI i) fr (nI n) yw br bw bq bl bo bm be (d + 1) (nI (j + 1)) := by
      intro ho
      refine ih (j + 1) (by omega) (fun v hv => ?_)
      rcases Nat.lt_or_ge v j with z | z
      · exact I v z
      · obtain rfl : v = j := by omega
        exact ho
    refine br_f (nI_ge (by omega) (by omega)) (br_c (fun e => nm_r (nI_1 j) (more (fun _ _ hne => ?_))) (fun e => ?_))
    · rw [nI_eq (by omega) (by omega)] at e
      exact absurd e hne
    · have hne : i ≠ j := fun z => e (by rw [z])
      refine yw_has (by omega) (by omega) (fun c => wz_1 ?_) (fun c => wz_0 (nm_r (nI_1 j) (more (fun z => absurd z c))))
      refine yw_has (by omega) (by omega) (fun c' => wz_1 ?_) (fun c' => wz_0 (nm_r (nI_1 j) (more (fun _ z => absurd z c'))))
      refine yw_linked hY hg (by omega) (by omega) (fun l => ?_) (fun l => ?_)
      · cases w
        · exact br_f (by decide) (h0 (fun A => by have := A j (by omega) c c' hne; rw [l] at this; exact absurd this (by decide)))
        · exact br_t rfl (nm_r (nI_1 j) (more (fun _ _ _ => l)))
      · have l' : (g i).testBit j = false := by
          cases h : (g i).testBit j
          · rfl
          · exact absurd h l
        cases w
        · exact br_t rfl (nm_r (nI_1 j) (more (fun _ _ _ => l')))
        · exact br_f (by decide) (h0 (fun A => l (A j (by omega) c c' hne)))
theorem yw_uniform (hn : n ≤ 8) (hY : ∀ v, v < 8 → br v = nI (g v)) (hg : ∀ v, g v < 256) {m : Nat} (hm : m < 256) (h0m : m ≠ 0) (w : Bool) {post : Int32 → Prop} (h1 : (∀ u v, u < n → v < n → un_O g m w u v) → post 1) (h0 : (¬ ∀ u v, u < n → v < n → un_O g m w u v) → post 0) : wpY_uniform post (fr, nI n, yw, br, bw, bq, bl, bo, bm, be) (nI m) (un_B w) := by
  have key : ∀ d i, i + d = n → (∀ u v, u < i → v < n → un_O g m w u v) → wY_uniform_2 post (nI m) (un_B w) fr (nI n) yw br bw bq bl bo bm be (d + 1) (nI i) := by
    intro d
    induction d with
    | zero =>
      intro i hi I
      obtain rfl : i = n := by omega
      exact br_t (nI_le (Nat.le_refl _) (by omega)) (br_f (nI_ne0 (by omega) (by omega)) (h1 I))
    | succ d ih =>
      intro i hi I
      refine br_f (nI_ge (by omega) (by omega)) ⟨n + 1, un_in hn hY hg hm w (by omega) (fun A => ?_) (fun A => h0 (fun B => A (fun v hv => B i v (by omega) hv))) n 0 (by omega) (fun v hv => absurd hv (by omega))⟩
      refine ih (i + 1) (by omega) (fun u v hu hv => ?_)
      rcases Nat.lt_or_ge u i with z | z
      · exact I u v z hv
      · obtain rfl : u = i := by omega
        exact A v hv
  exact Exists.intro (n + 1) (key n 0 (by omega) (fun u v hu => absurd hu (by omega)))
/-- the two uses -/
theorem yw_clique (G : gr_G n g) (hY : ∀ v, v < 8 → br v = nI (g v)) {m : Nat} (hm : m < 2 ^ n) (h0m : m ≠ 0) {post : Int32 → Prop} (h1 : cl_K g m → post 1) (h0 : ¬ cl_K g m → post 0) : wpY_uniform post (fr, nI n, yw, br, bw, bq, bl, bo, bm, be) (nI m) 1 := by
  have h8 := bs_pow8 G.1
  refine yw_uniform G.1 hY (gr_256 G) (by omega) h0m true (fun A => h1 (fun u v hu hv hne => A u v (bs_lt hm hu) (bs_lt hm hv) hu hv hne)) (fun A => h0 (fun K => A (fun u v _ _ hu hv hne => K u v hu hv hne)))
theorem yw_stable (G : gr_G n g) (hY : ∀ v, v < 8 → br v = nI (g v)) {m : Nat} (hm : m < 2 ^ n) (h0m : m ≠ 0) {post : Int32 → Prop} (h1 : st_T g m → post 1) (h0 : ¬ st_T g m → post 0) : wpY_uniform post (fr, nI n, yw, br, bw, bq, bl, bo, bm, be) (nI m) 0 := by
  have h8 := bs_pow8 G.1
  refine yw_uniform G.1 hY (gr_256 G) (by omega) h0m false (fun A => h1 (fun u v hu hv he => ?_)) (fun A => h0 (fun K => A (fun u v _ _ hu hv _ => ?_)))
  · by_cases e : u = v
    · subst e
      exact G.2.2.2 u he
    · have := A u v (bs_lt hm hu) (bs_lt hm hv) hu hv e
      rw [he] at this
      exact absurd this (by decide)
  · cases h : (g u).testBit v
    · rfl
    · exact absurd h (K u v hu hv)
theorem yw_alike (G : gr_G n g) (hY : ∀ v, v < 8 → br v = nI (g v)) {m : Nat} (hm : m < 2 ^ n) {post : Int32 → Prop} (h1 : mo_A g n m → post 1) (h0 : ¬ mo_A g n m → post 0) : ∃ k, wY_isModule_16 post (nI m) fr (nI n) yw br bw bq bl bo bm be k 0 := by
  have hn := G.1
  have h8 := bs_pow8 hn
  have key : ∀ d i, i + d = n → (∀ v, v < i → ¬ m.testBit v = true → g v &&& m = 0 ∨ g v &&& m = m) → wY_isModule_16 post (nI m) fr (nI n) yw br bw bq bl bo bm be (d + 1) (nI i) := by
    intro d
    induction d with
    | zero =>
      intro i hi I
      obtain rfl : i = n := by omega
      exact br_t (nI_le (Nat.le_refl _) (by omega)) (h1 I)
    | succ d ih =>
      intro i hi I
      have more : (¬ m.testBit i = true → g i &&& m = 0 ∨ g i &&& m = m) → wY_isModule_16 post (nI m) fr (nI n) yw br bw bq bl bo bm be (d + 1) (nI (i + 1)) := by
        intro hi'
        refine ih (i + 1) (by omega) (fun v hv hmv => ?_)
        rcases Nat.lt_or_ge v i with z | z
        · exact I v z hmv
        · obtain rfl : v = i := by omega
          exact hi' hmv
      have hlt : g i &&& m < 2 ^ 31 := Nat.lt_of_le_of_lt Nat.and_le_right (by omega)
      refine br_f (nI_ge (by omega) (by omega)) ⟨vp_in_nI (by omega) (by omega), nm_r (e' := nI (g i &&& m)) (by rw [nI_clamp (by omega), hY i (by omega), nx_and]) ?_⟩
      refine yw_has (by omega) (by omega) (fun c => ?_) (fun c => ?_)
      · exact wz_1 (nm_r (nI_1 i) (more (fun z => absurd c z)))
      · refine wz_0 (br_c (fun z => nm_r (nI_1 i) (more (fun _ => Or.inl ?_))) (fun z => br_c (fun y => nm_r (nI_1 i) (more (fun _ => Or.inr ?_))) (fun y => h0 (fun A => ?_))))
        · rw [← nI_0, nI_eq hlt (by decide)] at z
          exact z
        · rw [nI_eq hlt (by omega)] at y
          exact y
        · rcases A i (by omega) c with e | e
          · exact z (by rw [e]; rfl)
          · exact y (by rw [e])
  exact ⟨n + 1, key n 0 (by omega) (fun v hv => absurd hv (by omega))⟩
theorem yw_module (G : gr_G n g) (hY : ∀ v, v < 8 → br v = nI (g v)) {m : Nat} (hm : m < 2 ^ 31) {post : Int32 → Prop} (h1 : m ≠ 0 ∧ m < 2 ^ n ∧ mo_A g n m → post 1) (h0 : ¬ (m ≠ 0 ∧ m < 2 ^ n ∧ mo_A g n m) → post 0) : wpY_isModule post (fr, nI n, yw, br, bw, bq, bl, bo, bm, be) (nI m) := by
  have h8 := bs_pow8 G.1
  unfold wpY_isModule
  dsimp only
  rcases Nat.lt_or_ge m (2 ^ n) with c | c
  · refine yw_isSt G.1 c ?_
    refine wz_1 (br_c (fun e => h0 (fun z => z.1 ?_)) (fun e => ?_))
    · rw [← nI_0, nI_eq hm (by decide)] at e
      exact e
    · have hne : m ≠ 0 := fun z => e (by rw [z]; rfl)
      exact yw_alike G hY c (fun A => h1 ⟨hne, c, A⟩) (fun A => h0 (fun z => A z.2.2))
  · refine yw_isSf G.1 (Or.inr (nI_le c hm)) ?_
    exact wz_0 (h0 (fun z => by omega))
end
