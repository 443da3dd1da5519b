/-! distance, in step; components; strong modules -/
section
variable {nw hw : Int32} {ar aw aq am ac ap : Nat → Int32} {fr yw : Int32} {br bw bq bl bo bm be : Nat → Int32} {n : Nat} {g : Nat → Nat}
theorem cm_N_lt (hg : ∀ v, g v < 2 ^ n) (m : Nat) : ∀ k, cm_N g m k < 2 ^ n
  | 0 => Nat.two_pow_pos n
  | k + 1 => by
    rw [cm_N_s]
    split
    · exact Nat.or_lt_two_pow (cm_N_lt hg m k) (hg k)
    · exact cm_N_lt hg m k
theorem yd_more (G : gr_G n g) (hY : ∀ v, v < 8 → br v = nI (g v)) {r : Nat} (hr : r < 2 ^ 31) {post : Int32 → Prop} {J : Int32 → Int32 → Prop} {x2 : Int32} {i : Nat} (h : J (nI (r ||| cm_N g r n)) (nI (i + 1))) : ∃ k, wY_distance_52 post J x2 (nI r) (nI i) fr (nI n) yw br bw bq bl bo bm be k (nI r) 0 := by
  have hn := G.1
  have key : ∀ d j, j + d = n → wY_distance_52 post J x2 (nI r) (nI i) fr (nI n) yw br bw bq bl bo bm be (d + 1) (nI (r ||| cm_N g r j)) (nI j) := by
    intro d
    induction d with
    | zero =>
      intro j hj
      obtain rfl : j = n := by omega
      exact br_t (nI_le (Nat.le_refl _) (by omega)) (nm_r (nI_1 i) h)
    | succ d ih =>
      intro j hj
      refine br_f (nI_ge (by omega) (by omega)) (yw_has hr (by omega) (fun c => ?_) (fun c => ?_))
      · refine wz_1 ⟨vp_in_nI (by omega) (by omega), nm_r (e' := nI (r ||| cm_N g r (j + 1))) ?_ (nm_r (nI_1 j) (ih (j + 1) (by omega)))⟩
        rw [nI_clamp (by omega), hY j (by omega), bs_or, cm_N_s, if_pos c, Nat.or_assoc]
      · refine wz_0 (nm_r (nI_1 j) ?_)
        have := ih (j + 1) (by omega)
        rw [cm_N_s, if_neg c] at this
        exact this
  have := key n 0 (by omega)
  rw [show cm_N g r 0 = 0 from rfl, Nat.or_zero] at this
  exact ⟨n + 1, this⟩
theorem xy_dist (G : gr_G n g) (hX : ∀ v, v < n → ar v = nI (g v)) (hY : ∀ v, v < 8 → br v = nI (g v)) {b : Nat} (hb : b < 8) : ∀ d i r, i + d = n → r < 2 ^ n → ∃ a : Int32, (∀ post : Int32 → Prop, post a → wX_distance_25 post (nI b) nw (nI n) hw ar aw aq am ac ap (d + 1) (nI r) (nI i)) ∧ (∀ post : Int32 → Prop, post a → wY_distance_25 post (nI b) fr (nI n) yw br bw bq bl bo bm be (d + 1) (nI r) (nI i)) := by
  have hn := G.1
  have h8 := bs_pow8 hn
  intro d
  induction d with
  | zero =>
    intro i r hi _
    obtain rfl : i = n := by omega
    exact ⟨-4, fun post h => br_t (nI_le (Nat.le_refl _) (by omega)) h, fun post h => br_t (nI_le (Nat.le_refl _) (by omega)) h⟩
  | succ d ih =>
    intro i r hi hr
    by_cases c : r.testBit b = true
    · refine ⟨nI i, fun post h => br_f (nI_ge (by omega) (by omega)) (xw_contains (by omega) (by omega) (fun _ => wz_1 h) (fun z => absurd c z)), fun post h => br_f (nI_ge (by omega) (by omega)) (yw_has (by omega) (by omega) (fun _ => wz_1 h) (fun z => absurd c z))⟩
    · obtain ⟨a, ax, ay⟩ := ih (i + 1) (r ||| cm_N g r n) (by omega) (Nat.or_lt_two_pow hr (cm_N_lt (gr_lt G) r n))
      refine ⟨a, fun post h => br_f (nI_ge (by omega) (by omega)) (xw_contains (by omega) (by omega) (fun z => absurd z c) (fun _ => wz_0 ?_)), fun post h => br_f (nI_ge (by omega) (by omega)) (yw_has (by omega) (by omega) (fun z => absurd z c) (fun _ => wz_0 ?_))⟩
      · exact xw_nb hn hX (by omega) (nm_r (bs_or r (cm_N g r n)) (nm_r (nI_1 i) (ax post h)))
      · exact yd_more G hY (by omega) (ay post h)
/-! components -/
theorem xw_comp (G : gr_G n g) (hX : ∀ v, v < n → ar v = nI (g v)) {s v : Nat} (hs : s < 2 ^ n) (hv : v < n) {post : Int32 → Prop} (h : post (nI (cm_C g n s v))) : wpX_componentOf post (nw, nI n, hw, ar, aw, aq, am, ac, ap) (nI v) (nI s) := by
  have hn := G.1
  have h8 := bs_pow8 hn
  have hD : ∀ r, cm_D g n s v r < 2 ^ n := by
    intro r
    induction r with
    | zero => exact Nat.pow_lt_pow_right (by decide) hv
    | succ r ih => exact Nat.or_lt_two_pow ih (Nat.lt_of_le_of_lt Nat.and_le_right hs)
  have key : ∀ d i, i + d = n → wX_componentOf_7 post (nI s) nw (nI n) hw ar aw aq am ac ap (d + 1) (nI (cm_D g n s v i)) (nI i) := by
    intro d
    induction d with
    | zero =>
      intro i hi
      obtain rfl : i = n := by omega
      exact br_t (nI_le (Nat.le_refl _) (by omega)) h
    | succ d ih =>
      intro i hi
      refine br_f (nI_ge (by omega) (by omega)) (xw_nb hn hX (by have := hD i; omega) (nm_r (e' := nI (cm_D g n s v (i + 1))) ?_ (nm_r (nI_1 i) (ih (i + 1) (by omega)))))
      rw [nx_and, bs_or, cm_D_s]
  refine nm_r (bs_1 v (by omega)) (Exists.intro (n + 1) (key n 0 (by omega)))
theorem xq_comp (G : gr_G n g) (hX : ∀ v, v < n → ar v = nI (g v)) {s : Nat} (hs : s < 2 ^ n) {post : Int32 → Prop} (h : post (nI (cm_K g n s n))) : ∃ k, wX_components_17 post (nI s) nw (nI n) hw ar aw aq am ac ap k 0 0 0 := by
  have hn := G.1
  have h8 := bs_pow8 hn
  have key : ∀ d i m, i + d = n → m < 2 ^ n → cm_seen g n s i m → wX_components_17 post (nI s) nw (nI n) hw ar aw aq am ac ap (d + 1) (nI (cm_K g n s i)) (nI m) (nI i) := by
    intro d
    induction d with
    | zero =>
      intro i m hi _ _
      obtain rfl : i = n := by omega
      exact br_t (nI_le (Nat.le_refl _) (by omega)) h
    | succ d ih =>
      intro i m hi hm hS
      refine br_f (nI_ge (by omega) (by omega)) (xw_contains (by omega) (by omega) (fun c => wz_1 ?_) (fun c => wz_0 (nm_r (nI_1 i) ?_)))
      · refine xw_contains (by omega) (by omega) (fun c' => wz_1 (nm_r (nI_1 i) ?_)) (fun c' => wz_0 ?_)
        · have := ih (i + 1) m (by omega) hm (cm_seen_old hs hS (fun _ => c'))
          rw [cm_K_f (fun z => ((cm_1_iff hS).mp z).2 c')] at this
          exact this
        · have hC : cm_C g n s i < 2 ^ n := bs_of_lt (fun x hx => bs_lt hs (cm_D_in c n x hx))
          have := ih (i + 1) (m ||| cm_C g n s i) (by omega) (Nat.or_lt_two_pow hm hC) (cm_seen_new hS c)
          rw [cm_K_t ((cm_1_iff hS).mpr ⟨c, c'⟩)] at this
          exact xw_comp G hX hs (by omega) (nm_r (bs_or _ _) (nm_r (nI_1 _) (nm_r (nI_1 i) this)))
      · have := ih (i + 1) m (by omega) hm (cm_seen_old hs hS (fun z => absurd z c))
        rw [cm_K_f (fun z => c z.1)] at this
        exact this
  exact ⟨n + 1, key n 0 0 (by omega) (Nat.two_pow_pos n) (cm_seen0 g n s)⟩
/-- the reference's count at the end -/
theorem yc_end (G : gr_G n g) {s : Nat} (hs : s < 2 ^ n) {f : Nat → Nat} (hf : ∀ u, s.testBit u = true → bl u = nI (f u)) (hL : cm_L g n s n 0 f) {post : Int32 → SY → Prop} (h : post (nI (cm_K g n s n)) (fr, nI n, yw, br, bw, bq, bl, bo, bm, be)) : ∃ k, wY_components_140 post (nI s) fr (nI n) yw br bw bq bl bo bm be k 0 0 := by
  have hn := G.1
  have h8 := bs_pow8 hn
  have key : ∀ d i, i + d = n → wY_components_140 post (nI s) fr (nI n) yw br bw bq bl bo bm be (d + 1) (nI (cm_K g n s i)) (nI i) := by
    intro d
    induction d with
    | zero =>
      intro i hi
      obtain rfl : i = n := by omega
      exact br_t (nI_le (Nat.le_refl _) (by omega)) h
    | succ d ih =>
      intro i hi
      have next := ih (i + 1) (by omega)
      refine br_f (nI_ge (by omega) (by omega)) (yw_has (by omega) (by omega) (fun c => wz_1 ⟨vp_in_nI (by omega) (by omega), ?_⟩) (fun c => wz_0 (nm_r (nI_1 i) ?_)))
      · have hfi : f i ≤ i := (hL.1 i c).2.1
        have e : bl (nI i).toNatClampNeg = nI i ↔ cm_1 g n s i := by
          rw [nI_clamp (by omega), hf i c, nI_eq (by omega) (by omega), cm_L_end hL c]
        refine br_c (fun z => ?_) (fun z => nm_r (nI_1 i) ?_)
        · rw [cm_K_t (e.mp z)] at next
          exact nm_r (nI_1 _) (nm_r (nI_1 i) next)
        · rw [cm_K_f (fun y => z (e.mpr y))] at next
          exact next
      · rw [cm_K_f (fun z => c z.1)] at next
        exact next
  exact ⟨n + 1, key n 0 (by omega)⟩
/-- one round over the couples -/
theorem yc_round (G : gr_G n g) (hY : ∀ v, v < 8 → br v = nI (g v)) {s r : Nat} (hs : s < 2 ^ n) {post : Int32 → SY → Prop} {J : Int32 → (Nat → Int32) → (Nat → Int32) → (Nat → Int32) → (Nat → Int32) → (Nat → Int32) → (Nat → Int32) → (Nat → Int32) → Prop}
    (hJ : ∀ (bl : Nat → Int32) (f : Nat → Nat), (∀ u, s.testBit u = true → bl u = nI (f u)) → cm_L g n s r 64 f → J (nI (r + 1)) br bw bq bl bo bm be) :
    ∀ d p (bl : Nat → Int32) (f : Nat → Nat), p + d = 64 → (∀ u, s.testBit u = true → bl u = nI (f u)) → cm_L g n s r p f → wY_components_45 post J (nI s) (nI r) fr (nI n) yw (d + 1) (nI p) br bw bq bl bo bm be := by
  have hn := G.1
  have h8 := bs_pow8 hn
  intro d
  induction d with
  | zero =>
    intro p bl f hp hf hL
    obtain rfl : p = 64 := by omega
    exact br_t (nI_le (a := 64) (b := 64) (Nat.le_refl _) (by decide)) (nm_r (nI_1 r) (hJ bl f hf hL))
  | succ d ih =>
    intro p bl f hp hf hL
    have hb : ∀ u x, (g u).testBit x = true → x < 8 := fun u x h => Nat.lt_of_lt_of_le (G.2.1 u x h).2 hn
    have hu : p / 8 < 8 := by omega
    have hx : p % 8 < 8 := by omega
    have skip : (s.testBit (p / 8) = true → s.testBit (p % 8) = true → (g (p / 8)).testBit (p % 8) = true → f (p / 8) ≤ f (p % 8)) → wY_components_45 post J (nI s) (nI r) fr (nI n) yw (d + 1) (nI (p + 1)) br bw bq bl bo bm be := by
      intro z
      refine ih (p + 1) bl f (by omega) hf (cm_L_skip hL (fun u x e h1 h2 h3 h4 => ?_) hb)
      have e1 : p / 8 = u := by omega
      have e2 : p % 8 = x := by omega
      rw [e1, e2] at z
      exact z h2 h3 h4
    refine br_f (nI_ge (b := 64) (by omega) (by decide)) (nm_r (e' := nI (p / 8)) ?_ (nm_r (e' := nI (p % 8)) ?_ ?_))
    · exact pk_shrN (by omega) _ 3 (by decide)
    · exact pk_andN (by omega) 3 (by decide)
    · refine yw_has (by omega) (by omega) (fun c1 => wz_1 ?_) (fun c1 => wz_0 (nm_r (nI_1 p) (skip (fun z => absurd z c1))))
      refine yw_has (by omega) (by omega) (fun c2 => wz_1 ?_) (fun c2 => wz_0 (nm_r (nI_1 p) (skip (fun _ z => absurd z c2))))
      refine yw_linked hY (gr_256 G) hu (by omega) (fun c3 => wz_1 ?_) (fun c3 => wz_0 (nm_r (nI_1 p) (skip (fun _ _ z => absurd z c3))))
      have b1 := (hL.1 _ c1).2.1
      have b2 := (hL.1 _ c2).2.1
      refine ⟨vp_in_nI hx (by decide), vp_in_nI hu (by decide), ?_⟩
      rw [nI_clamp (by omega), nI_clamp (by omega), hf _ c1, hf _ c2]
      refine br_c (fun z => nm_r (nI_1 p) (skip (fun _ _ _ => ?_))) (fun z => ⟨vp_in_nI hx (by decide), vp_in_nI hu (by decide), nm_e (nm_r (nI_1 p) ?_)⟩)
      · rw [nI_leI (by omega) (by omega)] at z
        exact z
      · rw [nI_leI (by omega) (by omega)] at z
        refine ih (p + 1) _ (fun u => if u = p / 8 then f (p % 8) else f u) (by omega) (fun u hu' => ?_) (cm_L_set (f' := fun u => if u = p / 8 then f (p % 8) else f u) hs hL (a := p / 8) (b := p % 8) (by omega) hx c1 c2 (G.2.2.1 _ _ c3) (by omega) (if_pos rfl) (fun u hne => if_neg hne) hb)
        dsimp only [upd]
        by_cases e : u = p / 8
        · rw [if_pos e, if_pos e]
        · rw [if_neg e, if_neg e]
          exact hf u hu'
theorem yq_comp (G : gr_G n g) (hY : ∀ v, v < 8 → br v = nI (g v)) {s : Nat} (hs : s < 2 ^ n) {post : Int32 → SY → Prop} (h : ∀ bl : Nat → Int32, post (nI (cm_K g n s n)) (fr, nI n, yw, br, bw, bq, bl, bo, bm, be)) : ∃ k, wY_components_12 post (nI s) fr (nI n) yw k 0 br bw bq bl bo bm be := by
  have hn := G.1
  have h8 := bs_pow8 hn
  have rounds : ∀ d r (bl : Nat → Int32) (f : Nat → Nat), r + d = n → (∀ u, s.testBit u = true → bl u = nI (f u)) → cm_L g n s r 0 f → wY_components_35 post (nI s) fr (nI n) yw (d + 1) (nI r) br bw bq bl bo bm be := by
    intro d
    induction d with
    | zero =>
      intro r bl f hr hf hL
      obtain rfl : r = n := by omega
      exact br_t (nI_le (Nat.le_refl _) (by omega)) (yc_end G hs hf hL (h bl))
    | succ d ih =>
      intro r bl f hr hf hL
      refine br_f (nI_ge (by omega) (by omega)) ⟨64 + 1, yc_round G hY hs (fun bl' f' hf' hL' => ?_) 64 0 bl f (by omega) hf hL⟩
      exact ih (r + 1) bl' f' (by omega) hf' (cm_L_round hs hn (fun u x _ _ he => G.2.2.1 u x he) hL')
  have key : ∀ d i (bl : Nat → Int32), i + d = n → (∀ u, u < i → bl u = nI u) → wY_components_12 post (nI s) fr (nI n) yw (d + 1) (nI i) br bw bq bl bo bm be := by
    intro d
    induction d with
    | zero =>
      intro i bl hi hb
      obtain rfl : i = n := by omega
      exact br_t (nI_le (Nat.le_refl _) (by omega)) ⟨i + 1, rounds i 0 bl (fun u => u) (by omega) (fun u hu => hb u (bs_lt hs hu)) (cm_L0 (fun u _ => rfl))⟩
    | succ d ih =>
      intro i bl hi hb
      refine br_f (nI_ge (by omega) (by omega)) ⟨vp_in_nI (by omega) (by omega), nm_e (nm_r (nI_1 i) (ih (i + 1) _ (by omega) (fun u hu => ?_)))⟩
      rw [nI_clamp (by omega)]
      dsimp only [upd]
      by_cases e : u = i
      · rw [if_pos e, e]
      · rw [if_neg e]
        exact hb u (by omega)
  exact ⟨n + 1, key n 0 bl (by omega) (fun u hu => absurd hu (by omega))⟩
end
