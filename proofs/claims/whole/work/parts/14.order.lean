/-! the reference's walk over the arrangements -/
theorem pm_nd {o : Nat → Nat} {n : Nat} (h : (pm_l o 0 n).Nodup) {p q : Nat} (hpq : p < q) (hq : q < n) : o p ≠ o q := by
  have e1 := pm_l_app o p 0 (n - p)
  rw [show p + (n - p) = n by omega, Nat.zero_add, show n - p = (n - 1 - p) + 1 by omega, pm_l_s] at e1
  rw [e1, List.nodup_append] at h
  have h2 := (List.nodup_cons.mp h.2.1).1
  intro e
  exact h2 (pm_l_mem.mpr ⟨q, by omega, by omega, e⟩)
theorem pm_val {o : Nat → Nat} {n k : Nat} (h : (pm_l o 0 n).Perm (pm_l (fun k => k) 0 n)) (hk : k < n) : o k < n :=
  pt_range.mp (h.mem_iff.mp (pm_l_mem.mpr ⟨k, by omega, by omega, rfl⟩))
section
variable {fr yw : Int32} {br bw bq bl bo bm be : Nat → Int32} {n : Nat} {g : Nat → Nat}
/-- what nextOrder leaves -/
def no_S (o p : Nat → Nat) (n : Nat) : Prop := (pm_l p 0 n).Perm (pm_l (fun k => k) 0 n) ∧ pm_r (pm_l p 0 n) = pm_r (pm_l o 0 n) + 1
/-- the turning round: places i+1 .. n-1 of c, in pairs from outside -/
theorem yw_turn (hn : n ≤ 8) {i : Nat} (hi : i < n) {c : Nat → Nat} {post : Int32 → SY → Prop} (h : ∀ (bo : Nat → Int32), (∀ q, q ≤ i → bo q = nI (c q)) → (∀ q, i < q → q < n → bo q = nI (c (n + i - q))) → post 1 (fr, nI n, yw, br, bw, bq, bl, bo, bm, be)) :
    ∀ m a (bo : Nat → Int32), i < a → a ≤ n → n + i < 2 * a + m → (∀ q, q ≤ i → bo q = nI (c q)) → (∀ q, i < q → q < n → bo q = if q < a ∨ n + i - a < q then nI (c (n + i - q)) else nI (c q)) → wY_nextOrder_129 post fr (nI n) yw (m + 1) (nI a) (nI (n + i - a)) br bw bq bl bo bm be := by
  intro m
  induction m with
  | zero =>
    intro a bo ha han hm h0 h1
    refine br_t (nI_le (by omega) (by omega)) (h bo h0 (fun q hq hqn => ?_))
    rw [h1 q hq hqn]
    rw [if_pos (by omega)]
  | succ m ih =>
    intro a bo ha han hm h0 h1
    rcases Nat.lt_or_ge a (n + i - a) with c1 | c1
    · refine br_f (nI_ge c1 (by omega)) ⟨vp_in_nI (by omega) (by decide), nm_e ⟨vp_in_nI (by omega) (by decide), vp_in_nI (by omega) (by decide), nm_e ⟨vp_in_nI (by omega) (by decide), nm_e (nm_r (nI_1 a) (nm_r (e' := nI (n + i - (a + 1))) ?_ ?_))⟩⟩⟩
      · rw [show n + i - a = (n + i - (a + 1)) + 1 by omega]
        exact pk_m1 _
      · rw [nI_clamp (n := a) (by omega), nI_clamp (n := n + i - a) (by omega)]
        refine ih (a + 1) _ (by omega) (by omega) (by omega) (fun q hq => ?_) (fun q hq hqn => ?_)
        · rw [pk_un (by omega), pk_un (by omega)]
          exact h0 q hq
        · by_cases e1 : q = n + i - a
          · rw [e1, pk_us, if_pos (by omega), h1 a ha (by omega), if_neg (by omega), show n + i - (n + i - a) = a by omega]
          · rw [pk_un e1]
            by_cases e2 : q = a
            · rw [e2, pk_us, if_pos (by omega), h1 (n + i - a) (by omega) (by omega), if_neg (by omega)]
            · rw [pk_un e2, h1 q hq hqn]
              by_cases z : q < a ∨ n + i - a < q
              · rw [if_pos z, if_pos (by omega)]
              · rw [if_neg z, if_neg (by omega)]
    · refine br_t (nI_le c1 (by omega)) (h bo h0 (fun q hq hqn => ?_))
      rw [h1 q hq hqn]
      by_cases z : q < a ∨ n + i - a < q
      · rw [if_pos z]
      · rw [if_neg z, show n + i - q = q by omega]
theorem yw_swap (hn : n ≤ 8) {o : Nat → Nat} (ho : ∀ k, k < n → bo k = nI (o k)) (hP : (pm_l o 0 n).Perm (pm_l (fun k => k) 0 n)) {i j : Nat} (hij : i < j) (hj : j < n) (hd : ∀ q, i + 1 ≤ q → q + 1 < n → o (q + 1) < o q) (h1 : o i < o j) (h2 : ∀ q, j < q → q < n → o q < o i) {post : Int32 → SY → Prop}
    (h : ∀ (bo : Nat → Int32) (p : Nat → Nat), (∀ k, k < n → bo k = nI (p k)) → no_S o p n → post 1 (fr, nI n, yw, br, bw, bq, bl, bo, bm, be)) : wY_nextOrder_90 post (nI i) (nI j) fr (nI n) yw br bw bq bl bo bm be := by
  refine And.intro (vp_in_nI (by omega) (by decide)) (nm_e ⟨vp_in_nI (by omega) (by decide), vp_in_nI (by omega) (by decide), nm_e ⟨vp_in_nI (by omega) (by decide), nm_e (nm_r (nI_1 i) (nm_r (e' := nI (n - 1)) ?_ ?_))⟩⟩)
  · exact pk_sub (a := n) (b := 1) (by omega)
  · rw [nI_clamp (n := i) (by omega), nI_clamp (n := j) (by omega)]
    have T := yw_turn (fr := fr) (yw := yw) (br := br) (bw := bw) (bq := bq) (bl := bl) (bm := bm) (be := be) hn (i := i) (by omega) (c := fun q => if q = j then o i else if q = i then o j else o q) (post := post) (fun bo' p0 p1 => ?_) (n + i) (i + 1) (upd (upd bo i (bo j)) j (bo i)) (by omega) (by omega) (by omega) (fun q hq => ?_) (fun q hq hqn => ?_)
    · rw [show n + i - (i + 1) = n - 1 by omega] at T
      exact ⟨_, T⟩
    · refine h bo' (fun q => if q ≤ i then (if q = j then o i else if q = i then o j else o q) else (fun q => if q = j then o i else if q = i then o j else o q) (n + i - q)) (fun q hq => ?_) ?_
      · dsimp only
        by_cases c : q ≤ i
        · rw [if_pos c]
          exact p0 q c
        · rw [if_neg c]
          exact p1 q (by omega) hq
      · have N := pm_next (o := o) (p := fun q => if q ≤ i then (if q = j then o i else if q = i then o j else o q) else (fun q => if q = j then o i else if q = i then o j else o q) (n + i - q)) hij hj hd h1 h2 (fun q hq => ?_) ?_ (fun q hq hqn => ?_)
        · exact ⟨N.1.trans hP, N.2⟩
        · dsimp only
          rw [if_pos (by omega), if_neg (by omega), if_neg (by omega)]
        · dsimp only
          rw [if_pos (Nat.le_refl _), if_neg (by omega), if_pos rfl]
        · dsimp only
          rw [if_neg (by omega)]
          by_cases c : n + i - q = j
          · rw [if_pos c, if_pos c]
          · rw [if_neg c, if_neg c, if_neg (by omega)]
    · rw [if_neg (by omega), pk_un (by omega)]
      by_cases c : q = i
      · rw [if_pos c, c, pk_us, ho j hj]
      · rw [if_neg c, pk_un c, ho q (by omega)]
    · rw [if_neg (by omega)]
      by_cases c : q = j
      · rw [if_pos c, c, pk_us, ho i (by omega)]
      · rw [if_neg c, pk_un c, if_neg (by omega), pk_un (by omega), ho q hqn]
theorem yw_next (h0 : 0 < n) (hn : n ≤ 8) {o : Nat → Nat} (ho : ∀ k, k < n → bo k = nI (o k)) (hP : (pm_l o 0 n).Perm (pm_l (fun k => k) 0 n)) {post : Int32 → SY → Prop}
    (he : pm_r (pm_l o 0 n) + 1 = pm_f n → post 0 (fr, nI n, yw, br, bw, bq, bl, bo, bm, be))
    (h : ∀ (bo : Nat → Int32) (p : Nat → Nat), (∀ k, k < n → bo k = nI (p k)) → no_S o p n → post 1 (fr, nI n, yw, br, bw, bq, bl, bo, bm, be)) : wpY_nextOrder post (fr, nI n, yw, br, bw, bq, bl, bo, bm, be) := by
  have hnd : (pm_l o 0 n).Nodup := hP.symm.nodup (pt_range_nd n)
  have hv : ∀ k, k < n → o k < 8 := fun k hk => Nat.lt_of_lt_of_le (pm_val hP hk) hn
  -- the search for j
  have second : ∀ i, i + 1 < n → (∀ q, i + 1 ≤ q → q + 1 < n → o (q + 1) < o q) → o i < o (i + 1) → ∀ m j, j = i + 1 + m → j < n → (∀ q, j < q → q < n → o q < o i) → wY_nextOrder_60 post (nI i) fr (nI n) yw br bw bq bl bo bm be (m + 1) (nI j) (nI (n - 1 - j)) := by
    intro i hi hd hlt m
    induction m with
    | zero =>
      intro j hj hjn h2
      obtain rfl : j = i + 1 := by omega
      have b1 := hv i (by omega)
      have b2 := hv (i + 1) (by omega)
      refine br_f (nI_ge (b := 8) (by omega) (by decide)) ⟨vp_in_nI (by omega) (by decide), vp_in_nI (by omega) (by decide), ?_⟩
      rw [nI_clamp (n := i) (by omega), nI_clamp (n := i + 1) (by omega), ho i (by omega), ho (i + 1) (by omega)]
      exact br_t (nI_le (by omega) (by omega)) (yw_swap hn ho hP (by omega) hjn hd hlt h2 h)
    | succ m ih =>
      intro j hj hjn h2
      have b1 := hv i (by omega)
      have b2 := hv j (by omega)
      have hne : o i ≠ o j := pm_nd hnd (by omega) hjn
      refine br_f (nI_ge (b := 8) (by omega) (by decide)) ⟨vp_in_nI (by omega) (by decide), vp_in_nI (by omega) (by decide), ?_⟩
      rw [nI_clamp (n := i) (by omega), nI_clamp (n := j) (by omega), ho i (by omega), ho j (by omega)]
      refine br_c (fun z => ?_) (fun z => ?_)
      · rw [nI_leI (by omega) (by omega)] at z
        exact yw_swap hn ho hP (by omega) hjn hd (by omega) h2 h
      · rw [nI_leI (by omega) (by omega)] at z
        refine nm_r (e' := nI (j - 1)) ?_ (nm_r (e' := nI (n - 1 - (j - 1))) ?_ (ih (j - 1) (by omega) (by omega) (fun q hq hqn => ?_)))
        · have := pk_m1 (j - 1)
          rwa [show j - 1 + 1 = j by omega] at this
        · rw [nI_1, show n - 1 - j + 1 = n - 1 - (j - 1) by omega]
        · rcases Nat.lt_or_ge j q with c | c
          · exact h2 q c hqn
          · obtain rfl : q = j := by omega
            omega
  -- the search for i, which is p - 1
  have first : ∀ p, p + 1 ≤ n → (∀ q, p ≤ q → q + 1 < n → o (q + 1) < o q) → wY_nextOrder_9 post fr (nI n) yw br bw bq bl bo bm be (p + 1) (nI p + (-1)) (nI (n - 1 - p)) := by
    intro p
    induction p with
    | zero =>
      intro hp hd
      refine br_f (nI_ge (b := 8) (by omega) (by decide)) (br_t (by decide) (br_f (by decide) (he (pm_last (fun q hq => hd q (by omega) hq)))))
    | succ p ih =>
      intro hp hd
      have b1 := hv p (by omega)
      have b2 := hv (p + 1) (by omega)
      have hne : o p ≠ o (p + 1) := pm_nd hnd (by omega) (by omega)
      rw [pk_m1]
      refine br_f (nI_ge (b := 8) (by omega) (by decide)) (br_f (nI_pos (by omega)) ⟨vp_in_nI (by omega) (by decide), by rw [nI_1]; exact vp_in_nI (by omega) (by decide), ?_⟩)
      rw [nI_1 p, nI_clamp (n := p) (by omega), nI_clamp (n := p + 1) (by omega), ho p (by omega), ho (p + 1) (by omega)]
      refine br_c (fun z => ?_) (fun z => ?_)
      · rw [nI_leI (by omega) (by omega)] at z
        refine br_t (nI_pos' (by omega)) (nm_r (e' := nI (n - 1)) (pk_sub (a := n) (b := 1) (by omega)) ?_)
        have S := second p (by omega) hd (by omega) (n - 2 - p) (n - 1) (by omega) (by omega) (fun q h1 h2 => absurd h1 (by omega))
        rw [show n - 1 - (n - 1) = 0 by omega] at S
        exact ⟨_, S⟩
      · rw [nI_leI (by omega) (by omega)] at z
        refine nm_e (nm_r (e' := nI (n - 1 - p)) ?_ (ih (by omega) (fun q h1 h2 => ?_)))
        · rw [nI_1, show n - 1 - (p + 1) + 1 = n - 1 - p by omega]
        · rcases Nat.lt_or_ge p q with c | c
          · exact hd q (by omega) h2
          · obtain rfl : q = p := by omega
            omega
  have F := first (n - 1) (by omega) (fun q h1 h2 => absurd h2 (by omega))
  rw [show n - 1 - (n - 1) = 0 by omega] at F
  refine nm_r (e' := nI (n - 1) + (-1)) ?_ ⟨_, F⟩
  rw [show n = (n - 1) + 1 by omega, Nat.add_sub_cancel]
  generalize n - 1 = z
  rw [← nI_1]
  grind
/-- the count of breaks along the order, and the least so far -/
theorem yw_breaks (G : gr_G n g) (h0 : 0 < n) (hY : ∀ v, v < 8 → br v = nI (g v)) {o : Nat → Nat} (ho : ∀ k, k < n → bo k = nI (o k)) (hv : ∀ k, k < n → o k < n) {post : Int32 → SY → Prop} {J : Int32 → Int32 → Int32 → Int32 → Int32 → Int32 → (Nat → Int32) → (Nat → Int32) → (Nat → Int32) → (Nat → Int32) → (Nat → Int32) → (Nat → Int32) → (Nat → Int32) → Prop} {r : Nat} {x3 : Int32} (hr : r ≤ 8)
    (h : wY_leastPaths_105 post J (nI (if pt_b g (pm_l o 0 n).reverse < r then pt_b g (pm_l o 0 n).reverse else r)) x3 fr (nI n) yw br bw bq bl bo bm be) : ∃ k, wY_leastPaths_53 post J (nI r) x3 fr (nI n) yw br bw bq bl bo bm be k 1 0 := by
  have hn := G.1
  have hb : ∀ k, k ≤ n → pt_b g (pm_l o 0 k).reverse ≤ 8 := by
    intro k hk
    have := pt_b_le g (pm_l o 0 k).reverse
    rw [List.length_reverse, pm_l_len] at this
    omega
  have key : ∀ d k, k + d + 1 = n → wY_leastPaths_53 post J (nI r) x3 fr (nI n) yw br bw bq bl bo bm be (d + 1) (nI (pt_b g (pm_l o 0 (k + 1)).reverse)) (nI k) := by
    intro d
    induction d with
    | zero =>
      intro k hk
      have e : k + 1 = n := by omega
      have b := hb n (Nat.le_refl _)
      refine br_t (by rw [nI_1]; exact nI_le (by omega) (by omega)) ?_
      rw [e]
      refine br_c (fun z => ?_) (fun z => ?_)
      · rw [nI_leI (by omega) (by omega)] at z
        rw [if_neg (by omega)] at h
        exact h
      · rw [nI_leI (by omega) (by omega)] at z
        rw [if_pos (by omega)] at h
        exact h
    | succ d ih =>
      intro k hk
      have b1 := hv k (by omega)
      have b2 := hv (k + 1) (by omega)
      have next := ih (k + 1) (by omega)
      rw [pt_walk] at next
      refine br_f (by rw [nI_1]; exact nI_ge (by omega) (by omega)) ⟨vp_in_nI (by omega) (by decide), by rw [nI_1]; exact vp_in_nI (by omega) (by decide), ?_⟩
      rw [nI_1 k, nI_clamp (n := k) (by omega), nI_clamp (n := k + 1) (by omega), ho k (by omega), ho (k + 1) (by omega)]
      refine yw_linked hY (gr_256 G) (by omega) (by omega) (fun l => wz_1 (nm_e ?_)) (fun l => wz_0 (nm_r (nI_1 _) (nm_e ?_)))
      · rw [if_pos l, Nat.add_zero] at next
        exact next
      · rw [if_neg l] at next
        exact next
  exact ⟨n - 1 + 1, key (n - 1) 0 (by omega)⟩
theorem yq_paths (G : gr_G n g) (hY : ∀ v, v < 8 → br v = nI (g v)) {post : Int32 → SY → Prop} (h : ∀ (bo : Nat → Int32) (f : Nat), pt_Z g n f → post (nI f) (fr, nI n, yw, br, bw, bq, bl, bo, bm, be)) : wpY_leastPaths post (fr, nI n, yw, br, bw, bq, bl, bo, bm, be) := by
  have hn := G.1
  rcases Nat.eq_zero_or_pos n with e | h0
  · refine br_t (by rw [e]; rfl) (h bo 0 (Or.inl ⟨e, rfl⟩))
  · refine br_f (nI_ne0 h0 (by omega)) ?_
    have hf8 := pm_f8 hn
    have turns : ∀ d t r (bo : Nat → Int32) (o : Nat → Nat), t + d = 40320 → pt_V g n t r → (∀ k, k < n → bo k = nI (o k)) → (pm_l o 0 n).Perm (pm_l (fun k => k) 0 n) → pm_r (pm_l o 0 n) = t → wY_leastPaths_37 post (d + 1) (nI r) 1 (nI t) fr (nI n) yw br bw bq bl bo bm be := by
      intro d
      induction d with
      | zero =>
        intro t r bo o ht hV ho hP hr
        have := pm_r_lt (pm_l o 0 n)
        rw [pm_l_len] at this
        omega
      | succ d ih =>
        intro t r bo o ht hV ho hP hr
        refine br_f (nI_ge (b := 40320) (by omega) (by decide)) (br_f (by decide) ?_)
        refine yw_breaks G h0 hY ho (fun k hk => pm_val hP hk) hV.2.1 ?_
        have hV' := pt_Vs hV hP hr rfl
        generalize (if pt_b g (pm_l o 0 n).reverse < r then pt_b g (pm_l o 0 n).reverse else r) = s at hV'
        refine yw_next h0 hn ho hP (fun el => ?_) (fun bo' p hp hS => ?_)
        · have hA := h bo s (Or.inr ⟨h0, pt_V_A h0 hn hV' (by omega)⟩)
          exact nm_e (br_c (fun _ => hA) (fun _ => br_t rfl hA))
        · exact nm_r (nI_1 t) (ih (t + 1) s bo' p (by omega) hV' hp hS.1 (by rw [hS.2, hr]))
    have fill : ∀ d i (bo : Nat → Int32), i + d = 8 → (∀ k, k < i → bo k = nI k) → wY_leastPaths_11 post fr (nI n) yw (d + 1) (nI i) br bw bq bl bo bm be := by
      intro d
      induction d with
      | zero =>
        intro i bo hi hb
        obtain rfl : i = 8 := by omega
        exact br_t (nI_le (a := 8) (b := 8) (Nat.le_refl _) (by decide)) ⟨_, turns 40320 0 8 bo (fun k => k) (by omega) (pt_V0 g n) (fun k hk => hb k (by omega)) (List.Perm.refl _) (pm_first n)⟩
      | succ d ih =>
        intro i bo hi hb
        refine br_f (nI_ge (b := 8) (by omega) (by decide)) ⟨vp_in_nI (by omega) (by decide), nm_e (nm_r (nI_1 i) (ih (i + 1) _ (by omega) (fun k hk => ?_)))⟩
        rw [nI_clamp (by omega)]
        by_cases e : k = i
        · rw [e, pk_us]
        · rw [pk_un e]
          exact hb k (by omega)
    exact ⟨8 + 1, fill 8 0 bo (by omega) (fun k hk => absurd hk (by omega))⟩
end
