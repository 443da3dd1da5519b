/-! four-paths searched for -/
section
variable {nw hw : Int32} {ar aw aq am ac ap : Nat → Int32} {fr yw : Int32} {br bw bq bl bo bm be : Nat → Int32} {n : Nat} {g : Nat → Nat}
theorem xw_four (G : gr_G n g) (hX : ∀ v, v < n → ar v = nI (g v)) {a b c d : Nat} (ha : a < n) (hb : b < n) (hc : c < n) (hd : d < n) (had : a < d) {post : Int32 → Prop} (h1 : fp_P g a b c d → post 1) (h0 : ¬ fp_P g a b c d → post 0) : wpX_isFourPath post (nw, nI n, hw, ar, aw, aq, am, ac, ap) (nI a) (nI b) (nI c) (nI d) := by
  have hn := G.1
  have hg := gr_256 G
  unfold wpX_isFourPath
  dsimp only
  refine xw_joined hn hX hg ha (by omega) (fun z1 => wz_1 ?_) (fun z => wz_0 (h0 (fun P => z P.2.1)))
  refine xw_joined hn hX hg hb (by omega) (fun z2 => wz_1 ?_) (fun z => wz_0 (h0 (fun P => z P.2.2.1)))
  refine xw_joined hn hX hg hc (by omega) (fun z3 => wz_1 ?_) (fun z => wz_0 (h0 (fun P => z P.2.2.2.1)))
  refine xw_joined hn hX hg ha (by omega) (fun z => wz_1 (h0 (fun P => P.2.2.2.2.1 z))) (fun z4 => wz_0 ?_)
  refine xw_joined hn hX hg ha (by omega) (fun z => wz_1 (h0 (fun P => P.2.2.2.2.2.1 z))) (fun z5 => wz_0 ?_)
  exact xw_joined hn hX hg hb (by omega) (fun z => wz_1 (h0 (fun P => P.2.2.2.2.2.2 z))) (fun z6 => wz_0 (h1 ⟨had, z1, z2, z3, z4, z5, z6⟩))
theorem xw_find (G : gr_G n g) (hX : ∀ v, v < n → ar v = nI (g v)) {post : Int32 → SX → Prop} (h0 : fp_0 g 4096 → post 0 (nw, nI n, hw, ar, aw, aq, am, ac, ap))
    (h1 : ∀ a b c d, b < 8 → c < 8 → d < 8 → fp_P g a b c d → fp_0 g (fp_K a b c d) → post 1 (nw, nI n, 1, ar, aw, upd (upd (upd (upd aq 0 (nI a)) 1 (nI b)) 2 (nI c)) 3 (nI d), am, ac, ap)) : wpX_keepFirstFourPath post (nw, nI n, hw, ar, aw, aq, am, ac, ap) := by
  have hn := G.1
  have hg := G.2.1
  have loopD : ∀ (J2 J12 J22 : Int32 → Prop) a b c, a < n → b < n → c < n → (fp_0 g (fp_K a b (c + 1) (a + 1)) → J22 (nI (c + 1))) → ∀ e d, d + e = n → a < d → fp_0 g (fp_K a b c d) → wX_keepFirstFourPath_35 post J2 J12 J22 (nI a) (nI b) (nI c) nw (nI n) hw ar aw aq am ac ap (e + 1) (nI d) := by
    intro J2 J12 J22 a b c ha hb hc hJ e
    induction e with
    | zero =>
      intro d hd had h
      obtain rfl : d = n := by omega
      exact br_t (nI_le (Nat.le_refl _) (by omega)) (nm_r (nI_1 c) (hJ (fp_endD hn hg ha (by omega) (by omega) h)))
    | succ e ih =>
      intro d hd had h
      refine br_f (nI_ge (by omega) (by omega)) (xw_four G hX ha hb hc (by omega) had (fun P => wz_1 ?_) (fun P => wz_0 (nm_r (nI_1 d) (ih (d + 1) (by omega) (by omega) (fp_next (by omega) (by omega) (by omega) h P)))))
      exact nm_e (nm_e (nm_e (nm_e (h1 a b c d (by omega) (by omega) (by omega) P h))))
  have loopC : ∀ (J2 J12 : Int32 → Prop) a b, a < n → b < n → (fp_0 g (fp_K a (b + 1) 0 (a + 1)) → J12 (nI (b + 1))) → ∀ e c, c + e = n → fp_0 g (fp_K a b c (a + 1)) → wX_keepFirstFourPath_22 post J2 J12 (nI a) (nI b) nw (nI n) hw ar aw aq am ac ap (e + 1) (nI c) := by
    intro J2 J12 a b ha hb hJ e
    induction e with
    | zero =>
      intro c hc h
      obtain rfl : c = n := by omega
      exact br_t (nI_le (Nat.le_refl _) (by omega)) (nm_r (nI_1 b) (hJ (fp_endC hn hg ha (by omega) h)))
    | succ e ih =>
      intro c hc h
      exact br_f (nI_ge (by omega) (by omega)) (nm_r (nI_1 a) ⟨_, loopD J2 J12 _ a b c ha hb (by omega) (fun z => ih (c + 1) (by omega) z) (n - (a + 1)) (a + 1) (by omega) (by omega) h⟩)
  have loopB : ∀ (J2 : Int32 → Prop) a, a < n → (fp_0 g (fp_K (a + 1) 0 0 (a + 2)) → J2 (nI (a + 1))) → ∀ e b, b + e = n → fp_0 g (fp_K a b 0 (a + 1)) → wX_keepFirstFourPath_12 post J2 (nI a) nw (nI n) hw ar aw aq am ac ap (e + 1) (nI b) := by
    intro J2 a ha hJ e
    induction e with
    | zero =>
      intro b hb h
      obtain rfl : b = n := by omega
      exact br_t (nI_le (Nat.le_refl _) (by omega)) (nm_r (nI_1 a) (hJ (fp_endB hn hg ha h)))
    | succ e ih =>
      intro b hb h
      exact br_f (nI_ge (by omega) (by omega)) ⟨_, loopC J2 _ a b ha (by omega) (fun z => ih (b + 1) (by omega) z) n 0 (by omega) h⟩
  have loopA : ∀ e a, a + e = n → fp_0 g (fp_K a 0 0 (a + 1)) → wX_keepFirstFourPath_2 post nw (nI n) hw ar aw aq am ac ap (e + 1) (nI a) := by
    intro e
    induction e with
    | zero =>
      intro a ha h
      obtain rfl : a = n := by omega
      exact br_t (nI_le (Nat.le_refl _) (by omega)) (h0 (fp_endA hn hg h))
    | succ e ih =>
      intro a ha h
      exact br_f (nI_ge (by omega) (by omega)) ⟨_, loopB _ a (by omega) (fun z => ih (a + 1) (by omega) z) n 0 (by omega) h⟩
  exact Exists.intro (n + 1) (loopA n 0 (by omega) fp_beg)
theorem yw_four (hY : ∀ v, v < 8 → br v = nI (g v)) (hg : ∀ v, g v < 256) (hi : ∀ v, ¬ (g v).testBit v = true) {a b c d : Nat} (ha : a < 8) (hb : b < 8) (hc : c < 8) (hd : d < 8) (had : a < d) {post : Int32 → Prop} (h1 : fp_P g a b c d → post 1) (h0 : ¬ fp_P g a b c d → post 0) : wpY_fourPath post (fr, nI n, yw, br, bw, bq, bl, bo, bm, be) (nI a) (nI b) (nI c) (nI d) := by
  have q : ∀ {x y : Nat}, x < 8 → y < 8 → nI x = nI y → x = y := fun hx hy e => (nI_eq (by omega) (by omega)).mp e
  refine br_c (fun e => h0 (fun P => (fp_ne hi P).1 (q ha hb e))) (fun _ => ?_)
  refine br_c (fun e => h0 (fun P => (fp_ne hi P).2.1 (q ha hc e))) (fun _ => ?_)
  refine br_c (fun e => h0 (fun P => (fp_ne hi P).2.2.1 (q ha hd e))) (fun _ => ?_)
  refine br_c (fun e => h0 (fun P => (fp_ne hi P).2.2.2.1 (q hb hc e))) (fun _ => ?_)
  refine br_c (fun e => h0 (fun P => (fp_ne hi P).2.2.2.2.1 (q hb hd e))) (fun _ => ?_)
  refine br_c (fun e => h0 (fun P => (fp_ne hi P).2.2.2.2.2 (q hc hd e))) (fun _ => ?_)
  refine yw_linked hY hg ha (by omega) (fun z1 => wz_1 ?_) (fun z => wz_0 (h0 (fun P => z P.2.1)))
  refine yw_linked hY hg hb (by omega) (fun z2 => wz_1 ?_) (fun z => wz_0 (h0 (fun P => z P.2.2.1)))
  refine yw_linked hY hg hc (by omega) (fun z3 => wz_1 ?_) (fun z => wz_0 (h0 (fun P => z P.2.2.2.1)))
  refine yw_linked hY hg ha (by omega) (fun z => wz_1 (h0 (fun P => P.2.2.2.2.1 z))) (fun z4 => wz_0 ?_)
  refine yw_linked hY hg ha (by omega) (fun z => wz_1 (h0 (fun P => P.2.2.2.2.2.1 z))) (fun z5 => wz_0 ?_)
  exact yw_linked hY hg hb (by omega) (fun z => wz_1 (h0 (fun P => P.2.2.2.2.2.2 z))) (fun z6 => wz_0 (h1 ⟨had, z1, z2, z3, z4, z5, z6⟩))
theorem yw_find (hY : ∀ v, v < 8 → br v = nI (g v)) (hg : ∀ v, g v < 256) (hi : ∀ v, ¬ (g v).testBit v = true) {post : Int32 → SY → Prop} (h0 : fp_0 g 4096 → post 0 (fr, nI n, yw, br, bw, bq, bl, bo, bm, be))
    (h1 : ∀ a b c d, b < 8 → c < 8 → d < 8 → fp_P g a b c d → fp_0 g (fp_K a b c d) → post 1 (fr, nI n, yw, br, bw, upd (upd (upd (upd bq 0 (nI a)) 1 (nI b)) 2 (nI c)) 3 (nI d), bl, bo, bm, be)) : wpY_findFourPath post (fr, nI n, yw, br, bw, bq, bl, bo, bm, be) := by
  have key : ∀ e k, k + e = 4096 → fp_0 g k → wY_findFourPath_2 post fr (nI n) yw br bw bq bl bo bm be (e + 1) (nI k) := by
    intro e
    induction e with
    | zero =>
      intro k hk h
      obtain rfl : k = 4096 := by omega
      exact br_t (nI_le (a := 4096) (b := 4096) (Nat.le_refl _) (by decide)) (h0 h)
    | succ e ih =>
      intro k hk h
      have skip : ¬ fp_P g (k / 512) (k / 64 % 8) (k / 8 % 8) (k % 8) → wY_findFourPath_2 post fr (nI n) yw br bw bq bl bo bm be (e + 1) (nI (k + 1)) := fun z => ih (k + 1) (by omega) (fp_code h z)
      refine br_f (nI_ge (b := 4096) (by omega) (by decide)) (nm_r (e' := nI (k / 512)) (pk_shrN (by omega) _ 9 (by decide)) (nm_r (e' := nI (k / 64 % 8)) ?_ (nm_r (e' := nI (k / 8 % 8)) ?_ (nm_r (e' := nI (k % 8)) (pk_andN (by omega) 3 (by decide)) ?_))))
      · rw [pk_shrN (by omega) _ 6 (by decide)]
        exact pk_andN (by omega) 3 (by decide)
      · rw [pk_shrN (by omega) _ 3 (by decide)]
        exact pk_andN (by omega) 3 (by decide)
      · refine br_c (fun z => nm_r (nI_1 k) (skip (fun P => ?_))) (fun z => ?_)
        · rw [nI_leI (by omega) (by omega)] at z
          have := P.1
          omega
        · rw [nI_leI (by omega) (by omega)] at z
          refine yw_four hY hg hi (by omega) (by omega) (by omega) (by omega) (by omega) (fun P => wz_1 ?_) (fun P => wz_0 (nm_r (nI_1 k) (skip P)))
          have ek : fp_K (k / 512) (k / 64 % 8) (k / 8 % 8) (k % 8) = k := by
            unfold fp_K
            omega
          exact nm_e (nm_e (nm_e (nm_e (h1 _ _ _ _ (by omega) (by omega) (by omega) P (by rw [ek]; exact h)))))
  exact Exists.intro (4096 + 1) (key 4096 0 (by omega) (fp_00 g))
end
/-! a vertex more -/
def ad_g (g : Nat → Nat) (n m : Nat) (v : Nat) : Nat := if v = n then m else if m.testBit v = true then g v ||| 2 ^ n else g v
theorem ad_t {g : Nat → Nat} {n m : Nat} (G : gr_G n g) (hm : m < 2 ^ n) (v x : Nat) : (ad_g g n m v).testBit x = true ↔ (v = n ∧ m.testBit x = true) ∨ (x = n ∧ m.testBit v = true) ∨ (g v).testBit x = true := by
  unfold ad_g
  by_cases e : v = n
  · subst e
    rw [if_pos rfl]
    constructor
    · intro h
      exact Or.inl ⟨rfl, h⟩
    · rintro (h | ⟨_, h⟩ | h)
      · exact h.2
      · exact absurd (bs_lt hm h) (by omega)
      · exact absurd (G.2.1 v x h).1 (by omega)
  · rw [if_neg e]
    by_cases c : m.testBit v = true
    · rw [if_pos c, Nat.testBit_or, Nat.testBit_two_pow, Bool.or_eq_true]
      constructor
      · rintro (h | h)
        · exact Or.inr (Or.inr h)
        · exact Or.inr (Or.inl ⟨(of_decide_eq_true h).symm, c⟩)
      · rintro (h | ⟨h, _⟩ | h)
        · exact absurd h.1 e
        · exact Or.inr (decide_eq_true h.symm)
        · exact Or.inl h
    · rw [if_neg c]
      constructor
      · intro h
        exact Or.inr (Or.inr h)
      · rintro (h | ⟨_, h⟩ | h)
        · exact absurd h.1 e
        · exact absurd h c
        · exact h
theorem ad_G {g : Nat → Nat} {n m : Nat} (G : gr_G n g) (hn : n < 8) (hm : m < 2 ^ n) : gr_G (n + 1) (ad_g g n m) := by
  refine ⟨by omega, fun v x h => ?_, fun v x h => ?_, fun v h => ?_⟩
  · rcases (ad_t G hm v x).mp h with ⟨a, b⟩ | ⟨a, b⟩ | a
    · have := bs_lt hm b
      omega
    · have := bs_lt hm b
      omega
    · have := G.2.1 v x a
      omega
  · rw [ad_t G hm] at h ⊢
    rcases h with ⟨a, b⟩ | ⟨a, b⟩ | a
    · exact Or.inr (Or.inl ⟨a, b⟩)
    · exact Or.inl ⟨a, b⟩
    · exact Or.inr (Or.inr (G.2.2.1 v x a))
  · rcases (ad_t G hm v v).mp h with ⟨a, b⟩ | ⟨a, b⟩ | a
    · have := bs_lt hm b
      omega
    · have := bs_lt hm b
      omega
    · exact G.2.2.2 v a
/-- taken away again -/
theorem ad_back {g : Nat → Nat} {n m : Nat} (G : gr_G n g) (hm : m < 2 ^ n) {v : Nat} (hv : v ≠ n) : bs_d (ad_g g n m v) (2 ^ n) = g v := by
  refine Nat.eq_of_testBit_eq (fun x => ?_)
  rw [bs_d_t, Nat.testBit_two_pow]
  cases h : (g v).testBit x
  · cases h' : (ad_g g n m v).testBit x
    · rfl
    · rcases (ad_t G hm v x).mp h' with ⟨a, b⟩ | ⟨a, b⟩ | a
      · exact absurd a hv
      · rw [decide_eq_true a.symm]; rfl
      · rw [h] at a
        exact absurd a (by decide)
  · have h' := (ad_t G hm v x).mpr (Or.inr (Or.inr h))
    have hx := (G.2.1 v x h).2
    rw [h', decide_eq_false (by omega)]
    rfl
section
variable {nw hw : Int32} {ar aw aq am ac ap : Nat → Int32} {fr yw : Int32} {br bw bq bl bo bm be : Nat → Int32} {n : Nat} {g : Nat → Nat}
theorem xw_join (G : gr_G n g) (hX : ∀ v, v < n → ar v = nI (g v)) (hn : n < 8) {m : Nat} (hm : m < 2 ^ n) {post : SX → Prop} (h : ∀ ar : Nat → Int32, (∀ v, v < n + 1 → ar v = nI (ad_g g n m v)) → post (nw, nI (n + 1), hw, ar, upd aw n nw, aq, am, ac, ap)) : wpX_joinLast post (nw, nI n, hw, ar, aw, aq, am, ac, ap) (nI m) := by
  have h8 := bs_pow8 G.1
  have key : ∀ d i (ar : Nat → Int32), i + d = n → (∀ v, v < n → ar v = nI (if v < i then ad_g g n m v else g v)) → wX_joinLast_7 post (nI m) (nI n) nw (nI n) hw (d + 1) (nI i) ar aw aq am ac ap := by
    intro d
    induction d with
    | zero =>
      intro i ar hi hA
      obtain rfl : i = n := by omega
      refine br_t (nI_le (Nat.le_refl _) (by omega)) ⟨vp_in_nI (by omega) (by decide), nm_e ⟨vp_in_nI (by omega) (by decide), nm_e (nm_r (nI_1 i) ?_)⟩⟩
      rw [nI_clamp (by omega)]
      refine h _ (fun v hv => ?_)
      by_cases e : v = i
      · rw [e, pk_us]
        unfold ad_g
        rw [if_pos rfl]
      · rw [pk_un e, hA v (by omega), if_pos (by omega)]
    | succ d ih =>
      intro i ar hi hA
      refine br_f (nI_ge (by omega) (by omega)) (xw_contains (by omega) (by omega) (fun c => wz_1 ⟨vp_in_nI (by omega) (by decide), vp_in_nI (by omega) (by decide), nm_e (nm_r (nI_1 i) (ih (i + 1) _ (by omega) (fun v hv => ?_)))⟩) (fun c => wz_0 (nm_r (nI_1 i) (ih (i + 1) ar (by omega) (fun v hv => ?_)))))
      · rw [nI_clamp (by omega)]
        by_cases e : v = i
        · rw [e, pk_us, hA i (by omega), if_neg (by omega), if_pos (by omega), bs_1 n (by omega), bs_or]
          unfold ad_g
          rw [if_neg (by omega), if_pos c]
        · rw [pk_un e, hA v hv]
          by_cases z : v < i
          · rw [if_pos z, if_pos (by omega)]
          · rw [if_neg z, if_neg (by omega)]
      · rw [hA v hv]
        by_cases e : v = i
        · rw [e, if_neg (by omega), if_pos (by omega)]
          unfold ad_g
          rw [if_neg (by omega), if_neg c]
        · by_cases z : v < i
          · rw [if_pos z, if_pos (by omega)]
          · rw [if_neg z, if_neg (by omega)]
  exact Exists.intro (n + 1) (key n 0 ar (by omega) (fun v hv => by rw [if_neg (by omega)]; exact hX v hv))
theorem xw_unjoin (G : gr_G n g) (hn : n < 8) {m : Nat} (hm : m < 2 ^ n) (hX : ∀ v, v < n + 1 → ar v = nI (ad_g g n m v)) {post : SX → Prop} (h : ∀ ar : Nat → Int32, (∀ v, v < n → ar v = nI (g v)) → post (nw, nI n, hw, ar, aw, aq, am, ac, ap)) : wpX_unjoinLast post (nw, nI (n + 1), hw, ar, aw, aq, am, ac, ap) := by
  have key : ∀ d i (ar : Nat → Int32), i + d = n → (∀ v, v < n → ar v = nI (if v < i then g v else ad_g g n m v)) → wX_unjoinLast_12 post nw (nI n) hw (d + 1) (nI i) ar aw aq am ac ap := by
    intro d
    induction d with
    | zero =>
      intro i ar hi hA
      obtain rfl : i = n := by omega
      refine br_t (nI_le (Nat.le_refl _) (by omega)) (h ar (fun v hv => ?_))
      rw [hA v hv, if_pos hv]
    | succ d ih =>
      intro i ar hi hA
      refine br_f (nI_ge (by omega) (by omega)) ⟨vp_in_nI (by omega) (by decide), vp_in_nI (by omega) (by decide), nm_e (nm_r (nI_1 i) (ih (i + 1) _ (by omega) (fun v hv => ?_)))⟩
      rw [nI_clamp (by omega)]
      by_cases e : v = i
      · rw [e, pk_us, hA i (by omega), if_neg (by omega), if_pos (by omega), bs_1 n (by omega), bs_diff, ad_back G hm (by omega)]
      · rw [pk_un e, hA v hv]
        by_cases z : v < i
        · rw [if_pos z, if_pos (by omega)]
        · rw [if_neg z, if_neg (by omega)]
  exact nm_r (e' := nI n) (nI_pred n) (Exists.intro (n + 1) (key n 0 ar (by omega) (fun v hv => by rw [if_neg (by omega)]; exact hX v (by omega))))
/-- the reference's addVertex, behind its tests -/
theorem yw_add (G : gr_G n g) (hY : ∀ v, v < 8 → br v = nI (g v)) (hn : n < 8) {m : Nat} (hm : m < 2 ^ n) {post : Int32 → SY → Prop}
    (h0 : ∀ br : Nat → Int32, fp_0 (ad_g g n m) 4096 → (∀ v, v < 8 → br v = nI (ad_g g n m v)) → post (nI (n + 1)) (fr, nI (n + 1), 0, br, upd bw n fr, bq, bl, bo, bm, be))
    (h1 : ∀ (br : Nat → Int32) (a b c d : Nat), b < 8 → c < 8 → d < 8 → fp_P (ad_g g n m) a b c d → fp_0 (ad_g g n m) (fp_K a b c d) → (∀ v, v < 8 → br v = nI (g v)) → post (-3) (fr, nI n, 1, br, bw, upd (upd (upd (upd bq 0 (nI a)) 1 (nI b)) 2 (nI c)) 3 (nI d), bl, bo, bm, be)) :
    ∃ k, wY_addVertex_34 post (nI m) fr (nI n) yw k 0 (upd br (nI n).toNatClampNeg (nI m)) bw bq bl bo bm be := by
  have h8 := bs_pow8 G.1
  have GA := ad_G G hn hm
  have back : ∀ (bq : Nat → Int32) (yw : Int32), (∀ br : Nat → Int32, (∀ v, v < 8 → br v = nI (g v)) → post (-3) (fr, nI n, yw, br, bw, bq, bl, bo, bm, be)) → ∀ d i (br : Nat → Int32), i + d = n → (∀ v, v < 8 → br v = nI (if v < i ∨ n ≤ v then g v else ad_g g n m v)) → wY_addVertex_103 post fr (nI n) yw (d + 1) (nI i) br bw bq bl bo bm be := by
    intro bq yw hp d
    induction d with
    | zero =>
      intro i br hi hA
      obtain rfl : i = n := by omega
      refine br_t (nI_le (Nat.le_refl _) (by omega)) (hp br (fun v hv => ?_))
      rw [hA v hv, if_pos (by omega)]
    | succ d ih =>
      intro i br hi hA
      refine br_f (nI_ge (by omega) (by omega)) ⟨vp_in_nI (by omega) (by decide), vp_in_nI (by omega) (by decide), nm_e (nm_r (nI_1 i) (ih (i + 1) _ (by omega) (fun v hv => ?_)))⟩
      rw [nI_clamp (by omega)]
      by_cases e : v = i
      · rw [e, pk_us, hA i (by omega), if_neg (by omega), if_pos (by omega), bs_1 n (by omega), bs_diff, ad_back G hm (by omega)]
      · rw [pk_un e, hA v hv]
        by_cases z : v < i ∨ n ≤ v
        · rw [if_pos z, if_pos (by omega)]
        · rw [if_neg z, if_neg (by omega)]
  have key : ∀ d i (br : Nat → Int32), i + d = n → (∀ v, v < 8 → br v = nI (if v < i ∨ n ≤ v then ad_g g n m v else g v)) → wY_addVertex_34 post (nI m) fr (nI n) yw (d + 1) (nI i) br bw bq bl bo bm be := by
    intro d
    induction d with
    | zero =>
      intro i br hi hA
      obtain rfl : i = n := by omega
      have hA' : ∀ v, v < 8 → br v = nI (ad_g g i m v) := fun v hv => by rw [hA v hv, if_pos (by omega)]
      refine br_t (nI_le (Nat.le_refl _) (by omega)) (yw_find hA' (gr_256 GA) GA.2.2.2 (fun N => ?_) (fun a b c d hb hc hd P N => ?_))
      · refine ⟨rfl, rfl, wz_0 ⟨vp_in_nI (by omega) (by decide), nm_e (nm_r (nI_1 i) ?_)⟩⟩
        rw [nI_clamp (by omega)]
        exact h0 br N hA'
      · refine ⟨rfl, rfl, wz_1 ⟨vp_in_nI (by omega) (by decide), nm_e ⟨i + 1, back _ 1 (fun br' hb' => h1 br' a b c d hb hc hd P N hb') i 0 _ (by omega) (fun v hv => ?_)⟩⟩⟩
        rw [nI_clamp (by omega)]
        by_cases e : v = i
        · rw [e, pk_us, if_pos (by omega), gr_out G (Nat.le_refl _)]
          rfl
        · rw [pk_un e, hA' v hv]
          by_cases z : v < 0 ∨ i ≤ v
          · rw [if_pos z]
            unfold ad_g
            rw [if_neg e, if_neg (fun y => by have := bs_lt hm y; omega)]
          · rw [if_neg z]
    | succ d ih =>
      intro i br hi hA
      refine br_f (nI_ge (by omega) (by omega)) (yw_has (by omega) (by omega) (fun c => wz_1 ⟨vp_in_nI (by omega) (by decide), vp_in_nI (by omega) (by decide), nm_e (nm_r (nI_1 i) (ih (i + 1) _ (by omega) (fun v hv => ?_)))⟩) (fun c => wz_0 (nm_r (nI_1 i) (ih (i + 1) br (by omega) (fun v hv => ?_)))))
      · rw [nI_clamp (by omega)]
        by_cases e : v = i
        · rw [e, pk_us, hA i (by omega), if_neg (by omega), if_pos (by omega), bs_1 n (by omega), bs_or]
          unfold ad_g
          rw [if_neg (by omega), if_pos c]
        · rw [pk_un e, hA v hv]
          by_cases z : v < i ∨ n ≤ v
          · rw [if_pos z, if_pos (by omega)]
          · rw [if_neg z, if_neg (by omega)]
      · rw [hA v hv]
        by_cases e : v = i
        · rw [e, if_neg (by omega), if_pos (by omega)]
          unfold ad_g
          rw [if_neg (by omega), if_neg c]
        · by_cases z : v < i ∨ n ≤ v
          · rw [if_pos z, if_pos (by omega)]
          · rw [if_neg z, if_neg (by omega)]
  refine ⟨n + 1, key n 0 _ (by omega) (fun v hv => ?_)⟩
  rw [nI_clamp (by omega)]
  by_cases e : v = n
  · rw [e, pk_us, if_pos (by omega)]
    unfold ad_g
    rw [if_pos rfl]
  · rw [pk_un e, hY v hv]
    by_cases z : v < 0 ∨ n ≤ v
    · rw [if_pos z]
      unfold ad_g
      rw [if_neg e, if_neg (fun y => by have := bs_lt hm y; omega)]
    · rw [if_neg z]
end
