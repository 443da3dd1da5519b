/-! colours: both tables are right on the parts of s -/
def co_T (g : Nat → Nat) (s q : Nat) : Prop := bs_s q s ∧ st_T g q
def co_G (T : Nat → Prop) (s : Nat) (C : Nat → Nat) (i : Nat) : Prop := C 0 = 0 ∧ ∀ q, q ≠ 0 → q < i → bs_s q s → co_R T C q ∧ C q ≤ bs_c q 8
theorem co_G_skip {T : Nat → Prop} {s : Nat} {C : Nat → Nat} {p : Nat} (h : co_G T s C p) (hp : ¬ bs_s p s) : co_G T s C (p + 1) := by
  refine ⟨h.1, fun q h0 h1 h2 => ?_⟩
  rcases Nat.lt_or_ge q p with c | c
  · exact h.2 q h0 c h2
  · obtain rfl : q = p := by omega
    exact absurd h2 hp
theorem co_G_put {T : Nat → Prop} {s : Nat} {C : Nat → Nat} {p f : Nat} (h0 : p ≠ 0) (h : co_G T s C p) (hb : f ≤ bs_c p 8) (h1 : ∃ q, q ≠ 0 ∧ bs_s q p ∧ T q ∧ f = 1 + C (bs_d p q)) (h2 : ∀ q, q ≠ 0 → bs_s q p → T q → f ≤ 1 + C (bs_d p q)) : co_G T s (fun q => if q = p then f else C q) (p + 1) := by
  have low : ∀ q, q < p → (fun q => if q = p then f else C q) q = C q := fun q hq => if_neg (by omega)
  have atp : (fun q => if q = p then f else C q) p = f := if_pos rfl
  refine ⟨(low 0 (by omega)).trans h.1, fun q q0 q1 q2 => ?_⟩
  rcases Nat.lt_or_ge q p with c | c
  · obtain ⟨⟨⟨r, r0, r1, r2, r3⟩, rm⟩, hb'⟩ := h.2 q q0 c q2
    refine ⟨⟨⟨r, r0, r1, r2, ?_⟩, fun r r0 r1 r2 => ?_⟩, ?_⟩
    · rw [low q c, low (bs_d q r) (by have := bs_d_le q r; omega)]
      exact r3
    · rw [low q c, low (bs_d q r) (by have := bs_d_le q r; omega)]
      exact rm r r0 r1 r2
    · rw [low q c]
      exact hb'
  · obtain rfl : q = p := by omega
    refine ⟨⟨?_, fun r r0 r1 r2 => ?_⟩, ?_⟩
    · obtain ⟨r, r0, r1, r2, r3⟩ := h1
      refine ⟨r, r0, r1, r2, ?_⟩
      rw [atp, low (bs_d q r) (co_d_lt r0 r1)]
      exact r3
    · rw [atp, low (bs_d q r) (co_d_lt r0 r1)]
      exact h2 r r0 r1 r2
    · rw [atp]
      exact hb
/-- the search's end, put into the table -/
theorem co_G_end {g : Nat → Nat} {n s : Nat} {C : Nat → Nat} {B p f : Nat} (G : gr_G n g) (hB : 8 ≤ B) (hs : s < 2 ^ n) (h0 : p ≠ 0) (hps : bs_s p s) (h : co_G (co_T g s) s C p) (hI : co_I (co_T g s) C B p (p + 1) f) : co_G (co_T g s) s (fun q => if q = p then f else C q) (p + 1) := by
  have hp : p < 2 ^ 8 := by
    have := bs_s_le hps
    have := bs_pow8 G.1
    omega
  have hT : ∀ i, p.testBit i = true → co_T g s (2 ^ i) := by
    intro i hi
    refine ⟨fun j hj => ?_, fun u v hu hv he => ?_⟩
    · rw [Nat.testBit_two_pow] at hj
      have e : i = j := of_decide_eq_true hj
      rw [← e]
      exact hps i hi
    · rw [Nat.testBit_two_pow] at hu hv
      have e1 : i = u := of_decide_eq_true hu
      have e2 : i = v := of_decide_eq_true hv
      rw [← e1, ← e2] at he
      exact G.2.2.2 i he
  have hC : ∀ q, bs_s q p → q ≠ p → C q ≤ bs_c q 8 := by
    intro q q1 q2
    by_cases e : q = 0
    · rw [e, h.1]
      exact Nat.zero_le _
    · exact (h.2 q e (by have := bs_s_le q1; omega) (co_s_tr q1 hps)).2
  obtain ⟨a1, a2, a3⟩ := co_I_end hB hp h0 hT hC hI
  exact co_G_put h0 h a1 a2 a3
theorem co_same {T : Nat → Prop} {s : Nat} {C D : Nat → Nat} {i j : Nat} (hC : co_G T s C i) (hD : co_G T s D j) (hi : s < i) (hj : s < j) : C s = D s :=
  co_uniq (s := s) hC.1 hD.1 (fun p h0 hp => (hC.2 p h0 (by have := bs_s_le hp; omega) hp).1) (fun p h0 hp => (hD.2 p h0 (by have := bs_s_le hp; omega) hp).1) (s + 1) s (by omega) (fun _ h => h)
section
variable {nw hw : Int32} {ar aw aq am ac ap : Nat → Int32} {fr yw : Int32} {br bw bq bl bo bm be : Nat → Int32} {n : Nat} {g : Nat → Nat}
theorem xw_few (hn : n ≤ 8) (hX : ∀ v, v < n → ar v = nI (g v)) {s p : Nat} (hp : p < 2 ^ n) (hps : bs_s p s) {C : Nat → Nat} (hC : ∀ q, bs_s q p → q ≠ p → ac q = nI (C q) ∧ C q ≤ 8) {post : Int32 → Prop} (h : ∀ f, co_I (co_T g s) C 8 p (p + 1) f → post (nI f)) : wpX_fewestColours post (nw, nI n, hw, ar, aw, aq, am, ac, ap) (nI p) := by
  have h8 := bs_pow8 hn
  have key : ∀ d i f, 0 < i → i + d = p + 1 → co_I (co_T g s) C 8 p i f → wX_fewestColours_5 post (nI p) nw (nI n) hw ar aw aq am ac ap (d + 1) (nI f) (nI i) := by
    intro d
    induction d with
    | zero =>
      intro i f h0 hi I
      obtain rfl : i = p + 1 := by omega
      exact br_t (nI_lt (by omega) (by omega)) (h f I)
    | succ d ih =>
      intro i f h0 hi I
      have hf : f ≤ 8 := I.2.1
      refine br_f (nI_nlt (by omega) (by omega)) (xw_within (by omega) (fun c => wz_1 ?_) (fun c => wz_0 (nm_r (nI_1 i) (ih (i + 1) f (by omega) (by omega) (co_I_skip I (fun z => absurd z c))))))
      refine xw_stable hn hX (by omega) (fun K => wz_1 ?_) (fun K => wz_0 (nm_r (nI_1 i) (ih (i + 1) f (by omega) (by omega) (co_I_skip I (fun _ z => absurd z.2 K)))))
      have hd := co_d_lt (p := p) (q := i) (by omega) c
      obtain ⟨e1, e2⟩ := hC (bs_d p i) (co_d_s p i) (by omega)
      rw [bs_diff]
      refine ⟨vp_in_nI (by omega) (by decide), nm_r (e' := nI (1 + C (bs_d p i))) ?_ ?_⟩
      · rw [nI_clamp (by omega), e1]
        exact nI_add 1 _
      · refine br_c (fun z => nm_r (nI_1 i) ?_) (fun z => nm_r (nI_1 i) ?_)
        · rw [nI_leI (by omega) (by omega)] at z
          exact ih (i + 1) f (by omega) (by omega) (co_I_skip I (fun _ _ => z))
        · rw [nI_leI (by omega) (by omega)] at z
          exact ih (i + 1) _ (by omega) (by omega) (co_I_take I (by omega) c ⟨co_s_tr c hps, K⟩ (by omega))
  exact Exists.intro (p + 1) (key p 1 8 (by omega) (by omega) (co_I0 (co_T g s) C 8 p))
theorem xq_colours (G : gr_G n g) (hX : ∀ v, v < n → ar v = nI (g v)) {s : Nat} (hs : s < 2 ^ n) {post : Int32 → SX → Prop} (h : ∀ (C : Nat → Nat) (ac : Nat → Int32), co_G (co_T g s) s C (s + 1) → post (nI (C s)) (nw, nI n, hw, ar, aw, aq, am, ac, ap)) (h00 : ac 0 = 0) : ∃ k, wX_colours_19 post (nI s) nw (nI n) hw k 1 ar aw aq am ac ap := by
  have hn := G.1
  have h8 := bs_pow8 hn
  have key : ∀ d i (C : Nat → Nat) (ac : Nat → Int32), 0 < i → i + d = s + 1 → (∀ q, q < i → bs_s q s → ac q = nI (C q)) → co_G (co_T g s) s C i → wX_colours_19 post (nI s) nw (nI n) hw (d + 1) (nI i) ar aw aq am ac ap := by
    intro d
    induction d with
    | zero =>
      intro i C ac h0 hi hc I
      obtain rfl : i = s + 1 := by omega
      refine br_t (nI_lt (by omega) (by omega)) ⟨vp_in_nI (by omega) (by decide), ?_⟩
      rw [nI_clamp (by omega), hc s (by omega) (fun _ z => z)]
      exact h C ac I
    | succ d ih =>
      intro i C ac h0 hi hc I
      refine br_f (nI_nlt (by omega) (by omega)) (xw_within (by omega) (fun c => wz_1 ?_) (fun c => wz_0 (nm_r (nI_1 i) (ih (i + 1) C ac (by omega) (by omega) (fun q hq hqs => ?_) (co_G_skip I c)))))
      · refine xw_few (s := s) hn hX (by omega) c (C := C) (fun q q1 q2 => ?_) (fun f If => ?_)
        · have hq : q < i := by have := bs_s_le q1; omega
          refine ⟨hc q hq (co_s_tr q1 c), ?_⟩
          by_cases e : q = 0
          · rw [e, I.1]
            exact Nat.zero_le _
          · exact Nat.le_trans (I.2 q e hq (co_s_tr q1 c)).2 (bs_c_le q 8)
        · refine ⟨vp_in_nI (by omega) (by decide), nm_e (nm_r (nI_1 i) (ih (i + 1) (fun q => if q = i then f else C q) _ (by omega) (by omega) (fun q hq hqs => ?_) (co_G_end G (Nat.le_refl 8) hs (by omega) c I If)))⟩
          rw [nI_clamp (by omega)]
          dsimp only [upd]
          by_cases e : q = i
          · rw [if_pos e, if_pos e]
          · rw [if_neg e, if_neg e]
            exact hc q (by omega) hqs
      · rcases Nat.lt_or_ge q i with z | z
        · exact hc q z hqs
        · obtain rfl : q = i := by omega
          exact absurd hqs c
  refine ⟨s + 1, key s 1 (fun _ => 0) ac (by omega) (by omega) (fun q hq _ => ?_) ⟨rfl, fun q q0 q1 => absurd q1 (by omega)⟩⟩
  obtain rfl : q = 0 := by omega
  exact h00
/-- the reference's inner search -/
theorem yw_few (G : gr_G n g) {s p : Nat} (hp : p < 256) (h0p : p ≠ 0) {D : Nat → Nat} (hD : ∀ q, D q ≤ 100) (hM : ∀ q, 0 < q → q < 256 → (bm q = 0 ↔ ¬ co_T g s q)) {post : Int32 → SY → Prop} {J : Int32 → (Nat → Int32) → (Nat → Int32) → (Nat → Int32) → (Nat → Int32) → (Nat → Int32) → (Nat → Int32) → (Nat → Int32) → Prop} {x1 : Int32}
    (hJ : ∀ (be : Nat → Int32) (f : Nat), co_I (co_T g s) D 100 p (p + 1) f → (∀ q, q < 256 → be q = nI (if q = p then f else D q)) → J (nI (p + 1)) br bw bq bl bo bm be) :
    ∀ d i (f : Nat) (be : Nat → Int32), 0 < i → i + d = p + 1 → co_I (co_T g s) D 100 p i f → (∀ q, q < 256 → be q = nI (if q = p then f else D q)) → wY_colours_96 post J x1 (nI p) fr (nI n) yw (d + 1) (nI i) br bw bq bl bo bm be := by
  intro d
  induction d with
  | zero =>
    intro i f be h0 hi I hb
    obtain rfl : i = p + 1 := by omega
    exact br_t (nI_lt (by omega) (by omega)) (nm_r (nI_1 p) (hJ be f I hb))
  | succ d ih =>
    intro i f be h0 hi I hb
    have hf : f ≤ 100 := I.2.1
    have e := hM i h0 (by omega)
    refine br_f (nI_nlt (by omega) (by omega)) ⟨vp_in_nI (by omega) (by decide), ?_⟩
    rw [nI_clamp (by omega)]
    refine br_c (fun z => nm_r (nI_1 i) (ih (i + 1) f be (by omega) (by omega) (co_I_skip I (fun _ y => absurd y (e.mp z))) hb)) (fun z => ?_)
    have hT : co_T g s i := Classical.byContradiction (fun y => z (e.mpr y))
    refine yw_within (by omega) (fun c => wz_1 ?_) (fun c => wz_0 (nm_r (nI_1 i) (ih (i + 1) f be (by omega) (by omega) (co_I_skip I (fun y => absurd y c)) hb)))
    have hd := co_d_lt (p := p) (q := i) (by omega) c
    have e1 : be (bs_d p i) = nI (D (bs_d p i)) := by
      rw [hb _ (by omega), if_neg (by omega)]
    have e2 : be p = nI f := by rw [hb p hp, if_pos rfl]
    have e3 := hD (bs_d p i)
    rw [bs_diff, nI_clamp (n := bs_d p i) (by omega), nI_clamp (n := p) (by omega), e1, e2, nI_1]
    refine ⟨vp_in_nI (by omega) (by decide), vp_in_nI (by omega) (by decide), br_c (fun y => nm_r (nI_1 i) ?_) (fun y => ⟨vp_in_nI (by omega) (by decide), vp_in_nI (by omega) (by decide), nm_e (nm_r (nI_1 i) ?_)⟩)⟩
    · rw [nI_leI (by omega) (by omega)] at y
      exact ih (i + 1) f be (by omega) (by omega) (co_I_skip I (fun _ _ => by omega)) hb
    · rw [nI_leI (by omega) (by omega)] at y
      refine ih (i + 1) (1 + D (bs_d p i)) _ (by omega) (by omega) (co_I_take I (by omega) c hT (by omega)) (fun q hq => ?_)
      dsimp only [upd]
      by_cases e : q = p
      · rw [if_pos e, if_pos e, Nat.add_comm]
      · rw [if_neg e, if_neg e, hb q hq, if_neg e]
theorem yq_colours (G : gr_G n g) (hY : ∀ v, v < 8 → br v = nI (g v)) {s : Nat} (hs : s < 2 ^ n) {post : Int32 → SY → Prop} (h : ∀ (D : Nat → Nat) (bm be : Nat → Int32), co_G (co_T g s) s D 256 → post (nI (D s)) (fr, nI n, yw, br, bw, bq, bl, bo, bm, be)) : ∃ k, wY_colours_12 post (nI s) fr (nI n) yw k 0 br bw bq bl bo bm be := by
  have hn := G.1
  have h8 := bs_pow8 hn
  have outer : ∀ bm : Nat → Int32, (∀ q, 0 < q → q < 256 → (bm q = 0 ↔ ¬ co_T g s q)) → ∀ d i (D : Nat → Nat) (be : Nat → Int32), 0 < i → i + d = 256 → (∀ q, D q ≤ 100) → (∀ q, i ≤ q → D q = 100) → (∀ q, q < 256 → be q = nI (D q)) → co_G (co_T g s) s D i → wY_colours_87 post (nI s) fr (nI n) yw (d + 1) (nI i) br bw bq bl bo bm be := by
    intro bm hM d
    induction d with
    | zero =>
      intro i D be h0 hi hD hH hb I
      obtain rfl : i = 256 := by omega
      refine br_t (nI_le (a := 256) (b := 256) (Nat.le_refl _) (by decide)) ⟨vp_in_nI (by omega) (by decide), ?_⟩
      rw [nI_clamp (by omega), hb s (by omega)]
      exact h D bm be I
    | succ d ih =>
      intro i D be h0 hi hD hH hb I
      refine br_f (nI_ge (b := 256) (by omega) (by decide)) ⟨i + 1, yw_few G (s := s) (p := i) (by omega) (by omega) hD hM (fun be' f If hb' => ?_) i 1 100 be (by omega) (by omega) (co_I0 (co_T g s) D 100 i) (fun q hq => ?_)⟩
      · refine ih (i + 1) (fun q => if q = i then f else D q) be' (by omega) (by omega) (fun q => ?_) (fun q hq => ?_) hb' ?_
        · have := If.2.1
          split
          · exact this
          · exact hD q
        · rw [if_neg (by omega)]
          exact hH q (by omega)
        · by_cases c : bs_s i s
          · exact co_G_end G (by decide) hs (by omega) c I If
          · refine ⟨?_, fun q q0 q1 q2 => ?_⟩
            · dsimp only
              rw [if_neg (by omega)]
              exact I.1
            · have hqi : q < i := by
                rcases Nat.lt_or_ge q i with z | z
                · exact z
                · obtain rfl : q = i := by omega
                  exact absurd q2 c
              have low : ∀ r, r < i → (fun q => if q = i then f else D q) r = D r := fun r hr => if_neg (by omega)
              obtain ⟨⟨⟨r, r0, r1, r2, r3⟩, rm⟩, hb2⟩ := I.2 q q0 hqi q2
              refine ⟨⟨⟨r, r0, r1, r2, ?_⟩, fun r r0 r1 r2 => ?_⟩, ?_⟩
              · rw [low q hqi, low (bs_d q r) (by have := bs_d_le q r; omega)]
                exact r3
              · rw [low q hqi, low (bs_d q r) (by have := bs_d_le q r; omega)]
                exact rm r r0 r1 r2
              · rw [low q hqi]
                exact hb2
      · rw [hb q hq]
        by_cases e : q = i
        · rw [if_pos e, e, hH i (Nat.le_refl _)]
        · rw [if_neg e]
  have marks : ∀ be : Nat → Int32, (∀ q, q < 256 → be q = nI (if q = 0 then 0 else 100)) → ∀ d i (bm : Nat → Int32), 0 < i → i + d = 256 → (∀ q, 0 < q → q < i → (bm q = 0 ↔ ¬ co_T g s q)) → wY_colours_43 post (nI s) fr (nI n) yw (d + 1) (nI i) br bw bq bl bo bm be := by
    intro be hb d
    induction d with
    | zero =>
      intro i bm h0 hi hM
      obtain rfl : i = 256 := by omega
      refine br_t (nI_le (a := 256) (b := 256) (Nat.le_refl _) (by decide)) ⟨255 + 1, outer bm hM 255 1 (fun q => if q = 0 then 0 else 100) be (by omega) (by omega) (fun q => ?_) (fun q hq => if_neg (by omega)) hb ⟨rfl, fun q q0 q1 => absurd q1 (by omega)⟩⟩
      split <;> omega
    | succ d ih =>
      intro i bm h0 hi hM
      have more : ∀ x : Int32, (x = 0 ↔ ¬ co_T g s i) → wY_colours_43 post (nI s) fr (nI n) yw (d + 1) (nI (i + 1)) br bw bq bl bo (upd bm (nI i).toNatClampNeg x) be := by
        intro x hx
        refine ih (i + 1) _ (by omega) (by omega) (fun r h1 h2 => ?_)
        rw [nI_clamp (by omega)]
        dsimp only [upd]
        by_cases y : r = i
        · rw [if_pos y, y]
          exact hx
        · rw [if_neg y]
          exact hM r h1 (by omega)
      refine br_f (nI_ge (b := 256) (by omega) (by decide)) (yw_within (by omega) (fun c => wz_1 ?_) (fun c => wz_0 ⟨vp_in_nI (by omega) (by decide), nm_e (nm_r (nI_1 i) ?_)⟩))
      · refine yw_stable G hY (Nat.lt_of_le_of_lt (bs_s_le c) hs) (by omega) (fun K => wz_1 ⟨vp_in_nI (by omega) (by decide), nm_e (nm_r (nI_1 i) ?_)⟩) (fun K => wz_0 ⟨vp_in_nI (by omega) (by decide), nm_e (nm_r (nI_1 i) ?_)⟩)
        · rw [nb_1]
          exact more 1 ⟨fun z => absurd z (by decide), fun z => absurd ⟨c, K⟩ z⟩
        · rw [nb_0]
          exact more 0 ⟨fun _ z => K z.2, fun _ => rfl⟩
      · rw [nb_0]
        exact more 0 ⟨fun _ z => c z.1, fun _ => rfl⟩
  have key : ∀ d i (be : Nat → Int32), i + d = 256 → (∀ q, q < i → be q = nI (if q = 0 then 0 else 100)) → wY_colours_12 post (nI s) fr (nI n) yw (d + 1) (nI i) br bw bq bl bo bm be := by
    intro d
    induction d with
    | zero =>
      intro i be hi hb
      obtain rfl : i = 256 := by omega
      exact br_t (nI_le (a := 256) (b := 256) (Nat.le_refl _) (by decide)) ⟨255 + 1, marks be hb 255 1 bm (by omega) (by omega) (fun q h1 h2 => absurd h1 (by omega))⟩
    | succ d ih =>
      intro i be hi hb
      have more : ∀ x : Int32, x = nI (if i = 0 then 0 else 100) → wY_colours_12 post (nI s) fr (nI n) yw (d + 1) (nI (i + 1)) br bw bq bl bo bm (upd be (nI i).toNatClampNeg x) := by
        intro x hx
        refine ih (i + 1) _ (by omega) (fun q hq => ?_)
        rw [nI_clamp (by omega)]
        dsimp only [upd]
        by_cases e : q = i
        · rw [if_pos e, e]
          exact hx
        · rw [if_neg e]
          exact hb q (by omega)
      refine br_f (nI_ge (b := 256) (by omega) (by decide)) (br_c (fun z => ⟨vp_in_nI (by omega) (by decide), nm_e (nm_r (nI_1 i) (more 0 ?_))⟩) (fun z => ⟨vp_in_nI (by omega) (by decide), nm_e (nm_r (nI_1 i) (more 100 ?_))⟩))
      · rw [← nI_0, nI_eq (by omega) (by decide)] at z
        rw [if_pos z]
        rfl
      · rw [if_neg (fun y => z (by rw [y]; rfl))]
        rfl
  exact ⟨256 + 1, key 256 0 be (by omega) (fun q hq => absurd hq (by omega))⟩
end
