/-! strong modules -/
theorem nb_1 : vp_nar .boolean 1 = 1 := by rfl
theorem nb_0 : vp_nar .boolean 0 = 0 := by rfl
def ov_O (q r : Nat) : Prop := q &&& r ≠ 0 ∧ ¬ bs_s q r ∧ ¬ bs_s r q
def mo_M (g : Nat → Nat) (n q : Nat) : Prop := q ≠ 0 ∧ q < 2 ^ n ∧ mo_A g n q
def mo_S (g : Nat → Nat) (n q : Nat) : Prop := mo_M g n q ∧ ∀ r, mo_M g n r → ¬ ov_O q r
theorem nz_and {q r : Nat} (hq : q < 2 ^ 31) : nI q &&& nI r = 0 ↔ q &&& r = 0 := by
  rw [nx_and, ← nI_0, nI_eq (Nat.lt_of_le_of_lt Nat.and_le_left hq) (by decide)]
section
variable {nw hw : Int32} {ar aw aq am ac ap : Nat → Int32} {fr yw : Int32} {br bw bq bl bo bm be : Nat → Int32} {n : Nat} {g : Nat → Nat}
theorem xw_overlap {q r : Nat} (hq : q < 2 ^ 31) (hr : r < 2 ^ 31) {post : Int32 → Prop} (h1 : ov_O q r → post 1) (h0 : ¬ ov_O q r → post 0) : wpX_overlap post (nI q) (nI r) := by
  refine br_c (fun z => h0 (fun o => o.1 ((nz_and hq).mp z))) (fun z => ?_)
  have hz : q &&& r ≠ 0 := fun e => z ((nz_and hq).mpr e)
  refine xw_within hq (fun c => wz_1 (h0 (fun o => o.2.1 c))) (fun c => wz_0 ?_)
  exact xw_within hr (fun c' => wz_1 (h0 (fun o => o.2.2 c'))) (fun c' => wz_0 (h1 ⟨hz, c, c'⟩))
theorem xw_noMod (hn : n ≤ 8) {q : Nat} (hq : q < 2 ^ n) (hM : ∀ r, 0 < r → r < 2 ^ n → (am r = 0 ↔ ¬ mo_A g n r)) {post : Int32 → Prop} (h1 : (∀ r, mo_M g n r → ¬ ov_O q r) → post 1) (h0 : (¬ ∀ r, mo_M g n r → ¬ ov_O q r) → post 0) : wpX_overlapsNoModule post (nw, nI n, hw, ar, aw, aq, am, ac, ap) (nI q) := by
  have h8 := bs_pow8 hn
  have hp := Nat.two_pow_pos n
  have key : ∀ d i, 0 < i → i + d = 2 ^ n → (∀ r, r < i → mo_M g n r → ¬ ov_O q r) → wX_overlapsNoModule_7 post (nI q) (nI (2 ^ n - 1)) nw (nI n) hw ar aw aq am ac ap (d + 1) (nI i) := by
    intro d
    induction d with
    | zero =>
      intro i h0' hi I
      exact br_t (nI_lt (by omega) (by omega)) (h1 (fun r hr => I r (by have := hr.2.1; omega) hr))
    | succ d ih =>
      intro i h0' hi I
      have more : (mo_M g n i → ¬ ov_O q i) → wX_overlapsNoModule_7 post (nI q) (nI (2 ^ n - 1)) nw (nI n) hw ar aw aq am ac ap (d + 1) (nI (i + 1)) := by
        intro z
        refine ih (i + 1) (by omega) (by omega) (fun r hr hM' => ?_)
        rcases Nat.lt_or_ge r i with y | y
        · exact I r y hM'
        · obtain rfl : r = i := by omega
          exact z hM'
      refine br_f (nI_nlt (by omega) (by omega)) ⟨vp_in_nI (by omega) (by omega), ?_⟩
      rw [nI_clamp (by omega)]
      have e := hM i h0' (by omega)
      refine br_c (fun z => nm_r (nI_1 i) (more (fun y => absurd y.2.2 (e.mp z)))) (fun z => ?_)
      have hA : mo_M g n i := ⟨by omega, by omega, Classical.byContradiction (fun y => z (e.mpr y))⟩
      exact xw_overlap (by omega) (by omega) (fun o => wz_1 (h0 (fun A => A i hA o))) (fun o => wz_0 (nm_r (nI_1 i) (more (fun _ => o))))
  unfold wpX_overlapsNoModule
  dsimp only
  refine xw_whole hn ?_
  exact Exists.intro (2 ^ n - 1 + 1) (key (2 ^ n - 1) 1 (by omega) (by omega) (fun r hr hm => absurd hm.1 (by omega)))
theorem xq_strong (G : gr_G n g) (hX : ∀ v, v < n → ar v = nI (g v)) {post : Int32 → SX → Prop} (h : ∀ am : Nat → Int32, post (bs_F (qq_P (mo_S g n)) (fun _ a => a + 1) 0 (2 ^ n)) (nw, nI n, hw, ar, aw, aq, am, ac, ap)) : wpX_strongModuleCount post (nw, nI n, hw, ar, aw, aq, am, ac, ap) := by
  have hn := G.1
  have h8 := bs_pow8 hn
  have hp := Nat.two_pow_pos n
  have e1 : bs_F (qq_P (mo_S g n)) (fun _ a => a + 1) 0 1 = (0 : Int32) := qq_Ff (Q := mo_S g n) (i := 0) (fun z => z.1.1 rfl)
  have count : ∀ am : Nat → Int32, (∀ r, 0 < r → r < 2 ^ n → (am r = 0 ↔ ¬ mo_A g n r)) → ∀ d i, 0 < i → i + d = 2 ^ n → wX_strongModuleCount_33 post (nI (2 ^ n - 1)) nw (nI n) hw ar aw aq am ac ap (d + 1) (bs_F (qq_P (mo_S g n)) (fun _ a => a + 1) 0 i) (nI i) := by
    intro am hM d
    induction d with
    | zero =>
      intro i h0 hi
      obtain rfl : i = 2 ^ n := by omega
      exact br_t (nI_lt (by omega) (by omega)) (h am)
    | succ d ih =>
      intro i h0 hi
      have next := ih (i + 1) (by omega) (by omega)
      have skip : ¬ mo_S g n i → wX_strongModuleCount_33 post (nI (2 ^ n - 1)) nw (nI n) hw ar aw aq am ac ap (d + 1) (bs_F (qq_P (mo_S g n)) (fun _ a => a + 1) 0 i) (nI (i + 1)) := by
        intro z
        rw [qq_Ff z] at next
        exact next
      refine br_f (nI_nlt (by omega) (by omega)) ⟨vp_in_nI (by omega) (by omega), ?_⟩
      rw [nI_clamp (by omega)]
      have e := hM i h0 (by omega)
      refine br_c (fun z => nm_r (nI_1 i) (skip (fun y => e.mp z y.1.2.2))) (fun z => ?_)
      have hA : mo_M g n i := ⟨by omega, by omega, Classical.byContradiction (fun y => z (e.mpr y))⟩
      refine xw_noMod hn (by omega) hM (fun A => wz_1 ?_) (fun A => wz_0 (nm_r (nI_1 i) (skip (fun y => A y.2))))
      exact nm_r (qq_Ft (Q := mo_S g n) (f := fun _ a => a + 1) ⟨hA, A⟩).symm (nm_r (nI_1 i) next)
  have marks : ∀ d i (am : Nat → Int32), 0 < i → i + d = 2 ^ n → (∀ r, 0 < r → r < i → (am r = 0 ↔ ¬ mo_A g n r)) → wX_strongModuleCount_7 post (nI (2 ^ n - 1)) nw (nI n) hw (d + 1) (nI i) ar aw aq am ac ap := by
    intro d
    induction d with
    | zero =>
      intro i am h0 hi hM
      obtain rfl : i = 2 ^ n := by omega
      have := count am hM (2 ^ n - 1) 1 (by omega) (by omega)
      rw [e1] at this
      exact br_t (nI_lt (by omega) (by omega)) ⟨_, this⟩
    | succ d ih =>
      intro i am h0 hi hM
      have more : ∀ x : Int32, (x = 0 ↔ ¬ mo_A g n i) → wX_strongModuleCount_7 post (nI (2 ^ n - 1)) nw (nI n) hw (d + 1) (nI (i + 1)) ar aw aq (upd am (nI i).toNatClampNeg x) ac ap := by
        intro x hx
        refine ih (i + 1) _ (by omega) (by omega) (fun r h1 h2 => ?_)
        rw [nI_clamp (by omega)]
        dsimp only [upd]
        by_cases y : r = i
        · rw [if_pos y, y]
          exact hx
        · rw [if_neg y]
          exact hM r h1 (by omega)
      refine br_f (nI_nlt (by omega) (by omega)) (xw_alike hn hX (gr_256 G) (by omega) (fun A => ?_) (fun A => ?_))
      · refine ⟨vp_in_nI (by omega) (by omega), nm_e (nm_r (nI_1 i) ?_)⟩
        rw [nb_1]
        exact more 1 ⟨fun z => absurd z (by decide), fun z => absurd A z⟩
      · refine ⟨vp_in_nI (by omega) (by omega), nm_e (nm_r (nI_1 i) ?_)⟩
        rw [nb_0]
        exact more 0 ⟨fun _ => A, fun _ => rfl⟩
  unfold wpX_strongModuleCount
  dsimp only
  refine xw_whole hn ?_
  exact Exists.intro (2 ^ n - 1 + 1) (marks (2 ^ n - 1) 1 am (by omega) (by omega) (fun r h1 h2 => absurd h1 (by omega)))
theorem yw_overOne {q : Nat} (hq : q < 256) (hM : ∀ r, r < 256 → (bm r = 0 ↔ ¬ mo_M g n r)) (hn : n ≤ 8) {post : Int32 → Prop} (h1 : (¬ ∀ r, mo_M g n r → ¬ ov_O q r) → post 1) (h0 : (∀ r, mo_M g n r → ¬ ov_O q r) → post 0) : wpY_overlapsOne post (fr, nI n, yw, br, bw, bq, bl, bo, bm, be) (nI q) := by
  have h8 := bs_pow8 hn
  have key : ∀ d i, 0 < i → i + d = 256 → (∀ r, r < i → mo_M g n r → ¬ ov_O q r) → wY_overlapsOne_2 post (nI q) fr (nI n) yw br bw bq bl bo bm be (d + 1) (nI i) := by
    intro d
    induction d with
    | zero =>
      intro i h0' hi I
      obtain rfl : i = 256 := by omega
      exact br_t (nI_le (a := 256) (b := 256) (Nat.le_refl _) (by decide)) (h0 (fun r hr => I r (by have := hr.2.1; omega) hr))
    | succ d ih =>
      intro i h0' hi I
      have more : (mo_M g n i → ¬ ov_O q i) → wY_overlapsOne_2 post (nI q) fr (nI n) yw br bw bq bl bo bm be (d + 1) (nI (i + 1)) := by
        intro z
        refine ih (i + 1) (by omega) (by omega) (fun r hr hM' => ?_)
        rcases Nat.lt_or_ge r i with y | y
        · exact I r y hM'
        · obtain rfl : r = i := by omega
          exact z hM'
      refine br_f (nI_ge (b := 256) (by omega) (by decide)) ⟨vp_in_nI (by omega) (by omega), ?_⟩
      rw [nI_clamp (by omega)]
      have e := hM i (by omega)
      refine br_c (fun z => nm_r (nI_1 i) (more (fun y => absurd y (e.mp z)))) (fun z => ?_)
      have hA : mo_M g n i := Classical.byContradiction (fun y => z (e.mpr y))
      refine br_c (fun y => nm_r (nI_1 i) (more (fun _ o => o.1 ((nz_and (by omega)).mp y)))) (fun y => ?_)
      have hz : q &&& i ≠ 0 := fun e => y ((nz_and (by omega)).mpr e)
      refine yw_within (by omega) (fun c => wz_1 (nm_r (nI_1 i) (more (fun _ o => o.2.1 c)))) (fun c => wz_0 ?_)
      exact yw_within (by omega) (fun c' => wz_1 (nm_r (nI_1 i) (more (fun _ o => o.2.2 c')))) (fun c' => wz_0 (h1 (fun A => A i hA ⟨hz, c, c'⟩)))
  exact Exists.intro (255 + 1) (key 255 1 (by omega) (by omega) (fun r hr hm => absurd hm.1 (by omega)))
theorem yq_strong (G : gr_G n g) (hY : ∀ v, v < 8 → br v = nI (g v)) {post : Int32 → SY → Prop} (h : ∀ bm : Nat → Int32, post (bs_F (qq_P (mo_S g n)) (fun _ a => a + 1) 0 (2 ^ n)) (fr, nI n, yw, br, bw, bq, bl, bo, bm, be)) : wpY_strongModules post (fr, nI n, yw, br, bw, bq, bl, bo, bm, be) := by
  have hn := G.1
  have h8 := bs_pow8 hn
  have hc : bs_F (qq_P (mo_S g n)) (fun _ a => a + 1) 0 256 = bs_F (qq_P (mo_S g n)) (fun _ a => a + 1) (0 : Int32) (2 ^ n) := by
    have := bs_F_cut (P := qq_P (mo_S g n)) (f := fun _ a => a + 1) (a := (0 : Int32)) (m := 2 ^ n) (fun i hi => qq_f (fun z => by have := z.1.2.1; omega)) (256 - 2 ^ n)
    rwa [show 2 ^ n + (256 - 2 ^ n) = 256 by omega] at this
  have count : ∀ bm : Nat → Int32, (∀ r, r < 256 → (bm r = 0 ↔ ¬ mo_M g n r)) → ∀ d i, i + d = 256 → wY_strongModules_30 post fr (nI n) yw br bw bq bl bo bm be (d + 1) (bs_F (qq_P (mo_S g n)) (fun _ a => a + 1) 0 i) (nI i) := by
    intro bm hM d
    induction d with
    | zero =>
      intro i hi
      obtain rfl : i = 256 := by omega
      refine br_t (nI_le (a := 256) (b := 256) (Nat.le_refl _) (by decide)) ?_
      rw [hc]
      exact h bm
    | succ d ih =>
      intro i hi
      have next := ih (i + 1) (by omega)
      have skip : ¬ mo_S g n i → wY_strongModules_30 post fr (nI n) yw br bw bq bl bo bm be (d + 1) (bs_F (qq_P (mo_S g n)) (fun _ a => a + 1) 0 i) (nI (i + 1)) := by
        intro z
        rw [qq_Ff z] at next
        exact next
      refine br_f (nI_ge (b := 256) (by omega) (by decide)) ⟨vp_in_nI (by omega) (by omega), ?_⟩
      rw [nI_clamp (by omega)]
      have e := hM i (by omega)
      refine br_c (fun z => nm_r (nI_1 i) (skip (fun y => e.mp z y.1))) (fun z => ?_)
      have hA : mo_M g n i := Classical.byContradiction (fun y => z (e.mpr y))
      refine yw_overOne (by omega) hM hn (fun A => wz_1 (nm_r (nI_1 i) (skip (fun y => A y.2)))) (fun A => wz_0 ?_)
      exact nm_r (qq_Ft (Q := mo_S g n) (f := fun _ a => a + 1) ⟨hA, A⟩).symm (nm_r (nI_1 i) next)
  have marks : ∀ d i (bm : Nat → Int32), i + d = 256 → (∀ r, r < i → (bm r = 0 ↔ ¬ mo_M g n r)) → wY_strongModules_2 post fr (nI n) yw (d + 1) (nI i) br bw bq bl bo bm be := by
    intro d
    induction d with
    | zero =>
      intro i bm hi hM
      obtain rfl : i = 256 := by omega
      exact br_t (nI_le (a := 256) (b := 256) (Nat.le_refl _) (by decide)) ⟨_, count bm hM 256 0 (by omega)⟩
    | succ d ih =>
      intro i bm hi hM
      have more : ∀ x : Int32, (x = 0 ↔ ¬ mo_M g n i) → wY_strongModules_2 post fr (nI n) yw (d + 1) (nI (i + 1)) br bw bq bl bo (upd bm (nI i).toNatClampNeg x) be := by
        intro x hx
        refine ih (i + 1) _ (by omega) (fun r h2 => ?_)
        rw [nI_clamp (by omega)]
        dsimp only [upd]
        by_cases y : r = i
        · rw [if_pos y, y]
          exact hx
        · rw [if_neg y]
          exact hM r (by omega)
      refine br_f (nI_ge (b := 256) (by omega) (by decide)) (yw_module G hY (by omega) (fun A => ?_) (fun A => ?_))
      · refine ⟨vp_in_nI (by omega) (by omega), nm_e (nm_r (nI_1 i) ?_)⟩
        rw [nb_1]
        exact more 1 ⟨fun z => absurd z (by decide), fun z => absurd A z⟩
      · refine ⟨vp_in_nI (by omega) (by omega), nm_e (nm_r (nI_1 i) ?_)⟩
        rw [nb_0]
        exact more 0 ⟨fun _ => A, fun _ => rfl⟩
  exact Exists.intro (256 + 1) (marks 256 0 bm (by omega) (fun r h2 => absurd h2 (by omega)))
end
