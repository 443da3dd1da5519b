/-! the methods that go through the parts of a set -/
section
variable {nw hw : Int32} {ar aw aq am ac ap : Nat → Int32} {fr yw : Int32} {br bw bq bl bo bm be : Nat → Int32} {n : Nat} {g : Nat → Nat}

theorem xq_cliques (hn : n ≤ 8) (hX : ∀ v, v < n → ar v = nI (g v)) {s : Nat} (hs : s < 2 ^ n) {post : Int32 → Prop} (h : post (bs_F (qq_P (fun i => i ≠ 0 ∧ bs_s i s ∧ cl_K g i)) (fun _ a => a + 1) 0 (s + 1))) : ∃ k, wX_cliques_14 post (nI s) nw (nI n) hw ar aw aq am ac ap k 0 1 := by
  have h8 := bs_pow8 hn
  have key : ∀ d i, 0 < i → i + d = s + 1 → wX_cliques_14 post (nI s) nw (nI n) hw ar aw aq am ac ap (d + 1) (bs_F (qq_P (fun i => i ≠ 0 ∧ bs_s i s ∧ cl_K g i)) (fun _ a => a + 1) 0 i) (nI i) := by
    intro d
    induction d with
    | zero =>
      intro i h0 hi
      obtain rfl : i = s + 1 := by omega
      exact br_t (nI_lt (by omega) (by omega)) h
    | succ d ih =>
      intro i h0 hi
      have skip : (¬ (i ≠ 0 ∧ bs_s i s ∧ cl_K g i)) → wX_cliques_14 post (nI s) nw (nI n) hw ar aw aq am ac ap (d + 1) (bs_F (qq_P (fun i => i ≠ 0 ∧ bs_s i s ∧ cl_K g i)) (fun _ a => a + 1) 0 i) (nI (i + 1)) := by
        intro z
        have := ih (i + 1) (by omega) (by omega)
        rw [qq_Ff (Q := fun i => i ≠ 0 ∧ bs_s i s ∧ cl_K g i) z] at this
        exact this
      refine br_f (nI_nlt (by omega) (by omega)) (xw_within (by omega) (fun c => wz_1 ?_) (fun c => wz_0 (nm_r (nI_1 i) (skip (fun z => c z.2.1)))))
      refine xw_clique hn hX (by omega) (fun K => wz_1 ?_) (fun K => wz_0 (nm_r (nI_1 i) (skip (fun z => K z.2.2))))
      exact nm_r (qq_Ft (Q := fun i => i ≠ 0 ∧ bs_s i s ∧ cl_K g i) (f := fun _ a => a + 1) ⟨by omega, c, K⟩).symm (nm_r (nI_1 i) (ih (i + 1) (by omega) (by omega)))
  have e : bs_F (qq_P (fun i => i ≠ 0 ∧ bs_s i s ∧ cl_K g i)) (fun _ a => a + 1) 0 1 = (0 : Int32) := qq_Ff (Q := fun i => i ≠ 0 ∧ bs_s i s ∧ cl_K g i) (i := 0) (fun z => z.1 rfl)
  have := key s 1 (by omega) (by omega)
  rw [e] at this
  exact ⟨s + 1, this⟩
theorem yq_cliques (G : gr_G n g) (hY : ∀ v, v < 8 → br v = nI (g v)) {s : Nat} (hs : s < 2 ^ n) {post : Int32 → Prop} (h : post (bs_F (qq_P (fun i => i ≠ 0 ∧ bs_s i s ∧ cl_K g i)) (fun _ a => a + 1) 0 (s + 1))) : wpY_countUniform post (fr, nI n, yw, br, bw, bq, bl, bo, bm, be) (nI s) 1 := by
  have h8 := bs_pow8 G.1
  have hc : bs_F (qq_P (fun i => i ≠ 0 ∧ bs_s i s ∧ cl_K g i)) (fun _ a => a + 1) 0 256 = bs_F (qq_P (fun i => i ≠ 0 ∧ bs_s i s ∧ cl_K g i)) (fun _ a => a + 1) (0 : Int32) (s + 1) := by
    have := bs_F_cut (P := qq_P (fun i => i ≠ 0 ∧ bs_s i s ∧ cl_K g i)) (f := fun _ a => a + 1) (a := (0 : Int32)) (m := s + 1) (fun i hi => qq_f (fun z => by have := bs_s_le z.2.1; omega)) (255 - s)
    rwa [show s + 1 + (255 - s) = 256 by omega] at this
  have key : ∀ d i, 0 < i → i + d = 256 → wY_countUniform_5 post (nI s) 1 fr (nI n) yw br bw bq bl bo bm be (d + 1) (bs_F (qq_P (fun i => i ≠ 0 ∧ bs_s i s ∧ cl_K g i)) (fun _ a => a + 1) 0 i) (nI i) := by
    intro d
    induction d with
    | zero =>
      intro i h0 hi
      obtain rfl : i = 256 := by omega
      refine br_t (nI_le (a := 256) (b := 256) (Nat.le_refl _) (by decide)) ?_
      rw [hc]
      exact h
    | succ d ih =>
      intro i h0 hi
      have skip : (¬ (i ≠ 0 ∧ bs_s i s ∧ cl_K g i)) → wY_countUniform_5 post (nI s) 1 fr (nI n) yw br bw bq bl bo bm be (d + 1) (bs_F (qq_P (fun i => i ≠ 0 ∧ bs_s i s ∧ cl_K g i)) (fun _ a => a + 1) 0 i) (nI (i + 1)) := by
        intro z
        have := ih (i + 1) (by omega) (by omega)
        rw [qq_Ff (Q := fun i => i ≠ 0 ∧ bs_s i s ∧ cl_K g i) z] at this
        exact this
      refine br_f (nI_ge (b := 256) (by omega) (by decide)) (yw_within (by omega) (fun c => wz_1 ?_) (fun c => wz_0 (nm_r (nI_1 i) (skip (fun z => c z.2.1)))))
      refine yw_clique G hY (Nat.lt_of_le_of_lt (bs_s_le c) hs) (by omega) (fun K => wz_1 ?_) (fun K => wz_0 (nm_r (nI_1 i) (skip (fun z => K z.2.2))))
      exact nm_r (qq_Ft (Q := fun i => i ≠ 0 ∧ bs_s i s ∧ cl_K g i) (f := fun _ a => a + 1) ⟨by omega, c, K⟩).symm (nm_r (nI_1 i) (ih (i + 1) (by omega) (by omega)))
  have e : bs_F (qq_P (fun i => i ≠ 0 ∧ bs_s i s ∧ cl_K g i)) (fun _ a => a + 1) 0 1 = (0 : Int32) := qq_Ff (Q := fun i => i ≠ 0 ∧ bs_s i s ∧ cl_K g i) (i := 0) (fun z => z.1 rfl)
  have := key 255 1 (by omega) (by omega)
  rw [e] at this
  exact Exists.intro (255 + 1) this

theorem xq_stables (hn : n ≤ 8) (hX : ∀ v, v < n → ar v = nI (g v)) {s : Nat} (hs : s < 2 ^ n) {post : Int32 → Prop} (h : post (bs_F (qq_P (fun i => i ≠ 0 ∧ bs_s i s ∧ st_T g i)) (fun _ a => a + 1) 0 (s + 1))) : ∃ k, wX_stableSets_14 post (nI s) nw (nI n) hw ar aw aq am ac ap k 0 1 := by
  have h8 := bs_pow8 hn
  have key : ∀ d i, 0 < i → i + d = s + 1 → wX_stableSets_14 post (nI s) nw (nI n) hw ar aw aq am ac ap (d + 1) (bs_F (qq_P (fun i => i ≠ 0 ∧ bs_s i s ∧ st_T g i)) (fun _ a => a + 1) 0 i) (nI i) := by
    intro d
    induction d with
    | zero =>
      intro i h0 hi
      obtain rfl : i = s + 1 := by omega
      exact br_t (nI_lt (by omega) (by omega)) h
    | succ d ih =>
      intro i h0 hi
      have skip : (¬ (i ≠ 0 ∧ bs_s i s ∧ st_T g i)) → wX_stableSets_14 post (nI s) nw (nI n) hw ar aw aq am ac ap (d + 1) (bs_F (qq_P (fun i => i ≠ 0 ∧ bs_s i s ∧ st_T g i)) (fun _ a => a + 1) 0 i) (nI (i + 1)) := by
        intro z
        have := ih (i + 1) (by omega) (by omega)
        rw [qq_Ff (Q := fun i => i ≠ 0 ∧ bs_s i s ∧ st_T g i) z] at this
        exact this
      refine br_f (nI_nlt (by omega) (by omega)) (xw_within (by omega) (fun c => wz_1 ?_) (fun c => wz_0 (nm_r (nI_1 i) (skip (fun z => c z.2.1)))))
      refine xw_stable hn hX (by omega) (fun K => wz_1 ?_) (fun K => wz_0 (nm_r (nI_1 i) (skip (fun z => K z.2.2))))
      exact nm_r (qq_Ft (Q := fun i => i ≠ 0 ∧ bs_s i s ∧ st_T g i) (f := fun _ a => a + 1) ⟨by omega, c, K⟩).symm (nm_r (nI_1 i) (ih (i + 1) (by omega) (by omega)))
  have e : bs_F (qq_P (fun i => i ≠ 0 ∧ bs_s i s ∧ st_T g i)) (fun _ a => a + 1) 0 1 = (0 : Int32) := qq_Ff (Q := fun i => i ≠ 0 ∧ bs_s i s ∧ st_T g i) (i := 0) (fun z => z.1 rfl)
  have := key s 1 (by omega) (by omega)
  rw [e] at this
  exact ⟨s + 1, this⟩
theorem yq_stables (G : gr_G n g) (hY : ∀ v, v < 8 → br v = nI (g v)) {s : Nat} (hs : s < 2 ^ n) {post : Int32 → Prop} (h : post (bs_F (qq_P (fun i => i ≠ 0 ∧ bs_s i s ∧ st_T g i)) (fun _ a => a + 1) 0 (s + 1))) : wpY_countUniform post (fr, nI n, yw, br, bw, bq, bl, bo, bm, be) (nI s) 0 := by
  have h8 := bs_pow8 G.1
  have hc : bs_F (qq_P (fun i => i ≠ 0 ∧ bs_s i s ∧ st_T g i)) (fun _ a => a + 1) 0 256 = bs_F (qq_P (fun i => i ≠ 0 ∧ bs_s i s ∧ st_T g i)) (fun _ a => a + 1) (0 : Int32) (s + 1) := by
    have := bs_F_cut (P := qq_P (fun i => i ≠ 0 ∧ bs_s i s ∧ st_T g i)) (f := fun _ a => a + 1) (a := (0 : Int32)) (m := s + 1) (fun i hi => qq_f (fun z => by have := bs_s_le z.2.1; omega)) (255 - s)
    rwa [show s + 1 + (255 - s) = 256 by omega] at this
  have key : ∀ d i, 0 < i → i + d = 256 → wY_countUniform_5 post (nI s) 0 fr (nI n) yw br bw bq bl bo bm be (d + 1) (bs_F (qq_P (fun i => i ≠ 0 ∧ bs_s i s ∧ st_T g i)) (fun _ a => a + 1) 0 i) (nI i) := by
    intro d
    induction d with
    | zero =>
      intro i h0 hi
      obtain rfl : i = 256 := by omega
      refine br_t (nI_le (a := 256) (b := 256) (Nat.le_refl _) (by decide)) ?_
      rw [hc]
      exact h
    | succ d ih =>
      intro i h0 hi
      have skip : (¬ (i ≠ 0 ∧ bs_s i s ∧ st_T g i)) → wY_countUniform_5 post (nI s) 0 fr (nI n) yw br bw bq bl bo bm be (d + 1) (bs_F (qq_P (fun i => i ≠ 0 ∧ bs_s i s ∧ st_T g i)) (fun _ a => a + 1) 0 i) (nI (i + 1)) := by
        intro z
        have := ih (i + 1) (by omega) (by omega)
        rw [qq_Ff (Q := fun i => i ≠ 0 ∧ bs_s i s ∧ st_T g i) z] at this
        exact this
      refine br_f (nI_ge (b := 256) (by omega) (by decide)) (yw_within (by omega) (fun c => wz_1 ?_) (fun c => wz_0 (nm_r (nI_1 i) (skip (fun z => c z.2.1)))))
      refine yw_stable G hY (Nat.lt_of_le_of_lt (bs_s_le c) hs) (by omega) (fun K => wz_1 ?_) (fun K => wz_0 (nm_r (nI_1 i) (skip (fun z => K z.2.2))))
      exact nm_r (qq_Ft (Q := fun i => i ≠ 0 ∧ bs_s i s ∧ st_T g i) (f := fun _ a => a + 1) ⟨by omega, c, K⟩).symm (nm_r (nI_1 i) (ih (i + 1) (by omega) (by omega)))
  have e : bs_F (qq_P (fun i => i ≠ 0 ∧ bs_s i s ∧ st_T g i)) (fun _ a => a + 1) 0 1 = (0 : Int32) := qq_Ff (Q := fun i => i ≠ 0 ∧ bs_s i s ∧ st_T g i) (i := 0) (fun z => z.1 rfl)
  have := key 255 1 (by omega) (by omega)
  rw [e] at this
  exact Exists.intro (255 + 1) this

theorem xq_number (hn : n ≤ 8) (hX : ∀ v, v < n → ar v = nI (g v)) {s : Nat} (hs : s < 2 ^ n) {post : Int32 → Prop} (h : post (bs_F (qq_P (fun i => i ≠ 0 ∧ bs_s i s ∧ cl_K g i)) (fun i a => if nI (bs_c i 8) ≤ a then a else nI (bs_c i 8)) 0 (s + 1))) : ∃ k, wX_cliqueNumber_14 post (nI s) nw (nI n) hw ar aw aq am ac ap k 0 1 := by
  have h8 := bs_pow8 hn
  have key : ∀ d i, 0 < i → i + d = s + 1 → wX_cliqueNumber_14 post (nI s) nw (nI n) hw ar aw aq am ac ap (d + 1) (bs_F (qq_P (fun i => i ≠ 0 ∧ bs_s i s ∧ cl_K g i)) (fun i a => if nI (bs_c i 8) ≤ a then a else nI (bs_c i 8)) 0 i) (nI i) := by
    intro d
    induction d with
    | zero =>
      intro i h0 hi
      obtain rfl : i = s + 1 := by omega
      exact br_t (nI_lt (by omega) (by omega)) h
    | succ d ih =>
      intro i h0 hi
      have next := ih (i + 1) (by omega) (by omega)
      have skip : (¬ (i ≠ 0 ∧ bs_s i s ∧ cl_K g i)) → wX_cliqueNumber_14 post (nI s) nw (nI n) hw ar aw aq am ac ap (d + 1) (bs_F (qq_P (fun i => i ≠ 0 ∧ bs_s i s ∧ cl_K g i)) (fun i a => if nI (bs_c i 8) ≤ a then a else nI (bs_c i 8)) 0 i) (nI (i + 1)) := by
        intro z
        rw [qq_Ff (Q := fun i => i ≠ 0 ∧ bs_s i s ∧ cl_K g i) z] at next
        exact next
      refine br_f (nI_nlt (by omega) (by omega)) (xw_within (by omega) (fun c => wz_1 ?_) (fun c => wz_0 (nm_r (nI_1 i) (skip (fun z => c z.2.1)))))
      refine xw_clique hn hX (by omega) (fun K => wz_1 ?_) (fun K => wz_0 (nm_r (nI_1 i) (skip (fun z => K z.2.2))))
      rw [qq_Ft (Q := fun i => i ≠ 0 ∧ bs_s i s ∧ cl_K g i) (f := fun i a => if nI (bs_c i 8) ≤ a then a else nI (bs_c i 8)) ⟨by omega, c, K⟩] at next
      refine xw_count (by omega) ?_
      refine br_c (fun z => nm_r (nI_1 i) ?_) (fun z => nm_r (nI_1 i) ?_)
      · rw [if_pos z] at next
        exact next
      · rw [if_neg z] at next
        exact next
  have e : bs_F (qq_P (fun i => i ≠ 0 ∧ bs_s i s ∧ cl_K g i)) (fun i a => if nI (bs_c i 8) ≤ a then a else nI (bs_c i 8)) 0 1 = (0 : Int32) := qq_Ff (Q := fun i => i ≠ 0 ∧ bs_s i s ∧ cl_K g i) (i := 0) (fun z => z.1 rfl)
  have := key s 1 (by omega) (by omega)
  rw [e] at this
  exact ⟨s + 1, this⟩
theorem yq_number (G : gr_G n g) (hY : ∀ v, v < 8 → br v = nI (g v)) {s : Nat} (hs : s < 2 ^ n) {post : Int32 → Prop} (h : post (bs_F (qq_P (fun i => i ≠ 0 ∧ bs_s i s ∧ cl_K g i)) (fun i a => if nI (bs_c i 8) ≤ a then a else nI (bs_c i 8)) 0 (s + 1))) : ∃ k, wY_cliqueNumber_14 post (nI s) fr (nI n) yw br bw bq bl bo bm be k 0 1 := by
  have h8 := bs_pow8 G.1
  have hc : bs_F (qq_P (fun i => i ≠ 0 ∧ bs_s i s ∧ cl_K g i)) (fun i a => if nI (bs_c i 8) ≤ a then a else nI (bs_c i 8)) 0 256 = bs_F (qq_P (fun i => i ≠ 0 ∧ bs_s i s ∧ cl_K g i)) (fun i a => if nI (bs_c i 8) ≤ a then a else nI (bs_c i 8)) (0 : Int32) (s + 1) := by
    have := bs_F_cut (P := qq_P (fun i => i ≠ 0 ∧ bs_s i s ∧ cl_K g i)) (f := fun i a => if nI (bs_c i 8) ≤ a then a else nI (bs_c i 8)) (a := (0 : Int32)) (m := s + 1) (fun i hi => qq_f (fun z => by have := bs_s_le z.2.1; omega)) (255 - s)
    rwa [show s + 1 + (255 - s) = 256 by omega] at this
  have key : ∀ d i, 0 < i → i + d = 256 → wY_cliqueNumber_14 post (nI s) fr (nI n) yw br bw bq bl bo bm be (d + 1) (bs_F (qq_P (fun i => i ≠ 0 ∧ bs_s i s ∧ cl_K g i)) (fun i a => if nI (bs_c i 8) ≤ a then a else nI (bs_c i 8)) 0 i) (nI i) := by
    intro d
    induction d with
    | zero =>
      intro i h0 hi
      obtain rfl : i = 256 := by omega
      refine br_t (nI_le (a := 256) (b := 256) (Nat.le_refl _) (by decide)) ?_
      rw [hc]
      exact h
    | succ d ih =>
      intro i h0 hi
      have next := ih (i + 1) (by omega) (by omega)
      have skip : (¬ (i ≠ 0 ∧ bs_s i s ∧ cl_K g i)) → wY_cliqueNumber_14 post (nI s) fr (nI n) yw br bw bq bl bo bm be (d + 1) (bs_F (qq_P (fun i => i ≠ 0 ∧ bs_s i s ∧ cl_K g i)) (fun i a => if nI (bs_c i 8) ≤ a then a else nI (bs_c i 8)) 0 i) (nI (i + 1)) := by
        intro z
        rw [qq_Ff (Q := fun i => i ≠ 0 ∧ bs_s i s ∧ cl_K g i) z] at next
        exact next
      refine br_f (nI_ge (b := 256) (by omega) (by decide)) (yw_within (by omega) (fun c => wz_1 ?_) (fun c => wz_0 (nm_r (nI_1 i) (skip (fun z => c z.2.1)))))
      refine yw_clique G hY (Nat.lt_of_le_of_lt (bs_s_le c) hs) (by omega) (fun K => wz_1 ?_) (fun K => wz_0 (nm_r (nI_1 i) (skip (fun z => K z.2.2))))
      rw [qq_Ft (Q := fun i => i ≠ 0 ∧ bs_s i s ∧ cl_K g i) (f := fun i a => if nI (bs_c i 8) ≤ a then a else nI (bs_c i 8)) ⟨by omega, c, K⟩] at next
      refine yw_size (by omega) ?_
      refine br_c (fun z => nm_r (nI_1 i) ?_) (fun z => nm_r (nI_1 i) ?_)
      · rw [if_pos z] at next
        exact next
      · rw [if_neg z] at next
        exact next
  have e : bs_F (qq_P (fun i => i ≠ 0 ∧ bs_s i s ∧ cl_K g i)) (fun i a => if nI (bs_c i 8) ≤ a then a else nI (bs_c i 8)) 0 1 = (0 : Int32) := qq_Ff (Q := fun i => i ≠ 0 ∧ bs_s i s ∧ cl_K g i) (i := 0) (fun z => z.1 rfl)
  have := key 255 1 (by omega) (by omega)
  rw [e] at this
  exact ⟨255 + 1, this⟩

/-- the reference's sum of weights, with what follows it -/
theorem yw_sum (hn : n ≤ 8) {m : Nat} (hm : m < 2 ^ 31) {post : Int32 → Prop} {J : Int32 → Int32 → Prop} {x1 best : Int32} (h : (ws_W bw m n ≤ best → ∀ x : Int32, x = nI m + 1 → J best x) ∧ (¬ ws_W bw m n ≤ best → ∀ x : Int32, x = nI m + 1 → J (ws_W bw m n) x)) : ∃ k, wY_heaviestStable_45 post J x1 best (nI m) fr (nI n) yw br bw bq bl bo bm be k 0 0 := by
  have key : ∀ d i, i + d = n → wY_heaviestStable_45 post J x1 best (nI m) fr (nI n) yw br bw bq bl bo bm be (d + 1) (ws_W bw m i) (nI i) := by
    intro d
    induction d with
    | zero =>
      intro i hi
      obtain rfl : i = n := by omega
      exact br_t (nI_le (Nat.le_refl _) (by omega)) h
    | succ d ih =>
      intro i hi
      refine br_f (nI_ge (by omega) (by omega)) (yw_has hm (by omega) (fun c => ?_) (fun c => ?_))
      · refine wz_1 ⟨vp_in_nI (by omega) (by omega), nm_r (e' := ws_W bw m (i + 1)) ?_ (nm_r (nI_1 i) (ih (i + 1) (by omega)))⟩
        rw [nI_clamp (by omega), ws_W_s, if_pos c]
      · refine wz_0 (nm_r (nI_1 i) ?_)
        have := ih (i + 1) (by omega)
        rw [ws_W_s, if_neg c] at this
        exact this
  exact ⟨n + 1, key n 0 (by omega)⟩

theorem xq_heavy (hn : n ≤ 8) (hX : ∀ v, v < n → ar v = nI (g v)) {s : Nat} (hs : s < 2 ^ n) {post : Int32 → Prop} (h : post (bs_F (qq_P (fun i => i ≠ 0 ∧ bs_s i s ∧ st_T g i)) (fun i a => if ws_W aw i n ≤ a then a else ws_W aw i n) 0 (s + 1))) : ∃ k, wX_heaviestStable_14 post (nI s) nw (nI n) hw ar aw aq am ac ap k 0 1 := by
  have h8 := bs_pow8 hn
  have key : ∀ d i, 0 < i → i + d = s + 1 → wX_heaviestStable_14 post (nI s) nw (nI n) hw ar aw aq am ac ap (d + 1) (bs_F (qq_P (fun i => i ≠ 0 ∧ bs_s i s ∧ st_T g i)) (fun i a => if ws_W aw i n ≤ a then a else ws_W aw i n) 0 i) (nI i) := by
    intro d
    induction d with
    | zero =>
      intro i h0 hi
      obtain rfl : i = s + 1 := by omega
      exact br_t (nI_lt (by omega) (by omega)) h
    | succ d ih =>
      intro i h0 hi
      have next := ih (i + 1) (by omega) (by omega)
      have skip : (¬ (i ≠ 0 ∧ bs_s i s ∧ st_T g i)) → wX_heaviestStable_14 post (nI s) nw (nI n) hw ar aw aq am ac ap (d + 1) (bs_F (qq_P (fun i => i ≠ 0 ∧ bs_s i s ∧ st_T g i)) (fun i a => if ws_W aw i n ≤ a then a else ws_W aw i n) 0 i) (nI (i + 1)) := by
        intro z
        rw [qq_Ff (Q := fun i => i ≠ 0 ∧ bs_s i s ∧ st_T g i) z] at next
        exact next
      refine br_f (nI_nlt (by omega) (by omega)) (xw_within (by omega) (fun c => wz_1 ?_) (fun c => wz_0 (nm_r (nI_1 i) (skip (fun z => c z.2.1)))))
      refine xw_stable hn hX (by omega) (fun K => wz_1 ?_) (fun K => wz_0 (nm_r (nI_1 i) (skip (fun z => K z.2.2))))
      rw [qq_Ft (Q := fun i => i ≠ 0 ∧ bs_s i s ∧ st_T g i) (f := fun i a => if ws_W aw i n ≤ a then a else ws_W aw i n) ⟨by omega, c, K⟩] at next
      refine xw_weight hn (by omega) ?_
      refine br_c (fun z => nm_r (nI_1 i) ?_) (fun z => nm_r (nI_1 i) ?_)
      · rw [if_pos z] at next
        exact next
      · rw [if_neg z] at next
        exact next
  have e : bs_F (qq_P (fun i => i ≠ 0 ∧ bs_s i s ∧ st_T g i)) (fun i a => if ws_W aw i n ≤ a then a else ws_W aw i n) 0 1 = (0 : Int32) := qq_Ff (Q := fun i => i ≠ 0 ∧ bs_s i s ∧ st_T g i) (i := 0) (fun z => z.1 rfl)
  have := key s 1 (by omega) (by omega)
  rw [e] at this
  exact ⟨s + 1, this⟩
theorem yq_heavy (G : gr_G n g) (hY : ∀ v, v < 8 → br v = nI (g v)) {s : Nat} (hs : s < 2 ^ n) {post : Int32 → Prop} (h : post (bs_F (qq_P (fun i => i ≠ 0 ∧ bs_s i s ∧ st_T g i)) (fun i a => if ws_W bw i n ≤ a then a else ws_W bw i n) 0 (s + 1))) : ∃ k, wY_heaviestStable_14 post (nI s) fr (nI n) yw br bw bq bl bo bm be k 0 1 := by
  have h8 := bs_pow8 G.1
  have hc : bs_F (qq_P (fun i => i ≠ 0 ∧ bs_s i s ∧ st_T g i)) (fun i a => if ws_W bw i n ≤ a then a else ws_W bw i n) 0 256 = bs_F (qq_P (fun i => i ≠ 0 ∧ bs_s i s ∧ st_T g i)) (fun i a => if ws_W bw i n ≤ a then a else ws_W bw i n) (0 : Int32) (s + 1) := by
    have := bs_F_cut (P := qq_P (fun i => i ≠ 0 ∧ bs_s i s ∧ st_T g i)) (f := fun i a => if ws_W bw i n ≤ a then a else ws_W bw i n) (a := (0 : Int32)) (m := s + 1) (fun i hi => qq_f (fun z => by have := bs_s_le z.2.1; omega)) (255 - s)
    rwa [show s + 1 + (255 - s) = 256 by omega] at this
  have key : ∀ d i, 0 < i → i + d = 256 → wY_heaviestStable_14 post (nI s) fr (nI n) yw br bw bq bl bo bm be (d + 1) (bs_F (qq_P (fun i => i ≠ 0 ∧ bs_s i s ∧ st_T g i)) (fun i a => if ws_W bw i n ≤ a then a else ws_W bw i n) 0 i) (nI i) := by
    intro d
    induction d with
    | zero =>
      intro i h0 hi
      obtain rfl : i = 256 := by omega
      refine br_t (nI_le (a := 256) (b := 256) (Nat.le_refl _) (by decide)) ?_
      rw [hc]
      exact h
    | succ d ih =>
      intro i h0 hi
      have next := ih (i + 1) (by omega) (by omega)
      have skip : (¬ (i ≠ 0 ∧ bs_s i s ∧ st_T g i)) → wY_heaviestStable_14 post (nI s) fr (nI n) yw br bw bq bl bo bm be (d + 1) (bs_F (qq_P (fun i => i ≠ 0 ∧ bs_s i s ∧ st_T g i)) (fun i a => if ws_W bw i n ≤ a then a else ws_W bw i n) 0 i) (nI (i + 1)) := by
        intro z
        rw [qq_Ff (Q := fun i => i ≠ 0 ∧ bs_s i s ∧ st_T g i) z] at next
        exact next
      refine br_f (nI_ge (b := 256) (by omega) (by decide)) (yw_within (by omega) (fun c => wz_1 ?_) (fun c => wz_0 (nm_r (nI_1 i) (skip (fun z => c z.2.1)))))
      refine yw_stable G hY (Nat.lt_of_le_of_lt (bs_s_le c) hs) (by omega) (fun K => wz_1 ?_) (fun K => wz_0 (nm_r (nI_1 i) (skip (fun z => K z.2.2))))
      rw [qq_Ft (Q := fun i => i ≠ 0 ∧ bs_s i s ∧ st_T g i) (f := fun i a => if ws_W bw i n ≤ a then a else ws_W bw i n) ⟨by omega, c, K⟩] at next
      refine yw_sum G.1 (by omega) ?_
      refine br_c (fun z => nm_r (nI_1 i) ?_) (fun z => nm_r (nI_1 i) ?_)
      · rw [if_pos z] at next
        exact next
      · rw [if_neg z] at next
        exact next
  have e : bs_F (qq_P (fun i => i ≠ 0 ∧ bs_s i s ∧ st_T g i)) (fun i a => if ws_W bw i n ≤ a then a else ws_W bw i n) 0 1 = (0 : Int32) := qq_Ff (Q := fun i => i ≠ 0 ∧ bs_s i s ∧ st_T g i) (i := 0) (fun z => z.1 rfl)
  have := key 255 1 (by omega) (by omega)
  rw [e] at this
  exact ⟨255 + 1, this⟩
end
