/-! a vertex less -/
def rm_s (v u : Nat) : Nat := if u < v then u else u + 1
def rm_w (m v : Nat) : Nat := (m &&& (2 ^ v - 1)) ||| (m / 2 ^ (v + 1) * 2 ^ v)
theorem rm_w_t (m v x : Nat) : (rm_w m v).testBit x = m.testBit (rm_s v x) := by
  unfold rm_w rm_s
  rw [Nat.testBit_or, Nat.testBit_and, Nat.testBit_two_pow_sub_one, Nat.testBit_mul_two_pow, Nat.testBit_div_two_pow]
  by_cases c : x < v
  · rw [if_pos c, decide_eq_true c, decide_eq_false (by omega)]
    simp
  · rw [if_neg c, decide_eq_false c, decide_eq_true (by omega), show x - v + (v + 1) = x + 1 by omega]
    simp
theorem rm_nI {m v : Nat} (hm : m < 256) (hv : v < 8) : (nI m &&& (((1 : Int32) <<< (nI v &&& 31)) - 1)) ||| ((nI m >>> ((nI v + 1) &&& 31)) <<< (nI v &&& 31)) = nI (rm_w m v) := by
  have hp : 2 ^ v ≤ 256 := bs_pow8 (by omega)
  have hd : m / 2 ^ (v + 1) ≤ m := Nat.div_le_self _ _
  have hb : m / 2 ^ (v + 1) * 2 ^ v < 2 ^ 32 := by
    have : m / 2 ^ (v + 1) * 2 ^ v ≤ 256 * 256 := Nat.mul_le_mul (by omega) hp
    omega
  rw [bs_all (by omega), nx_and, nI_1, pk_shrN (by omega) _ (v + 1) (s_l (v + 1) (by omega)), pk_shlN _ v (s_l v (by omega)) hb, bs_or]
  rfl
def rm_g (g : Nat → Nat) (n v u : Nat) : Nat := if u < n then rm_w (g (rm_s v u)) v else 0
theorem rm_t {g : Nat → Nat} {n v u x : Nat} : (rm_g g n v u).testBit x = true ↔ u < n ∧ (g (rm_s v u)).testBit (rm_s v x) = true := by
  unfold rm_g
  by_cases c : u < n
  · rw [if_pos c, rm_w_t]
    exact ⟨fun h => ⟨c, h⟩, fun h => h.2⟩
  · rw [if_neg c, Nat.zero_testBit]
    exact ⟨fun h => absurd h (by decide), fun h => absurd h.1 c⟩
theorem rm_G {g : Nat → Nat} {n v : Nat} (G : gr_G (n + 1) g) (hv : v < n + 1) : gr_G n (rm_g g n v) := by
  have hs : ∀ x, rm_s v x < n + 1 → x < n := by
    intro x h
    unfold rm_s at h
    split at h <;> omega
  refine ⟨by have := G.1; omega, fun u x h => ?_, fun u x h => ?_, fun u h => ?_⟩
  · obtain ⟨h1, h2⟩ := rm_t.mp h
    exact ⟨h1, hs x (G.2.1 _ _ h2).2⟩
  · obtain ⟨h1, h2⟩ := rm_t.mp h
    exact rm_t.mpr ⟨hs x (G.2.1 _ _ h2).2, G.2.2.1 _ _ h2⟩
  · exact G.2.2.2 _ (rm_t.mp h).2
section
variable {nw hw : Int32} {ar aw aq am ac ap : Nat → Int32} {fr yw : Int32} {br bw bq bl bo bm be : Nat → Int32} {n : Nat} {g : Nat → Nat}
theorem xw_without {m v : Nat} (hm : m < 256) (hv : v < 8) {post : Int32 → Prop} (h : post (nI (rm_w m v))) : wpX_withoutPlace post (nI m) (nI v) := by
  refine nm_e (nm_e ?_)
  rw [rm_nI hm hv]
  exact h
theorem yw_without {m v : Nat} (hm : m < 256) (hv : v < 8) {post : Int32 → Prop} (h : post (nI (rm_w m v))) : wpY_without post (fr, nI n, yw, br, bw, bq, bl, bo, bm, be) (nI m) (nI v) := by
  refine nm_e ?_
  rw [rm_nI hm hv]
  exact h
/-- the component's removeVertex, behind its test; n + 1 vertices before -/
theorem xw_remove (G : gr_G (n + 1) g) (hX : ∀ u, u < n + 1 → ar u = nI (g u)) {v : Nat} (hv : v < n + 1) {post : Int32 → SX → Prop} (h : ∀ ar' aw' : Nat → Int32, (∀ u, u < n → ar' u = nI (rm_g g n v u)) → (∀ u, u < n → aw' u = aw (rm_s v u)) → post (nI n) (nw, nI n, 0, ar', aw', aq, am, ac, ap)) : ∃ k, wX_removeVertex_12 post (nI v) nw (nI (n + 1)) hw k (nI v) ar aw aq am ac ap := by
  have hn := G.1
  have second : ∀ aw' : Nat → Int32, (∀ u, u < n → aw' u = aw (rm_s v u)) → ∀ d i (ar' : Nat → Int32), i + d = n → (∀ u, u < n → ar' u = nI (if u < i then rm_g g n v u else g (rm_s v u))) → wX_removeVertex_68 post (nI v) nw (nI n) hw (d + 1) (nI i) ar' aw' aq am ac ap := by
    intro aw' hw' d
    induction d with
    | zero =>
      intro i ar' hi hA
      obtain rfl : i = n := by omega
      refine br_t (nI_le (Nat.le_refl _) (by omega)) (h ar' aw' (fun u hu => ?_) hw')
      rw [hA u hu, if_pos hu]
    | succ d ih =>
      intro i ar' hi hA
      refine br_f (nI_ge (by omega) (by omega)) ⟨vp_in_nI (by omega) (by decide), ?_⟩
      rw [nI_clamp (by omega), hA i (by omega), if_neg (by omega)]
      refine xw_without (gr_256 G _) (by omega) ⟨vp_in_nI (by omega) (by decide), nm_e (nm_r (nI_1 i) (ih (i + 1) _ (by omega) (fun u hu => ?_)))⟩
      by_cases e : u = i
      · rw [e, pk_us, if_pos (by omega)]
        unfold rm_g
        rw [if_pos (by omega)]
      · rw [pk_un e, hA u hu]
        by_cases z : u < i
        · rw [if_pos z, if_pos (by omega)]
        · rw [if_neg z, if_neg (by omega)]
  have first : ∀ d i (ar' aw' : Nat → Int32), v ≤ i → i + d = n → (∀ u, u < n + 1 → ar' u = nI (if u < i then g (rm_s v u) else g u)) → (∀ u, u < n + 1 → aw' u = if u < i then aw (rm_s v u) else aw u) → wX_removeVertex_12 post (nI v) nw (nI (n + 1)) hw (d + 1) (nI i) ar' aw' aq am ac ap := by
    intro d
    induction d with
    | zero =>
      intro i ar' aw' hvi hi hA hW
      obtain rfl : i = n := by omega
      refine br_t (by rw [nI_pred]; exact nI_le (Nat.le_refl _) (by omega)) (nm_r (nI_pred i) ⟨i + 1, second aw' (fun u hu => ?_) i 0 ar' (by omega) (fun u hu => ?_)⟩)
      · rw [hW u (by omega), if_pos hu]
      · rw [hA u (by omega), if_pos hu, if_neg (by omega)]
    | succ d ih =>
      intro i ar' aw' hvi hi hA hW
      refine br_f (by rw [nI_pred]; exact nI_ge (by omega) (by omega)) ?_
      rw [nI_1 i, nI_clamp (n := i) (by omega), nI_clamp (n := i + 1) (by omega)]
      refine ⟨vp_in_nI (by omega) (by decide), vp_in_nI (by omega) (by decide), nm_e ⟨vp_in_nI (by omega) (by decide), vp_in_nI (by omega) (by decide), nm_e (nm_e (ih (i + 1) _ _ (by omega) (by omega) (fun u hu => ?_) (fun u hu => ?_)))⟩⟩
      · by_cases e : u = i
        · rw [e, pk_us, if_pos (by omega), hA (i + 1) (by omega), if_neg (by omega)]
          unfold rm_s
          rw [if_neg (by omega)]
        · rw [pk_un e, hA u hu]
          by_cases z : u < i
          · rw [if_pos z, if_pos (by omega)]
          · rw [if_neg z, if_neg (by omega)]
      · by_cases e : u = i
        · rw [e, pk_us, if_pos (by omega), hW (i + 1) (by omega), if_neg (by omega)]
          unfold rm_s
          rw [if_neg (by omega)]
        · rw [pk_un e, hW u hu]
          by_cases z : u < i
          · rw [if_pos z, if_pos (by omega)]
          · rw [if_neg z, if_neg (by omega)]
  have same : ∀ u, u < v → rm_s v u = u := fun u hu => if_pos hu
  refine ⟨n - v + 1, first (n - v) v ar aw (Nat.le_refl _) (by omega) (fun u hu => ?_) (fun u hu => ?_)⟩
  · rw [hX u hu]
    by_cases z : u < v
    · rw [if_pos z, same u z]
    · rw [if_neg z]
  · by_cases z : u < v
    · rw [if_pos z, same u z]
    · rw [if_neg z]
theorem yw_remove (G : gr_G (n + 1) g) (hY : ∀ u, u < 8 → br u = nI (g u)) {v : Nat} (hv : v < n + 1) {post : Int32 → SY → Prop} (h : ∀ br' bw' : Nat → Int32, (∀ u, u < 8 → br' u = nI (rm_g g n v u)) → (∀ u, u < n → bw' u = bw (rm_s v u)) → post (nI n) (fr, nI n, 0, br', bw', bq, bl, bo, bm, be)) : ∃ k, wY_removeVertex_16 post (nI v) fr (nI (n + 1)) yw k (nI v) br bw bq bl bo bm be := by
  have hn := G.1
  have hG : ∀ u, n ≤ u → rm_g g n v u = 0 := fun u hu => if_neg (by omega)
  have second : ∀ bw' : Nat → Int32, (∀ u, u < n → bw' u = bw (rm_s v u)) → ∀ d i (br' : Nat → Int32), i + d = n → (∀ u, u < 8 → br' u = nI (if u < i ∨ n ≤ u then rm_g g n v u else g (rm_s v u))) → wY_removeVertex_82 post (nI v) fr (nI n) yw (d + 1) (nI i) br' bw' bq bl bo bm be := by
    intro bw' hw' d
    induction d with
    | zero =>
      intro i br' hi hA
      obtain rfl : i = n := by omega
      refine br_t (nI_le (Nat.le_refl _) (by omega)) (h br' bw' (fun u hu => ?_) hw')
      rw [hA u hu, if_pos (by omega)]
    | succ d ih =>
      intro i br' hi hA
      refine br_f (nI_ge (by omega) (by omega)) ⟨vp_in_nI (by omega) (by decide), ?_⟩
      rw [nI_clamp (by omega), hA i (by omega), if_neg (by omega)]
      refine yw_without (gr_256 G _) (by omega) ⟨vp_in_nI (by omega) (by decide), nm_e (nm_r (nI_1 i) (ih (i + 1) _ (by omega) (fun u hu => ?_)))⟩
      by_cases e : u = i
      · rw [e, pk_us, if_pos (by omega)]
        unfold rm_g
        rw [if_pos (by omega)]
      · rw [pk_un e, hA u hu]
        by_cases z : u < i ∨ n ≤ u
        · rw [if_pos z, if_pos (by omega)]
        · rw [if_neg z, if_neg (by omega)]
  have first : ∀ d i (br' bw' : Nat → Int32), v ≤ i → i + d = n → (∀ u, u < 8 → br' u = nI (if u < i then g (rm_s v u) else g u)) → (∀ u, u < n + 1 → bw' u = if u < i then bw (rm_s v u) else bw u) → wY_removeVertex_16 post (nI v) fr (nI (n + 1)) yw (d + 1) (nI i) br' bw' bq bl bo bm be := by
    intro d
    induction d with
    | zero =>
      intro i br' bw' hvi hi hA hW
      obtain rfl : i = n := by omega
      refine br_t (by rw [nI_pred]; exact nI_le (Nat.le_refl _) (by omega)) (nm_r (nI_pred i) ⟨vp_in_nI (by omega) (by decide), nm_e ⟨i + 1, second bw' (fun u hu => ?_) i 0 _ (by omega) (fun u hu => ?_)⟩⟩)
      · rw [hW u (by omega), if_pos hu]
      · rw [nI_clamp (by omega)]
        by_cases e : u = i
        · rw [e, pk_us, if_pos (by omega), hG i (Nat.le_refl _)]
          rfl
        · rw [pk_un e, hA u hu]
          by_cases z : u < i
          · rw [if_pos z, if_neg (by omega)]
          · rw [if_neg z, if_pos (by omega), hG u (by omega), gr_out G (by omega)]
    | succ d ih =>
      intro i br' bw' hvi hi hA hW
      refine br_f (by rw [nI_pred]; exact nI_ge (by omega) (by omega)) ?_
      rw [nI_1 i, nI_clamp (n := i) (by omega), nI_clamp (n := i + 1) (by omega)]
      refine ⟨vp_in_nI (by omega) (by decide), vp_in_nI (by omega) (by decide), nm_e ⟨vp_in_nI (by omega) (by decide), vp_in_nI (by omega) (by decide), nm_e (nm_e (ih (i + 1) _ _ (by omega) (by omega) (fun u hu => ?_) (fun u hu => ?_)))⟩⟩
      · by_cases e : u = i
        · rw [e, pk_us, if_pos (by omega), hA (i + 1) (by omega), if_neg (by omega)]
          unfold rm_s
          rw [if_neg (by omega)]
        · rw [pk_un e, hA u hu]
          by_cases z : u < i
          · rw [if_pos z, if_pos (by omega)]
          · rw [if_neg z, if_neg (by omega)]
      · by_cases e : u = i
        · rw [e, pk_us, if_pos (by omega), hW (i + 1) (by omega), if_neg (by omega)]
          unfold rm_s
          rw [if_neg (by omega)]
        · rw [pk_un e, hW u hu]
          by_cases z : u < i
          · rw [if_pos z, if_pos (by omega)]
          · rw [if_neg z, if_neg (by omega)]
  have same : ∀ u, u < v → rm_s v u = u := fun u hu => if_pos hu
  refine ⟨n - v + 1, first (n - v) v br bw (Nat.le_refl _) (by omega) (fun u hu => ?_) (fun u hu => ?_)⟩
  · rw [hY u hu]
    by_cases z : u < v
    · rw [if_pos z, same u z]
    · rw [if_neg z]
  · by_cases z : u < v
    · rw [if_pos z, same u z]
    · rw [if_neg z]
end
/-! the complement -/
def cp_g (g : Nat → Nat) (n v : Nat) : Nat := if v < n then bs_d (bs_d (2 ^ n - 1) (g v)) (2 ^ v) else 0
theorem cp_t {g : Nat → Nat} {n v x : Nat} : (cp_g g n v).testBit x = true ↔ v < n ∧ x < n ∧ ¬ (g v).testBit x = true ∧ v ≠ x := by
  unfold cp_g
  by_cases c : v < n
  · rw [if_pos c, bs_d_t, bs_d_t, Nat.testBit_two_pow_sub_one, Nat.testBit_two_pow]
    simp [c]
    constructor
    · rintro ⟨⟨a, b⟩, d⟩
      exact ⟨a, b, d⟩
    · rintro ⟨a, b, d⟩
      exact ⟨⟨a, b⟩, d⟩
  · rw [if_neg c, Nat.zero_testBit]
    exact ⟨fun h => absurd h (by decide), fun h => absurd h.1 c⟩
theorem cp_G {g : Nat → Nat} {n : Nat} (G : gr_G n g) : gr_G n (cp_g g n) := by
  refine ⟨G.1, fun v x h => ?_, fun v x h => ?_, fun v h => ?_⟩
  · have := cp_t.mp h
    exact ⟨this.1, this.2.1⟩
  · obtain ⟨a, b, c, d⟩ := cp_t.mp h
    exact cp_t.mpr ⟨b, a, fun z => c (G.2.2.1 _ _ z), fun z => d z.symm⟩
  · exact (cp_t.mp h).2.2.2 rfl
/-- the sum of the degrees below k -/
def cp_e (g : Nat → Nat) : Nat → Nat
  | 0 => 0
  | k + 1 => cp_e g k + bs_c (g k) 8
theorem cp_row {n v : Nat} {x : Nat} (hn : n ≤ 8) (hv : v < n) : (nI (2 ^ n - 1) &&& (nI x ^^^ (-1))) &&& (((1 : Int32) <<< (nI v &&& 31)) ^^^ (-1)) = nI (bs_d (bs_d (2 ^ n - 1) x) (2 ^ v)) := by
  rw [bs_diff, bs_1 v (by omega), bs_diff]
section
variable {nw hw : Int32} {ar aw aq am ac ap : Nat → Int32} {fr yw : Int32} {br bw bq bl bo bm be : Nat → Int32} {n : Nat} {g : Nat → Nat}
theorem xw_edges (G : gr_G n g) (hX : ∀ v, v < n → ar v = nI (g v)) {post : Int32 → Prop} (h : post (nI (cp_e g n) / 2)) : wpX_edgeCount post (nw, nI n, hw, ar, aw, aq, am, ac, ap) := by
  have hn := G.1
  have key : ∀ d i, i + d = n → wX_edgeCount_4 post nw (nI n) hw ar aw aq am ac ap (d + 1) (nI (cp_e g i)) (nI i) := by
    intro d
    induction d with
    | zero =>
      intro i hi
      obtain rfl : i = n := by omega
      exact br_t (nI_le (Nat.le_refl _) (by omega)) ⟨by decide, h⟩
    | succ d ih =>
      intro i hi
      refine br_f (nI_ge (by omega) (by omega)) ⟨vp_in_nI (by omega) (by decide), ?_⟩
      rw [nI_clamp (by omega), hX i (by omega)]
      exact xw_count (by have := gr_256 G i; omega) (nm_r (e' := nI (cp_e g (i + 1))) (nI_add _ _) (nm_r (nI_1 i) (ih (i + 1) (by omega))))
  exact Exists.intro (n + 1) (key n 0 (by omega))
theorem xw_compl (G : gr_G n g) (hX : ∀ v, v < n → ar v = nI (g v)) {post : Int32 → SX → Prop} (h : ∀ ar : Nat → Int32, (∀ v, v < n → ar v = nI (cp_g g n v)) → post (nI (cp_e (cp_g g n) n) / 2) (nw, nI n, 0, ar, aw, aq, am, ac, ap)) : wpX_complement post (nw, nI n, hw, ar, aw, aq, am, ac, ap) := by
  have hn := G.1
  have key : ∀ d i (ar : Nat → Int32), i + d = n → (∀ v, v < n → ar v = nI (if v < i then cp_g g n v else g v)) → wX_complement_2 post nw (nI n) hw (d + 1) (nI i) ar aw aq am ac ap := by
    intro d
    induction d with
    | zero =>
      intro i ar hi hA
      obtain rfl : i = n := by omega
      have hA' : ∀ v, v < i → ar v = nI (cp_g g i v) := fun v hv => by rw [hA v hv, if_pos hv]
      exact br_t (nI_le (Nat.le_refl _) (by omega)) (xw_edges (cp_G G) hA' (h ar hA'))
    | succ d ih =>
      intro i ar hi hA
      refine br_f (nI_ge (by omega) (by omega)) (xw_whole hn ⟨vp_in_nI (by omega) (by decide), vp_in_nI (by omega) (by decide), nm_e (nm_r (nI_1 i) (ih (i + 1) _ (by omega) (fun v hv => ?_)))⟩)
      rw [nI_clamp (by omega)]
      by_cases e : v = i
      · rw [e, pk_us, hA i (by omega), if_neg (by omega), if_pos (by omega), cp_row hn (by omega)]
        unfold cp_g
        rw [if_pos (by omega)]
      · rw [pk_un e, hA v hv]
        by_cases z : v < i
        · rw [if_pos z, if_pos (by omega)]
        · rw [if_neg z, if_neg (by omega)]
  exact Exists.intro (n + 1) (key n 0 ar (by omega) (fun v hv => by rw [if_neg (by omega)]; exact hX v hv))
theorem yw_compl (G : gr_G n g) (hY : ∀ v, v < 8 → br v = nI (g v)) {post : Int32 → SY → Prop} (h : ∀ br : Nat → Int32, (∀ v, v < 8 → br v = nI (cp_g g n v)) → post (nI (cp_e (cp_g g n) n) / 2) (fr, nI n, 0, br, bw, bq, bl, bo, bm, be)) : wpY_complement post (fr, nI n, yw, br, bw, bq, bl, bo, bm, be) := by
  have hn := G.1
  have h8 := bs_pow8 hn
  have out : ∀ v, n ≤ v → cp_g g n v = 0 := fun v hv => if_neg (by omega)
  have key : ∀ d i (br : Nat → Int32), i + d = n → (∀ v, v < 8 → br v = nI (if v < i then cp_g g n v else g v)) → wY_complement_13 post (nI (2 ^ n - 1)) fr (nI n) yw (d + 1) (nI (cp_e (cp_g g n) i)) (nI i) br bw bq bl bo bm be := by
    intro d
    induction d with
    | zero =>
      intro i br hi hA
      obtain rfl : i = n := by omega
      refine br_t (nI_le (Nat.le_refl _) (by omega)) ⟨by decide, h br (fun v hv => ?_)⟩
      rw [hA v hv]
      by_cases z : v < i
      · rw [if_pos z]
      · rw [if_neg z, out v (by omega), gr_out G (by omega)]
    | succ d ih =>
      intro i br hi hA
      have new : (nI (2 ^ n - 1) &&& (br i ^^^ (-1))) &&& (((1 : Int32) <<< (nI i &&& 31)) ^^^ (-1)) = nI (cp_g g n i) := by
        rw [hA i (by omega), if_neg (by omega), cp_row hn (by omega)]
        unfold cp_g
        rw [if_pos (by omega)]
      refine br_f (nI_ge (by omega) (by omega)) ?_
      rw [nI_clamp (by omega), new]
      refine ⟨vp_in_nI (by omega) (by decide), vp_in_nI (by omega) (by decide), nm_e ⟨vp_in_nI (by omega) (by decide), ?_⟩⟩
      rw [pk_us]
      refine yw_size (by have := gr_256 (cp_G G) i; omega) (nm_r (e' := nI (cp_e (cp_g g n) (i + 1))) (nI_add _ _) (nm_r (nI_1 i) (ih (i + 1) _ (by omega) (fun v hv => ?_))))
      by_cases e : v = i
      · rw [e, pk_us, if_pos (by omega)]
      · rw [pk_un e, hA v hv]
        by_cases z : v < i
        · rw [if_pos z, if_pos (by omega)]
        · rw [if_neg z, if_neg (by omega)]
  exact nm_r (bs_all (by omega)) (Exists.intro (n + 1) (key n 0 br (by omega) (fun v hv => by rw [if_neg (by omega)]; exact hY v hv)))
end
