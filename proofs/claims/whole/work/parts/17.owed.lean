/-- the relation: the same numbers, the same graph (the component's rows from n on are free, the reference's are 0), the same weights and witness -/
def i_Rel (_ : Nat) (u : SX) (v : SY) : Prop := ∃ (n : Nat) (g : Nat → Nat) (nw hw : Int32) (ar aw aq am ac ap br bw bl bo bm be : Nat → Int32), u = (nw, nI n, hw, ar, aw, aq, am, ac, ap) ∧ v = (nw, nI n, hw, br, bw, aq, bl, bo, bm, be) ∧ gr_G n g ∧ (∀ x, x < n → ar x = nI (g x)) ∧ (∀ x, x < 8 → br x = nI (g x)) ∧ ∀ x, x < n → aw x = bw x
theorem i_up {k : Nat} {u : SX} {v : SY} (h : i_Rel k u v) : i_Rel (k + 3) u v := h
theorem rl_0 (z : Int32) (k : Nat) : i_Rel k (z, 0, 0, (fun _ => 0), (fun _ => 0), (fun _ => 0), (fun _ => 0), (fun _ => 0), (fun _ => 0)) (z, 0, 0, (fun _ => 0), (fun _ => 0), (fun _ => 0), (fun _ => 0), (fun _ => 0), (fun _ => 0), (fun _ => 0)) := by
  have e : ∀ v x, ¬ ((fun _ => 0 : Nat → Nat) v).testBit x = true := fun v x h => by
    rw [Nat.zero_testBit] at h
    exact absurd h (by decide)
  exact ⟨0, fun _ => 0, z, 0, _, _, _, _, _, _, _, _, _, _, _, _, rfl, rfl, ⟨by decide, fun v x h => absurd h (e v x), fun v x h => absurd h (e v x), fun v h => e v v h⟩, fun x hx => absurd hx (by omega), fun x _ => rfl, fun x hx => absurd hx (by omega)⟩
theorem i_vc0 (k0 : Int32) : wpX_init (fun u => wpY_init (fun v => i_Rel 1 u v) k0) k0 := by
  refine br_c (fun a => br_c (fun b => ?_) (fun b => ?_)) (fun a => ?_)
  · exact br_t a (br_t b (rl_0 k0 1))
  · exact br_t a (br_f b (rl_0 100 1))
  · exact br_f a (rl_0 0 1)
theorem ws_eq {w w' : Nat → Int32} (m : Nat) : ∀ k, (∀ x, x < k → w x = w' x) → ws_W w m k = ws_W w' m k
  | 0, _ => rfl
  | k + 1, h => by
    rw [ws_W_s, ws_W_s, ws_eq m k (fun x hx => h x (by omega)), h k (by omega)]
theorem i_vc_addVertex {k : Nat} {u : SX} {v : SY} (I : i_Rel k u v) (hk : k + 3 ≤ 1537) (v1 : Int32) : wpX_addVertex (fun r u' => wpY_addVertex (fun r' v' => r' = r ∧ i_Rel (k + 3) u' v') v v1) u v1 := by
  have R := i_up I
  obtain ⟨n, g, nw, hw, ar, aw, aq, am, ac, ap, br, bw, bl, bo, bm, be, rfl, rfl, G, hX, hY, hW⟩ := I
  have hn := G.1
  have h8 := bs_pow8 hn
  unfold wpX_addVertex wpY_addVertex
  dsimp only
  rcases Nat.lt_or_ge n 8 with c | c
  · have hne : ¬ nI n = 8 := fun e => by
      have := (nI_eq (a := n) (b := 8) (by omega) (by decide)).mp e
      omega
    refine br_t (nI_lt (b := 8) c (by decide)) ?_
    rcases pk_ix v1 (n := 2 ^ n) (by omega) with h | h | ⟨m, hm, rfl⟩
    · exact xw_isSf hn (Or.inl h) (wz_0 (br_f hne (yw_isSf hn (Or.inl h) (wz_0 ⟨rfl, R⟩))))
    · exact xw_isSf hn (Or.inr h) (wz_0 (br_f hne (yw_isSf hn (Or.inr h) (wz_0 ⟨rfl, R⟩))))
    · have GA := ad_G G c hm
      refine xw_isSt hn hm (wz_1 (xw_join G hX c hm (fun ar' hA => ?_)))
      refine xw_find GA hA (fun N => wz_0 ?_) (fun a b c' d hb hc hd P N => wz_1 ?_)
      · refine br_f hne (yw_isSt hn hm (wz_1 ⟨vp_in_nI c (by decide), nm_e ?_⟩))
        refine yw_add G hY c hm (fun br' N' hB => ⟨rfl, ?_⟩) (fun br' a b c' d hb hc hd P N' hB => ?_)
        · refine ⟨n + 1, ad_g g n m, nw, 0, _, _, _, _, _, _, _, _, _, _, _, _, rfl, rfl, GA, hA, hB, fun x hx => ?_⟩
          show upd aw n nw x = upd bw n nw x
          by_cases e : x = n
          · rw [e, pk_us, pk_us]
          · rw [pk_un e, pk_un e]
            exact hW x (by omega)
        · exact absurd P (N a b c' d hb hc hd (by have := GA.2.1 a b P.2.1; unfold fp_K; omega))
      · refine xw_unjoin G c hm hA (fun ar'' hA' => ?_)
        refine br_f hne (yw_isSt hn hm (wz_1 ⟨vp_in_nI c (by decide), nm_e ?_⟩))
        refine yw_add G hY c hm (fun br' N' hB => ?_) (fun br' a' b' c'' d' hb' hc' hd' P' N' hB => ⟨rfl, ?_⟩)
        · exact absurd P (N' a b c' d hb hc hd (by have := GA.2.1 a b P.2.1; unfold fp_K; omega))
        · obtain ⟨rfl, rfl, rfl, rfl⟩ := fp_uniq hb hc hd hb' hc' hd' P N P' N'
          refine ⟨n, g, nw, 1, _, _, _, _, _, _, _, _, _, _, _, _, rfl, rfl, G, hA', hB, fun x hx => ?_⟩
          show upd aw n nw x = bw x
          rw [pk_un (by omega)]
          exact hW x hx
  · obtain rfl : n = 8 := by omega
    exact br_f (nI_nlt (a := 8) (b := 8) (Nat.le_refl _) (by decide)) (br_t rfl ⟨rfl, R⟩)
theorem i_vc_removeVertex {k : Nat} {u : SX} {v : SY} (I : i_Rel k u v) (hk : k + 3 ≤ 1537) (v1 : Int32) : wpX_removeVertex (fun r u' => wpY_removeVertex (fun r' v' => r' = r ∧ i_Rel (k + 3) u' v') v v1) u v1 := by
  have R := i_up I
  obtain ⟨n, g, nw, hw, ar, aw, aq, am, ac, ap, br, bw, bl, bo, bm, be, rfl, rfl, G, hX, hY, hW⟩ := I
  have hn := G.1
  unfold wpX_removeVertex wpY_removeVertex
  dsimp only
  rcases pk_ix v1 (n := n) (by omega) with h | h | ⟨a, ha, rfl⟩
  · exact xw_isVf (Or.inl h) (wz_0 (br_t h ⟨rfl, R⟩))
  · exact xw_isVf (Or.inr h) (wz_0 (br_c (fun _ => ⟨rfl, R⟩) (fun _ => br_f (Int32.not_lt.mpr h) ⟨rfl, R⟩)))
  · obtain ⟨n, rfl⟩ : ∃ m, n = m + 1 := ⟨n - 1, by omega⟩
    refine xw_isVt hn ha (wz_1 (xw_remove G hX ha (fun ar' aw' hA hA' => ?_)))
    refine br_f (nI_pos (by omega)) (br_t (nI_lt ha (by omega)) (yw_remove G hY ha (fun br' bw' hB hB' => ⟨rfl, ?_⟩)))
    refine ⟨n, rm_g g n a, nw, 0, _, _, _, _, _, _, _, _, _, _, _, _, rfl, rfl, rm_G G ha, hA, hB, fun x hx => ?_⟩
    rw [hA' x hx, hB' x hx]
    refine hW _ ?_
    unfold rm_s
    split <;> omega
theorem i_vc_complement {k : Nat} {u : SX} {v : SY} (I : i_Rel k u v) (hk : k + 3 ≤ 1537) : wpX_complement (fun r u' => wpY_complement (fun r' v' => r' = r ∧ i_Rel (k + 3) u' v') v) u := by
  obtain ⟨n, g, nw, hw, ar, aw, aq, am, ac, ap, br, bw, bl, bo, bm, be, rfl, rfl, G, hX, hY, hW⟩ := I
  refine xw_compl G hX (fun ar' hA => yw_compl G hY (fun br' hB => ⟨rfl, ?_⟩))
  exact ⟨n, cp_g g n, nw, 0, _, _, _, _, _, _, _, _, _, _, _, _, rfl, rfl, cp_G G, hA, hB, hW⟩
theorem i_vc_setWeight {k : Nat} {u : SX} {v : SY} (I : i_Rel k u v) (hk : k + 3 ≤ 1537) (v1 : Int32) (v2 : Int32) : wpX_setWeight (fun r u' => wpY_setWeight (fun r' v' => r' = r ∧ i_Rel (k + 3) u' v') v v1 v2) u v1 v2 := by
  have R := i_up I
  obtain ⟨n, g, nw, hw, ar, aw, aq, am, ac, ap, br, bw, bl, bo, bm, be, rfl, rfl, G, hX, hY, hW⟩ := I
  have hn := G.1
  unfold wpX_setWeight wpY_setWeight
  dsimp only
  rcases pk_ix v1 (n := n) (by omega) with h | h | ⟨a, ha, rfl⟩
  · exact xw_isVf (Or.inl h) (wz_0 (yw_isVf (Or.inl h) (wz_0 ⟨rfl, R⟩)))
  · exact xw_isVf (Or.inr h) (wz_0 (yw_isVf (Or.inr h) (wz_0 ⟨rfl, R⟩)))
  · refine xw_isVt hn ha (wz_1 (br_c (fun c => ?_) (fun c => br_c (fun d => ?_) (fun d => ?_))))
    · exact yw_isVt hn ha (wz_1 (br_t c ⟨rfl, R⟩))
    · refine ⟨vp_in_nI (by omega) (by decide), nm_e (yw_isVt hn ha (wz_1 (br_f c (br_t d ⟨vp_in_nI (by omega) (by decide), nm_e ⟨rfl, ?_⟩⟩))))⟩
      refine ⟨n, g, nw, hw, _, _, _, _, _, _, _, _, _, _, _, _, rfl, rfl, G, hX, hY, fun x hx => ?_⟩
      by_cases e : x = (nI a).toNatClampNeg
      · rw [e, pk_us, pk_us]
      · rw [pk_un e, pk_un e]
        exact hW x hx
    · exact yw_isVt hn ha (wz_1 (br_f c (br_f d ⟨rfl, R⟩)))
theorem i_vc_size {k : Nat} {u : SX} {v : SY} (I : i_Rel k u v) (hk : k + 3 ≤ 1537) : wpX_size (fun r => wpY_size (fun r' => r' = r ∧ i_Rel (k + 3) u v) v) u := by
  have R := i_up I
  obtain ⟨n, g, nw, hw, ar, aw, aq, am, ac, ap, br, bw, bl, bo, bm, be, rfl, rfl, G, hX, hY, hW⟩ := I
  exact And.intro rfl R
theorem i_vc_adjacent {k : Nat} {u : SX} {v : SY} (I : i_Rel k u v) (hk : k + 3 ≤ 1537) (v1 : Int32) (v2 : Int32) : wpX_adjacent (fun r => wpY_adjacent (fun r' => r' = r ∧ i_Rel (k + 3) u v) v v1 v2) u v1 v2 := by
  have R := i_up I
  obtain ⟨n, g, nw, hw, ar, aw, aq, am, ac, ap, br, bw, bl, bo, bm, be, rfl, rfl, G, hX, hY, hW⟩ := I
  have hn := G.1
  have hg := gr_256 G
  unfold wpX_adjacent wpY_adjacent
  dsimp only
  rcases pk_ix v1 (n := n) (by omega) with h | h | ⟨a, ha, rfl⟩
  · exact xw_isVf (Or.inl h) (wz_0 (yw_isVf (Or.inl h) (wz_0 ⟨rfl, R⟩)))
  · exact xw_isVf (Or.inr h) (wz_0 (yw_isVf (Or.inr h) (wz_0 ⟨rfl, R⟩)))
  · refine xw_isVt hn ha (wz_1 ?_)
    rcases pk_ix v2 (n := n) (by omega) with h | h | ⟨b, hb, rfl⟩
    · exact xw_isVf (Or.inl h) (wz_0 (yw_isVt hn ha (wz_1 (yw_isVf (Or.inl h) (wz_0 ⟨rfl, R⟩)))))
    · exact xw_isVf (Or.inr h) (wz_0 (yw_isVt hn ha (wz_1 (yw_isVf (Or.inr h) (wz_0 ⟨rfl, R⟩)))))
    · refine xw_isVt hn hb (wz_1 (xw_joined hn hX hg ha (by omega) (fun c => wz_1 ?_) (fun c => wz_0 ?_)))
      · exact yw_isVt hn ha (wz_1 (yw_isVt hn hb (wz_1 (yw_linked hY hg (by omega) (by omega) (fun _ => wz_1 ⟨rfl, R⟩) (fun z => absurd c z)))))
      · exact yw_isVt hn ha (wz_1 (yw_isVt hn hb (wz_1 (yw_linked hY hg (by omega) (by omega) (fun z => absurd z c) (fun _ => wz_0 ⟨rfl, R⟩)))))
theorem i_vc_distance {k : Nat} {u : SX} {v : SY} (I : i_Rel k u v) (hk : k + 3 ≤ 1537) (v1 : Int32) (v2 : Int32) : wpX_distance (fun r => wpY_distance (fun r' => r' = r ∧ i_Rel (k + 3) u v) v v1 v2) u v1 v2 := by
  have R := i_up I
  obtain ⟨n, g, nw, hw, ar, aw, aq, am, ac, ap, br, bw, bl, bo, bm, be, rfl, rfl, G, hX, hY, hW⟩ := I
  have hn := G.1
  unfold wpX_distance wpY_distance
  dsimp only
  rcases pk_ix v1 (n := n) (by omega) with h | h | ⟨a, ha, rfl⟩
  · exact xw_isVf (Or.inl h) (wz_0 (yw_isVf (Or.inl h) (wz_0 ⟨rfl, R⟩)))
  · exact xw_isVf (Or.inr h) (wz_0 (yw_isVf (Or.inr h) (wz_0 ⟨rfl, R⟩)))
  · refine xw_isVt hn ha (wz_1 ?_)
    rcases pk_ix v2 (n := n) (by omega) with h | h | ⟨b, hb, rfl⟩
    · exact xw_isVf (Or.inl h) (wz_0 (yw_isVt hn ha (wz_1 (yw_isVf (Or.inl h) (wz_0 ⟨rfl, R⟩)))))
    · exact xw_isVf (Or.inr h) (wz_0 (yw_isVt hn ha (wz_1 (yw_isVf (Or.inr h) (wz_0 ⟨rfl, R⟩)))))
    · obtain ⟨r, rx, ry⟩ := xy_dist (nw := nw) (hw := hw) (ar := ar) (aw := aw) (aq := aq) (am := am) (ac := ac) (ap := ap) (fr := nw) (yw := hw) (br := br) (bw := bw) (bq := aq) (bl := bl) (bo := bo) (bm := bm) (be := be) G hX hY (show b < 8 by omega) n 0 (2 ^ a) (by omega) (Nat.pow_lt_pow_right (by decide) ha)
      refine xw_isVt hn hb (wz_1 (nm_r (bs_1 a (by omega)) ⟨n + 1, rx _ ?_⟩))
      exact yw_isVt hn ha (wz_1 (yw_isVt hn hb (wz_1 (nm_r (bs_1 a (by omega)) ⟨n + 1, ry _ ⟨rfl, R⟩⟩))))
