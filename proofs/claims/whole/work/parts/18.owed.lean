theorem i_vc_components {k : Nat} {u : SX} {v : SY} (I : i_Rel k u v) (hk : k + 3 ≤ 1537) (v1 : Int32) : wpX_components (fun r => wpY_components (fun r' v' => r' = r ∧ i_Rel (k + 3) u v') v v1) u v1 := by
  have R := i_up I
  obtain ⟨n, g, nw, hw, ar, aw, aq, am, ac, ap, br, bw, bl, bo, bm, be, rfl, rfl, G, hX, hY, hW⟩ := I
  have hn := G.1
  have h8 := bs_pow8 hn
  unfold wpX_components wpY_components
  dsimp only
  rcases pk_ix v1 (n := 2 ^ n) (by omega) with h | h | ⟨m, hm, rfl⟩
  · exact xw_isSf hn (Or.inl h) (wz_0 (yw_isSf hn (Or.inl h) (wz_0 ⟨rfl, R⟩)))
  · exact xw_isSf hn (Or.inr h) (wz_0 (yw_isSf hn (Or.inr h) (wz_0 ⟨rfl, R⟩)))
  · refine xw_isSt hn hm (wz_1 (xq_comp G hX hm ?_))
    exact yw_isSt hn hm (wz_1 (yq_comp G hY hm (fun bl' => ⟨rfl, n, g, nw, hw, _, _, _, _, _, _, _, _, _, _, _, _, rfl, rfl, G, hX, hY, hW⟩)))
theorem i_vc_cliqueNumber {k : Nat} {u : SX} {v : SY} (I : i_Rel k u v) (hk : k + 3 ≤ 1537) (v1 : Int32) : wpX_cliqueNumber (fun r => wpY_cliqueNumber (fun r' => r' = r ∧ i_Rel (k + 3) u v) v v1) u v1 := by
  have R := i_up I
  obtain ⟨n, g, nw, hw, ar, aw, aq, am, ac, ap, br, bw, bl, bo, bm, be, rfl, rfl, G, hX, hY, hW⟩ := I
  have hn := G.1
  have h8 := bs_pow8 hn
  unfold wpX_cliqueNumber wpY_cliqueNumber
  dsimp only
  rcases pk_ix v1 (n := 2 ^ n) (by omega) with h | h | ⟨m, hm, rfl⟩
  · exact xw_isSf hn (Or.inl h) (wz_0 (yw_isSf hn (Or.inl h) (wz_0 ⟨rfl, R⟩)))
  · exact xw_isSf hn (Or.inr h) (wz_0 (yw_isSf hn (Or.inr h) (wz_0 ⟨rfl, R⟩)))
  · refine xw_isSt hn hm (wz_1 (xq_number hn hX hm ?_))
    exact yw_isSt hn hm (wz_1 (yq_number G hY hm ⟨rfl, R⟩))
theorem i_vc_cliques {k : Nat} {u : SX} {v : SY} (I : i_Rel k u v) (hk : k + 3 ≤ 1537) (v1 : Int32) : wpX_cliques (fun r => wpY_cliques (fun r' => r' = r ∧ i_Rel (k + 3) u v) v v1) u v1 := by
  have R := i_up I
  obtain ⟨n, g, nw, hw, ar, aw, aq, am, ac, ap, br, bw, bl, bo, bm, be, rfl, rfl, G, hX, hY, hW⟩ := I
  have hn := G.1
  have h8 := bs_pow8 hn
  unfold wpX_cliques wpY_cliques
  dsimp only
  rcases pk_ix v1 (n := 2 ^ n) (by omega) with h | h | ⟨m, hm, rfl⟩
  · exact xw_isSf hn (Or.inl h) (wz_0 (yw_isSf hn (Or.inl h) (wz_0 ⟨rfl, R⟩)))
  · exact xw_isSf hn (Or.inr h) (wz_0 (yw_isSf hn (Or.inr h) (wz_0 ⟨rfl, R⟩)))
  · refine xw_isSt hn hm (wz_1 (xq_cliques hn hX hm ?_))
    exact yw_isSt hn hm (wz_1 (yq_cliques G hY hm ⟨rfl, R⟩))
theorem i_vc_stableSets {k : Nat} {u : SX} {v : SY} (I : i_Rel k u v) (hk : k + 3 ≤ 1537) (v1 : Int32) : wpX_stableSets (fun r => wpY_stableSets (fun r' => r' = r ∧ i_Rel (k + 3) u v) v v1) u v1 := by
  have R := i_up I
  obtain ⟨n, g, nw, hw, ar, aw, aq, am, ac, ap, br, bw, bl, bo, bm, be, rfl, rfl, G, hX, hY, hW⟩ := I
  have hn := G.1
  have h8 := bs_pow8 hn
  unfold wpX_stableSets wpY_stableSets
  dsimp only
  rcases pk_ix v1 (n := 2 ^ n) (by omega) with h | h | ⟨m, hm, rfl⟩
  · exact xw_isSf hn (Or.inl h) (wz_0 (yw_isSf hn (Or.inl h) (wz_0 ⟨rfl, R⟩)))
  · exact xw_isSf hn (Or.inr h) (wz_0 (yw_isSf hn (Or.inr h) (wz_0 ⟨rfl, R⟩)))
  · refine xw_isSt hn hm (wz_1 (xq_stables hn hX hm ?_))
    exact yw_isSt hn hm (wz_1 (yq_stables G hY hm ⟨rfl, R⟩))
theorem i_vc_heaviestStable {k : Nat} {u : SX} {v : SY} (I : i_Rel k u v) (hk : k + 3 ≤ 1537) (v1 : Int32) : wpX_heaviestStable (fun r => wpY_heaviestStable (fun r' => r' = r ∧ i_Rel (k + 3) u v) v v1) u v1 := by
  have R := i_up I
  obtain ⟨n, g, nw, hw, ar, aw, aq, am, ac, ap, br, bw, bl, bo, bm, be, rfl, rfl, G, hX, hY, hW⟩ := I
  have hn := G.1
  have h8 := bs_pow8 hn
  unfold wpX_heaviestStable wpY_heaviestStable
  dsimp only
  rcases pk_ix v1 (n := 2 ^ n) (by omega) with h | h | ⟨m, hm, rfl⟩
  · exact xw_isSf hn (Or.inl h) (wz_0 (yw_isSf hn (Or.inl h) (wz_0 ⟨rfl, R⟩)))
  · exact xw_isSf hn (Or.inr h) (wz_0 (yw_isSf hn (Or.inr h) (wz_0 ⟨rfl, R⟩)))
  · refine xw_isSt hn hm (wz_1 (xq_heavy hn hX hm ?_))
    refine yw_isSt hn hm (wz_1 (yq_heavy G hY hm ⟨?_, R⟩))
    have e : (fun i (a : Int32) => if ws_W bw i n ≤ a then a else ws_W bw i n) = (fun i (a : Int32) => if ws_W aw i n ≤ a then a else ws_W aw i n) := by
      funext i a
      rw [ws_eq i n hW]
    rw [e]
theorem i_vc_colours {k : Nat} {u : SX} {v : SY} (I : i_Rel k u v) (hk : k + 3 ≤ 1537) (v1 : Int32) : wpX_colours (fun r u' => wpY_colours (fun r' v' => r' = r ∧ i_Rel (k + 3) u' v') v v1) u v1 := by
  have R := i_up I
  obtain ⟨n, g, nw, hw, ar, aw, aq, am, ac, ap, br, bw, bl, bo, bm, be, rfl, rfl, G, hX, hY, hW⟩ := I
  have hn := G.1
  have h8 := bs_pow8 hn
  unfold wpX_colours wpY_colours
  dsimp only
  rcases pk_ix v1 (n := 2 ^ n) (by omega) with h | h | ⟨m, hm, rfl⟩
  · exact xw_isSf hn (Or.inl h) (wz_0 (yw_isSf hn (Or.inl h) (wz_0 ⟨rfl, R⟩)))
  · exact xw_isSf hn (Or.inr h) (wz_0 (yw_isSf hn (Or.inr h) (wz_0 ⟨rfl, R⟩)))
  · refine xw_isSt hn hm (wz_1 (nm_e (xq_colours G hX hm (fun C ac' hC => ?_) pk_us)))
    refine yw_isSt hn hm (wz_1 (yq_colours G hY hm (fun D bm' be' hD => ⟨?_, n, g, nw, hw, _, _, _, _, _, _, _, _, _, _, _, _, rfl, rfl, G, hX, hY, hW⟩)))
    rw [co_same hC hD (by omega) (by omega)]
theorem i_vc_isModule {k : Nat} {u : SX} {v : SY} (I : i_Rel k u v) (hk : k + 3 ≤ 1537) (v1 : Int32) : wpX_isModule (fun r => wpY_isModule (fun r' => r' = r ∧ i_Rel (k + 3) u v) v v1) u v1 := by
  have R := i_up I
  obtain ⟨n, g, nw, hw, ar, aw, aq, am, ac, ap, br, bw, bl, bo, bm, be, rfl, rfl, G, hX, hY, hW⟩ := I
  have hn := G.1
  have h8 := bs_pow8 hn
  unfold wpX_isModule wpY_isModule
  dsimp only
  rcases pk_ix v1 (n := 2 ^ n) (by omega) with h | h | ⟨m, hm, rfl⟩
  · exact xw_isSf hn (Or.inl h) (wz_0 (yw_isSf hn (Or.inl h) (wz_0 ⟨rfl, R⟩)))
  · exact xw_isSf hn (Or.inr h) (wz_0 (yw_isSf hn (Or.inr h) (wz_0 ⟨rfl, R⟩)))
  · refine xw_isSt hn hm (wz_1 (br_c (fun c => ?_) (fun c => ?_)))
    · exact yw_isSt hn hm (wz_1 (br_t c ⟨rfl, R⟩))
    · refine xw_alike hn hX (gr_256 G) hm (fun A => wz_1 ?_) (fun A => wz_0 ?_)
      · exact yw_isSt hn hm (wz_1 (br_f c (yw_alike G hY hm (fun _ => ⟨rfl, R⟩) (fun z => absurd A z))))
      · exact yw_isSt hn hm (wz_1 (br_f c (yw_alike G hY hm (fun z => absurd z A) (fun _ => ⟨rfl, R⟩))))
theorem i_vc_measure {k : Nat} {u : SX} {v : SY} (I : i_Rel k u v) (hk : k + 3 ≤ 1537) (v1 : Int32) : wpX_measure (fun r u' => wpY_measure (fun r' v' => r' = r ∧ i_Rel (k + 3) u' v') v v1) u v1 := by
  have R := i_up I
  obtain ⟨n, g, nw, hw, ar, aw, aq, am, ac, ap, br, bw, bl, bo, bm, be, rfl, rfl, G, hX, hY, hW⟩ := I
  unfold wpX_measure wpY_measure
  dsimp only
  refine br_c (fun c => ?_) (fun c => br_c (fun d => ?_) (fun d => ?_))
  · refine xq_strong G hX (fun am' => ?_)
    refine br_t c (yq_strong G hY (fun bm' => ⟨rfl, n, g, nw, hw, _, _, _, _, _, _, _, _, _, _, _, _, rfl, rfl, G, hX, hY, hW⟩))
  · refine xq_paths G hX (fun ap' f hf => ?_)
    refine br_f c (br_t d (yq_paths G hY (fun bo' f' hf' => ⟨?_, n, g, nw, hw, _, _, _, _, _, _, _, _, _, _, _, _, rfl, rfl, G, hX, hY, hW⟩)))
    have e : f' = f := by
      rcases hf with ⟨a, b⟩ | ⟨a, b⟩
      · rcases hf' with ⟨a', b'⟩ | ⟨a', b'⟩
        · omega
        · omega
      · rcases hf' with ⟨a', b'⟩ | ⟨a', b'⟩
        · omega
        · exact pt_A_uniq b' b
    rw [e]
  · exact br_f c (br_f d ⟨rfl, R⟩)
theorem i_vc_witness {k : Nat} {u : SX} {v : SY} (I : i_Rel k u v) (hk : k + 3 ≤ 1537) (v1 : Int32) : wpX_witness (fun r => wpY_witness (fun r' => r' = r ∧ i_Rel (k + 3) u v) v v1) u v1 := by
  have R := i_up I
  obtain ⟨n, g, nw, hw, ar, aw, aq, am, ac, ap, br, bw, bl, bo, bm, be, rfl, rfl, G, hX, hY, hW⟩ := I
  refine br_c (fun c => br_t c ⟨rfl, R⟩) (fun c => br_c (fun d => br_f c (br_t d ⟨rfl, R⟩)) (fun d => br_c (fun e => ?_) (fun e => ?_)))
  · obtain ⟨j, hj, rfl⟩ := nI_of d
    have hj4 : j < 4 := (nI_ltI (b := 4) hj (by decide)).mp e
    exact ⟨vp_in_nI hj4 (by decide), br_f c (br_f d (br_t (nI_le (b := 3) (by omega) (by decide)) ⟨vp_in_nI hj4 (by decide), rfl, R⟩))⟩
  · obtain ⟨j, hj, rfl⟩ := nI_of d
    have hj4 : ¬ j < 4 := fun z => e ((nI_ltI (b := 4) hj (by decide)).mpr z)
    exact br_f c (br_f d (br_f (nI_ge (a := 3) (by omega) hj) ⟨rfl, R⟩))
