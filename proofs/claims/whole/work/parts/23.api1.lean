/-! the constructors, the tables, what is read -/
theorem x_init4 {post : SX → Prop} {z : Int32} (H : ∀ a : Nat → Int32, (∀ j, a j = if j < 4 then 2 else 0) → post (z, 0, 0, 0, a, (fun _ => 0), (fun _ => 0), (fun _ => 0), (fun _ => 0), (fun _ => 0), (fun _ => 0), (fun _ => 0), (fun _ => 0), (fun _ => 0), (fun _ => 0), (fun _ => 0), (fun _ => 0), (fun _ => 0), (fun _ => 0), (fun _ => 0))) : ∃ m, wX_init_174 post z 0 0 0 m 0 (fun _ => 0) (fun _ => 0) (fun _ => 0) (fun _ => 0) (fun _ => 0) (fun _ => 0) (fun _ => 0) (fun _ => 0) (fun _ => 0) (fun _ => 0) (fun _ => 0) (fun _ => 0) (fun _ => 0) (fun _ => 0) (fun _ => 0) (fun _ => 0) := by
  refine ⟨5, ?_⟩
  refine qp_loop1 (fun k i a => wX_init_174 post z 0 0 0 k (nI i) a (fun _ => 0) (fun _ => 0) (fun _ => 0) (fun _ => 0) (fun _ => 0) (fun _ => 0) (fun _ => 0) (fun _ => 0) (fun _ => 0) (fun _ => 0) (fun _ => 0) (fun _ => 0) (fun _ => 0) (fun _ => 0) (fun _ => 0)) (fun i a => ∀ j, a j = if j < i then 2 else 0) 4 ?_ ?_ 5 0 (fun _ => 0) (by omega) (by omega) (fun j => rfl)
  · intro k a A
    exact br_t (nI_le (a := 4) (Nat.le_refl _) (by omega)) (H a A)
  · intro k i a hi A ih
    refine br_f (nI_ge (b := 4) hi (by omega)) ⟨vp_in_nI hi (by omega), ?_⟩
    rw [nI_clamp (by omega)]
    refine nm_e (nm_r (nI_1 i) (ih _ (fun j => ?_)))
    by_cases e : j = i
    · subst e; rw [pk_us, if_pos (by omega)]
    · rw [pk_un e, A j]
      by_cases z : j < i
      · rw [if_pos z, if_pos (by omega)]
      · rw [if_neg z, if_neg (by omega)]
theorem y_init4 {post : SY → Prop} {z : Int32} (H : ∀ a : Nat → Int32, (∀ j, a j = if j < 4 then 2 else 0) → post (z, 0, 0, 0, (fun _ => 0), (fun _ => 0), a, (fun _ => 0), (fun _ => 0), (fun _ => 0), (fun _ => 0), (fun _ => 0), (fun _ => 0), (fun _ => 0), (fun _ => 0), (fun _ => 0), (fun _ => 0), (fun _ => 0), (fun _ => 0))) : ∃ m, wY_init_147 post z 0 0 0 m 0 (fun _ => 0) (fun _ => 0) (fun _ => 0) (fun _ => 0) (fun _ => 0) (fun _ => 0) (fun _ => 0) (fun _ => 0) (fun _ => 0) (fun _ => 0) (fun _ => 0) (fun _ => 0) (fun _ => 0) (fun _ => 0) (fun _ => 0) := by
  refine ⟨5, ?_⟩
  refine qp_loop1 (fun k i a => wY_init_147 post z 0 0 0 k (nI i) (fun _ => 0) (fun _ => 0) a (fun _ => 0) (fun _ => 0) (fun _ => 0) (fun _ => 0) (fun _ => 0) (fun _ => 0) (fun _ => 0) (fun _ => 0) (fun _ => 0) (fun _ => 0) (fun _ => 0) (fun _ => 0)) (fun i a => ∀ j, a j = if j < i then 2 else 0) 4 ?_ ?_ 5 0 (fun _ => 0) (by omega) (by omega) (fun j => rfl)
  · intro k a A
    exact br_t (nI_le (a := 4) (Nat.le_refl _) (by omega)) (H a A)
  · intro k i a hi A ih
    refine br_f (nI_ge (b := 4) hi (by omega)) ⟨vp_in_nI hi (by omega), ?_⟩
    rw [nI_clamp (by omega)]
    refine nm_e (nm_r (nI_1 i) (ih _ (fun j => ?_)))
    by_cases e : j = i
    · subst e; rw [pk_us, if_pos (by omega)]
    · rw [pk_un e, A j]
      by_cases z : j < i
      · rw [if_pos z, if_pos (by omega)]
      · rw [if_neg z, if_neg (by omega)]
theorem xy_init {z : Int32} {t : Nat} {a b : Nat → Int32} (ez : z = nI t) (h1 : 1 ≤ t) (h4 : t ≤ 4) (A : ∀ j, a j = if j < 4 then 2 else 0) (B : ∀ j, b j = if j < 4 then 2 else 0) : i_Rel 1 (z, 0, 0, 0, a, (fun _ => 0), (fun _ => 0), (fun _ => 0), (fun _ => 0), (fun _ => 0), (fun _ => 0), (fun _ => 0), (fun _ => 0), (fun _ => 0), (fun _ => 0), (fun _ => 0), (fun _ => 0), (fun _ => 0), (fun _ => 0), (fun _ => 0)) (z, 0, 0, 0, (fun _ => 0), (fun _ => 0), b, (fun _ => 0), (fun _ => 0), (fun _ => 0), (fun _ => 0), (fun _ => 0), (fun _ => 0), (fun _ => 0), (fun _ => 0), (fun _ => 0), (fun _ => 0), (fun _ => 0), (fun _ => 0)) := by
  have eab : b = a := funext (fun j => (B j).trans (A j).symm)
  subst eab ez
  refine qp_mk (n := 0) (h := 0) (c := 0) h1 h4 (fun j hj => ⟨2, by omega, by omega, ?_⟩) (fun j hj => ⟨0, by omega, nI_0.symm, fun p hp => by omega⟩) qp_ND_0 ⟨by omega, by omega, fun r q hr => absurd hr (Nat.not_lt_zero r)⟩
  rw [B j, if_pos hj]; rfl
theorem i_vc0 (k0 : Int32) : wpX_init (fun u => wpY_init (fun v => i_Rel 1 u v) k0) k0 := by
  unfold wpX_init wX_init_157 wpY_init wY_init_133
  by_cases h1 : 1 ≤ k0
  · by_cases h4 : k0 ≤ 4
    · obtain ⟨t, ht, et⟩ := nI_of2 (x := k0) (M := 4) (n := 4) (by decide) (fun z => absurd (Int32.le_trans h1 (Int32.le_of_lt z)) (by decide)) h4
      have ht1 : 1 ≤ t := by
        rw [et] at h1
        exact (nI_leI (a := 1) (b := t) (by omega) (by omega)).mp h1
      exact br_t h1 (br_t h4 (x_init4 (fun a A => br_t h1 (br_t h4 (y_init4 (fun b B => xy_init et ht1 ht A B))))))
    · exact br_t h1 (br_f h4 (x_init4 (fun a A => br_t h1 (br_f h4 (y_init4 (fun b B => xy_init (t := 4) rfl (by omega) (by omega) A B))))))
  · exact br_f h1 (br_t (by decide) (x_init4 (fun a A => br_f h1 (br_t (by decide) (y_init4 (fun b B => xy_init (t := 1) rfl (by omega) (by omega) A B))))))
theorem i_vc_resultRows {k : Nat} {u : SX} {v : SY} (I : i_Rel k u v) (hk : k + 5 ≤ 2561) : wpX_resultRows (fun r => wpY_resultRows (fun r' => r' = r ∧ i_Rel (k + 5) u v) v) u := by
  have J := I
  obtain ⟨t, n, h, c, tw, th, tb, tb', nk, nl, nr, nw, us, us', ca, cb, cc, nn, bo, lh, lc, rs, p1, p2, p3, bo', ct, vl, rs', rfl, rfl, ht1, ht4, hW, hT, hN, hR⟩ := I
  have hn := hN.1
  have hus := hN.2.1
  exact ⟨rfl, J⟩
theorem i_vc_resultWidth {k : Nat} {u : SX} {v : SY} (I : i_Rel k u v) (hk : k + 5 ≤ 2561) : wpX_resultWidth (fun r => wpY_resultWidth (fun r' => r' = r ∧ i_Rel (k + 5) u v) v) u := by
  have J := I
  obtain ⟨t, n, h, c, tw, th, tb, tb', nk, nl, nr, nw, us, us', ca, cb, cc, nn, bo, lh, lc, rs, p1, p2, p3, bo', ct, vl, rs', rfl, rfl, ht1, ht4, hW, hT, hN, hR⟩ := I
  have hn := hN.1
  have hus := hN.2.1
  exact ⟨rfl, J⟩
theorem i_vc_cell {k : Nat} {u : SX} {v : SY} (I : i_Rel k u v) (hk : k + 5 ≤ 2561) (v1 : Int32) (v2 : Int32) : wpX_cell (fun r => wpY_cell (fun r' => r' = r ∧ i_Rel (k + 5) u v) v v1 v2) u v1 v2 := by
  have J := I
  obtain ⟨t, n, h, c, tw, th, tb, tb', nk, nl, nr, nw, us, us', ca, cb, cc, nn, bo, lh, lc, rs, p1, p2, p3, bo', ct, vl, rs', rfl, rfl, ht1, ht4, hW, hT, hN, hR⟩ := I
  have hn := hN.1
  have hus := hN.2.1
  obtain ⟨h24, c6, hcell⟩ := hR
  unfold wpX_cell
  try dsimp only
  unfold wpY_cell
  try dsimp only
  by_cases a0 : v1 < 0
  · exact br_t a0 (br_t a0 ⟨rfl, J⟩)
  · by_cases a1 : nI h ≤ v1
    · exact br_f a0 (br_t a1 (br_f a0 (br_t a1 ⟨rfl, J⟩)))
    · by_cases b0 : v2 < 0
      · exact br_f a0 (br_f a1 (br_t b0 (br_f a0 (br_f a1 (br_t b0 ⟨rfl, J⟩)))))
      · by_cases b1 : v2 < nI c
        · obtain ⟨r, hr, rfl⟩ := nI_of a0
          obtain ⟨q, hq, rfl⟩ := nI_of b0
          have hr' : r < h := by
            rw [nI_leI (by omega) hr] at a1; omega
          have hq' : q < c := (nI_ltI hq (by omega)).mp b1
          rw [qp_i6, nI_clamp (by omega)]
          have v : vp_in (nI (r * 6 + q)) 144 := vp_in_nI (by omega) (by omega)
          exact br_f a0 (br_f a1 (br_f b0 (br_t b1 ⟨v, br_f a0 (br_f a1 (br_f b0 (br_t b1 ⟨v, (hcell r q hr' hq').symm, J⟩)))⟩)))
        · exact br_f a0 (br_f a1 (br_f b0 (br_f b1 (br_f a0 (br_f a1 (br_f b0 (br_f b1 ⟨rfl, J⟩)))))))
theorem i_vc_width {k : Nat} {u : SX} {v : SY} (I : i_Rel k u v) (hk : k + 5 ≤ 2561) (v1 : Int32) : wpX_width (fun r => wpY_width (fun r' => r' = r ∧ i_Rel (k + 5) u v) v v1) u v1 := by
  have J := I
  obtain ⟨t, n, h, c, tw, th, tb, tb', nk, nl, nr, nw, us, us', ca, cb, cc, nn, bo, lh, lc, rs, p1, p2, p3, bo', ct, vl, rs', rfl, rfl, ht1, ht4, hW, hT, hN, hR⟩ := I
  have hn := hN.1
  have hus := hN.2.1
  unfold wpX_width
  try dsimp only
  unfold wpY_width
  try dsimp only
  rcases qp_ix2 v1 (n := n) (by omega) with hv | ⟨x, hx, rfl⟩
  · exact x_hasN_n hv (br_t rfl (y_noN_n hv (br_f (by decide) ⟨rfl, J⟩)))
  · have v : vp_in (nI x) 12 := vp_in_nI (by omega) (by omega)
    exact x_hasN_y hn hx (br_f (by decide) ⟨v, y_noN_y hn hx (br_t rfl ⟨v, rfl, J⟩)⟩)
theorem i_vc_tableRows {k : Nat} {u : SX} {v : SY} (I : i_Rel k u v) (hk : k + 5 ≤ 2561) (v1 : Int32) : wpX_tableRows (fun r => wpY_tableRows (fun r' => r' = r ∧ i_Rel (k + 5) u v) v v1) u v1 := by
  have J := I
  obtain ⟨t, n, h, c, tw, th, tb, tb', nk, nl, nr, nw, us, us', ca, cb, cc, nn, bo, lh, lc, rs, p1, p2, p3, bo', ct, vl, rs', rfl, rfl, ht1, ht4, hW, hT, hN, hR⟩ := I
  have hn := hN.1
  have hus := hN.2.1
  unfold wpX_tableRows
  try dsimp only
  unfold wpY_tableRows
  try dsimp only
  rcases qp_ix2 v1 (n := t) (by omega) with hv | ⟨x, hx, rfl⟩
  · exact x_hasT_n hv (br_t rfl (y_noT_n hv (br_f (by decide) ⟨rfl, J⟩)))
  · have v : vp_in (nI x) 4 := vp_in_nI (by omega) (by omega)
    exact x_hasT_y ht4 hx (br_f (by decide) ⟨v, y_noT_y ht4 hx (br_t rfl ⟨v, rfl, J⟩)⟩)
theorem i_vc_clearPlan {k : Nat} {u : SX} {v : SY} (I : i_Rel k u v) (hk : k + 5 ≤ 2561) : wpX_clearPlan (fun u' => wpY_clearPlan (fun v' => i_Rel (k + 5) u' v') v) u := by
  have J := I
  obtain ⟨t, n, h, c, tw, th, tb, tb', nk, nl, nr, nw, us, us', ca, cb, cc, nn, bo, lh, lc, rs, p1, p2, p3, bo', ct, vl, rs', rfl, rfl, ht1, ht4, hW, hT, hN, hR⟩ := I
  have hn := hN.1
  have hus := hN.2.1
  unfold wpX_clearPlan
  try dsimp only
  unfold wpY_clearPlan
  try dsimp only
  refine ⟨13, ?_⟩
  refine qp_loop1 (fun m i a => wY_clearPlan_2 (fun v' => i_Rel (k + 5) (nI t, 0, nI h, nI c, tw, th, tb, nk, nl, nr, nw, us, ca, cb, cc, nn, bo, lh, lc, rs) v') (nI t) (nI n) (nI h) (nI c) m (nI i) tb' th tw nk nl nr p1 p2 p3 nw a bo' ct vl rs') (fun _ _ => True) 12 ?_ ?_ 13 0 us' (by omega) (by omega) trivial
  · intro m a _
    exact br_t (nI_le (a := 12) (Nat.le_refl _) (by omega)) (qp_mk (n := 0) ht1 ht4 hW hT qp_ND_0 hR)
  · intro m i a hi _ ih
    exact br_f (nI_ge (b := 12) hi (by omega)) ⟨vp_in_nI hi (by omega), nm_e (nm_r (nI_1 i) (ih _ trivial))⟩
