/-! the nodes -/
theorem qp_ch0 (x : Int32) : (x >>> (((3 : Int32) * 0) &&& 31)) &&& 7 = x &&& 7 := by
  rw [show (((3 : Int32) * 0) &&& 31) = 0 by decide]
  congr 1
  simp
theorem qp_ch1 (x : Int32) : (x >>> (((3 : Int32) * 1) &&& 31)) &&& 7 = (x >>> ((3 : Int32) &&& 31)) &&& 7 := by
  rw [show (((3 : Int32) * 1) &&& 31) = ((3 : Int32) &&& 31) by decide]
theorem qp_and7 (x : Int32) : ∃ j : Nat, j < 8 ∧ x &&& 7 = nI j := pk_andE x 3 (by decide)
theorem i_vc_scan {k : Nat} {u : SX} {v : SY} (I : i_Rel k u v) (hk : k + 5 ≤ 2561) (v1 : Int32) : wpX_scan (fun r u' => wpY_scan (fun r' v' => r' = r ∧ i_Rel (k + 5) u' v') v v1) u v1 := by
  have J := I
  obtain ⟨t, n, h, c, tw, th, tb, tb', nk, nl, nr, nw, us, us', ca, cb, cc, nn, bo, lh, lc, rs, p1, p2, p3, bo', ct, vl, rs', rfl, rfl, ht1, ht4, hW, hT, hN, hR⟩ := I
  have hn := hN.1
  have hus := hN.2.1
  unfold wpX_scan
  try dsimp only
  unfold wpY_scan
  try dsimp only
  by_cases h12 : n < 12
  · have lt : nI n < 12 := nI_lt (b := 12) h12 (by omega)
    rcases qp_ix2 v1 (n := t) (by omega) with hv | ⟨x, hx, rfl⟩
    · exact x_full_n h12 (br_t rfl (x_hasT_n hv (br_t rfl (br_t lt (y_noT_n hv (br_f (by decide) ⟨rfl, J⟩))))))
    · have vx : vp_in (nI x) 4 := vp_in_nI (by omega) (by omega)
      have vn : vp_in (nI n) 12 := vp_in_nI h12 (by omega)
      obtain ⟨w, hw1, hw3, ew⟩ := hW x (by omega)
      refine x_full_n h12 (br_t rfl (x_hasT_y ht4 hx (br_f (by decide) ⟨vx, ?_⟩)))
      refine x_add0 h12 (qp_rd (by omega) ew) ?_
      try dsimp only
      rw [nI_clamp (show n < 2 ^ 31 by omega)]
      refine ⟨vn, nm_e ?_⟩
      refine br_t lt (y_noT_y ht4 hx (br_t rfl ⟨vx, ?_⟩))
      refine y_add0 h12 (qp_rd (by omega) ew) ?_
      refine y_numbers h12 ?_
      refine ⟨rfl, qp_mk ht1 ht4 hW hT (qp_ND_s hN h12 qp_same qp_same qp_same qp_keep qp_keep qp_keep qp_keep (qp_us0 hus) ?_) hR⟩
      exact ⟨w, hw1, by omega, rfl, Or.inl ⟨rfl, hw3, x, by omega, pk_us, pk_us⟩⟩
  · have e12 : n = 12 := by omega
    have nlt : ¬ nI n < 12 := nI_nlt (b := 12) (by omega) (by omega)
    exact x_full_y e12 (br_f (by decide) (br_f nlt ⟨rfl, J⟩))
theorem i_vc_filter {k : Nat} {u : SX} {v : SY} (I : i_Rel k u v) (hk : k + 5 ≤ 2561) (v1 : Int32) (v2 : Int32) (v3 : Int32) (v4 : Int32) : wpX_filter (fun r u' => wpY_filter (fun r' v' => r' = r ∧ i_Rel (k + 5) u' v') v v1 v2 v3 v4) u v1 v2 v3 v4 := by
  have J := I
  obtain ⟨t, n, h, c, tw, th, tb, tb', nk, nl, nr, nw, us, us', ca, cb, cc, nn, bo, lh, lc, rs, p1, p2, p3, bo', ct, vl, rs', rfl, rfl, ht1, ht4, hW, hT, hN, hR⟩ := I
  have hn := hN.1
  have hus := hN.2.1
  unfold wpX_filter
  try dsimp only
  unfold wpY_filter
  try dsimp only
  rcases xy_child hn hus v1 with ⟨r, hr, hX, hY⟩ | ⟨x, hx, h12, rfl, hX, hY⟩
  · exact hX _ (br_f hr (hY _ (br_f hr ⟨rfl, J⟩)))
  · obtain ⟨w, hw1, hw6, ew⟩ := qp_ND_w hN hx
    have vx : vp_in (nI x) 12 := vp_in_nI (by omega) (by omega)
    have vn : vp_in (nI n) 12 := vp_in_nI h12 (by omega)
    refine hX _ (br_t rfl ?_)
    rcases qp_ix2 v2 (n := w) (by omega) with hv | ⟨q, hq, rfl⟩
    · exact x_hasC_n (by omega) ew hv (br_t rfl (hY _ (br_t rfl (y_noC_n (by omega) ew hv (br_f (by decide) ⟨rfl, J⟩)))))
    · refine x_hasC_y (by omega) ew hw6 rfl hq (br_f (by decide) ?_)
      by_cases c0 : v3 < 0
      · exact br_t c0 (hY _ (br_t rfl (y_noC_y (by omega) ew hw6 rfl hq (br_t rfl (br_t c0 ⟨rfl, J⟩)))))
      · by_cases c5 : v3 ≤ 5
        · refine br_f c0 (br_t c5 ⟨vx, ?_⟩)
          refine x_add1 h12 (by omega) (qp_rd (by omega) ew) ?_
          try dsimp only
          rw [nI_clamp (show n < 2 ^ 31 by omega)]
          refine ⟨vn, nm_e ⟨vn, nm_e ⟨vn, nm_e ?_⟩⟩⟩
          refine hY _ (br_t rfl (y_noC_y (by omega) ew hw6 rfl hq (br_t rfl (br_f c0 (br_t c5 ⟨vx, ?_⟩)))))
          refine y_add1 h12 (by omega) (qp_rd (by omega) ew) ?_
          refine y_numbers h12 ?_
          refine ⟨rfl, qp_mk ht1 ht4 hW hT (qp_ND_s hN h12 qp_keep qp_same qp_keep qp_keep qp_keep qp_keep qp_keep (qp_us1 hus) ?_) hR⟩
          exact ⟨w, hw1, hw6, rfl, Or.inr (Or.inl ⟨rfl, rfl, x, q, ⟨hx, rfl, hw1, hw6, ew⟩, hq, pk_us, pk_us, pk_us.trans pk_us.symm, pk_us.trans pk_us.symm⟩)⟩
        · exact br_f c0 (br_f c5 (hY _ (br_t rfl (y_noC_y (by omega) ew hw6 rfl hq (br_t rfl (br_f c0 (br_f c5 ⟨rfl, J⟩)))))))
theorem i_vc_filterCols {k : Nat} {u : SX} {v : SY} (I : i_Rel k u v) (hk : k + 5 ≤ 2561) (v1 : Int32) (v2 : Int32) (v3 : Int32) (v4 : Int32) : wpX_filterCols (fun r u' => wpY_filterCols (fun r' v' => r' = r ∧ i_Rel (k + 5) u' v') v v1 v2 v3 v4) u v1 v2 v3 v4 := by
  have J := I
  obtain ⟨t, n, h, c, tw, th, tb, tb', nk, nl, nr, nw, us, us', ca, cb, cc, nn, bo, lh, lc, rs, p1, p2, p3, bo', ct, vl, rs', rfl, rfl, ht1, ht4, hW, hT, hN, hR⟩ := I
  have hn := hN.1
  have hus := hN.2.1
  unfold wpX_filterCols
  try dsimp only
  unfold wpY_filterCols
  try dsimp only
  rcases xy_child hn hus v1 with ⟨r, hr, hX, hY⟩ | ⟨x, hx, h12, rfl, hX, hY⟩
  · exact hX _ (br_f hr (hY _ (br_f hr ⟨rfl, J⟩)))
  · obtain ⟨w, hw1, hw6, ew⟩ := qp_ND_w hN hx
    have vx : vp_in (nI x) 12 := vp_in_nI (by omega) (by omega)
    have vn : vp_in (nI n) 12 := vp_in_nI h12 (by omega)
    refine hX _ (br_t rfl ?_)
    rcases qp_ix2 v2 (n := w) (by omega) with hv | ⟨q, hq, rfl⟩
    · exact x_hasC_n (by omega) ew hv (br_t rfl (hY _ (br_t rfl (y_noC_n (by omega) ew hv (br_f (by decide) ⟨rfl, J⟩)))))
    · refine x_hasC_y (by omega) ew hw6 rfl hq (br_f (by decide) ?_)
      rcases qp_ix2 v4 (n := w) (by omega) with hv | ⟨s, hs, rfl⟩
      · exact x_hasC_n (by omega) ew hv (br_t rfl (hY _ (br_t rfl (y_noC_y (by omega) ew hw6 rfl hq (br_t rfl (y_noC_n (by omega) ew hv (br_f (by decide) ⟨rfl, J⟩)))))))
      · refine x_hasC_y (by omega) ew hw6 rfl hs (br_f (by decide) ?_)
        by_cases c0 : v3 < 0
        · exact br_t c0 (hY _ (br_t rfl (y_noC_y (by omega) ew hw6 rfl hq (br_t rfl (y_noC_y (by omega) ew hw6 rfl hs (br_t rfl (br_t c0 ⟨rfl, J⟩)))))))
        · by_cases c5 : v3 ≤ 5
          · refine br_f c0 (br_t c5 ⟨vx, ?_⟩)
            refine x_add1 h12 (by omega) (qp_rd (by omega) ew) ?_
            try dsimp only
            rw [nI_clamp (show n < 2 ^ 31 by omega)]
            refine ⟨vn, nm_e ⟨vn, nm_e ⟨vn, nm_e ?_⟩⟩⟩
            refine hY _ (br_t rfl (y_noC_y (by omega) ew hw6 rfl hq (br_t rfl (y_noC_y (by omega) ew hw6 rfl hs (br_t rfl (br_f c0 (br_t c5 ⟨vx, ?_⟩)))))))
            refine y_add1 h12 (by omega) (qp_rd (by omega) ew) ?_
            refine y_numbers h12 ?_
            refine ⟨rfl, qp_mk ht1 ht4 hW hT (qp_ND_s hN h12 qp_keep qp_keep qp_keep qp_same qp_keep qp_keep qp_keep (qp_us1 hus) ?_) hR⟩
            exact ⟨w, hw1, hw6, rfl, Or.inr (Or.inr (Or.inl ⟨rfl, rfl, x, q, s, ⟨hx, rfl, hw1, hw6, ew⟩, hq, hs, pk_us, pk_us, pk_us, pk_us.trans pk_us.symm, pk_us⟩))⟩
          · exact br_f c0 (br_f c5 (hY _ (br_t rfl (y_noC_y (by omega) ew hw6 rfl hq (br_t rfl (y_noC_y (by omega) ew hw6 rfl hs (br_t rfl (br_f c0 (br_f c5 ⟨rfl, J⟩)))))))))
theorem i_vc_map {k : Nat} {u : SX} {v : SY} (I : i_Rel k u v) (hk : k + 5 ≤ 2561) (v1 : Int32) (v2 : Int32) (v3 : Int32) (v4 : Int32) : wpX_map (fun r u' => wpY_map (fun r' v' => r' = r ∧ i_Rel (k + 5) u' v') v v1 v2 v3 v4) u v1 v2 v3 v4 := by
  have J := I
  obtain ⟨t, n, h, c, tw, th, tb, tb', nk, nl, nr, nw, us, us', ca, cb, cc, nn, bo, lh, lc, rs, p1, p2, p3, bo', ct, vl, rs', rfl, rfl, ht1, ht4, hW, hT, hN, hR⟩ := I
  have hn := hN.1
  have hus := hN.2.1
  unfold wpX_map
  try dsimp only
  unfold wpY_map
  try dsimp only
  rcases xy_child hn hus v1 with ⟨r, hr, hX, hY⟩ | ⟨x, hx, h12, rfl, hX, hY⟩
  · exact hX _ (br_f hr (hY _ (br_f hr ⟨rfl, J⟩)))
  · obtain ⟨w, hw1, hw6, ew⟩ := qp_ND_w hN hx
    have vx : vp_in (nI x) 12 := vp_in_nI (by omega) (by omega)
    have vn : vp_in (nI n) 12 := vp_in_nI h12 (by omega)
    rw [qp_rd (f := nw) (show x < 12 by omega) ew]
    refine hX _ (br_t rfl ?_)
    by_cases c0 : v2 < 0
    · exact br_t c0 (hY _ (br_t rfl (br_t c0 ⟨rfl, J⟩)))
    · by_cases c4 : v2 ≤ 4
      · refine br_f c0 (br_t c4 ?_)
        rcases qp_ix2 v3 (n := w) (by omega) with hv | ⟨q, hq, rfl⟩
        · exact x_hasC_n (by omega) ew hv (br_t rfl (hY _ (br_t rfl (br_f c0 (br_t c4 (y_noC_n (by omega) ew hv (br_f (by decide) ⟨rfl, J⟩)))))))
        · refine x_hasC_y (by omega) ew hw6 rfl hq (br_f (by decide) ?_)
          rcases qp_ix2 v4 (n := w) (by omega) with hv | ⟨s, hs, rfl⟩
          · exact x_hasC_n (by omega) ew hv (br_t rfl (hY _ (br_t rfl (br_f c0 (br_t c4 (y_noC_y (by omega) ew hw6 rfl hq (br_t rfl (y_noC_n (by omega) ew hv (br_f (by decide) ⟨rfl, J⟩)))))))))
          · refine x_hasC_y (by omega) ew hw6 rfl hs (br_f (by decide) ⟨vx, ?_⟩)
            by_cases w6 : w < 6
            · have lw : nI w < 6 := nI_lt (b := 6) w6 (by omega)
              refine br_t lw ⟨vx, ?_⟩
              refine x_add1 h12 (by omega) (nI_1 w) ?_
              try dsimp only
              rw [nI_clamp (show n < 2 ^ 31 by omega)]
              refine ⟨vn, nm_e ⟨vn, nm_e ⟨vn, nm_e ?_⟩⟩⟩
              refine hY _ (br_t rfl (br_f c0 (br_t c4 (y_noC_y (by omega) ew hw6 rfl hq (br_t rfl (y_noC_y (by omega) ew hw6 rfl hs (br_t rfl ⟨vx, br_t lw ⟨vx, ?_⟩⟩)))))))
              refine y_add1 h12 (by omega) (nI_1 w) ?_
              refine y_numbers h12 ?_
              refine ⟨rfl, qp_mk ht1 ht4 hW hT (qp_ND_s hN h12 qp_keep qp_keep qp_keep qp_same qp_keep qp_keep qp_keep (qp_us1 hus) ?_) hR⟩
              exact ⟨w + 1, by omega, by omega, rfl, Or.inr (Or.inr (Or.inr (Or.inl ⟨rfl, rfl, x, w, q, s, ⟨hx, rfl, hw1, hw6, ew⟩, rfl, hq, hs, pk_us, pk_us, pk_us.trans pk_us.symm, pk_us, pk_us⟩)))⟩
            · have lw : ¬ nI w < 6 := nI_nlt (b := 6) (by omega) (by omega)
              exact br_f lw (hY _ (br_t rfl (br_f c0 (br_t c4 (y_noC_y (by omega) ew hw6 rfl hq (br_t rfl (y_noC_y (by omega) ew hw6 rfl hs (br_t rfl ⟨vx, br_f lw ⟨rfl, J⟩⟩))))))))
      · exact br_f c0 (br_f c4 (hY _ (br_t rfl (br_f c0 (br_f c4 ⟨rfl, J⟩)))))
theorem i_vc_distinct {k : Nat} {u : SX} {v : SY} (I : i_Rel k u v) (hk : k + 5 ≤ 2561) (v1 : Int32) : wpX_distinct (fun r u' => wpY_distinct (fun r' v' => r' = r ∧ i_Rel (k + 5) u' v') v v1) u v1 := by
  have J := I
  obtain ⟨t, n, h, c, tw, th, tb, tb', nk, nl, nr, nw, us, us', ca, cb, cc, nn, bo, lh, lc, rs, p1, p2, p3, bo', ct, vl, rs', rfl, rfl, ht1, ht4, hW, hT, hN, hR⟩ := I
  have hn := hN.1
  have hus := hN.2.1
  unfold wpX_distinct
  try dsimp only
  unfold wpY_distinct
  try dsimp only
  rcases xy_child hn hus v1 with ⟨r, hr, hX, hY⟩ | ⟨x, hx, h12, rfl, hX, hY⟩
  · exact hX _ (br_f hr (hY _ (br_f hr ⟨rfl, J⟩)))
  · obtain ⟨w, hw1, hw6, ew⟩ := qp_ND_w hN hx
    have vx : vp_in (nI x) 12 := vp_in_nI (by omega) (by omega)
    refine hX _ (br_t rfl ⟨vx, ?_⟩)
    refine x_add1 h12 (by omega) (qp_rd (by omega) ew) ?_
    refine hY _ (br_t rfl ⟨vx, ?_⟩)
    refine y_add1 h12 (by omega) (qp_rd (by omega) ew) ?_
    refine ⟨rfl, qp_mk ht1 ht4 hW hT (qp_ND_s hN h12 qp_same qp_same qp_same qp_same qp_same qp_same qp_same (qp_us1 hus) ?_) hR⟩
    exact ⟨w, hw1, hw6, rfl, Or.inr (Or.inr (Or.inr (Or.inr (Or.inr (Or.inr (Or.inr (Or.inr (Or.inl ⟨rfl, rfl, x, ⟨hx, rfl, hw1, hw6, ew⟩⟩))))))))⟩
theorem i_vc_limit {k : Nat} {u : SX} {v : SY} (I : i_Rel k u v) (hk : k + 5 ≤ 2561) (v1 : Int32) (v2 : Int32) : wpX_limit (fun r u' => wpY_limit (fun r' v' => r' = r ∧ i_Rel (k + 5) u' v') v v1 v2) u v1 v2 := by
  have J := I
  obtain ⟨t, n, h, c, tw, th, tb, tb', nk, nl, nr, nw, us, us', ca, cb, cc, nn, bo, lh, lc, rs, p1, p2, p3, bo', ct, vl, rs', rfl, rfl, ht1, ht4, hW, hT, hN, hR⟩ := I
  have hn := hN.1
  have hus := hN.2.1
  unfold wpX_limit
  try dsimp only
  unfold wpY_limit wY_limit_40
  try dsimp only
  rcases xy_child hn hus v1 with ⟨r, hr, hX, hY⟩ | ⟨x, hx, h12, rfl, hX, hY⟩
  · exact hX _ (br_f hr (hY _ (br_f hr ⟨rfl, J⟩)))
  · obtain ⟨w, hw1, hw6, ew⟩ := qp_ND_w hN hx
    have vx : vp_in (nI x) 12 := vp_in_nI (by omega) (by omega)
    have vn : vp_in (nI n) 12 := vp_in_nI h12 (by omega)
    refine hX _ (br_t rfl ⟨vx, ?_⟩)
    refine x_add1 h12 (by omega) (qp_rd (by omega) ew) ?_
    try dsimp only
    rw [nI_clamp (show n < 2 ^ 31 by omega)]
    by_cases z : 0 ≤ v2
    · obtain ⟨m, hm, rfl⟩ := nI_of (Int32.not_lt.mpr z)
      refine br_t z ⟨vn, nm_e ?_⟩
      refine hY _ (br_t rfl ⟨vx, ?_⟩)
      refine y_add1 h12 (by omega) (qp_rd (by omega) ew) ?_
      refine br_t z ?_
      refine y_numbers h12 ?_
      refine ⟨rfl, qp_mk ht1 ht4 hW hT (qp_ND_s hN h12 qp_same qp_same qp_same qp_keep qp_keep qp_keep qp_keep (qp_us1 hus) ?_) hR⟩
      exact ⟨w, hw1, hw6, rfl, Or.inr (Or.inr (Or.inr (Or.inr (Or.inr (Or.inr (Or.inr (Or.inr (Or.inr (Or.inl ⟨rfl, rfl, x, m, ⟨hx, rfl, hw1, hw6, ew⟩, hm, pk_us, pk_us⟩)))))))))⟩
    · refine br_f z ⟨vn, nm_e ?_⟩
      refine hY _ (br_t rfl ⟨vx, ?_⟩)
      refine y_add1 h12 (by omega) (qp_rd (by omega) ew) ?_
      refine br_f z ?_
      refine y_numbers h12 ?_
      refine ⟨rfl, qp_mk ht1 ht4 hW hT (qp_ND_s hN h12 qp_same qp_same qp_same qp_keep qp_keep qp_keep qp_keep (qp_us1 hus) ?_) hR⟩
      exact ⟨w, hw1, hw6, rfl, Or.inr (Or.inr (Or.inr (Or.inr (Or.inr (Or.inr (Or.inr (Or.inr (Or.inr (Or.inl ⟨rfl, rfl, x, 0, ⟨hx, rfl, hw1, hw6, ew⟩, by omega, pk_us, pk_us⟩)))))))))⟩
theorem i_vc_sort {k : Nat} {u : SX} {v : SY} (I : i_Rel k u v) (hk : k + 5 ≤ 2561) (v1 : Int32) (v2 : Int32) (v3 : Int32) : wpX_sort (fun r u' => wpY_sort (fun r' v' => r' = r ∧ i_Rel (k + 5) u' v') v v1 v2 (lw_bz v3)) u v1 v2 (lw_bz v3) := by
  have J := I
  obtain ⟨t, n, h, c, tw, th, tb, tb', nk, nl, nr, nw, us, us', ca, cb, cc, nn, bo, lh, lc, rs, p1, p2, p3, bo', ct, vl, rs', rfl, rfl, ht1, ht4, hW, hT, hN, hR⟩ := I
  have hn := hN.1
  have hus := hN.2.1
  generalize hb : lw_bz v3 = b
  have hb01 : b = 0 ∨ b = 1 := by rw [← hb]; exact lw_bz_01 v3
  clear hb
  unfold wpX_sort
  try dsimp only
  unfold wpY_sort wY_sort_56
  try dsimp only
  rcases xy_child hn hus v1 with ⟨r, hr, hX, hY⟩ | ⟨x, hx, h12, rfl, hX, hY⟩
  · exact hX _ (br_f hr (hY _ (br_f hr ⟨rfl, J⟩)))
  · obtain ⟨w, hw1, hw6, ew⟩ := qp_ND_w hN hx
    have vx : vp_in (nI x) 12 := vp_in_nI (by omega) (by omega)
    have vn : vp_in (nI n) 12 := vp_in_nI h12 (by omega)
    refine hX _ (br_t rfl ?_)
    rcases qp_ix2 v2 (n := w) (by omega) with hv | ⟨q, hq, rfl⟩
    · exact x_hasC_n (by omega) ew hv (br_t rfl (hY _ (br_t rfl (y_noC_n (by omega) ew hv (br_f (by decide) ⟨rfl, J⟩)))))
    · refine x_hasC_y (by omega) ew hw6 rfl hq (br_f (by decide) ⟨vx, ?_⟩)
      refine x_add1 h12 (by omega) (qp_rd (by omega) ew) ?_
      try dsimp only
      rw [nI_clamp (show n < 2 ^ 31 by omega)]
      refine ⟨vn, nm_e ?_⟩
      rcases hb01 with rfl | rfl
      · refine br_t rfl ⟨vn, nm_e ?_⟩
        refine hY _ (br_t rfl (y_noC_y (by omega) ew hw6 rfl hq (br_t rfl ⟨vx, ?_⟩)))
        refine y_add1 h12 (by omega) (qp_rd (by omega) ew) ?_
        refine br_t rfl ?_
        refine y_numbers h12 ?_
        refine ⟨rfl, qp_mk ht1 ht4 hW hT (qp_ND_s hN h12 qp_keep qp_same qp_keep qp_same qp_keep qp_keep qp_keep (qp_us1 hus) ?_) hR⟩
        exact ⟨w, hw1, hw6, rfl, Or.inr (Or.inr (Or.inr (Or.inr (Or.inr (Or.inr (Or.inr (Or.inr (Or.inr (Or.inr ⟨rfl, rfl, x, q, ⟨hx, rfl, hw1, hw6, ew⟩, hq, pk_us, pk_us, Or.inr ⟨pk_us, pk_us⟩⟩)))))))))⟩
      · refine br_f (by decide) ⟨vn, nm_e ?_⟩
        refine hY _ (br_t rfl (y_noC_y (by omega) ew hw6 rfl hq (br_t rfl ⟨vx, ?_⟩)))
        refine y_add1 h12 (by omega) (qp_rd (by omega) ew) ?_
        refine br_f (by decide) ?_
        refine y_numbers h12 ?_
        refine ⟨rfl, qp_mk ht1 ht4 hW hT (qp_ND_s hN h12 qp_keep qp_same qp_keep qp_same qp_keep qp_keep qp_keep (qp_us1 hus) ?_) hR⟩
        exact ⟨w, hw1, hw6, rfl, Or.inr (Or.inr (Or.inr (Or.inr (Or.inr (Or.inr (Or.inr (Or.inr (Or.inr (Or.inr ⟨rfl, rfl, x, q, ⟨hx, rfl, hw1, hw6, ew⟩, hq, pk_us, pk_us, Or.inl ⟨pk_us, pk_us⟩⟩)))))))))⟩
theorem i_vc_group {k : Nat} {u : SX} {v : SY} (I : i_Rel k u v) (hk : k + 5 ≤ 2561) (v1 : Int32) (v2 : Int32) (v3 : Int32) (v4 : Int32) : wpX_group (fun r u' => wpY_group (fun r' v' => r' = r ∧ i_Rel (k + 5) u' v') v v1 v2 v3 v4) u v1 v2 v3 v4 := by
  have J := I
  obtain ⟨t, n, h, c, tw, th, tb, tb', nk, nl, nr, nw, us, us', ca, cb, cc, nn, bo, lh, lc, rs, p1, p2, p3, bo', ct, vl, rs', rfl, rfl, ht1, ht4, hW, hT, hN, hR⟩ := I
  have hn := hN.1
  have hus := hN.2.1
  unfold wpX_group
  try dsimp only
  unfold wpY_group
  try dsimp only
  rcases xy_child hn hus v1 with ⟨r, hr, hX, hY⟩ | ⟨x, hx, h12, rfl, hX, hY⟩
  · exact hX _ (br_f hr (hY _ (br_f hr ⟨rfl, J⟩)))
  · obtain ⟨w, hw1, hw6, ew⟩ := qp_ND_w hN hx
    have vx : vp_in (nI x) 12 := vp_in_nI (by omega) (by omega)
    have vn : vp_in (nI n) 12 := vp_in_nI h12 (by omega)
    refine hX _ (br_t rfl ?_)
    rcases qp_ix2 v2 (n := w) (by omega) with hv | ⟨q, hq, rfl⟩
    · exact x_hasC_n (by omega) ew hv (br_t rfl (hY _ (br_t rfl (y_noC_n (by omega) ew hv (br_f (by decide) ⟨rfl, J⟩)))))
    · refine x_hasC_y (by omega) ew hw6 rfl hq (br_f (by decide) ?_)
      rcases qp_ix2 v4 (n := w) (by omega) with hv | ⟨s, hs, rfl⟩
      · exact x_hasC_n (by omega) ew hv (br_t rfl (hY _ (br_t rfl (y_noC_y (by omega) ew hw6 rfl hq (br_t rfl (y_noC_n (by omega) ew hv (br_f (by decide) ⟨rfl, J⟩)))))))
      · refine x_hasC_y (by omega) ew hw6 rfl hs (br_f (by decide) ?_)
        by_cases c0 : v3 < 0
        · exact br_t c0 (hY _ (br_t rfl (y_noC_y (by omega) ew hw6 rfl hq (br_t rfl (y_noC_y (by omega) ew hw6 rfl hs (br_t rfl (br_t c0 ⟨rfl, J⟩)))))))
        · by_cases c3 : v3 ≤ 3
          · have ho : v3 = 0 ∨ v3 = 1 ∨ v3 = 2 ∨ v3 = 3 := by
              obtain ⟨m, hm, em⟩ := nI_of2 (x := v3) (M := 3) (n := 3) (by decide) c0 c3
              subst em
              have : m = 0 ∨ m = 1 ∨ m = 2 ∨ m = 3 := by omega
              rcases this with rfl | rfl | rfl | rfl
              · exact Or.inl rfl
              · exact Or.inr (Or.inl rfl)
              · exact Or.inr (Or.inr (Or.inl rfl))
              · exact Or.inr (Or.inr (Or.inr rfl))
            refine br_f c0 (br_t c3 ?_)
            refine x_add1 (w := nI 2) h12 (by omega) rfl ?_
            try dsimp only
            rw [nI_clamp (show n < 2 ^ 31 by omega)]
            refine ⟨vn, nm_e ⟨vn, nm_e ⟨vn, nm_e ?_⟩⟩⟩
            refine hY _ (br_t rfl (y_noC_y (by omega) ew hw6 rfl hq (br_t rfl (y_noC_y (by omega) ew hw6 rfl hs (br_t rfl (br_f c0 (br_t c3 ?_)))))))
            refine y_add1 (w := nI 2) h12 (by omega) rfl ?_
            refine y_numbers h12 ?_
            refine ⟨rfl, qp_mk ht1 ht4 hW hT (qp_ND_s hN h12 qp_keep qp_keep qp_keep qp_same qp_keep qp_keep qp_keep (qp_us1 hus) ?_) hR⟩
            exact ⟨2, by omega, by omega, rfl, Or.inr (Or.inr (Or.inr (Or.inr (Or.inr (Or.inr (Or.inr (Or.inl ⟨rfl, rfl, rfl, x, w, q, s, ⟨hx, rfl, hw1, hw6, ew⟩, hq, hs, pk_us, pk_us, pk_us, pk_us.trans pk_us.symm, pk_us, by rw [pk_us]; exact ho⟩)))))))⟩
          · exact br_f c0 (br_f c3 (hY _ (br_t rfl (y_noC_y (by omega) ew hw6 rfl hq (br_t rfl (y_noC_y (by omega) ew hw6 rfl hs (br_t rfl (br_f c0 (br_f c3 ⟨rfl, J⟩)))))))))
theorem i_vc_union {k : Nat} {u : SX} {v : SY} (I : i_Rel k u v) (hk : k + 5 ≤ 2561) (v1 : Int32) (v2 : Int32) : wpX_union (fun r u' => wpY_union (fun r' v' => r' = r ∧ i_Rel (k + 5) u' v') v v1 v2) u v1 v2 := by
  have J := I
  obtain ⟨t, n, h, c, tw, th, tb, tb', nk, nl, nr, nw, us, us', ca, cb, cc, nn, bo, lh, lc, rs, p1, p2, p3, bo', ct, vl, rs', rfl, rfl, ht1, ht4, hW, hT, hN, hR⟩ := I
  have hn := hN.1
  have hus := hN.2.1
  unfold wpX_union
  try dsimp only
  unfold wpY_union
  try dsimp only
  rcases xy_pair hn hus v1 v2 with ⟨r, hr, hX, hY⟩ | ⟨x, y, hx, hy, h12, rfl, rfl, hX, hY⟩
  · exact hX _ (br_f hr (hY _ (br_f hr ⟨rfl, J⟩)))
  · obtain ⟨w, hw1, hw6, ew⟩ := qp_ND_w hN hx
    obtain ⟨w', hw1', hw6', ew'⟩ := qp_ND_w hN hy
    have vx : vp_in (nI x) 12 := vp_in_nI (by omega) (by omega)
    have vy : vp_in (nI y) 12 := vp_in_nI (by omega) (by omega)
    rw [qp_rd (f := nw) (show x < 12 by omega) ew, qp_rd (f := nw) (show y < 12 by omega) ew']
    by_cases e : w = w'
    · subst e
      refine hX _ (br_t rfl ⟨vx, vy, br_t rfl ⟨vx, ?_⟩⟩)
      refine x_add2 h12 (by omega) (by omega) rfl ?_
      refine hY _ (br_t rfl ⟨vx, vy, br_t rfl ⟨vx, ?_⟩⟩)
      refine y_add2 h12 (by omega) (by omega) rfl ?_
      refine ⟨rfl, qp_mk ht1 ht4 hW hT (qp_ND_s hN h12 qp_same qp_same qp_same qp_same qp_same qp_same qp_same (qp_us2 hus) ?_) hR⟩
      exact ⟨w, hw1, hw6, rfl, Or.inr (Or.inr (Or.inr (Or.inr (Or.inr (Or.inr (Or.inl ⟨rfl, x, y, ⟨hx, rfl, hw1, hw6, ew⟩, ⟨hy, rfl, hw1', hw6', ew'⟩⟩))))))⟩
    · have ne : ¬ nI w = nI w' := fun z => e ((nI_eq (by omega) (by omega)).mp z)
      exact hX _ (br_t rfl ⟨vx, vy, br_f ne (hY _ (br_t rfl ⟨vx, vy, br_f ne ⟨rfl, J⟩⟩))⟩)
