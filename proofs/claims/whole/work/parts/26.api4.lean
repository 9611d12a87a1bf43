/-! project, join, run -/
section qp_PJ
variable {tc nc rh rc : Int32} {tw th tb nk nl nr nw us ca cb cc nn bo lh lc rs : Nat → Int32}
variable {tb' us' bo' rs' p1 p2 p3 ct vl : Nat → Int32}
theorem x_proj {post : Int32 → SX → Prop} {x w m : Nat} {d : Int32} (hx : x < 12) (ew : nw x = nI w) (hw : w ≤ 6) (hm : m ≤ 6) (H : (∀ e, e < m → ∃ q : Nat, q < w ∧ qp_ch d e = nI q) → wpX_addNode (fun r u => match u with | (tc, nc, rh, rc, tw, th, tb, nk, nl, nr, nw, us, ca, cb, cc, nn, bo, lh, lc, rs) => (vp_in r 12 ∧ ∀ z, z = upd nn r.toNatClampNeg d → post r (tc, nc, rh, rc, tw, th, tb, nk, nl, nr, nw, us, ca, cb, cc, z, bo, lh, lc, rs))) (tc, nc, rh, rc, tw, th, tb, nk, nl, nr, nw, us, ca, cb, cc, nn, bo, lh, lc, rs) 4 (nI x) (-1) (nI m)) (Hf : ¬ (∀ e, e < m → ∃ q : Nat, q < w ∧ qp_ch d e = nI q) → post (-3) (tc, nc, rh, rc, tw, th, tb, nk, nl, nr, nw, us, ca, cb, cc, nn, bo, lh, lc, rs)) : ∃ k, wX_project_32 post (nI x) d (nI m) tc nc rh rc tw th tb nk nl nr nw us ca cb cc nn bo lh lc rs k 0 := by
  refine ⟨m + 1, ?_⟩
  refine qp_loop0 (fun k i => wX_project_32 post (nI x) d (nI m) tc nc rh rc tw th tb nk nl nr nw us ca cb cc nn bo lh lc rs k (nI i)) (fun i => ∀ e, e < i → ∃ q : Nat, q < w ∧ qp_ch d e = nI q) m ?_ ?_ (m + 1) 0 (by omega) (by omega) (fun e h => absurd h (Nat.not_lt_zero e))
  · intro k A
    exact br_t (nI_le (Nat.le_refl _) (by omega)) (H A)
  · intro k i hi A ih
    refine br_f (nI_ge hi (by omega)) ?_
    unfold wpX_chosenColumn
    try dsimp only
    rcases qp_ix2 (qp_ch d i) (n := w) (by omega) with hv | ⟨q, hq, e⟩
    · exact x_hasC_n hx ew hv (br_t rfl (Hf (fun B => by
        obtain ⟨q, hq, e⟩ := B i hi
        rw [e] at hv
        rcases hv with hv | hv
        · exact nI_pos (by omega) hv
        · exact nI_ge hq (by omega) hv)))
    · refine x_hasC_y hx ew hw e hq (br_f (by decide) (nm_r (nI_1 i) (ih (fun j hj => ?_))))
      by_cases z : j = i
      · subst z; exact ⟨q, hq, e⟩
      · exact A j (by omega)
theorem y_proj {post : Int32 → SY → Prop} {x w m : Nat} {d : Int32} (hx : x < 12) (ew : nw x = nI w) (hw : w ≤ 6) (hm : m ≤ 6) (H : (∀ e, e < m → ∃ q : Nat, q < w ∧ qp_ch d e = nI q) → wpY_node (fun r u => match u with | (tc, nc, rh, rc, tb', th, tw, nk, nl, nr, p1, p2, p3, nw, us', bo', ct, vl, rs') => wpY_numbers (fun u => match u with | (tc, nc, rh, rc, tb', th, tw, nk, nl, nr, p1, p2, p3, nw, us', bo', ct, vl, rs') => post r (tc, nc, rh, rc, tb', th, tw, nk, nl, nr, p1, p2, p3, nw, us', bo', ct, vl, rs')) (tc, nc, rh, rc, tb', th, tw, nk, nl, nr, p1, p2, p3, nw, us', bo', ct, vl, rs') r d (nI m) 0) (tc, nc, rh, rc, tb', th, tw, nk, nl, nr, p1, p2, p3, nw, us', bo', ct, vl, rs') 4 (nI x) (-1) (nI m)) (Hf : ¬ (∀ e, e < m → ∃ q : Nat, q < w ∧ qp_ch d e = nI q) → post (-3) (tc, nc, rh, rc, tb', th, tw, nk, nl, nr, p1, p2, p3, nw, us', bo', ct, vl, rs')) : ∃ k, wY_project_32 post (nI x) d (nI m) tc nc rh rc tb' th tw nk nl nr p1 p2 p3 nw us' bo' ct vl rs' k 0 := by
  refine ⟨m + 1, ?_⟩
  refine qp_loop0 (fun k i => wY_project_32 post (nI x) d (nI m) tc nc rh rc tb' th tw nk nl nr p1 p2 p3 nw us' bo' ct vl rs' k (nI i)) (fun i => ∀ e, e < i → ∃ q : Nat, q < w ∧ qp_ch d e = nI q) m ?_ ?_ (m + 1) 0 (by omega) (by omega) (fun e h => absurd h (Nat.not_lt_zero e))
  · intro k A
    exact br_t (nI_le (Nat.le_refl _) (by omega)) (H A)
  · intro k i hi A ih
    refine br_f (nI_ge hi (by omega)) ?_
    rcases qp_ix2 (qp_ch d i) (n := w) (by omega) with hv | ⟨q, hq, e⟩
    · exact y_noC_n hx ew hv (br_f (by decide) (Hf (fun B => by
        obtain ⟨q, hq, e⟩ := B i hi
        rw [e] at hv
        rcases hv with hv | hv
        · exact nI_pos (by omega) hv
        · exact nI_ge hq (by omega) hv)))
    · refine y_noC_y hx ew hw e hq (br_t rfl (nm_r (nI_1 i) (ih (fun j hj => ?_))))
      by_cases z : j = i
      · subst z; exact ⟨q, hq, e⟩
      · exact A j (by omega)
end qp_PJ
theorem i_vc_project {k : Nat} {u : SX} {v : SY} (I : i_Rel k u v) (hk : k + 5 ≤ 2561) (v1 : Int32) (v2 : Int32) (v3 : Int32) : wpX_project (fun r u' => wpY_project (fun r' v' => r' = r ∧ i_Rel (k + 5) u' v') v v1 v2 v3) u v1 v2 v3 := by
  have J := I
  obtain ⟨t, n, h, c, tw, th, tb, tb', nk, nl, nr, nw, us, us', ca, cb, cc, nn, bo, lh, lc, rs, p1, p2, p3, bo', ct, vl, rs', rfl, rfl, ht1, ht4, hW, hT, hN, hR⟩ := I
  have hn := hN.1
  have hus := hN.2.1
  unfold wpX_project
  try dsimp only
  rcases xy_child hn hus v1 with ⟨r, hr, hX, hY⟩ | ⟨x, hx, h12, rfl, hX, hY⟩
  · refine hX _ (br_f hr ?_)
    unfold wpY_project
    try dsimp only
    exact hY _ (br_f hr ⟨rfl, J⟩)
  · obtain ⟨w, hw1, hw6, ew⟩ := qp_ND_w hN hx
    have vx : vp_in (nI x) 12 := vp_in_nI (by omega) (by omega)
    have vn : vp_in (nI n) 12 := vp_in_nI h12 (by omega)
    refine hX _ (br_t rfl ?_)
    by_cases a1 : v3 < 1
    · refine br_t a1 ?_
      unfold wpY_project
      try dsimp only
      exact hY _ (br_t rfl (br_t a1 ⟨rfl, J⟩))
    · by_cases a6 : v3 ≤ 6
      · obtain ⟨m, hm, em⟩ := nI_of2 (x := v3) (M := 6) (n := 6) (by decide) (fun z => a1 (Int32.lt_trans z (by decide))) a6
        subst em
        have hm1 : 1 ≤ m := (nI_leI (a := 1) (b := m) (by omega) (by omega)).mp (Int32.not_lt.mp a1)
        refine br_f a1 (br_t a6 ?_)
        refine x_proj (by omega) ew hw6 hm (fun A => ?_) (fun A => ?_)
        · refine x_add1 h12 (by omega) rfl ?_
          try dsimp only
          rw [nI_clamp (show n < 2 ^ 31 by omega)]
          refine ⟨vn, nm_e ?_⟩
          unfold wpY_project
          try dsimp only
          refine hY _ (br_t rfl (br_f a1 (br_t a6 ?_)))
          refine y_proj (by omega) ew hw6 hm (fun _ => ?_) (fun B => absurd A B)
          refine y_add1 h12 (by omega) rfl ?_
          refine y_numbers h12 ?_
          refine ⟨rfl, qp_mk ht1 ht4 hW hT (qp_ND_s hN h12 qp_same qp_same qp_same qp_keep qp_keep qp_keep qp_keep (qp_us1 hus) ?_) hR⟩
          exact ⟨m, hm1, hm, rfl, Or.inr (Or.inr (Or.inr (Or.inr (Or.inl ⟨rfl, rfl, x, w, ⟨hx, rfl, hw1, hw6, ew⟩, pk_us.trans pk_us.symm, by rw [pk_us]; exact A⟩))))⟩
        · unfold wpY_project
          try dsimp only
          refine hY _ (br_t rfl (br_f a1 (br_t a6 ?_)))
          exact y_proj (by omega) ew hw6 hm (fun B => absurd B A) (fun _ => ⟨rfl, J⟩)
      · refine br_f a1 (br_f a6 ?_)
        unfold wpY_project
        try dsimp only
        exact hY _ (br_t rfl (br_f a1 (br_f a6 ⟨rfl, J⟩)))
theorem i_vc_join {k : Nat} {u : SX} {v : SY} (I : i_Rel k u v) (hk : k + 5 ≤ 2561) (v1 : Int32) (v2 : Int32) (v3 : Int32) (v4 : Int32) : wpX_join (fun r u' => wpY_join (fun r' v' => r' = r ∧ i_Rel (k + 5) u' v') v v1 v2 v3 v4) u v1 v2 v3 v4 := by
  have J := I
  obtain ⟨t, n, h, c, tw, th, tb, tb', nk, nl, nr, nw, us, us', ca, cb, cc, nn, bo, lh, lc, rs, p1, p2, p3, bo', ct, vl, rs', rfl, rfl, ht1, ht4, hW, hT, hN, hR⟩ := I
  have hn := hN.1
  have hus := hN.2.1
  unfold wpX_join wpX_chosenColumn
  try dsimp only
  unfold wpY_join
  try dsimp only
  rcases xy_pair hn hus v1 v2 with ⟨r, hr, hX, hY⟩ | ⟨x, y, hx, hy, h12, rfl, rfl, hX, hY⟩
  · exact hX _ (br_f hr (hY _ (br_f hr ⟨rfl, J⟩)))
  · obtain ⟨wl, hl1, hl6, el⟩ := qp_ND_w hN hx
    obtain ⟨wr, hr1, hr6, er⟩ := qp_ND_w hN hy
    have vx : vp_in (nI x) 12 := vp_in_nI (by omega) (by omega)
    have vy : vp_in (nI y) 12 := vp_in_nI (by omega) (by omega)
    have vn : vp_in (nI n) 12 := vp_in_nI h12 (by omega)
    have el' := qp_rd (f := nw) (show x < 12 by omega) el
    have er' := qp_rd (f := nw) (show y < 12 by omega) er
    refine hX _ (br_t rfl ?_)
    by_cases c0 : v4 < 0
    · exact br_t c0 (hY _ (br_t rfl (br_t c0 ⟨rfl, J⟩)))
    · by_cases c3 : v4 ≤ 3
      · refine br_f c0 (br_t c3 ?_)
        rw [qp_ch0, qp_ch1]
        obtain ⟨a, ha8, ea⟩ := qp_and7 v3
        obtain ⟨b, hb8, eb⟩ := qp_and7 (v3 >>> ((3 : Int32) &&& 31))
        by_cases ha : a < wl
        · refine x_hasC_y (by omega) el hl6 ea ha (br_f (by decide) ?_)
          by_cases hb : b < wr
          · refine x_hasC_y (by omega) er hr6 eb hb (br_f (by decide) ⟨vx, nm_r el' ?_⟩)
            have kinds : v4 = 0 ∨ v4 = 1 ∨ v4 = 2 ∨ v4 = 3 := by
              obtain ⟨m, hm, em⟩ := nI_of2 (x := v4) (M := 3) (n := 3) (by decide) c0 c3
              subst em
              have : m = 0 ∨ m = 1 ∨ m = 2 ∨ m = 3 := by omega
              rcases this with rfl | rfl | rfl | rfl
              · exact Or.inl rfl
              · exact Or.inr (Or.inl rfl)
              · exact Or.inr (Or.inr (Or.inl rfl))
              · exact Or.inr (Or.inr (Or.inr rfl))
            -- Y's way to where it has the width
            have yes : ∀ (Q : Int32 → SY → Prop), ((v4 = 0 → wY_join_78 Q (nI x) (nI y) v3 v4 (nI wl) (nI t) (nI n) (nI h) (nI c) tb' th tw nk nl nr p1 p2 p3 nw us' bo' ct vl rs') ∧ (¬ v4 = 0 → (v4 = 3 → wY_join_78 Q (nI x) (nI y) v3 v4 (nI wl) (nI t) (nI n) (nI h) (nI c) tb' th tw nk nl nr p1 p2 p3 nw us' bo' ct vl rs') ∧ (¬ v4 = 3 → wY_join_89 Q (nI x) (nI y) v3 v4 (nI wl) (nI t) (nI n) (nI h) (nI c) tb' th tw nk nl nr p1 p2 p3 nw us' bo' ct vl rs'))) → wpY_join Q (nI t, nI n, nI h, nI c, tb', th, tw, nk, nl, nr, p1, p2, p3, nw, us', bo', ct, vl, rs') (nI x) (nI y) v3 v4 := by
              intro Q K
              unfold wpY_join
              try dsimp only
              exact hY _ (br_t rfl (br_f c0 (br_t c3 (y_noC_y (by omega) el hl6 ea ha (br_t rfl (y_noC_y (by omega) er hr6 eb hb (br_t rfl ⟨vx, nm_r el' K⟩)))))))
            -- both sides with the width they have reckoned
            have fin : ∀ w : Nat, w ≤ 12 → (((v4 = 0 ∨ v4 = 3) ∧ w = wl + wr) ∨ ((v4 = 1 ∨ v4 = 2) ∧ w = wl)) → ((∀ (Q : Int32 → SY → Prop), wY_join_89 Q (nI x) (nI y) v3 v4 (nI w) (nI t) (nI n) (nI h) (nI c) tb' th tw nk nl nr p1 p2 p3 nw us' bo' ct vl rs' → wpY_join Q (nI t, nI n, nI h, nI c, tb', th, tw, nk, nl, nr, p1, p2, p3, nw, us', bo', ct, vl, rs') (nI x) (nI y) v3 v4)) → wX_join_99 (fun r u' => wpY_join (fun r' v' => r' = r ∧ i_Rel (k + 5) u' v') (nI t, nI n, nI h, nI c, tb', th, tw, nk, nl, nr, p1, p2, p3, nw, us', bo', ct, vl, rs') (nI x) (nI y) v3 v4) (nI x) (nI y) v4 (v3 &&& 7) ((v3 >>> ((3 : Int32) &&& 31)) &&& 7) (nI w) (nI t) (nI n) (nI h) (nI c) tw th tb nk nl nr nw us ca cb cc nn bo lh lc rs := by
              intro w hw12 hw Y
              unfold wX_join_99
              refine pk_le w 6 (fun w6 => ?_) (fun w6 => ?_) rfl rfl (by omega) (by omega)
              · refine x_add2 h12 (by omega) (by omega) rfl ?_
                try dsimp only
                rw [nI_clamp (show n < 2 ^ 31 by omega)]
                refine ⟨vn, nm_e ⟨vn, nm_e ⟨vn, nm_e ?_⟩⟩⟩
                refine Y _ ?_
                unfold wY_join_89
                refine br_t (nI_le (b := 6) w6 (by omega)) ?_
                refine y_add2 h12 (by omega) (by omega) rfl ?_
                refine y_numbers h12 ?_
                refine ⟨rfl, qp_mk ht1 ht4 hW hT (qp_ND_s hN h12 qp_keep qp_keep qp_keep qp_same qp_keep qp_keep qp_keep (qp_us2 hus) ?_) hR⟩
                exact ⟨w, by omega, w6, rfl, Or.inr (Or.inr (Or.inr (Or.inr (Or.inr (Or.inl ⟨rfl, x, wl, y, wr, a, b, ⟨hx, rfl, hl1, hl6, el⟩, ⟨hy, rfl, hr1, hr6, er⟩, ha, hb, pk_us.trans ea, pk_us.trans eb, pk_us.trans ea, pk_us.trans eb, pk_us.trans pk_us.symm, by rw [pk_us]; exact hw⟩)))))⟩
              · refine Y _ ?_
                unfold wY_join_89
                exact br_f (nI_ge (a := 6) w6 (by omega)) ⟨rfl, J⟩
            unfold wX_join_88
            rcases kinds with h4 | h4 | h4 | h4
            · refine br_t h4 ⟨vy, nm_r (by rw [er', nI_add]) ?_⟩
              refine fin (wl + wr) (by omega) (Or.inl ⟨Or.inl h4, rfl⟩) (fun Q K => yes Q (br_t h4 ?_))
              unfold wY_join_78
              exact ⟨vy, nm_r (by rw [er', nI_add]) K⟩
            · have n0 : ¬ v4 = 0 := by rw [h4]; decide
              have n3 : ¬ v4 = 3 := by rw [h4]; decide
              exact br_f n0 (br_f n3 (fin wl (by omega) (Or.inr ⟨Or.inl h4, rfl⟩) (fun Q K => yes Q (br_f n0 (br_f n3 K)))))
            · have n0 : ¬ v4 = 0 := by rw [h4]; decide
              have n3 : ¬ v4 = 3 := by rw [h4]; decide
              exact br_f n0 (br_f n3 (fin wl (by omega) (Or.inr ⟨Or.inr h4, rfl⟩) (fun Q K => yes Q (br_f n0 (br_f n3 K)))))
            · have n0 : ¬ v4 = 0 := by rw [h4]; decide
              refine br_f n0 (br_t h4 ⟨vy, nm_r (by rw [er', nI_add]) ?_⟩)
              refine fin (wl + wr) (by omega) (Or.inl ⟨Or.inr h4, rfl⟩) (fun Q K => yes Q (br_f n0 (br_t h4 ?_)))
              unfold wY_join_78
              exact ⟨vy, nm_r (by rw [er', nI_add]) K⟩
          · have hv : (v3 >>> ((3 : Int32) &&& 31)) &&& 7 < 0 ∨ nI wr ≤ (v3 >>> ((3 : Int32) &&& 31)) &&& 7 := Or.inr (by rw [eb]; exact nI_le (by omega) (by omega))
            exact x_hasC_n (by omega) er hv (br_t rfl (hY _ (br_t rfl (br_f c0 (br_t c3 (y_noC_y (by omega) el hl6 ea ha (br_t rfl (y_noC_n (by omega) er hv (br_f (by decide) ⟨rfl, J⟩)))))))))
        · have hv : v3 &&& 7 < 0 ∨ nI wl ≤ v3 &&& 7 := Or.inr (by rw [ea]; exact nI_le (by omega) (by omega))
          exact x_hasC_n (by omega) el hv (br_t rfl (hY _ (br_t rfl (br_f c0 (br_t c3 (y_noC_n (by omega) el hv (br_f (by decide) ⟨rfl, J⟩)))))))
      · exact br_f c0 (br_f c3 (hY _ (br_t rfl (br_f c0 (br_f c3 ⟨rfl, J⟩)))))
