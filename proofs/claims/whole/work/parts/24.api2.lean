/-! the tables -/
section qp_T
variable {tc nc rh rc : Int32} {tw th tb nk nl nr nw us ca cb cc nn bo lh lc rs : Nat → Int32}
variable {tb' us' bo' rs' p1 p2 p3 ct vl : Nat → Int32}
theorem x_scanned {post : Int32 → Prop} {n : Nat} {p : Int32} (hn : n ≤ 12) (ht : (∃ i, i < n ∧ nk i = 0 ∧ nn i = p) → post 1) (hf : ¬ (∃ i, i < n ∧ nk i = 0 ∧ nn i = p) → post 0) : wpX_isScanned post (tc, nI n, rh, rc, tw, th, tb, nk, nl, nr, nw, us, ca, cb, cc, nn, bo, lh, lc, rs) p := by
  unfold wpX_isScanned
  try dsimp only
  refine ⟨n + 1, ?_⟩
  refine qp_loop0 (fun k i => wX_isScanned_2 post p tc (nI n) rh rc tw th tb nk nl nr nw us ca cb cc nn bo lh lc rs k (nI i)) (fun i => ∀ j, j < i → ¬ (nk j = 0 ∧ nn j = p)) n ?_ ?_ (n + 1) 0 (by omega) (by omega) (fun j h => absurd h (Nat.not_lt_zero j))
  · intro k J
    exact br_t (nI_le (Nat.le_refl _) (by omega)) (hf (fun ⟨i, h1, h2⟩ => J i h1 h2))
  · intro k i hi J ih
    have go : ¬ (nk i = 0 ∧ nn i = p) → wX_isScanned_2 post p tc (nI n) rh rc tw th tb nk nl nr nw us ca cb cc nn bo lh lc rs k (nI (i + 1)) := fun hz => ih (fun j hj => by
      by_cases e : j = i
      · subst e; exact hz
      · exact J j (by omega))
    refine br_f (nI_ge hi (by omega)) ?_
    rw [nI_clamp (by omega)]
    exact ⟨vp_in_nI (by omega) (by omega), br_c (fun a => ⟨vp_in_nI (by omega) (by omega), br_c (fun b => ht ⟨i, hi, a, b⟩) (fun b => nm_r (nI_1 i) (go (fun z => b z.2)))⟩) (fun a => nm_r (nI_1 i) (go (fun z => a z.1)))⟩
theorem y_scanned {post : Int32 → SY → Prop} {n x : Nat} {p : Int32} (hn : n ≤ 12) (hx : x < 4) (ht : (∃ i, i < n ∧ nk i = 0 ∧ p1 i = nI x) → post (-11) (tc, nI n, rh, rc, tb', th, tw, nk, nl, nr, p1, p2, p3, nw, us', bo', ct, vl, rs')) (hf : ¬ (∃ i, i < n ∧ nk i = 0 ∧ p1 i = nI x) → post 0 (tc, nI n, rh, rc, tb', upd th x 0, upd tw x p, nk, nl, nr, p1, p2, p3, nw, us', bo', ct, vl, rs')) : ∃ m, wY_defineTable_25 post (nI x) p tc (nI n) rh rc tb' th tw nk nl nr p1 p2 p3 nw us' bo' ct vl rs' m 0 := by
  refine ⟨n + 1, ?_⟩
  refine qp_loop0 (fun k i => wY_defineTable_25 post (nI x) p tc (nI n) rh rc tb' th tw nk nl nr p1 p2 p3 nw us' bo' ct vl rs' k (nI i)) (fun i => ∀ j, j < i → ¬ (nk j = 0 ∧ p1 j = nI x)) n ?_ ?_ (n + 1) 0 (by omega) (by omega) (fun j h => absurd h (Nat.not_lt_zero j))
  · intro k J
    refine br_t (nI_le (Nat.le_refl _) (by omega)) ?_
    rw [nI_clamp (by omega)]
    exact ⟨vp_in_nI hx (by omega), nm_e ⟨vp_in_nI hx (by omega), nm_e (hf (fun ⟨i, h1, h2⟩ => J i h1 h2))⟩⟩
  · intro k i hi J ih
    have go : ¬ (nk i = 0 ∧ p1 i = nI x) → wY_defineTable_25 post (nI x) p tc (nI n) rh rc tb' th tw nk nl nr p1 p2 p3 nw us' bo' ct vl rs' k (nI (i + 1)) := fun hz => ih (fun j hj => by
      by_cases e : j = i
      · subst e; exact hz
      · exact J j (by omega))
    refine br_f (nI_ge hi (by omega)) ?_
    rw [nI_clamp (show i < 2 ^ 31 by omega)]
    exact ⟨vp_in_nI (by omega) (by omega), br_c (fun a => ⟨vp_in_nI (by omega) (by omega), br_c (fun b => ht ⟨i, hi, a, b⟩) (fun b => nm_r (nI_1 i) (go (fun z => b z.2)))⟩) (fun a => nm_r (nI_1 i) (go (fun z => a z.1)))⟩
end qp_T
theorem qp_u2 {f g : Nat → Int32} {i p : Nat} {x : Int32} (h : p ≠ i → f p = g p) : upd f i x p = upd g i x p := by
  by_cases e : p = i
  · subst e; rw [pk_us, pk_us]
  · rw [pk_un e, pk_un e]; exact h e
/-- a scan's table is the same number on both sides -/
theorem qp_scan_eq {k l r w a b c d q1 q2 q3 : Int32} {W : Nat → Int32} {i : Nat} (h : qp_OK k l r w a b c d q1 q2 q3 W i) (hk : k = 0) : d = q1 := by
  obtain ⟨wn, _, _, _, h⟩ := h
  rcases h with h | h | h | h | h | h | h | h | h | h | h
  · obtain ⟨_, _, t, _, h1, h2⟩ := h
    exact h1.trans h2.symm
  all_goals (rw [hk] at h; exact absurd h.1 (by decide))
theorem i_vc_defineTable {k : Nat} {u : SX} {v : SY} (I : i_Rel k u v) (hk : k + 5 ≤ 2561) (v1 : Int32) (v2 : Int32) : wpX_defineTable (fun r u' => wpY_defineTable (fun r' v' => r' = r ∧ i_Rel (k + 5) u' v') v v1 v2) u v1 v2 := by
  have J := I
  obtain ⟨t, n, h, c, tw, th, tb, tb', nk, nl, nr, nw, us, us', ca, cb, cc, nn, bo, lh, lc, rs, p1, p2, p3, bo', ct, vl, rs', rfl, rfl, ht1, ht4, hW, hT, hN, hR⟩ := I
  have hn := hN.1
  have hus := hN.2.1
  unfold wpX_defineTable
  try dsimp only
  unfold wpY_defineTable
  try dsimp only
  rcases qp_ix2 v1 (n := t) (by omega) with hv | ⟨x, hx, rfl⟩
  · exact x_hasT_n hv (br_t rfl (y_noT_n hv (br_f (by decide) ⟨rfl, J⟩)))
  · have vx : vp_in (nI x) 4 := vp_in_nI (by omega) (by omega)
    refine x_hasT_y ht4 hx (br_f (by decide) ?_)
    by_cases w1 : v2 < 1
    · exact br_t w1 (y_noT_y ht4 hx (br_t rfl (br_t w1 ⟨rfl, J⟩)))
    · by_cases w3 : v2 ≤ 3
      · obtain ⟨w, hw, ew⟩ := nI_of2 (x := v2) (M := 3) (n := 3) (by decide) (fun z => w1 (Int32.lt_trans z (by decide))) w3
        have hw1 : 1 ≤ w := by
          subst ew
          have := Int32.not_lt.mp w1
          exact (nI_leI (a := 1) (b := w) (by omega) (by omega)).mp this
        have hiff : (∃ i, i < n ∧ nk i = 0 ∧ nn i = nI x) ↔ (∃ i, i < n ∧ nk i = 0 ∧ p1 i = nI x) := by
          constructor
          · rintro ⟨i, h1, h2, h3⟩
            exact ⟨i, h1, h2, (qp_scan_eq (hN.2.2 i h1) h2).symm.trans h3⟩
          · rintro ⟨i, h1, h2, h3⟩
            exact ⟨i, h1, h2, (qp_scan_eq (hN.2.2 i h1) h2).trans h3⟩
        refine br_f w1 (br_t w3 ?_)
        refine x_scanned hn (fun hs => ?_) (fun hs => ?_)
        · refine br_f (by decide) ?_
          refine y_noT_y ht4 hx (br_t rfl (br_f w1 (br_t w3 ?_)))
          exact y_scanned hn (by omega) (fun _ => ⟨rfl, J⟩) (fun z => absurd (hiff.mp hs) z)
        · refine br_t rfl ?_
          rw [nI_clamp (by omega)]
          refine ⟨vx, nm_e ⟨vx, nm_e ?_⟩⟩
          refine y_noT_y ht4 hx (br_t rfl (br_f w1 (br_t w3 ?_)))
          refine y_scanned hn (by omega) (fun z => absurd (hiff.mpr z) hs) (fun _ => ⟨rfl, ?_⟩)
          refine qp_mk ht1 ht4 (fun j hj => ?_) (fun j hj => ?_) hN hR
          · by_cases e : j = x
            · subst e; rw [pk_us]; exact ⟨w, hw1, hw, ew⟩
            · rw [pk_un e]; exact hW j hj
          · by_cases e : j = x
            · subst e; rw [pk_us]; exact ⟨0, by omega, nI_0.symm, fun p hp => by omega⟩
            · rw [pk_un e]; exact hT j hj
      · exact br_f w1 (br_f w3 (y_noT_y ht4 hx (br_t rfl (br_f w1 (br_f w3 ⟨rfl, J⟩)))))
theorem i_vc_addRow {k : Nat} {u : SX} {v : SY} (I : i_Rel k u v) (hk : k + 5 ≤ 2561) (v1 : Int32) (v2 : Int32) (v3 : Int32) (v4 : Int32) : wpX_addRow (fun r u' => wpY_addRow (fun r' v' => r' = r ∧ i_Rel (k + 5) u' v') v v1 v2 v3 v4) u v1 v2 v3 v4 := by
  have J := I
  obtain ⟨t, n, h, c, tw, th, tb, tb', nk, nl, nr, nw, us, us', ca, cb, cc, nn, bo, lh, lc, rs, p1, p2, p3, bo', ct, vl, rs', rfl, rfl, ht1, ht4, hW, hT, hN, hR⟩ := I
  have hn := hN.1
  have hus := hN.2.1
  unfold wpX_addRow
  try dsimp only
  unfold wpY_addRow wpX_tableRowStart
  try dsimp only
  rcases qp_ix2 v1 (n := t) (by omega) with hv | ⟨x, hx, rfl⟩
  · exact x_hasT_n hv (br_t rfl (y_noT_n hv (br_f (by decide) ⟨rfl, J⟩)))
  · have vx : vp_in (nI x) 4 := vp_in_nI (by omega) (by omega)
    obtain ⟨r, hr, er, hag⟩ := hT x (by omega)
    refine x_hasT_y ht4 hx (br_f (by decide) ⟨vx, ?_⟩)
    rw [nI_clamp (show x < 2 ^ 31 by omega)]
    refine nm_r er ?_
    by_cases r10 : r < 10
    · have l10 : nI r < 10 := nI_lt (b := 10) r10 (by omega)
      refine br_t l10 ?_
      have i1 : nI (x * 30 + r * 3) + 1 = nI (x * 30 + r * 3 + 1) := nI_1 _
      have i2 : nI (x * 30 + r * 3) + 2 = nI (x * 30 + r * 3 + 2) := nI_add _ 2
      rw [qp_it0, i1, i2, nI_clamp (by omega), nI_clamp (by omega), nI_clamp (by omega), nI_1]
      have va : vp_in (nI (x * 30 + r * 3)) 120 := vp_in_nI (by omega) (by omega)
      have vb : vp_in (nI (x * 30 + r * 3 + 1)) 120 := vp_in_nI (by omega) (by omega)
      have vc : vp_in (nI (x * 30 + r * 3 + 2)) 120 := vp_in_nI (by omega) (by omega)
      refine ⟨va, nm_e ⟨vb, nm_e ⟨vc, nm_e ⟨vx, nm_e ?_⟩⟩⟩⟩
      refine y_noT_y ht4 hx (br_t rfl ⟨vx, nm_r er (br_t l10 ?_)⟩)
      rw [qp_iu0, i1, i2, nI_clamp (by omega), nI_clamp (by omega), nI_clamp (by omega), nI_1]
      refine ⟨va, nm_e ⟨vb, nm_e ⟨vc, nm_e ⟨vx, nm_e ⟨rfl, ?_⟩⟩⟩⟩⟩
      refine qp_mk ht1 ht4 hW (fun j hj => ?_) hN hR
      by_cases e : j = x
      · subst e
        refine ⟨r + 1, by omega, pk_us, fun p hp => ?_⟩
        exact qp_u2 (fun e2 => qp_u2 (fun e1 => qp_u2 (fun e0 => hag p (by omega))))
      · obtain ⟨r', hr', er', hag'⟩ := hT j hj
        refine ⟨r', hr', by rw [pk_un e]; exact er', fun p hp => ?_⟩
        exact qp_u2 (fun e2 => qp_u2 (fun e1 => qp_u2 (fun e0 => hag' p hp)))
    · have l10 : ¬ nI r < 10 := nI_nlt (b := 10) (by omega) (by omega)
      refine br_f l10 ?_
      exact y_noT_y ht4 hx (br_t rfl ⟨vx, nm_r er (br_f l10 ⟨rfl, J⟩)⟩)
theorem i_vc_setCell {k : Nat} {u : SX} {v : SY} (I : i_Rel k u v) (hk : k + 5 ≤ 2561) (v1 : Int32) (v2 : Int32) (v3 : Int32) (v4 : Int32) : wpX_setCell (fun r u' => wpY_setCell (fun r' v' => r' = r ∧ i_Rel (k + 5) u' v') v v1 v2 v3 v4) u v1 v2 v3 v4 := by
  have J := I
  obtain ⟨t, n, h, c, tw, th, tb, tb', nk, nl, nr, nw, us, us', ca, cb, cc, nn, bo, lh, lc, rs, p1, p2, p3, bo', ct, vl, rs', rfl, rfl, ht1, ht4, hW, hT, hN, hR⟩ := I
  have hn := hN.1
  have hus := hN.2.1
  unfold wpX_setCell
  try dsimp only
  unfold wpY_setCell wpX_tableRowStart
  try dsimp only
  rcases qp_ix2 v1 (n := t) (by omega) with hv | ⟨x, hx, rfl⟩
  · exact x_hasT_n hv (br_t rfl (y_noT_n hv (br_f (by decide) ⟨rfl, J⟩)))
  · have vx : vp_in (nI x) 4 := vp_in_nI (by omega) (by omega)
    obtain ⟨r, hr, er, hag⟩ := hT x (by omega)
    obtain ⟨w, hw1, hw3, ew⟩ := hW x (by omega)
    rw [nI_clamp (show x < 2 ^ 31 by omega), er, ew]
    refine x_hasT_y ht4 hx (br_f (by decide) ?_)
    by_cases a0 : v2 < 0
    · exact br_t a0 (y_noT_y ht4 hx (br_t rfl (br_t a0 ⟨rfl, J⟩)))
    · refine br_f a0 ⟨vx, ?_⟩
      by_cases a1 : v2 < nI r
      · refine br_t a1 ?_
        by_cases b0 : v3 < 0
        · exact br_t b0 (y_noT_y ht4 hx (br_t rfl (br_f a0 ⟨vx, br_t a1 (br_t b0 ⟨rfl, J⟩)⟩)))
        · refine br_f b0 ⟨vx, ?_⟩
          by_cases b1 : v3 < nI w
          · obtain ⟨y, hy, rfl⟩ := nI_of a0
            obtain ⟨q, hq, rfl⟩ := nI_of b0
            have hy' : y < r := (nI_ltI hy (by omega)).mp a1
            have hq' : q < w := (nI_ltI hq (by omega)).mp b1
            have va : vp_in (nI (x * 30 + y * 3 + q)) 120 := vp_in_nI (by omega) (by omega)
            rw [qp_it0, nI_add, qp_iu, nI_clamp (by omega)]
            refine br_t b1 ⟨va, nm_e ?_⟩
            refine y_noT_y ht4 hx (br_t rfl (br_f a0 ⟨vx, br_t a1 (br_f b0 ⟨vx, br_t b1 ⟨va, nm_e ⟨rfl, ?_⟩⟩⟩)⟩))
            refine qp_mk ht1 ht4 hW (fun j hj => ?_) hN hR
            obtain ⟨r', hr', er', hag'⟩ := hT j hj
            refine ⟨r', hr', er', fun p hp => ?_⟩
            exact qp_u2 (fun _ => hag' p hp)
          · exact br_f b1 (y_noT_y ht4 hx (br_t rfl (br_f a0 ⟨vx, br_t a1 (br_f b0 ⟨vx, br_f b1 ⟨rfl, J⟩⟩)⟩)))
      · exact br_f a1 (y_noT_y ht4 hx (br_t rfl (br_f a0 ⟨vx, br_f a1 ⟨rfl, J⟩⟩)))
theorem i_vc_dropRow {k : Nat} {u : SX} {v : SY} (I : i_Rel k u v) (hk : k + 5 ≤ 2561) (v1 : Int32) (v2 : Int32) : wpX_dropRow (fun r u' => wpY_dropRow (fun r' v' => r' = r ∧ i_Rel (k + 5) u' v') v v1 v2) u v1 v2 := by
  have J := I
  obtain ⟨t, n, h, c, tw, th, tb, tb', nk, nl, nr, nw, us, us', ca, cb, cc, nn, bo, lh, lc, rs, p1, p2, p3, bo', ct, vl, rs', rfl, rfl, ht1, ht4, hW, hT, hN, hR⟩ := I
  have hn := hN.1
  have hus := hN.2.1
  unfold wpX_dropRow
  try dsimp only
  unfold wpX_tableRowStart
  try dsimp only
  rcases qp_ix2 v1 (n := t) (by omega) with hv | ⟨x, hx, rfl⟩
  · refine x_hasT_n hv (br_t rfl ?_)
    unfold wpY_dropRow
    try dsimp only
    exact y_noT_n hv (br_f (by decide) ⟨rfl, J⟩)
  · have vx : vp_in (nI x) 4 := vp_in_nI (by omega) (by omega)
    have cx : (nI x).toNatClampNeg = x := nI_clamp (by omega)
    obtain ⟨r, hr, er, hag⟩ := hT x (by omega)
    rw [cx, er]
    refine x_hasT_y ht4 hx (br_f (by decide) ?_)
    by_cases a0 : v2 < 0
    · refine br_t a0 ?_
      unfold wpY_dropRow
      try dsimp only
      exact y_noT_y ht4 hx (br_t rfl (br_t a0 ⟨rfl, J⟩))
    · refine br_f a0 ⟨vx, ?_⟩
      by_cases a1 : v2 < nI r
      · obtain ⟨y, hy, rfl⟩ := nI_of a0
        have hy' : y < r := (nI_ltI hy (by omega)).mp a1
        obtain ⟨m, rfl⟩ : ∃ m, r = m + 1 := ⟨r - 1, by omega⟩
        refine br_t a1 ⟨vx, nm_r (nI_pred m) ?_⟩
        rw [qp_it0, qp_it0]
        refine ⟨m * 3 - y * 3 + 1, ?_⟩
        refine qp_loop1 (fun q i a => wX_dropRow_56 (fun r u' => wpY_dropRow (fun r' v' => r' = r ∧ i_Rel (k + 5) u' v') (nI t, nI n, nI h, nI c, tb', th, tw, nk, nl, nr, p1, p2, p3, nw, us', bo', ct, vl, rs') (nI x) (nI y)) (nI x) (nI m) (nI (x * 30 + m * 3)) (nI t) (nI n) (nI h) (nI c) q (nI i) tw th a nk nl nr nw us ca cb cc nn bo lh lc rs) (fun i a => x * 30 + y * 3 ≤ i ∧ ∀ p, (x * 30 + y * 3 ≤ p ∧ p < i → a p = tb (p + 3)) ∧ (¬ (x * 30 + y * 3 ≤ p ∧ p < i) → a p = tb p)) (x * 30 + m * 3) ?_ ?_ (m * 3 - y * 3 + 1) (x * 30 + y * 3) tb (by omega) (by omega) ⟨by omega, fun p => ⟨fun z => by omega, fun _ => rfl⟩⟩
        · intro q a A
          obtain ⟨_, A⟩ := A
          refine br_t (nI_le (Nat.le_refl _) (by omega)) ⟨vx, ?_⟩
          rw [cx]
          refine nm_e ?_
          unfold wpY_dropRow
          try dsimp only
          rw [cx, er]
          have e3 : nI y * 3 = nI (y * 3) := pk_mul y 3
          refine y_noT_y ht4 hx (br_t rfl (br_f a0 ⟨vx, br_t a1 (nm_r e3 ⟨27 - y * 3 + 1, ?_⟩)⟩))
          refine qp_loop1 (fun q i b => wY_dropRow_31 (fun r' v' => r' = nI m ∧ i_Rel (k + 5) (nI t, nI n, nI h, nI c, tw, upd th x (nI m), a, nk, nl, nr, nw, us, ca, cb, cc, nn, bo, lh, lc, rs) v') (nI x) (nI t) (nI n) (nI h) (nI c) q (nI i) b th tw nk nl nr p1 p2 p3 nw us' bo' ct vl rs') (fun i b => y * 3 ≤ i ∧ ∀ p, (x * 30 + y * 3 ≤ p ∧ p < x * 30 + i → b p = tb' (p + 3)) ∧ (¬ (x * 30 + y * 3 ≤ p ∧ p < x * 30 + i) → b p = tb' p)) 27 ?_ ?_ (27 - y * 3 + 1) (y * 3) tb' (by omega) (by omega) ⟨by omega, fun p => ⟨fun z => by omega, fun _ => rfl⟩⟩
          · intro q b B
            obtain ⟨_, B⟩ := B
            refine br_t (nI_le (a := 27) (Nat.le_refl _) (by omega)) ⟨vx, vx, ?_⟩
            rw [cx, er, nI_pred]
            refine nm_e ⟨vx, ?_⟩
            rw [pk_us]
            refine ⟨rfl, qp_mk ht1 ht4 hW (fun j hj => ?_) hN hR⟩
            by_cases e : j = x
            · subst e
              refine ⟨m, by omega, pk_us, fun p hp => ?_⟩
              by_cases z : y * 3 ≤ p
              · rw [(A _).1 ⟨by omega, by omega⟩, (B _).1 ⟨by omega, by omega⟩, Nat.add_assoc]
                exact hag (p + 3) (by omega)
              · rw [(A _).2 (by omega), (B _).2 (by omega)]
                exact hag p (by omega)
            · obtain ⟨r', hr', er', hag'⟩ := hT j hj
              refine ⟨r', hr', by rw [pk_un e]; exact er', fun p hp => ?_⟩
              rw [(A _).2 (by omega), (B _).2 (by omega)]
              exact hag' p hp
          · intro q i b hi B ih
            obtain ⟨hlo, B⟩ := B
            refine br_f (nI_ge (b := 27) hi (by omega)) ?_
            have e30 : nI x * 30 + nI i = nI (x * 30 + i) := by rw [show (30 : Int32) = nI 30 from rfl, pk_mul, nI_add]
            have e33 : nI (x * 30 + i) + 3 = nI (x * 30 + i + 3) := nI_add _ 3
            rw [e30, e33, nI_clamp (by omega), nI_clamp (by omega)]
            refine ⟨vp_in_nI (by omega) (by omega), vp_in_nI (by omega) (by omega), nm_e (nm_r (nI_1 i) (ih _ ⟨by omega, fun p => ⟨fun z => ?_, fun z => ?_⟩⟩))⟩
            · by_cases e : p = x * 30 + i
              · subst e; rw [pk_us]; exact (B _).2 (by omega)
              · rw [pk_un e]; exact (B p).1 (by omega)
            · rw [pk_un (by omega)]; exact (B p).2 (by omega)
        · intro q i a hi A ih
          obtain ⟨hlo, A⟩ := A
          refine br_f (nI_ge hi (by omega)) ?_
          have e3 : nI i + 3 = nI (i + 3) := nI_add _ 3
          rw [e3, nI_clamp (by omega), nI_clamp (by omega)]
          refine ⟨vp_in_nI (by omega) (by omega), vp_in_nI (by omega) (by omega), nm_e (nm_r (nI_1 i) (ih _ ⟨by omega, fun p => ⟨fun z => ?_, fun z => ?_⟩⟩))⟩
          · by_cases e : p = i
            · subst e; rw [pk_us]; exact (A _).2 (by omega)
            · rw [pk_un e]; exact (A p).1 (by omega)
          · rw [pk_un (by omega)]; exact (A p).2 (by omega)
      · refine br_f a1 ?_
        unfold wpY_dropRow
        try dsimp only
        rw [cx, er]
        exact y_noT_y ht4 hx (br_t rfl (br_f a0 ⟨vx, br_f a1 ⟨rfl, J⟩⟩))
