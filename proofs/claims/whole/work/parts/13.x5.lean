/-! the component: bounds, the kinds, the result, the run -/
section qp_X5
variable {tc nc rh rc : Int32} {tw th tb nk nl nr nw us ca cb cc nn bo lh lc rs : Nat → Int32}
theorem qp_Out_u {n w : Nat} {R : List qp_Row} {h a h' a' : Nat → Int32} {v : Int32} (O : qp_Out n w R (upd h n v) a h' a') : qp_Out n w R h a h' a' := ⟨O.1, fun j hj => (O.2.1 j hj).trans (pk_un hj), O.2.2⟩
theorem x_pair6 {post : Int32 → Prop} {i : Nat} {p1 p2 : Int32} (hi : i < 12) (hk : nk i = 6) (H : post (p1 + p2)) : wpX_boundOfPair post (tc, nc, rh, rc, tw, th, tb, nk, nl, nr, nw, us, ca, cb, cc, nn, bo, lh, lc, rs) (nI i) p1 p2 := by
  unfold wpX_boundOfPair
  try dsimp only
  rw [nI_clamp (by omega)]
  exact ⟨vp_in_nI hi (by omega), br_t hk H⟩
theorem x_pair5 {post : Int32 → Prop} {i l r : Nat} (hi : i < 12) (hk : nk i = 5) (H : post (nI (qp_bk 5 (cc i) 0 l r))) (hr : r < 2 ^ 31) : wpX_boundOfPair post (tc, nc, rh, rc, tw, th, tb, nk, nl, nr, nw, us, ca, cb, cc, nn, bo, lh, lc, rs) (nI i) (nI l) (nI r) := by
  unfold wpX_boundOfPair
  try dsimp only
  rw [nI_clamp (by omega)]
  have h6 : ¬ nk i = 6 := by rw [hk]; decide
  refine ⟨vp_in_nI hi (by omega), br_f h6 ⟨vp_in_nI hi (by omega), nm_e ?_⟩⟩
  rw [qp_bk5] at H
  by_cases h0 : cc i = 0
  · rw [if_pos h0] at H
    refine br_t h0 ?_
    rw [pk_mul]; exact H
  · rw [if_neg h0] at H
    refine br_f h0 ?_
    by_cases h3 : cc i = 3
    · rw [if_pos h3] at H
      refine br_t h3 ?_
      refine pk_eq r 0 (fun z => ?_) (fun z => ?_) rfl nI_0.symm
      · rw [if_pos z] at H; exact H
      · rw [if_neg z] at H; rw [pk_mul]; exact H
    · rw [if_neg h3] at H
      exact br_f h3 H
theorem x_boundU {post : Int32 → Prop} {i x wl : Nat} {bd : Nat → Nat} (hi : i < 12) (hU : qp_U (nl i) nw i x wl) (hR : nr i = -1) (hk : nk i = 1 ∨ nk i = 2 ∨ nk i = 3 ∨ nk i = 4 ∨ nk i = 7 ∨ nk i = 8 ∨ nk i = 10) (hB : ∀ j, j < i → bo j = qp_cd (bd j)) (H : post (qp_cd (qp_bs nk nl nr cc nn th i bd))) : wpX_boundOf post (tc, nc, rh, rc, tw, th, tb, nk, nl, nr, nw, us, ca, cb, cc, nn, bo, lh, lc, rs) (nI i) := by
  unfold wpX_boundOf
  try dsimp only
  rw [nI_clamp (by omega)]
  have v : vp_in (nI i) 12 := vp_in_nI hi (by omega)
  have h0 : ¬ nk i = 0 := by rcases hk with h | h | h | h | h | h | h <;> rw [h] <;> decide
  have h9 : ¬ nk i = 9 := by rcases hk with h | h | h | h | h | h | h <;> rw [h] <;> decide
  have hx := hU.1
  have eL := hU.2.1
  rw [qp_bs_u hk hR eL (by omega)] at H
  have eb : bo (nl i).toNatClampNeg = qp_cd (bd x) := by rw [qp_cl eL (by omega)]; exact hB x hx
  refine ⟨v, br_f h0 ⟨v, by rw [eL]; exact vp_in_nI (by omega) (by omega), nm_r eb ?_⟩⟩
  by_cases hb : bd x ≤ 24
  · rw [if_neg (by omega)] at H
    exact br_f (qp_cd_n hb) ⟨v, br_f h9 ⟨v, br_t hR H⟩⟩
  · rw [if_pos (by omega)] at H
    exact br_t (qp_cd_f hb) H
theorem x_boundOf {post : Int32 → Prop} {i : Nat} {bd : Nat → Nat} {q1 q2 q3 : Int32} (hi : i < 12) (ok : qp_OK (nk i) (nl i) (nr i) (nw i) (ca i) (cb i) (cc i) (nn i) q1 q2 q3 nw i) (hT : ∀ t, t < 4 → ∃ h : Nat, h ≤ 10 ∧ th t = nI h) (hB : ∀ j, j < i → bo j = qp_cd (bd j)) (H : post (qp_cd (qp_bs nk nl nr cc nn th i bd))) : wpX_boundOf post (tc, nc, rh, rc, tw, th, tb, nk, nl, nr, nw, us, ca, cb, cc, nn, bo, lh, lc, rs) (nI i) := by
  have v : vp_in (nI i) 12 := vp_in_nI hi (by omega)
  obtain ⟨wn, _, _, _, h⟩ := ok
  rcases h with h | h | h | h | h | h | h | h | h | h | h
  · obtain ⟨hk, _, t, ht, hD, _⟩ := h
    obtain ⟨hh, hh10, eh⟩ := hT t ht
    unfold wpX_boundOf
    try dsimp only
    rw [nI_clamp (by omega)]
    rw [qp_bs_0 hk hD (by omega), eh, nI_clamp (by omega), qp_cd_t (by omega)] at H
    refine ⟨v, br_t hk ⟨v, by rw [hD]; exact vp_in_nI (by omega) (by omega), ?_⟩⟩
    rw [qp_cl hD (by omega), eh]; exact H
  · obtain ⟨hk, hr, x, _, hU, _⟩ := h
    exact x_boundU hi hU hr (Or.inl hk) hB H
  · obtain ⟨hk, hr, x, _, _, hU, _⟩ := h
    exact x_boundU hi hU hr (Or.inr (Or.inl hk)) hB H
  · obtain ⟨hk, hr, x, _, _, _, hU, _⟩ := h
    exact x_boundU hi hU hr (Or.inr (Or.inr (Or.inl hk))) hB H
  · obtain ⟨hk, hr, x, _, hU, _⟩ := h
    exact x_boundU hi hU hr (Or.inr (Or.inr (Or.inr (Or.inl hk)))) hB H
  · obtain ⟨hk, x, wl, y, wr, a, b, hU, hV, _⟩ := h
    unfold wpX_boundOf
    try dsimp only
    rw [nI_clamp (by omega)]
    have h0 : ¬ nk i = 0 := by rw [hk]; decide
    have h9 : ¬ nk i = 9 := by rw [hk]; decide
    have hx := hU.1
    have hy := hV.1
    have eL := hU.2.1
    have eR := hV.2.1
    have hm : ¬ nr i = -1 := by rw [eR]; exact qp_m1 (by omega)
    rw [qp_bs_5 hk eR (by omega) eL (by omega)] at H
    have ebl : bo (nl i).toNatClampNeg = qp_cd (bd x) := by rw [qp_cl eL (by omega)]; exact hB x hx
    have ebr : bo (nr i).toNatClampNeg = qp_cd (bd y) := by rw [qp_cl eR (by omega)]; exact hB y hy
    refine ⟨v, br_f h0 ⟨v, by rw [eL]; exact vp_in_nI (by omega) (by omega), nm_r ebl ?_⟩⟩
    by_cases hb : bd x ≤ 24
    · refine br_f (qp_cd_n hb) ⟨v, br_f h9 ⟨v, br_f hm ⟨v, by rw [eR]; exact vp_in_nI (by omega) (by omega), nm_r ebr ?_⟩⟩⟩
      by_cases hc : bd y ≤ 24
      · refine br_f (qp_cd_n hc) ?_
        rw [if_neg (by omega)] at H
        rw [qp_cd_t hb, qp_cd_t hc]
        have hbig : qp_bk 5 (cc i) 0 (bd x) (bd y) ≤ 24 * 24 := by
          have hmul : bd x * bd y ≤ 24 * 24 := Nat.mul_le_mul hb hc
          rw [qp_bk5]
          split
          · exact hmul
          · split
            · split
              · omega
              · exact hmul
            · omega
        refine x_pair5 hi hk ?_ (by omega)
        refine pk_le (qp_bk 5 (cc i) 0 (bd x) (bd y)) 24 (fun z => ?_) (fun z => ?_) rfl rfl (by omega) (by omega)
        · rw [if_neg (by omega), qp_cd_t z] at H; exact H
        · rw [if_pos z] at H; exact H
      · rw [if_pos (by omega)] at H
        exact br_t (qp_cd_f hc) H
    · rw [if_pos (by omega)] at H
      exact br_t (qp_cd_f hb) H
  · obtain ⟨hk, x, y, hU, hV⟩ := h
    unfold wpX_boundOf
    try dsimp only
    rw [nI_clamp (by omega)]
    have h0 : ¬ nk i = 0 := by rw [hk]; decide
    have h9 : ¬ nk i = 9 := by rw [hk]; decide
    have hx := hU.1
    have hy := hV.1
    have eL := hU.2.1
    have eR := hV.2.1
    have hm : ¬ nr i = -1 := by rw [eR]; exact qp_m1 (by omega)
    rw [qp_bs_6 hk eR (by omega) eL (by omega)] at H
    have ebl : bo (nl i).toNatClampNeg = qp_cd (bd x) := by rw [qp_cl eL (by omega)]; exact hB x hx
    have ebr : bo (nr i).toNatClampNeg = qp_cd (bd y) := by rw [qp_cl eR (by omega)]; exact hB y hy
    refine ⟨v, br_f h0 ⟨v, by rw [eL]; exact vp_in_nI (by omega) (by omega), nm_r ebl ?_⟩⟩
    by_cases hb : bd x ≤ 24
    · refine br_f (qp_cd_n hb) ⟨v, br_f h9 ⟨v, br_f hm ⟨v, by rw [eR]; exact vp_in_nI (by omega) (by omega), nm_r ebr ?_⟩⟩⟩
      by_cases hc : bd y ≤ 24
      · refine br_f (qp_cd_n hc) ?_
        rw [if_neg (by omega)] at H
        rw [qp_cd_t hb, qp_cd_t hc]
        refine x_pair6 hi hk ?_
        rw [nI_add]
        refine pk_le (bd x + bd y) 24 (fun z => ?_) (fun z => ?_) rfl rfl (by omega) (by omega)
        · rw [if_neg (by omega), qp_cd_t z] at H; exact H
        · rw [if_pos z] at H; exact H
      · rw [if_pos (by omega)] at H
        exact br_t (qp_cd_f hc) H
    · rw [if_pos (by omega)] at H
      exact br_t (qp_cd_f hb) H
  · obtain ⟨hk, hr, _, x, _, _, _, hU, _⟩ := h
    exact x_boundU hi hU hr (Or.inr (Or.inr (Or.inr (Or.inr (Or.inl hk))))) hB H
  · obtain ⟨hk, hr, x, hU⟩ := h
    exact x_boundU hi hU hr (Or.inr (Or.inr (Or.inr (Or.inr (Or.inr (Or.inl hk)))))) hB H
  · obtain ⟨hk, hr, x, m, hU, hm, hD, _⟩ := h
    unfold wpX_boundOf
    try dsimp only
    rw [nI_clamp (by omega)]
    have h0 : ¬ nk i = 0 := by rw [hk]; decide
    have hx := hU.1
    have eL := hU.2.1
    rw [qp_bs_9 hk hr eL (by omega) hD hm] at H
    have ebl : bo (nl i).toNatClampNeg = qp_cd (bd x) := by rw [qp_cl eL (by omega)]; exact hB x hx
    refine ⟨v, br_f h0 ⟨v, by rw [eL]; exact vp_in_nI (by omega) (by omega), nm_r ebl ?_⟩⟩
    by_cases hb : bd x ≤ 24
    · refine br_f (qp_cd_n hb) ⟨v, br_t hk ⟨v, x_smaller ?_⟩⟩
      rw [if_neg (by omega)] at H
      rw [hD, qp_cd_t hb]
      by_cases z : m < bd x
      · rw [if_pos z, qp_cd_t (by omega)] at H
        rw [if_pos ((nI_ltI hm (by omega)).mpr z)]; exact H
      · rw [if_neg z, qp_cd_t hb] at H
        rw [if_neg (fun y => z ((nI_ltI hm (by omega)).mp y))]; exact H
    · rw [if_pos (by omega)] at H
      exact br_t (qp_cd_f hb) H
  · obtain ⟨hk, hr, x, _, hU, _⟩ := h
    exact x_boundU hi hU hr (Or.inr (Or.inr (Or.inr (Or.inr (Or.inr (Or.inr hk)))))) hB H
end qp_X5
