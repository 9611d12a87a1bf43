/-! the reference: bounds, one node's list -/
section qp_Y5
variable {tn nc rh rc : Int32} {tb th tw nk nl nr p1 p2 p3 nw us bo ct vl rs : Nat → Int32}
theorem y_b176 {post : Int32 → Prop} {b : Nat} (hb : b < 2 ^ 31) (H : post (nI (if 24 < b then 25 else b))) : wY_boundOf_176 post (nI b) tn nc rh rc tb th tw nk nl nr p1 p2 p3 nw us bo ct vl rs := by
  unfold wY_boundOf_176
  refine pk_le b 24 (fun z => ?_) (fun z => ?_) rfl rfl hb (by omega)
  · rw [if_neg (by omega)] at H; exact H
  · rw [if_pos z] at H; exact H
theorem y_bU {post : Int32 → Prop} {i l : Nat} (hi : i < 12) (hl : l ≤ 25) (h5 : ¬ nk i = 5) (h6 : ¬ nk i = 6) (h9 : ¬ nk i = 9) (H : post (nI (if 24 < l then 25 else l))) : wY_boundOf_56 post (nI i) (nI l) 0 tn nc rh rc tb th tw nk nl nr p1 p2 p3 nw us bo ct vl rs := by
  have v : vp_in (nI i) 12 := vp_in_nI hi (by omega)
  have ci : (nI i).toNatClampNeg = i := nI_clamp (by omega)
  unfold wY_boundOf_56 wY_boundOf_98 wY_boundOf_131 wY_boundOf_147
  rw [ci]
  refine pk_lt 24 l (fun z => ?_) (fun z => br_t (by decide) ⟨v, br_f h5 ⟨v, br_f h5 ⟨v, br_f h6 ⟨v, br_f h9 (y_b176 (by omega) H)⟩⟩⟩⟩) rfl rfl (by omega) (by omega)
  rw [if_pos z] at H; exact H
theorem y_b9 {post : Int32 → Prop} {i l m : Nat} (hi : i < 12) (hl : l ≤ 25) (h9 : nk i = 9) (hD : p1 i = nI m) (hm : m < 2 ^ 31) (H : post (nI (if 24 < l then 25 else if m < l then m else l))) : wY_boundOf_56 post (nI i) (nI l) 0 tn nc rh rc tb th tw nk nl nr p1 p2 p3 nw us bo ct vl rs := by
  have v : vp_in (nI i) 12 := vp_in_nI hi (by omega)
  have ci : (nI i).toNatClampNeg = i := nI_clamp (by omega)
  have h5 : ¬ nk i = 5 := by rw [h9]; decide
  have h6 : ¬ nk i = 6 := by rw [h9]; decide
  unfold wY_boundOf_56 wY_boundOf_98 wY_boundOf_131 wY_boundOf_147
  rw [ci, hD]
  refine pk_lt 24 l (fun z => ?_) (fun z => br_t (by decide) ⟨v, br_f h5 ⟨v, br_f h5 ⟨v, br_f h6 ⟨v, br_t h9 ⟨v, pk_le l m (fun y => ?_) (fun y => ⟨v, nm_e ?_⟩) rfl rfl (by omega) hm⟩⟩⟩⟩⟩) rfl rfl (by omega) (by omega)
  · rw [if_pos z] at H; exact H
  · rw [if_neg (by omega), if_neg (by omega)] at H
    refine y_b176 (by omega) ?_
    rw [if_neg (by omega)]; exact H
  · rw [if_neg (by omega), if_pos y] at H
    refine y_b176 (by omega) ?_
    rw [if_neg (by omega)]; exact H
theorem y_b6 {post : Int32 → Prop} {i l r : Nat} (hi : i < 12) (hl : l ≤ 25) (hr : r ≤ 25) (h6 : nk i = 6) (H : post (nI (if 24 < l ∨ 24 < r then 25 else if 24 < l + r then 25 else l + r))) : wY_boundOf_56 post (nI i) (nI l) (nI r) tn nc rh rc tb th tw nk nl nr p1 p2 p3 nw us bo ct vl rs := by
  have v : vp_in (nI i) 12 := vp_in_nI hi (by omega)
  have ci : (nI i).toNatClampNeg = i := nI_clamp (by omega)
  have h5 : ¬ nk i = 5 := by rw [h6]; decide
  have h9 : ¬ nk i = 9 := by rw [h6]; decide
  unfold wY_boundOf_56 wY_boundOf_98 wY_boundOf_131 wY_boundOf_147
  rw [ci, nI_add]
  refine pk_lt 24 l (fun z => ?_) (fun z => pk_le r 24 (fun y => ⟨v, br_f h5 ⟨v, br_f h5 ⟨v, br_t h6 (nm_e ⟨v, br_f h9 (y_b176 (by omega) ?_)⟩)⟩⟩⟩) (fun y => ?_) rfl rfl (by omega) (by omega)) rfl rfl (by omega) (by omega)
  · rw [if_pos (Or.inl z)] at H; exact H
  · rw [if_neg (by omega)] at H; exact H
  · rw [if_pos (Or.inr y)] at H; exact H
theorem y_b5 {post : Int32 → Prop} {i l r : Nat} {c : Int32} (hi : i < 12) (hl : l ≤ 25) (hr : r ≤ 25) (h5 : nk i = 5) (hC : p3 i = c) (H : post (nI (if 24 < l ∨ 24 < r then 25 else if 24 < qp_bk 5 c 0 l r then 25 else qp_bk 5 c 0 l r))) : wY_boundOf_56 post (nI i) (nI l) (nI r) tn nc rh rc tb th tw nk nl nr p1 p2 p3 nw us bo ct vl rs := by
  have v : vp_in (nI i) 12 := vp_in_nI hi (by omega)
  have ci : (nI i).toNatClampNeg = i := nI_clamp (by omega)
  have h6 : ¬ nk i = 6 := by rw [h5]; decide
  have h9 : ¬ nk i = 9 := by rw [h5]; decide
  have hmul : l * r ≤ 25 * 25 := Nat.mul_le_mul hl hr
  rw [qp_bk5] at H
  unfold wY_boundOf_56 wY_boundOf_98 wY_boundOf_129 wY_boundOf_131 wY_boundOf_147
  rw [ci, pk_mul, hC]
  refine pk_lt 24 l (fun z => ?_) (fun z => pk_le r 24 (fun y => ⟨v, br_t h5 ⟨v, br_c (fun c0 => nm_e ⟨v, br_t h5 ⟨v, br_f (by rw [c0]; decide) ⟨v, br_f h6 ⟨v, br_f h9 (y_b176 (by omega) ?_)⟩⟩⟩⟩) (fun c0 => ⟨v, br_t h5 ⟨v, br_c (fun c3 => pk_eq r 0 (fun r0 => ⟨v, br_f h6 ⟨v, br_f h9 (y_b176 (by omega) ?_)⟩⟩) (fun r0 => ⟨v, br_f h6 ⟨v, br_f h9 (y_b176 (by omega) ?_)⟩⟩) rfl nI_0.symm (by omega) (by omega)) (fun c3 => ⟨v, br_f h6 ⟨v, br_f h9 (y_b176 (by omega) ?_)⟩⟩)⟩⟩)⟩⟩) (fun y => ?_) rfl rfl (by omega) (by omega)) rfl rfl (by omega) (by omega)
  · rw [if_pos (Or.inl z)] at H; exact H
  · rw [if_neg (by omega), if_pos c0] at H; exact H
  · rw [if_neg (by omega), if_neg c0, if_pos c3, if_pos r0] at H; exact H
  · rw [if_neg (by omega), if_neg c0, if_pos c3, if_neg r0] at H; exact H
  · rw [if_neg (by omega), if_neg c0, if_neg c3] at H; exact H
  · rw [if_pos (Or.inr y)] at H; exact H
theorem y_boundOf {post : Int32 → Prop} {i : Nat} {bd : Nat → Nat} {A B C D : Nat → Int32} (hi : i < 12) (ok : qp_OK (nk i) (nl i) (nr i) (nw i) (A i) (B i) (C i) (D i) (p1 i) (p2 i) (p3 i) nw i) (hT : ∀ t, t < 4 → ∃ h : Nat, h ≤ 10 ∧ th t = nI h) (hB : ∀ j, j < i → bo j = nI (bd j)) (h25 : ∀ j, j < i → bd j ≤ 25) (H : post (nI (qp_bs nk nl nr C D th i bd))) : wpY_boundOf post (tn, nc, rh, rc, tb, th, tw, nk, nl, nr, p1, p2, p3, nw, us, bo, ct, vl, rs) (nI i) := by
  have v : vp_in (nI i) 12 := vp_in_nI hi (by omega)
  have ci : (nI i).toNatClampNeg = i := nI_clamp (by omega)
  unfold wpY_boundOf
  try dsimp only
  rw [ci]
  refine ⟨v, ?_⟩
  -- one child
  have un : ∀ x wl, qp_U (nl i) nw i x wl → nr i = -1 → ¬ nk i = 0 → wY_boundOf_56 post (nI i) (nI (bd x)) 0 tn nc rh rc tb th tw nk nl nr p1 p2 p3 nw us bo ct vl rs → (nk i = 0 → vp_in (nI i) 12 ∧ vp_in (p1 i) 4 ∧ post (th (p1 i).toNatClampNeg)) ∧ (¬ nk i = 0 → vp_in (nI i) 12 ∧ vp_in (nl i) 12 ∧ ∀ x2, x2 = bo (nl i).toNatClampNeg → vp_in (nI i) 12 ∧ ((nr i < 0 → wY_boundOf_56 post (nI i) x2 0 tn nc rh rc tb th tw nk nl nr p1 p2 p3 nw us bo ct vl rs) ∧ (¬ nr i < 0 → vp_in (nI i) 12 ∧ vp_in (nr i) 12 ∧ ∀ x3, x3 = bo (nr i).toNatClampNeg → wY_boundOf_56 post (nI i) x2 x3 tn nc rh rc tb th tw nk nl nr p1 p2 p3 nw us bo ct vl rs))) := by
    intro x wl hU hR h0 K
    have eL := hU.2.1
    have hx := hU.1
    have ebl : bo (nl i).toNatClampNeg = nI (bd x) := by rw [qp_cl eL (by omega)]; exact hB x hx
    exact br_f h0 ⟨v, by rw [eL]; exact vp_in_nI (by omega) (by omega), nm_r ebl ⟨v, br_t (by rw [hR]; decide) K⟩⟩
  have bi : ∀ x wl y wr, qp_U (nl i) nw i x wl → qp_U (nr i) nw i y wr → ¬ nk i = 0 → wY_boundOf_56 post (nI i) (nI (bd x)) (nI (bd y)) tn nc rh rc tb th tw nk nl nr p1 p2 p3 nw us bo ct vl rs → (nk i = 0 → vp_in (nI i) 12 ∧ vp_in (p1 i) 4 ∧ post (th (p1 i).toNatClampNeg)) ∧ (¬ nk i = 0 → vp_in (nI i) 12 ∧ vp_in (nl i) 12 ∧ ∀ x2, x2 = bo (nl i).toNatClampNeg → vp_in (nI i) 12 ∧ ((nr i < 0 → wY_boundOf_56 post (nI i) x2 0 tn nc rh rc tb th tw nk nl nr p1 p2 p3 nw us bo ct vl rs) ∧ (¬ nr i < 0 → vp_in (nI i) 12 ∧ vp_in (nr i) 12 ∧ ∀ x3, x3 = bo (nr i).toNatClampNeg → wY_boundOf_56 post (nI i) x2 x3 tn nc rh rc tb th tw nk nl nr p1 p2 p3 nw us bo ct vl rs))) := by
    intro x wl y wr hU hV h0 K
    have eL := hU.2.1
    have hx := hU.1
    have eR := hV.2.1
    have hy := hV.1
    have ebl : bo (nl i).toNatClampNeg = nI (bd x) := by rw [qp_cl eL (by omega)]; exact hB x hx
    have ebr : bo (nr i).toNatClampNeg = nI (bd y) := by rw [qp_cl eR (by omega)]; exact hB y hy
    exact br_f h0 ⟨v, by rw [eL]; exact vp_in_nI (by omega) (by omega), nm_r ebl ⟨v, br_f (by rw [eR]; exact nI_pos (by omega)) ⟨v, by rw [eR]; exact vp_in_nI (by omega) (by omega), nm_r ebr K⟩⟩⟩
  obtain ⟨wn, _, _, _, h⟩ := ok
  rcases h with h | h | h | h | h | h | h | h | h | h | h
  · obtain ⟨hk, _, t, ht, hD, hq⟩ := h
    obtain ⟨hh, hh10, eh⟩ := hT t ht
    rw [qp_bs_0 hk hD (by omega), eh, nI_clamp (by omega)] at H
    refine br_t hk ⟨v, by rw [hq]; exact vp_in_nI (by omega) (by omega), ?_⟩
    rw [qp_cl hq (by omega), eh]; exact H
  · obtain ⟨hk, hr, x, _, hU, _⟩ := h
    rw [qp_bs_u (Or.inl hk) hr hU.2.1 (by have := hU.1; omega)] at H
    exact un x _ hU hr (by rw [hk]; decide) (y_bU hi (h25 x hU.1) (by rw [hk]; decide) (by rw [hk]; decide) (by rw [hk]; decide) H)
  · obtain ⟨hk, hr, x, _, _, hU, _⟩ := h
    rw [qp_bs_u (Or.inr (Or.inl hk)) hr hU.2.1 (by have := hU.1; omega)] at H
    exact un x _ hU hr (by rw [hk]; decide) (y_bU hi (h25 x hU.1) (by rw [hk]; decide) (by rw [hk]; decide) (by rw [hk]; decide) H)
  · obtain ⟨hk, hr, x, _, _, _, hU, _⟩ := h
    rw [qp_bs_u (Or.inr (Or.inr (Or.inl hk))) hr hU.2.1 (by have := hU.1; omega)] at H
    exact un x _ hU hr (by rw [hk]; decide) (y_bU hi (h25 x hU.1) (by rw [hk]; decide) (by rw [hk]; decide) (by rw [hk]; decide) H)
  · obtain ⟨hk, hr, x, _, hU, _⟩ := h
    rw [qp_bs_u (Or.inr (Or.inr (Or.inr (Or.inl hk)))) hr hU.2.1 (by have := hU.1; omega)] at H
    exact un x _ hU hr (by rw [hk]; decide) (y_bU hi (h25 x hU.1) (by rw [hk]; decide) (by rw [hk]; decide) (by rw [hk]; decide) H)
  · obtain ⟨hk, x, wl, y, wr, a, b, hU, hV, _, _, _, _, _, _, hC, _⟩ := h
    rw [qp_bs_5 hk hV.2.1 (by have := hV.1; omega) hU.2.1 (by have := hU.1; omega)] at H
    exact bi x _ y _ hU hV (by rw [hk]; decide) (y_b5 hi (h25 x hU.1) (h25 y hV.1) hk hC H)
  · obtain ⟨hk, x, y, hU, hV⟩ := h
    rw [qp_bs_6 hk hV.2.1 (by have := hV.1; omega) hU.2.1 (by have := hU.1; omega)] at H
    exact bi x _ y _ hU hV (by rw [hk]; decide) (y_b6 hi (h25 x hU.1) (h25 y hV.1) hk H)
  · obtain ⟨hk, hr, _, x, _, _, _, hU, _⟩ := h
    rw [qp_bs_u (Or.inr (Or.inr (Or.inr (Or.inr (Or.inl hk))))) hr hU.2.1 (by have := hU.1; omega)] at H
    exact un x _ hU hr (by rw [hk]; decide) (y_bU hi (h25 x hU.1) (by rw [hk]; decide) (by rw [hk]; decide) (by rw [hk]; decide) H)
  · obtain ⟨hk, hr, x, hU⟩ := h
    rw [qp_bs_u (Or.inr (Or.inr (Or.inr (Or.inr (Or.inr (Or.inl hk)))))) hr hU.2.1 (by have := hU.1; omega)] at H
    exact un x _ hU hr (by rw [hk]; decide) (y_bU hi (h25 x hU.1) (by rw [hk]; decide) (by rw [hk]; decide) (by rw [hk]; decide) H)
  · obtain ⟨hk, hr, x, m, hU, hm, hD, hq⟩ := h
    rw [qp_bs_9 hk hr hU.2.1 (by have := hU.1; omega) hD hm] at H
    exact un x _ hU hr (by rw [hk]; decide) (y_b9 hi (h25 x hU.1) hk hq hm H)
  · obtain ⟨hk, hr, x, _, hU, _⟩ := h
    rw [qp_bs_u (Or.inr (Or.inr (Or.inr (Or.inr (Or.inr (Or.inr hk)))))) hr hU.2.1 (by have := hU.1; omega)] at H
    exact un x _ hU hr (by rw [hk]; decide) (y_bU hi (h25 x hU.1) (by rw [hk]; decide) (by rw [hk]; decide) (by rw [hk]; decide) H)
end qp_Y5
