/-! the component: one node's list, the result, the run -/
section qp_X6
variable {tc nc rh rc : Int32} {tw th tb nk nl nr nw us ca cb cc nn bo lh lc rs : Nat → Int32}
theorem x_workOut {post : SX → Prop} {N i : Nat} {bd : Nat → Nat} {LL : Nat → List qp_Row} {p1 p2 p3 : Nat → Int32} (hN : N ≤ 12) (hi : i < N) (ok : ∀ j, j < N → qp_OK (nk j) (nl j) (nr j) (nw j) (ca j) (cb j) (cc j) (nn j) (p1 j) (p2 j) (p3 j) nw j) (hT : ∀ t, t < 4 → ∃ h : Nat, h ≤ 10 ∧ th t = nI h) (hb : ∀ j, j < N → bd j = qp_bs nk nl nr cc nn th j bd) (hl : ∀ j, j < N → LL j = qp_sem nk nl nr nw ca cb cc nn th tb j LL) (hlen : ∀ j, j < N → bd j ≤ 24 → (LL j).length ≤ bd j) (I : qp_Inv i bd LL nw lh lc) (h24 : bd i ≤ 24) (H : ∀ lh' lc', qp_Out i (nw i).toNatClampNeg (LL i) lh lc lh' lc' → post (tc, nc, rh, rc, tw, th, tb, nk, nl, nr, nw, us, ca, cb, cc, nn, bo, lh', lc', rs)) : wpX_workOut post (tc, nc, rh, rc, tw, th, tb, nk, nl, nr, nw, us, ca, cb, cc, nn, bo, lh, lc, rs) (nI i) := by
  unfold wpX_workOut
  try dsimp only
  have hi12 : i < 12 := by omega
  have v : vp_in (nI i) 12 := vp_in_nI hi12 (by omega)
  have ci : (nI i).toNatClampNeg = i := nI_clamp (by omega)
  rw [ci]
  have hbi := hb i hi
  have hli := hl i hi
  -- a child's list, as the run so far has left it
  have ch : ∀ l x wl, qp_U l nw i x wl → bd x ≤ 24 → x < 12 ∧ x < i ∧ l = nI x ∧ wl ≤ 6 ∧ nw x = nI wl ∧ qp_Rep lc x wl (LL x) ∧ upd lh i 0 x = nI (LL x).length ∧ (LL x).length ≤ 24 ∧ (LL x).length ≤ bd x := by
    intro l x wl hU hx24
    obtain ⟨u1, u2, u3, u4, u5⟩ := hU
    obtain ⟨j1, j2⟩ := I x u1 hx24
    have j3 := hlen x (by omega) hx24
    rw [qp_cl u5 (by omega)] at j2
    exact ⟨by omega, u1, u2, u4, u5, j2, by rw [pk_un (by omega)]; exact j1, by omega, j3⟩
  have e0 : upd lh i 0 i = 0 := pk_us
  obtain ⟨w, hw1, hw6, hWn, h⟩ := ok i hi
  rw [qp_cl hWn (by omega)] at H
  -- a node with one child: the child is not too big either
  have un : ∀ x wl, qp_U (nl i) nw i x wl → nr i = -1 → (nk i = 1 ∨ nk i = 2 ∨ nk i = 3 ∨ nk i = 4 ∨ nk i = 7 ∨ nk i = 8 ∨ nk i = 10) → bd x ≤ 24 := by
    intro x wl hU hR hk
    have := hU.1
    rw [qp_bs_u hk hR hU.2.1 (by omega)] at hbi
    by_cases z : 24 < bd x
    · rw [if_pos z] at hbi; omega
    · omega
  refine ⟨v, nm_e ⟨v, ?_⟩⟩
  rcases h with h | h | h | h | h | h | h | h | h | h | h
  · obtain ⟨hk, hw3, t, ht, hD, _⟩ := h
    obtain ⟨h0, h010, eh⟩ := hT t ht
    rw [qp_sem_0 hk hD (by omega), eh, nI_clamp (by omega)] at hli
    rw [hli] at H
    refine nm_r hk (br_f (by decide) (br_f (by decide) (br_t rfl ?_)))
    refine x_scan hi12 ht hD eh h010 hWn hw3 ?_
    intro lc' O
    exact H _ _ (qp_Out_u O)
  · obtain ⟨hk, hr, x, a, hU, ha, hA, _⟩ := h
    obtain ⟨c1, c2, c3, c4, c5, c6, c7, c8, c9⟩ := ch _ x _ hU (un x _ hU hr (Or.inl hk))
    rw [qp_sem_1 hk c3 (by omega) hA (by omega)] at hli
    rw [hli] at H
    refine nm_r hk (br_f (by decide) (br_f (by decide) (br_f (by decide) (br_t rfl ?_))))
    refine x_filter hi12 c2 c3 c5 c4 hA ha c6 c7 c8 e0 ?_
    intro lh' lc' O
    exact H _ _ (qp_Out_u O)
  · obtain ⟨hk, hr, x, a, b, hU, ha, hb', hA, hB, _⟩ := h
    obtain ⟨c1, c2, c3, c4, c5, c6, c7, c8, c9⟩ := ch _ x _ hU (un x _ hU hr (Or.inr (Or.inl hk)))
    rw [qp_sem_2 hk c3 (by omega) hA (by omega) hB (by omega)] at hli
    rw [hli] at H
    refine nm_r hk (br_f (by decide) (br_f (by decide) (br_f (by decide) (br_f (by decide) (br_t rfl ?_)))))
    refine x_filterCols hi12 c2 c3 c5 c4 hA ha hB hb' c6 c7 c8 e0 ?_
    intro lh' lc' O
    exact H _ _ (qp_Out_u O)
  · obtain ⟨hk, hr, x, wl, a, b, hU, hwl, ha, hb', hA, hB, _⟩ := h
    obtain ⟨c1, c2, c3, c4, c5, c6, c7, c8, c9⟩ := ch _ x _ hU (un x _ hU hr (Or.inr (Or.inr (Or.inl hk))))
    rw [qp_sem_3 hk c3 (by omega) hA (by omega) hB (by omega) c5 (by omega)] at hli
    rw [hli, hwl] at H
    refine nm_r hk (br_f (by decide) (br_f (by decide) (br_f (by decide) (br_f (by decide) (br_f (by decide) (br_t rfl ?_))))))
    refine x_map hi12 c2 c3 c5 (by omega) hA ha hB hb' c6 c7 c8 e0 ?_
    intro lh' lc' O
    exact H _ _ (qp_Out_u O)
  · obtain ⟨hk, hr, x, wl, hU, _, hch⟩ := h
    obtain ⟨c1, c2, c3, c4, c5, c6, c7, c8, c9⟩ := ch _ x _ hU (un x _ hU hr (Or.inr (Or.inr (Or.inr (Or.inl hk)))))
    rw [qp_sem_4 hk c3 (by omega)] at hli
    rw [hli] at H
    refine nm_r hk (br_f (by decide) (br_f (by decide) (br_f (by decide) (br_f (by decide) (br_f (by decide) (br_f (by decide) (br_t rfl ?_)))))))
    refine x_project hi12 c2 c3 c4 hWn hw6 hch c6 c7 c8 ?_
    intro lc' O
    exact H _ _ (qp_Out_u O)
  · obtain ⟨hk, x, wl, y, wr, a, b, hU, hV, ha, hb', hA, hB, _, _, _, hc⟩ := h
    have hx := hU.1
    have hy := hV.1
    rw [qp_bs_5 hk hV.2.1 (by omega) hU.2.1 (by omega), qp_fac_bk] at hbi
    have h4 : ¬ (24 < bd x ∨ 24 < bd y) := by intro z; rw [if_pos z] at hbi; omega
    rw [if_neg h4] at hbi
    have h7 : ¬ 24 < bd x * qp_fac (cc i) (bd y) := by intro z; rw [if_pos z] at hbi; omega
    obtain ⟨c1, c2, c3, c4, c5, c6, c7, c8, c9⟩ := ch _ x _ hU (by omega)
    obtain ⟨d1, d2, d3, d4, d5, d6, d7, d8, d9⟩ := ch _ y _ hV (by omega)
    rw [qp_sem_5 hk c3 (by omega) d3 (by omega) hA (by omega) hB (by omega) c5 (by omega)] at hli
    rw [hli] at H
    refine nm_r hk (br_f (by decide) (br_f (by decide) (br_f (by decide) (br_f (by decide) (br_f (by decide) (br_f (by decide) (br_f (by decide) (br_t rfl ?_))))))))
    have h9 := Nat.mul_le_mul_right (qp_fac (cc i) (bd y)) c9
    refine x_join (m := qp_fac (cc i) (bd y)) hi12 c2 d2 c3 d3 c5 d5 hWn c4 d4 hw6 hA ha hB hb' rfl hc c6 c7 c8 d6 d7 d8 e0 (fun z => qp_fac_1 d9 z) (fun z => qp_fac_2 z) (by omega) ?_
    intro lh' lc' O
    exact H _ _ (qp_Out_u O)
  · obtain ⟨hk, x, y, hU, hV⟩ := h
    have hx := hU.1
    have hy := hV.1
    rw [qp_bs_6 hk hV.2.1 (by omega) hU.2.1 (by omega)] at hbi
    have h4 : ¬ (24 < bd x ∨ 24 < bd y) := by intro z; rw [if_pos z] at hbi; omega
    rw [if_neg h4] at hbi
    have h7 : ¬ 24 < bd x + bd y := by intro z; rw [if_pos z] at hbi; omega
    obtain ⟨c1, c2, c3, c4, c5, c6, c7, c8, c9⟩ := ch _ x _ hU (by omega)
    obtain ⟨d1, d2, d3, d4, d5, d6, d7, d8, d9⟩ := ch _ y _ hV (by omega)
    rw [qp_sem_6 hk c3 (by omega) d3 (by omega)] at hli
    rw [hli] at H
    have k1 : (if 24 < (LL x).length then 24 else (LL x).length) = (LL x).length := if_neg (by omega)
    have k2 : (if 24 < (LL y).length then 24 else (LL y).length) = (LL y).length := if_neg (by omega)
    refine nm_r hk (br_f (by decide) (br_f (by decide) (br_f (by decide) (br_f (by decide) (br_f (by decide) (br_f (by decide) (br_f (by decide) (br_f (by decide) (br_t rfl ?_)))))))))
    refine ⟨v, ?_⟩
    refine x_first (m := 24) c3 rfl (by omega) hi12 c2 c5 c4 c6 c7 c8 (qp_Out_0 (w := w) e0) (by rw [k1, List.length_nil]; omega) ?_
    intro lh1 lc1 O1
    rw [k1, List.nil_append] at O1
    refine ⟨v, ?_⟩
    refine x_first (m := 24) d3 rfl (by omega) hi12 d2 d5 d4 (qp_Out_rd O1 d6 d8 d4 (by omega)) ((O1.2.1 y (by omega)).trans d7) d8 O1 (by rw [k2, qp_tab_len]; omega) ?_
    intro lh' lc' O
    rw [k2] at O
    exact H _ _ (qp_Out_u O)
  · obtain ⟨hk, hr, hw2, x, wl, a, b, hU, ha, hb', hA, hB, _, _, _, ho⟩ := h
    obtain ⟨c1, c2, c3, c4, c5, c6, c7, c8, c9⟩ := ch _ x _ hU (un x _ hU hr (Or.inr (Or.inr (Or.inr (Or.inr (Or.inl hk))))))
    rw [qp_sem_7 hk c3 (by omega) hA (by omega) hB (by omega)] at hli
    rw [hli, hw2] at H
    refine nm_r hk (br_f (by decide) (br_f (by decide) (br_f (by decide) (br_f (by decide) (br_f (by decide) (br_f (by decide) (br_f (by decide) (br_f (by decide) (br_f (by decide) (br_t rfl ?_))))))))))
    refine x_group hi12 c2 c3 c4 hA ha hB hb' ho c6 c7 c8 e0 ?_
    intro lh' lc' O
    exact H _ _ (qp_Out_u O)
  · obtain ⟨hk, hr, x, hU⟩ := h
    obtain ⟨c1, c2, c3, c4, c5, c6, c7, c8, c9⟩ := ch _ x _ hU (un x _ hU hr (Or.inr (Or.inr (Or.inr (Or.inr (Or.inr (Or.inl hk)))))))
    rw [qp_sem_8 hk c3 (by omega) hWn (by omega)] at hli
    rw [hli] at H
    refine nm_r hk (br_f (by decide) (br_f (by decide) (br_f (by decide) (br_f (by decide) (br_f (by decide) (br_f (by decide) (br_f (by decide) (br_f (by decide) (br_f (by decide) (br_f (by decide) (br_t rfl ?_)))))))))))
    refine x_distinct hi12 c2 c3 c5 hWn c4 c6 c7 c8 e0 ?_
    intro lh' lc' O
    exact H _ _ (qp_Out_u O)
  · obtain ⟨hk, hr, x, m, hU, hm, hD, _⟩ := h
    have hx := hU.1
    rw [qp_bs_9 hk hr hU.2.1 (by omega) hD hm] at hbi
    have h4 : ¬ 24 < bd x := by intro z; rw [if_pos z] at hbi; omega
    obtain ⟨c1, c2, c3, c4, c5, c6, c7, c8, c9⟩ := ch _ x _ hU (by omega)
    rw [qp_sem_9 hk c3 (by omega) hD hm] at hli
    rw [hli] at H
    refine nm_r hk (br_f (by decide) (br_f (by decide) (br_f (by decide) (br_f (by decide) (br_f (by decide) (br_f (by decide) (br_f (by decide) (br_f (by decide) (br_f (by decide) (br_f (by decide) (br_f (by decide) (br_t rfl ?_))))))))))))
    refine ⟨v, v, ?_⟩
    refine x_first c3 hD hm hi12 c2 c5 c4 c6 c7 c8 (qp_Out_0 (w := w) e0) (by rw [List.length_nil]; split <;> omega) ?_
    intro lh' lc' O
    rw [List.nil_append] at O
    exact H _ _ (qp_Out_u O)
  · obtain ⟨hk, hr, x, a, hU, ha, hA, _, hc⟩ := h
    obtain ⟨c1, c2, c3, c4, c5, c6, c7, c8, c9⟩ := ch _ x _ hU (un x _ hU hr (Or.inr (Or.inr (Or.inr (Or.inr (Or.inr (Or.inr hk)))))))
    rw [qp_sem_10 hk c3 (by omega) hA (by omega)] at hli
    rw [hli] at H
    refine nm_r hk (br_f (by decide) (br_t (by decide) ?_))
    refine x_sort hi12 c2 c3 c5 c4 hA ha (by rcases hc with ⟨z, _⟩ | ⟨z, _⟩ <;> rw [z] <;> decide) c6 c7 c8 ?_
    intro lc' O
    exact H _ _ (qp_Out_u O)
theorem x_keep {post : SX → Prop} {n h w : Nat} (hn : n < 12) (eH : lh n = nI h) (h24 : h ≤ 24) (eW : nw n = nI w) (hw : w ≤ 6) (H : ∀ rs', (∀ r c, r < h → c < w → rs' (r * 6 + c) = lc (n * 144 + r * 6 + c)) → post (tc, nc, nI h, nI w, tw, th, tb, nk, nl, nr, nw, us, ca, cb, cc, nn, bo, lh, lc, rs')) : wpX_keepResult post (tc, nc, rh, rc, tw, th, tb, nk, nl, nr, nw, us, ca, cb, cc, nn, bo, lh, lc, rs) (nI n) := by
  unfold wpX_keepResult
  try dsimp only
  refine ⟨vp_in_nI hn (by omega), nm_r (qp_rd hn eH) ⟨vp_in_nI hn (by omega), nm_r (qp_rd hn eW) ⟨h + 1, ?_⟩⟩⟩
  refine qp_loop1 (fun k i a => wX_keepResult_17 post (nI n) (nI h) (nI w) tc nc rh rc k (nI i) tw th tb nk nl nr nw us ca cb cc nn bo lh lc a) (fun i a => ∀ r c, r < i → c < w → a (r * 6 + c) = lc (n * 144 + r * 6 + c)) h ?_ ?_ (h + 1) 0 rs (by omega) (by omega) (fun r c hr _ => absurd hr (Nat.not_lt_zero r))
  · intro k a I
    exact br_t (nI_le (Nat.le_refl _) (by omega)) (H a I)
  · intro k i a hi I ih
    refine br_f (nI_ge hi (by omega)) ⟨w + 1, ?_⟩
    refine qp_loop1 (fun m j a => wX_keepResult_26 post (wX_keepResult_17 post (nI n) (nI h) (nI w) tc nc rh rc k) (nI n) (nI h) (nI w) (nI i) tc nc rh rc m (nI j) tw th tb nk nl nr nw us ca cb cc nn bo lh lc a) (fun j a => ∀ r c, (r < i ∨ (r = i ∧ c < j)) → c < w → a (r * 6 + c) = lc (n * 144 + r * 6 + c)) w ?_ ?_ (w + 1) 0 a (by omega) (by omega) (fun r c hr hc => I r c (by omega) hc)
    · intro m a I
      exact br_t (nI_le (Nat.le_refl _) (by omega)) (nm_r (nI_1 i) (ih a (fun r c hr hc => I r c (by omega) hc)))
    · intro m j a hj I ihj
      refine br_f (nI_ge hj (by omega)) ?_
      refine x_listCell rfl rfl rfl rfl (by omega) ?_
      rw [qp_i6, nI_clamp (by omega)]
      refine ⟨vp_in_nI (by omega) (by omega), nm_e (nm_r (nI_1 j) (ihj _ (fun r c hr hc => ?_)))⟩
      by_cases z : r = i ∧ c = j
      · obtain ⟨z1, z2⟩ := z
        subst z1 z2
        rw [pk_us]
      · rw [pk_un (by omega)]; exact I r c (by omega) hc
end qp_X6
