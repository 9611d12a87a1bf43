/-! the reference: one node's list -/
section qp_Y6
variable {tn nc rh rc : Int32} {tb th tw nk nl nr p1 p2 p3 nw us bo ct vl rs : Nat → Int32}
theorem y_work {post : SY → Prop} {N i : Nat} {bd : Nat → Nat} {LL : Nat → List qp_Row} {ca cb cc nn tbX : Nat → Int32} (hN : N ≤ 12) (hi : i < N) (ok : ∀ j, j < N → qp_OK (nk j) (nl j) (nr j) (nw j) (ca j) (cb j) (cc j) (nn j) (p1 j) (p2 j) (p3 j) nw j) (hT : qp_TB th tbX tb) (hb : ∀ j, j < N → bd j = qp_bs nk nl nr cc nn th j bd) (hl : ∀ j, j < N → LL j = qp_sem nk nl nr nw ca cb cc nn th tbX j LL) (hlen : ∀ j, j < N → bd j ≤ 24 → (LL j).length ≤ bd j) (I : qp_Inv i bd LL nw ct vl) (h24 : bd i ≤ 24) (H : ∀ ct' vl', qp_Out i (nw i).toNatClampNeg (LL i) ct vl ct' vl' → post (tn, nc, rh, rc, tb, th, tw, nk, nl, nr, p1, p2, p3, nw, us, bo, ct', vl', rs)) : wpY_work post (tn, nc, rh, rc, tb, th, tw, nk, nl, nr, p1, p2, p3, nw, us, bo, ct, vl, rs) (nI i) := by
  unfold wpY_work
  try dsimp only
  have hi12 : i < 12 := by omega
  have v : vp_in (nI i) 12 := vp_in_nI hi12 (by omega)
  have ci : (nI i).toNatClampNeg = i := nI_clamp (by omega)
  rw [ci]
  have hbi := hb i hi
  have hli := hl i hi
  have ch : ∀ l x wl, qp_U l nw i x wl → bd x ≤ 24 → x < 12 ∧ x < i ∧ l = nI x ∧ wl ≤ 6 ∧ nw x = nI wl ∧ qp_Rep vl x wl (LL x) ∧ upd ct i 0 x = nI (LL x).length ∧ (LL x).length ≤ 24 ∧ (LL x).length ≤ bd x := by
    intro l x wl hU hx24
    obtain ⟨u1, u2, u3, u4, u5⟩ := hU
    obtain ⟨j1, j2⟩ := I x u1 hx24
    have j3 := hlen x (by omega) hx24
    rw [qp_cl u5 (by omega)] at j2
    exact ⟨by omega, u1, u2, u4, u5, j2, by rw [pk_un (by omega)]; exact j1, by omega, j3⟩
  have e0 : upd ct i 0 i = 0 := pk_us
  obtain ⟨w, hw1, hw6, hWn, h⟩ := ok i hi
  rw [qp_cl hWn (by omega)] at H
  have un : ∀ x wl, qp_U (nl i) nw i x wl → nr i = -1 → (nk i = 1 ∨ nk i = 2 ∨ nk i = 3 ∨ nk i = 4 ∨ nk i = 7 ∨ nk i = 8 ∨ nk i = 10) → bd x ≤ 24 := by
    intro x wl hU hR hk
    have := hU.1
    rw [qp_bs_u hk hR hU.2.1 (by omega)] at hbi
    by_cases z : 24 < bd x
    · rw [if_pos z] at hbi; omega
    · omega
  refine ⟨v, nm_e ⟨v, ?_⟩⟩
  rcases h with h | h | h | h | h | h | h | h | h | h | h
  · obtain ⟨hk, hw3, t, ht, hD, hq⟩ := h
    obtain ⟨h0, h010, eh, hag⟩ := hT t ht
    rw [qp_sem_0 hk hD (by omega), eh, nI_clamp (by omega)] at hli
    rw [hli] at H
    refine br_t hk ?_
    refine y_table (f := fun r c => tbX (t * 30 + r * 3 + c)) hi12 ht hq eh h010 hWn hw3 (fun r c hr hc => ?_) ?_
    · have := hag (r * 3 + c) (by omega)
      show tb (t * 30 + r * 3 + c) = tbX (t * 30 + r * 3 + c)
      rw [show t * 30 + r * 3 + c = t * 30 + (r * 3 + c) by omega]
      exact this.symm
    · intro vl' O
      exact H _ _ (qp_Out_u O)
  · obtain ⟨hk, hr, x, a, hU, ha, hA, q1, q2, q3⟩ := h
    obtain ⟨c1, c2, c3, c4, c5, c6, c7, c8, c9⟩ := ch _ x _ hU (un x _ hU hr (Or.inl hk))
    rw [qp_sem_1 hk c3 (by omega) hA (by omega), ← q2, ← q3] at hli
    rw [hli] at H
    refine br_f (by rw [hk]; decide) ⟨v, br_f (by rw [hk]; decide) ?_⟩
    refine y_filter (b := fun _ => p3 i) hi12 c2 c3 c5 c4 q1 ha (Or.inl ⟨by rw [hk]; decide, fun _ => rfl⟩) c6 c7 c8 e0 ?_
    intro ct' vl' O
    exact H _ _ (qp_Out_u O)
  · obtain ⟨hk, hr, x, a, b, hU, ha, hb', hA, hB, q1, q2, q3⟩ := h
    obtain ⟨c1, c2, c3, c4, c5, c6, c7, c8, c9⟩ := ch _ x _ hU (un x _ hU hr (Or.inr (Or.inl hk)))
    rw [qp_sem_2 hk c3 (by omega) hA (by omega) hB (by omega), ← q2] at hli
    rw [hli] at H
    refine br_f (by rw [hk]; decide) ⟨v, br_f (by rw [hk]; decide) ?_⟩
    refine y_filter (b := fun z => z b) hi12 c2 c3 c5 c4 q1 ha (Or.inr ⟨hk, b, hb', q3, fun _ => rfl⟩) c6 c7 c8 e0 ?_
    intro ct' vl' O
    exact H _ _ (qp_Out_u O)
  · obtain ⟨hk, hr, x, wl, a, b, hU, hwl, ha, hb', hA, hB, q1, q2, q3⟩ := h
    obtain ⟨c1, c2, c3, c4, c5, c6, c7, c8, c9⟩ := ch _ x _ hU (un x _ hU hr (Or.inr (Or.inr (Or.inl hk))))
    rw [qp_sem_3 hk c3 (by omega) hA (by omega) hB (by omega) c5 (by omega), ← q1] at hli
    rw [hli, hwl] at H
    refine br_f (by rw [hk]; decide) ⟨v, br_t (by rw [hk]; decide) ⟨v, br_t hk ?_⟩⟩
    refine y_map hi12 c2 c3 c5 (by omega) q2 ha q3 hb' c6 c7 c8 e0 ?_
    intro ct' vl' O
    exact H _ _ (qp_Out_u O)
  · obtain ⟨hk, hr, x, wl, hU, q1, hch⟩ := h
    obtain ⟨c1, c2, c3, c4, c5, c6, c7, c8, c9⟩ := ch _ x _ hU (un x _ hU hr (Or.inr (Or.inr (Or.inr (Or.inl hk)))))
    rw [qp_sem_4 hk c3 (by omega)] at hli
    rw [hli] at H
    refine br_f (by rw [hk]; decide) ⟨v, br_t (by rw [hk]; decide) ⟨v, br_f (by rw [hk]; decide) ⟨v, br_t hk ?_⟩⟩⟩
    refine y_project hi12 c2 c3 c4 hWn hw6 q1 hch c6 c7 c8 ?_
    intro vl' O
    exact H _ _ (qp_Out_u O)
  · obtain ⟨hk, x, wl, y, wr, a, b, hU, hV, ha, hb', hA, hB, q1, q2, q3, hc⟩ := h
    have hx := hU.1
    have hy := hV.1
    rw [qp_bs_5 hk hV.2.1 (by omega) hU.2.1 (by omega), qp_fac_bk] at hbi
    have h4 : ¬ (24 < bd x ∨ 24 < bd y) := by intro z; rw [if_pos z] at hbi; omega
    rw [if_neg h4] at hbi
    have h7 : ¬ 24 < bd x * qp_fac (cc i) (bd y) := by intro z; rw [if_pos z] at hbi; omega
    obtain ⟨c1, c2, c3, c4, c5, c6, c7, c8, c9⟩ := ch _ x _ hU (by omega)
    obtain ⟨d1, d2, d3, d4, d5, d6, d7, d8, d9⟩ := ch _ y _ hV (by omega)
    rw [qp_sem_5 hk c3 (by omega) d3 (by omega) hA (by omega) hB (by omega) c5 (by omega)] at hli
    rw [hli] at H
    refine br_f (by rw [hk]; decide) ⟨v, br_t (by rw [hk]; decide) ⟨v, br_f (by rw [hk]; decide) ⟨v, br_f (by rw [hk]; decide) ⟨v, br_t hk ?_⟩⟩⟩⟩
    have h9 := Nat.mul_le_mul_right (qp_fac (cc i) (bd y)) c9
    refine y_join (m := qp_fac (cc i) (bd y)) hi12 c2 d2 c3 d3 c5 d5 c4 d4 hw6 q1 ha q2 hb' q3 hc c6 c7 c8 d6 d7 d8 e0 (fun z => qp_fac_1 d9 z) (fun z => qp_fac_2 z) (by omega) ?_
    intro ct' vl' O
    exact H _ _ (qp_Out_u O)
  · obtain ⟨hk, x, y, hU, hV⟩ := h
    have hx := hU.1
    have hy := hV.1
    rw [qp_bs_6 hk hV.2.1 (by omega) hU.2.1 (by omega)] at hbi
    have h4 : ¬ (24 < bd x ∨ 24 < bd y) := by intro z; rw [if_pos z] at hbi; omega
    rw [if_neg h4] at hbi
    have h7 : ¬ 24 < bd x + bd y := by intro z; rw [if_pos z] at hbi; omega
    obtain ⟨c1, c2, c3, c4, c5, c6, c7, c8, c9⟩ := ch _ x _ hU (by omega)
    obtain ⟨d1, d2, d3, d4, d5, d6, d7, d8, d9⟩ := ch _ y _ hV (by omega)
    rw [qp_sem_6 hk c3 (by omega) d3 (by omega)] at hli
    rw [hli] at H
    refine br_f (by rw [hk]; decide) ⟨v, br_t (by rw [hk]; decide) ⟨v, br_f (by rw [hk]; decide) ⟨v, br_f (by rw [hk]; decide) ⟨v, br_f (by rw [hk]; decide) ⟨v, br_t hk ?_⟩⟩⟩⟩⟩
    refine y_union hi12 c2 d2 c3 d3 c5 d5 hw6 c6 c7 c8 d6 d7 d8 e0 (by omega) ?_
    intro ct' vl' O
    exact H _ _ (qp_Out_u O)
  · obtain ⟨hk, hr, hw2, x, wl, a, b, hU, ha, hb', hA, hB, q1, q2, q3, ho⟩ := h
    obtain ⟨c1, c2, c3, c4, c5, c6, c7, c8, c9⟩ := ch _ x _ hU (un x _ hU hr (Or.inr (Or.inr (Or.inr (Or.inr (Or.inl hk))))))
    rw [qp_sem_7 hk c3 (by omega) hA (by omega) hB (by omega), ← q2] at hli
    rw [hli, hw2] at H
    refine br_f (by rw [hk]; decide) ⟨v, br_t (by rw [hk]; decide) ⟨v, br_f (by rw [hk]; decide) ⟨v, br_f (by rw [hk]; decide) ⟨v, br_f (by rw [hk]; decide) ⟨v, br_f (by rw [hk]; decide) ⟨v, br_t hk ?_⟩⟩⟩⟩⟩⟩
    refine y_group hi12 c2 c3 c4 q1 ha q3 hb' (by rw [q2]; exact ho) c6 c7 c8 e0 ?_
    intro ct' vl' O
    exact H _ _ (qp_Out_u O)
  · obtain ⟨hk, hr, x, hU⟩ := h
    obtain ⟨c1, c2, c3, c4, c5, c6, c7, c8, c9⟩ := ch _ x _ hU (un x _ hU hr (Or.inr (Or.inr (Or.inr (Or.inr (Or.inr (Or.inl hk)))))))
    rw [qp_sem_8 hk c3 (by omega) hWn (by omega)] at hli
    rw [hli] at H
    refine br_f (by rw [hk]; decide) ⟨v, br_t (by rw [hk]; decide) ⟨v, br_f (by rw [hk]; decide) ⟨v, br_f (by rw [hk]; decide) ⟨v, br_f (by rw [hk]; decide) ⟨v, br_f (by rw [hk]; decide) ⟨v, br_f (by rw [hk]; decide) ⟨v, br_t hk ?_⟩⟩⟩⟩⟩⟩⟩
    refine y_distinct hi12 c2 c3 c5 c4 c6 c7 c8 e0 ?_
    intro ct' vl' O
    exact H _ _ (qp_Out_u O)
  · obtain ⟨hk, hr, x, m, hU, hm, hD, hq⟩ := h
    have hx := hU.1
    rw [qp_bs_9 hk hr hU.2.1 (by omega) hD hm] at hbi
    have h4 : ¬ 24 < bd x := by intro z; rw [if_pos z] at hbi; omega
    obtain ⟨c1, c2, c3, c4, c5, c6, c7, c8, c9⟩ := ch _ x _ hU (by omega)
    rw [qp_sem_9 hk c3 (by omega) hD hm] at hli
    rw [hli] at H
    refine br_f (by rw [hk]; decide) ⟨v, br_t (by rw [hk]; decide) ⟨v, br_f (by rw [hk]; decide) ⟨v, br_f (by rw [hk]; decide) ⟨v, br_f (by rw [hk]; decide) ⟨v, br_f (by rw [hk]; decide) ⟨v, br_f (by rw [hk]; decide) ⟨v, br_f (by rw [hk]; decide) ⟨v, br_t hk ?_⟩⟩⟩⟩⟩⟩⟩⟩
    refine y_limit hi12 c2 c3 c5 c4 hq hm c6 c7 c8 e0 ?_
    intro ct' vl' O
    exact H _ _ (qp_Out_u O)
  · obtain ⟨hk, hr, x, a, hU, ha, hA, hq, hc⟩ := h
    obtain ⟨c1, c2, c3, c4, c5, c6, c7, c8, c9⟩ := ch _ x _ hU (un x _ hU hr (Or.inr (Or.inr (Or.inr (Or.inr (Or.inr (Or.inr hk)))))))
    rw [qp_sem_10 hk c3 (by omega) hA (by omega)] at hli
    rw [hli] at H
    refine br_f (by rw [hk]; decide) ⟨v, br_t (by rw [hk]; decide) ⟨v, br_f (by rw [hk]; decide) ⟨v, br_f (by rw [hk]; decide) ⟨v, br_f (by rw [hk]; decide) ⟨v, br_f (by rw [hk]; decide) ⟨v, br_f (by rw [hk]; decide) ⟨v, br_f (by rw [hk]; decide) ⟨v, br_f (by rw [hk]; decide) ?_⟩⟩⟩⟩⟩⟩⟩⟩
    refine y_sort (d := cc i = 4) hi12 c2 c3 c5 c4 hq ha (by rcases hc with ⟨z, y⟩ | ⟨z, y⟩; exact Or.inl ⟨z, y⟩; exact Or.inr ⟨by rw [z]; decide, y⟩) c6 c7 c8 e0 ?_
    intro ct' vl' O
    exact H _ _ (qp_Out_u O)
end qp_Y6
