/-! the component's small methods -/
theorem qp_rd {f : Nat → Int32} {n : Nat} {v : Int32} (hn : n < 12) (e : f n = v) : f (nI n).toNatClampNeg = v := by
  rw [nI_clamp (by omega)]; exact e
section qp_X1
variable {tc nc rh rc : Int32} {tw th tb nk nl nr nw us ca cb cc nn bo lh lc rs : Nat → Int32}
theorem x_listCell {post : Int32 → Prop} {p0 p1 p2 v : Int32} {n r c : Nat} (e0 : p0 = nI n) (e1 : p1 = nI r) (e2 : p2 = nI c) (hv : lc (n * 144 + r * 6 + c) = v) (h : n * 144 + r * 6 + c < 1728) (H : post v) : wpX_listCell post (tc, nc, rh, rc, tw, th, tb, nk, nl, nr, nw, us, ca, cb, cc, nn, bo, lh, lc, rs) p0 p1 p2 := by
  subst e0 e1 e2 hv
  unfold wpX_listCell
  try dsimp only
  rw [qp_ix, nI_clamp (by omega)]
  exact ⟨vp_in_nI h (by omega), H⟩
theorem x_putCell {post : SX → Prop} {p0 p1 p2 v : Int32} {n r c : Nat} (e0 : p0 = nI n) (e1 : p1 = nI r) (e2 : p2 = nI c) (h : n * 144 + r * 6 + c < 1728) (H : post (tc, nc, rh, rc, tw, th, tb, nk, nl, nr, nw, us, ca, cb, cc, nn, bo, lh, upd lc (n * 144 + r * 6 + c) v, rs)) : wpX_putCell post (tc, nc, rh, rc, tw, th, tb, nk, nl, nr, nw, us, ca, cb, cc, nn, bo, lh, lc, rs) p0 p1 p2 v := by
  subst e0 e1 e2
  unfold wpX_putCell
  try dsimp only
  rw [qp_ix, nI_clamp (by omega)]
  exact ⟨vp_in_nI h (by omega), nm_e H⟩
theorem x_copyRow {post : SX → Prop} {p0 p1 p2 p3 p4 : Int32} {s sr n r fc w : Nat} (e0 : p0 = nI s) (e1 : p1 = nI sr) (e2 : p2 = nI n) (e3 : p3 = nI r) (e4 : p4 = nI fc) (hw : nw s = nI w) (hs : s < 12) (h6 : w ≤ 6) (hf : s * 144 + sr * 6 + w ≤ 1728) (ht : n * 144 + r * 6 + fc + w ≤ 1728) (hd : s * 144 + sr * 6 + w ≤ n * 144 + r * 6 + fc ∨ n * 144 + r * 6 + fc + w ≤ s * 144 + sr * 6) (H : ∀ lc', qp_Cp (n * 144 + r * 6 + fc) (s * 144 + sr * 6) w lc lc' → post (tc, nc, rh, rc, tw, th, tb, nk, nl, nr, nw, us, ca, cb, cc, nn, bo, lh, lc', rs)) : wpX_copyRow post (tc, nc, rh, rc, tw, th, tb, nk, nl, nr, nw, us, ca, cb, cc, nn, bo, lh, lc, rs) p0 p1 p2 p3 p4 := by
  subst e0 e1 e2 e3 e4
  unfold wpX_copyRow
  try dsimp only
  refine nm_r (qp_ix0 s sr) (nm_r (qp_ix n r fc) ⟨vp_in_nI hs (by omega), nm_r (qp_rd hs hw) ⟨w + 1, ?_⟩⟩)
  refine qp_loop1 (fun k i a => wX_copyRow_37 post (nI (s * 144 + sr * 6)) (nI (n * 144 + r * 6 + fc)) (nI w) tc nc rh rc k (nI i) tw th tb nk nl nr nw us ca cb cc nn bo lh a rs) (fun i a => qp_Cp (n * 144 + r * 6 + fc) (s * 144 + sr * 6) i lc a) w ?_ ?_ (w + 1) 0 lc (by omega) (by omega) (qp_Cp_0 _ _ _)
  · intro k a I
    exact br_t (nI_le (Nat.le_refl _) (by omega)) (H a I)
  · intro k i a hi I ih
    refine br_f (nI_ge hi (by omega)) ?_
    try dsimp only
    rw [nI_add, nI_add, nI_clamp (by omega), nI_clamp (by omega)]
    exact ⟨vp_in_nI (by omega) (by omega), vp_in_nI (by omega) (by omega), nm_e (nm_r (nI_1 i) (ih _ (qp_Cp_s I hi hd rfl)))⟩
theorem x_appendRow {post : SX → Prop} {p0 p1 p2 : Int32} {n w s r : Nat} {R S : List qp_Row} {h0 a0 : Nat → Int32} (e0 : p0 = nI n) (e1 : p1 = nI s) (e2 : p2 = nI r) (hn : n < 12) (hs : s < 12) (hsn : s ≠ n) (hw : nw s = nI w) (h6 : w ≤ 6) (O : qp_Out n w R h0 a0 lh lc) (hR : R.length < 24) (hS : qp_Rep lc s w S) (hr : r < S.length) (h24 : S.length ≤ 24) (H : ∀ lh' lc', qp_Out n w (R ++ [qp_g S r]) h0 a0 lh' lc' → post (tc, nc, rh, rc, tw, th, tb, nk, nl, nr, nw, us, ca, cb, cc, nn, bo, lh', lc', rs)) : wpX_appendRow post (tc, nc, rh, rc, tw, th, tb, nk, nl, nr, nw, us, ca, cb, cc, nn, bo, lh, lc, rs) p0 p1 p2 := by
  subst e0 e1 e2
  unfold wpX_appendRow
  try dsimp only
  refine ⟨vp_in_nI hn (by omega), ?_⟩
  refine x_copyRow rfl rfl rfl (qp_rd hn (qp_Out_h O)) (e4 := nI_0.symm) hw hs h6 (by omega) (by omega) (by omega) ?_
  intro lc' hc
  try dsimp only
  rw [nI_clamp (by omega), qp_Out_h O, nI_1]
  exact ⟨vp_in_nI hn (by omega), vp_in_nI hn (by omega), nm_e (H _ _ (qp_Out_cp O hR h6 hS hr hc))⟩
theorem x_fulfils {post : Int32 → Prop} {p0 p1 p2 a c b : Int32} (e0 : p0 = a) (e1 : p1 = c) (e2 : p2 = b) (ht : qp_ful a c b → post 1) (hf : ¬ qp_ful a c b → post 0) : wpX_fulfils post (tc, nc, rh, rc, tw, th, tb, nk, nl, nr, nw, us, ca, cb, cc, nn, bo, lh, lc, rs) p0 p1 p2 := by
  subst e0 e1 e2
  unfold wpX_fulfils
  try dsimp only
  by_cases h0 : p1 = 0
  · subst h0
    exact br_f (by decide) (br_f (by decide) (br_t rfl (br_c (fun h => ht h) (fun h => hf h))))
  · by_cases h1 : p1 = 1
    · subst h1
      exact br_f (by decide) (br_f (by decide) (br_f (by decide) (br_t rfl (br_c (fun h => hf (fun z => z h)) (fun h => ht h)))))
    · by_cases h2 : p1 = 2
      · subst h2
        exact br_f (by decide) (br_f (by decide) (br_f (by decide) (br_f (by decide) (br_t rfl (br_c (fun h => hf (fun z => Int32.not_lt.mpr h z)) (fun h => ht (Int32.not_le.mp h)))))))
      · by_cases h3 : p1 = 3
        · subst h3
          exact br_f (by decide) (br_f (by decide) (br_f (by decide) (br_f (by decide) (br_f (by decide) (br_t rfl (br_c (fun h => hf (fun z => Int32.not_lt.mpr z h)) (fun h => ht (Int32.not_lt.mp h))))))))
        · by_cases h4 : p1 = 4
          · subst h4
            exact br_f (by decide) (br_f (by decide) (br_f (by decide) (br_f (by decide) (br_f (by decide) (br_f (by decide) (br_t rfl (br_c (fun h => hf (fun z => Int32.not_lt.mpr h z)) (fun h => ht (Int32.not_le.mp h)))))))))
          · have e : qp_ful p0 p1 p2 = (p2 ≤ p0) := by unfold qp_ful; rw [if_neg h0, if_neg h1, if_neg h2, if_neg h3, if_neg h4]
            rw [e] at ht hf
            have L : (p0 < p2 → post 0) ∧ (¬ p0 < p2 → post 1) := br_c (fun h => hf (Int32.not_le.mpr h)) (fun h => ht (Int32.not_lt.mp h))
            refine br_c (fun _ => L) (fun _ => br_c (fun _ => L) (fun _ => br_f h0 (br_f h1 (br_f h2 (br_f h3 (br_f h4 trivial))))))
theorem x_smaller {post : Int32 → Prop} {p0 p1 : Int32} (H : post (if p0 < p1 then p0 else p1)) : wpX_smaller post (tc, nc, rh, rc, tw, th, tb, nk, nl, nr, nw, us, ca, cb, cc, nn, bo, lh, lc, rs) p0 p1 := by
  unfold wpX_smaller
  try dsimp only
  refine br_c (fun h => ?_) (fun h => ?_)
  · rw [if_neg (Int32.not_lt.mpr h)] at H; exact H
  · rw [if_pos (Int32.not_le.mp h)] at H; exact H
theorem x_larger {post : Int32 → Prop} {p0 p1 : Int32} (H : post (if p1 < p0 then p0 else p1)) : wpX_larger post (tc, nc, rh, rc, tw, th, tb, nk, nl, nr, nw, us, ca, cb, cc, nn, bo, lh, lc, rs) p0 p1 := by
  unfold wpX_larger
  try dsimp only
  refine br_c (fun h => ?_) (fun h => ?_)
  · rw [if_neg (Int32.not_lt.mpr h)] at H; exact H
  · rw [if_pos (Int32.not_le.mp h)] at H; exact H
theorem x_combined {post : Int32 → Prop} {p0 p1 p2 o a b : Int32} (e0 : p0 = o) (e1 : p1 = a) (e2 : p2 = b) (H : post (qp_com o a b)) : wpX_combined post (tc, nc, rh, rc, tw, th, tb, nk, nl, nr, nw, us, ca, cb, cc, nn, bo, lh, lc, rs) p0 p1 p2 := by
  subst e0 e1 e2
  unfold wpX_combined
  try dsimp only
  by_cases h0 : p0 = 0
  · subst h0
    exact br_f (by decide) (br_f (by decide) (br_t rfl H))
  · by_cases h1 : p0 = 1
    · subst h1
      exact br_f (by decide) (br_f (by decide) (br_f (by decide) (br_t rfl H)))
    · by_cases h2 : p0 = 2
      · subst h2
        exact br_f (by decide) (br_f (by decide) (br_f (by decide) (br_f (by decide) (br_t rfl H))))
      · by_cases h3 : p0 = 3
        · subst h3
          exact br_f (by decide) (br_f (by decide) (br_f (by decide) (br_f (by decide) (br_f (by decide) (br_t rfl (x_smaller H))))))
        · have e : qp_com p0 p1 p2 = (if p2 < p1 then p1 else p2) := by unfold qp_com; rw [if_neg h0, if_neg h1, if_neg h2, if_neg h3]
          rw [e] at H
          exact br_c (fun _ => x_larger H) (fun _ => br_c (fun _ => x_larger H) (fun _ => br_f h0 (br_f h1 (br_f h2 (br_f h3 trivial)))))
theorem x_aggregated {post : Int32 → Prop} {p0 p1 p2 o a b : Int32} (e0 : p0 = o) (e1 : p1 = a) (e2 : p2 = b) (H : post (qp_cx o a b)) : wpX_aggregated post (tc, nc, rh, rc, tw, th, tb, nk, nl, nr, nw, us, ca, cb, cc, nn, bo, lh, lc, rs) p0 p1 p2 := by
  subst e0 e1 e2
  unfold wpX_aggregated
  try dsimp only
  unfold qp_cx at H
  by_cases h2 : p0 = 2
  · rw [if_pos h2] at H
    exact br_t h2 (x_smaller H)
  · rw [if_neg h2] at H
    by_cases h3 : p0 = 3
    · rw [if_pos h3] at H
      exact br_f h2 (br_t h3 (x_larger H))
    · rw [if_neg h3] at H
      exact br_f h2 (br_f h3 H)
end qp_X1
