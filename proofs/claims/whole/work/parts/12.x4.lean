/-! the component: join -/
section qp_X4
variable {tc nc rh rc : Int32} {tw th tb nk nl nr nw us ca cb cc nn bo lh lc rs : Nat → Int32}
theorem x_hasMatch {post : Int32 → Prop} {p0 p1 : Int32} {n l r i a b wl wr : Nat} {S Q : List qp_Row} (e0 : p0 = nI n) (e1 : p1 = nI i) (hn : n < 12) (hl : l < n) (hr : r < n) (eL : nl n = nI l) (eR : nr n = nI r) (hwl : wl ≤ 6) (hwr : wr ≤ 6) (eA : ca n = nI a) (ha : a < wl) (eB : cb n = nI b) (hb : b < wr) (hS : qp_Rep lc l wl S) (hi : i < S.length) (hS24 : S.length ≤ 24) (hQ : qp_Rep lc r wr Q) (eQ : lh r = nI Q.length) (hQ24 : Q.length ≤ 24) (ht : qp_hit Q (qp_g S i) a b Q.length → post 1) (hf : ¬ qp_hit Q (qp_g S i) a b Q.length → post 0) : wpX_hasMatch post (tc, nc, rh, rc, tw, th, tb, nk, nl, nr, nw, us, ca, cb, cc, nn, bo, lh, lc, rs) p0 p1 := by
  subst e0 e1
  unfold wpX_hasMatch
  try dsimp only
  refine ⟨vp_in_nI hn (by omega), nm_r (qp_rd hn eR) ⟨vp_in_nI (by omega) (by omega), nm_r (qp_rd (by omega) eQ) ⟨vp_in_nI hn (by omega), vp_in_nI hn (by omega), ?_⟩⟩⟩
  refine x_listCell (qp_rd hn eL) rfl (qp_rd hn eA) (hS i a hi ha) (by omega) ?_
  refine ⟨Q.length + 1, ?_⟩
  refine qp_loop0 (fun k j => wX_hasMatch_37 post (nI n) (nI r) (nI Q.length) (qp_g S i a) tc nc rh rc tw th tb nk nl nr nw us ca cb cc nn bo lh lc rs k (nI j)) (fun j => ¬ qp_hit Q (qp_g S i) a b j) Q.length ?_ ?_ (Q.length + 1) 0 (by omega) (by omega) (fun ⟨t, h, _⟩ => absurd h (Nat.not_lt_zero t))
  · intro k I
    exact br_t (nI_le (Nat.le_refl _) (by omega)) (hf I)
  · intro k j hj I ih
    refine br_f (nI_ge hj (by omega)) ⟨vp_in_nI hn (by omega), ?_⟩
    refine x_listCell rfl rfl (qp_rd hn eB) (hQ j b hj hb) (by omega) ?_
    refine br_c (fun h => ht ⟨j, hj, h.symm⟩) (fun h => nm_r (nI_1 j) (ih (fun ⟨t, h1, h2⟩ => ?_)))
    by_cases z : t = j
    · subst z; exact h h2.symm
    · exact I ⟨t, by omega, h2⟩
theorem x_pairs {post : SX → Prop} {p0 p1 : Int32} {n l r i a b w wl wr : Nat} {R S Q : List qp_Row} {h0 a0 : Nat → Int32} (e0 : p0 = nI n) (e1 : p1 = nI i) (hn : n < 12) (hl : l < n) (hr : r < n) (eL : nl n = nI l) (eR : nr n = nI r) (eWl : nw l = nI wl) (eWr : nw r = nI wr) (ew : w = wl + wr) (hw : w ≤ 6) (eA : ca n = nI a) (ha : a < wl) (eB : cb n = nI b) (hb : b < wr) (hS : qp_Rep a0 l wl S) (hi : i < S.length) (hS24 : S.length ≤ 24) (hQ : qp_Rep a0 r wr Q) (eQ : h0 r = nI Q.length) (hQ24 : Q.length ≤ 24) (O : qp_Out n w R h0 a0 lh lc) (hR : R.length + Q.length ≤ 24) (H : ∀ lh' lc', qp_Out n w (qp_ji Q (qp_g S i) a b wl R Q.length) h0 a0 lh' lc' → post (tc, nc, rh, rc, tw, th, tb, nk, nl, nr, nw, us, ca, cb, cc, nn, bo, lh', lc', rs)) : wpX_appendPairs post (tc, nc, rh, rc, tw, th, tb, nk, nl, nr, nw, us, ca, cb, cc, nn, bo, lh, lc, rs) p0 p1 := by
  subst e0 e1
  unfold wpX_appendPairs
  try dsimp only
  have eQ' : lh r = nI Q.length := (O.2.1 r (by omega)).trans eQ
  refine ⟨vp_in_nI hn (by omega), nm_r (qp_rd hn eL) ⟨vp_in_nI hn (by omega), nm_r (qp_rd hn eR) ⟨vp_in_nI (by omega) (by omega), nm_r (qp_rd (by omega) eQ') ⟨vp_in_nI hn (by omega), ?_⟩⟩⟩⟩
  refine x_listCell rfl rfl (qp_rd hn eA) (qp_Out_rd O hS hS24 (by omega) (by omega) i a hi ha) (by omega) ?_
  refine ⟨Q.length + 1, ?_⟩
  refine qp_loop (fun k j h a' => wX_appendPairs_41 post (nI n) (nI i) (nI l) (nI r) (nI Q.length) (qp_g S i a) k (nI j) tc nc rh rc tw th tb nk nl nr nw us ca cb cc nn bo h a' rs) (fun j h a' => qp_Out n w (qp_ji Q (qp_g S i) a b wl R j) h0 a0 h a') Q.length ?_ ?_ (Q.length + 1) 0 lh lc (by omega) (by omega) O
  · intro k h a' O
    exact br_t (nI_le (Nat.le_refl _) (by omega)) (H h a' O)
  · intro k j h a' hj O ih
    have hS' := qp_Out_rd O hS hS24 (by omega) (by omega)
    have hQ' := qp_Out_rd O hQ hQ24 (by omega) (by omega)
    have hlen := qp_ji_len Q (qp_g S i) a b wl R j
    refine br_f (nI_ge hj (by omega)) ⟨vp_in_nI hn (by omega), ?_⟩
    refine x_listCell rfl rfl (qp_rd hn eB) (hQ' j b hj hb) (by omega) ?_
    refine br_c (fun hp => ?_) (fun hp => ?_)
    · refine ⟨vp_in_nI hn (by omega), ?_⟩
      refine x_copyRow rfl rfl rfl (qp_rd hn (qp_Out_h O)) (e4 := nI_0.symm) eWl (by omega) (by omega) (by omega) (by omega) (by omega) ?_
      intro lc1 hc1
      try dsimp only
      refine ⟨vp_in_nI hn (by omega), vp_in_nI (by omega) (by omega), ?_⟩
      refine x_copyRow rfl rfl rfl (qp_rd hn (qp_Out_h O)) (qp_rd (by omega) eWl) eWr (by omega) (by omega) (by omega) (by omega) (by omega) ?_
      intro lc2 hc2
      try dsimp only
      rw [nI_clamp (by omega), qp_Out_h O, nI_1]
      refine ⟨vp_in_nI hn (by omega), vp_in_nI hn (by omega), nm_e (nm_r (nI_1 j) (ih _ _ ?_))⟩
      show qp_Out n w (qp_if (qp_g S i a = qp_g Q j b) _ _) h0 a0 _ _
      rw [qp_if_t hp.symm]
      exact qp_Out_pr O (by omega) hw ew hS' hi hQ' hj hQ24 (by omega) hc1 hc2
    · refine nm_r (nI_1 j) (ih h a' ?_)
      show qp_Out n w (qp_if (qp_g S i a = qp_g Q j b) _ _) h0 a0 h a'
      rw [qp_if_f (fun z => hp z.symm)]; exact O
theorem x_zeros {post : SX → Prop} {p0 p1 : Int32} {n l i w wl wr : Nat} {R S : List qp_Row} {h0 a0 : Nat → Int32} (e0 : p0 = nI n) (e1 : p1 = nI i) (hn : n < 12) (hl : l < n) (eL : nl n = nI l) (eWl : nw l = nI wl) (eWn : nw n = nI w) (ew : w = wl + wr) (hw : w ≤ 6) (hS : qp_Rep a0 l wl S) (hi : i < S.length) (hS24 : S.length ≤ 24) (O : qp_Out n w R h0 a0 lh lc) (hR : R.length < 24) (H : ∀ lh' lc', qp_Out n w (R ++ [qp_pair (qp_g S i) (fun _ => 0) wl]) h0 a0 lh' lc' → post (tc, nc, rh, rc, tw, th, tb, nk, nl, nr, nw, us, ca, cb, cc, nn, bo, lh', lc', rs)) : wpX_appendWithZeros post (tc, nc, rh, rc, tw, th, tb, nk, nl, nr, nw, us, ca, cb, cc, nn, bo, lh, lc, rs) p0 p1 := by
  subst e0 e1
  unfold wpX_appendWithZeros
  try dsimp only
  have hS' := qp_Out_rd O hS hS24 (by omega) (by omega)
  refine ⟨vp_in_nI hn (by omega), nm_r (qp_rd hn eL) ⟨vp_in_nI hn (by omega), nm_r (qp_rd hn eWn) ⟨vp_in_nI (by omega) (by omega), nm_r (qp_rd (by omega) eWl) ⟨w + 1, ?_⟩⟩⟩⟩
  refine qp_loop1 (fun k j a' => wX_appendWithZeros_23 post (nI n) (nI i) (nI l) (nI w) k (nI j) tc nc rh rc tw th tb nk nl nr nw us ca cb cc nn bo lh a' rs) (fun j a' => wl ≤ j ∧ (∀ c, wl ≤ c → c < j → a' (n * 144 + R.length * 6 + c) = 0) ∧ ∀ p, (p < n * 144 + R.length * 6 + wl ∨ n * 144 + R.length * 6 + j ≤ p) → a' p = lc p) w ?_ ?_ (w + 1) wl lc (by omega) (by omega) ⟨by omega, fun c h1 h2 => by omega, fun _ _ => rfl⟩
  · intro k a' I
    obtain ⟨i1, i2, i3⟩ := I
    refine br_t (nI_le (Nat.le_refl _) (by omega)) ⟨vp_in_nI hn (by omega), ?_⟩
    refine x_copyRow rfl rfl rfl (qp_rd hn (qp_Out_h O)) (e4 := nI_0.symm) eWl (by omega) (by omega) (by omega) (by omega) (by omega) ?_
    intro lc1 hc1
    try dsimp only
    rw [nI_clamp (by omega), qp_Out_h O, nI_1]
    refine ⟨vp_in_nI hn (by omega), vp_in_nI hn (by omega), nm_e (H _ _ ?_)⟩
    refine qp_Out_zr O hR hw ew hS' hi (fun c hc => ?_) (fun c h1 h2 => ?_) (fun p hp => ?_)
    · exact (hc1.1 c hc).trans (i3 _ (by omega))
    · rw [hc1.2 _ (by omega)]; exact i2 c h1 h2
    · rw [hc1.2 _ (by omega)]; exact i3 p (by omega)
  · intro k j a' hj I ih
    obtain ⟨i1, i2, i3⟩ := I
    refine br_f (nI_ge hj (by omega)) ⟨vp_in_nI hn (by omega), ?_⟩
    refine x_putCell rfl (qp_rd hn (qp_Out_h O)) rfl (by omega) ?_
    refine nm_r (nI_1 j) (ih _ ⟨by omega, fun c h1 h2 => ?_, fun p hp => ?_⟩)
    · by_cases z : c = j
      · subst z; rw [pk_us]
      · rw [pk_un (by omega)]; exact i2 c h1 (by omega)
    · rw [pk_un (by omega)]; exact i3 p (by omega)
theorem x_join {post : SX → Prop} {n l r a b w wl wr m : Nat} {kd : Int32} {S Q : List qp_Row} (hn : n < 12) (hl : l < n) (hr : r < n) (eL : nl n = nI l) (eR : nr n = nI r) (eWl : nw l = nI wl) (eWr : nw r = nI wr) (eWn : nw n = nI w) (hwl : wl ≤ 6) (hwr : wr ≤ 6) (hw : w ≤ 6) (eA : ca n = nI a) (ha : a < wl) (eB : cb n = nI b) (hb : b < wr) (eC : cc n = kd) (hk : ((kd = 0 ∨ kd = 3) ∧ w = wl + wr) ∨ ((kd = 1 ∨ kd = 2) ∧ w = wl)) (hS : qp_Rep lc l wl S) (eS : lh l = nI S.length) (hS24 : S.length ≤ 24) (hQ : qp_Rep lc r wr Q) (eQ : lh r = nI Q.length) (hQ24 : Q.length ≤ 24) (e0 : lh n = 0) (m1 : kd = 0 ∨ kd = 3 → Q.length ≤ m) (m2 : kd ≠ 0 → 1 ≤ m) (hm : S.length * m ≤ 24) (H : ∀ lh' lc', qp_Out n w (qp_jo S Q a b wl kd S.length) lh lc lh' lc' → post (tc, nc, rh, rc, tw, th, tb, nk, nl, nr, nw, us, ca, cb, cc, nn, bo, lh', lc', rs)) : wpX_workOutJoin post (tc, nc, rh, rc, tw, th, tb, nk, nl, nr, nw, us, ca, cb, cc, nn, bo, lh, lc, rs) (nI n) := by
  have hkd : kd = 0 ∨ kd = 1 ∨ kd = 2 ∨ kd = 3 := by
    rcases hk with ⟨h | h, _⟩ | ⟨h | h, _⟩
    · exact Or.inl h
    · exact Or.inr (Or.inr (Or.inr h))
    · exact Or.inr (Or.inl h)
    · exact Or.inr (Or.inr (Or.inl h))
  unfold wpX_workOutJoin
  try dsimp only
  refine ⟨vp_in_nI hn (by omega), nm_r (qp_rd hn eL) ⟨vp_in_nI (by omega) (by omega), nm_r (qp_rd (by omega) eS) ⟨vp_in_nI hn (by omega), nm_r (qp_rd hn eC) ⟨S.length + 1, ?_⟩⟩⟩⟩
  refine qp_loop (fun k i h a' => wX_workOutJoin_25 post (nI n) (nI l) (nI S.length) kd k (nI i) tc nc rh rc tw th tb nk nl nr nw us ca cb cc nn bo h a' rs) (fun i h a' => qp_Out n w (qp_jo S Q a b wl kd i) lh lc h a') S.length ?_ ?_ (S.length + 1) 0 lh lc (by omega) (by omega) (qp_Out_0 e0)
  · intro k h a' O
    exact br_t (nI_le (Nat.le_refl _) (by omega)) (H h a' O)
  · intro k i h a' hi O ih
    have hS' := qp_Out_rd O hS hS24 hwl (by omega)
    have hQ' := qp_Out_rd O hQ hQ24 hwr (by omega)
    have eQ' : h r = nI Q.length := (O.2.1 r (by omega)).trans eQ
    have hlen := qp_jo_len (S := S) (Q := Q) (a := a) (b := b) (wl := wl) m1 m2 hkd i
    have hmm := Nat.mul_le_mul_right m (show i + 1 ≤ S.length from hi)
    rw [Nat.succ_mul] at hmm
    have es : qp_jo S Q a b wl kd (i + 1) = qp_jb Q (qp_g S i) a b wl kd (qp_jo S Q a b wl kd i) := rfl
    refine br_f (nI_ge hi (by omega)) ?_
    refine x_hasMatch rfl rfl hn hl hr eL eR hwl hwr eA ha eB hb hS' hi hS24 hQ' eQ' hQ24 (fun hp => ?_) (fun hp => ?_)
    · refine br_f (by decide) ?_
      rcases hk with ⟨h3 | h3, ew⟩ | ⟨h3 | h3, ew⟩
      · subst h3
        have := m1 (Or.inl rfl)
        refine br_t rfl ?_
        unfold wX_workOutJoin_56
        refine x_pairs rfl rfl hn hl hr eL eR eWl eWr ew hw eA ha eB hb hS hi hS24 hQ eQ hQ24 O (by omega) ?_
        intro lh' lc' O'
        refine nm_r (nI_1 i) (ih lh' lc' ?_)
        rw [es]; exact O'
      · subst h3
        have := m1 (Or.inr rfl)
        refine br_f (by decide) (br_t rfl ?_)
        unfold wX_workOutJoin_56
        refine x_pairs rfl rfl hn hl hr eL eR eWl eWr ew hw eA ha eB hb hS hi hS24 hQ eQ hQ24 O (by omega) ?_
        intro lh' lc' O'
        refine nm_r (nI_1 i) (ih lh' lc' ?_)
        rw [es]
        show qp_Out n w (qp_if (qp_hit Q (qp_g S i) a b Q.length) _ _) lh lc lh' lc'
        rw [qp_if_t hp]; exact O'
      · subst h3
        subst ew
        have := m2 (by decide)
        refine br_f (by decide) (br_f (by decide) ?_)
        unfold wX_workOutJoin_66 wX_workOutJoin_87 wX_workOutJoin_107
        refine br_f (by decide) (br_f (by decide) (br_t rfl ?_))
        refine x_appendRow rfl rfl rfl hn (by omega) (by omega) eWl hwl O (by omega) hS' hi hS24 ?_
        intro lh' lc' O'
        refine nm_r (nI_1 i) (ih lh' lc' ?_)
        rw [es]
        show qp_Out n w (qp_if (qp_hit Q (qp_g S i) a b Q.length) _ _) lh lc lh' lc'
        rw [qp_if_t hp]; exact O'
      · subst h3
        refine br_f (by decide) (br_f (by decide) ?_)
        unfold wX_workOutJoin_66 wX_workOutJoin_87
        refine br_f (by decide) (br_f (by decide) (br_f (by decide) ?_))
        refine nm_r (nI_1 i) (ih h a' ?_)
        rw [es]
        show qp_Out n w (qp_if (qp_hit Q (qp_g S i) a b Q.length) _ _) lh lc h a'
        rw [qp_if_t hp]; exact O
    · refine br_t rfl ?_
      unfold wX_workOutJoin_66 wX_workOutJoin_87 wX_workOutJoin_107
      refine br_t rfl ?_
      rcases hk with ⟨h3 | h3, ew⟩ | ⟨h3 | h3, ew⟩
      · subst h3
        refine br_f (by decide) (br_t rfl (br_f (by decide) ?_))
        refine nm_r (nI_1 i) (ih h a' ?_)
        rw [es]
        show qp_Out n w (qp_ji Q (qp_g S i) a b wl _ Q.length) lh lc h a'
        rw [qp_ji_no hp]; exact O
      · subst h3
        have := m2 (by decide)
        refine br_t rfl ?_
        refine x_zeros rfl rfl hn hl eL eWl eWn ew hw hS hi hS24 O (by omega) ?_
        intro lh' lc' O'
        refine nm_r (nI_1 i) (ih lh' lc' ?_)
        rw [es]
        show qp_Out n w (qp_if (qp_hit Q (qp_g S i) a b Q.length) _ _) lh lc lh' lc'
        rw [qp_if_f hp]; exact O'
      · subst h3
        refine br_f (by decide) (br_t rfl (br_f (by decide) ?_))
        refine nm_r (nI_1 i) (ih h a' ?_)
        rw [es]
        show qp_Out n w (qp_if (qp_hit Q (qp_g S i) a b Q.length) _ _) lh lc h a'
        rw [qp_if_f hp]; exact O
      · subst h3
        subst ew
        have := m2 (by decide)
        refine br_f (by decide) (br_t rfl (br_t rfl ?_))
        refine x_appendRow rfl rfl rfl hn (by omega) (by omega) eWl hwl O (by omega) hS' hi hS24 ?_
        intro lh' lc' O'
        refine nm_r (nI_1 i) (ih lh' lc' ?_)
        rw [es]
        show qp_Out n w (qp_if (qp_hit Q (qp_g S i) a b Q.length) _ _) lh lc lh' lc'
        rw [qp_if_f hp]; exact O'
end qp_X4
