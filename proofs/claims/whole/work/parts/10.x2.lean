/-! the component works the kinds out, one list each -/
section qp_X2
variable {tc nc rh rc : Int32} {tw th tb nk nl nr nw us ca cb cc nn bo lh lc rs : Nat → Int32}
theorem x_filter {post : SX → Prop} {n l a w : Nat} {S : List qp_Row} (hn : n < 12) (hl : l < n) (eL : nl n = nI l) (eW : nw l = nI w) (hw : w ≤ 6) (eA : ca n = nI a) (ha : a < w) (hS : qp_Rep lc l w S) (eH : lh l = nI S.length) (h24 : S.length ≤ 24) (e0 : lh n = 0) (H : ∀ lh' lc', qp_Out n w (qp_fl S (fun z => qp_ful (z a) (cc n) (nn n)) S.length) lh lc lh' lc' → post (tc, nc, rh, rc, tw, th, tb, nk, nl, nr, nw, us, ca, cb, cc, nn, bo, lh', lc', rs)) : wpX_workOutFilter post (tc, nc, rh, rc, tw, th, tb, nk, nl, nr, nw, us, ca, cb, cc, nn, bo, lh, lc, rs) (nI n) := by
  unfold wpX_workOutFilter
  try dsimp only
  refine ⟨vp_in_nI hn (by omega), nm_r (qp_rd hn eL) ⟨vp_in_nI (by omega) (by omega), nm_r (qp_rd (by omega) eH) ⟨S.length + 1, ?_⟩⟩⟩
  refine qp_loop (fun k i h a' => wX_workOutFilter_17 post (nI n) (nI l) (nI S.length) k (nI i) tc nc rh rc tw th tb nk nl nr nw us ca cb cc nn bo h a' rs) (fun i h a' => qp_Out n w (qp_fl S (fun z => qp_ful (z a) (cc n) (nn n)) i) lh lc h a') S.length ?_ ?_ (S.length + 1) 0 lh lc (by omega) (by omega) (qp_Out_0 e0)
  · intro k h a' O
    exact br_t (nI_le (Nat.le_refl _) (by omega)) (H h a' O)
  · intro k i h a' hi O ih
    have hS' := qp_Out_rd O hS h24 hw (by omega)
    have hlen := qp_fl_len S (fun z => qp_ful (z a) (cc n) (nn n)) i
    refine br_f (nI_ge hi (by omega)) ⟨vp_in_nI hn (by omega), ?_⟩
    refine x_listCell rfl rfl (qp_rd hn eA) (hS' i a hi ha) (by omega) ?_
    refine ⟨vp_in_nI hn (by omega), vp_in_nI hn (by omega), ?_⟩
    refine x_fulfils rfl (qp_rd hn rfl) (qp_rd hn rfl) (fun hp => ?_) (fun hp => ?_)
    · refine br_f (by decide) ?_
      refine x_appendRow rfl rfl rfl hn (by omega) (by omega) eW hw O (by omega) hS' hi h24 ?_
      intro lh' lc' O'
      refine nm_r (nI_1 i) (ih lh' lc' ?_)
      show qp_Out n w (qp_if (qp_ful (qp_g S i a) (cc n) (nn n)) _ _) lh lc lh' lc'
      rw [qp_if_t hp]; exact O'
    · refine br_t rfl ?_
      refine nm_r (nI_1 i) (ih h a' ?_)
      show qp_Out n w (qp_if (qp_ful (qp_g S i a) (cc n) (nn n)) _ _) lh lc h a'
      rw [qp_if_f hp]; exact O
theorem x_filterCols {post : SX → Prop} {n l a b w : Nat} {S : List qp_Row} (hn : n < 12) (hl : l < n) (eL : nl n = nI l) (eW : nw l = nI w) (hw : w ≤ 6) (eA : ca n = nI a) (ha : a < w) (eB : cb n = nI b) (hb : b < w) (hS : qp_Rep lc l w S) (eH : lh l = nI S.length) (h24 : S.length ≤ 24) (e0 : lh n = 0) (H : ∀ lh' lc', qp_Out n w (qp_fl S (fun z => qp_ful (z a) (cc n) (z b)) S.length) lh lc lh' lc' → post (tc, nc, rh, rc, tw, th, tb, nk, nl, nr, nw, us, ca, cb, cc, nn, bo, lh', lc', rs)) : wpX_workOutFilterCols post (tc, nc, rh, rc, tw, th, tb, nk, nl, nr, nw, us, ca, cb, cc, nn, bo, lh, lc, rs) (nI n) := by
  unfold wpX_workOutFilterCols
  try dsimp only
  refine ⟨vp_in_nI hn (by omega), nm_r (qp_rd hn eL) ⟨vp_in_nI (by omega) (by omega), nm_r (qp_rd (by omega) eH) ⟨S.length + 1, ?_⟩⟩⟩
  refine qp_loop (fun k i h a' => wX_workOutFilterCols_17 post (nI n) (nI l) (nI S.length) k (nI i) tc nc rh rc tw th tb nk nl nr nw us ca cb cc nn bo h a' rs) (fun i h a' => qp_Out n w (qp_fl S (fun z => qp_ful (z a) (cc n) (z b)) i) lh lc h a') S.length ?_ ?_ (S.length + 1) 0 lh lc (by omega) (by omega) (qp_Out_0 e0)
  · intro k h a' O
    exact br_t (nI_le (Nat.le_refl _) (by omega)) (H h a' O)
  · intro k i h a' hi O ih
    have hS' := qp_Out_rd O hS h24 hw (by omega)
    have hlen := qp_fl_len S (fun z => qp_ful (z a) (cc n) (z b)) i
    refine br_f (nI_ge hi (by omega)) ⟨vp_in_nI hn (by omega), ?_⟩
    refine x_listCell rfl rfl (qp_rd hn eA) (hS' i a hi ha) (by omega) ?_
    refine ⟨vp_in_nI hn (by omega), ?_⟩
    refine x_listCell rfl rfl (qp_rd hn eB) (hS' i b hi hb) (by omega) ?_
    refine ⟨vp_in_nI hn (by omega), ?_⟩
    refine x_fulfils rfl (qp_rd hn rfl) rfl (fun hp => ?_) (fun hp => ?_)
    · refine br_f (by decide) ?_
      refine x_appendRow rfl rfl rfl hn (by omega) (by omega) eW hw O (by omega) hS' hi h24 ?_
      intro lh' lc' O'
      refine nm_r (nI_1 i) (ih lh' lc' ?_)
      show qp_Out n w (qp_if (qp_ful (qp_g S i a) (cc n) (qp_g S i b)) _ _) lh lc lh' lc'
      rw [qp_if_t hp]; exact O'
    · refine br_t rfl ?_
      refine nm_r (nI_1 i) (ih h a' ?_)
      show qp_Out n w (qp_if (qp_ful (qp_g S i a) (cc n) (qp_g S i b)) _ _) lh lc h a'
      rw [qp_if_f hp]; exact O
theorem x_map {post : SX → Prop} {n l a b w : Nat} {S : List qp_Row} (hn : n < 12) (hl : l < n) (eL : nl n = nI l) (eW : nw l = nI w) (hw : w + 1 ≤ 6) (eA : ca n = nI a) (ha : a < w) (eB : cb n = nI b) (hb : b < w) (hS : qp_Rep lc l w S) (eH : lh l = nI S.length) (h24 : S.length ≤ 24) (e0 : lh n = 0) (H : ∀ lh' lc', qp_Out n (w + 1) (qp_tab S.length (qp_mp S w (cc n) a b)) lh lc lh' lc' → post (tc, nc, rh, rc, tw, th, tb, nk, nl, nr, nw, us, ca, cb, cc, nn, bo, lh', lc', rs)) : wpX_workOutMap post (tc, nc, rh, rc, tw, th, tb, nk, nl, nr, nw, us, ca, cb, cc, nn, bo, lh, lc, rs) (nI n) := by
  unfold wpX_workOutMap
  try dsimp only
  refine ⟨vp_in_nI hn (by omega), nm_r (qp_rd hn eL) ⟨vp_in_nI (by omega) (by omega), nm_r (qp_rd (by omega) eH) ⟨S.length + 1, ?_⟩⟩⟩
  refine qp_loop (fun k i h a' => wX_workOutMap_17 post (nI n) (nI l) (nI S.length) k (nI i) tc nc rh rc tw th tb nk nl nr nw us ca cb cc nn bo h a' rs) (fun i h a' => qp_Out n (w + 1) (qp_tab i (qp_mp S w (cc n) a b)) lh lc h a') S.length ?_ ?_ (S.length + 1) 0 lh lc (by omega) (by omega) (qp_Out_0 e0)
  · intro k h a' O
    exact br_t (nI_le (Nat.le_refl _) (by omega)) (H h a' O)
  · intro k i h a' hi O ih
    have hS' := qp_Out_rd O hS h24 (by omega) (by omega)
    have hlen := qp_tab_len i (qp_mp S w (cc n) a b)
    have hhn : h n = nI i := by have := qp_Out_h O; rw [hlen] at this; exact this
    refine br_f (nI_ge hi (by omega)) ⟨vp_in_nI hn (by omega), ?_⟩
    refine x_listCell rfl rfl (qp_rd hn eA) (hS' i a hi ha) (by omega) ?_
    refine ⟨vp_in_nI hn (by omega), ?_⟩
    refine x_listCell rfl rfl (qp_rd hn eB) (hS' i b hi hb) (by omega) ?_
    refine ⟨vp_in_nI hn (by omega), ?_⟩
    refine x_combined (qp_rd hn rfl) rfl rfl ?_
    refine ⟨vp_in_nI (by omega) (by omega), ?_⟩
    refine x_putCell rfl rfl (qp_rd (by omega) eW) (by omega) ?_
    try dsimp only
    unfold wpX_appendRow
    try dsimp only
    refine ⟨vp_in_nI hn (by omega), ?_⟩
    refine x_copyRow rfl rfl rfl (qp_rd hn hhn) (e4 := nI_0.symm) eW (by omega) (by omega) (by omega) (by omega) (by omega) ?_
    intro lc' hc
    try dsimp only
    rw [nI_clamp (by omega), hhn, nI_1]
    refine ⟨vp_in_nI hn (by omega), vp_in_nI hn (by omega), nm_e (nm_e (ih _ _ ?_))⟩
    rw [qp_tab_s]
    have key := qp_Out_app (a2 := lc') O (by omega) (by omega) (qp_mp S w (cc n) a b i) (fun c hcw => ?_) (fun p hp => ?_)
    · rw [hlen] at key; exact key
    · rw [hlen]
      unfold qp_mp
      by_cases z : c < w
      · rw [if_pos z]
        have e1 := hc.1 c z
        rw [Nat.add_zero] at e1
        rw [e1, pk_un (by omega)]
        exact hS' i c hi z
      · have z2 : c = w := by omega
        subst z2
        rw [if_neg z, hc.2 _ (by omega), pk_us]
    · rw [hlen] at hp
      rw [hc.2 p (by omega), pk_un (by omega)]
theorem x_scan {post : SX → Prop} {n t w h0 : Nat} (hn : n < 12) (ht : t < 4) (eD : nn n = nI t) (eT : th t = nI h0) (h10 : h0 ≤ 10) (eW : nw n = nI w) (hw : w ≤ 3) (H : ∀ lc', qp_Out n w (qp_tab h0 (fun r c => tb (t * 30 + r * 3 + c))) lh lc (upd lh n (nI h0)) lc' → post (tc, nc, rh, rc, tw, th, tb, nk, nl, nr, nw, us, ca, cb, cc, nn, bo, upd lh n (nI h0), lc', rs)) : wpX_workOutScan post (tc, nc, rh, rc, tw, th, tb, nk, nl, nr, nw, us, ca, cb, cc, nn, bo, lh, lc, rs) (nI n) := by
  unfold wpX_workOutScan
  try dsimp only
  refine ⟨vp_in_nI hn (by omega), nm_r (qp_rd hn eD) ⟨vp_in_nI ht (by omega), nm_r (qp_rd (by omega) eT) ⟨vp_in_nI hn (by omega), nm_r (qp_rd hn eW) ⟨h0 + 1, ?_⟩⟩⟩⟩
  refine qp_loop1 (fun k i a => wX_workOutScan_25 post (nI n) (nI t) (nI h0) (nI w) k (nI i) tc nc rh rc tw th tb nk nl nr nw us ca cb cc nn bo lh a rs) (fun i a => qp_Pt n w (fun r c => tb (t * 30 + r * 3 + c)) i 0 lc a) h0 ?_ ?_ (h0 + 1) 0 lc (by omega) (by omega) (qp_Pt_0 _ _ _ _)
  · intro k a P
    refine br_t (nI_le (Nat.le_refl _) (by omega)) ⟨vp_in_nI hn (by omega), ?_⟩
    rw [nI_clamp (by omega)]
    exact nm_e (H a ⟨P.1, fun j hj => pk_un hj, by rw [pk_us, qp_tab_len], qp_Pt_e P⟩)
  · intro k i a hi P ih
    refine br_f (nI_ge hi (by omega)) ?_
    unfold wpX_tableRowStart
    try dsimp only
    rw [qp_it0]
    refine ⟨w + 1, ?_⟩
    refine qp_loop1 (fun m j a => wX_workOutScan_43 post (wX_workOutScan_25 post (nI n) (nI t) (nI h0) (nI w) k) (nI n) (nI t) (nI h0) (nI w) (nI i) (nI (t * 30 + i * 3)) m (nI j) tc nc rh rc tw th tb nk nl nr nw us ca cb cc nn bo lh a rs) (fun j a => qp_Pt n w (fun r c => tb (t * 30 + r * 3 + c)) i j lc a) w ?_ ?_ (w + 1) 0 a (by omega) (by omega) P
    · intro m a P
      exact br_t (nI_le (Nat.le_refl _) (by omega)) (nm_r (nI_1 i) (ih a (qp_Pt_n P)))
    · intro m j a hj P ihj
      refine br_f (nI_ge hj (by omega)) ?_
      try dsimp only
      rw [nI_add, nI_clamp (by omega)]
      refine ⟨vp_in_nI (by omega) (by omega), ?_⟩
      refine x_putCell rfl rfl rfl (by omega) ?_
      exact nm_r (nI_1 j) (ihj _ (qp_Pt_s P (by omega) hj (by omega) rfl))
theorem x_project {post : SX → Prop} {n l w wl : Nat} {S : List qp_Row} (hn : n < 12) (hl : l < n) (eL : nl n = nI l) (hwl : wl ≤ 6) (eW : nw n = nI w) (hw : w ≤ 6) (hch : ∀ e, e < w → ∃ q : Nat, q < wl ∧ qp_ch (nn n) e = nI q) (hS : qp_Rep lc l wl S) (eH : lh l = nI S.length) (h24 : S.length ≤ 24) (H : ∀ lc', qp_Out n w (qp_tab S.length (qp_pr S (nn n))) lh lc (upd lh n (nI S.length)) lc' → post (tc, nc, rh, rc, tw, th, tb, nk, nl, nr, nw, us, ca, cb, cc, nn, bo, upd lh n (nI S.length), lc', rs)) : wpX_workOutProject post (tc, nc, rh, rc, tw, th, tb, nk, nl, nr, nw, us, ca, cb, cc, nn, bo, lh, lc, rs) (nI n) := by
  unfold wpX_workOutProject
  try dsimp only
  refine ⟨vp_in_nI hn (by omega), nm_r (qp_rd hn eL) ⟨vp_in_nI (by omega) (by omega), nm_r (qp_rd (by omega) eH) ⟨vp_in_nI hn (by omega), nm_r (qp_rd hn eW) ⟨S.length + 1, ?_⟩⟩⟩⟩
  refine qp_loop1 (fun k i a => wX_workOutProject_25 post (nI n) (nI l) (nI S.length) (nI w) k (nI i) tc nc rh rc tw th tb nk nl nr nw us ca cb cc nn bo lh a rs) (fun i a => qp_Pt n w (qp_pr S (nn n)) i 0 lc a) S.length ?_ ?_ (S.length + 1) 0 lc (by omega) (by omega) (qp_Pt_0 _ _ _ _)
  · intro k a P
    refine br_t (nI_le (Nat.le_refl _) (by omega)) ⟨vp_in_nI hn (by omega), ?_⟩
    rw [nI_clamp (by omega)]
    exact nm_e (H a ⟨P.1, fun j hj => pk_un hj, by rw [pk_us, qp_tab_len], qp_Pt_e P⟩)
  · intro k i a hi P ih
    refine br_f (nI_ge hi (by omega)) ⟨w + 1, ?_⟩
    refine qp_loop1 (fun m j a => wX_workOutProject_34 post (wX_workOutProject_25 post (nI n) (nI l) (nI S.length) (nI w) k) (nI n) (nI l) (nI S.length) (nI w) (nI i) m (nI j) tc nc rh rc tw th tb nk nl nr nw us ca cb cc nn bo lh a rs) (fun j a => qp_Pt n w (qp_pr S (nn n)) i j lc a) w ?_ ?_ (w + 1) 0 a (by omega) (by omega) P
    · intro m a P
      exact br_t (nI_le (Nat.le_refl _) (by omega)) (nm_r (nI_1 i) (ih a (qp_Pt_n P)))
    · intro m j a hj P ihj
      obtain ⟨q, hq, eq⟩ := hch j hj
      have hS' := qp_Rep_fr hS h24 hwl (by omega) P.1
      refine br_f (nI_ge hj (by omega)) ⟨vp_in_nI hn (by omega), ?_⟩
      unfold wpX_chosenColumn
      try dsimp only
      rw [nI_clamp (by omega)]
      refine x_listCell rfl rfl eq (hS' i q hi hq) (by omega) ?_
      refine x_putCell rfl rfl rfl (by omega) ?_
      refine nm_r (nI_1 j) (ihj _ (qp_Pt_s P (by omega) hj (by omega) ?_))
      unfold qp_pr
      rw [eq, nI_clamp (by omega)]
theorem x_first {post : SX → Prop} {p1 p2 : Int32} {n l w m : Nat} {R S : List qp_Row} {h0 a0 : Nat → Int32} (e1 : p1 = nI l) (e2 : p2 = nI m) (hm : m < 2 ^ 31) (hn : n < 12) (hl : l < n) (eW : nw l = nI w) (hw : w ≤ 6) (hS : qp_Rep lc l w S) (eH : lh l = nI S.length) (h24 : S.length ≤ 24) (O : qp_Out n w R h0 a0 lh lc) (hR : R.length + (if m < S.length then m else S.length) ≤ 24) (H : ∀ lh' lc', qp_Out n w (R ++ qp_tab (if m < S.length then m else S.length) (qp_g S)) h0 a0 lh' lc' → post (tc, nc, rh, rc, tw, th, tb, nk, nl, nr, nw, us, ca, cb, cc, nn, bo, lh', lc', rs)) : wpX_appendFirstRows post (tc, nc, rh, rc, tw, th, tb, nk, nl, nr, nw, us, ca, cb, cc, nn, bo, lh, lc, rs) (nI n) p1 p2 := by
  subst e1 e2
  unfold wpX_appendFirstRows
  try dsimp only
  refine ⟨vp_in_nI (by omega) (by omega), ?_⟩
  have eH' : lh (nI l).toNatClampNeg = nI S.length := qp_rd (by omega) eH
  refine x_smaller ?_
  have ek : (if nI m < lh (nI l).toNatClampNeg then nI m else lh (nI l).toNatClampNeg) = nI (if m < S.length then m else S.length) := by
    rw [eH']
    by_cases z : m < S.length
    · rw [if_pos z, if_pos ((nI_ltI hm (by omega)).mpr z)]
    · rw [if_neg z, if_neg (fun y => z ((nI_ltI hm (by omega)).mp y))]
  rw [ek]
  generalize hk : (if m < S.length then m else S.length) = k0 at *
  have hkl : k0 ≤ S.length := by rw [← hk]; split <;> omega
  refine ⟨k0 + 1, ?_⟩
  have hL : ∀ h' a', qp_Out n w (R ++ qp_tab 0 (qp_g S)) h0 a0 h' a' → qp_Rep a' l w S → wX_appendFirstRows_16 post (nI n) (nI l) (nI k0) (k0 + 1) (nI 0) tc nc rh rc tw th tb nk nl nr nw us ca cb cc nn bo h' a' rs := by
    intro h' a' O0 hS0
    refine qp_loop (fun k i h a => wX_appendFirstRows_16 post (nI n) (nI l) (nI k0) k (nI i) tc nc rh rc tw th tb nk nl nr nw us ca cb cc nn bo h a rs) (fun i h a => qp_Out n w (R ++ qp_tab i (qp_g S)) h0 a0 h a ∧ qp_Rep a l w S) k0 ?_ ?_ (k0 + 1) 0 h' a' (by omega) (by omega) ⟨O0, hS0⟩
    · intro k h a O
      exact br_t (nI_le (Nat.le_refl _) (by omega)) (H h a O.1)
    · intro k i h a hi O ih
      have hlen : (R ++ qp_tab i (qp_g S)).length = R.length + i := by rw [List.length_append, qp_tab_len]
      refine br_f (nI_ge hi (by omega)) ?_
      refine x_appendRow rfl rfl rfl hn (by omega) (by omega) eW hw O.1 (by omega) O.2 (by omega) h24 ?_
      intro lh' lc' O'
      refine nm_r (nI_1 i) (ih lh' lc' ⟨?_, ?_⟩)
      · rw [qp_tab_s, ← List.append_assoc]; exact O'
      · intro r c hr hc
        rw [O'.1 _ (by omega), ← O.1.1 _ (by omega)]
        exact O.2 r c hr hc
  refine hL lh lc ?_ hS
  rw [qp_tab_0, List.append_nil]; exact O
end qp_X2
