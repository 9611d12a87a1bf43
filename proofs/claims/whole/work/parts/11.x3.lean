/-! the component: distinct, sort, group -/
section qp_X3
variable {tc nc rh rc : Int32} {tw th tb nk nl nr nw us ca cb cc nn bo lh lc rs : Nat → Int32}
theorem x_rowsEq {post : Int32 → Prop} {p0 p1 p2 p3 : Int32} {n r s q w : Nat} {R S : List qp_Row} (e0 : p0 = nI n) (e1 : p1 = nI r) (e2 : p2 = nI s) (e3 : p3 = nI q) (hn : n < 12) (hs : s < 12) (eW : nw n = nI w) (hw : w ≤ 6) (hR : qp_Rep lc n w R) (hr : r < R.length) (hR24 : R.length ≤ 24) (hS : qp_Rep lc s w S) (hq : q < S.length) (hS24 : S.length ≤ 24) (ht : qp_eqv w (qp_g R r) (qp_g S q) → post 1) (hf : ¬ qp_eqv w (qp_g R r) (qp_g S q) → post 0) : wpX_rowsAreEqual post (tc, nc, rh, rc, tw, th, tb, nk, nl, nr, nw, us, ca, cb, cc, nn, bo, lh, lc, rs) p0 p1 p2 p3 := by
  subst e0 e1 e2 e3
  unfold wpX_rowsAreEqual
  try dsimp only
  refine nm_r (qp_ix0 n r) (nm_r (qp_ix0 s q) ⟨vp_in_nI hn (by omega), nm_r (qp_rd hn eW) ⟨w + 1, ?_⟩⟩)
  refine qp_loop0 (fun k i => wX_rowsAreEqual_34 post (nI (n * 144 + r * 6)) (nI (s * 144 + q * 6)) (nI w) tc nc rh rc tw th tb nk nl nr nw us ca cb cc nn bo lh lc rs k (nI i)) (fun i => ∀ c, c < i → qp_g R r c = qp_g S q c) w ?_ ?_ (w + 1) 0 (by omega) (by omega) (fun c h => absurd h (Nat.not_lt_zero c))
  · intro k I
    exact br_t (nI_le (Nat.le_refl _) (by omega)) (ht I)
  · intro k i hi I ih
    refine br_f (nI_ge hi (by omega)) ?_
    try dsimp only
    rw [nI_add, nI_add, nI_clamp (by omega), nI_clamp (by omega), hR r i hr hi, hS q i hq hi]
    refine ⟨vp_in_nI (by omega) (by omega), vp_in_nI (by omega) (by omega), br_c (fun h => ?_) (fun h => ?_)⟩
    · refine nm_r (nI_1 i) (ih (fun c hc => ?_))
      by_cases z : c = i
      · subst z; exact h
      · exact I c (by omega)
    · exact hf (fun z => h (z i hi))
theorem x_isKept {post : Int32 → Prop} {p0 p1 p2 : Int32} {n s q w : Nat} {R S : List qp_Row} (e0 : p0 = nI n) (e1 : p1 = nI s) (e2 : p2 = nI q) (hn : n < 12) (hs : s < 12) (eW : nw n = nI w) (hw : w ≤ 6) (hR : qp_Rep lc n w R) (eR : lh n = nI R.length) (hR24 : R.length ≤ 24) (hS : qp_Rep lc s w S) (hq : q < S.length) (hS24 : S.length ≤ 24) (ht : (∃ r, r < R.length ∧ qp_eqv w (qp_g R r) (qp_g S q)) → post 1) (hf : ¬ (∃ r, r < R.length ∧ qp_eqv w (qp_g R r) (qp_g S q)) → post 0) : wpX_isKept post (tc, nc, rh, rc, tw, th, tb, nk, nl, nr, nw, us, ca, cb, cc, nn, bo, lh, lc, rs) p0 p1 p2 := by
  subst e0 e1 e2
  unfold wpX_isKept
  try dsimp only
  refine ⟨vp_in_nI hn (by omega), nm_r (qp_rd hn eR) ⟨R.length + 1, ?_⟩⟩
  refine qp_loop0 (fun k i => wX_isKept_11 post (nI n) (nI s) (nI q) (nI R.length) tc nc rh rc tw th tb nk nl nr nw us ca cb cc nn bo lh lc rs k (nI i)) (fun i => ∀ r, r < i → ¬ qp_eqv w (qp_g R r) (qp_g S q)) R.length ?_ ?_ (R.length + 1) 0 (by omega) (by omega) (fun c h => absurd h (Nat.not_lt_zero c))
  · intro k I
    exact br_t (nI_le (Nat.le_refl _) (by omega)) (hf (fun ⟨r, hr, e⟩ => I r hr e))
  · intro k i hi I ih
    refine br_f (nI_ge hi (by omega)) ?_
    refine x_rowsEq rfl rfl rfl rfl hn hs eW hw hR hi hR24 hS hq hS24 (fun h => ?_) (fun h => ?_)
    · exact br_f (by decide) (ht ⟨i, hi, h⟩)
    · refine br_t rfl (nm_r (nI_1 i) (ih (fun r hr => ?_)))
      by_cases z : r = i
      · subst z; exact h
      · exact I r (by omega)
theorem x_distinct {post : SX → Prop} {n l w : Nat} {S : List qp_Row} (hn : n < 12) (hl : l < n) (eL : nl n = nI l) (eW : nw l = nI w) (eWn : nw n = nI w) (hw : w ≤ 6) (hS : qp_Rep lc l w S) (eH : lh l = nI S.length) (h24 : S.length ≤ 24) (e0 : lh n = 0) (H : ∀ lh' lc', qp_Out n w (qp_di S w S.length) lh lc lh' lc' → post (tc, nc, rh, rc, tw, th, tb, nk, nl, nr, nw, us, ca, cb, cc, nn, bo, lh', lc', rs)) : wpX_workOutDistinct post (tc, nc, rh, rc, tw, th, tb, nk, nl, nr, nw, us, ca, cb, cc, nn, bo, lh, lc, rs) (nI n) := by
  unfold wpX_workOutDistinct
  try dsimp only
  refine ⟨vp_in_nI hn (by omega), nm_r (qp_rd hn eL) ⟨vp_in_nI (by omega) (by omega), nm_r (qp_rd (by omega) eH) ⟨S.length + 1, ?_⟩⟩⟩
  refine qp_loop (fun k i h a' => wX_workOutDistinct_17 post (nI n) (nI l) (nI S.length) k (nI i) tc nc rh rc tw th tb nk nl nr nw us ca cb cc nn bo h a' rs) (fun i h a' => qp_Out n w (qp_di S w i) lh lc h a') S.length ?_ ?_ (S.length + 1) 0 lh lc (by omega) (by omega) (qp_Out_0 e0)
  · intro k h a' O
    exact br_t (nI_le (Nat.le_refl _) (by omega)) (H h a' O)
  · intro k i h a' hi O ih
    have hS' := qp_Out_rd O hS h24 hw (by omega)
    have hlen := qp_di_len S w i
    have hk := qp_di_kept S w (qp_g S i) i
    refine br_f (nI_ge hi (by omega)) ?_
    refine x_isKept rfl rfl rfl hn (by omega) eWn hw O.2.2.2 (qp_Out_h O) (by omega) hS' hi h24 (fun hp => ?_) (fun hp => ?_)
    · refine br_f (by decide) (nm_r (nI_1 i) (ih h a' ?_))
      obtain ⟨j, hj, e⟩ := hk.mp hp
      show qp_Out n w (qp_if (∃ j, j < i ∧ qp_eqv w (qp_g S i) (qp_g S j)) _ _) lh lc h a'
      rw [qp_if_t ⟨j, hj, fun c hc => (e c hc).symm⟩]; exact O
    · refine br_t rfl ?_
      refine x_appendRow rfl rfl rfl hn (by omega) (by omega) eW hw O (by omega) hS' hi h24 ?_
      intro lh' lc' O'
      refine nm_r (nI_1 i) (ih lh' lc' ?_)
      show qp_Out n w (qp_if (∃ j, j < i ∧ qp_eqv w (qp_g S i) (qp_g S j)) _ _) lh lc lh' lc'
      rw [qp_if_f (fun ⟨j, hj, e⟩ => hp (hk.mpr ⟨j, hj, fun c hc => (e c hc).symm⟩))]; exact O'
theorem x_rankOf {post : Int32 → Prop} {p0 p1 : Int32} {n l q a w : Nat} {S : List qp_Row} (e0 : p0 = nI n) (e1 : p1 = nI q) (hn : n < 12) (hl : l < n) (eL : nl n = nI l) (hw : w ≤ 6) (eA : ca n = nI a) (ha : a < w) (hc : cc n = 4 ∨ cc n = 2) (hS : qp_Rep lc l w S) (eH : lh l = nI S.length) (h24 : S.length ≤ 24) (hq : q < S.length) (H : post (nI (qp_rk (cc n = 4) (fun t => qp_g S t a) S.length q))) : wpX_rankOf post (tc, nc, rh, rc, tw, th, tb, nk, nl, nr, nw, us, ca, cb, cc, nn, bo, lh, lc, rs) p0 p1 := by
  subst e0 e1
  unfold wpX_rankOf
  try dsimp only
  refine ⟨vp_in_nI hn (by omega), nm_r (qp_rd hn eL) ⟨vp_in_nI (by omega) (by omega), nm_r (qp_rd (by omega) eH) ⟨vp_in_nI hn (by omega), ?_⟩⟩⟩
  refine x_listCell rfl rfl (qp_rd hn eA) (hS q a hq ha) (by omega) ?_
  refine ⟨S.length + 1, ?_⟩
  have hcnt : ∀ i, qp_cnt (qp_bf (cc n = 4) (fun t => qp_g S t a) q) i ≤ i := qp_cnt_le _
  refine qp_loop1 (fun k i x => wX_rankOf_35 post (nI n) (nI q) (nI l) (nI S.length) (qp_g S q a) tc nc rh rc tw th tb nk nl nr nw us ca cb cc nn bo lh lc rs k x (nI i)) (fun i x => x = nI (qp_cnt (qp_bf (cc n = 4) (fun t => qp_g S t a) q) i)) S.length ?_ ?_ (S.length + 1) 0 0 (by omega) (by omega) rfl
  · intro k x I
    refine br_t (nI_le (Nat.le_refl _) (by omega)) ?_
    rw [I]; exact H
  · intro k i x hi I ih
    refine br_f (nI_ge hi (by omega)) ⟨vp_in_nI hn (by omega), ?_⟩
    refine x_listCell rfl rfl (qp_rd hn eA) (hS i a hi ha) (by omega) ?_
    have hb := qp_bf_x (c := cc n) (v := fun t => qp_g S t a) (i := q) (j := i) hc
    have yes : qp_bf (cc n = 4) (fun t => qp_g S t a) q i → x + 1 = nI (qp_cnt (qp_bf (cc n = 4) (fun t => qp_g S t a) q) (i + 1)) := by
      intro hy
      show x + 1 = nI (qp_if _ _ _)
      rw [qp_if_t hy, I, nI_1]
    have no : ¬ qp_bf (cc n = 4) (fun t => qp_g S t a) q i → x = nI (qp_cnt (qp_bf (cc n = 4) (fun t => qp_g S t a) q) (i + 1)) := by
      intro hy
      show x = nI (qp_if _ _ _)
      rw [qp_if_f hy, I]
    refine br_c (fun h => ?_) (fun h => ?_)
    · refine pk_le q i (fun z => ?_) (fun z => ?_)
      · refine nm_r (nI_1 i) (ih x (no (fun y => ?_)))
        rcases hb.mp y with ⟨_, y⟩ | ⟨y, _⟩
        · omega
        · exact y h
      · exact nm_e (nm_r (nI_1 i) (ih _ (yes (hb.mpr (Or.inl ⟨h, z⟩)))))
    · refine ⟨vp_in_nI hn (by omega), ?_⟩
      refine x_fulfils rfl (qp_rd hn rfl) rfl (fun hp => ?_) (fun hp => ?_)
      · exact br_f (by decide) (nm_e (nm_r (nI_1 i) (ih _ (yes (hb.mpr (Or.inr ⟨h, hp⟩))))))
      · refine br_t rfl (nm_r (nI_1 i) (ih x (no (fun y => ?_))))
        rcases hb.mp y with ⟨y, _⟩ | ⟨_, y⟩
        · exact h y
        · exact hp y
theorem x_sort {post : SX → Prop} {n l a w : Nat} {S : List qp_Row} (hn : n < 12) (hl : l < n) (eL : nl n = nI l) (eW : nw l = nI w) (hw : w ≤ 6) (eA : ca n = nI a) (ha : a < w) (hc : cc n = 4 ∨ cc n = 2) (hS : qp_Rep lc l w S) (eH : lh l = nI S.length) (h24 : S.length ≤ 24) (H : ∀ lc', qp_Out n w (qp_tab S.length (qp_so S (cc n = 4) a)) lh lc (upd lh n (nI S.length)) lc' → post (tc, nc, rh, rc, tw, th, tb, nk, nl, nr, nw, us, ca, cb, cc, nn, bo, upd lh n (nI S.length), lc', rs)) : wpX_workOutSort post (tc, nc, rh, rc, tw, th, tb, nk, nl, nr, nw, us, ca, cb, cc, nn, bo, lh, lc, rs) (nI n) := by
  unfold wpX_workOutSort
  try dsimp only
  refine ⟨vp_in_nI hn (by omega), nm_r (qp_rd hn eL) ⟨vp_in_nI (by omega) (by omega), nm_r (qp_rd (by omega) eH) ⟨S.length + 1, ?_⟩⟩⟩
  refine qp_loop1 (fun k i a' => wX_workOutSort_17 post (nI n) (nI l) (nI S.length) k (nI i) tc nc rh rc tw th tb nk nl nr nw us ca cb cc nn bo lh a' rs) (fun i a' => qp_Pk n w S (cc n = 4) a i lc a') S.length ?_ ?_ (S.length + 1) 0 lc (by omega) (by omega) (qp_Pk_0 _ _ _ _ _ _)
  · intro k a' P
    refine br_t (nI_le (Nat.le_refl _) (by omega)) ⟨vp_in_nI hn (by omega), ?_⟩
    rw [nI_clamp (by omega)]
    exact nm_e (H a' ⟨P.1, fun j hj => pk_un hj, by rw [pk_us, qp_tab_len], qp_Pk_e P⟩)
  · intro k i a' hi P ih
    have hS' := qp_Rep_fr hS h24 hw (by omega) P.1
    have hrk := qp_rk_lt (cc n = 4) (fun t => qp_g S t a) hi
    refine br_f (nI_ge hi (by omega)) ?_
    refine x_rankOf rfl rfl hn hl eL hw eA ha hc hS' eH h24 hi ?_
    refine x_copyRow rfl rfl rfl rfl (e4 := nI_0.symm) eW (by omega) hw (by omega) (by omega) (by omega) ?_
    intro lc' hcp
    exact nm_r (nI_1 i) (ih lc' (qp_Pk_s P hi h24 hw hS' hcp))
theorem x_groupOf {post : Int32 → Prop} {p0 key : Int32} {n w : Nat} {R : List qp_Row} (e0 : p0 = nI n) (hn : n < 12) (hw : 1 ≤ w) (hw6 : w ≤ 6) (hR : qp_Rep lc n w R) (eR : lh n = nI R.length) (hR24 : R.length ≤ 24) (ht : ∀ g, g < R.length → qp_g R g 0 = key → post (nI g)) (hf : (∀ g, g < R.length → qp_g R g 0 ≠ key) → post (nI R.length)) : wpX_groupOf post (tc, nc, rh, rc, tw, th, tb, nk, nl, nr, nw, us, ca, cb, cc, nn, bo, lh, lc, rs) p0 key := by
  subst e0
  unfold wpX_groupOf
  try dsimp only
  refine ⟨vp_in_nI hn (by omega), nm_r (qp_rd hn eR) ⟨R.length + 1, ?_⟩⟩
  refine qp_loop0 (fun k i => wX_groupOf_10 post (nI n) key (nI R.length) tc nc rh rc tw th tb nk nl nr nw us ca cb cc nn bo lh lc rs k (nI i)) (fun i => ∀ g, g < i → qp_g R g 0 ≠ key) R.length ?_ ?_ (R.length + 1) 0 (by omega) (by omega) (fun c h => absurd h (Nat.not_lt_zero c))
  · intro k I
    exact br_t (nI_le (Nat.le_refl _) (by omega)) (hf I)
  · intro k i hi I ih
    refine br_f (nI_ge hi (by omega)) ?_
    refine x_listCell (c := 0) rfl rfl nI_0.symm (hR i 0 hi (by omega)) (by omega) ?_
    refine br_c (fun h => ht i hi h) (fun h => nm_r (nI_1 i) (ih (fun g hg => ?_)))
    by_cases z : g = i
    · subst z; exact h
    · exact I g (by omega)
theorem x_group {post : SX → Prop} {n l a b wl : Nat} {S : List qp_Row} (hn : n < 12) (hl : l < n) (eL : nl n = nI l) (hwl : wl ≤ 6) (eA : ca n = nI a) (ha : a < wl) (eB : cb n = nI b) (hb : b < wl) (ho : cc n = 0 ∨ cc n = 1 ∨ cc n = 2 ∨ cc n = 3) (hS : qp_Rep lc l wl S) (eH : lh l = nI S.length) (h24 : S.length ≤ 24) (e0 : lh n = 0) (H : ∀ lh' lc', qp_Out n 2 (qp_gp S (cc n) a b S.length S.length) lh lc lh' lc' → post (tc, nc, rh, rc, tw, th, tb, nk, nl, nr, nw, us, ca, cb, cc, nn, bo, lh', lc', rs)) : wpX_workOutGroup post (tc, nc, rh, rc, tw, th, tb, nk, nl, nr, nw, us, ca, cb, cc, nn, bo, lh, lc, rs) (nI n) := by
  unfold wpX_workOutGroup
  try dsimp only
  refine ⟨vp_in_nI hn (by omega), nm_r (qp_rd hn eL) ⟨vp_in_nI (by omega) (by omega), nm_r (qp_rd (by omega) eH) ⟨vp_in_nI hn (by omega), nm_r (qp_rd hn rfl) ⟨S.length + 1, ?_⟩⟩⟩⟩
  refine qp_loop (fun k i h a' => wX_workOutGroup_25 post (nI n) (nI l) (nI S.length) (cc n) k (nI i) tc nc rh rc tw th tb nk nl nr nw us ca cb cc nn bo h a' rs) (fun i h a' => qp_Out n 2 (qp_gp S (cc n) a b i i) lh lc h a') S.length ?_ ?_ (S.length + 1) 0 lh lc (by omega) (by omega) (qp_Out_0 e0)
  · intro k h a' O
    exact br_t (nI_le (Nat.le_refl _) (by omega)) (H h a' O)
  · intro k i h a' hi O ih
    have hS' := qp_Out_rd O hS h24 hwl (by omega)
    have hlen := qp_gp_len S (cc n) a b i i
    have core : ∀ v, v = (if cc n = 0 then 1 else qp_g S i b) → wX_workOutGroup_68 post (wX_workOutGroup_25 post (nI n) (nI l) (nI S.length) (cc n) k) (nI n) (nI l) (nI S.length) (cc n) (nI i) (qp_g S i a) v tc nc rh rc tw th tb nk nl nr nw us ca cb cc nn bo h a' rs := by
      intro v ev
      unfold wX_workOutGroup_68
      have hh : h (nI n).toNatClampNeg = nI (qp_gp S (cc n) a b i i).length := qp_rd hn (qp_Out_h O)
      refine x_groupOf rfl hn (w := 2) (by omega) (by omega) O.2.2.2 (qp_Out_h O) (by omega) (fun g hg hk => ?_) (fun hk => ?_)
      · refine ⟨vp_in_nI hn (by omega), ?_⟩
        rw [hh]
        refine br_f (nI_ge hg (by omega)) ?_
        refine x_listCell (c := 1) rfl rfl rfl (O.2.2.2 g 1 hg (by omega)) (by omega) ?_
        refine x_aggregated rfl rfl ev ?_
        rw [qp_cx_cb ho]
        unfold wX_workOutGroup_125
        refine x_putCell (c := 0) rfl rfl nI_0.symm (by omega) ?_
        try dsimp only
        refine x_putCell (c := 1) rfl rfl rfl (by omega) ?_
        exact nm_r (nI_1 i) (ih _ _ (qp_Out_go O (by omega) hg hk))
      · refine ⟨vp_in_nI hn (by omega), ?_⟩
        rw [hh]
        refine br_t (nI_le (Nat.le_refl _) (by omega)) ⟨vp_in_nI hn (by omega), ?_⟩
        rw [nI_1, nI_clamp (by omega)]
        refine nm_e ?_
        unfold wX_workOutGroup_125
        refine x_putCell (c := 0) rfl rfl nI_0.symm (by omega) ?_
        try dsimp only
        refine x_putCell (c := 1) rfl rfl rfl (by omega) ?_
        rw [ev]
        exact nm_r (nI_1 i) (ih _ _ (qp_Out_gn ho O (by omega) hk))
    refine br_f (nI_ge hi (by omega)) ⟨vp_in_nI hn (by omega), ?_⟩
    refine x_listCell rfl rfl (qp_rd hn eA) (hS' i a hi ha) (by omega) ?_
    refine br_c (fun hz => ?_) (fun hz => ?_)
    · exact core 1 (by rw [if_pos hz])
    · refine ⟨vp_in_nI hn (by omega), ?_⟩
      refine x_listCell rfl rfl (qp_rd hn eB) (hS' i b hi hb) (by omega) ?_
      exact core _ (by rw [if_neg hz])
end qp_X3
