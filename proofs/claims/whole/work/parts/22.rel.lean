/-! the relation, and the small methods of both sides -/
def i_Rel (k : Nat) (u : SX) (v : SY) : Prop := ∃ (t n h c : Nat) (tw th tb tb' nk nl nr nw us us' ca cb cc nn bo lh lc rs p1 p2 p3 bo' ct vl rs' : Nat → Int32), u = (nI t, nI n, nI h, nI c, tw, th, tb, nk, nl, nr, nw, us, ca, cb, cc, nn, bo, lh, lc, rs) ∧ v = (nI t, nI n, nI h, nI c, tb', th, tw, nk, nl, nr, p1, p2, p3, nw, us', bo', ct, vl, rs') ∧ 1 ≤ t ∧ t ≤ 4 ∧ qp_TW tw ∧ qp_TB th tb tb' ∧ qp_ND n nk nl nr nw us us' ca cb cc nn p1 p2 p3 ∧ qp_RS h c rs rs'
theorem i_up {k : Nat} {u : SX} {v : SY} (h : i_Rel k u v) : i_Rel (k + 5) u v := h
theorem qp_ix2 (x : Int32) {n : Nat} (hn : n < 2 ^ 31) : (x < 0 ∨ nI n ≤ x) ∨ ∃ j : Nat, j < n ∧ x = nI j := by
  rcases pk_ix x hn with h | h | h
  · exact Or.inl (Or.inl h)
  · exact Or.inl (Or.inr h)
  · exact Or.inr h
section qp_RL
variable {tc nc rh rc : Int32} {tw th tb nk nl nr nw us ca cb cc nn bo lh lc rs : Nat → Int32}
variable {tb' us' bo' rs' p1 p2 p3 ct vl : Nat → Int32}
theorem qp_mk {k t n h c : Nat} (h1 : 1 ≤ t) (h2 : t ≤ 4) (hW : qp_TW tw) (hT : qp_TB th tb tb') (hN : qp_ND n nk nl nr nw us us' ca cb cc nn p1 p2 p3) (hR : qp_RS h c rs rs') : i_Rel k (nI t, nI n, nI h, nI c, tw, th, tb, nk, nl, nr, nw, us, ca, cb, cc, nn, bo, lh, lc, rs) (nI t, nI n, nI h, nI c, tb', th, tw, nk, nl, nr, p1, p2, p3, nw, us', bo', ct, vl, rs') := ⟨t, n, h, c, tw, th, tb, tb', nk, nl, nr, nw, us, us', ca, cb, cc, nn, bo, lh, lc, rs, p1, p2, p3, bo', ct, vl, rs', rfl, rfl, h1, h2, hW, hT, hN, hR⟩
theorem qp_ND_w {n i : Nat} (hN : qp_ND n nk nl nr nw us us' ca cb cc nn p1 p2 p3) (hi : i < n) : ∃ w : Nat, 1 ≤ w ∧ w ≤ 6 ∧ nw i = nI w := by
  obtain ⟨w, h1, h2, h3, _⟩ := hN.2.2 i hi
  exact ⟨w, h1, h2, h3⟩
theorem x_hasT_y {post : Int32 → Prop} {t x : Nat} (ht : t ≤ 4) (hx : x < t) (H : post 1) : wpX_hasTable post (nI t, nc, rh, rc, tw, th, tb, nk, nl, nr, nw, us, ca, cb, cc, nn, bo, lh, lc, rs) (nI x) := by
  unfold wpX_hasTable
  try dsimp only
  exact br_f (nI_pos (by omega)) (br_f (nI_ge hx (by omega)) H)
theorem x_hasT_n {post : Int32 → Prop} {t : Nat} {p : Int32} (hv : p < 0 ∨ nI t ≤ p) (H : post 0) : wpX_hasTable post (nI t, nc, rh, rc, tw, th, tb, nk, nl, nr, nw, us, ca, cb, cc, nn, bo, lh, lc, rs) p := by
  unfold wpX_hasTable
  try dsimp only
  exact br_c (fun _ => H) (fun h => br_t (hv.resolve_left h) H)
theorem y_noT_y {post : Int32 → Prop} {t x : Nat} (ht : t ≤ 4) (hx : x < t) (H : post 0) : wpY_noTable post (nI t, nc, rh, rc, tb', th, tw, nk, nl, nr, p1, p2, p3, nw, us', bo', ct, vl, rs') (nI x) := by
  unfold wpY_noTable
  try dsimp only
  exact br_f (nI_pos (by omega)) (br_t (nI_lt hx (by omega)) H)
theorem y_noT_n {post : Int32 → Prop} {t : Nat} {p : Int32} (hv : p < 0 ∨ nI t ≤ p) (H : post 1) : wpY_noTable post (nI t, nc, rh, rc, tb', th, tw, nk, nl, nr, p1, p2, p3, nw, us', bo', ct, vl, rs') p := by
  unfold wpY_noTable
  try dsimp only
  exact br_c (fun _ => H) (fun h => br_f (Int32.not_lt.mpr (hv.resolve_left h)) H)
theorem x_hasN_y {post : Int32 → Prop} {n x : Nat} (hn : n ≤ 12) (hx : x < n) (H : post 1) : wpX_hasNode post (tc, nI n, rh, rc, tw, th, tb, nk, nl, nr, nw, us, ca, cb, cc, nn, bo, lh, lc, rs) (nI x) := by
  unfold wpX_hasNode
  try dsimp only
  exact br_f (nI_pos (by omega)) (br_f (nI_ge hx (by omega)) H)
theorem x_hasN_n {post : Int32 → Prop} {n : Nat} {p : Int32} (hv : p < 0 ∨ nI n ≤ p) (H : post 0) : wpX_hasNode post (tc, nI n, rh, rc, tw, th, tb, nk, nl, nr, nw, us, ca, cb, cc, nn, bo, lh, lc, rs) p := by
  unfold wpX_hasNode
  try dsimp only
  exact br_c (fun _ => H) (fun h => br_t (hv.resolve_left h) H)
theorem y_noN_y {post : Int32 → Prop} {n x : Nat} (hn : n ≤ 12) (hx : x < n) (H : post 0) : wpY_noNode post (tc, nI n, rh, rc, tb', th, tw, nk, nl, nr, p1, p2, p3, nw, us', bo', ct, vl, rs') (nI x) := by
  unfold wpY_noNode
  try dsimp only
  exact br_f (nI_pos (by omega)) (br_t (nI_lt hx (by omega)) H)
theorem y_noN_n {post : Int32 → Prop} {n : Nat} {p : Int32} (hv : p < 0 ∨ nI n ≤ p) (H : post 1) : wpY_noNode post (tc, nI n, rh, rc, tb', th, tw, nk, nl, nr, p1, p2, p3, nw, us', bo', ct, vl, rs') p := by
  unfold wpY_noNode
  try dsimp only
  exact br_c (fun _ => H) (fun h => br_f (Int32.not_lt.mpr (hv.resolve_left h)) H)
theorem x_hasC_y {post : Int32 → Prop} {x w q : Nat} {p1 : Int32} (hx : x < 12) (ew : nw x = nI w) (hw : w ≤ 6) (e1 : p1 = nI q) (hq : q < w) (H : post 1) : wpX_hasColumn post (tc, nc, rh, rc, tw, th, tb, nk, nl, nr, nw, us, ca, cb, cc, nn, bo, lh, lc, rs) (nI x) p1 := by
  subst e1
  unfold wpX_hasColumn
  try dsimp only
  rw [qp_rd hx ew]
  exact br_f (nI_pos (by omega)) ⟨vp_in_nI hx (by omega), br_f (nI_ge hq (by omega)) H⟩
theorem x_hasC_n {post : Int32 → Prop} {x w : Nat} {p : Int32} (hx : x < 12) (ew : nw x = nI w) (hv : p < 0 ∨ nI w ≤ p) (H : post 0) : wpX_hasColumn post (tc, nc, rh, rc, tw, th, tb, nk, nl, nr, nw, us, ca, cb, cc, nn, bo, lh, lc, rs) (nI x) p := by
  unfold wpX_hasColumn
  try dsimp only
  rw [qp_rd hx ew]
  exact br_c (fun _ => H) (fun h => ⟨vp_in_nI hx (by omega), br_t (hv.resolve_left h) H⟩)
theorem y_noC_y {post : Int32 → Prop} {x w q : Nat} {e : Int32} (hx : x < 12) (ew : nw x = nI w) (hw : w ≤ 6) (e1 : e = nI q) (hq : q < w) (H : post 0) : wpY_noColumn post (tc, nc, rh, rc, tb', th, tw, nk, nl, nr, p1, p2, p3, nw, us', bo', ct, vl, rs') (nI x) e := by
  subst e1
  unfold wpY_noColumn
  try dsimp only
  rw [qp_rd (f := nw) hx ew]
  exact br_f (nI_pos (by omega)) ⟨vp_in_nI hx (by omega), br_t (nI_lt hq (by omega)) H⟩
theorem y_noC_n {post : Int32 → Prop} {x w : Nat} {p : Int32} (hx : x < 12) (ew : nw x = nI w) (hv : p < 0 ∨ nI w ≤ p) (H : post 1) : wpY_noColumn post (tc, nc, rh, rc, tb', th, tw, nk, nl, nr, p1, p2, p3, nw, us', bo', ct, vl, rs') (nI x) p := by
  unfold wpY_noColumn
  try dsimp only
  rw [qp_rd (f := nw) hx ew]
  exact br_c (fun _ => H) (fun h => ⟨vp_in_nI hx (by omega), br_f (Int32.not_lt.mpr (hv.resolve_left h)) H⟩)
theorem x_full_y {post : Int32 → Prop} {n : Nat} (hn : n = 12) (H : post 1) : wpX_planIsFull post (tc, nI n, rh, rc, tw, th, tb, nk, nl, nr, nw, us, ca, cb, cc, nn, bo, lh, lc, rs) := by
  subst hn
  unfold wpX_planIsFull
  try dsimp only
  exact br_f (nI_nlt (a := 12) (b := 12) (by omega) (by omega)) H
theorem x_full_n {post : Int32 → Prop} {n : Nat} (hn : n < 12) (H : post 0) : wpX_planIsFull post (tc, nI n, rh, rc, tw, th, tb, nk, nl, nr, nw, us, ca, cb, cc, nn, bo, lh, lc, rs) := by
  unfold wpX_planIsFull
  try dsimp only
  exact br_t (nI_lt (b := 12) hn (by omega)) H
/-- a call that names one child: refused alike, or the child is a node that may be taken -/
theorem xy_child {n : Nat} (hn : n ≤ 12) (hus : ∀ i, i < n → us i = us' i) (p : Int32) :
    (∃ r : Int32, r ≠ 0 ∧ (∀ post : Int32 → Prop, post r → wpX_refusalOfChild post (tc, nI n, rh, rc, tw, th, tb, nk, nl, nr, nw, us, ca, cb, cc, nn, bo, lh, lc, rs) p) ∧ (∀ post : Int32 → Prop, post r → wpY_oneChild post (tc, nI n, rh, rc, tb', th, tw, nk, nl, nr, p1, p2, p3, nw, us', bo', ct, vl, rs') p)) ∨
    (∃ x : Nat, x < n ∧ n < 12 ∧ p = nI x ∧ (∀ post : Int32 → Prop, post 0 → wpX_refusalOfChild post (tc, nI n, rh, rc, tw, th, tb, nk, nl, nr, nw, us, ca, cb, cc, nn, bo, lh, lc, rs) p) ∧ (∀ post : Int32 → Prop, post 0 → wpY_oneChild post (tc, nI n, rh, rc, tb', th, tw, nk, nl, nr, p1, p2, p3, nw, us', bo', ct, vl, rs') p)) := by
  by_cases h12 : n < 12
  · have lt : nI n < 12 := nI_lt (b := 12) h12 (by omega)
    rcases qp_ix2 p (n := n) (by omega) with hv | ⟨x, hx, rfl⟩
    · refine Or.inl ⟨-4, by decide, fun post H => ?_, fun post H => ?_⟩
      · unfold wpX_refusalOfChild
        try dsimp only
        exact x_full_n h12 (br_t rfl (x_hasN_n hv (br_t rfl H)))
      · unfold wpY_oneChild
        try dsimp only
        exact br_t lt (y_noN_n hv (br_f (by decide) H))
    · have ec : (nI x).toNatClampNeg = x := nI_clamp (by omega)
      have v : vp_in (nI x) 12 := vp_in_nI (by omega) (by omega)
      by_cases hu : us x = 0
      · refine Or.inr ⟨x, hx, h12, rfl, fun post H => ?_, fun post H => ?_⟩
        · unfold wpX_refusalOfChild
          try dsimp only
          rw [ec]
          exact x_full_n h12 (br_t rfl (x_hasN_y hn hx (br_f (by decide) ⟨v, br_t hu H⟩)))
        · unfold wpY_oneChild
          try dsimp only
          rw [ec]
          exact br_t lt (y_noN_y hn hx (br_t rfl ⟨v, br_t ((hus x hx).symm.trans hu) H⟩))
      · refine Or.inl ⟨-5, by decide, fun post H => ?_, fun post H => ?_⟩
        · unfold wpX_refusalOfChild
          try dsimp only
          rw [ec]
          exact x_full_n h12 (br_t rfl (x_hasN_y hn hx (br_f (by decide) ⟨v, br_f hu H⟩)))
        · unfold wpY_oneChild
          try dsimp only
          rw [ec]
          exact br_t lt (y_noN_y hn hx (br_t rfl ⟨v, br_f (fun z => hu ((hus x hx).trans z)) H⟩))
  · have e12 : n = 12 := by omega
    refine Or.inl ⟨-8, by decide, fun post H => ?_, fun post H => ?_⟩
    · unfold wpX_refusalOfChild
      try dsimp only
      exact x_full_y e12 (br_f (by decide) H)
    · unfold wpY_oneChild
      try dsimp only
      subst e12
      exact br_f (nI_nlt (a := 12) (b := 12) (by omega) (by omega)) H
theorem xy_pair {n : Nat} (hn : n ≤ 12) (hus : ∀ i, i < n → us i = us' i) (p q : Int32) :
    (∃ r : Int32, r ≠ 0 ∧ (∀ post : Int32 → Prop, post r → wpX_refusalOfPair post (tc, nI n, rh, rc, tw, th, tb, nk, nl, nr, nw, us, ca, cb, cc, nn, bo, lh, lc, rs) p q) ∧ (∀ post : Int32 → Prop, post r → wpY_twoChildren post (tc, nI n, rh, rc, tb', th, tw, nk, nl, nr, p1, p2, p3, nw, us', bo', ct, vl, rs') p q)) ∨
    (∃ x y : Nat, x < n ∧ y < n ∧ n < 12 ∧ p = nI x ∧ q = nI y ∧ (∀ post : Int32 → Prop, post 0 → wpX_refusalOfPair post (tc, nI n, rh, rc, tw, th, tb, nk, nl, nr, nw, us, ca, cb, cc, nn, bo, lh, lc, rs) p q) ∧ (∀ post : Int32 → Prop, post 0 → wpY_twoChildren post (tc, nI n, rh, rc, tb', th, tw, nk, nl, nr, p1, p2, p3, nw, us', bo', ct, vl, rs') p q)) := by
  by_cases h12 : n < 12
  · have lt : nI n < 12 := nI_lt (b := 12) h12 (by omega)
    rcases qp_ix2 p (n := n) (by omega) with hv | ⟨x, hx, rfl⟩
    · refine Or.inl ⟨-4, by decide, fun post H => ?_, fun post H => ?_⟩
      · unfold wpX_refusalOfPair
        try dsimp only
        exact x_full_n h12 (br_t rfl (x_hasN_n hv (br_t rfl H)))
      · unfold wpY_twoChildren
        try dsimp only
        exact br_t lt (y_noN_n hv (br_f (by decide) H))
    · rcases qp_ix2 q (n := n) (by omega) with hv | ⟨y, hy, rfl⟩
      · refine Or.inl ⟨-4, by decide, fun post H => ?_, fun post H => ?_⟩
        · unfold wpX_refusalOfPair
          try dsimp only
          exact x_full_n h12 (br_t rfl (x_hasN_y hn hx (br_f (by decide) (x_hasN_n hv (br_t rfl H)))))
        · unfold wpY_twoChildren
          try dsimp only
          exact br_t lt (y_noN_y hn hx (br_t rfl (y_noN_n hv (br_f (by decide) H))))
      · have ec : (nI x).toNatClampNeg = x := nI_clamp (by omega)
        have ed : (nI y).toNatClampNeg = y := nI_clamp (by omega)
        have v : vp_in (nI x) 12 := vp_in_nI (by omega) (by omega)
        have w : vp_in (nI y) 12 := vp_in_nI (by omega) (by omega)
        have go : ∀ (r : Int32), ((us x = 0 ∧ us y = 0 ∧ ¬ nI x = nI y → r = 0) ∧ (¬ (us x = 0 ∧ us y = 0 ∧ ¬ nI x = nI y) → r = -5)) → (∀ post : Int32 → Prop, post r → wpX_refusalOfPair post (tc, nI n, rh, rc, tw, th, tb, nk, nl, nr, nw, us, ca, cb, cc, nn, bo, lh, lc, rs) (nI x) (nI y)) ∧ (∀ post : Int32 → Prop, post r → wpY_twoChildren post (tc, nI n, rh, rc, tb', th, tw, nk, nl, nr, p1, p2, p3, nw, us', bo', ct, vl, rs') (nI x) (nI y)) := by
          intro r ⟨r0, r5⟩
          refine ⟨fun post H => ?_, fun post H => ?_⟩
          · unfold wpX_refusalOfPair
            try dsimp only
            rw [ec, ed]
            refine x_full_n h12 (br_t rfl (x_hasN_y hn hx (br_f (by decide) (x_hasN_y hn hy (br_f (by decide) ⟨v, br_c (fun a => ⟨w, br_c (fun b => br_c (fun c => ?_) (fun c => ?_)) (fun b => ?_)⟩) (fun a => ?_)⟩)))))
            · rw [r5 (fun z => z.2.2 c)] at H; exact H
            · rw [r0 ⟨a, b, c⟩] at H; exact H
            · rw [r5 (fun z => b z.2.1)] at H; exact H
            · rw [r5 (fun z => a z.1)] at H; exact H
          · unfold wpY_twoChildren
            try dsimp only
            rw [ec, ed, ← hus x hx, ← hus y hy]
            refine br_t lt (y_noN_y hn hx (br_t rfl (y_noN_y hn hy (br_t rfl ⟨v, br_c (fun a => ⟨w, br_c (fun b => br_c (fun c => ?_) (fun c => ?_)) (fun b => ?_)⟩) (fun a => ?_)⟩))))
            · rw [r5 (fun z => z.2.2 c)] at H; exact H
            · rw [r0 ⟨a, b, c⟩] at H; exact H
            · rw [r5 (fun z => b z.2.1)] at H; exact H
            · rw [r5 (fun z => a z.1)] at H; exact H
        by_cases hz : us x = 0 ∧ us y = 0 ∧ ¬ nI x = nI y
        · have := go 0 ⟨fun _ => rfl, fun z => absurd hz z⟩
          exact Or.inr ⟨x, y, hx, hy, h12, rfl, rfl, this.1, this.2⟩
        · have := go (-5) ⟨fun z => absurd z hz, fun _ => rfl⟩
          exact Or.inl ⟨-5, by decide, this.1, this.2⟩
  · have e12 : n = 12 := by omega
    refine Or.inl ⟨-8, by decide, fun post H => ?_, fun post H => ?_⟩
    · unfold wpX_refusalOfPair
      try dsimp only
      exact x_full_y e12 (br_f (by decide) H)
    · unfold wpY_twoChildren
      try dsimp only
      subst e12
      exact br_f (nI_nlt (a := 12) (b := 12) (by omega) (by omega)) H
/-! a new node -/
theorem x_add0 {post : Int32 → SX → Prop} {n : Nat} {k p w : Int32} (h12 : n < 12) (e3 : p = w) (H : post (nI n) (tc, nI (n + 1), rh, rc, tw, th, tb, upd nk n k, upd nl n (-1), upd nr n (-1), upd nw n w, upd us n (vp_nar .boolean 0), ca, cb, cc, nn, bo, lh, lc, rs)) : wpX_addNode post (tc, nI n, rh, rc, tw, th, tb, nk, nl, nr, nw, us, ca, cb, cc, nn, bo, lh, lc, rs) k (-1) (-1) p := by
  subst e3
  have v : vp_in (nI n) 12 := vp_in_nI h12 (by omega)
  unfold wpX_addNode wX_addNode_59
  try dsimp only
  rw [nI_clamp (by omega)]
  exact ⟨v, nm_e ⟨v, nm_e ⟨v, nm_e ⟨v, nm_e ⟨v, nm_e (br_t rfl (br_t rfl (nm_r (nI_1 n) H)))⟩⟩⟩⟩⟩
theorem x_add1 {post : Int32 → SX → Prop} {n x : Nat} {k p w : Int32} (h12 : n < 12) (hx : x < 12) (e3 : p = w) (H : post (nI n) (tc, nI (n + 1), rh, rc, tw, th, tb, upd nk n k, upd nl n (nI x), upd nr n (-1), upd nw n w, upd (upd us n (vp_nar .boolean 0)) x (vp_nar .boolean 1), ca, cb, cc, nn, bo, lh, lc, rs)) : wpX_addNode post (tc, nI n, rh, rc, tw, th, tb, nk, nl, nr, nw, us, ca, cb, cc, nn, bo, lh, lc, rs) k (nI x) (-1) p := by
  subst e3
  have v : vp_in (nI n) 12 := vp_in_nI h12 (by omega)
  unfold wpX_addNode wX_addNode_59
  try dsimp only
  rw [nI_clamp (show n < 2 ^ 31 by omega), nI_clamp (show x < 2 ^ 31 by omega)]
  exact ⟨v, nm_e ⟨v, nm_e ⟨v, nm_e ⟨v, nm_e ⟨v, nm_e (br_f (qp_m1 (by omega)) ⟨vp_in_nI hx (by omega), nm_e (br_t rfl (nm_r (nI_1 n) H))⟩)⟩⟩⟩⟩⟩
theorem x_add2 {post : Int32 → SX → Prop} {n x y : Nat} {k p w : Int32} (h12 : n < 12) (hx : x < 12) (hy : y < 12) (e3 : p = w) (H : post (nI n) (tc, nI (n + 1), rh, rc, tw, th, tb, upd nk n k, upd nl n (nI x), upd nr n (nI y), upd nw n w, upd (upd (upd us n (vp_nar .boolean 0)) x (vp_nar .boolean 1)) y (vp_nar .boolean 1), ca, cb, cc, nn, bo, lh, lc, rs)) : wpX_addNode post (tc, nI n, rh, rc, tw, th, tb, nk, nl, nr, nw, us, ca, cb, cc, nn, bo, lh, lc, rs) k (nI x) (nI y) p := by
  subst e3
  have v : vp_in (nI n) 12 := vp_in_nI h12 (by omega)
  unfold wpX_addNode wX_addNode_59
  try dsimp only
  rw [nI_clamp (show n < 2 ^ 31 by omega), nI_clamp (show x < 2 ^ 31 by omega), nI_clamp (show y < 2 ^ 31 by omega)]
  exact ⟨v, nm_e ⟨v, nm_e ⟨v, nm_e ⟨v, nm_e ⟨v, nm_e (br_f (qp_m1 (by omega)) ⟨vp_in_nI hx (by omega), nm_e (br_f (qp_m1 (by omega)) ⟨vp_in_nI hy (by omega), nm_e (nm_r (nI_1 n) H)⟩)⟩)⟩⟩⟩⟩⟩
theorem y_add0 {post : Int32 → SY → Prop} {n : Nat} {k p w : Int32} (h12 : n < 12) (e3 : p = w) (H : post (nI n) (tc, nI (n + 1), rh, rc, tb', th, tw, upd nk n k, upd nl n (-1), upd nr n (-1), p1, p2, p3, upd nw n w, upd us' n (vp_nar .boolean 0), bo', ct, vl, rs')) : wpY_node post (tc, nI n, rh, rc, tb', th, tw, nk, nl, nr, p1, p2, p3, nw, us', bo', ct, vl, rs') k (-1) (-1) p := by
  subst e3
  have v : vp_in (nI n) 12 := vp_in_nI h12 (by omega)
  unfold wpY_node wY_node_58
  try dsimp only
  rw [nI_clamp (by omega)]
  exact ⟨v, nm_e ⟨v, nm_e ⟨v, nm_e ⟨v, nm_e ⟨v, nm_e (br_t (by decide) (br_t (by decide) (nm_r (nI_1 n) H)))⟩⟩⟩⟩⟩
theorem y_add1 {post : Int32 → SY → Prop} {n x : Nat} {k p w : Int32} (h12 : n < 12) (hx : x < 12) (e3 : p = w) (H : post (nI n) (tc, nI (n + 1), rh, rc, tb', th, tw, upd nk n k, upd nl n (nI x), upd nr n (-1), p1, p2, p3, upd nw n w, upd (upd us' n (vp_nar .boolean 0)) x (vp_nar .boolean 1), bo', ct, vl, rs')) : wpY_node post (tc, nI n, rh, rc, tb', th, tw, nk, nl, nr, p1, p2, p3, nw, us', bo', ct, vl, rs') k (nI x) (-1) p := by
  subst e3
  have v : vp_in (nI n) 12 := vp_in_nI h12 (by omega)
  unfold wpY_node wY_node_58
  try dsimp only
  rw [nI_clamp (show n < 2 ^ 31 by omega), nI_clamp (show x < 2 ^ 31 by omega)]
  exact ⟨v, nm_e ⟨v, nm_e ⟨v, nm_e ⟨v, nm_e ⟨v, nm_e (br_f (nI_pos (by omega)) ⟨vp_in_nI hx (by omega), nm_e (br_t (by decide) (nm_r (nI_1 n) H))⟩)⟩⟩⟩⟩⟩
theorem y_add2 {post : Int32 → SY → Prop} {n x y : Nat} {k p w : Int32} (h12 : n < 12) (hx : x < 12) (hy : y < 12) (e3 : p = w) (H : post (nI n) (tc, nI (n + 1), rh, rc, tb', th, tw, upd nk n k, upd nl n (nI x), upd nr n (nI y), p1, p2, p3, upd nw n w, upd (upd (upd us' n (vp_nar .boolean 0)) x (vp_nar .boolean 1)) y (vp_nar .boolean 1), bo', ct, vl, rs')) : wpY_node post (tc, nI n, rh, rc, tb', th, tw, nk, nl, nr, p1, p2, p3, nw, us', bo', ct, vl, rs') k (nI x) (nI y) p := by
  subst e3
  have v : vp_in (nI n) 12 := vp_in_nI h12 (by omega)
  unfold wpY_node wY_node_58
  try dsimp only
  rw [nI_clamp (show n < 2 ^ 31 by omega), nI_clamp (show x < 2 ^ 31 by omega), nI_clamp (show y < 2 ^ 31 by omega)]
  exact ⟨v, nm_e ⟨v, nm_e ⟨v, nm_e ⟨v, nm_e ⟨v, nm_e (br_f (nI_pos (by omega)) ⟨vp_in_nI hx (by omega), nm_e (br_f (nI_pos (by omega)) ⟨vp_in_nI hy (by omega), nm_e (nm_r (nI_1 n) H)⟩)⟩)⟩⟩⟩⟩⟩
theorem y_numbers {post : SY → Prop} {n : Nat} {a b c : Int32} (h12 : n < 12) (H : post (tc, nc, rh, rc, tb', th, tw, nk, nl, nr, upd p1 n a, upd p2 n b, upd p3 n c, nw, us', bo', ct, vl, rs')) : wpY_numbers post (tc, nc, rh, rc, tb', th, tw, nk, nl, nr, p1, p2, p3, nw, us', bo', ct, vl, rs') (nI n) a b c := by
  have v : vp_in (nI n) 12 := vp_in_nI h12 (by omega)
  unfold wpY_numbers
  try dsimp only
  rw [nI_clamp (by omega)]
  exact ⟨v, nm_e ⟨v, nm_e ⟨v, nm_e H⟩⟩⟩
end qp_RL
