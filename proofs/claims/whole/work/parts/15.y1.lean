/-! the reference's small methods -/
section qp_Y1
variable {tn nc rh rc : Int32} {tb th tw nk nl nr p1 p2 p3 nw us bo ct vl rs : Nat → Int32}
theorem y_get {post : Int32 → Prop} {q0 q1 q2 v : Int32} {n r c : Nat} (e0 : q0 = nI n) (e1 : q1 = nI r) (e2 : q2 = nI c) (hv : vl (n * 144 + r * 6 + c) = v) (h : n * 144 + r * 6 + c < 1728) (H : post v) : wpY_get post (tn, nc, rh, rc, tb, th, tw, nk, nl, nr, p1, p2, p3, nw, us, bo, ct, vl, rs) q0 q1 q2 := by
  subst e0 e1 e2 hv
  unfold wpY_get
  try dsimp only
  rw [qp_iy, nI_clamp (by omega)]
  exact ⟨vp_in_nI h (by omega), H⟩
theorem y_copyC {post : SY → Prop} {q0 q1 q2 : Int32} {n s r m w : Nat} (e0 : q0 = nI n) (e1 : q1 = nI s) (e2 : q2 = nI r) (hn : n < 12) (hs : s < 12) (hw : nw s = nI w) (h6 : w ≤ 6) (ec : ct n = nI m) (hm : m < 24) (hr : r < 24) (hd : s ≠ n) (H : ∀ vl', qp_Cp (n * 144 + m * 6) (s * 144 + r * 6) w vl vl' → post (tn, nc, rh, rc, tb, th, tw, nk, nl, nr, p1, p2, p3, nw, us, bo, upd ct n (nI (m + 1)), vl', rs)) : wpY_copy post (tn, nc, rh, rc, tb, th, tw, nk, nl, nr, p1, p2, p3, nw, us, bo, ct, vl, rs) q0 q1 q2 := by
  subst e0 e1 e2
  unfold wpY_copy
  try dsimp only
  refine ⟨vp_in_nI hn (by omega), nm_r (qp_rd hn ec) (br_f (nI_ge (b := 24) hm (by decide)) ⟨w + 1, ?_⟩)⟩
  refine qp_loop1 (fun k i a => wY_copy_18 post (nI n) (nI s) (nI r) (nI m) tn nc rh rc k (nI i) tb th tw nk nl nr p1 p2 p3 nw us bo ct a rs) (fun i a => qp_Cp (n * 144 + m * 6) (s * 144 + r * 6) i vl a) w ?_ ?_ (w + 1) 0 vl (by omega) (by omega) (qp_Cp_0 _ _ _)
  · intro k a I
    refine ⟨vp_in_nI hs (by omega), ?_⟩
    rw [qp_rd hs hw, nI_clamp (show n < 2 ^ 31 by omega), nI_1]
    exact br_t (nI_le (Nat.le_refl _) (by omega)) ⟨vp_in_nI hn (by omega), nm_e (H a I)⟩
  · intro k i a hi I ih
    refine ⟨vp_in_nI hs (by omega), ?_⟩
    rw [qp_rd hs hw]
    refine br_f (nI_ge hi (by omega)) ?_
    rw [qp_iy, qp_iy, nI_clamp (by omega), nI_clamp (by omega)]
    exact ⟨vp_in_nI (by omega) (by omega), vp_in_nI (by omega) (by omega), nm_e (nm_r (nI_1 i) (ih _ (qp_Cp_s I hi (by omega) rfl)))⟩
theorem y_copy {post : SY → Prop} {q0 q1 q2 : Int32} {n w s r : Nat} {R S : List qp_Row} {h0 a0 : Nat → Int32} (e0 : q0 = nI n) (e1 : q1 = nI s) (e2 : q2 = nI r) (hn : n < 12) (hs : s < 12) (hsn : s ≠ n) (hw : nw s = nI w) (h6 : w ≤ 6) (O : qp_Out n w R h0 a0 ct vl) (hR : R.length < 24) (hS : qp_Rep vl s w S) (hr : r < S.length) (h24 : S.length ≤ 24) (H : ∀ ct' vl', qp_Out n w (R ++ [qp_g S r]) h0 a0 ct' vl' → post (tn, nc, rh, rc, tb, th, tw, nk, nl, nr, p1, p2, p3, nw, us, bo, ct', vl', rs)) : wpY_copy post (tn, nc, rh, rc, tb, th, tw, nk, nl, nr, p1, p2, p3, nw, us, bo, ct, vl, rs) q0 q1 q2 :=
  y_copyC e0 e1 e2 hn hs hw h6 (qp_Out_h O) hR (by omega) hsn (fun _ hc => H _ _ (qp_Out_cp O hR h6 hS hr hc))
theorem y_holds {post : Int32 → Prop} {q0 q1 q2 a c b : Int32} (e0 : q0 = a) (e1 : q1 = c) (e2 : q2 = b) (ht : qp_ful a c b → post 1) (hf : ¬ qp_ful a c b → post 0) : wpY_holds post (tn, nc, rh, rc, tb, th, tw, nk, nl, nr, p1, p2, p3, nw, us, bo, ct, vl, rs) q0 q1 q2 := by
  subst e0 e1 e2
  unfold wpY_holds
  try dsimp only
  by_cases h0 : q1 = 0
  · subst h0
    exact br_t rfl (br_c (fun h => ht h) (fun h => hf h))
  · by_cases h1 : q1 = 1
    · subst h1
      exact br_f (by decide) (br_t rfl (br_c (fun h => hf (fun z => z h)) (fun h => ht h)))
    · by_cases h2 : q1 = 2
      · subst h2
        exact br_f (by decide) (br_f (by decide) (br_t rfl (br_c (fun h => hf (fun z => Int32.not_lt.mpr h z)) (fun h => ht (Int32.not_le.mp h)))))
      · by_cases h3 : q1 = 3
        · subst h3
          exact br_f (by decide) (br_f (by decide) (br_f (by decide) (br_t rfl (br_c (fun h => hf (fun z => Int32.not_lt.mpr z h)) (fun h => ht (Int32.not_lt.mp h))))))
        · by_cases h4 : q1 = 4
          · subst h4
            exact br_f (by decide) (br_f (by decide) (br_f (by decide) (br_f (by decide) (br_t rfl (br_c (fun h => hf (fun z => Int32.not_lt.mpr h z)) (fun h => ht (Int32.not_le.mp h)))))))
          · have e : qp_ful q0 q1 q2 = (q2 ≤ q0) := by unfold qp_ful; rw [if_neg h0, if_neg h1, if_neg h2, if_neg h3, if_neg h4]
            rw [e] at ht hf
            have L : (q0 < q2 → post 0) ∧ (¬ q0 < q2 → post 1) := br_c (fun h => hf (Int32.not_le.mpr h)) (fun h => ht (Int32.not_lt.mp h))
            exact br_f h0 (br_f h1 (br_f h2 (br_f h3 (br_f h4 L))))
theorem y_computed {post : Int32 → Prop} {q0 q1 q2 o a b : Int32} (e0 : q0 = o) (e1 : q1 = a) (e2 : q2 = b) (H : post (qp_com o a b)) : wpY_computed post (tn, nc, rh, rc, tb, th, tw, nk, nl, nr, p1, p2, p3, nw, us, bo, ct, vl, rs) q0 q1 q2 := by
  subst e0 e1 e2
  unfold wpY_computed
  try dsimp only
  unfold qp_com at H
  refine br_c (fun h0 => ?_) (fun h0 => br_c (fun h1 => ?_) (fun h1 => br_c (fun h2 => ?_) (fun h2 => br_c (fun h3 => br_c (fun h => ?_) (fun h => ?_)) (fun h3 => br_c (fun h => ?_) (fun h => ?_)))))
  · rw [if_pos h0] at H; exact H
  · rw [if_neg h0, if_pos h1] at H; exact H
  · rw [if_neg h0, if_neg h1, if_pos h2] at H; exact H
  · rw [if_neg h0, if_neg h1, if_neg h2, if_pos h3, if_neg (Int32.not_lt.mpr h)] at H; exact H
  · rw [if_neg h0, if_neg h1, if_neg h2, if_pos h3, if_pos (Int32.not_le.mp h)] at H; exact H
  · rw [if_neg h0, if_neg h1, if_neg h2, if_neg h3, if_neg (Int32.not_lt.mpr h)] at H; exact H
  · rw [if_neg h0, if_neg h1, if_neg h2, if_neg h3, if_pos (Int32.not_le.mp h)] at H; exact H
theorem y_table {post : SY → Prop} {n t w h0 : Nat} {f : Nat → qp_Row} (hn : n < 12) (ht : t < 4) (eD : p1 n = nI t) (eT : th t = nI h0) (h10 : h0 ≤ 10) (eW : nw n = nI w) (hw : w ≤ 3) (hf : ∀ r c, r < h0 → c < w → tb (t * 30 + r * 3 + c) = f r c) (H : ∀ vl', qp_Out n w (qp_tab h0 f) ct vl (upd ct n (nI h0)) vl' → post (tn, nc, rh, rc, tb, th, tw, nk, nl, nr, p1, p2, p3, nw, us, bo, upd ct n (nI h0), vl', rs)) : wpY_tableList post (tn, nc, rh, rc, tb, th, tw, nk, nl, nr, p1, p2, p3, nw, us, bo, ct, vl, rs) (nI n) := by
  unfold wpY_tableList
  try dsimp only
  refine ⟨vp_in_nI hn (by omega), nm_r (qp_rd hn eD) ⟨h0 + 1, ?_⟩⟩
  refine qp_loop1 (fun k i a => wY_tableList_9 post (nI n) (nI t) tn nc rh rc k (nI i) tb th tw nk nl nr p1 p2 p3 nw us bo ct a rs) (fun i a => qp_Pt n w f i 0 vl a) h0 ?_ ?_ (h0 + 1) 0 vl (by omega) (by omega) (qp_Pt_0 _ _ _ _)
  · intro k a P
    refine ⟨vp_in_nI ht (by omega), ?_⟩
    rw [qp_rd (by omega) eT, nI_clamp (show n < 2 ^ 31 by omega)]
    exact br_t (nI_le (Nat.le_refl _) (by omega)) ⟨vp_in_nI ht (by omega), vp_in_nI hn (by omega), nm_e (H a ⟨P.1, fun j hj => pk_un hj, by rw [pk_us, qp_tab_len], qp_Pt_e P⟩)⟩
  · intro k i a hi P ih
    refine ⟨vp_in_nI ht (by omega), ?_⟩
    rw [qp_rd (by omega) eT]
    refine br_f (nI_ge hi (by omega)) ⟨w + 1, ?_⟩
    refine qp_loop1 (fun m j a => wY_tableList_22 post (wY_tableList_9 post (nI n) (nI t) tn nc rh rc k) (nI n) (nI t) (nI i) tn nc rh rc m (nI j) tb th tw nk nl nr p1 p2 p3 nw us bo ct a rs) (fun j a => qp_Pt n w f i j vl a) w ?_ ?_ (w + 1) 0 a (by omega) (by omega) P
    · intro m a P
      refine ⟨vp_in_nI hn (by omega), ?_⟩
      rw [qp_rd hn eW]
      exact br_t (nI_le (Nat.le_refl _) (by omega)) (nm_r (nI_1 i) (ih a (qp_Pt_n P)))
    · intro m j a hj P ihj
      refine ⟨vp_in_nI hn (by omega), ?_⟩
      rw [qp_rd hn eW]
      refine br_f (nI_ge hj (by omega)) ?_
      rw [qp_iu, qp_iy, nI_clamp (by omega), nI_clamp (by omega)]
      exact ⟨vp_in_nI (by omega) (by omega), vp_in_nI (by omega) (by omega), nm_e (nm_r (nI_1 j) (ihj _ (qp_Pt_s P (by omega) hj (by omega) (hf i j hi hj))))⟩
theorem y_filter {post : SY → Prop} {n l a w : Nat} {b : qp_Row → Int32} {S : List qp_Row} (hn : n < 12) (hl : l < n) (eL : nl n = nI l) (eW : nw l = nI w) (hw : w ≤ 6) (eA : p1 n = nI a) (ha : a < w) (hb : (¬ nk n = 2 ∧ ∀ z, b z = p3 n) ∨ (nk n = 2 ∧ ∃ b' : Nat, b' < w ∧ p3 n = nI b' ∧ ∀ z, b z = z b')) (hS : qp_Rep vl l w S) (eH : ct l = nI S.length) (h24 : S.length ≤ 24) (e0 : ct n = 0) (H : ∀ ct' vl', qp_Out n w (qp_fl S (fun z => qp_ful (z a) (p2 n) (b z)) S.length) ct vl ct' vl' → post (tn, nc, rh, rc, tb, th, tw, nk, nl, nr, p1, p2, p3, nw, us, bo, ct', vl', rs)) : wpY_filterList post (tn, nc, rh, rc, tb, th, tw, nk, nl, nr, p1, p2, p3, nw, us, bo, ct, vl, rs) (nI n) := by
  unfold wpY_filterList
  try dsimp only
  refine ⟨vp_in_nI hn (by omega), nm_r (qp_rd hn eL) ⟨S.length + 1, ?_⟩⟩
  refine qp_loop (fun k i h a' => wY_filterList_9 post (nI n) (nI l) k (nI i) tn nc rh rc tb th tw nk nl nr p1 p2 p3 nw us bo h a' rs) (fun i h a' => qp_Out n w (qp_fl S (fun z => qp_ful (z a) (p2 n) (b z)) i) ct vl h a') S.length ?_ ?_ (S.length + 1) 0 ct vl (by omega) (by omega) (qp_Out_0 e0)
  · intro k h a' O
    have eH' : h l = nI S.length := (O.2.1 l (by omega)).trans eH
    refine ⟨vp_in_nI (by omega) (by omega), ?_⟩
    rw [qp_rd (by omega) eH']
    exact br_t (nI_le (Nat.le_refl _) (by omega)) (H h a' O)
  · intro k i h a' hi O ih
    have eH' : h l = nI S.length := (O.2.1 l (by omega)).trans eH
    have hS' := qp_Out_rd O hS h24 hw (by omega)
    have hlen := qp_fl_len S (fun z => qp_ful (z a) (p2 n) (b z)) i
    have core : ∀ v, v = b (qp_g S i) → wY_filterList_65 post (wY_filterList_9 post (nI n) (nI l) k) (nI n) (nI l) (nI i) (qp_g S i a) v tn nc rh rc tb th tw nk nl nr p1 p2 p3 nw us bo h a' rs := by
      intro v ev
      unfold wY_filterList_65
      refine ⟨vp_in_nI hn (by omega), ?_⟩
      refine y_holds rfl (qp_rd hn rfl) ev (fun hp => ?_) (fun hp => ?_)
      · refine br_f (by decide) ?_
        refine y_copy rfl rfl rfl hn (by omega) (by omega) eW hw O (by omega) hS' hi h24 ?_
        intro ct' vl' O'
        refine nm_r (nI_1 i) (ih ct' vl' ?_)
        show qp_Out n w (qp_if (qp_ful (qp_g S i a) (p2 n) (b (qp_g S i))) _ _) ct vl ct' vl'
        rw [qp_if_t hp]; exact O'
      · refine br_t rfl (nm_r (nI_1 i) (ih h a' ?_))
        show qp_Out n w (qp_if (qp_ful (qp_g S i a) (p2 n) (b (qp_g S i))) _ _) ct vl h a'
        rw [qp_if_f hp]; exact O
    refine ⟨vp_in_nI (by omega) (by omega), ?_⟩
    rw [qp_rd (f := h) (by omega) eH']
    refine br_f (nI_ge hi (by omega)) ⟨vp_in_nI hn (by omega), ?_⟩
    refine y_get rfl rfl (qp_rd hn eA) (hS' i a hi ha) (by omega) ?_
    refine ⟨vp_in_nI hn (by omega), nm_r (qp_rd hn rfl) ⟨vp_in_nI hn (by omega), ?_⟩⟩
    rw [qp_rd (f := nk) hn rfl]
    rcases hb with ⟨hk, hz⟩ | ⟨hk, b', hb', eb, hz⟩
    · exact br_f hk (core _ (hz _).symm)
    · refine br_t hk ⟨vp_in_nI hn (by omega), ?_⟩
      exact y_get rfl rfl (qp_rd hn eb) (hS' i b' hi hb') (by omega) (core _ (hz _).symm)
theorem y_map {post : SY → Prop} {n l a b w : Nat} {S : List qp_Row} (hn : n < 12) (hl : l < n) (eL : nl n = nI l) (eW : nw l = nI w) (hw : w + 1 ≤ 6) (eA : p2 n = nI a) (ha : a < w) (eB : p3 n = nI b) (hb : b < w) (hS : qp_Rep vl l w S) (eH : ct l = nI S.length) (h24 : S.length ≤ 24) (e0 : ct n = 0) (H : ∀ ct' vl', qp_Out n (w + 1) (qp_tab S.length (qp_mp S w (p1 n) a b)) ct vl ct' vl' → post (tn, nc, rh, rc, tb, th, tw, nk, nl, nr, p1, p2, p3, nw, us, bo, ct', vl', rs)) : wpY_mapList post (tn, nc, rh, rc, tb, th, tw, nk, nl, nr, p1, p2, p3, nw, us, bo, ct, vl, rs) (nI n) := by
  unfold wpY_mapList
  try dsimp only
  refine ⟨vp_in_nI hn (by omega), nm_r (qp_rd hn eL) ⟨S.length + 1, ?_⟩⟩
  refine qp_loop (fun k i h a' => wY_mapList_9 post (nI n) (nI l) k (nI i) tn nc rh rc tb th tw nk nl nr p1 p2 p3 nw us bo h a' rs) (fun i h a' => qp_Out n (w + 1) (qp_tab i (qp_mp S w (p1 n) a b)) ct vl h a') S.length ?_ ?_ (S.length + 1) 0 ct vl (by omega) (by omega) (qp_Out_0 e0)
  · intro k h a' O
    have eH' : h l = nI S.length := (O.2.1 l (by omega)).trans eH
    refine ⟨vp_in_nI (by omega) (by omega), ?_⟩
    rw [qp_rd (by omega) eH']
    exact br_t (nI_le (Nat.le_refl _) (by omega)) (H h a' O)
  · intro k i h a' hi O ih
    have eH' : h l = nI S.length := (O.2.1 l (by omega)).trans eH
    have hS' := qp_Out_rd O hS h24 (by omega) (by omega)
    have hlen := qp_tab_len i (qp_mp S w (p1 n) a b)
    have hhn : h n = nI i := by have := qp_Out_h O; rw [hlen] at this; exact this
    refine ⟨vp_in_nI (by omega) (by omega), ?_⟩
    rw [qp_rd (f := h) (by omega) eH']
    refine br_f (nI_ge hi (by omega)) ?_
    refine y_copyC rfl rfl rfl hn (by omega) eW (by omega) hhn (by omega) (by omega) (by omega) ?_
    intro vl' hc
    have rd : ∀ c, c < w → vl' (l * 144 + i * 6 + c) = qp_g S i c := fun c hcw => (hc.2 _ (by omega)).trans (hS' i c hi hcw)
    refine ⟨vp_in_nI hn (by omega), ?_⟩
    refine y_get rfl rfl (qp_rd hn eA) (rd a ha) (by omega) ?_
    refine ⟨vp_in_nI hn (by omega), ?_⟩
    refine y_get rfl rfl (qp_rd hn eB) (rd b hb) (by omega) ?_
    refine ⟨vp_in_nI (by omega) (by omega), vp_in_nI hn (by omega), ?_⟩
    refine y_computed (qp_rd hn rfl) rfl rfl ?_
    rw [qp_rd (f := nw) (by omega) eW, qp_iy, nI_clamp (by omega)]
    refine ⟨vp_in_nI (by omega) (by omega), nm_e (nm_r (nI_1 i) (ih _ _ ?_))⟩
    rw [qp_tab_s]
    have key := qp_Out_app (a2 := upd vl' (n * 144 + i * 6 + w) (qp_com (p1 n) (qp_g S i a) (qp_g S i b))) O (by omega) (by omega) (qp_mp S w (p1 n) a b i) (fun c hcw => ?_) (fun p hp => ?_)
    · rw [hlen] at key; exact key
    · rw [hlen]
      unfold qp_mp
      by_cases z : c < w
      · rw [if_pos z, pk_un (by omega), hc.1 c z]
        exact hS' i c hi z
      · have z2 : c = w := by omega
        subst z2
        rw [if_neg z, pk_us]
    · rw [hlen] at hp
      rw [pk_un (by omega), hc.2 p (by omega)]
theorem y_project {post : SY → Prop} {n l w wl : Nat} {d : Int32} {S : List qp_Row} (hn : n < 12) (hl : l < n) (eL : nl n = nI l) (hwl : wl ≤ 6) (eW : nw n = nI w) (hw : w ≤ 6) (eD : p1 n = d) (hch : ∀ e, e < w → ∃ q : Nat, q < wl ∧ qp_ch d e = nI q) (hS : qp_Rep vl l wl S) (eH : ct l = nI S.length) (h24 : S.length ≤ 24) (H : ∀ vl', qp_Out n w (qp_tab S.length (qp_pr S d)) ct vl (upd ct n (nI S.length)) vl' → post (tn, nc, rh, rc, tb, th, tw, nk, nl, nr, p1, p2, p3, nw, us, bo, upd ct n (nI S.length), vl', rs)) : wpY_projectList post (tn, nc, rh, rc, tb, th, tw, nk, nl, nr, p1, p2, p3, nw, us, bo, ct, vl, rs) (nI n) := by
  unfold wpY_projectList
  try dsimp only
  refine ⟨vp_in_nI hn (by omega), nm_r (qp_rd hn eL) ⟨S.length + 1, ?_⟩⟩
  refine qp_loop1 (fun k i a => wY_projectList_9 post (nI n) (nI l) tn nc rh rc k (nI i) tb th tw nk nl nr p1 p2 p3 nw us bo ct a rs) (fun i a => qp_Pt n w (qp_pr S d) i 0 vl a) S.length ?_ ?_ (S.length + 1) 0 vl (by omega) (by omega) (qp_Pt_0 _ _ _ _)
  · intro k a P
    refine ⟨vp_in_nI (by omega) (by omega), ?_⟩
    rw [qp_rd (f := ct) (by omega) eH, nI_clamp (show n < 2 ^ 31 by omega)]
    exact br_t (nI_le (Nat.le_refl _) (by omega)) ⟨vp_in_nI (by omega) (by omega), vp_in_nI hn (by omega), nm_e (H a ⟨P.1, fun j hj => pk_un hj, by rw [pk_us, qp_tab_len], qp_Pt_e P⟩)⟩
  · intro k i a hi P ih
    refine ⟨vp_in_nI (by omega) (by omega), ?_⟩
    rw [qp_rd (f := ct) (by omega) eH]
    refine br_f (nI_ge hi (by omega)) ⟨w + 1, ?_⟩
    refine qp_loop1 (fun m j a => wY_projectList_22 post (wY_projectList_9 post (nI n) (nI l) tn nc rh rc k) (nI n) (nI l) (nI i) tn nc rh rc m (nI j) tb th tw nk nl nr p1 p2 p3 nw us bo ct a rs) (fun j a => qp_Pt n w (qp_pr S d) i j vl a) w ?_ ?_ (w + 1) 0 a (by omega) (by omega) P
    · intro m a P
      refine ⟨vp_in_nI hn (by omega), ?_⟩
      rw [qp_rd hn eW]
      exact br_t (nI_le (Nat.le_refl _) (by omega)) (nm_r (nI_1 i) (ih a (qp_Pt_n P)))
    · intro m j a hj P ihj
      obtain ⟨q, hq, eq⟩ := hch j hj
      have hS' := qp_Rep_fr hS h24 hwl (by omega) P.1
      refine ⟨vp_in_nI hn (by omega), ?_⟩
      rw [qp_rd (f := nw) hn eW]
      refine br_f (nI_ge hj (by omega)) ?_
      have eq' : (p1 (nI n).toNatClampNeg >>> ((3 * nI j) &&& 31)) &&& 7 = nI q := by rw [qp_rd (f := p1) hn eD]; exact eq
      rw [eq', qp_iy, qp_iy, nI_clamp (by omega), nI_clamp (by omega), hS' i q hi hq]
      refine ⟨vp_in_nI hn (by omega), vp_in_nI (by omega) (by omega), vp_in_nI (by omega) (by omega), nm_e (nm_r (nI_1 j) (ihj _ (qp_Pt_s P (by omega) hj (by omega) ?_)))⟩
      unfold qp_pr
      rw [eq, nI_clamp (by omega)]
end qp_Y1
