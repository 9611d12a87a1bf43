/-! the reference: union, limit, distinct, sort -/
section qp_Y2
variable {tn nc rh rc : Int32} {tb th tw nk nl nr p1 p2 p3 nw us bo ct vl rs : Nat → Int32}
theorem y_union {post : SY → Prop} {n l r w : Nat} {S Q : List qp_Row} (hn : n < 12) (hl : l < n) (hr : r < n) (eL : nl n = nI l) (eR : nr n = nI r) (eWl : nw l = nI w) (eWr : nw r = nI w) (hw : w ≤ 6) (hS : qp_Rep vl l w S) (eS : ct l = nI S.length) (hS24 : S.length ≤ 24) (hQ : qp_Rep vl r w Q) (eQ : ct r = nI Q.length) (hQ24 : Q.length ≤ 24) (e0 : ct n = 0) (hSQ : S.length + Q.length ≤ 24) (H : ∀ ct' vl', qp_Out n w (qp_tab S.length (qp_g S) ++ qp_tab Q.length (qp_g Q)) ct vl ct' vl' → post (tn, nc, rh, rc, tb, th, tw, nk, nl, nr, p1, p2, p3, nw, us, bo, ct', vl', rs)) : wpY_unionList post (tn, nc, rh, rc, tb, th, tw, nk, nl, nr, p1, p2, p3, nw, us, bo, ct, vl, rs) (nI n) := by
  unfold wpY_unionList
  try dsimp only
  have eL' := qp_rd hn eL
  have eR' := qp_rd hn eR
  refine ⟨S.length + 1, ?_⟩
  refine qp_loop (fun k i h a' => wY_unionList_2 post (nI n) k (nI i) tn nc rh rc tb th tw nk nl nr p1 p2 p3 nw us bo h a' rs) (fun i h a' => qp_Out n w (qp_tab i (qp_g S)) ct vl h a') S.length ?_ ?_ (S.length + 1) 0 ct vl (by omega) (by omega) (qp_Out_0 e0)
  · intro k h a' O
    have eH' : h l = nI S.length := (O.2.1 l (by omega)).trans eS
    refine ⟨vp_in_nI hn (by omega), ?_⟩
    rw [eL', qp_rd (f := h) (by omega) eH']
    refine ⟨vp_in_nI (by omega) (by omega), br_t (nI_le (Nat.le_refl _) (by omega)) ⟨Q.length + 1, ?_⟩⟩
    refine qp_loop (fun k i h a' => wY_unionList_37 post (nI n) k (nI i) tn nc rh rc tb th tw nk nl nr p1 p2 p3 nw us bo h a' rs) (fun i h a' => qp_Out n w (qp_tab S.length (qp_g S) ++ qp_tab i (qp_g Q)) ct vl h a') Q.length ?_ ?_ (Q.length + 1) 0 h a' (by omega) (by omega) (by rw [qp_tab_0, List.append_nil]; exact O)
    · intro k h a' O
      have eH' : h r = nI Q.length := (O.2.1 r (by omega)).trans eQ
      refine ⟨vp_in_nI hn (by omega), ?_⟩
      rw [eR', qp_rd (f := h) (by omega) eH']
      exact ⟨vp_in_nI (by omega) (by omega), br_t (nI_le (Nat.le_refl _) (by omega)) (H h a' O)⟩
    · intro k i h a' hi O ih
      have eH' : h r = nI Q.length := (O.2.1 r (by omega)).trans eQ
      have hlen : (qp_tab S.length (qp_g S) ++ qp_tab i (qp_g Q)).length = S.length + i := by rw [List.length_append, qp_tab_len, qp_tab_len]
      refine ⟨vp_in_nI hn (by omega), ?_⟩
      rw [eR', qp_rd (f := h) (by omega) eH']
      refine ⟨vp_in_nI (by omega) (by omega), br_f (nI_ge hi (by omega)) ⟨vp_in_nI hn (by omega), ?_⟩⟩
      refine y_copy rfl rfl rfl hn (by omega) (by omega) eWr hw O (by omega) (qp_Out_rd O hQ hQ24 hw (by omega)) hi hQ24 ?_
      intro ct' vl' O'
      refine nm_r (nI_1 i) (ih ct' vl' ?_)
      rw [qp_tab_s, ← List.append_assoc]; exact O'
  · intro k i h a' hi O ih
    have eH' : h l = nI S.length := (O.2.1 l (by omega)).trans eS
    refine ⟨vp_in_nI hn (by omega), ?_⟩
    rw [eL', qp_rd (f := h) (by omega) eH']
    refine ⟨vp_in_nI (by omega) (by omega), br_f (nI_ge hi (by omega)) ⟨vp_in_nI hn (by omega), ?_⟩⟩
    refine y_copy rfl rfl rfl hn (by omega) (by omega) eWl hw O (by rw [qp_tab_len]; omega) (qp_Out_rd O hS hS24 hw (by omega)) hi hS24 ?_
    intro ct' vl' O'
    refine nm_r (nI_1 i) (ih ct' vl' ?_)
    rw [qp_tab_s]; exact O'
theorem y_limit {post : SY → Prop} {n l w m : Nat} {S : List qp_Row} (hn : n < 12) (hl : l < n) (eL : nl n = nI l) (eW : nw l = nI w) (hw : w ≤ 6) (eD : p1 n = nI m) (hm : m < 2 ^ 31) (hS : qp_Rep vl l w S) (eS : ct l = nI S.length) (h24 : S.length ≤ 24) (e0 : ct n = 0) (H : ∀ ct' vl', qp_Out n w (qp_tab (if m < S.length then m else S.length) (qp_g S)) ct vl ct' vl' → post (tn, nc, rh, rc, tb, th, tw, nk, nl, nr, p1, p2, p3, nw, us, bo, ct', vl', rs)) : wpY_limitList post (tn, nc, rh, rc, tb, th, tw, nk, nl, nr, p1, p2, p3, nw, us, bo, ct, vl, rs) (nI n) := by
  unfold wpY_limitList
  try dsimp only
  refine ⟨vp_in_nI hn (by omega), nm_r (qp_rd hn eL) ⟨S.length + 1, ?_⟩⟩
  have z0 : (if m < 0 then m else 0) = 0 := if_neg (by omega)
  refine qp_loop (fun k i h a' => wY_limitList_9 post (nI n) (nI l) k (nI i) tn nc rh rc tb th tw nk nl nr p1 p2 p3 nw us bo h a' rs) (fun i h a' => qp_Out n w (qp_tab (if m < i then m else i) (qp_g S)) ct vl h a') S.length ?_ ?_ (S.length + 1) 0 ct vl (by omega) (by omega) (by rw [z0]; exact qp_Out_0 e0)
  · intro k h a' O
    have eH' : h l = nI S.length := (O.2.1 l (by omega)).trans eS
    refine ⟨vp_in_nI (by omega) (by omega), ?_⟩
    rw [qp_rd (f := h) (by omega) eH']
    exact br_t (nI_le (Nat.le_refl _) (by omega)) (H h a' O)
  · intro k i h a' hi O ih
    have eH' : h l = nI S.length := (O.2.1 l (by omega)).trans eS
    refine ⟨vp_in_nI (by omega) (by omega), ?_⟩
    rw [qp_rd (f := h) (by omega) eH']
    refine br_f (nI_ge hi (by omega)) ⟨vp_in_nI hn (by omega), ?_⟩
    rw [qp_rd (f := p1) hn eD]
    refine pk_le m i (fun z => ?_) (fun z => ?_) rfl rfl hm (by omega)
    · refine nm_r (nI_1 i) (ih h a' ?_)
      rw [if_pos (by omega)]
      by_cases y : m < i
      · rw [if_pos y] at O; exact O
      · rw [if_neg y] at O
        have : i = m := by omega
        subst this; exact O
    · rw [if_neg (by omega)] at O
      refine y_copy rfl rfl rfl hn (by omega) (by omega) eW hw O (by rw [qp_tab_len]; omega) (qp_Out_rd O hS h24 hw (by omega)) hi h24 ?_
      intro ct' vl' O'
      refine nm_r (nI_1 i) (ih ct' vl' ?_)
      rw [if_neg (by omega), qp_tab_s]; exact O'
theorem y_eqRows {post : Int32 → Prop} {q0 q1 q2 : Int32} {s i j w : Nat} {S : List qp_Row} (e0 : q0 = nI s) (e1 : q1 = nI i) (e2 : q2 = nI j) (hs : s < 12) (eW : nw s = nI w) (hw : w ≤ 6) (hS : qp_Rep vl s w S) (h24 : S.length ≤ 24) (hi : i < S.length) (hj : j < S.length) (ht : qp_eqv w (qp_g S i) (qp_g S j) → post 1) (hf : ¬ qp_eqv w (qp_g S i) (qp_g S j) → post 0) : wpY_equalRows post (tn, nc, rh, rc, tb, th, tw, nk, nl, nr, p1, p2, p3, nw, us, bo, ct, vl, rs) q0 q1 q2 := by
  subst e0 e1 e2
  unfold wpY_equalRows
  try dsimp only
  refine ⟨w + 1, ?_⟩
  refine qp_loop0 (fun k c => wY_equalRows_3 post (nI s) (nI i) (nI j) tn nc rh rc tb th tw nk nl nr p1 p2 p3 nw us bo ct vl rs k (nI c)) (fun c => ∀ x, x < c → qp_g S i x = qp_g S j x) w ?_ ?_ (w + 1) 0 (by omega) (by omega) (fun c h => absurd h (Nat.not_lt_zero c))
  · intro k I
    refine ⟨vp_in_nI hs (by omega), ?_⟩
    rw [qp_rd hs eW]
    exact br_t (nI_le (Nat.le_refl _) (by omega)) (ht I)
  · intro k c hc I ih
    refine ⟨vp_in_nI hs (by omega), ?_⟩
    rw [qp_rd hs eW]
    refine br_f (nI_ge hc (by omega)) ?_
    rw [qp_iy, qp_iy, nI_clamp (by omega), nI_clamp (by omega), hS i c hi hc, hS j c hj hc]
    refine ⟨vp_in_nI (by omega) (by omega), vp_in_nI (by omega) (by omega), br_c (fun h => ?_) (fun h => ?_)⟩
    · refine nm_r (nI_1 c) (ih (fun x hx => ?_))
      by_cases z : x = c
      · subst z; exact h
      · exact I x (by omega)
    · exact hf (fun z => h (z c hc))
theorem y_distinct {post : SY → Prop} {n l w : Nat} {S : List qp_Row} (hn : n < 12) (hl : l < n) (eL : nl n = nI l) (eW : nw l = nI w) (hw : w ≤ 6) (hS : qp_Rep vl l w S) (eS : ct l = nI S.length) (h24 : S.length ≤ 24) (e0 : ct n = 0) (H : ∀ ct' vl', qp_Out n w (qp_di S w S.length) ct vl ct' vl' → post (tn, nc, rh, rc, tb, th, tw, nk, nl, nr, p1, p2, p3, nw, us, bo, ct', vl', rs)) : wpY_distinctList post (tn, nc, rh, rc, tb, th, tw, nk, nl, nr, p1, p2, p3, nw, us, bo, ct, vl, rs) (nI n) := by
  unfold wpY_distinctList
  try dsimp only
  refine ⟨vp_in_nI hn (by omega), nm_r (qp_rd hn eL) ⟨S.length + 1, ?_⟩⟩
  refine qp_loop (fun k i h a' => wY_distinctList_9 post (nI n) (nI l) k (nI i) tn nc rh rc tb th tw nk nl nr p1 p2 p3 nw us bo h a' rs) (fun i h a' => qp_Out n w (qp_di S w i) ct vl h a') S.length ?_ ?_ (S.length + 1) 0 ct vl (by omega) (by omega) (qp_Out_0 e0)
  · intro k h a' O
    have eH' : h l = nI S.length := (O.2.1 l (by omega)).trans eS
    refine ⟨vp_in_nI (by omega) (by omega), ?_⟩
    rw [qp_rd (f := h) (by omega) eH']
    exact br_t (nI_le (Nat.le_refl _) (by omega)) (H h a' O)
  · intro k i h a' hi O ih
    have eH' : h l = nI S.length := (O.2.1 l (by omega)).trans eS
    have hS' := qp_Out_rd O hS h24 hw (by omega)
    have hlen := qp_di_len S w i
    refine ⟨vp_in_nI (by omega) (by omega), ?_⟩
    rw [qp_rd (f := h) (by omega) eH']
    refine br_f (nI_ge hi (by omega)) ⟨i + 1, ?_⟩
    refine qp_loop1 (fun m j (x : Int32) => wY_distinctList_25 post (wY_distinctList_9 post (nI n) (nI l) k) (nI n) (nI l) (nI i) tn nc rh rc tb th tw nk nl nr p1 p2 p3 nw us bo h a' rs m x (nI j)) (fun j x => (x = 0 ∧ ∃ t, t < j ∧ qp_eqv w (qp_g S i) (qp_g S t)) ∨ (x = 1 ∧ ¬ ∃ t, t < j ∧ qp_eqv w (qp_g S i) (qp_g S t))) i ?_ ?_ (i + 1) 0 1 (by omega) (by omega) (Or.inr ⟨rfl, fun ⟨t, ht, _⟩ => absurd ht (Nat.not_lt_zero t)⟩)
    · intro m x I
      refine br_t (nI_le (Nat.le_refl _) (by omega)) ?_
      rcases I with ⟨rfl, I⟩ | ⟨rfl, I⟩
      · refine br_t rfl (nm_r (nI_1 i) (ih h a' ?_))
        show qp_Out n w (qp_if (∃ j, j < i ∧ qp_eqv w (qp_g S i) (qp_g S j)) _ _) ct vl h a'
        rw [qp_if_t I]; exact O
      · refine br_f (by decide) ?_
        refine y_copy rfl rfl rfl hn (by omega) (by omega) eW hw O (by omega) hS' hi h24 ?_
        intro ct' vl' O'
        refine nm_r (nI_1 i) (ih ct' vl' ?_)
        show qp_Out n w (qp_if (∃ j, j < i ∧ qp_eqv w (qp_g S i) (qp_g S j)) _ _) ct vl ct' vl'
        rw [qp_if_f I]; exact O'
    · intro m j x hj I ihj
      refine br_f (nI_ge hj (by omega)) ?_
      refine y_eqRows rfl rfl rfl (by omega) eW hw hS' h24 hi (by omega) (fun hp => ?_) (fun hp => ?_)
      · exact br_f (by decide) (nm_r (nI_1 j) (ihj 0 (Or.inl ⟨rfl, j, by omega, hp⟩)))
      · refine br_t rfl (nm_r (nI_1 j) (ihj x ?_))
        rcases I with ⟨ex, t, ht, e⟩ | ⟨ex, I⟩
        · exact Or.inl ⟨ex, t, by omega, e⟩
        · refine Or.inr ⟨ex, fun ⟨t, ht, e⟩ => ?_⟩
          by_cases z : t = j
          · subst z; exact hp e
          · exact I ⟨t, by omega, e⟩
theorem y_place {post : Int32 → Prop} {q0 q1 : Int32} {n l q a w : Nat} {d : Prop} {S : List qp_Row} (e0 : q0 = nI n) (e1 : q1 = nI q) (hn : n < 12) (hl : l < n) (eL : nl n = nI l) (hw : w ≤ 6) (eA : p1 n = nI a) (ha : a < w) (hd : (d ∧ p2 n = 1) ∨ (¬ d ∧ p2 n = 0)) (hS : qp_Rep vl l w S) (eS : ct l = nI S.length) (h24 : S.length ≤ 24) (hq : q < S.length) (H : post (nI (qp_rk d (fun t => qp_g S t a) S.length q))) : wpY_place post (tn, nc, rh, rc, tb, th, tw, nk, nl, nr, p1, p2, p3, nw, us, bo, ct, vl, rs) q0 q1 := by
  subst e0 e1
  unfold wpY_place
  try dsimp only
  refine ⟨vp_in_nI hn (by omega), nm_r (qp_rd hn eL) ⟨vp_in_nI hn (by omega), ?_⟩⟩
  refine y_get rfl rfl (qp_rd hn eA) (hS q a hq ha) (by omega) ?_
  refine ⟨S.length + 1, ?_⟩
  have hcnt : ∀ i, qp_cnt (qp_bf d (fun t => qp_g S t a) q) i ≤ i := qp_cnt_le _
  refine qp_loop1 (fun k i x => wY_place_27 post (nI n) (nI q) (nI l) (qp_g S q a) tn nc rh rc tb th tw nk nl nr p1 p2 p3 nw us bo ct vl rs k x (nI i)) (fun i x => x = nI (qp_cnt (qp_bf d (fun t => qp_g S t a) q) i)) S.length ?_ ?_ (S.length + 1) 0 0 (by omega) (by omega) rfl
  · intro k x I
    refine ⟨vp_in_nI (by omega) (by omega), ?_⟩
    rw [qp_rd (f := ct) (by omega) eS]
    refine br_t (nI_le (Nat.le_refl _) (by omega)) ?_
    rw [I]; exact H
  · intro k i x hi I ih
    refine ⟨vp_in_nI (by omega) (by omega), ?_⟩
    rw [qp_rd (f := ct) (by omega) eS]
    refine br_f (nI_ge hi (by omega)) ⟨vp_in_nI hn (by omega), ?_⟩
    rw [qp_rd (f := p1) hn eA, qp_iy, nI_clamp (show l * 144 + i * 6 + a < 2 ^ 31 by omega), hS i a hi ha]
    have yes : qp_bf d (fun t => qp_g S t a) q i → x + 1 = nI (qp_cnt (qp_bf d (fun t => qp_g S t a) q) (i + 1)) := by
      intro hy
      show x + 1 = nI (qp_if _ _ _)
      rw [qp_if_t hy, I, nI_1]
    have no : ¬ qp_bf d (fun t => qp_g S t a) q i → x = nI (qp_cnt (qp_bf d (fun t => qp_g S t a) q) (i + 1)) := by
      intro hy
      show x = nI (qp_if _ _ _)
      rw [qp_if_f hy, I]
    have c1 : ((d ∧ qp_g S q a < qp_g S i a) ∨ (¬ d ∧ qp_g S i a < qp_g S q a)) → wY_place_100 post (wY_place_27 post (nI n) (nI q) (nI l) (qp_g S q a) tn nc rh rc tb th tw nk nl nr p1 p2 p3 nw us bo ct vl rs k) (nI n) (nI q) (nI l) (qp_g S q a) x (nI i) (qp_g S i a) 1 tn nc rh rc tb th tw nk nl nr p1 p2 p3 nw us bo ct vl rs := by
      intro hy
      unfold wY_place_100
      refine br_f (by decide) (nm_e (nm_r (nI_1 i) (ih _ (yes ?_))))
      rcases hy with hy | hy
      · exact Or.inl hy
      · exact Or.inr (Or.inl hy)
    have c0 : ¬ ((d ∧ qp_g S q a < qp_g S i a) ∨ (¬ d ∧ qp_g S i a < qp_g S q a)) → wY_place_100 post (wY_place_27 post (nI n) (nI q) (nI l) (qp_g S q a) tn nc rh rc tb th tw nk nl nr p1 p2 p3 nw us bo ct vl rs k) (nI n) (nI q) (nI l) (qp_g S q a) x (nI i) (qp_g S i a) 0 tn nc rh rc tb th tw nk nl nr p1 p2 p3 nw us bo ct vl rs := by
      intro hy
      unfold wY_place_100
      refine br_t rfl (br_c (fun h => pk_le q i (fun z => ?_) (fun z => ?_)) (fun h => ?_))
      · refine nm_r (nI_1 i) (ih x (no (fun y => ?_)))
        rcases y with y | y | ⟨_, y⟩
        · exact hy (Or.inl y)
        · exact hy (Or.inr y)
        · omega
      · exact nm_e (nm_r (nI_1 i) (ih _ (yes (Or.inr (Or.inr ⟨h, z⟩)))))
      · refine nm_r (nI_1 i) (ih x (no (fun y => ?_)))
        rcases y with y | y | ⟨y, _⟩
        · exact hy (Or.inl y)
        · exact hy (Or.inr y)
        · exact h y
    refine ⟨vp_in_nI (by omega) (by omega), nm_e ⟨vp_in_nI hn (by omega), ?_⟩⟩
    rw [qp_rd (f := p2) hn rfl]
    rcases hd with ⟨hd, e⟩ | ⟨hd, e⟩
    · refine br_t e (br_c (fun z => c0 ?_) (fun z => c1 (Or.inl ⟨hd, Int32.not_le.mp z⟩)))
      rintro (⟨_, y⟩ | ⟨y, _⟩)
      · exact Int32.not_lt.mpr z y
      · exact y hd
    · refine br_f (by rw [e]; decide) (br_c (fun z => c0 ?_) (fun z => c1 (Or.inr ⟨hd, Int32.not_le.mp z⟩)))
      rintro (⟨y, _⟩ | ⟨_, y⟩)
      · exact hd y
      · exact Int32.not_lt.mpr z y
theorem y_sort {post : SY → Prop} {n l a w : Nat} {d : Prop} {S : List qp_Row} (hn : n < 12) (hl : l < n) (eL : nl n = nI l) (eW : nw l = nI w) (hw : w ≤ 6) (eA : p1 n = nI a) (ha : a < w) (hd : (d ∧ p2 n = 1) ∨ (¬ d ∧ p2 n = 0)) (hS : qp_Rep vl l w S) (eS : ct l = nI S.length) (h24 : S.length ≤ 24) (e0 : ct n = 0) (H : ∀ ct' vl', qp_Out n w (qp_tab S.length (qp_so S d a)) ct vl ct' vl' → post (tn, nc, rh, rc, tb, th, tw, nk, nl, nr, p1, p2, p3, nw, us, bo, ct', vl', rs)) : wpY_sortList post (tn, nc, rh, rc, tb, th, tw, nk, nl, nr, p1, p2, p3, nw, us, bo, ct, vl, rs) (nI n) := by
  unfold wpY_sortList
  try dsimp only
  refine ⟨vp_in_nI hn (by omega), nm_r (qp_rd hn eL) ⟨S.length + 1, ?_⟩⟩
  refine qp_loop (fun k i h a' => wY_sortList_9 post (nI n) (nI l) k (nI i) tn nc rh rc tb th tw nk nl nr p1 p2 p3 nw us bo h a' rs) (fun i h a' => qp_Out n w (qp_tab i (qp_so S d a)) ct vl h a') S.length ?_ ?_ (S.length + 1) 0 ct vl (by omega) (by omega) (qp_Out_0 e0)
  · intro k h a' O
    have eH' : h l = nI S.length := (O.2.1 l (by omega)).trans eS
    refine ⟨vp_in_nI (by omega) (by omega), ?_⟩
    rw [qp_rd (f := h) (by omega) eH']
    exact br_t (nI_le (Nat.le_refl _) (by omega)) (H h a' O)
  · intro k i h a' hi O ih
    have eH' : h l = nI S.length := (O.2.1 l (by omega)).trans eS
    refine ⟨vp_in_nI (by omega) (by omega), ?_⟩
    rw [qp_rd (f := h) (by omega) eH']
    refine br_f (nI_ge hi (by omega)) ⟨S.length + 1, ?_⟩
    have hiv := qp_iv_ok d (fun t => qp_g S t a) hi
    refine qp_loop (fun m j h a' => wY_sortList_22 post (wY_sortList_9 post (nI n) (nI l) k) (nI n) (nI l) (nI i) m (nI j) tn nc rh rc tb th tw nk nl nr p1 p2 p3 nw us bo h a' rs) (fun j h a' => (j ≤ qp_iv d (fun t => qp_g S t a) S.length i ∧ qp_Out n w (qp_tab i (qp_so S d a)) ct vl h a') ∨ (qp_iv d (fun t => qp_g S t a) S.length i < j ∧ qp_Out n w (qp_tab (i + 1) (qp_so S d a)) ct vl h a')) S.length ?_ ?_ (S.length + 1) 0 h a' (by omega) (by omega) (Or.inl ⟨by omega, O⟩)
    · intro m h a' I
      rcases I with ⟨z, _⟩ | ⟨_, O⟩
      · omega
      · have eH' : h l = nI S.length := (O.2.1 l (by omega)).trans eS
        refine ⟨vp_in_nI (by omega) (by omega), ?_⟩
        rw [qp_rd (f := h) (by omega) eH']
        exact br_t (nI_le (Nat.le_refl _) (by omega)) (nm_r (nI_1 i) (ih h a' O))
    · intro m j h a' hj I ihj
      have hO : ∃ R, qp_Out n w R ct vl h a' := by
        rcases I with ⟨_, O⟩ | ⟨_, O⟩
        · exact ⟨_, O⟩
        · exact ⟨_, O⟩
      obtain ⟨R, OR⟩ := hO
      have eH' : h l = nI S.length := (OR.2.1 l (by omega)).trans eS
      have hS' := qp_Out_rd OR hS h24 hw (by omega)
      have hrk := qp_rk_lt d (fun t => qp_g S t a) hj
      refine ⟨vp_in_nI (by omega) (by omega), ?_⟩
      rw [qp_rd (f := h) (by omega) eH']
      refine br_f (nI_ge hj (by omega)) ?_
      refine y_place rfl rfl hn hl eL hw eA ha hd hS' eH' h24 hj ?_
      refine pk_eq (qp_rk d (fun t => qp_g S t a) S.length j) i (fun z => ?_) (fun z => ?_) rfl rfl (by omega) (by omega)
      · have ej : qp_iv d (fun t => qp_g S t a) S.length i = j := by rw [← z]; exact qp_iv_rk d (fun t => qp_g S t a) hj
        rcases I with ⟨_, O⟩ | ⟨y, _⟩
        · refine y_copy rfl rfl rfl hn (by omega) (by omega) eW hw O (by rw [qp_tab_len]; omega) hS' hj h24 ?_
          intro ct' vl' O'
          refine nm_r (nI_1 j) (ihj ct' vl' (Or.inr ⟨by omega, ?_⟩))
          rw [qp_tab_s]
          show qp_Out n w (qp_tab i (qp_so S d a) ++ [qp_g S (qp_iv d (fun t => qp_g S t a) S.length i)]) ct vl ct' vl'
          rw [ej]; exact O'
        · omega
      · refine nm_r (nI_1 j) (ihj h a' ?_)
        rcases I with ⟨y, O⟩ | ⟨y, O⟩
        · refine Or.inl ⟨?_, O⟩
          by_cases q : qp_iv d (fun t => qp_g S t a) S.length i = j
          · exact absurd (by rw [← q]; exact hiv.2) z
          · omega
        · exact Or.inr ⟨by omega, O⟩
end qp_Y2
