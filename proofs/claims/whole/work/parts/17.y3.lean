/-! the reference: group -/
section qp_Y3
variable {tn nc rh rc : Int32} {tb th tw nk nl nr p1 p2 p3 nw us bo ct vl rs : Nat → Int32}
theorem y_aggregate {post : Int32 → Prop} {q0 q1 : Int32} {n l i a b w : Nat} {S : List qp_Row} (e0 : q0 = nI n) (e1 : q1 = nI i) (hn : n < 12) (hl : l < n) (eL : nl n = nI l) (hw : w ≤ 6) (eA : p1 n = nI a) (ha : a < w) (eB : p3 n = nI b) (hb : b < w) (ho : p2 n = 0 ∨ p2 n = 1 ∨ p2 n = 2 ∨ p2 n = 3) (hS : qp_Rep vl l w S) (eS : ct l = nI S.length) (h24 : S.length ≤ 24) (hi : i < S.length) (H : post (qp_ag S (p2 n) a b (qp_g S i a) (qp_g S i b) S.length)) : wpY_aggregate post (tn, nc, rh, rc, tb, th, tw, nk, nl, nr, p1, p2, p3, nw, us, bo, ct, vl, rs) q0 q1 := by
  subst e0 e1
  unfold wpY_aggregate
  try dsimp only
  refine ⟨vp_in_nI hn (by omega), nm_r (qp_rd hn eL) ⟨vp_in_nI hn (by omega), ?_⟩⟩
  refine y_get rfl rfl (qp_rd hn eA) (hS i a hi ha) (by omega) ?_
  refine ⟨vp_in_nI hn (by omega), ?_⟩
  refine y_get rfl rfl (qp_rd hn eB) (hS i b hi hb) (by omega) ?_
  refine ⟨S.length + 1, ?_⟩
  generalize qp_g S i a = key at *
  generalize qp_g S i b = v0 at *
  refine qp_loop1 (fun k j (s : Int32 × Int32 × Int32 × Int32) => wY_aggregate_48 post (nI n) (nI l) key tn nc rh rc tb th tw nk nl nr p1 p2 p3 nw us bo ct vl rs k s.1 s.2.1 s.2.2.1 s.2.2.2 (nI j)) (fun j s => s.1 = qp_ag S 0 a b key v0 j ∧ s.2.1 = qp_ag S 1 a b key v0 j ∧ s.2.2.1 = qp_ag S 2 a b key v0 j ∧ s.2.2.2 = qp_ag S 3 a b key v0 j) S.length ?_ ?_ (S.length + 1) 0 (0, 0, v0, v0) (by omega) (by omega) ⟨rfl, rfl, rfl, rfl⟩
  · intro k s I
    obtain ⟨x5, x6, x7, x8⟩ := s
    obtain ⟨i0, i1, i2, i3⟩ := I
    dsimp only at i0 i1 i2 i3
    refine ⟨vp_in_nI (by omega) (by omega), ?_⟩
    rw [qp_rd (f := ct) (by omega) eS, qp_rd (f := p2) hn rfl]
    refine br_t (nI_le (Nat.le_refl _) (by omega)) ⟨vp_in_nI hn (by omega), ?_⟩
    rcases ho with h | h | h | h
    · rw [h] at H; exact br_t h (by rw [i0]; exact H)
    · rw [h] at H; exact br_f (by rw [h]; decide) ⟨vp_in_nI hn (by omega), br_t h (by rw [i1]; exact H)⟩
    · rw [h] at H; exact br_f (by rw [h]; decide) ⟨vp_in_nI hn (by omega), br_f (by rw [h]; decide) ⟨vp_in_nI hn (by omega), br_t h (by rw [i2]; exact H)⟩⟩
    · rw [h] at H; exact br_f (by rw [h]; decide) ⟨vp_in_nI hn (by omega), br_f (by rw [h]; decide) ⟨vp_in_nI hn (by omega), br_f (by rw [h]; decide) (by rw [i3]; exact H)⟩⟩
  · intro k j s hj I ih
    obtain ⟨x5, x6, x7, x8⟩ := s
    obtain ⟨i0, i1, i2, i3⟩ := I
    dsimp only at i0 i1 i2 i3
    refine ⟨vp_in_nI (by omega) (by omega), ?_⟩
    rw [qp_rd (f := ct) (by omega) eS]
    refine br_f (nI_ge hj (by omega)) ⟨vp_in_nI hn (by omega), ?_⟩
    rw [qp_rd (f := p1) hn eA, qp_rd (f := p3) hn eB, qp_iy, qp_iy, nI_clamp (show l * 144 + j * 6 + a < 2 ^ 31 by omega), nI_clamp (show l * 144 + j * 6 + b < 2 ^ 31 by omega), hS j a hj ha, hS j b hj hb]
    refine ⟨vp_in_nI (by omega) (by omega), br_c (fun h => ?_) (fun h => ?_)⟩
    · have t0 := qp_ag_t (S := S) (o := 0) (a := a) (b := b) (v0 := v0) h
      have t1 := qp_ag_t (S := S) (o := 1) (a := a) (b := b) (v0 := v0) h
      have t2 := qp_ag_t (S := S) (o := 2) (a := a) (b := b) (v0 := v0) h
      have t3 := qp_ag_t (S := S) (o := 3) (a := a) (b := b) (v0 := v0) h
      rw [← i0] at t0
      rw [← i1] at t1
      rw [← i2] at t2
      rw [← i3] at t3
      have fin : ∀ z0 z1, z0 = (if qp_g S j b < x7 then qp_g S j b else x7) → z1 = (if x8 < qp_g S j b then qp_g S j b else x8) → wY_aggregate_48 post (nI n) (nI l) key tn nc rh rc tb th tw nk nl nr p1 p2 p3 nw us bo ct vl rs k (x5 + 1) (x6 + qp_g S j b) z0 z1 (nI (j + 1)) := by
        intro z0 z1 ez0 ez1
        exact ih (x5 + 1, x6 + qp_g S j b, z0, z1) ⟨t0.symm, t1.symm, ez0.trans t2.symm, ez1.trans t3.symm⟩
      have g0 : ∀ z0, z0 = (if qp_g S j b < x7 then qp_g S j b else x7) → wY_aggregate_136 post (wY_aggregate_48 post (nI n) (nI l) key tn nc rh rc tb th tw nk nl nr p1 p2 p3 nw us bo ct vl rs k) (nI n) (nI l) key (x5 + 1) (x6 + qp_g S j b) x8 (nI j) (qp_g S j b) z0 tn nc rh rc tb th tw nk nl nr p1 p2 p3 nw us bo ct vl rs := by
        intro z0 ez0
        unfold wY_aggregate_136
        refine br_c (fun y => nm_r (nI_1 j) (fin z0 _ ez0 ?_)) (fun y => nm_r (nI_1 j) (fin z0 _ ez0 ?_))
        · rw [if_neg (Int32.not_lt.mpr y)]
        · rw [if_pos (Int32.not_le.mp y)]
      refine ⟨vp_in_nI hn (by omega), vp_in_nI (by omega) (by omega), nm_e (nm_e (nm_e (br_c (fun y => g0 _ ?_) (fun y => g0 _ ?_))))⟩
      · rw [if_neg (Int32.not_lt.mpr y)]
      · rw [if_pos (Int32.not_le.mp y)]
    · refine nm_r (nI_1 j) (ih (x5, x6, x7, x8) ⟨?_, ?_, ?_, ?_⟩)
      · rw [qp_ag_f h]; exact i0
      · rw [qp_ag_f h]; exact i1
      · rw [qp_ag_f h]; exact i2
      · rw [qp_ag_f h]; exact i3
theorem y_group {post : SY → Prop} {n l a b w : Nat} {S : List qp_Row} (hn : n < 12) (hl : l < n) (eL : nl n = nI l) (hw : w ≤ 6) (eA : p1 n = nI a) (ha : a < w) (eB : p3 n = nI b) (hb : b < w) (ho : p2 n = 0 ∨ p2 n = 1 ∨ p2 n = 2 ∨ p2 n = 3) (hS : qp_Rep vl l w S) (eS : ct l = nI S.length) (h24 : S.length ≤ 24) (e0 : ct n = 0) (H : ∀ ct' vl', qp_Out n 2 (qp_gp S (p2 n) a b S.length S.length) ct vl ct' vl' → post (tn, nc, rh, rc, tb, th, tw, nk, nl, nr, p1, p2, p3, nw, us, bo, ct', vl', rs)) : wpY_groupList post (tn, nc, rh, rc, tb, th, tw, nk, nl, nr, p1, p2, p3, nw, us, bo, ct, vl, rs) (nI n) := by
  unfold wpY_groupList
  try dsimp only
  refine ⟨vp_in_nI hn (by omega), nm_r (qp_rd hn eL) ⟨S.length + 1, ?_⟩⟩
  refine qp_loop (fun k i h a' => wY_groupList_9 post (nI n) (nI l) tn nc rh rc k (nI i) tb th tw nk nl nr p1 p2 p3 nw us bo h a' rs) (fun i h a' => qp_Out n 2 (qp_gp S (p2 n) a b S.length i) ct vl h a') S.length ?_ ?_ (S.length + 1) 0 ct vl (by omega) (by omega) (qp_Out_0 e0)
  · intro k h a' O
    have eH' : h l = nI S.length := (O.2.1 l (by omega)).trans eS
    refine ⟨vp_in_nI (by omega) (by omega), ?_⟩
    rw [qp_rd (f := h) (by omega) eH']
    exact br_t (nI_le (Nat.le_refl _) (by omega)) (H h a' O)
  · intro k i h a' hi O ih
    have eH' : h l = nI S.length := (O.2.1 l (by omega)).trans eS
    have hS' := qp_Out_rd O hS h24 hw (by omega)
    have hlen := qp_gp_len S (p2 n) a b S.length i
    refine ⟨vp_in_nI (by omega) (by omega), ?_⟩
    rw [qp_rd (f := h) (by omega) eH']
    refine br_f (nI_ge hi (by omega)) ⟨vp_in_nI hn (by omega), ?_⟩
    refine y_get rfl rfl (qp_rd hn eA) (hS' i a hi ha) (by omega) ?_
    refine ⟨i + 1, ?_⟩
    refine qp_loop1 (fun m j (x : Int32) => wY_groupList_39 post (wY_groupList_9 post (nI n) (nI l) tn nc rh rc k) (nI n) (nI l) (nI i) (qp_g S i a) tn nc rh rc tb th tw nk nl nr p1 p2 p3 nw us bo h a' rs m x (nI j)) (fun j x => (x = 0 ∧ ∃ t, t < j ∧ qp_g S t a = qp_g S i a) ∨ (x = 1 ∧ ¬ ∃ t, t < j ∧ qp_g S t a = qp_g S i a)) i ?_ ?_ (i + 1) 0 1 (by omega) (by omega) (Or.inr ⟨rfl, fun ⟨t, ht, _⟩ => absurd ht (Nat.not_lt_zero t)⟩)
    · intro m x I
      refine br_t (nI_le (Nat.le_refl _) (by omega)) ?_
      rcases I with ⟨rfl, t, ht, e⟩ | ⟨rfl, I⟩
      · refine br_t rfl (nm_r (nI_1 i) (ih h a' ?_))
        rw [qp_gp_f (fun z => z t ht e)]; exact O
      · have hf : qp_fst S a i := fun t ht e => I ⟨t, ht, e⟩
        refine br_f (by decide) ⟨vp_in_nI hn (by omega), ?_⟩
        rw [qp_rd (f := h) hn (qp_Out_h O)]
        refine br_f (nI_ge (b := 24) (by omega) (by decide)) ?_
        refine y_aggregate rfl rfl hn hl eL hw eA ha eB hb ho hS' eH' h24 hi ?_
        rw [qp_iy0, nI_1, nI_1, nI_clamp (by omega), nI_clamp (by omega), nI_clamp (show n < 2 ^ 31 by omega)]
        refine ⟨vp_in_nI hn (by omega), vp_in_nI (by omega) (by omega), nm_e ⟨vp_in_nI hn (by omega), vp_in_nI (by omega) (by omega), nm_e ⟨vp_in_nI hn (by omega), vp_in_nI hn (by omega), nm_e (nm_r (nI_1 i) (ih _ _ ?_))⟩⟩⟩
        rw [qp_gp_t hf]
        refine qp_Out_app O (by omega) (by omega) _ (fun c hc => ?_) (fun p hp => ?_)
        · by_cases z : c = 0
          · subst z
            rw [pk_un (by omega), Nat.add_zero, pk_us]; rfl
          · have z2 : c = 1 := by omega
            subst z2
            rw [pk_us]; rfl
        · rw [pk_un (by omega), pk_un (by omega)]
    · intro m j x hj I ihj
      refine br_f (nI_ge hj (by omega)) ⟨vp_in_nI hn (by omega), ?_⟩
      rw [qp_rd (f := p1) hn eA, qp_iy, nI_clamp (show l * 144 + j * 6 + a < 2 ^ 31 by omega), hS' j a (by omega) ha]
      refine ⟨vp_in_nI (by omega) (by omega), br_c (fun hp => ?_) (fun hp => ?_)⟩
      · exact nm_r (nI_1 j) (ihj 0 (Or.inl ⟨rfl, j, by omega, hp⟩))
      · refine nm_r (nI_1 j) (ihj x ?_)
        rcases I with ⟨ex, t, ht, e⟩ | ⟨ex, I⟩
        · exact Or.inl ⟨ex, t, by omega, e⟩
        · refine Or.inr ⟨ex, fun ⟨t, ht, e⟩ => ?_⟩
          by_cases z : t = j
          · subst z; exact hp e
          · exact I ⟨t, by omega, e⟩
end qp_Y3
