/-! the reference: join -/
section qp_Y4
variable {tn nc rh rc : Int32} {tb th tw nk nl nr p1 p2 p3 nw us bo ct vl rs : Nat → Int32}
theorem y_behind {post : SY → Prop} {q0 q1 q2 : Int32} {n l q r m wl wr : Nat} (e0 : q0 = nI n) (e1 : q1 = nI q) (e2 : q2 = nI r) (hn : n < 12) (hl : l < 12) (hq : q < 12) (hr : r < 24) (hm : m < 24) (eL : nl n = nI l) (eWl : nw l = nI wl) (eWr : nw q = nI wr) (hw : wl + wr ≤ 6) (hqn : q ≠ n) (ec : ct n = nI (m + 1)) (H : ∀ vl', qp_Cp (n * 144 + m * 6 + wl) (q * 144 + r * 6) wr vl vl' → post (tn, nc, rh, rc, tb, th, tw, nk, nl, nr, p1, p2, p3, nw, us, bo, ct, vl', rs)) : wpY_behind post (tn, nc, rh, rc, tb, th, tw, nk, nl, nr, p1, p2, p3, nw, us, bo, ct, vl, rs) q0 q1 q2 := by
  subst e0 e1 e2
  unfold wpY_behind
  try dsimp only
  rw [qp_rd (f := nl) hn eL, qp_rd (f := nw) hl eWl, qp_rd (f := ct) hn ec, nI_pred, qp_iy]
  refine ⟨vp_in_nI hn (by omega), vp_in_nI hn (by omega), vp_in_nI hl (by omega), nm_e ⟨wr + 1, ?_⟩⟩
  refine qp_loop1 (fun k i a => wY_behind_34 post (nI q) (nI r) (nI (n * 144 + m * 6 + wl)) tn nc rh rc k (nI i) tb th tw nk nl nr p1 p2 p3 nw us bo ct a rs) (fun i a => qp_Cp (n * 144 + m * 6 + wl) (q * 144 + r * 6) i vl a) wr ?_ ?_ (wr + 1) 0 vl (by omega) (by omega) (qp_Cp_0 _ _ _)
  · intro k a I
    refine ⟨vp_in_nI hq (by omega), ?_⟩
    rw [qp_rd (f := nw) hq eWr]
    exact br_t (nI_le (Nat.le_refl _) (by omega)) (H a I)
  · intro k i a hi I ih
    refine ⟨vp_in_nI hq (by omega), ?_⟩
    rw [qp_rd (f := nw) hq eWr]
    refine br_f (nI_ge hi (by omega)) (br_t (nI_pos' (by omega)) ?_)
    rw [qp_iy, nI_add, nI_clamp (by omega), nI_clamp (by omega)]
    exact ⟨vp_in_nI (by omega) (by omega), vp_in_nI (by omega) (by omega), nm_e (nm_r (nI_1 i) (ih _ (qp_Cp_s I hi (by omega) rfl)))⟩
theorem y_behind0 {post : SY → Prop} {q0 q1 : Int32} {n l q m wl wr : Nat} (e0 : q0 = nI n) (e1 : q1 = nI q) (hn : n < 12) (hl : l < 12) (hq : q < 12) (hm : m < 24) (eL : nl n = nI l) (eWl : nw l = nI wl) (eWr : nw q = nI wr) (hw : wl + wr ≤ 6) (ec : ct n = nI (m + 1)) (H : ∀ vl', (∀ c, c < wr → vl' (n * 144 + m * 6 + wl + c) = 0) → (∀ p, (p < n * 144 + m * 6 + wl ∨ n * 144 + m * 6 + wl + wr ≤ p) → vl' p = vl p) → post (tn, nc, rh, rc, tb, th, tw, nk, nl, nr, p1, p2, p3, nw, us, bo, ct, vl', rs)) : wpY_behind post (tn, nc, rh, rc, tb, th, tw, nk, nl, nr, p1, p2, p3, nw, us, bo, ct, vl, rs) q0 q1 (-1) := by
  subst e0 e1
  unfold wpY_behind
  try dsimp only
  rw [qp_rd (f := nl) hn eL, qp_rd (f := nw) hl eWl, qp_rd (f := ct) hn ec, nI_pred, qp_iy]
  refine ⟨vp_in_nI hn (by omega), vp_in_nI hn (by omega), vp_in_nI hl (by omega), nm_e ⟨wr + 1, ?_⟩⟩
  refine qp_loop1 (fun k i a => wY_behind_34 post (nI q) (-1) (nI (n * 144 + m * 6 + wl)) tn nc rh rc k (nI i) tb th tw nk nl nr p1 p2 p3 nw us bo ct a rs) (fun i a => (∀ c, c < i → a (n * 144 + m * 6 + wl + c) = 0) ∧ ∀ p, (p < n * 144 + m * 6 + wl ∨ n * 144 + m * 6 + wl + i ≤ p) → a p = vl p) wr ?_ ?_ (wr + 1) 0 vl (by omega) (by omega) ⟨fun c h => absurd h (Nat.not_lt_zero c), fun _ _ => rfl⟩
  · intro k a I
    refine ⟨vp_in_nI hq (by omega), ?_⟩
    rw [qp_rd (f := nw) hq eWr]
    exact br_t (nI_le (Nat.le_refl _) (by omega)) (H a I.1 I.2)
  · intro k i a hi I ih
    refine ⟨vp_in_nI hq (by omega), ?_⟩
    rw [qp_rd (f := nw) hq eWr]
    refine br_f (nI_ge hi (by omega)) (br_f (by decide) ?_)
    rw [nI_add, nI_clamp (by omega)]
    refine ⟨vp_in_nI (by omega) (by omega), nm_e (nm_r (nI_1 i) (ih _ ⟨fun c hc => ?_, fun p hp => ?_⟩))⟩
    · by_cases z : c = i
      · subst z; rw [pk_us]
      · rw [pk_un (by omega)]; exact I.1 c (by omega)
    · rw [pk_un (by omega)]; exact I.2 p (by omega)
theorem y_join {post : SY → Prop} {n l r a b w wl wr m : Nat} {kd : Int32} {S Q : List qp_Row} (hn : n < 12) (hl : l < n) (hr : r < n) (eL : nl n = nI l) (eR : nr n = nI r) (eWl : nw l = nI wl) (eWr : nw r = nI wr) (hwl : wl ≤ 6) (hwr : wr ≤ 6) (hw : w ≤ 6) (eA : p1 n = nI a) (ha : a < wl) (eB : p2 n = nI b) (hb : b < wr) (eC : p3 n = kd) (hk : ((kd = 0 ∨ kd = 3) ∧ w = wl + wr) ∨ ((kd = 1 ∨ kd = 2) ∧ w = wl)) (hS : qp_Rep vl l wl S) (eS : ct l = nI S.length) (hS24 : S.length ≤ 24) (hQ : qp_Rep vl r wr Q) (eQ : ct r = nI Q.length) (hQ24 : Q.length ≤ 24) (e0 : ct n = 0) (m1 : kd = 0 ∨ kd = 3 → Q.length ≤ m) (m2 : kd ≠ 0 → 1 ≤ m) (hm : S.length * m ≤ 24) (H : ∀ ct' vl', qp_Out n w (qp_jo S Q a b wl kd S.length) ct vl ct' vl' → post (tn, nc, rh, rc, tb, th, tw, nk, nl, nr, p1, p2, p3, nw, us, bo, ct', vl', rs)) : wpY_joinList post (tn, nc, rh, rc, tb, th, tw, nk, nl, nr, p1, p2, p3, nw, us, bo, ct, vl, rs) (nI n) := by
  have hkd : kd = 0 ∨ kd = 1 ∨ kd = 2 ∨ kd = 3 := by
    rcases hk with ⟨h | h, _⟩ | ⟨h | h, _⟩
    · exact Or.inl h
    · exact Or.inr (Or.inr (Or.inr h))
    · exact Or.inr (Or.inl h)
    · exact Or.inr (Or.inr (Or.inl h))
  unfold wpY_joinList
  try dsimp only
  refine ⟨vp_in_nI hn (by omega), nm_r (qp_rd hn eL) ⟨vp_in_nI hn (by omega), nm_r (qp_rd hn eR) ⟨S.length + 1, ?_⟩⟩⟩
  have v : vp_in (nI n) 12 := vp_in_nI hn (by omega)
  have eC' : p3 (nI n).toNatClampNeg = kd := qp_rd hn eC
  refine qp_loop (fun k i h a' => wY_joinList_17 post (nI n) (nI l) (nI r) k (nI i) tn nc rh rc tb th tw nk nl nr p1 p2 p3 nw us bo h a' rs) (fun i h a' => qp_Out n w (qp_jo S Q a b wl kd i) ct vl h a') S.length ?_ ?_ (S.length + 1) 0 ct vl (by omega) (by omega) (qp_Out_0 e0)
  · intro k h a' O
    have eS' : h l = nI S.length := (O.2.1 l (by omega)).trans eS
    refine ⟨vp_in_nI (by omega) (by omega), ?_⟩
    rw [qp_rd (f := h) (by omega) eS']
    exact br_t (nI_le (Nat.le_refl _) (by omega)) (H h a' O)
  · intro k i h a' hi O ih
    have eS' : h l = nI S.length := (O.2.1 l (by omega)).trans eS
    have hlen := qp_jo_len (S := S) (Q := Q) (a := a) (b := b) (wl := wl) m1 m2 hkd i
    have hmm := Nat.mul_le_mul_right m (show i + 1 ≤ S.length from hi)
    rw [Nat.succ_mul] at hmm
    have es : qp_jo S Q a b wl kd (i + 1) = qp_jb Q (qp_g S i) a b wl kd (qp_jo S Q a b wl kd i) := rfl
    refine ⟨vp_in_nI (by omega) (by omega), ?_⟩
    rw [qp_rd (f := h) (by omega) eS']
    refine br_f (nI_ge hi (by omega)) ⟨Q.length + 1, ?_⟩
    refine qp_loop (fun q j (s : Int32 × (Nat → Int32)) a' => wY_joinList_34 post (wY_joinList_17 post (nI n) (nI l) (nI r) k) (nI n) (nI l) (nI r) (nI i) q s.1 (nI j) tn nc rh rc tb th tw nk nl nr p1 p2 p3 nw us bo s.2 a' rs) (fun j s a' => qp_Out n w (qp_if (kd = 0 ∨ kd = 3) (qp_ji Q (qp_g S i) a b wl (qp_jo S Q a b wl kd i) j) (qp_jo S Q a b wl kd i)) ct vl s.2 a' ∧ ∃ t : Nat, t ≤ j ∧ s.1 = nI t ∧ (t = 0 ↔ ¬ qp_hit Q (qp_g S i) a b j)) Q.length ?_ ?_ (Q.length + 1) 0 (0, h) a' (by omega) (by omega) ⟨?_, 0, by omega, rfl, fun _ => fun ⟨t, ht, _⟩ => absurd ht (Nat.not_lt_zero t), fun _ => rfl⟩
    · -- all right rows looked at
      intro q s a1 I
      obtain ⟨x5, h1⟩ := s
      obtain ⟨O1, t, ht, ex, hhit⟩ := I
      dsimp only at O1 ex
      subst ex
      have eQ' : h1 r = nI Q.length := (O1.2.1 r (by omega)).trans eQ
      have hS' := qp_Out_rd O1 hS hS24 hwl (by omega)
      refine ⟨vp_in_nI (by omega) (by omega), ?_⟩
      dsimp only
      rw [qp_rd (f := h1) (by omega) eQ', eC']
      refine br_t (nI_le (Nat.le_refl _) (by omega)) ⟨v, ?_⟩
      rcases hk with ⟨h3 | h3, ew⟩ | ⟨h3 | h3, ew⟩
      · subst h3
        rw [qp_if_t (Or.inl rfl)] at O1
        refine br_f (by decide) ?_
        unfold wY_joinList_161 wY_joinList_184
        rw [eC']
        refine ⟨v, br_f (by decide) ⟨v, br_f (by decide) (nm_r (nI_1 i) (ih h1 a1 ?_))⟩⟩
        rw [es]; exact O1
      · subst h3
        rw [qp_if_t (Or.inr rfl)] at O1
        have hml := m2 (by decide)
        refine br_f (by decide) ?_
        unfold wY_joinList_161 wY_joinList_184
        rw [eC']
        refine ⟨v, br_f (by decide) ⟨v, br_t rfl ?_⟩⟩
        refine pk_eq t 0 (fun z => ?_) (fun z => ?_) rfl nI_0.symm (by omega) (by omega)
        · have hno := hhit.mp z
          rw [qp_ji_no hno] at O1
          refine y_copyC rfl rfl rfl hn (by omega) eWl hwl (qp_Out_h O1) (by omega) (by omega) (by omega) ?_
          intro vl1 hc1
          refine y_behind0 (m := (qp_jo S Q a b wl 3 i).length) rfl rfl hn (by omega) (by omega) (by omega) eL eWl eWr (by omega) pk_us ?_
          intro vl2 hz hk2
          refine nm_r (nI_1 i) (ih _ _ ?_)
          rw [es]
          show qp_Out n w (qp_if (qp_hit Q (qp_g S i) a b Q.length) _ _) ct vl _ _
          rw [qp_if_f hno]
          refine qp_Out_zr O1 (by omega) hw ew hS' hi (fun c hc => ?_) (fun c c1 c2 => ?_) (fun p hp => ?_)
          · rw [hk2 _ (by omega)]; exact hc1.1 c hc
          · have := hz (c - wl) (by omega)
            rw [show n * 144 + (qp_jo S Q a b wl 3 i).length * 6 + wl + (c - wl) = n * 144 + (qp_jo S Q a b wl 3 i).length * 6 + c by omega] at this
            exact this
          · rw [hk2 p (by omega)]; exact hc1.2 p (by omega)
        · have hyes : qp_hit Q (qp_g S i) a b Q.length := Classical.byContradiction (fun y => z (hhit.mpr y))
          refine nm_r (nI_1 i) (ih h1 a1 ?_)
          rw [es]
          show qp_Out n w (qp_if (qp_hit Q (qp_g S i) a b Q.length) _ _) ct vl _ _
          rw [qp_if_t hyes]; exact O1
      · subst h3
        subst ew
        rw [qp_if_f (by decide)] at O1
        have hml := m2 (by decide)
        refine br_t rfl ?_
        refine pk_le t 0 (fun z => ?_) (fun z => ?_) rfl nI_0.symm (by omega) (by omega)
        · have hno := hhit.mp (by omega)
          unfold wY_joinList_161 wY_joinList_184
          rw [eC']
          refine ⟨v, br_f (by decide) ⟨v, br_f (by decide) (nm_r (nI_1 i) (ih h1 a1 ?_))⟩⟩
          rw [es]
          show qp_Out n w (qp_if (qp_hit Q (qp_g S i) a b Q.length) _ _) ct vl _ _
          rw [qp_if_f hno]; exact O1
        · have hyes : qp_hit Q (qp_g S i) a b Q.length := Classical.byContradiction (fun y => by have := hhit.mpr y; omega)
          refine y_copy rfl rfl rfl hn (by omega) (by omega) eWl hwl O1 (by omega) hS' hi hS24 ?_
          intro ct' vl' O'
          try dsimp only
          unfold wY_joinList_161 wY_joinList_184
          rw [eC']
          refine ⟨v, br_f (by decide) ⟨v, br_f (by decide) (nm_r (nI_1 i) (ih ct' vl' ?_))⟩⟩
          rw [es]
          show qp_Out n w (qp_if (qp_hit Q (qp_g S i) a b Q.length) _ _) ct vl _ _
          rw [qp_if_t hyes]; exact O'
      · subst h3
        subst ew
        rw [qp_if_f (by decide)] at O1
        have hml := m2 (by decide)
        refine br_f (by decide) ?_
        unfold wY_joinList_161
        rw [eC']
        refine ⟨v, br_t rfl (pk_eq t 0 (fun z => ?_) (fun z => ?_) rfl nI_0.symm (by omega) (by omega))⟩
        · have hno := hhit.mp z
          refine y_copy rfl rfl rfl hn (by omega) (by omega) eWl hwl O1 (by omega) hS' hi hS24 ?_
          intro ct' vl' O'
          try dsimp only
          unfold wY_joinList_184
          rw [eC']
          refine ⟨v, br_f (by decide) (nm_r (nI_1 i) (ih ct' vl' ?_))⟩
          rw [es]
          show qp_Out n w (qp_if (qp_hit Q (qp_g S i) a b Q.length) _ _) ct vl _ _
          rw [qp_if_f hno]; exact O'
        · have hyes : qp_hit Q (qp_g S i) a b Q.length := Classical.byContradiction (fun y => z (hhit.mpr y))
          unfold wY_joinList_184
          rw [eC']
          refine ⟨v, br_f (by decide) (nm_r (nI_1 i) (ih h1 a1 ?_))⟩
          rw [es]
          show qp_Out n w (qp_if (qp_hit Q (qp_g S i) a b Q.length) _ _) ct vl _ _
          rw [qp_if_t hyes]; exact O1
    · -- one right row
      intro q j s a1 hj I ihj
      obtain ⟨x5, h1⟩ := s
      obtain ⟨O1, t, ht, ex, hhit⟩ := I
      dsimp only at O1 ex
      subst ex
      have eQ' : h1 r = nI Q.length := (O1.2.1 r (by omega)).trans eQ
      have hS' := qp_Out_rd O1 hS hS24 hwl (by omega)
      have hQ' := qp_Out_rd O1 hQ hQ24 hwr (by omega)
      have hjl := qp_ji_len Q (qp_g S i) a b wl (qp_jo S Q a b wl kd i) j
      refine ⟨vp_in_nI (by omega) (by omega), ?_⟩
      dsimp only
      rw [qp_rd (f := h1) (by omega) eQ']
      refine br_f (nI_ge hj (by omega)) ⟨v, ?_⟩
      rw [qp_rd (f := p1) hn eA, qp_rd (f := p2) hn eB, qp_iy, qp_iy, nI_clamp (show l * 144 + i * 6 + a < 2 ^ 31 by omega), nI_clamp (show r * 144 + j * 6 + b < 2 ^ 31 by omega), hS' i a hi ha, hQ' j b hj hb]
      refine ⟨vp_in_nI (by omega) (by omega), v, vp_in_nI (by omega) (by omega), br_c (fun hp => ?_) (fun hp => ?_)⟩
      · have hh : (t + 1 = 0 ↔ ¬ qp_hit Q (qp_g S i) a b (j + 1)) := ⟨fun z => by omega, fun z => absurd ⟨j, by omega, hp⟩ z⟩
        refine nm_r (nI_1 t) ⟨v, ?_⟩
        rw [eC']
        have pairs : (kd = 0 ∨ kd = 3) → w = wl + wr → wY_joinList_116 post (wY_joinList_17 post (nI n) (nI l) (nI r) k) (wY_joinList_34 post (wY_joinList_17 post (nI n) (nI l) (nI r) k) (nI n) (nI l) (nI r) (nI i) q) (nI n) (nI l) (nI r) (nI i) (nI (t + 1)) (nI j) tn nc rh rc tb th tw nk nl nr p1 p2 p3 nw us bo h1 a1 rs := by
          intro h03 ew
          have hQm := m1 h03
          rw [qp_if_t h03] at O1
          unfold wY_joinList_116
          refine y_copyC rfl rfl rfl hn (by omega) eWl hwl (qp_Out_h O1) (by omega) (by omega) (by omega) ?_
          intro vl1 hc1
          refine y_behind (m := (qp_ji Q (qp_g S i) a b wl (qp_jo S Q a b wl kd i) j).length) rfl rfl rfl hn (by omega) (by omega) (by omega) (by omega) eL eWl eWr (by omega) (by omega) pk_us ?_
          intro vl2 hc2
          refine nm_r (nI_1 j) (ihj (nI (t + 1), _) _ ⟨?_, t + 1, by omega, rfl, hh⟩)
          rw [qp_if_t h03]
          show qp_Out n w (qp_if (qp_g S i a = qp_g Q j b) _ _) ct vl _ _
          rw [qp_if_t hp]
          exact qp_Out_pr O1 (by omega) hw ew hS' hi hQ' hj hQ24 (by omega) hc1 hc2
        rcases hk with ⟨h3 | h3, ew⟩ | ⟨h3 | h3, ew⟩
        · exact br_t h3 (pairs (Or.inl h3) ew)
        · exact br_f (by rw [h3]; decide) ⟨v, br_t h3 (pairs (Or.inr h3) ew)⟩
        · have hnot : ¬ (kd = 0 ∨ kd = 3) := by rw [h3]; decide
          rw [qp_if_f hnot] at O1
          refine br_f (by rw [h3]; decide) ⟨v, br_f (by rw [h3]; decide) (nm_r (nI_1 j) (ihj (nI (t + 1), h1) a1 ⟨?_, t + 1, by omega, rfl, hh⟩))⟩
          rw [qp_if_f hnot]; exact O1
        · have hnot : ¬ (kd = 0 ∨ kd = 3) := by rw [h3]; decide
          rw [qp_if_f hnot] at O1
          refine br_f (by rw [h3]; decide) ⟨v, br_f (by rw [h3]; decide) (nm_r (nI_1 j) (ihj (nI (t + 1), h1) a1 ⟨?_, t + 1, by omega, rfl, hh⟩))⟩
          rw [qp_if_f hnot]; exact O1
      · refine nm_r (nI_1 j) (ihj (nI t, h1) a1 ⟨?_, t, by omega, rfl, ?_⟩)
        · have e : qp_ji Q (qp_g S i) a b wl (qp_jo S Q a b wl kd i) (j + 1) = qp_ji Q (qp_g S i) a b wl (qp_jo S Q a b wl kd i) j := qp_if_f hp
          rw [e]; exact O1
        · rw [hhit]
          constructor
          · rintro y ⟨u, hu, e⟩
            by_cases z : u = j
            · subst z; exact hp e
            · exact y ⟨u, by omega, e⟩
          · rintro y ⟨u, hu, e⟩
            exact y ⟨u, by omega, e⟩
    · by_cases h03 : kd = 0 ∨ kd = 3
      · rw [qp_if_t h03]; exact O
      · rw [qp_if_f h03]; exact O
end qp_Y4
