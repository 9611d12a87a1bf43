/-! the runs -/
theorem qp_bl_25 (k r c : Int32) (d l rr : Nat) : qp_bl k r c d l rr ≤ 25 := by
  unfold qp_bl
  generalize (if r = -1 then 0 else rr) = q
  generalize qp_bk k c d l q = b
  split
  · omega
  · split <;> omega
section qp_XR
variable {tc nc rh rc : Int32} {tw th tb nk nl nr nw us ca cb cc nn bo lh lc rs : Nat → Int32}
theorem x_run {post : Int32 → SX → Prop} {N i w : Nat} {bd : Nat → Nat} {LL : Nat → List qp_Row} {p1 p2 p3 : Nat → Int32} (hN : N ≤ 12) (hi : i < N) (ok : ∀ j, j < N → qp_OK (nk j) (nl j) (nr j) (nw j) (ca j) (cb j) (cc j) (nn j) (p1 j) (p2 j) (p3 j) nw j) (hT : ∀ t, t < 4 → ∃ h : Nat, h ≤ 10 ∧ th t = nI h) (hb : ∀ j, j < N → bd j = qp_bs nk nl nr cc nn th j bd) (hl : ∀ j, j < N → LL j = qp_sem nk nl nr nw ca cb cc nn th tb j LL) (hlen : ∀ j, j < N → bd j ≤ 24 → (LL j).length ≤ bd j) (hW : ∀ j, j < N → (nw j).toNatClampNeg ≤ 6) (ew : nw i = nI w) (hw6 : w ≤ 6) (Hb : ¬ bd i ≤ 24 → ∀ bo', post (-10) (tc, nI N, rh, rc, tw, th, tb, nk, nl, nr, nw, us, ca, cb, cc, nn, bo', lh, lc, rs)) (H : bd i ≤ 24 → ∀ bo' lh' lc' rs', (∀ r c, r < (LL i).length → c < w → rs' (r * 6 + c) = qp_g (LL i) r c) → post (nI (LL i).length) (tc, nI N, nI (LL i).length, nI w, tw, th, tb, nk, nl, nr, nw, us, ca, cb, cc, nn, bo', lh', lc', rs')) : wpX_run post (tc, nI N, rh, rc, tw, th, tb, nk, nl, nr, nw, us, ca, cb, cc, nn, bo, lh, lc, rs) (nI i) := by
  have hi12 : i < 12 := by omega
  have v : vp_in (nI i) 12 := vp_in_nI hi12 (by omega)
  unfold wpX_run wpX_hasNode
  try dsimp only
  refine br_f (nI_pos (by omega)) (br_f (nI_ge hi (by omega)) (br_f (by decide) ⟨i + 2, ?_⟩))
  refine qp_loop1 (fun k j b => wX_run_13 post (nI i) tc (nI N) rh rc k (nI j) tw th tb nk nl nr nw us ca cb cc nn b lh lc rs) (fun j b => ∀ t, t < j → b t = qp_cd (bd t)) (i + 1) ?_ ?_ (i + 2) 0 bo (by omega) (by omega) (fun t h => absurd h (Nat.not_lt_zero t))
  · intro k b J
    refine br_t (nI_lt (by omega) (by omega)) ⟨v, ?_⟩
    rw [qp_rd (f := b) hi12 (J i (by omega))]
    by_cases z : bd i ≤ 24
    · refine br_f (qp_cd_n z) ⟨i + 2, ?_⟩
      refine qp_loop (fun k j h a => wX_run_51 post (nI i) k (nI j) tc (nI N) rh rc tw th tb nk nl nr nw us ca cb cc nn b h a rs) (fun j h a => qp_Inv j bd LL nw h a) (i + 1) ?_ ?_ (i + 2) 0 lh lc (by omega) (by omega) qp_Inv_0
      · intro k h a I
        obtain ⟨j1, j2⟩ := I i (by omega) z
        have hli := hlen i hi z
        rw [qp_cl ew (by omega)] at j2
        refine br_t (nI_lt (by omega) (by omega)) ?_
        refine x_keep hi12 j1 (by omega) ew hw6 ?_
        intro rs' hr
        exact H z b h a rs' (fun r c hr1 hc1 => (hr r c hr1 hc1).trans (j2 r c hr1 hc1))
      · intro k j h a hj I ih
        refine br_f (nI_nlt (by omega) (by omega)) ⟨vp_in_nI (by omega) (by omega), ?_⟩
        rw [qp_rd (f := b) (by omega) (J j (by omega))]
        by_cases y : bd j ≤ 24
        · refine br_f (qp_cd_n y) ?_
          refine x_workOut hN (by omega) ok hT hb hl hlen I y ?_
          intro lh' lc' O
          exact nm_r (nI_1 j) (ih lh' lc' (qp_Inv_s I O rfl (fun t ht => hW t (by omega)) (fun t ht h24 => by have := hlen t (by omega) h24; omega)))
        · exact br_t (qp_cd_f y) (nm_r (nI_1 j) (ih h a (qp_Inv_k I y)))
    · exact br_t (qp_cd_f z) (Hb z b)
  · intro k j b hj J ih
    refine br_f (nI_nlt (by omega) (by omega)) ?_
    refine x_boundOf (by omega) (ok j (by omega)) hT J ?_
    rw [← hb j (by omega), nI_clamp (by omega)]
    refine ⟨vp_in_nI (by omega) (by omega), nm_e (nm_r (nI_1 j) (ih _ (fun t ht => ?_)))⟩
    by_cases z : t = j
    · subst z; rw [pk_us]
    · rw [pk_un z]; exact J t (by omega)
end qp_XR
section qp_YR
variable {tn nc rh rc : Int32} {tb th tw nk nl nr p1 p2 p3 nw us bo ct vl rs : Nat → Int32}
theorem y_run {post : Int32 → SY → Prop} {N i w : Nat} {bd : Nat → Nat} {LL : Nat → List qp_Row} {ca cb cc nn tbX : Nat → Int32} (hN : N ≤ 12) (hi : i < N) (ok : ∀ j, j < N → qp_OK (nk j) (nl j) (nr j) (nw j) (ca j) (cb j) (cc j) (nn j) (p1 j) (p2 j) (p3 j) nw j) (hT : qp_TB th tbX tb) (hb : ∀ j, j < N → bd j = qp_bs nk nl nr cc nn th j bd) (hl : ∀ j, j < N → LL j = qp_sem nk nl nr nw ca cb cc nn th tbX j LL) (hlen : ∀ j, j < N → bd j ≤ 24 → (LL j).length ≤ bd j) (h25 : ∀ j, j < N → bd j ≤ 25) (hW : ∀ j, j < N → (nw j).toNatClampNeg ≤ 6) (ew : nw i = nI w) (hw6 : w ≤ 6) (Hb : ¬ bd i ≤ 24 → ∀ bo' ct' vl', post (-10) (tn, nI N, rh, rc, tb, th, tw, nk, nl, nr, p1, p2, p3, nw, us, bo', ct', vl', rs)) (H : bd i ≤ 24 → ∀ bo' ct' vl' rs', (∀ r c, r < (LL i).length → c < w → rs' (r * 6 + c) = qp_g (LL i) r c) → post (nI (LL i).length) (tn, nI N, nI (LL i).length, nI w, tb, th, tw, nk, nl, nr, p1, p2, p3, nw, us, bo', ct', vl', rs')) : wpY_run post (tn, nI N, rh, rc, tb, th, tw, nk, nl, nr, p1, p2, p3, nw, us, bo, ct, vl, rs) (nI i) := by
  have hi12 : i < 12 := by omega
  have v : vp_in (nI i) 12 := vp_in_nI hi12 (by omega)
  have hT' : ∀ t, t < 4 → ∃ h : Nat, h ≤ 10 ∧ th t = nI h := fun t ht => by
    obtain ⟨h, h1, h2, _⟩ := hT t ht
    exact ⟨h, h1, h2⟩
  unfold wpY_run wpY_noNode
  try dsimp only
  refine br_f (nI_pos (by omega)) (br_t (nI_lt hi (by omega)) (br_t rfl ⟨i + 2, ?_⟩))
  refine qp_loop (fun k j (s : (Nat → Int32) × (Nat → Int32)) a => wY_run_13 post (nI i) k (nI j) tn (nI N) rh rc tb th tw nk nl nr p1 p2 p3 nw us s.1 s.2 a rs) (fun j s a => (∀ t, t < j → s.1 t = nI (bd t)) ∧ qp_Inv j bd LL nw s.2 a) (i + 1) ?_ ?_ (i + 2) 0 (bo, ct) vl (by omega) (by omega) ⟨fun t h => absurd h (Nat.not_lt_zero t), qp_Inv_0⟩
  · intro k s a J
    obtain ⟨b, h⟩ := s
    obtain ⟨J, I⟩ := J
    dsimp only at J I
    refine br_t (nI_lt (by omega) (by omega)) ⟨v, ?_⟩
    have h25i := h25 i hi
    try dsimp only
    rw [qp_rd (f := b) hi12 (J i (by omega))]
    refine pk_le (bd i) 24 (fun z => ⟨145, ?_⟩) (fun z => Hb (by omega) b h a) rfl rfl (by omega) (by omega)
    obtain ⟨j1, j2⟩ := I i (by omega) z
    have hli := hlen i hi z
    rw [qp_cl ew (by omega)] at j2
    refine qp_loop1 (fun k j r => wY_run_67 post (nI i) tn (nI N) rh rc k (nI j) tb th tw nk nl nr p1 p2 p3 nw us b h a r) (fun j r => ∀ p, p < j → r p = a (i * 144 + p)) 144 ?_ ?_ 145 0 rs (by omega) (by omega) (fun t h => absurd h (Nat.not_lt_zero t))
    · intro k r J
      refine br_t (nI_le (a := 144) (Nat.le_refl _) (by omega)) ⟨v, nm_r (qp_rd hi12 j1) ⟨v, nm_r (qp_rd hi12 ew) ?_⟩⟩
      refine H z b h a r (fun r1 c1 hr1 hc1 => ?_)
      rw [J _ (by omega), ← j2 r1 c1 hr1 hc1, Nat.add_assoc]
    · intro k j r hj J ih
      refine br_f (nI_ge (b := 144) hj (by omega)) ?_
      have e : nI i * 144 + nI j = nI (i * 144 + j) := by rw [show (144 : Int32) = nI 144 from rfl, pk_mul, nI_add]
      rw [e, nI_clamp (by omega), nI_clamp (by omega)]
      refine ⟨vp_in_nI (by omega) (by omega), vp_in_nI hj (by omega), nm_e (nm_r (nI_1 j) (ih _ (fun p hp => ?_)))⟩
      by_cases y : p = j
      · subst y; rw [pk_us]
      · rw [pk_un y]; exact J p (by omega)
  · intro k j s a hj J ih
    obtain ⟨b, h⟩ := s
    obtain ⟨J, I⟩ := J
    dsimp only at J I
    have h25j := h25 j (by omega)
    have J' : ∀ t, t < j + 1 → upd b j (nI (bd j)) t = nI (bd t) := fun t ht => by
      by_cases z : t = j
      · subst z; rw [pk_us]
      · rw [pk_un z]; exact J t (by omega)
    refine br_f (nI_nlt (by omega) (by omega)) ?_
    refine y_boundOf (by omega) (ok j (by omega)) hT' J (fun t ht => h25 t (by omega)) ?_
    rw [← hb j (by omega), nI_clamp (by omega)]
    refine ⟨vp_in_nI (by omega) (by omega), nm_e ⟨vp_in_nI (by omega) (by omega), ?_⟩⟩
    rw [pk_us]
    refine pk_lt 24 (bd j) (fun z => ?_) (fun z => ?_) rfl rfl (by omega) (by omega)
    · exact nm_r (nI_1 j) (ih (upd b j (nI (bd j)), h) a ⟨J', qp_Inv_k I (by omega)⟩)
    · refine y_work hN (by omega) ok hT hb hl hlen I z ?_
      intro ct' vl' O
      exact nm_r (nI_1 j) (ih (upd b j (nI (bd j)), ct') vl' ⟨J', qp_Inv_s I O rfl (fun t ht => hW t (by omega)) (fun t ht h24 => by have := hlen t (by omega) h24; omega)⟩)
end qp_YR
