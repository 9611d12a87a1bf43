/-! what a node is, and what a run works out -/
def qp_U (l : Int32) (W : Nat → Int32) (i x wl : Nat) : Prop := x < i ∧ l = nI x ∧ 1 ≤ wl ∧ wl ≤ 6 ∧ W x = nI wl
def qp_OK (k l r w a b c d q1 q2 q3 : Int32) (W : Nat → Int32) (i : Nat) : Prop := ∃ wn : Nat, 1 ≤ wn ∧ wn ≤ 6 ∧ w = nI wn ∧
  ((k = 0 ∧ wn ≤ 3 ∧ ∃ t : Nat, t < 4 ∧ d = nI t ∧ q1 = nI t) ∨
  (k = 1 ∧ r = -1 ∧ ∃ x a' : Nat, qp_U l W i x wn ∧ a' < wn ∧ a = nI a' ∧ q1 = nI a' ∧ q2 = c ∧ q3 = d) ∨
  (k = 2 ∧ r = -1 ∧ ∃ x a' b' : Nat, qp_U l W i x wn ∧ a' < wn ∧ b' < wn ∧ a = nI a' ∧ b = nI b' ∧ q1 = nI a' ∧ q2 = c ∧ q3 = nI b') ∨
  (k = 3 ∧ r = -1 ∧ ∃ x wl a' b' : Nat, qp_U l W i x wl ∧ wn = wl + 1 ∧ a' < wl ∧ b' < wl ∧ a = nI a' ∧ b = nI b' ∧ q1 = c ∧ q2 = nI a' ∧ q3 = nI b') ∨
  (k = 4 ∧ r = -1 ∧ ∃ x wl : Nat, qp_U l W i x wl ∧ q1 = d ∧ ∀ e, e < wn → ∃ q : Nat, q < wl ∧ qp_ch d e = nI q) ∨
  (k = 5 ∧ ∃ x wl y wr a' b' : Nat, qp_U l W i x wl ∧ qp_U r W i y wr ∧ a' < wl ∧ b' < wr ∧ a = nI a' ∧ b = nI b' ∧ q1 = nI a' ∧ q2 = nI b' ∧ q3 = c ∧ (((c = 0 ∨ c = 3) ∧ wn = wl + wr) ∨ ((c = 1 ∨ c = 2) ∧ wn = wl))) ∨
  (k = 6 ∧ ∃ x y : Nat, qp_U l W i x wn ∧ qp_U r W i y wn) ∨
  (k = 7 ∧ r = -1 ∧ wn = 2 ∧ ∃ x wl a' b' : Nat, qp_U l W i x wl ∧ a' < wl ∧ b' < wl ∧ a = nI a' ∧ b = nI b' ∧ q1 = nI a' ∧ q2 = c ∧ q3 = nI b' ∧ (c = 0 ∨ c = 1 ∨ c = 2 ∨ c = 3)) ∨
  (k = 8 ∧ r = -1 ∧ ∃ x : Nat, qp_U l W i x wn) ∨
  (k = 9 ∧ r = -1 ∧ ∃ x m : Nat, qp_U l W i x wn ∧ m < 2 ^ 31 ∧ d = nI m ∧ q1 = nI m) ∨
  (k = 10 ∧ r = -1 ∧ ∃ x a' : Nat, qp_U l W i x wn ∧ a' < wn ∧ a = nI a' ∧ q1 = nI a' ∧ ((c = 4 ∧ q2 = 1) ∨ (c = 2 ∧ q2 = 0))))
theorem qp_U_c {W W' : Nat → Int32} {i : Nat} (hW : ∀ j, j < i → W' j = W j) (l : Int32) : qp_U l W' i = qp_U l W i := by
  funext x wl
  apply propext
  constructor
  · intro ⟨h1, h2, h3, h4, h5⟩
    exact ⟨h1, h2, h3, h4, (hW x h1).symm.trans h5⟩
  · intro ⟨h1, h2, h3, h4, h5⟩
    exact ⟨h1, h2, h3, h4, (hW x h1).trans h5⟩
theorem qp_OK_c {k l r w a b c d q1 q2 q3 : Int32} {W W' : Nat → Int32} {i : Nat} (hW : ∀ j, j < i → W' j = W j) (h : qp_OK k l r w a b c d q1 q2 q3 W i) : qp_OK k l r w a b c d q1 q2 q3 W' i := by
  unfold qp_OK at *
  rw [qp_U_c hW l, qp_U_c hW r]
  exact h
/-! bounds -/
def qp_bk (k c : Int32) (d l r : Nat) : Nat := if k = 5 then (if c = 0 then l * r else if c = 3 then (if r = 0 then l else l * r) else l) else if k = 6 then l + r else if k = 9 then (if d < l then d else l) else l
def qp_bl (k r : Int32) (c : Int32) (d l rr : Nat) : Nat := if 24 < l ∨ 24 < (if r = -1 then 0 else rr) then 25 else if 24 < qp_bk k c d l (if r = -1 then 0 else rr) then 25 else qp_bk k c d l (if r = -1 then 0 else rr)
def qp_bs (K L R C D th : Nat → Int32) (i : Nat) (bd : Nat → Nat) : Nat := if K i = 0 then (th (D i).toNatClampNeg).toNatClampNeg else qp_bl (K i) (R i) (C i) (D i).toNatClampNeg (bd (L i).toNatClampNeg) (bd (R i).toNatClampNeg)
noncomputable def qp_sem (K L R W A B C D th tb : Nat → Int32) (i : Nat) (LL : Nat → List qp_Row) : List qp_Row :=
  if K i = 0 then qp_tab (th (D i).toNatClampNeg).toNatClampNeg (fun r c => tb ((D i).toNatClampNeg * 30 + r * 3 + c)) else
  if K i = 1 then qp_fl (LL (L i).toNatClampNeg) (fun x => qp_ful (x (A i).toNatClampNeg) (C i) (D i)) (LL (L i).toNatClampNeg).length else
  if K i = 2 then qp_fl (LL (L i).toNatClampNeg) (fun x => qp_ful (x (A i).toNatClampNeg) (C i) (x (B i).toNatClampNeg)) (LL (L i).toNatClampNeg).length else
  if K i = 3 then qp_tab (LL (L i).toNatClampNeg).length (qp_mp (LL (L i).toNatClampNeg) (W (L i).toNatClampNeg).toNatClampNeg (C i) (A i).toNatClampNeg (B i).toNatClampNeg) else
  if K i = 4 then qp_tab (LL (L i).toNatClampNeg).length (qp_pr (LL (L i).toNatClampNeg) (D i)) else
  if K i = 5 then qp_jo (LL (L i).toNatClampNeg) (LL (R i).toNatClampNeg) (A i).toNatClampNeg (B i).toNatClampNeg (W (L i).toNatClampNeg).toNatClampNeg (C i) (LL (L i).toNatClampNeg).length else
  if K i = 6 then qp_tab (LL (L i).toNatClampNeg).length (qp_g (LL (L i).toNatClampNeg)) ++ qp_tab (LL (R i).toNatClampNeg).length (qp_g (LL (R i).toNatClampNeg)) else
  if K i = 7 then qp_gp (LL (L i).toNatClampNeg) (C i) (A i).toNatClampNeg (B i).toNatClampNeg (LL (L i).toNatClampNeg).length (LL (L i).toNatClampNeg).length else
  if K i = 8 then qp_di (LL (L i).toNatClampNeg) (W i).toNatClampNeg (LL (L i).toNatClampNeg).length else
  if K i = 9 then qp_tab (if (D i).toNatClampNeg < (LL (L i).toNatClampNeg).length then (D i).toNatClampNeg else (LL (L i).toNatClampNeg).length) (qp_g (LL (L i).toNatClampNeg)) else
  qp_tab (LL (L i).toNatClampNeg).length (qp_so (LL (L i).toNatClampNeg) (C i = 4) (A i).toNatClampNeg)
/-- a node's child, as the code reads it -/
theorem qp_U_n {l : Int32} {W : Nat → Int32} {i x wl : Nat} (h : qp_U l W i x wl) (hi : i ≤ 12) : l.toNatClampNeg = x := by
  obtain ⟨h1, h2, _⟩ := h
  rw [h2]; exact nI_clamp (by omega)
/-- every node is a scan, or has a left child before it, and a right one unless R is -1 -/
theorem qp_OK_lr {k l r w a b c d q1 q2 q3 : Int32} {W : Nat → Int32} {i : Nat} (hi : i ≤ 12) (h : qp_OK k l r w a b c d q1 q2 q3 W i) : k = 0 ∨ (l.toNatClampNeg < i ∧ (r = -1 ∨ r.toNatClampNeg < i)) := by
  obtain ⟨wn, _, _, _, h⟩ := h
  rcases h with h | h | h | h | h | h | h | h | h | h | h
  · exact Or.inl h.1
  · obtain ⟨_, hr, x, _, hU, _⟩ := h
    exact Or.inr ⟨by rw [qp_U_n hU hi]; exact hU.1, Or.inl hr⟩
  · obtain ⟨_, hr, x, _, _, hU, _⟩ := h
    exact Or.inr ⟨by rw [qp_U_n hU hi]; exact hU.1, Or.inl hr⟩
  · obtain ⟨_, hr, x, _, _, _, hU, _⟩ := h
    exact Or.inr ⟨by rw [qp_U_n hU hi]; exact hU.1, Or.inl hr⟩
  · obtain ⟨_, hr, x, _, hU, _⟩ := h
    exact Or.inr ⟨by rw [qp_U_n hU hi]; exact hU.1, Or.inl hr⟩
  · obtain ⟨_, x, _, y, _, _, _, hU, hV, _⟩ := h
    exact Or.inr ⟨by rw [qp_U_n hU hi]; exact hU.1, Or.inr (by rw [qp_U_n hV hi]; exact hV.1)⟩
  · obtain ⟨_, x, y, hU, hV⟩ := h
    exact Or.inr ⟨by rw [qp_U_n hU hi]; exact hU.1, Or.inr (by rw [qp_U_n hV hi]; exact hV.1)⟩
  · obtain ⟨_, hr, _, x, _, _, _, hU, _⟩ := h
    exact Or.inr ⟨by rw [qp_U_n hU hi]; exact hU.1, Or.inl hr⟩
  · obtain ⟨_, hr, x, hU⟩ := h
    exact Or.inr ⟨by rw [qp_U_n hU hi]; exact hU.1, Or.inl hr⟩
  · obtain ⟨_, hr, x, _, hU, _⟩ := h
    exact Or.inr ⟨by rw [qp_U_n hU hi]; exact hU.1, Or.inl hr⟩
  · obtain ⟨_, hr, x, _, hU, _⟩ := h
    exact Or.inr ⟨by rw [qp_U_n hU hi]; exact hU.1, Or.inl hr⟩
theorem qp_OK_5 {k l r w a b c d q1 q2 q3 : Int32} {W : Nat → Int32} {i : Nat} (hi : i ≤ 12) (h : qp_OK k l r w a b c d q1 q2 q3 W i) (hk : k = 5 ∨ k = 6) : r.toNatClampNeg < i := by
  obtain ⟨wn, _, _, _, h⟩ := h
  rcases h with h | h | h | h | h | h | h | h | h | h | h
  · rw [h.1] at hk; exact absurd hk (by decide)
  · rw [h.1] at hk; exact absurd hk (by decide)
  · rw [h.1] at hk; exact absurd hk (by decide)
  · rw [h.1] at hk; exact absurd hk (by decide)
  · rw [h.1] at hk; exact absurd hk (by decide)
  · obtain ⟨_, x, _, y, _, _, _, hU, hV, _⟩ := h
    rw [qp_U_n hV hi]; exact hV.1
  · obtain ⟨_, x, y, hU, hV⟩ := h
    rw [qp_U_n hV hi]; exact hV.1
  · rw [h.1] at hk; exact absurd hk (by decide)
  · rw [h.1] at hk; exact absurd hk (by decide)
  · rw [h.1] at hk; exact absurd hk (by decide)
  · rw [h.1] at hk; exact absurd hk (by decide)
section qp_PL
variable {n : Nat} {K L R W A B C D p1 p2 p3 th tb : Nat → Int32}
theorem qp_bs_loc (hn : n ≤ 12) (hOK : ∀ i, i < n → qp_OK (K i) (L i) (R i) (W i) (A i) (B i) (C i) (D i) (p1 i) (p2 i) (p3 i) W i) (j : Nat) (hj : j < n) (g g' : Nat → Nat) (e : ∀ t, t < j → g t = g' t) : qp_bs K L R C D th j g = qp_bs K L R C D th j g' := by
  unfold qp_bs
  by_cases hk : K j = 0
  · rw [if_pos hk, if_pos hk]
  · rw [if_neg hk, if_neg hk]
    rcases qp_OK_lr (by omega) (hOK j hj) with h | ⟨h1, h2⟩
    · exact absurd h hk
    · rw [e _ h1]
      rcases h2 with h2 | h2
      · unfold qp_bl
        rw [if_pos h2, if_pos h2]
      · rw [e _ h2]
theorem qp_sem_loc (hn : n ≤ 12) (hOK : ∀ i, i < n → qp_OK (K i) (L i) (R i) (W i) (A i) (B i) (C i) (D i) (p1 i) (p2 i) (p3 i) W i) (j : Nat) (hj : j < n) (g g' : Nat → List qp_Row) (e : ∀ t, t < j → g t = g' t) : qp_sem K L R W A B C D th tb j g = qp_sem K L R W A B C D th tb j g' := by
  unfold qp_sem
  by_cases hk : K j = 0
  · rw [if_pos hk, if_pos hk]
  · rw [if_neg hk, if_neg hk]
    rcases qp_OK_lr (by omega) (hOK j hj) with h | ⟨h1, h2⟩
    · exact absurd h hk
    · rw [e _ h1]
      by_cases h5 : K j = 5 ∨ K j = 6
      · rw [e _ (qp_OK_5 (by omega) (hOK j hj) h5)]
      · have h5' : ¬ K j = 5 := fun z => h5 (Or.inl z)
        have h6' : ¬ K j = 6 := fun z => h5 (Or.inr z)
        rw [if_neg h5', if_neg h6', if_neg h5', if_neg h6']
theorem qp_run_ex (hn : n ≤ 12) (hOK : ∀ i, i < n → qp_OK (K i) (L i) (R i) (W i) (A i) (B i) (C i) (D i) (p1 i) (p2 i) (p3 i) W i) : ∃ (bd : Nat → Nat) (LL : Nat → List qp_Row), (∀ j, j < n → bd j = qp_bs K L R C D th j bd) ∧ (∀ j, j < n → LL j = qp_sem K L R W A B C D th tb j LL) := by
  obtain ⟨bd, hb⟩ := qp_ex 0 (qp_bs K L R C D th) n (fun j hj g g' e => qp_bs_loc hn hOK j hj g g' e)
  obtain ⟨LL, hl⟩ := qp_ex [] (qp_sem K L R W A B C D th tb) n (fun j hj g g' e => qp_sem_loc hn hOK j hj g g' e)
  exact ⟨bd, LL, hb, hl⟩
end qp_PL
