/-! the semantics by kinds -/
section qp_SK
variable {K L R W A B C D th tb : Nat → Int32} {i : Nat} {LL : Nat → List qp_Row} {bd : Nat → Nat}
theorem qp_cl {x : Int32} {n : Nat} (e : x = nI n) (h : n < 2 ^ 31) : x.toNatClampNeg = n := by rw [e]; exact nI_clamp h
theorem qp_sem_0 (hk : K i = 0) {t : Nat} (hD : D i = nI t) (ht : t < 2 ^ 31) : qp_sem K L R W A B C D th tb i LL = qp_tab (th t).toNatClampNeg (fun r c => tb (t * 30 + r * 3 + c)) := by
  unfold qp_sem
  rw [hk, if_pos rfl, qp_cl hD ht]
theorem qp_sem_1 (hk : K i = 1) {x a : Nat} (hL : L i = nI x) (hx : x < 2 ^ 31) (hA : A i = nI a) (ha : a < 2 ^ 31) : qp_sem K L R W A B C D th tb i LL = qp_fl (LL x) (fun z => qp_ful (z a) (C i) (D i)) (LL x).length := by
  unfold qp_sem
  rw [hk, if_neg (by decide), if_pos rfl, qp_cl hL hx, qp_cl hA ha]
theorem qp_sem_2 (hk : K i = 2) {x a b : Nat} (hL : L i = nI x) (hx : x < 2 ^ 31) (hA : A i = nI a) (ha : a < 2 ^ 31) (hB : B i = nI b) (hb : b < 2 ^ 31) : qp_sem K L R W A B C D th tb i LL = qp_fl (LL x) (fun z => qp_ful (z a) (C i) (z b)) (LL x).length := by
  unfold qp_sem
  rw [hk, if_neg (by decide), if_neg (by decide), if_pos rfl, qp_cl hL hx, qp_cl hA ha, qp_cl hB hb]
theorem qp_sem_3 (hk : K i = 3) {x a b wl : Nat} (hL : L i = nI x) (hx : x < 2 ^ 31) (hA : A i = nI a) (ha : a < 2 ^ 31) (hB : B i = nI b) (hb : b < 2 ^ 31) (hW : W x = nI wl) (hw : wl < 2 ^ 31) : qp_sem K L R W A B C D th tb i LL = qp_tab (LL x).length (qp_mp (LL x) wl (C i) a b) := by
  unfold qp_sem
  rw [hk, if_neg (by decide), if_neg (by decide), if_neg (by decide), if_pos rfl, qp_cl hL hx, qp_cl hA ha, qp_cl hB hb, qp_cl hW hw]
theorem qp_sem_4 (hk : K i = 4) {x : Nat} (hL : L i = nI x) (hx : x < 2 ^ 31) : qp_sem K L R W A B C D th tb i LL = qp_tab (LL x).length (qp_pr (LL x) (D i)) := by
  unfold qp_sem
  rw [hk, if_neg (by decide), if_neg (by decide), if_neg (by decide), if_neg (by decide), if_pos rfl, qp_cl hL hx]
theorem qp_sem_5 (hk : K i = 5) {x y a b wl : Nat} (hL : L i = nI x) (hx : x < 2 ^ 31) (hR : R i = nI y) (hy : y < 2 ^ 31) (hA : A i = nI a) (ha : a < 2 ^ 31) (hB : B i = nI b) (hb : b < 2 ^ 31) (hW : W x = nI wl) (hw : wl < 2 ^ 31) : qp_sem K L R W A B C D th tb i LL = qp_jo (LL x) (LL y) a b wl (C i) (LL x).length := by
  unfold qp_sem
  rw [hk, if_neg (by decide), if_neg (by decide), if_neg (by decide), if_neg (by decide), if_neg (by decide), if_pos rfl, qp_cl hL hx, qp_cl hR hy, qp_cl hA ha, qp_cl hB hb, qp_cl hW hw]
theorem qp_sem_6 (hk : K i = 6) {x y : Nat} (hL : L i = nI x) (hx : x < 2 ^ 31) (hR : R i = nI y) (hy : y < 2 ^ 31) : qp_sem K L R W A B C D th tb i LL = qp_tab (LL x).length (qp_g (LL x)) ++ qp_tab (LL y).length (qp_g (LL y)) := by
  unfold qp_sem
  rw [hk, if_neg (by decide), if_neg (by decide), if_neg (by decide), if_neg (by decide), if_neg (by decide), if_neg (by decide), if_pos rfl, qp_cl hL hx, qp_cl hR hy]
theorem qp_sem_7 (hk : K i = 7) {x a b : Nat} (hL : L i = nI x) (hx : x < 2 ^ 31) (hA : A i = nI a) (ha : a < 2 ^ 31) (hB : B i = nI b) (hb : b < 2 ^ 31) : qp_sem K L R W A B C D th tb i LL = qp_gp (LL x) (C i) a b (LL x).length (LL x).length := by
  unfold qp_sem
  rw [hk, if_neg (by decide), if_neg (by decide), if_neg (by decide), if_neg (by decide), if_neg (by decide), if_neg (by decide), if_neg (by decide), if_pos rfl, qp_cl hL hx, qp_cl hA ha, qp_cl hB hb]
theorem qp_sem_8 (hk : K i = 8) {x w : Nat} (hL : L i = nI x) (hx : x < 2 ^ 31) (hW : W i = nI w) (hw : w < 2 ^ 31) : qp_sem K L R W A B C D th tb i LL = qp_di (LL x) w (LL x).length := by
  unfold qp_sem
  rw [hk, if_neg (by decide), if_neg (by decide), if_neg (by decide), if_neg (by decide), if_neg (by decide), if_neg (by decide), if_neg (by decide), if_neg (by decide), if_pos rfl, qp_cl hL hx, qp_cl hW hw]
theorem qp_sem_9 (hk : K i = 9) {x m : Nat} (hL : L i = nI x) (hx : x < 2 ^ 31) (hD : D i = nI m) (hm : m < 2 ^ 31) : qp_sem K L R W A B C D th tb i LL = qp_tab (if m < (LL x).length then m else (LL x).length) (qp_g (LL x)) := by
  unfold qp_sem
  rw [hk, if_neg (by decide), if_neg (by decide), if_neg (by decide), if_neg (by decide), if_neg (by decide), if_neg (by decide), if_neg (by decide), if_neg (by decide), if_neg (by decide), if_pos rfl, qp_cl hL hx, qp_cl hD hm]
theorem qp_sem_10 (hk : K i = 10) {x a : Nat} (hL : L i = nI x) (hx : x < 2 ^ 31) (hA : A i = nI a) (ha : a < 2 ^ 31) : qp_sem K L R W A B C D th tb i LL = qp_tab (LL x).length (qp_so (LL x) (C i = 4) a) := by
  unfold qp_sem
  rw [hk, if_neg (by decide), if_neg (by decide), if_neg (by decide), if_neg (by decide), if_neg (by decide), if_neg (by decide), if_neg (by decide), if_neg (by decide), if_neg (by decide), if_neg (by decide), qp_cl hL hx, qp_cl hA ha]
theorem qp_bs_0 {t : Nat} (hk : K i = 0) (hD : D i = nI t) (ht : t < 2 ^ 31) : qp_bs K L R C D th i bd = (th t).toNatClampNeg := by
  unfold qp_bs
  rw [if_pos hk, qp_cl hD ht]
theorem qp_bs_u {x : Nat} (hk : K i = 1 ∨ K i = 2 ∨ K i = 3 ∨ K i = 4 ∨ K i = 7 ∨ K i = 8 ∨ K i = 10) (hR : R i = -1) (hL : L i = nI x) (hx : x < 2 ^ 31) : qp_bs K L R C D th i bd = if 24 < bd x then 25 else bd x := by
  have h0 : ¬ K i = 0 := by rcases hk with h | h | h | h | h | h | h <;> rw [h] <;> decide
  have h5 : ¬ K i = 5 := by rcases hk with h | h | h | h | h | h | h <;> rw [h] <;> decide
  have h6 : ¬ K i = 6 := by rcases hk with h | h | h | h | h | h | h <;> rw [h] <;> decide
  have h9 : ¬ K i = 9 := by rcases hk with h | h | h | h | h | h | h <;> rw [h] <;> decide
  unfold qp_bs qp_bl qp_bk
  rw [if_neg h0, if_pos hR, if_neg h5, if_neg h6, if_neg h9, qp_cl hL hx]
  by_cases h : 24 < bd x
  · rw [if_pos (Or.inl h), if_pos h]
  · rw [if_neg (by omega), if_neg h]
theorem qp_bk9 {c : Int32} {d l r : Nat} : qp_bk 9 c d l r = if d < l then d else l := rfl
theorem qp_bs_9 {x m : Nat} (hk : K i = 9) (hR : R i = -1) (hL : L i = nI x) (hx : x < 2 ^ 31) (hD : D i = nI m) (hm : m < 2 ^ 31) : qp_bs K L R C D th i bd = if 24 < bd x then 25 else if m < bd x then m else bd x := by
  have h0 : ¬ (9 : Int32) = 0 := by decide
  unfold qp_bs qp_bl
  rw [hk, if_neg h0, if_pos hR, qp_bk9, qp_cl hL hx, qp_cl hD hm]
  by_cases h : 24 < bd x
  · rw [if_pos (Or.inl h), if_pos h]
  · have h2 : ¬ 24 < (if m < bd x then m else bd x) := by split <;> omega
    rw [if_neg (by omega), if_neg h, if_neg h2]
theorem qp_bs_5 {x y : Nat} (hk : K i = 5) (hR : R i = nI y) (hy : y < 12) (hL : L i = nI x) (hx : x < 2 ^ 31) : qp_bs K L R C D th i bd = if 24 < bd x ∨ 24 < bd y then 25 else if 24 < qp_bk 5 (C i) 0 (bd x) (bd y) then 25 else qp_bk 5 (C i) 0 (bd x) (bd y) := by
  have hm : ¬ R i = -1 := by
    rw [hR]
    intro z
    have h1 := congrArg Int32.toInt z
    rw [nI_toInt (by omega)] at h1
    have h2 : (-1 : Int32).toInt = -1 := by decide
    omega
  unfold qp_bs qp_bl
  rw [hk, if_neg (by decide), if_neg hm, qp_cl hL hx, qp_cl hR (by omega)]
  rfl
theorem qp_bs_6 {x y : Nat} (hk : K i = 6) (hR : R i = nI y) (hy : y < 12) (hL : L i = nI x) (hx : x < 2 ^ 31) : qp_bs K L R C D th i bd = if 24 < bd x ∨ 24 < bd y then 25 else if 24 < bd x + bd y then 25 else bd x + bd y := by
  have hm : ¬ R i = -1 := by
    rw [hR]
    intro z
    have h1 := congrArg Int32.toInt z
    rw [nI_toInt (by omega)] at h1
    have h2 : (-1 : Int32).toInt = -1 := by decide
    omega
  unfold qp_bs qp_bl
  rw [hk, if_neg (by decide), if_neg hm, qp_cl hL hx, qp_cl hR (by omega)]
  rfl
theorem qp_bk5 {c : Int32} {l r : Nat} : qp_bk 5 c 0 l r = if c = 0 then l * r else if c = 3 then (if r = 0 then l else l * r) else l := rfl
end qp_SK
/-- how many rows a left row of a join may give -/
def qp_fac (c : Int32) (r : Nat) : Nat := if c = 0 then r else if c = 3 then (if r = 0 then 1 else r) else 1
theorem qp_fac_bk {c : Int32} {l r : Nat} : qp_bk 5 c 0 l r = l * qp_fac c r := by
  rw [qp_bk5]
  unfold qp_fac
  by_cases h0 : c = 0
  · rw [if_pos h0, if_pos h0]
  · rw [if_neg h0, if_neg h0]
    by_cases h3 : c = 3
    · rw [if_pos h3, if_pos h3]
      by_cases hr : r = 0
      · rw [if_pos hr, if_pos hr, Nat.mul_one]
      · rw [if_neg hr, if_neg hr]
    · rw [if_neg h3, if_neg h3, Nat.mul_one]
theorem qp_fac_1 {c : Int32} {r q : Nat} (hq : q ≤ r) (h : c = 0 ∨ c = 3) : q ≤ qp_fac c r := by
  unfold qp_fac
  rcases h with h | h
  · rw [if_pos h]; exact hq
  · have h0 : ¬ c = 0 := by rw [h]; decide
    rw [if_neg h0, if_pos h]
    split <;> omega
theorem qp_fac_2 {c : Int32} {r : Nat} (h : c ≠ 0) : 1 ≤ qp_fac c r := by
  unfold qp_fac
  rw [if_neg h]
  split
  · split <;> omega
  · omega
section qp_LN
variable {n : Nat} {K L R W A B C D p1 p2 p3 th tb : Nat → Int32} {LL : Nat → List qp_Row} {bd : Nat → Nat}
theorem qp_len (hn : n ≤ 12) (hOK : ∀ i, i < n → qp_OK (K i) (L i) (R i) (W i) (A i) (B i) (C i) (D i) (p1 i) (p2 i) (p3 i) W i) (hb : ∀ j, j < n → bd j = qp_bs K L R C D th j bd) (hl : ∀ j, j < n → LL j = qp_sem K L R W A B C D th tb j LL) : ∀ k j, j ≤ k → j < n → bd j ≤ 24 → (LL j).length ≤ bd j := by
  intro k
  induction k with
  | zero =>
    intro j hjk hj h24
    have ej : j = 0 := by omega
    subst ej
    have hb0 := hb 0 hj
    have hl0 := hl 0 hj
    obtain ⟨wn, _, _, _, h⟩ := hOK 0 hj
    rcases h with h | h | h | h | h | h | h | h | h | h | h
    · obtain ⟨hk, _, t, ht, hD, _⟩ := h
      rw [hl0, qp_sem_0 hk hD (by omega), hb0, qp_bs_0 hk hD (by omega), qp_tab_len]
      exact Nat.le_refl _
    · obtain ⟨_, hr, x, _, hU, _⟩ := h
      exact absurd hU.1 (Nat.not_lt_zero x)
    · obtain ⟨_, hr, x, _, _, hU, _⟩ := h
      exact absurd hU.1 (Nat.not_lt_zero x)
    · obtain ⟨_, hr, x, _, _, _, hU, _⟩ := h
      exact absurd hU.1 (Nat.not_lt_zero x)
    · obtain ⟨_, hr, x, _, hU, _⟩ := h
      exact absurd hU.1 (Nat.not_lt_zero x)
    · obtain ⟨_, x, _, y, _, _, _, hU, hV, _⟩ := h
      exact absurd hU.1 (Nat.not_lt_zero x)
    · obtain ⟨_, x, y, hU, hV⟩ := h
      exact absurd hU.1 (Nat.not_lt_zero x)
    · obtain ⟨_, hr, _, x, _, _, _, hU, _⟩ := h
      exact absurd hU.1 (Nat.not_lt_zero x)
    · obtain ⟨_, hr, x, hU⟩ := h
      exact absurd hU.1 (Nat.not_lt_zero x)
    · obtain ⟨_, hr, x, _, hU, _⟩ := h
      exact absurd hU.1 (Nat.not_lt_zero x)
    · obtain ⟨_, hr, x, _, hU, _⟩ := h
      exact absurd hU.1 (Nat.not_lt_zero x)
  | succ k ih =>
    intro j hjk hj h24
    have hb0 := hb j hj
    have hl0 := hl j hj
    obtain ⟨wn, _, hw6, hWn, h⟩ := hOK j hj
    rcases h with h | h | h | h | h | h | h | h | h | h | h
    · obtain ⟨hk, _, t, ht, hD, _⟩ := h
      rw [hl0, qp_sem_0 hk hD (by omega), hb0, qp_bs_0 hk hD (by omega), qp_tab_len]
      exact Nat.le_refl _
    · obtain ⟨hk, hr, x, a, hU, ha, hA, _⟩ := h
      have hx : x < 12 := by have := hU.1; omega
      rw [qp_bs_u (Or.inl hk) hr hU.2.1 (by omega)] at hb0
      rw [qp_sem_1 hk hU.2.1 (by omega) hA (by omega)] at hl0
      have h3 := qp_fl_len (LL x) (fun z => qp_ful (z a) (C j) (D j)) (LL x).length
      have h4 : bd x ≤ 24 := by split at hb0 <;> omega
      have h5 := ih x (by have := hU.1; omega) (by have := hU.1; omega) h4
      rw [if_neg (by omega)] at hb0
      rw [hl0]; omega
    · obtain ⟨hk, hr, x, a, b, hU, ha, hb', hA, hB, _⟩ := h
      have hx : x < 12 := by have := hU.1; omega
      rw [qp_bs_u (Or.inr (Or.inl hk)) hr hU.2.1 (by omega)] at hb0
      rw [qp_sem_2 hk hU.2.1 (by omega) hA (by omega) hB (by omega)] at hl0
      have h3 := qp_fl_len (LL x) (fun z => qp_ful (z a) (C j) (z b)) (LL x).length
      have h4 : bd x ≤ 24 := by split at hb0 <;> omega
      have h5 := ih x (by have := hU.1; omega) (by have := hU.1; omega) h4
      rw [if_neg (by omega)] at hb0
      rw [hl0]; omega
    · obtain ⟨hk, hr, x, wl, a, b, hU, hwl, ha, hb', hA, hB, _⟩ := h
      have hx : x < 12 := by have := hU.1; omega
      rw [qp_bs_u (Or.inr (Or.inr (Or.inl hk))) hr hU.2.1 (by omega)] at hb0
      rw [qp_sem_3 hk hU.2.1 (by omega) hA (by omega) hB (by omega) hU.2.2.2.2 (by omega)] at hl0
      have h4 : bd x ≤ 24 := by split at hb0 <;> omega
      have h5 := ih x (by have := hU.1; omega) (by have := hU.1; omega) h4
      rw [if_neg (by omega)] at hb0
      rw [hl0, qp_tab_len]; omega
    · obtain ⟨hk, hr, x, wl, hU, _⟩ := h
      have hx : x < 12 := by have := hU.1; omega
      rw [qp_bs_u (Or.inr (Or.inr (Or.inr (Or.inl hk)))) hr hU.2.1 (by omega)] at hb0
      rw [qp_sem_4 hk hU.2.1 (by omega)] at hl0
      have h4 : bd x ≤ 24 := by split at hb0 <;> omega
      have h5 := ih x (by have := hU.1; omega) (by have := hU.1; omega) h4
      rw [if_neg (by omega)] at hb0
      rw [hl0, qp_tab_len]; omega
    · obtain ⟨hk, x, wl, y, wr, a, b, hU, hV, ha, hb', hA, hB, _, _, _, hc⟩ := h
      have hx : x < 12 := by have := hU.1; omega
      have hy : y < 12 := by have := hV.1; omega
      have hw : wl ≤ 6 := hU.2.2.2.1
      have hwr : wr ≤ 6 := hV.2.2.2.1
      rw [qp_bs_5 hk hV.2.1 hy hU.2.1 (by omega), qp_fac_bk] at hb0
      rw [qp_sem_5 hk hU.2.1 (by omega) hV.2.1 (by omega) hA (by omega) hB (by omega) hU.2.2.2.2 (by omega)] at hl0
      have h4 : ¬ (24 < bd x ∨ 24 < bd y) := by intro z; rw [if_pos z] at hb0; omega
      rw [if_neg h4] at hb0
      have h5 := ih x (by have := hU.1; omega) (by have := hU.1; omega) (by omega)
      have h6 := ih y (by have := hV.1; omega) (by have := hV.1; omega) (by omega)
      have h7 : ¬ 24 < bd x * qp_fac (C j) (bd y) := by intro z; rw [if_pos z] at hb0; omega
      rw [if_neg h7] at hb0
      have h8 := qp_jo_len (S := LL x) (Q := LL y) (a := a) (b := b) (wl := wl) (m := qp_fac (C j) (bd y)) (k := C j) (fun z => qp_fac_1 h6 z) (fun z => qp_fac_2 z) (by rcases hc with ⟨hc | hc, _⟩ | ⟨hc | hc, _⟩ <;> rw [hc] <;> decide) (LL x).length
      have h9 := Nat.mul_le_mul_right (qp_fac (C j) (bd y)) h5
      rw [hl0, hb0]; omega
    · obtain ⟨hk, x, y, hU, hV⟩ := h
      have hx : x < 12 := by have := hU.1; omega
      have hy : y < 12 := by have := hV.1; omega
      rw [qp_bs_6 hk hV.2.1 hy hU.2.1 (by omega)] at hb0
      rw [qp_sem_6 hk hU.2.1 (by omega) hV.2.1 (by omega)] at hl0
      have h4 : ¬ (24 < bd x ∨ 24 < bd y) := by intro z; rw [if_pos z] at hb0; omega
      rw [if_neg h4] at hb0
      have h5 := ih x (by have := hU.1; omega) (by have := hU.1; omega) (by omega)
      have h6 := ih y (by have := hV.1; omega) (by have := hV.1; omega) (by omega)
      have h7 : ¬ 24 < bd x + bd y := by intro z; rw [if_pos z] at hb0; omega
      rw [if_neg h7] at hb0
      rw [hl0, hb0, List.length_append, qp_tab_len, qp_tab_len]; omega
    · obtain ⟨hk, hr, _, x, wl, a, b, hU, ha, hb', hA, hB, _⟩ := h
      have hx : x < 12 := by have := hU.1; omega
      have hwl : wl ≤ 6 := hU.2.2.2.1
      rw [qp_bs_u (Or.inr (Or.inr (Or.inr (Or.inr (Or.inl hk))))) hr hU.2.1 (by omega)] at hb0
      rw [qp_sem_7 hk hU.2.1 (by omega) hA (by omega) hB (by omega)] at hl0
      have h3 := qp_gp_len (LL x) (C j) a b (LL x).length (LL x).length
      have h4 : bd x ≤ 24 := by split at hb0 <;> omega
      have h5 := ih x (by have := hU.1; omega) (by have := hU.1; omega) h4
      rw [if_neg (by omega)] at hb0
      rw [hl0]; omega
    · obtain ⟨hk, hr, x, hU⟩ := h
      have hx : x < 12 := by have := hU.1; omega
      rw [qp_bs_u (Or.inr (Or.inr (Or.inr (Or.inr (Or.inr (Or.inl hk)))))) hr hU.2.1 (by omega)] at hb0
      have h4 : bd x ≤ 24 := by split at hb0 <;> omega
      have h5 := ih x (by have := hU.1; omega) (by have := hU.1; omega) h4
      rw [if_neg (by omega)] at hb0
      rw [qp_sem_8 hk hU.2.1 (by omega) (w := wn) hWn (by omega)] at hl0
      have h3 := qp_di_len (LL x) wn (LL x).length
      rw [hl0]; omega
    · obtain ⟨hk, hr, x, m, hU, hm, hD, _⟩ := h
      have hx : x < 12 := by have := hU.1; omega
      rw [qp_bs_9 hk hr hU.2.1 (by omega) hD hm] at hb0
      rw [qp_sem_9 hk hU.2.1 (by omega) hD hm] at hl0
      have h4 : ¬ 24 < bd x := by intro z; rw [if_pos z] at hb0; omega
      have h5 := ih x (by have := hU.1; omega) (by have := hU.1; omega) (by omega)
      rw [if_neg h4] at hb0
      rw [hl0, hb0, qp_tab_len]
      split <;> split <;> omega
    · obtain ⟨hk, hr, x, a, hU, ha, hA, _⟩ := h
      have hx : x < 12 := by have := hU.1; omega
      rw [qp_bs_u (Or.inr (Or.inr (Or.inr (Or.inr (Or.inr (Or.inr hk)))))) hr hU.2.1 (by omega)] at hb0
      rw [qp_sem_10 hk hU.2.1 (by omega) hA (by omega)] at hl0
      have h4 : bd x ≤ 24 := by split at hb0 <;> omega
      have h5 := ih x (by have := hU.1; omega) (by have := hU.1; omega) h4
      rw [if_neg (by omega)] at hb0
      rw [hl0, qp_tab_len]; omega
end qp_LN
