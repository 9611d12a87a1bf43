/-! what stands in the list store while a run goes up the nodes -/
def qp_Inv (i : Nat) (bd : Nat → Nat) (LL : Nat → List qp_Row) (W h a : Nat → Int32) : Prop := ∀ j, j < i → bd j ≤ 24 → h j = nI (LL j).length ∧ qp_Rep a j (W j).toNatClampNeg (LL j)
theorem qp_Inv_0 {bd : Nat → Nat} {LL : Nat → List qp_Row} {W h a : Nat → Int32} : qp_Inv 0 bd LL W h a := fun j hj => absurd hj (Nat.not_lt_zero j)
theorem qp_Inv_k {i : Nat} {bd : Nat → Nat} {LL : Nat → List qp_Row} {W h a : Nat → Int32} (I : qp_Inv i bd LL W h a) (hb : ¬ bd i ≤ 24) : qp_Inv (i + 1) bd LL W h a := by
  intro j hj h24
  by_cases e : j = i
  · subst e; exact absurd h24 hb
  · exact I j (by omega) h24
theorem qp_Inv_s {i w : Nat} {bd : Nat → Nat} {LL : Nat → List qp_Row} {W h a h' a' : Nat → Int32} (I : qp_Inv i bd LL W h a) (O : qp_Out i w (LL i) h a h' a') (ew : (W i).toNatClampNeg = w) (hw : ∀ j, j < i → (W j).toNatClampNeg ≤ 6) (hl : ∀ j, j < i → bd j ≤ 24 → (LL j).length ≤ 24) : qp_Inv (i + 1) bd LL W h' a' := by
  obtain ⟨o1, o2, o3, o4⟩ := O
  intro j hj h24
  by_cases e : j = i
  · subst e; rw [ew]; exact ⟨o3, o4⟩
  · have hji : j < i := by omega
    obtain ⟨i1, i2⟩ := I j hji h24
    exact ⟨(o2 j e).trans i1, qp_Rep_fr i2 (hl j hji h24) (hw j hji) e o1⟩
def qp_cd (b : Nat) : Int32 := if b ≤ 24 then nI b else -10
theorem qp_cd_t {b : Nat} (h : b ≤ 24) : qp_cd b = nI b := if_pos h
theorem qp_cd_f {b : Nat} (h : ¬ b ≤ 24) : qp_cd b = -10 := if_neg h
theorem qp_cd_n {b : Nat} (h : b ≤ 24) : ¬ qp_cd b = -10 := by
  rw [qp_cd_t h]
  intro z
  have h1 := congrArg Int32.toInt z
  rw [nI_toInt (by omega)] at h1
  have h2 : (-10 : Int32).toInt = -10 := by decide
  omega
