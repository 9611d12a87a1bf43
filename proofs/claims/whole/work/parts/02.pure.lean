/-! pure pictures: rows, lists, regions of the list store -/
abbrev qp_Row : Type := Nat → Int32
def qp_it {α : Type} (f : Nat → α → α) : Nat → α → α
  | 0, s => s
  | n + 1, s => f n (qp_it f n s)
noncomputable def qp_if {α : Type} (P : Prop) (a b : α) : α := @ite α P (Classical.propDecidable P) a b
theorem qp_if_t {α : Type} {P : Prop} {a b : α} (h : P) : qp_if P a b = a := if_pos h
theorem qp_if_f {α : Type} {P : Prop} {a b : α} (h : ¬ P) : qp_if P a b = b := if_neg h
theorem qp_if_c {α : Type} {P Q : Prop} {a b : α} (h : P ↔ Q) : qp_if P a b = qp_if Q a b := by
  by_cases hp : P
  · rw [qp_if_t hp, qp_if_t (h.mp hp)]
  · rw [qp_if_f hp, qp_if_f (fun q => hp (h.mpr q))]
def qp_g (S : List qp_Row) (r : Nat) : qp_Row := S.getD r (fun _ => 0)
theorem qp_g_lo {S : List qp_Row} {x : qp_Row} {r : Nat} (h : r < S.length) : qp_g (S ++ [x]) r = qp_g S r := by
  unfold qp_g
  rw [List.getD_eq_getElem?_getD, List.getD_eq_getElem?_getD, List.getElem?_append_left h]
theorem qp_g_hi {S : List qp_Row} {x : qp_Row} : qp_g (S ++ [x]) S.length = x := by
  unfold qp_g
  rw [List.getD_eq_getElem?_getD, List.getElem?_concat_length]
  rfl
def qp_tab (h : Nat) (f : Nat → qp_Row) : List qp_Row := (List.range h).map f
theorem qp_tab_len (h : Nat) (f : Nat → qp_Row) : (qp_tab h f).length = h := by
  unfold qp_tab; rw [List.length_map, List.length_range]
theorem qp_tab_s (h : Nat) (f : Nat → qp_Row) : qp_tab (h + 1) f = qp_tab h f ++ [f h] := by
  unfold qp_tab; rw [List.range_succ, List.map_append]; rfl
theorem qp_tab_0 (f : Nat → qp_Row) : qp_tab 0 f = [] := rfl
theorem qp_tab_g {h : Nat} {f : Nat → qp_Row} : ∀ {r : Nat}, r < h → qp_g (qp_tab h f) r = f r := by
  induction h with
  | zero => intro r hr; exact absurd hr (Nat.not_lt_zero r)
  | succ h ih =>
    intro r hr
    rw [qp_tab_s]
    by_cases e : r < h
    · rw [qp_g_lo (by rw [qp_tab_len]; exact e), ih e]
    · have e2 : r = (qp_tab h f).length := by rw [qp_tab_len]; omega
      rw [e2, qp_g_hi, qp_tab_len]
theorem qp_tab_c {h : Nat} {f f' : Nat → qp_Row} (e : ∀ r, r < h → f r = f' r) : qp_tab h f = qp_tab h f' := by
  induction h with
  | zero => rfl
  | succ h ih => rw [qp_tab_s, qp_tab_s, ih (fun r hr => e r (by omega)), e h (by omega)]
/-- node n's region of the store holds the rows of S, w columns each -/
def qp_Rep (a : Nat → Int32) (n w : Nat) (S : List qp_Row) : Prop := ∀ r c, r < S.length → c < w → a (n * 144 + r * 6 + c) = qp_g S r c
def qp_Fr (n : Nat) (a a' : Nat → Int32) : Prop := ∀ p, (p < n * 144 ∨ n * 144 + 144 ≤ p) → a' p = a p
theorem qp_Fr_r (n : Nat) (a : Nat → Int32) : qp_Fr n a a := fun _ _ => rfl
theorem qp_Fr_t {n : Nat} {a b c : Nat → Int32} (h : qp_Fr n a b) (h' : qp_Fr n b c) : qp_Fr n a c := fun p hp => (h' p hp).trans (h p hp)
theorem qp_Rep_fr {a a' : Nat → Int32} {j n w : Nat} {S : List qp_Row} (h : qp_Rep a j w S) (hl : S.length ≤ 24) (hw : w ≤ 6) (hj : j ≠ n) (hf : qp_Fr n a a') : qp_Rep a' j w S := by
  intro r c hr hc
  rw [hf _ (by omega)]
  exact h r c hr hc
def qp_Out (n w : Nat) (R : List qp_Row) (h a h' a' : Nat → Int32) : Prop := qp_Fr n a a' ∧ (∀ j, j ≠ n → h' j = h j) ∧ h' n = nI R.length ∧ qp_Rep a' n w R
theorem qp_Out_0 {n w : Nat} {h a : Nat → Int32} (e : h n = 0) : qp_Out n w [] h a h a := ⟨qp_Fr_r n a, fun _ _ => rfl, by rw [e]; rfl, fun r c hr _ => absurd hr (Nat.not_lt_zero r)⟩
theorem qp_Out_app {n w : Nat} {R : List qp_Row} {h a h1 a1 a2 : Nat → Int32} (O : qp_Out n w R h a h1 a1) (hR : R.length < 24) (hw : w ≤ 6) (x : qp_Row) (hx : ∀ c, c < w → a2 (n * 144 + R.length * 6 + c) = x c) (hk : ∀ p, (p < n * 144 + R.length * 6 ∨ n * 144 + R.length * 6 + 6 ≤ p) → a2 p = a1 p) : qp_Out n w (R ++ [x]) h a (upd h1 n (nI (R.length + 1))) a2 := by
  obtain ⟨o1, o2, o3, o4⟩ := O
  refine ⟨fun p hp => ?_, fun j hj => ?_, ?_, fun r c hr hc => ?_⟩
  · rw [hk p (by omega)]; exact o1 p hp
  · rw [pk_un hj]; exact o2 j hj
  · rw [pk_us, List.length_append]; rfl
  · rw [List.length_append, List.length_singleton] at hr
    by_cases e : r < R.length
    · rw [hk _ (by omega), qp_g_lo e]; exact o4 r c e hc
    · have e2 : r = R.length := by omega
      subst e2
      rw [qp_g_hi]; exact hx c hc
theorem qp_Out_rd {n w : Nat} {R : List qp_Row} {h a h1 a1 : Nat → Int32} (O : qp_Out n w R h a h1 a1) {j v : Nat} {S : List qp_Row} (hS : qp_Rep a j v S) (hl : S.length ≤ 24) (hv : v ≤ 6) (hj : j ≠ n) : qp_Rep a1 j v S := qp_Rep_fr hS hl hv hj O.1
/-! comparisons, operations -/
def qp_ful (a c b : Int32) : Prop := if c = 0 then a = b else if c = 1 then a ≠ b else if c = 2 then a < b else if c = 3 then a ≤ b else if c = 4 then b < a else b ≤ a
def qp_com (o a b : Int32) : Int32 := if o = 0 then a + b else if o = 1 then a - b else if o = 2 then a * b else if o = 3 then (if a < b then a else b) else (if b < a then a else b)
/-! the lists of the kinds -/
noncomputable def qp_fl (S : List qp_Row) (P : qp_Row → Prop) : Nat → List qp_Row
  | 0 => []
  | i + 1 => qp_if (P (qp_g S i)) (qp_fl S P i ++ [qp_g S i]) (qp_fl S P i)
theorem qp_fl_len (S : List qp_Row) (P : qp_Row → Prop) : ∀ i, (qp_fl S P i).length ≤ i := by
  intro i
  induction i with
  | zero => exact Nat.le_refl 0
  | succ i ih =>
    unfold qp_fl
    by_cases h : P (qp_g S i)
    · rw [qp_if_t h, List.length_append, List.length_singleton]; omega
    · rw [qp_if_f h]; omega
def qp_mp (S : List qp_Row) (wl : Nat) (o : Int32) (a b : Nat) : Nat → qp_Row := fun r c => if c < wl then qp_g S r c else qp_com o (qp_g S r a) (qp_g S r b)
def qp_ch (d : Int32) (i : Nat) : Int32 := (d >>> ((3 * nI i) &&& 31)) &&& 7
def qp_pr (S : List qp_Row) (d : Int32) : Nat → qp_Row := fun r c => qp_g S r (qp_ch d c).toNatClampNeg
/-! join -/
def qp_pair (x y : qp_Row) (wl : Nat) : qp_Row := fun c => if c < wl then x c else y (c - wl)
noncomputable def qp_ji (Q : List qp_Row) (x : qp_Row) (a b wl : Nat) (acc : List qp_Row) : Nat → List qp_Row
  | 0 => acc
  | j + 1 => qp_if (x a = qp_g Q j b) (qp_ji Q x a b wl acc j ++ [qp_pair x (qp_g Q j) wl]) (qp_ji Q x a b wl acc j)
def qp_hit (Q : List qp_Row) (x : qp_Row) (a b j : Nat) : Prop := ∃ t, t < j ∧ x a = qp_g Q t b
noncomputable def qp_jb (Q : List qp_Row) (x : qp_Row) (a b wl : Nat) (k : Int32) (acc : List qp_Row) : List qp_Row :=
  if k = 0 then qp_ji Q x a b wl acc Q.length else
  if k = 1 then qp_if (qp_hit Q x a b Q.length) (acc ++ [x]) acc else
  if k = 2 then qp_if (qp_hit Q x a b Q.length) acc (acc ++ [x]) else
  qp_if (qp_hit Q x a b Q.length) (qp_ji Q x a b wl acc Q.length) (acc ++ [qp_pair x (fun _ => 0) wl])
noncomputable def qp_jo (S Q : List qp_Row) (a b wl : Nat) (k : Int32) : Nat → List qp_Row
  | 0 => []
  | i + 1 => qp_jb Q (qp_g S i) a b wl k (qp_jo S Q a b wl k i)
theorem qp_ji_no {Q : List qp_Row} {x : qp_Row} {a b wl : Nat} {acc : List qp_Row} : ∀ {j : Nat}, ¬ qp_hit Q x a b j → qp_ji Q x a b wl acc j = acc := by
  intro j
  induction j with
  | zero => intro _; rfl
  | succ j ih =>
    intro h
    unfold qp_ji
    rw [qp_if_f (fun e => h ⟨j, by omega, e⟩)]
    exact ih (fun ⟨t, ht, e⟩ => h ⟨t, by omega, e⟩)
theorem qp_ji_len (Q : List qp_Row) (x : qp_Row) (a b wl : Nat) (acc : List qp_Row) : ∀ j, (qp_ji Q x a b wl acc j).length ≤ acc.length + j := by
  intro j
  induction j with
  | zero => exact Nat.le_refl _
  | succ j ih =>
    unfold qp_ji
    by_cases h : x a = qp_g Q j b
    · rw [qp_if_t h, List.length_append, List.length_singleton]; omega
    · rw [qp_if_f h]; omega
/-- how many rows one left row may give -/
theorem qp_jb_len {Q : List qp_Row} {x : qp_Row} {a b wl m : Nat} {k : Int32} {acc : List qp_Row} (h1 : k = 0 ∨ k = 3 → Q.length ≤ m) (h2 : k ≠ 0 → 1 ≤ m) (hk : k = 0 ∨ k = 1 ∨ k = 2 ∨ k = 3) : (qp_jb Q x a b wl k acc).length ≤ acc.length + m := by
  have hj := qp_ji_len Q x a b wl acc Q.length
  rcases hk with rfl | rfl | rfl | rfl
  · have := h1 (Or.inl rfl)
    show (qp_ji Q x a b wl acc Q.length).length ≤ _
    omega
  · have := h2 (by decide)
    show (qp_if (qp_hit Q x a b Q.length) (acc ++ [x]) acc).length ≤ _
    by_cases h : qp_hit Q x a b Q.length
    · rw [qp_if_t h, List.length_append, List.length_singleton]; omega
    · rw [qp_if_f h]; omega
  · have := h2 (by decide)
    show (qp_if (qp_hit Q x a b Q.length) acc (acc ++ [x])).length ≤ _
    by_cases h : qp_hit Q x a b Q.length
    · rw [qp_if_t h]; omega
    · rw [qp_if_f h, List.length_append, List.length_singleton]; omega
  · have := h1 (Or.inr rfl)
    have := h2 (by decide)
    show (qp_if (qp_hit Q x a b Q.length) (qp_ji Q x a b wl acc Q.length) (acc ++ [qp_pair x (fun _ => 0) wl])).length ≤ _
    by_cases h : qp_hit Q x a b Q.length
    · rw [qp_if_t h]; omega
    · rw [qp_if_f h, List.length_append, List.length_singleton]; omega
theorem qp_jo_len {S Q : List qp_Row} {a b wl m : Nat} {k : Int32} (h1 : k = 0 ∨ k = 3 → Q.length ≤ m) (h2 : k ≠ 0 → 1 ≤ m) (hk : k = 0 ∨ k = 1 ∨ k = 2 ∨ k = 3) : ∀ i, (qp_jo S Q a b wl k i).length ≤ i * m := by
  intro i
  induction i with
  | zero => exact Nat.zero_le _
  | succ i ih =>
    have := qp_jb_len (Q := Q) (x := qp_g S i) (a := a) (b := b) (wl := wl) (acc := qp_jo S Q a b wl k i) h1 h2 hk
    show (qp_jb Q (qp_g S i) a b wl k (qp_jo S Q a b wl k i)).length ≤ _
    rw [Nat.succ_mul]
    omega
/-! distinct -/
def qp_eqv (w : Nat) (x y : qp_Row) : Prop := ∀ c, c < w → x c = y c
noncomputable def qp_di (S : List qp_Row) (w : Nat) : Nat → List qp_Row
  | 0 => []
  | i + 1 => qp_if (∃ j, j < i ∧ qp_eqv w (qp_g S i) (qp_g S j)) (qp_di S w i) (qp_di S w i ++ [qp_g S i])
theorem qp_di_len (S : List qp_Row) (w : Nat) : ∀ i, (qp_di S w i).length ≤ i := by
  intro i
  induction i with
  | zero => exact Nat.le_refl 0
  | succ i ih =>
    unfold qp_di
    by_cases h : ∃ j, j < i ∧ qp_eqv w (qp_g S i) (qp_g S j)
    · rw [qp_if_t h]; omega
    · rw [qp_if_f h, List.length_append, List.length_singleton]; omega
theorem qp_di_kept (S : List qp_Row) (w : Nat) (x : qp_Row) : ∀ i, (∃ r, r < (qp_di S w i).length ∧ qp_eqv w (qp_g (qp_di S w i) r) x) ↔ ∃ j, j < i ∧ qp_eqv w (qp_g S j) x := by
  intro i
  induction i with
  | zero => exact ⟨fun ⟨r, hr, _⟩ => absurd hr (Nat.not_lt_zero r), fun ⟨r, hr, _⟩ => absurd hr (Nat.not_lt_zero r)⟩
  | succ i ih =>
    unfold qp_di
    by_cases h : ∃ j, j < i ∧ qp_eqv w (qp_g S i) (qp_g S j)
    · rw [qp_if_t h, ih]
      constructor
      · exact fun ⟨j, hj, e⟩ => ⟨j, by omega, e⟩
      · intro ⟨j, hj, e⟩
        by_cases hji : j < i
        · exact ⟨j, hji, e⟩
        · have : j = i := by omega
          subst this
          obtain ⟨t, ht, e2⟩ := h
          exact ⟨t, ht, fun c hc => (e2 c hc).symm.trans (e c hc)⟩
    · rw [qp_if_f h]
      constructor
      · intro ⟨r, hr, e⟩
        rw [List.length_append, List.length_singleton] at hr
        by_cases hrl : r < (qp_di S w i).length
        · rw [qp_g_lo hrl] at e
          obtain ⟨j, hj, e2⟩ := ih.mp ⟨r, hrl, e⟩
          exact ⟨j, by omega, e2⟩
        · have : r = (qp_di S w i).length := by omega
          subst this
          rw [qp_g_hi] at e
          exact ⟨i, by omega, e⟩
      · intro ⟨j, hj, e⟩
        by_cases hji : j < i
        · obtain ⟨r, hr, e2⟩ := ih.mpr ⟨j, hji, e⟩
          exact ⟨r, by rw [List.length_append, List.length_singleton]; omega, by rw [qp_g_lo hr]; exact e2⟩
        · have : j = i := by omega
          subst this
          exact ⟨(qp_di S w j).length, by rw [List.length_append, List.length_singleton]; omega, by rw [qp_g_hi]; exact e⟩
