section
/-! rows of the kit (pasted from kit/rows/PURE-ROWS) -/
theorem pk_us {f : Nat → Int32} {k : Nat} {x : Int32} : upd f k x k = x := if_pos rfl
theorem pk_un {f : Nat → Int32} {k j : Nat} {x : Int32} (h : j ≠ k) : upd f k x j = f j := if_neg h
theorem pk_sub {a b : Nat} (h : b ≤ a) : nI a - nI b = nI (a - b) := by
  obtain ⟨c, rfl⟩ : ∃ c, a = c + b := ⟨a - b, by omega⟩
  rw [← nI_add, Int32.add_sub_cancel, Nat.add_sub_cancel]
theorem pk_m1 (n : Nat) : nI (n + 1) + (-1) = nI n := by
  rw [← nI_1, Int32.add_assoc, show (1 : Int32) + (-1) = 0 from rfl, Int32.add_zero]
theorem pk_mul (a b : Nat) : nI a * nI b = nI (a * b) := (Int32.ofNat_mul a b).symm
theorem pk_ix (x : Int32) {n : Nat} (hn : n < 2 ^ 31) : x < 0 ∨ nI n ≤ x ∨ ∃ j : Nat, j < n ∧ x = nI j := by
  by_cases h : x < 0
  · exact Or.inl h
  · obtain ⟨j, hj, rfl⟩ := nI_of h
    by_cases h2 : j < n
    · exact Or.inr (Or.inr ⟨j, h2, rfl⟩)
    · exact Or.inr (Or.inl (nI_le (by omega) hj))
theorem pk_le {x y : Int32} {A B : Prop} (a b : Nat) (f : a ≤ b → A) (g : b < a → B) (hx : x = nI a := by rfl) (hy : y = nI b := by rfl) (ha : a < 2 ^ 31 := by omega) (hb : b < 2 ^ 31 := by omega) : (x ≤ y → A) ∧ (¬ x ≤ y → B) := by
  subst hx hy
  rw [nI_leI ha hb]
  exact ⟨f, fun z => g (by omega)⟩
theorem pk_lt {x y : Int32} {A B : Prop} (a b : Nat) (f : a < b → A) (g : b ≤ a → B) (hx : x = nI a := by rfl) (hy : y = nI b := by rfl) (ha : a < 2 ^ 31 := by omega) (hb : b < 2 ^ 31 := by omega) : (x < y → A) ∧ (¬ x < y → B) := by
  subst hx hy
  rw [nI_ltI ha hb]
  exact ⟨f, fun z => g (by omega)⟩
theorem pk_eq {x y : Int32} {A B : Prop} (a b : Nat) (f : a = b → A) (g : a ≠ b → B) (hx : x = nI a := by rfl) (hy : y = nI b := by rfl) (ha : a < 2 ^ 31 := by omega) (hb : b < 2 ^ 31 := by omega) : (x = y → A) ∧ (¬ x = y → B) := by
  subst hx hy
  rw [nI_eq ha hb]
  exact ⟨f, g⟩
theorem pk_in {x : Int32} (n N : Nat) (h : n < N) (hx : x = nI n := by rfl) (hN : N < 2 ^ 31 := by omega) : vp_in x N := by
  subst hx
  exact vp_in_nI h hN
theorem pk_cl {x : Int32} (n : Nat) (hx : x = nI n := by rfl) (h : n < 2 ^ 31 := by omega) : x.toNatClampNeg = n := by
  subst hx
  exact nI_clamp h
theorem pk_tn {n : Nat} (h : n < 2 ^ 32) : (nI n).toBitVec.toNat = n := Nat.mod_eq_of_lt h
theorem pk_and (x : Int32) {m : Int32} (k : Nat) (hm : m.toBitVec.toNat = 2 ^ k - 1) : x &&& m = nI (x.toBitVec.toNat % 2 ^ k) := by
  apply Int32.toBitVec_inj.mp
  apply BitVec.eq_of_toNat_eq
  rw [Int32.toBitVec_and, BitVec.toNat_and, hm, Nat.and_two_pow_sub_one_eq_mod]
  show _ = (BitVec.ofNat 32 _).toNat
  rw [BitVec.toNat_ofNat]
  exact (Nat.mod_eq_of_lt (Nat.lt_of_le_of_lt (Nat.mod_le _ _) x.toBitVec.isLt)).symm
theorem pk_andE (x : Int32) {m : Int32} (k : Nat) (hm : m.toBitVec.toNat = 2 ^ k - 1) : ∃ j : Nat, j < 2 ^ k ∧ x &&& m = nI j := ⟨_, Nat.mod_lt _ (Nat.two_pow_pos k), pk_and x k hm⟩
end
section
/-! pure pictures: rows, lists, regions of the list store -/
abbrev qp_Row : Type := Nat → Int32
def qp_it {α : Type} (f : Nat → α → α) : Nat → α → α
  | 0, s => s
  | n + 1, s => f n (qp_it f n s)
noncomputable def qp_if {α : Type} (P : Prop) (a b : α) : α := @ite α P (Classical.propDecidable P) a b
theorem qp_if_t {α : Type} {P : Prop} {a b : α} (h : P) : qp_if P a b = a := if_pos h
theorem qp_if_f {α : Type} {P : Prop} {a b : α} (h : ¬ P) : qp_if P a b = b := if_neg h
theorem qp_if_c {α : Type} {P Q : Prop} {a b : α} (h : P ↔ Q) : qp_if P a b = qp_if Q a b := by
  by_cases hp : P
  · rw [qp_if_t hp, qp_if_t (h.mp hp)]
  · rw [qp_if_f hp, qp_if_f (fun q => hp (h.mpr q))]
def qp_g (S : List qp_Row) (r : Nat) : qp_Row := S.getD r (fun _ => 0)
theorem qp_g_lo {S : List qp_Row} {x : qp_Row} {r : Nat} (h : r < S.length) : qp_g (S ++ [x]) r = qp_g S r := by
  unfold qp_g
  rw [List.getD_eq_getElem?_getD, List.getD_eq_getElem?_getD, List.getElem?_append_left h]
theorem qp_g_hi {S : List qp_Row} {x : qp_Row} : qp_g (S ++ [x]) S.length = x := by
  unfold qp_g
  rw [List.getD_eq_getElem?_getD, List.getElem?_concat_length]
  rfl
def qp_tab (h : Nat) (f : Nat → qp_Row) : List qp_Row := (List.range h).map f
theorem qp_tab_len (h : Nat) (f : Nat → qp_Row) : (qp_tab h f).length = h := by
  unfold qp_tab; rw [List.length_map, List.length_range]
theorem qp_tab_s (h : Nat) (f : Nat → qp_Row) : qp_tab (h + 1) f = qp_tab h f ++ [f h] := by
  unfold qp_tab; rw [List.range_succ, List.map_append]; rfl
theorem qp_tab_0 (f : Nat → qp_Row) : qp_tab 0 f = [] := rfl
theorem qp_tab_g {h : Nat} {f : Nat → qp_Row} : ∀ {r : Nat}, r < h → qp_g (qp_tab h f) r = f r := by
  induction h with
  | zero => intro r hr; exact absurd hr (Nat.not_lt_zero r)
  | succ h ih =>
    intro r hr
    rw [qp_tab_s]
    by_cases e : r < h
    · rw [qp_g_lo (by rw [qp_tab_len]; exact e), ih e]
    · have e2 : r = (qp_tab h f).length := by rw [qp_tab_len]; omega
      rw [e2, qp_g_hi, qp_tab_len]
theorem qp_tab_c {h : Nat} {f f' : Nat → qp_Row} (e : ∀ r, r < h → f r = f' r) : qp_tab h f = qp_tab h f' := by
  induction h with
  | zero => rfl
  | succ h ih => rw [qp_tab_s, qp_tab_s, ih (fun r hr => e r (by omega)), e h (by omega)]
/-- node n's region of the store holds the rows of S, w columns each -/
def qp_Rep (a : Nat → Int32) (n w : Nat) (S : List qp_Row) : Prop := ∀ r c, r < S.length → c < w → a (n * 144 + r * 6 + c) = qp_g S r c
def qp_Fr (n : Nat) (a a' : Nat → Int32) : Prop := ∀ p, (p < n * 144 ∨ n * 144 + 144 ≤ p) → a' p = a p
theorem qp_Fr_r (n : Nat) (a : Nat → Int32) : qp_Fr n a a := fun _ _ => rfl
theorem qp_Fr_t {n : Nat} {a b c : Nat → Int32} (h : qp_Fr n a b) (h' : qp_Fr n b c) : qp_Fr n a c := fun p hp => (h' p hp).trans (h p hp)
theorem qp_Rep_fr {a a' : Nat → Int32} {j n w : Nat} {S : List qp_Row} (h : qp_Rep a j w S) (hl : S.length ≤ 24) (hw : w ≤ 6) (hj : j ≠ n) (hf : qp_Fr n a a') : qp_Rep a' j w S := by
  intro r c hr hc
  rw [hf _ (by omega)]
  exact h r c hr hc
def qp_Out (n w : Nat) (R : List qp_Row) (h a h' a' : Nat → Int32) : Prop := qp_Fr n a a' ∧ (∀ j, j ≠ n → h' j = h j) ∧ h' n = nI R.length ∧ qp_Rep a' n w R
theorem qp_Out_0 {n w : Nat} {h a : Nat → Int32} (e : h n = 0) : qp_Out n w [] h a h a := ⟨qp_Fr_r n a, fun _ _ => rfl, by rw [e]; rfl, fun r c hr _ => absurd hr (Nat.not_lt_zero r)⟩
theorem qp_Out_app {n w : Nat} {R : List qp_Row} {h a h1 a1 a2 : Nat → Int32} (O : qp_Out n w R h a h1 a1) (hR : R.length < 24) (hw : w ≤ 6) (x : qp_Row) (hx : ∀ c, c < w → a2 (n * 144 + R.length * 6 + c) = x c) (hk : ∀ p, (p < n * 144 + R.length * 6 ∨ n * 144 + R.length * 6 + 6 ≤ p) → a2 p = a1 p) : qp_Out n w (R ++ [x]) h a (upd h1 n (nI (R.length + 1))) a2 := by
  obtain ⟨o1, o2, o3, o4⟩ := O
  refine ⟨fun p hp => ?_, fun j hj => ?_, ?_, fun r c hr hc => ?_⟩
  · rw [hk p (by omega)]; exact o1 p hp
  · rw [pk_un hj]; exact o2 j hj
  · rw [pk_us, List.length_append]; rfl
  · rw [List.length_append, List.length_singleton] at hr
    by_cases e : r < R.length
    · rw [hk _ (by omega), qp_g_lo e]; exact o4 r c e hc
    · have e2 : r = R.length := by omega
      subst e2
      rw [qp_g_hi]; exact hx c hc
theorem qp_Out_rd {n w : Nat} {R : List qp_Row} {h a h1 a1 : Nat → Int32} (O : qp_Out n w R h a h1 a1) {j v : Nat} {S : List qp_Row} (hS : qp_Rep a j v S) (hl : S.length ≤ 24) (hv : v ≤ 6) (hj : j ≠ n) : qp_Rep a1 j v S := qp_Rep_fr hS hl hv hj O.1
/-! comparisons, operations -/
def qp_ful (a c b : Int32) : Prop := if c = 0 then a = b else if c = 1 then a ≠ b else if c = 2 then a < b else if c = 3 then a ≤ b else if c = 4 then b < a else b ≤ a
def qp_com (o a b : Int32) : Int32 := if o = 0 then a + b else if o = 1 then a - b else if o = 2 then a * b else if o = 3 then (if a < b then a else b) else (if b < a then a else b)
/-! the lists of the kinds -/
noncomputable def qp_fl (S : List qp_Row) (P : qp_Row → Prop) : Nat → List qp_Row
  | 0 => []
  | i + 1 => qp_if (P (qp_g S i)) (qp_fl S P i ++ [qp_g S i]) (qp_fl S P i)
theorem qp_fl_len (S : List qp_Row) (P : qp_Row → Prop) : ∀ i, (qp_fl S P i).length ≤ i := by
  intro i
  induction i with
  | zero => exact Nat.le_refl 0
  | succ i ih =>
    unfold qp_fl
    by_cases h : P (qp_g S i)
    · rw [qp_if_t h, List.length_append, List.length_singleton]; omega
    · rw [qp_if_f h]; omega
def qp_mp (S : List qp_Row) (wl : Nat) (o : Int32) (a b : Nat) : Nat → qp_Row := fun r c => if c < wl then qp_g S r c else qp_com o (qp_g S r a) (qp_g S r b)
def qp_ch (d : Int32) (i : Nat) : Int32 := (d >>> ((3 * nI i) &&& 31)) &&& 7
def qp_pr (S : List qp_Row) (d : Int32) : Nat → qp_Row := fun r c => qp_g S r (qp_ch d c).toNatClampNeg
/-! join -/
def qp_pair (x y : qp_Row) (wl : Nat) : qp_Row := fun c => if c < wl then x c else y (c - wl)
noncomputable def qp_ji (Q : List qp_Row) (x : qp_Row) (a b wl : Nat) (acc : List qp_Row) : Nat → List qp_Row
  | 0 => acc
  | j + 1 => qp_if (x a = qp_g Q j b) (qp_ji Q x a b wl acc j ++ [qp_pair x (qp_g Q j) wl]) (qp_ji Q x a b wl acc j)
def qp_hit (Q : List qp_Row) (x : qp_Row) (a b j : Nat) : Prop := ∃ t, t < j ∧ x a = qp_g Q t b
noncomputable def qp_jb (Q : List qp_Row) (x : qp_Row) (a b wl : Nat) (k : Int32) (acc : List qp_Row) : List qp_Row :=
  if k = 0 then qp_ji Q x a b wl acc Q.length else
  if k = 1 then qp_if (qp_hit Q x a b Q.length) (acc ++ [x]) acc else
  if k = 2 then qp_if (qp_hit Q x a b Q.length) acc (acc ++ [x]) else
  qp_if (qp_hit Q x a b Q.length) (qp_ji Q x a b wl acc Q.length) (acc ++ [qp_pair x (fun _ => 0) wl])
noncomputable def qp_jo (S Q : List qp_Row) (a b wl : Nat) (k : Int32) : Nat → List qp_Row
  | 0 => []
  | i + 1 => qp_jb Q (qp_g S i) a b wl k (qp_jo S Q a b wl k i)
theorem qp_ji_no {Q : List qp_Row} {x : qp_Row} {a b wl : Nat} {acc : List qp_Row} : ∀ {j : Nat}, ¬ qp_hit Q x a b j → qp_ji Q x a b wl acc j = acc := by
  intro j
  induction j with
  | zero => intro _; rfl
  | succ j ih =>
    intro h
    unfold qp_ji
    rw [qp_if_f (fun e => h ⟨j, by omega, e⟩)]
    exact ih (fun ⟨t, ht, e⟩ => h ⟨t, by omega, e⟩)
theorem qp_ji_len (Q : List qp_Row) (x : qp_Row) (a b wl : Nat) (acc : List qp_Row) : ∀ j, (qp_ji Q x a b wl acc j).length ≤ acc.length + j := by
  intro j
  induction j with
  | zero => exact Nat.le_refl _
  | succ j ih =>
    unfold qp_ji
    by_cases h : x a = qp_g Q j b
    · rw [qp_if_t h, List.length_append, List.length_singleton]; omega
    · rw [qp_if_f h]; omega
/-- how many rows one left row may give -/
theorem qp_jb_len {Q : List qp_Row} {x : qp_Row} {a b wl m : Nat} {k : Int32} {acc : List qp_Row} (h1 : k = 0 ∨ k = 3 → Q.length ≤ m) (h2 : k ≠ 0 → 1 ≤ m) (hk : k = 0 ∨ k = 1 ∨ k = 2 ∨ k = 3) : (qp_jb Q x a b wl k acc).length ≤ acc.length + m := by
  have hj := qp_ji_len Q x a b wl acc Q.length
  rcases hk with rfl | rfl | rfl | rfl
  · have := h1 (Or.inl rfl)
    show (qp_ji Q x a b wl acc Q.length).length ≤ _
    omega
  · have := h2 (by decide)
    show (qp_if (qp_hit Q x a b Q.length) (acc ++ [x]) acc).length ≤ _
    by_cases h : qp_hit Q x a b Q.length
    · rw [qp_if_t h, List.length_append, List.length_singleton]; omega
    · rw [qp_if_f h]; omega
  · have := h2 (by decide)
    show (qp_if (qp_hit Q x a b Q.length) acc (acc ++ [x])).length ≤ _
    by_cases h : qp_hit Q x a b Q.length
    · rw [qp_if_t h]; omega
    · rw [qp_if_f h, List.length_append, List.length_singleton]; omega
  · have := h1 (Or.inr rfl)
    have := h2 (by decide)
    show (qp_if (qp_hit Q x a b Q.length) (qp_ji Q x a b wl acc Q.length) (acc ++ [qp_pair x (fun _ => 0) wl])).length ≤ _
    by_cases h : qp_hit Q x a b Q.length
    · rw [qp_if_t h]; omega
    · rw [qp_if_f h, List.length_append, List.length_singleton]; omega
theorem qp_jo_len {S Q : List qp_Row} {a b wl m : Nat} {k : Int32} (h1 : k = 0 ∨ k = 3 → Q.length ≤ m) (h2 : k ≠ 0 → 1 ≤ m) (hk : k = 0 ∨ k = 1 ∨ k = 2 ∨ k = 3) : ∀ i, (qp_jo S Q a b wl k i).length ≤ i * m := by
  intro i
  induction i with
  | zero => exact Nat.zero_le _
  | succ i ih =>
    have := qp_jb_len (Q := Q) (x := qp_g S i) (a := a) (b := b) (wl := wl) (acc := qp_jo S Q a b wl k i) h1 h2 hk
    show (qp_jb Q (qp_g S i) a b wl k (qp_jo S Q a b wl k i)).length ≤ _
    rw [Nat.succ_mul]
    omega
/-! distinct -/
def qp_eqv (w : Nat) (x y : qp_Row) : Prop := ∀ c, c < w → x c = y c
noncomputable def qp_di (S : List qp_Row) (w : Nat) : Nat → List qp_Row
  | 0 => []
  | i + 1 => qp_if (∃ j, j < i ∧ qp_eqv w (qp_g S i) (qp_g S j)) (qp_di S w i) (qp_di S w i ++ [qp_g S i])
theorem qp_di_len (S : List qp_Row) (w : Nat) : ∀ i, (qp_di S w i).length ≤ i := by
  intro i
  induction i with
  | zero => exact Nat.le_refl 0
  | succ i ih =>
    unfold qp_di
    by_cases h : ∃ j, j < i ∧ qp_eqv w (qp_g S i) (qp_g S j)
    · rw [qp_if_t h]; omega
    · rw [qp_if_f h, List.length_append, List.length_singleton]; omega
theorem qp_di_kept (S : List qp_Row) (w : Nat) (x : qp_Row) : ∀ i, (∃ r, r < (qp_di S w i).length ∧ qp_eqv w (qp_g (qp_di S w i) r) x) ↔ ∃ j, j < i ∧ qp_eqv w (qp_g S j) x := by
  intro i
  induction i with
  | zero => exact ⟨fun ⟨r, hr, _⟩ => absurd hr (Nat.not_lt_zero r), fun ⟨r, hr, _⟩ => absurd hr (Nat.not_lt_zero r)⟩
  | succ i ih =>
    unfold qp_di
    by_cases h : ∃ j, j < i ∧ qp_eqv w (qp_g S i) (qp_g S j)
    · rw [qp_if_t h, ih]
      constructor
      · exact fun ⟨j, hj, e⟩ => ⟨j, by omega, e⟩
      · intro ⟨j, hj, e⟩
        by_cases hji : j < i
        · exact ⟨j, hji, e⟩
        · have : j = i := by omega
          subst this
          obtain ⟨t, ht, e2⟩ := h
          exact ⟨t, ht, fun c hc => (e2 c hc).symm.trans (e c hc)⟩
    · rw [qp_if_f h]
      constructor
      · intro ⟨r, hr, e⟩
        rw [List.length_append, List.length_singleton] at hr
        by_cases hrl : r < (qp_di S w i).length
        · rw [qp_g_lo hrl] at e
          obtain ⟨j, hj, e2⟩ := ih.mp ⟨r, hrl, e⟩
          exact ⟨j, by omega, e2⟩
        · have : r = (qp_di S w i).length := by omega
          subst this
          rw [qp_g_hi] at e
          exact ⟨i, by omega, e⟩
      · intro ⟨j, hj, e⟩
        by_cases hji : j < i
        · obtain ⟨r, hr, e2⟩ := ih.mpr ⟨j, hji, e⟩
          exact ⟨r, by rw [List.length_append, List.length_singleton]; omega, by rw [qp_g_lo hr]; exact e2⟩
        · have : j = i := by omega
          subst this
          exact ⟨(qp_di S w j).length, by rw [List.length_append, List.length_singleton]; omega, by rw [qp_g_hi]; exact e⟩
end
section
/-! counting, pigeonhole, sort -/
noncomputable def qp_cnt (P : Nat → Prop) : Nat → Nat
  | 0 => 0
  | n + 1 => qp_if (P n) (qp_cnt P n + 1) (qp_cnt P n)
theorem qp_cnt_le (P : Nat → Prop) : ∀ n, qp_cnt P n ≤ n := by
  intro n
  induction n with
  | zero => exact Nat.le_refl 0
  | succ n ih =>
    unfold qp_cnt
    by_cases h : P n
    · rw [qp_if_t h]; omega
    · rw [qp_if_f h]; omega
theorem qp_cnt_mono {P Q : Nat → Prop} (hPQ : ∀ j, P j → Q j) : ∀ n, qp_cnt P n ≤ qp_cnt Q n := by
  intro n
  induction n with
  | zero => exact Nat.le_refl 0
  | succ n ih =>
    unfold qp_cnt
    by_cases h : P n
    · rw [qp_if_t h, qp_if_t (hPQ n h)]; omega
    · rw [qp_if_f h]
      by_cases h2 : Q n
      · rw [qp_if_t h2]; omega
      · rw [qp_if_f h2]; exact ih
theorem qp_cnt_lt {P Q : Nat → Prop} (hPQ : ∀ j, P j → Q j) {t : Nat} (hq : Q t) (hp : ¬ P t) : ∀ n, t < n → qp_cnt P n < qp_cnt Q n := by
  intro n
  induction n with
  | zero => intro h; exact absurd h (Nat.not_lt_zero t)
  | succ n ih =>
    intro ht
    unfold qp_cnt
    by_cases e : t = n
    · subst e
      rw [qp_if_f hp, qp_if_t hq]
      have := qp_cnt_mono hPQ t
      omega
    · have h3 := ih (by omega)
      by_cases h : P n
      · rw [qp_if_t h, qp_if_t (hPQ n h)]; omega
      · rw [qp_if_f h]
        by_cases h2 : Q n
        · rw [qp_if_t h2]; omega
        · rw [qp_if_f h2]; exact h3
theorem qp_pig : ∀ (n : Nat) (f : Nat → Nat), (∀ i, i < n → f i < n) → (∀ i j, i < n → j < n → f i = f j → i = j) → ∀ k, k < n → ∃ i, i < n ∧ f i = k := by
  intro n
  induction n with
  | zero => intro f _ _ k hk; exact absurd hk (Nat.not_lt_zero k)
  | succ n ih =>
    intro f hf hi k hk
    have key := ih (fun i => if f i = n then f n else f i) (by
      intro i hin
      show (if f i = n then f n else f i) < n
      by_cases e : f i = n
      · rw [if_pos e]
        have h1 := hf n (by omega)
        by_cases e2 : f n = n
        · have := hi i n (by omega) (by omega) (by omega)
          omega
        · omega
      · rw [if_neg e]
        have h1 := hf i (by omega)
        omega) (by
      intro i j hin hjn
      show (if f i = n then f n else f i) = (if f j = n then f n else f j) → i = j
      by_cases e : f i = n
      · rw [if_pos e]
        by_cases e2 : f j = n
        · intro _; exact hi i j (by omega) (by omega) (by omega)
        · rw [if_neg e2]
          intro h
          have := hi n j (by omega) (by omega) h
          omega
      · rw [if_neg e]
        by_cases e2 : f j = n
        · rw [if_pos e2]
          intro h
          have := hi i n (by omega) (by omega) h
          omega
        · rw [if_neg e2]
          intro h
          exact hi i j (by omega) (by omega) h)
    by_cases e : f n = k
    · exact ⟨n, by omega, e⟩
    · by_cases hkn : k = n
      · have h1 := hf n (by omega)
        obtain ⟨i, hin, hgi⟩ := key (f n) (by omega)
        have hgi' : (if f i = n then f n else f i) = f n := hgi
        by_cases e2 : f i = n
        · exact ⟨i, by omega, by omega⟩
        · rw [if_neg e2] at hgi'
          have := hi i n (by omega) (by omega) hgi'
          omega
      · obtain ⟨i, hin, hgi⟩ := key k (by omega)
        have hgi' : (if f i = n then f n else f i) = k := hgi
        by_cases e2 : f i = n
        · rw [if_pos e2] at hgi'
          exact absurd hgi' e
        · rw [if_neg e2] at hgi'
          exact ⟨i, by omega, hgi'⟩
def qp_find (f : Nat → Nat) (k : Nat) : Nat → Nat
  | 0 => 0
  | n + 1 => if f n = k then n else qp_find f k n
theorem qp_find_ok (f : Nat → Nat) (k : Nat) : ∀ n, (∃ i, i < n ∧ f i = k) → qp_find f k n < n ∧ f (qp_find f k n) = k := by
  intro n
  induction n with
  | zero => intro ⟨i, hi, _⟩; exact absurd hi (Nat.not_lt_zero i)
  | succ n ih =>
    intro ⟨i, hi, e⟩
    unfold qp_find
    by_cases h : f n = k
    · rw [if_pos h]; exact ⟨by omega, h⟩
    · rw [if_neg h]
      have hin : i ≠ n := fun z => h (by rw [← z]; exact e)
      have := ih ⟨i, by omega, e⟩
      exact ⟨by omega, this.2⟩
/-- j goes before i, by values x and y = value at i -/
def qp_bf (d : Prop) (v : Nat → Int32) (i j : Nat) : Prop := (d ∧ v i < v j) ∨ (¬ d ∧ v j < v i) ∨ (v j = v i ∧ j < i)
noncomputable def qp_rk (d : Prop) (v : Nat → Int32) (h i : Nat) : Nat := qp_cnt (qp_bf d v i) h
theorem qp_i32lt {a b : Int32} : a < b ↔ a.toInt < b.toInt := Int32.lt_iff_toInt_lt
theorem qp_i32eq {a b : Int32} : a = b ↔ a.toInt = b.toInt := Int32.toInt_inj.symm
theorem qp_bf_irr (d : Prop) (v : Nat → Int32) (i : Nat) : ¬ qp_bf d v i i := by
  unfold qp_bf
  rw [qp_i32lt]
  omega
theorem qp_bf_tr {d : Prop} {v : Nat → Int32} {i j k : Nat} (h1 : qp_bf d v i j) (h2 : qp_bf d v j k) : qp_bf d v i k := by
  unfold qp_bf at *
  rw [qp_i32lt, qp_i32lt, qp_i32eq] at *
  by_cases hd : d
  · rcases h1 with ⟨_, h1⟩ | ⟨h0, _⟩ | ⟨h1, h1'⟩
    · rcases h2 with ⟨_, h2⟩ | ⟨h0, _⟩ | ⟨h2, h2'⟩
      · exact Or.inl ⟨hd, by omega⟩
      · exact absurd hd h0
      · exact Or.inl ⟨hd, by omega⟩
    · exact absurd hd h0
    · rcases h2 with ⟨_, h2⟩ | ⟨h0, _⟩ | ⟨h2, h2'⟩
      · exact Or.inl ⟨hd, by omega⟩
      · exact absurd hd h0
      · exact Or.inr (Or.inr ⟨by omega, by omega⟩)
  · rcases h1 with ⟨h0, _⟩ | ⟨_, h1⟩ | ⟨h1, h1'⟩
    · exact absurd h0 hd
    · rcases h2 with ⟨h0, _⟩ | ⟨_, h2⟩ | ⟨h2, h2'⟩
      · exact absurd h0 hd
      · exact Or.inr (Or.inl ⟨hd, by omega⟩)
      · exact Or.inr (Or.inl ⟨hd, by omega⟩)
    · rcases h2 with ⟨h0, _⟩ | ⟨_, h2⟩ | ⟨h2, h2'⟩
      · exact absurd h0 hd
      · exact Or.inr (Or.inl ⟨hd, by omega⟩)
      · exact Or.inr (Or.inr ⟨by omega, by omega⟩)
theorem qp_bf_tot (d : Prop) (v : Nat → Int32) {i j : Nat} (h : i ≠ j) : qp_bf d v i j ∨ qp_bf d v j i := by
  unfold qp_bf
  rw [qp_i32lt, qp_i32lt, qp_i32eq, qp_i32eq]
  by_cases hd : d
  · by_cases h1 : (v i).toInt < (v j).toInt
    · exact Or.inl (Or.inl ⟨hd, h1⟩)
    · by_cases h2 : (v j).toInt < (v i).toInt
      · exact Or.inr (Or.inl ⟨hd, h2⟩)
      · by_cases h3 : j < i
        · exact Or.inl (Or.inr (Or.inr ⟨by omega, h3⟩))
        · exact Or.inr (Or.inr (Or.inr ⟨by omega, by omega⟩))
  · by_cases h1 : (v i).toInt < (v j).toInt
    · exact Or.inr (Or.inr (Or.inl ⟨hd, h1⟩))
    · by_cases h2 : (v j).toInt < (v i).toInt
      · exact Or.inl (Or.inr (Or.inl ⟨hd, h2⟩))
      · by_cases h3 : j < i
        · exact Or.inl (Or.inr (Or.inr ⟨by omega, h3⟩))
        · exact Or.inr (Or.inr (Or.inr ⟨by omega, by omega⟩))
theorem qp_rk_lt (d : Prop) (v : Nat → Int32) {h i : Nat} (hi : i < h) : qp_rk d v h i < h := by
  have h1 := qp_cnt_lt (P := qp_bf d v i) (Q := fun _ => True) (fun _ _ => trivial) (t := i) trivial (qp_bf_irr d v i) h hi
  have h2 := qp_cnt_le (fun _ => True) h
  unfold qp_rk
  omega
theorem qp_rk_mono {d : Prop} {v : Nat → Int32} {h i j : Nat} (hj : j < h) (hb : qp_bf d v i j) : qp_rk d v h j < qp_rk d v h i := qp_cnt_lt (P := qp_bf d v j) (Q := qp_bf d v i) (fun _ hk => qp_bf_tr hb hk) (t := j) hb (qp_bf_irr d v j) h hj
theorem qp_rk_inj {d : Prop} {v : Nat → Int32} {h i j : Nat} (hi : i < h) (hj : j < h) (e : qp_rk d v h i = qp_rk d v h j) : i = j := by
  by_cases hij : i = j
  · exact hij
  · rcases qp_bf_tot d v hij with hb | hb
    · have := qp_rk_mono hj hb
      omega
    · have := qp_rk_mono hi hb
      omega
noncomputable def qp_iv (d : Prop) (v : Nat → Int32) (h k : Nat) : Nat := qp_find (qp_rk d v h) k h
theorem qp_iv_ok (d : Prop) (v : Nat → Int32) {h k : Nat} (hk : k < h) : qp_iv d v h k < h ∧ qp_rk d v h (qp_iv d v h k) = k := qp_find_ok _ _ _ (qp_pig h (qp_rk d v h) (fun _ hi => qp_rk_lt d v hi) (fun _ _ hi hj e => qp_rk_inj hi hj e) k hk)
theorem qp_iv_rk (d : Prop) (v : Nat → Int32) {h i : Nat} (hi : i < h) : qp_iv d v h (qp_rk d v h i) = i := by
  have h1 := qp_iv_ok d v (qp_rk_lt d v hi)
  exact qp_rk_inj h1.1 hi h1.2
noncomputable def qp_so (S : List qp_Row) (d : Prop) (a : Nat) : Nat → qp_Row := fun k => qp_g S (qp_iv d (fun r => qp_g S r a) S.length k)
/-! group -/
def qp_cb (o s v : Int32) : Int32 := if o = 0 then s + 1 else if o = 1 then s + v else if o = 2 then (if v < s then v else s) else (if s < v then v else s)
def qp_ag (S : List qp_Row) (o : Int32) (a b : Nat) (key v0 : Int32) : Nat → Int32
  | 0 => if o = 0 then 0 else if o = 1 then 0 else v0
  | n + 1 => if qp_g S n a = key then qp_cb o (qp_ag S o a b key v0 n) (qp_g S n b) else qp_ag S o a b key v0 n
def qp_fst (S : List qp_Row) (a j : Nat) : Prop := ∀ t, t < j → qp_g S t a ≠ qp_g S j a
noncomputable def qp_F (S : List qp_Row) (a : Nat) : Nat → List Nat
  | 0 => []
  | i + 1 => qp_if (qp_fst S a i) (qp_F S a i ++ [i]) (qp_F S a i)
def qp_kv (k v : Int32) : qp_Row := fun c => if c = 0 then k else v
def qp_gr (S : List qp_Row) (o : Int32) (a b n j : Nat) : qp_Row := qp_kv (qp_g S j a) (qp_ag S o a b (qp_g S j a) (qp_g S j b) n)
noncomputable def qp_gp (S : List qp_Row) (o : Int32) (a b n i : Nat) : List qp_Row := (qp_F S a i).map (qp_gr S o a b n)
theorem qp_F_len (S : List qp_Row) (a : Nat) : ∀ i, (qp_F S a i).length ≤ i := by
  intro i
  induction i with
  | zero => exact Nat.le_refl 0
  | succ i ih =>
    unfold qp_F
    by_cases h : qp_fst S a i
    · rw [qp_if_t h, List.length_append, List.length_singleton]; omega
    · rw [qp_if_f h]; omega
theorem qp_gp_len (S : List qp_Row) (o : Int32) (a b n i : Nat) : (qp_gp S o a b n i).length ≤ i := by
  unfold qp_gp; rw [List.length_map]; exact qp_F_len S a i
theorem qp_gp_t {S : List qp_Row} {o : Int32} {a b n i : Nat} (h : qp_fst S a i) : qp_gp S o a b n (i + 1) = qp_gp S o a b n i ++ [qp_gr S o a b n i] := by
  unfold qp_gp
  rw [show qp_F S a (i + 1) = qp_if (qp_fst S a i) (qp_F S a i ++ [i]) (qp_F S a i) from rfl, qp_if_t h, List.map_append]
  rfl
theorem qp_gp_f {S : List qp_Row} {o : Int32} {a b n i : Nat} (h : ¬ qp_fst S a i) : qp_gp S o a b n (i + 1) = qp_gp S o a b n i := by
  unfold qp_gp
  rw [show qp_F S a (i + 1) = qp_if (qp_fst S a i) (qp_F S a i ++ [i]) (qp_F S a i) from rfl, qp_if_f h]
def qp_fg (F : List Nat) (g : Nat) : Nat := F.getD g 0
theorem qp_fg_lo {F : List Nat} {x g : Nat} (h : g < F.length) : qp_fg (F ++ [x]) g = qp_fg F g := by
  unfold qp_fg
  rw [List.getD_eq_getElem?_getD, List.getD_eq_getElem?_getD, List.getElem?_append_left h]
theorem qp_fg_hi {F : List Nat} {x : Nat} : qp_fg (F ++ [x]) F.length = x := by
  unfold qp_fg
  rw [List.getD_eq_getElem?_getD, List.getElem?_concat_length]
  rfl
theorem qp_gp_g {S : List qp_Row} {o : Int32} {a b n i g : Nat} (h : g < (qp_F S a i).length) : qp_g (qp_gp S o a b n i) g = qp_gr S o a b n (qp_fg (qp_F S a i) g) := by
  unfold qp_g qp_gp qp_fg
  rw [List.getD_eq_getElem?_getD, List.getD_eq_getElem?_getD, List.getElem?_map, List.getElem?_eq_getElem h]
  rfl
/-- the first occurrences: below i, all keys, no key twice -/
theorem qp_F_ok (S : List qp_Row) (a : Nat) : ∀ i, (∀ g, g < (qp_F S a i).length → qp_fg (qp_F S a i) g < i) ∧ (∀ t, t < i → ∃ g, g < (qp_F S a i).length ∧ qp_g S (qp_fg (qp_F S a i) g) a = qp_g S t a) ∧ (∀ g g', g < (qp_F S a i).length → g' < (qp_F S a i).length → qp_g S (qp_fg (qp_F S a i) g) a = qp_g S (qp_fg (qp_F S a i) g') a → g = g') := by
  intro i
  induction i with
  | zero => exact ⟨fun g h => absurd h (Nat.not_lt_zero g), fun t h => absurd h (Nat.not_lt_zero t), fun g _ h => absurd h (Nat.not_lt_zero g)⟩
  | succ i ih =>
    obtain ⟨i1, i2, i3⟩ := ih
    unfold qp_F
    by_cases h : qp_fst S a i
    · rw [qp_if_t h, List.length_append, List.length_singleton]
      refine ⟨fun g hg => ?_, fun t ht => ?_, fun g g' hg hg' e => ?_⟩
      · by_cases e : g < (qp_F S a i).length
        · rw [qp_fg_lo e]; have := i1 g e; omega
        · have : g = (qp_F S a i).length := by omega
          subst this
          rw [qp_fg_hi]; omega
      · by_cases e : t < i
        · obtain ⟨g, hg, e2⟩ := i2 t e
          exact ⟨g, by omega, by rw [qp_fg_lo hg]; exact e2⟩
        · have : t = i := by omega
          subst this
          exact ⟨(qp_F S a t).length, by omega, by rw [qp_fg_hi]⟩
      · by_cases e1 : g < (qp_F S a i).length
        · rw [qp_fg_lo e1] at e
          by_cases e2 : g' < (qp_F S a i).length
          · rw [qp_fg_lo e2] at e
            exact i3 g g' e1 e2 e
          · have : g' = (qp_F S a i).length := by omega
            subst this
            rw [qp_fg_hi] at e
            exact absurd e (h _ (i1 g e1))
        · have : g = (qp_F S a i).length := by omega
          subst this
          rw [qp_fg_hi] at e
          by_cases e2 : g' < (qp_F S a i).length
          · rw [qp_fg_lo e2] at e
            exact absurd e.symm (h _ (i1 g' e2))
          · omega
    · rw [qp_if_f h]
      refine ⟨fun g hg => by have := i1 g hg; omega, fun t ht => ?_, i3⟩
      by_cases e : t < i
      · exact i2 t e
      · have : t = i := by omega
        subst this
        by_cases hx : ∃ s, s < t ∧ qp_g S s a = qp_g S t a
        · obtain ⟨s, hs, e2⟩ := hx
          obtain ⟨g, hg, e3⟩ := i2 s hs
          exact ⟨g, hg, e3.trans e2⟩
        · exact absurd (fun s hs e2 => hx ⟨s, hs, e2⟩) h
theorem qp_ag_no {S : List qp_Row} {o : Int32} {a b : Nat} {key v0 : Int32} : ∀ {n : Nat}, (∀ t, t < n → qp_g S t a ≠ key) → qp_ag S o a b key v0 n = qp_ag S o a b key v0 0 := by
  intro n
  induction n with
  | zero => intro _; rfl
  | succ n ih =>
    intro h
    rw [show qp_ag S o a b key v0 (n + 1) = (if qp_g S n a = key then qp_cb o (qp_ag S o a b key v0 n) (qp_g S n b) else qp_ag S o a b key v0 n) from rfl, if_neg (h n (by omega))]
    exact ih (fun t ht => h t (by omega))
/-- a new group starts with 1, or with its value -/
theorem qp_ag_1 {S : List qp_Row} {o : Int32} {a b i : Nat} (ho : o = 0 ∨ o = 1 ∨ o = 2 ∨ o = 3) (h : qp_fst S a i) : qp_ag S o a b (qp_g S i a) (qp_g S i b) (i + 1) = if o = 0 then 1 else qp_g S i b := by
  rw [show qp_ag S o a b (qp_g S i a) (qp_g S i b) (i + 1) = (if qp_g S i a = qp_g S i a then qp_cb o (qp_ag S o a b (qp_g S i a) (qp_g S i b) i) (qp_g S i b) else qp_ag S o a b (qp_g S i a) (qp_g S i b) i) from rfl, if_pos rfl, qp_ag_no h]
  generalize qp_g S i b = v
  rcases ho with rfl | rfl | rfl | rfl
  · show (0 : Int32) + 1 = 1
    rfl
  · show (0 : Int32) + v = v
    exact Int32.zero_add v
  · show (if v < v then v else v) = v
    split <;> rfl
  · show (if v < v then v else v) = v
    split <;> rfl
theorem qp_ag_t {S : List qp_Row} {o : Int32} {a b : Nat} {key v0 : Int32} {n : Nat} (h : qp_g S n a = key) : qp_ag S o a b key v0 (n + 1) = qp_cb o (qp_ag S o a b key v0 n) (qp_g S n b) := by
  rw [show qp_ag S o a b key v0 (n + 1) = (if qp_g S n a = key then qp_cb o (qp_ag S o a b key v0 n) (qp_g S n b) else qp_ag S o a b key v0 n) from rfl, if_pos h]
theorem qp_ag_f {S : List qp_Row} {o : Int32} {a b : Nat} {key v0 : Int32} {n : Nat} (h : ¬ qp_g S n a = key) : qp_ag S o a b key v0 (n + 1) = qp_ag S o a b key v0 n := by
  rw [show qp_ag S o a b key v0 (n + 1) = (if qp_g S n a = key then qp_cb o (qp_ag S o a b key v0 n) (qp_g S n b) else qp_ag S o a b key v0 n) from rfl, if_neg h]
/-- the component's way to put two together -/
def qp_cx (o s v : Int32) : Int32 := if o = 2 then (if s < v then s else v) else if o = 3 then (if v < s then s else v) else s + v
theorem qp_cx_cb {o s v : Int32} (ho : o = 0 ∨ o = 1 ∨ o = 2 ∨ o = 3) : qp_cx o s (if o = 0 then 1 else v) = qp_cb o s v := by
  rcases ho with rfl | rfl | rfl | rfl
  · rfl
  · rfl
  · show (if s < v then s else v) = (if v < s then v else s)
    by_cases h1 : s < v
    · rw [if_pos h1, if_neg (by rw [qp_i32lt] at *; omega)]
    · rw [if_neg h1]
      by_cases h2 : v < s
      · rw [if_pos h2]
      · rw [if_neg h2]
        rw [qp_i32lt] at *
        exact qp_i32eq.mpr (by omega)
  · show (if v < s then s else v) = (if s < v then v else s)
    by_cases h1 : v < s
    · rw [if_pos h1, if_neg (by rw [qp_i32lt] at *; omega)]
    · rw [if_neg h1]
      by_cases h2 : s < v
      · rw [if_pos h2]
      · rw [if_neg h2]
        rw [qp_i32lt] at *
        exact qp_i32eq.mpr (by omega)
/-! a value for every node, each out of those before it -/
theorem qp_ex {α : Type} (d : α) (f : Nat → (Nat → α) → α) : ∀ n, (∀ j, j < n → ∀ g g', (∀ t, t < j → g t = g' t) → f j g = f j g') → ∃ F : Nat → α, ∀ j, j < n → F j = f j F := by
  intro n
  induction n with
  | zero => intro _; exact ⟨fun _ => d, fun j h => absurd h (Nat.not_lt_zero j)⟩
  | succ n ih =>
    intro h
    obtain ⟨F, hF⟩ := ih (fun j hj => h j (by omega))
    refine ⟨fun j => if j = n then f n F else F j, fun j hj => ?_⟩
    by_cases e : j = n
    · subst e
      show (if j = j then f j F else F j) = _
      rw [if_pos rfl]
      exact h j (by omega) _ _ (fun t ht => (if_neg (by omega)).symm)
    · show (if j = n then f n F else F j) = _
      rw [if_neg e, hF j (by omega)]
      exact h j (by omega) _ _ (fun t ht => (if_neg (by omega)).symm)
end
section
/-! what a node is, and what a run works out -/
def qp_U (l : Int32) (W : Nat → Int32) (i x wl : Nat) : Prop := x < i ∧ l = nI x ∧ 1 ≤ wl ∧ wl ≤ 6 ∧ W x = nI wl
def qp_OK (k l r w a b c d q1 q2 q3 : Int32) (W : Nat → Int32) (i : Nat) : Prop := ∃ wn : Nat, 1 ≤ wn ∧ wn ≤ 6 ∧ w = nI wn ∧
  ((k = 0 ∧ wn ≤ 3 ∧ ∃ t : Nat, t < 4 ∧ d = nI t ∧ q1 = nI t) ∨
  (k = 1 ∧ r = -1 ∧ ∃ x a' : Nat, qp_U l W i x wn ∧ a' < wn ∧ a = nI a' ∧ q1 = nI a' ∧ q2 = c ∧ q3 = d) ∨
  (k = 2 ∧ r = -1 ∧ ∃ x a' b' : Nat, qp_U l W i x wn ∧ a' < wn ∧ b' < wn ∧ a = nI a' ∧ b = nI b' ∧ q1 = nI a' ∧ q2 = c ∧ q3 = nI b') ∨
  (k = 3 ∧ r = -1 ∧ ∃ x wl a' b' : Nat, qp_U l W i x wl ∧ wn = wl + 1 ∧ a' < wl ∧ b' < wl ∧ a = nI a' ∧ b = nI b' ∧ q1 = c ∧ q2 = nI a' ∧ q3 = nI b') ∨
  (k = 4 ∧ r = -1 ∧ ∃ x wl : Nat, qp_U l W i x wl ∧ q1 = d ∧ ∀ e, e < wn → ∃ q : Nat, q < wl ∧ qp_ch d e = nI q) ∨
  (k = 5 ∧ ∃ x wl y wr a' b' : Nat, qp_U l W i x wl ∧ qp_U r W i y wr ∧ a' < wl ∧ b' < wr ∧ a = nI a' ∧ b = nI b' ∧ q1 = nI a' ∧ q2 = nI b' ∧ q3 = c ∧ (((c = 0 ∨ c = 3) ∧ wn = wl + wr) ∨ ((c = 1 ∨ c = 2) ∧ wn = wl))) ∨
  (k = 6 ∧ ∃ x y : Nat, qp_U l W i x wn ∧ qp_U r W i y wn) ∨
  (k = 7 ∧ r = -1 ∧ wn = 2 ∧ ∃ x wl a' b' : Nat, qp_U l W i x wl ∧ a' < wl ∧ b' < wl ∧ a = nI a' ∧ b = nI b' ∧ q1 = nI a' ∧ q2 = c ∧ q3 = nI b' ∧ (c = 0 ∨ c = 1 ∨ c = 2 ∨ c = 3)) ∨
  (k = 8 ∧ r = -1 ∧ ∃ x : Nat, qp_U l W i x wn) ∨
  (k = 9 ∧ r = -1 ∧ ∃ x m : Nat, qp_U l W i x wn ∧ m < 2 ^ 31 ∧ d = nI m ∧ q1 = nI m) ∨
  (k = 10 ∧ r = -1 ∧ ∃ x a' : Nat, qp_U l W i x wn ∧ a' < wn ∧ a = nI a' ∧ q1 = nI a' ∧ ((c = 4 ∧ q2 = 1) ∨ (c = 2 ∧ q2 = 0))))
theorem qp_U_c {W W' : Nat → Int32} {i : Nat} (hW : ∀ j, j < i → W' j = W j) (l : Int32) : qp_U l W' i = qp_U l W i := by
  funext x wl
  apply propext
  constructor
  · intro ⟨h1, h2, h3, h4, h5⟩
    exact ⟨h1, h2, h3, h4, (hW x h1).symm.trans h5⟩
  · intro ⟨h1, h2, h3, h4, h5⟩
    exact ⟨h1, h2, h3, h4, (hW x h1).trans h5⟩
theorem qp_OK_c {k l r w a b c d q1 q2 q3 : Int32} {W W' : Nat → Int32} {i : Nat} (hW : ∀ j, j < i → W' j = W j) (h : qp_OK k l r w a b c d q1 q2 q3 W i) : qp_OK k l r w a b c d q1 q2 q3 W' i := by
  unfold qp_OK at *
  rw [qp_U_c hW l, qp_U_c hW r]
  exact h
/-! bounds -/
def qp_bk (k c : Int32) (d l r : Nat) : Nat := if k = 5 then (if c = 0 then l * r else if c = 3 then (if r = 0 then l else l * r) else l) else if k = 6 then l + r else if k = 9 then (if d < l then d else l) else l
def qp_bl (k r : Int32) (c : Int32) (d l rr : Nat) : Nat := if 24 < l ∨ 24 < (if r = -1 then 0 else rr) then 25 else if 24 < qp_bk k c d l (if r = -1 then 0 else rr) then 25 else qp_bk k c d l (if r = -1 then 0 else rr)
def qp_bs (K L R C D th : Nat → Int32) (i : Nat) (bd : Nat → Nat) : Nat := if K i = 0 then (th (D i).toNatClampNeg).toNatClampNeg else qp_bl (K i) (R i) (C i) (D i).toNatClampNeg (bd (L i).toNatClampNeg) (bd (R i).toNatClampNeg)
noncomputable def qp_sem (K L R W A B C D th tb : Nat → Int32) (i : Nat) (LL : Nat → List qp_Row) : List qp_Row :=
  if K i = 0 then qp_tab (th (D i).toNatClampNeg).toNatClampNeg (fun r c => tb ((D i).toNatClampNeg * 30 + r * 3 + c)) else
  if K i = 1 then qp_fl (LL (L i).toNatClampNeg) (fun x => qp_ful (x (A i).toNatClampNeg) (C i) (D i)) (LL (L i).toNatClampNeg).length else
  if K i = 2 then qp_fl (LL (L i).toNatClampNeg) (fun x => qp_ful (x (A i).toNatClampNeg) (C i) (x (B i).toNatClampNeg)) (LL (L i).toNatClampNeg).length else
  if K i = 3 then qp_tab (LL (L i).toNatClampNeg).length (qp_mp (LL (L i).toNatClampNeg) (W (L i).toNatClampNeg).toNatClampNeg (C i) (A i).toNatClampNeg (B i).toNatClampNeg) else
  if K i = 4 then qp_tab (LL (L i).toNatClampNeg).length (qp_pr (LL (L i).toNatClampNeg) (D i)) else
  if K i = 5 then qp_jo (LL (L i).toNatClampNeg) (LL (R i).toNatClampNeg) (A i).toNatClampNeg (B i).toNatClampNeg (W (L i).toNatClampNeg).toNatClampNeg (C i) (LL (L i).toNatClampNeg).length else
  if K i = 6 then qp_tab (LL (L i).toNatClampNeg).length (qp_g (LL (L i).toNatClampNeg)) ++ qp_tab (LL (R i).toNatClampNeg).length (qp_g (LL (R i).toNatClampNeg)) else
  if K i = 7 then qp_gp (LL (L i).toNatClampNeg) (C i) (A i).toNatClampNeg (B i).toNatClampNeg (LL (L i).toNatClampNeg).length (LL (L i).toNatClampNeg).length else
  if K i = 8 then qp_di (LL (L i).toNatClampNeg) (W i).toNatClampNeg (LL (L i).toNatClampNeg).length else
  if K i = 9 then qp_tab (if (D i).toNatClampNeg < (LL (L i).toNatClampNeg).length then (D i).toNatClampNeg else (LL (L i).toNatClampNeg).length) (qp_g (LL (L i).toNatClampNeg)) else
  qp_tab (LL (L i).toNatClampNeg).length (qp_so (LL (L i).toNatClampNeg) (C i = 4) (A i).toNatClampNeg)
/-- a node's child, as the code reads it -/
theorem qp_U_n {l : Int32} {W : Nat → Int32} {i x wl : Nat} (h : qp_U l W i x wl) (hi : i ≤ 12) : l.toNatClampNeg = x := by
  obtain ⟨h1, h2, _⟩ := h
  rw [h2]; exact nI_clamp (by omega)
/-- every node is a scan, or has a left child before it, and a right one unless R is -1 -/
theorem qp_OK_lr {k l r w a b c d q1 q2 q3 : Int32} {W : Nat → Int32} {i : Nat} (hi : i ≤ 12) (h : qp_OK k l r w a b c d q1 q2 q3 W i) : k = 0 ∨ (l.toNatClampNeg < i ∧ (r = -1 ∨ r.toNatClampNeg < i)) := by
  obtain ⟨wn, _, _, _, h⟩ := h
  rcases h with h | h | h | h | h | h | h | h | h | h | h
  · exact Or.inl h.1
  · obtain ⟨_, hr, x, _, hU, _⟩ := h
    exact Or.inr ⟨by rw [qp_U_n hU hi]; exact hU.1, Or.inl hr⟩
  · obtain ⟨_, hr, x, _, _, hU, _⟩ := h
    exact Or.inr ⟨by rw [qp_U_n hU hi]; exact hU.1, Or.inl hr⟩
  · obtain ⟨_, hr, x, _, _, _, hU, _⟩ := h
    exact Or.inr ⟨by rw [qp_U_n hU hi]; exact hU.1, Or.inl hr⟩
  · obtain ⟨_, hr, x, _, hU, _⟩ := h
    exact Or.inr ⟨by rw [qp_U_n hU hi]; exact hU.1, Or.inl hr⟩
  · obtain ⟨_, x, _, y, _, _, _, hU, hV, _⟩ := h
    exact Or.inr ⟨by rw [qp_U_n hU hi]; exact hU.1, Or.inr (by rw [qp_U_n hV hi]; exact hV.1)⟩
  · obtain ⟨_, x, y, hU, hV⟩ := h
    exact Or.inr ⟨by rw [qp_U_n hU hi]; exact hU.1, Or.inr (by rw [qp_U_n hV hi]; exact hV.1)⟩
  · obtain ⟨_, hr, _, x, _, _, _, hU, _⟩ := h
    exact Or.inr ⟨by rw [qp_U_n hU hi]; exact hU.1, Or.inl hr⟩
  · obtain ⟨_, hr, x, hU⟩ := h
    exact Or.inr ⟨by rw [qp_U_n hU hi]; exact hU.1, Or.inl hr⟩
  · obtain ⟨_, hr, x, _, hU, _⟩ := h
    exact Or.inr ⟨by rw [qp_U_n hU hi]; exact hU.1, Or.inl hr⟩
  · obtain ⟨_, hr, x, _, hU, _⟩ := h
    exact Or.inr ⟨by rw [qp_U_n hU hi]; exact hU.1, Or.inl hr⟩
theorem qp_OK_5 {k l r w a b c d q1 q2 q3 : Int32} {W : Nat → Int32} {i : Nat} (hi : i ≤ 12) (h : qp_OK k l r w a b c d q1 q2 q3 W i) (hk : k = 5 ∨ k = 6) : r.toNatClampNeg < i := by
  obtain ⟨wn, _, _, _, h⟩ := h
  rcases h with h | h | h | h | h | h | h | h | h | h | h
  · rw [h.1] at hk; exact absurd hk (by decide)
  · rw [h.1] at hk; exact absurd hk (by decide)
  · rw [h.1] at hk; exact absurd hk (by decide)
  · rw [h.1] at hk; exact absurd hk (by decide)
  · rw [h.1] at hk; exact absurd hk (by decide)
  · obtain ⟨_, x, _, y, _, _, _, hU, hV, _⟩ := h
    rw [qp_U_n hV hi]; exact hV.1
  · obtain ⟨_, x, y, hU, hV⟩ := h
    rw [qp_U_n hV hi]; exact hV.1
  · rw [h.1] at hk; exact absurd hk (by decide)
  · rw [h.1] at hk; exact absurd hk (by decide)
  · rw [h.1] at hk; exact absurd hk (by decide)
  · rw [h.1] at hk; exact absurd hk (by decide)
section qp_PL
variable {n : Nat} {K L R W A B C D p1 p2 p3 th tb : Nat → Int32}
theorem qp_bs_loc (hn : n ≤ 12) (hOK : ∀ i, i < n → qp_OK (K i) (L i) (R i) (W i) (A i) (B i) (C i) (D i) (p1 i) (p2 i) (p3 i) W i) (j : Nat) (hj : j < n) (g g' : Nat → Nat) (e : ∀ t, t < j → g t = g' t) : qp_bs K L R C D th j g = qp_bs K L R C D th j g' := by
  unfold qp_bs
  by_cases hk : K j = 0
  · rw [if_pos hk, if_pos hk]
  · rw [if_neg hk, if_neg hk]
    rcases qp_OK_lr (by omega) (hOK j hj) with h | ⟨h1, h2⟩
    · exact absurd h hk
    · rw [e _ h1]
      rcases h2 with h2 | h2
      · unfold qp_bl
        rw [if_pos h2, if_pos h2]
      · rw [e _ h2]
theorem qp_sem_loc (hn : n ≤ 12) (hOK : ∀ i, i < n → qp_OK (K i) (L i) (R i) (W i) (A i) (B i) (C i) (D i) (p1 i) (p2 i) (p3 i) W i) (j : Nat) (hj : j < n) (g g' : Nat → List qp_Row) (e : ∀ t, t < j → g t = g' t) : qp_sem K L R W A B C D th tb j g = qp_sem K L R W A B C D th tb j g' := by
  unfold qp_sem
  by_cases hk : K j = 0
  · rw [if_pos hk, if_pos hk]
  · rw [if_neg hk, if_neg hk]
    rcases qp_OK_lr (by omega) (hOK j hj) with h | ⟨h1, h2⟩
    · exact absurd h hk
    · rw [e _ h1]
      by_cases h5 : K j = 5 ∨ K j = 6
      · rw [e _ (qp_OK_5 (by omega) (hOK j hj) h5)]
      · have h5' : ¬ K j = 5 := fun z => h5 (Or.inl z)
        have h6' : ¬ K j = 6 := fun z => h5 (Or.inr z)
        rw [if_neg h5', if_neg h6', if_neg h5', if_neg h6']
theorem qp_run_ex (hn : n ≤ 12) (hOK : ∀ i, i < n → qp_OK (K i) (L i) (R i) (W i) (A i) (B i) (C i) (D i) (p1 i) (p2 i) (p3 i) W i) : ∃ (bd : Nat → Nat) (LL : Nat → List qp_Row), (∀ j, j < n → bd j = qp_bs K L R C D th j bd) ∧ (∀ j, j < n → LL j = qp_sem K L R W A B C D th tb j LL) := by
  obtain ⟨bd, hb⟩ := qp_ex 0 (qp_bs K L R C D th) n (fun j hj g g' e => qp_bs_loc hn hOK j hj g g' e)
  obtain ⟨LL, hl⟩ := qp_ex [] (qp_sem K L R W A B C D th tb) n (fun j hj g g' e => qp_sem_loc hn hOK j hj g g' e)
  exact ⟨bd, LL, hb, hl⟩
end qp_PL
end
section
/-! the semantics by kinds -/
section qp_SK
variable {K L R W A B C D th tb : Nat → Int32} {i : Nat} {LL : Nat → List qp_Row} {bd : Nat → Nat}
theorem qp_cl {x : Int32} {n : Nat} (e : x = nI n) (h : n < 2 ^ 31) : x.toNatClampNeg = n := by rw [e]; exact nI_clamp h
theorem qp_sem_0 (hk : K i = 0) {t : Nat} (hD : D i = nI t) (ht : t < 2 ^ 31) : qp_sem K L R W A B C D th tb i LL = qp_tab (th t).toNatClampNeg (fun r c => tb (t * 30 + r * 3 + c)) := by
  unfold qp_sem
  rw [hk, if_pos rfl, qp_cl hD ht]
theorem qp_sem_1 (hk : K i = 1) {x a : Nat} (hL : L i = nI x) (hx : x < 2 ^ 31) (hA : A i = nI a) (ha : a < 2 ^ 31) : qp_sem K L R W A B C D th tb i LL = qp_fl (LL x) (fun z => qp_ful (z a) (C i) (D i)) (LL x).length := by
  unfold qp_sem
  rw [hk, if_neg (by decide), if_pos rfl, qp_cl hL hx, qp_cl hA ha]
theorem qp_sem_2 (hk : K i = 2) {x a b : Nat} (hL : L i = nI x) (hx : x < 2 ^ 31) (hA : A i = nI a) (ha : a < 2 ^ 31) (hB : B i = nI b) (hb : b < 2 ^ 31) : qp_sem K L R W A B C D th tb i LL = qp_fl (LL x) (fun z => qp_ful (z a) (C i) (z b)) (LL x).length := by
  unfold qp_sem
  rw [hk, if_neg (by decide), if_neg (by decide), if_pos rfl, qp_cl hL hx, qp_cl hA ha, qp_cl hB hb]
theorem qp_sem_3 (hk : K i = 3) {x a b wl : Nat} (hL : L i = nI x) (hx : x < 2 ^ 31) (hA : A i = nI a) (ha : a < 2 ^ 31) (hB : B i = nI b) (hb : b < 2 ^ 31) (hW : W x = nI wl) (hw : wl < 2 ^ 31) : qp_sem K L R W A B C D th tb i LL = qp_tab (LL x).length (qp_mp (LL x) wl (C i) a b) := by
  unfold qp_sem
  rw [hk, if_neg (by decide), if_neg (by decide), if_neg (by decide), if_pos rfl, qp_cl hL hx, qp_cl hA ha, qp_cl hB hb, qp_cl hW hw]
theorem qp_sem_4 (hk : K i = 4) {x : Nat} (hL : L i = nI x) (hx : x < 2 ^ 31) : qp_sem K L R W A B C D th tb i LL = qp_tab (LL x).length (qp_pr (LL x) (D i)) := by
  unfold qp_sem
  rw [hk, if_neg (by decide), if_neg (by decide), if_neg (by decide), if_neg (by decide), if_pos rfl, qp_cl hL hx]
theorem qp_sem_5 (hk : K i = 5) {x y a b wl : Nat} (hL : L i = nI x) (hx : x < 2 ^ 31) (hR : R i = nI y) (hy : y < 2 ^ 31) (hA : A i = nI a) (ha : a < 2 ^ 31) (hB : B i = nI b) (hb : b < 2 ^ 31) (hW : W x = nI wl) (hw : wl < 2 ^ 31) : qp_sem K L R W A B C D th tb i LL = qp_jo (LL x) (LL y) a b wl (C i) (LL x).length := by
  unfold qp_sem
  rw [hk, if_neg (by decide), if_neg (by decide), if_neg (by decide), if_neg (by decide), if_neg (by decide), if_pos rfl, qp_cl hL hx, qp_cl hR hy, qp_cl hA ha, qp_cl hB hb, qp_cl hW hw]
theorem qp_sem_6 (hk : K i = 6) {x y : Nat} (hL : L i = nI x) (hx : x < 2 ^ 31) (hR : R i = nI y) (hy : y < 2 ^ 31) : qp_sem K L R W A B C D th tb i LL = qp_tab (LL x).length (qp_g (LL x)) ++ qp_tab (LL y).length (qp_g (LL y)) := by
  unfold qp_sem
  rw [hk, if_neg (by decide), if_neg (by decide), if_neg (by decide), if_neg (by decide), if_neg (by decide), if_neg (by decide), if_pos rfl, qp_cl hL hx, qp_cl hR hy]
theorem qp_sem_7 (hk : K i = 7) {x a b : Nat} (hL : L i = nI x) (hx : x < 2 ^ 31) (hA : A i = nI a) (ha : a < 2 ^ 31) (hB : B i = nI b) (hb : b < 2 ^ 31) : qp_sem K L R W A B C D th tb i LL = qp_gp (LL x) (C i) a b (LL x).length (LL x).length := by
  unfold qp_sem
  rw [hk, if_neg (by decide), if_neg (by decide), if_neg (by decide), if_neg (by decide), if_neg (by decide), if_neg (by decide), if_neg (by decide), if_pos rfl, qp_cl hL hx, qp_cl hA ha, qp_cl hB hb]
theorem qp_sem_8 (hk : K i = 8) {x w : Nat} (hL : L i = nI x) (hx : x < 2 ^ 31) (hW : W i = nI w) (hw : w < 2 ^ 31) : qp_sem K L R W A B C D th tb i LL = qp_di (LL x) w (LL x).length := by
  unfold qp_sem
  rw [hk, if_neg (by decide), if_neg (by decide), if_neg (by decide), if_neg (by decide), if_neg (by decide), if_neg (by decide), if_neg (by decide), if_neg (by decide), if_pos rfl, qp_cl hL hx, qp_cl hW hw]
theorem qp_sem_9 (hk : K i = 9) {x m : Nat} (hL : L i = nI x) (hx : x < 2 ^ 31) (hD : D i = nI m) (hm : m < 2 ^ 31) : qp_sem K L R W A B C D th tb i LL = qp_tab (if m < (LL x).length then m else (LL x).length) (qp_g (LL x)) := by
  unfold qp_sem
  rw [hk, if_neg (by decide), if_neg (by decide), if_neg (by decide), if_neg (by decide), if_neg (by decide), if_neg (by decide), if_neg (by decide), if_neg (by decide), if_neg (by decide), if_pos rfl, qp_cl hL hx, qp_cl hD hm]
theorem qp_sem_10 (hk : K i = 10) {x a : Nat} (hL : L i = nI x) (hx : x < 2 ^ 31) (hA : A i = nI a) (ha : a < 2 ^ 31) : qp_sem K L R W A B C D th tb i LL = qp_tab (LL x).length (qp_so (LL x) (C i = 4) a) := by
  unfold qp_sem
  rw [hk, if_neg (by decide), if_neg (by decide), if_neg (by decide), if_neg (by decide), if_neg (by decide), if_neg (by decide), if_neg (by decide), if_neg (by decide), if_neg (by decide), if_neg (by decide), qp_cl hL hx, qp_cl hA ha]
theorem qp_bs_0 {t : Nat} (hk : K i = 0) (hD : D i = nI t) (ht : t < 2 ^ 31) : qp_bs K L R C D th i bd = (th t).toNatClampNeg := by
  unfold qp_bs
  rw [if_pos hk, qp_cl hD ht]
theorem qp_bs_u {x : Nat} (hk : K i = 1 ∨ K i = 2 ∨ K i = 3 ∨ K i = 4 ∨ K i = 7 ∨ K i = 8 ∨ K i = 10) (hR : R i = -1) (hL : L i = nI x) (hx : x < 2 ^ 31) : qp_bs K L R C D th i bd = if 24 < bd x then 25 else bd x := by
  have h0 : ¬ K i = 0 := by rcases hk with h | h | h | h | h | h | h <;> rw [h] <;> decide
  have h5 : ¬ K i = 5 := by rcases hk with h | h | h | h | h | h | h <;> rw [h] <;> decide
  have h6 : ¬ K i = 6 := by rcases hk with h | h | h | h | h | h | h <;> rw [h] <;> decide
  have h9 : ¬ K i = 9 := by rcases hk with h | h | h | h | h | h | h <;> rw [h] <;> decide
  unfold qp_bs qp_bl qp_bk
  rw [if_neg h0, if_pos hR, if_neg h5, if_neg h6, if_neg h9, qp_cl hL hx]
  by_cases h : 24 < bd x
  · rw [if_pos (Or.inl h), if_pos h]
  · rw [if_neg (by omega), if_neg h]
theorem qp_bk9 {c : Int32} {d l r : Nat} : qp_bk 9 c d l r = if d < l then d else l := rfl
theorem qp_bs_9 {x m : Nat} (hk : K i = 9) (hR : R i = -1) (hL : L i = nI x) (hx : x < 2 ^ 31) (hD : D i = nI m) (hm : m < 2 ^ 31) : qp_bs K L R C D th i bd = if 24 < bd x then 25 else if m < bd x then m else bd x := by
  have h0 : ¬ (9 : Int32) = 0 := by decide
  unfold qp_bs qp_bl
  rw [hk, if_neg h0, if_pos hR, qp_bk9, qp_cl hL hx, qp_cl hD hm]
  by_cases h : 24 < bd x
  · rw [if_pos (Or.inl h), if_pos h]
  · have h2 : ¬ 24 < (if m < bd x then m else bd x) := by split <;> omega
    rw [if_neg (by omega), if_neg h, if_neg h2]
theorem qp_bs_5 {x y : Nat} (hk : K i = 5) (hR : R i = nI y) (hy : y < 12) (hL : L i = nI x) (hx : x < 2 ^ 31) : qp_bs K L R C D th i bd = if 24 < bd x ∨ 24 < bd y then 25 else if 24 < qp_bk 5 (C i) 0 (bd x) (bd y) then 25 else qp_bk 5 (C i) 0 (bd x) (bd y) := by
  have hm : ¬ R i = -1 := by
    rw [hR]
    intro z
    have h1 := congrArg Int32.toInt z
    rw [nI_toInt (by omega)] at h1
    have h2 : (-1 : Int32).toInt = -1 := by decide
    omega
  unfold qp_bs qp_bl
  rw [hk, if_neg (by decide), if_neg hm, qp_cl hL hx, qp_cl hR (by omega)]
  rfl
theorem qp_bs_6 {x y : Nat} (hk : K i = 6) (hR : R i = nI y) (hy : y < 12) (hL : L i = nI x) (hx : x < 2 ^ 31) : qp_bs K L R C D th i bd = if 24 < bd x ∨ 24 < bd y then 25 else if 24 < bd x + bd y then 25 else bd x + bd y := by
  have hm : ¬ R i = -1 := by
    rw [hR]
    intro z
    have h1 := congrArg Int32.toInt z
    rw [nI_toInt (by omega)] at h1
    have h2 : (-1 : Int32).toInt = -1 := by decide
    omega
  unfold qp_bs qp_bl
  rw [hk, if_neg (by decide), if_neg hm, qp_cl hL hx, qp_cl hR (by omega)]
  rfl
theorem qp_bk5 {c : Int32} {l r : Nat} : qp_bk 5 c 0 l r = if c = 0 then l * r else if c = 3 then (if r = 0 then l else l * r) else l := rfl
end qp_SK
/-- how many rows a left row of a join may give -/
def qp_fac (c : Int32) (r : Nat) : Nat := if c = 0 then r else if c = 3 then (if r = 0 then 1 else r) else 1
theorem qp_fac_bk {c : Int32} {l r : Nat} : qp_bk 5 c 0 l r = l * qp_fac c r := by
  rw [qp_bk5]
  unfold qp_fac
  by_cases h0 : c = 0
  · rw [if_pos h0, if_pos h0]
  · rw [if_neg h0, if_neg h0]
    by_cases h3 : c = 3
    · rw [if_pos h3, if_pos h3]
      by_cases hr : r = 0
      · rw [if_pos hr, if_pos hr, Nat.mul_one]
      · rw [if_neg hr, if_neg hr]
    · rw [if_neg h3, if_neg h3, Nat.mul_one]
theorem qp_fac_1 {c : Int32} {r q : Nat} (hq : q ≤ r) (h : c = 0 ∨ c = 3) : q ≤ qp_fac c r := by
  unfold qp_fac
  rcases h with h | h
  · rw [if_pos h]; exact hq
  · have h0 : ¬ c = 0 := by rw [h]; decide
    rw [if_neg h0, if_pos h]
    split <;> omega
theorem qp_fac_2 {c : Int32} {r : Nat} (h : c ≠ 0) : 1 ≤ qp_fac c r := by
  unfold qp_fac
  rw [if_neg h]
  split
  · split <;> omega
  · omega
section qp_LN
variable {n : Nat} {K L R W A B C D p1 p2 p3 th tb : Nat → Int32} {LL : Nat → List qp_Row} {bd : Nat → Nat}
theorem qp_len (hn : n ≤ 12) (hOK : ∀ i, i < n → qp_OK (K i) (L i) (R i) (W i) (A i) (B i) (C i) (D i) (p1 i) (p2 i) (p3 i) W i) (hb : ∀ j, j < n → bd j = qp_bs K L R C D th j bd) (hl : ∀ j, j < n → LL j = qp_sem K L R W A B C D th tb j LL) : ∀ k j, j ≤ k → j < n → bd j ≤ 24 → (LL j).length ≤ bd j := by
  intro k
  induction k with
  | zero =>
    intro j hjk hj h24
    have ej : j = 0 := by omega
    subst ej
    have hb0 := hb 0 hj
    have hl0 := hl 0 hj
    obtain ⟨wn, _, _, _, h⟩ := hOK 0 hj
    rcases h with h | h | h | h | h | h | h | h | h | h | h
    · obtain ⟨hk, _, t, ht, hD, _⟩ := h
      rw [hl0, qp_sem_0 hk hD (by omega), hb0, qp_bs_0 hk hD (by omega), qp_tab_len]
      exact Nat.le_refl _
    · obtain ⟨_, hr, x, _, hU, _⟩ := h
      exact absurd hU.1 (Nat.not_lt_zero x)
    · obtain ⟨_, hr, x, _, _, hU, _⟩ := h
      exact absurd hU.1 (Nat.not_lt_zero x)
    · obtain ⟨_, hr, x, _, _, _, hU, _⟩ := h
      exact absurd hU.1 (Nat.not_lt_zero x)
    · obtain ⟨_, hr, x, _, hU, _⟩ := h
      exact absurd hU.1 (Nat.not_lt_zero x)
    · obtain ⟨_, x, _, y, _, _, _, hU, hV, _⟩ := h
      exact absurd hU.1 (Nat.not_lt_zero x)
    · obtain ⟨_, x, y, hU, hV⟩ := h
      exact absurd hU.1 (Nat.not_lt_zero x)
    · obtain ⟨_, hr, _, x, _, _, _, hU, _⟩ := h
      exact absurd hU.1 (Nat.not_lt_zero x)
    · obtain ⟨_, hr, x, hU⟩ := h
      exact absurd hU.1 (Nat.not_lt_zero x)
    · obtain ⟨_, hr, x, _, hU, _⟩ := h
      exact absurd hU.1 (Nat.not_lt_zero x)
    · obtain ⟨_, hr, x, _, hU, _⟩ := h
      exact absurd hU.1 (Nat.not_lt_zero x)
  | succ k ih =>
    intro j hjk hj h24
    have hb0 := hb j hj
    have hl0 := hl j hj
    obtain ⟨wn, _, hw6, hWn, h⟩ := hOK j hj
    rcases h with h | h | h | h | h | h | h | h | h | h | h
    · obtain ⟨hk, _, t, ht, hD, _⟩ := h
      rw [hl0, qp_sem_0 hk hD (by omega), hb0, qp_bs_0 hk hD (by omega), qp_tab_len]
      exact Nat.le_refl _
    · obtain ⟨hk, hr, x, a, hU, ha, hA, _⟩ := h
      have hx : x < 12 := by have := hU.1; omega
      rw [qp_bs_u (Or.inl hk) hr hU.2.1 (by omega)] at hb0
      rw [qp_sem_1 hk hU.2.1 (by omega) hA (by omega)] at hl0
      have h3 := qp_fl_len (LL x) (fun z => qp_ful (z a) (C j) (D j)) (LL x).length
      have h4 : bd x ≤ 24 := by split at hb0 <;> omega
      have h5 := ih x (by have := hU.1; omega) (by have := hU.1; omega) h4
      rw [if_neg (by omega)] at hb0
      rw [hl0]; omega
    · obtain ⟨hk, hr, x, a, b, hU, ha, hb', hA, hB, _⟩ := h
      have hx : x < 12 := by have := hU.1; omega
      rw [qp_bs_u (Or.inr (Or.inl hk)) hr hU.2.1 (by omega)] at hb0
      rw [qp_sem_2 hk hU.2.1 (by omega) hA (by omega) hB (by omega)] at hl0
      have h3 := qp_fl_len (LL x) (fun z => qp_ful (z a) (C j) (z b)) (LL x).length
      have h4 : bd x ≤ 24 := by split at hb0 <;> omega
      have h5 := ih x (by have := hU.1; omega) (by have := hU.1; omega) h4
      rw [if_neg (by omega)] at hb0
      rw [hl0]; omega
    · obtain ⟨hk, hr, x, wl, a, b, hU, hwl, ha, hb', hA, hB, _⟩ := h
      have hx : x < 12 := by have := hU.1; omega
      rw [qp_bs_u (Or.inr (Or.inr (Or.inl hk))) hr hU.2.1 (by omega)] at hb0
      rw [qp_sem_3 hk hU.2.1 (by omega) hA (by omega) hB (by omega) hU.2.2.2.2 (by omega)] at hl0
      have h4 : bd x ≤ 24 := by split at hb0 <;> omega
      have h5 := ih x (by have := hU.1; omega) (by have := hU.1; omega) h4
      rw [if_neg (by omega)] at hb0
      rw [hl0, qp_tab_len]; omega
    · obtain ⟨hk, hr, x, wl, hU, _⟩ := h
      have hx : x < 12 := by have := hU.1; omega
      rw [qp_bs_u (Or.inr (Or.inr (Or.inr (Or.inl hk)))) hr hU.2.1 (by omega)] at hb0
      rw [qp_sem_4 hk hU.2.1 (by omega)] at hl0
      have h4 : bd x ≤ 24 := by split at hb0 <;> omega
      have h5 := ih x (by have := hU.1; omega) (by have := hU.1; omega) h4
      rw [if_neg (by omega)] at hb0
      rw [hl0, qp_tab_len]; omega
    · obtain ⟨hk, x, wl, y, wr, a, b, hU, hV, ha, hb', hA, hB, _, _, _, hc⟩ := h
      have hx : x < 12 := by have := hU.1; omega
      have hy : y < 12 := by have := hV.1; omega
      have hw : wl ≤ 6 := hU.2.2.2.1
      have hwr : wr ≤ 6 := hV.2.2.2.1
      rw [qp_bs_5 hk hV.2.1 hy hU.2.1 (by omega), qp_fac_bk] at hb0
      rw [qp_sem_5 hk hU.2.1 (by omega) hV.2.1 (by omega) hA (by omega) hB (by omega) hU.2.2.2.2 (by omega)] at hl0
      have h4 : ¬ (24 < bd x ∨ 24 < bd y) := by intro z; rw [if_pos z] at hb0; omega
      rw [if_neg h4] at hb0
      have h5 := ih x (by have := hU.1; omega) (by have := hU.1; omega) (by omega)
      have h6 := ih y (by have := hV.1; omega) (by have := hV.1; omega) (by omega)
      have h7 : ¬ 24 < bd x * qp_fac (C j) (bd y) := by intro z; rw [if_pos z] at hb0; omega
      rw [if_neg h7] at hb0
      have h8 := qp_jo_len (S := LL x) (Q := LL y) (a := a) (b := b) (wl := wl) (m := qp_fac (C j) (bd y)) (k := C j) (fun z => qp_fac_1 h6 z) (fun z => qp_fac_2 z) (by rcases hc with ⟨hc | hc, _⟩ | ⟨hc | hc, _⟩ <;> rw [hc] <;> decide) (LL x).length
      have h9 := Nat.mul_le_mul_right (qp_fac (C j) (bd y)) h5
      rw [hl0, hb0]; omega
    · obtain ⟨hk, x, y, hU, hV⟩ := h
      have hx : x < 12 := by have := hU.1; omega
      have hy : y < 12 := by have := hV.1; omega
      rw [qp_bs_6 hk hV.2.1 hy hU.2.1 (by omega)] at hb0
      rw [qp_sem_6 hk hU.2.1 (by omega) hV.2.1 (by omega)] at hl0
      have h4 : ¬ (24 < bd x ∨ 24 < bd y) := by intro z; rw [if_pos z] at hb0; omega
      rw [if_neg h4] at hb0
      have h5 := ih x (by have := hU.1; omega) (by have := hU.1; omega) (by omega)
      have h6 := ih y (by have := hV.1; omega) (by have := hV.1; omega) (by omega)
      have h7 : ¬ 24 < bd x + bd y := by intro z; rw [if_pos z] at hb0; omega
      rw [if_neg h7] at hb0
      rw [hl0, hb0, List.length_append, qp_tab_len, qp_tab_len]; omega
    · obtain ⟨hk, hr, _, x, wl, a, b, hU, ha, hb', hA, hB, _⟩ := h
      have hx : x < 12 := by have := hU.1; omega
      have hwl : wl ≤ 6 := hU.2.2.2.1
      rw [qp_bs_u (Or.inr (Or.inr (Or.inr (Or.inr (Or.inl hk))))) hr hU.2.1 (by omega)] at hb0
      rw [qp_sem_7 hk hU.2.1 (by omega) hA (by omega) hB (by omega)] at hl0
      have h3 := qp_gp_len (LL x) (C j) a b (LL x).length (LL x).length
      have h4 : bd x ≤ 24 := by split at hb0 <;> omega
      have h5 := ih x (by have := hU.1; omega) (by have := hU.1; omega) h4
      rw [if_neg (by omega)] at hb0
      rw [hl0]; omega
    · obtain ⟨hk, hr, x, hU⟩ := h
      have hx : x < 12 := by have := hU.1; omega
      rw [qp_bs_u (Or.inr (Or.inr (Or.inr (Or.inr (Or.inr (Or.inl hk)))))) hr hU.2.1 (by omega)] at hb0
      have h4 : bd x ≤ 24 := by split at hb0 <;> omega
      have h5 := ih x (by have := hU.1; omega) (by have := hU.1; omega) h4
      rw [if_neg (by omega)] at hb0
      rw [qp_sem_8 hk hU.2.1 (by omega) (w := wn) hWn (by omega)] at hl0
      have h3 := qp_di_len (LL x) wn (LL x).length
      rw [hl0]; omega
    · obtain ⟨hk, hr, x, m, hU, hm, hD, _⟩ := h
      have hx : x < 12 := by have := hU.1; omega
      rw [qp_bs_9 hk hr hU.2.1 (by omega) hD hm] at hb0
      rw [qp_sem_9 hk hU.2.1 (by omega) hD hm] at hl0
      have h4 : ¬ 24 < bd x := by intro z; rw [if_pos z] at hb0; omega
      have h5 := ih x (by have := hU.1; omega) (by have := hU.1; omega) (by omega)
      rw [if_neg h4] at hb0
      rw [hl0, hb0, qp_tab_len]
      split <;> split <;> omega
    · obtain ⟨hk, hr, x, a, hU, ha, hA, _⟩ := h
      have hx : x < 12 := by have := hU.1; omega
      rw [qp_bs_u (Or.inr (Or.inr (Or.inr (Or.inr (Or.inr (Or.inr hk)))))) hr hU.2.1 (by omega)] at hb0
      rw [qp_sem_10 hk hU.2.1 (by omega) hA (by omega)] at hl0
      have h4 : bd x ≤ 24 := by split at hb0 <;> omega
      have h5 := ih x (by have := hU.1; omega) (by have := hU.1; omega) h4
      rw [if_neg (by omega)] at hb0
      rw [hl0, qp_tab_len]; omega
end qp_LN
end
section
/-! the relation's facts -/
/-- the two table stores agree on the rows that a table has -/
def qp_TB (th tb tb' : Nat → Int32) : Prop := ∀ t, t < 4 → ∃ h : Nat, h ≤ 10 ∧ th t = nI h ∧ ∀ p, p < 3 * h → tb (t * 30 + p) = tb' (t * 30 + p)
def qp_TW (tw : Nat → Int32) : Prop := ∀ t, t < 4 → ∃ w : Nat, 1 ≤ w ∧ w ≤ 3 ∧ tw t = nI w
def qp_RS (h c : Nat) (rs rs' : Nat → Int32) : Prop := h ≤ 24 ∧ c ≤ 6 ∧ ∀ r q, r < h → q < c → rs (r * 6 + q) = rs' (r * 6 + q)
def qp_ND (n : Nat) (K L R W us us' A B C D p1 p2 p3 : Nat → Int32) : Prop := n ≤ 12 ∧ (∀ i, i < n → us i = us' i) ∧ ∀ i, i < n → qp_OK (K i) (L i) (R i) (W i) (A i) (B i) (C i) (D i) (p1 i) (p2 i) (p3 i) W i
theorem qp_ND_0 {K L R W us us' A B C D p1 p2 p3 : Nat → Int32} : qp_ND 0 K L R W us us' A B C D p1 p2 p3 := ⟨by omega, fun i h => absurd h (Nat.not_lt_zero i), fun i h => absurd h (Nat.not_lt_zero i)⟩
/-- one node more -/
theorem qp_ND_s {n : Nat} {K L R W us us' A B C D p1 p2 p3 A1 B1 C1 D1 q1 q2 q3 us1 us1' : Nat → Int32} {k l r w : Int32} (H : qp_ND n K L R W us us' A B C D p1 p2 p3) (hn : n < 12)
    (hA : ∀ i, i < n → A1 i = A i) (hB : ∀ i, i < n → B1 i = B i) (hC : ∀ i, i < n → C1 i = C i) (hD : ∀ i, i < n → D1 i = D i)
    (h1 : ∀ i, i < n → q1 i = p1 i) (h2 : ∀ i, i < n → q2 i = p2 i) (h3 : ∀ i, i < n → q3 i = p3 i)
    (hu : ∀ i, i < n + 1 → us1 i = us1' i)
    (ho : qp_OK k l r w (A1 n) (B1 n) (C1 n) (D1 n) (q1 n) (q2 n) (q3 n) W n) :
    qp_ND (n + 1) (upd K n k) (upd L n l) (upd R n r) (upd W n w) us1 us1' A1 B1 C1 D1 q1 q2 q3 := by
  obtain ⟨h12, hus, hok⟩ := H
  refine ⟨by omega, hu, fun i hi => ?_⟩
  have hWc : ∀ j, j < i → upd W n w j = W j := fun j hj => pk_un (by omega)
  refine qp_OK_c hWc ?_
  by_cases e : i = n
  · subst e
    rw [pk_us, pk_us, pk_us, pk_us]
    exact ho
  · have hi' : i < n := by omega
    rw [pk_un e, pk_un e, pk_un e, pk_un e, hA i hi', hB i hi', hC i hi', hD i hi', h1 i hi', h2 i hi', h3 i hi']
    exact hok i hi'
theorem qp_keep {a : Nat → Int32} {n : Nat} {x : Int32} : ∀ i, i < n → upd a n x i = a i := fun i hi => pk_un (by omega)
theorem qp_same {a : Nat → Int32} {n : Nat} : ∀ i, i < n → a i = a i := fun _ _ => rfl
/-- the children's marks, one child or two -/
theorem qp_us1 {n l : Nat} {us us' : Nat → Int32} {f t : Int32} (h : ∀ i, i < n → us i = us' i) : ∀ i, i < n + 1 → upd (upd us n f) l t i = upd (upd us' n f) l t i := by
  intro i hi
  by_cases e : i = l
  · subst e; rw [pk_us, pk_us]
  · rw [pk_un e, pk_un e]
    by_cases e2 : i = n
    · subst e2; rw [pk_us, pk_us]
    · rw [pk_un e2, pk_un e2]; exact h i (by omega)
theorem qp_us0 {n : Nat} {us us' : Nat → Int32} {f : Int32} (h : ∀ i, i < n → us i = us' i) : ∀ i, i < n + 1 → upd us n f i = upd us' n f i := by
  intro i hi
  by_cases e2 : i = n
  · subst e2; rw [pk_us, pk_us]
  · rw [pk_un e2, pk_un e2]; exact h i (by omega)
theorem qp_us2 {n l r : Nat} {us us' : Nat → Int32} {f t : Int32} (h : ∀ i, i < n → us i = us' i) : ∀ i, i < n + 1 → upd (upd (upd us n f) l t) r t i = upd (upd (upd us' n f) l t) r t i := by
  intro i hi
  by_cases e : i = r
  · subst e; rw [pk_us, pk_us]
  · rw [pk_un e, pk_un e]; exact qp_us1 h i hi
/-- indices of the list store -/
theorem qp_ix (s r c : Nat) : (nI s * 24 + nI r) * 6 + nI c = nI (s * 144 + r * 6 + c) := by
  rw [show (24 : Int32) = nI 24 from rfl, show (6 : Int32) = nI 6 from rfl, pk_mul, nI_add, pk_mul, nI_add]
  exact congrArg nI (by omega)
theorem qp_ix0 (s r : Nat) : (nI s * 24 + nI r) * 6 = nI (s * 144 + r * 6) := by
  rw [show (24 : Int32) = nI 24 from rfl, show (6 : Int32) = nI 6 from rfl, pk_mul, nI_add, pk_mul]
  exact congrArg nI (by omega)
theorem qp_iy (s r c : Nat) : nI s * 144 + nI r * 6 + nI c = nI (s * 144 + r * 6 + c) := by
  rw [show (144 : Int32) = nI 144 from rfl, show (6 : Int32) = nI 6 from rfl, pk_mul, pk_mul, nI_add, nI_add]
theorem qp_iy0 (s r : Nat) : nI s * 144 + nI r * 6 = nI (s * 144 + r * 6) := by
  rw [show (144 : Int32) = nI 144 from rfl, show (6 : Int32) = nI 6 from rfl, pk_mul, pk_mul, nI_add]
theorem qp_i6 (r c : Nat) : nI r * 6 + nI c = nI (r * 6 + c) := by
  rw [show (6 : Int32) = nI 6 from rfl, pk_mul, nI_add]
theorem qp_it0 (t r : Nat) : (nI t * 10 + nI r) * 3 = nI (t * 30 + r * 3) := by
  rw [show (10 : Int32) = nI 10 from rfl, show (3 : Int32) = nI 3 from rfl, pk_mul, nI_add, pk_mul]
  exact congrArg nI (by omega)
theorem qp_iu (t r c : Nat) : nI t * 30 + nI r * 3 + nI c = nI (t * 30 + r * 3 + c) := by
  rw [show (30 : Int32) = nI 30 from rfl, show (3 : Int32) = nI 3 from rfl, pk_mul, pk_mul, nI_add, nI_add]
theorem qp_iu0 (t r : Nat) : nI t * 30 + nI r * 3 = nI (t * 30 + r * 3) := by
  rw [show (30 : Int32) = nI 30 from rfl, show (3 : Int32) = nI 3 from rfl, pk_mul, pk_mul, nI_add]
theorem qp_m1 {x : Nat} (h : x < 2 ^ 31) : ¬ nI x = -1 := by
  intro z
  have h1 := congrArg Int32.toInt z
  rw [nI_toInt h] at h1
  have h2 : (-1 : Int32).toInt = -1 := by decide
  omega
/-- one loop over a counter, two arrays changing -/
theorem qp_loop {α β : Type} (W : Nat → Nat → α → β → Prop) (I : Nat → α → β → Prop) (e : Nat) (hx : ∀ n h a, I e h a → W (n + 1) e h a) (hs : ∀ n i h a, i < e → I i h a → (∀ h' a', I (i + 1) h' a' → W n (i + 1) h' a') → W (n + 1) i h a) : ∀ n i h a, i ≤ e → e < n + i → I i h a → W n i h a := by
  intro n
  induction n with
  | zero => intro i h a h1 h2; omega
  | succ n ih =>
    intro i h a h1 h2 hI
    by_cases hi : i = e
    · subst hi; exact hx n h a hI
    · exact hs n i h a (by omega) hI (fun h' a' hI' => ih (i + 1) h' a' (by omega) (by omega) hI')
theorem qp_loop1 {α : Type} (W : Nat → Nat → α → Prop) (I : Nat → α → Prop) (e : Nat) (hx : ∀ n a, I e a → W (n + 1) e a) (hs : ∀ n i a, i < e → I i a → (∀ a', I (i + 1) a' → W n (i + 1) a') → W (n + 1) i a) : ∀ n i a, i ≤ e → e < n + i → I i a → W n i a := by
  intro n
  induction n with
  | zero => intro i a h1 h2; omega
  | succ n ih =>
    intro i a h1 h2 hI
    by_cases hi : i = e
    · subst hi; exact hx n a hI
    · exact hs n i a (by omega) hI (fun a' hI' => ih (i + 1) a' (by omega) (by omega) hI')
theorem qp_loop0 (W : Nat → Nat → Prop) (I : Nat → Prop) (e : Nat) (hx : ∀ n, I e → W (n + 1) e) (hs : ∀ n i, i < e → I i → (I (i + 1) → W n (i + 1)) → W (n + 1) i) : ∀ n i, i ≤ e → e < n + i → I i → W n i := by
  intro n
  induction n with
  | zero => intro i h1 h2; omega
  | succ n ih =>
    intro i h1 h2 hI
    by_cases hi : i = e
    · subst hi; exact hx n hI
    · exact hs n i (by omega) hI (fun hI' => ih (i + 1) (by omega) (by omega) hI')
end
section
/-! steps that both sides take -/
def qp_Pt (n w : Nat) (f : Nat → qp_Row) (i j : Nat) (a a1 : Nat → Int32) : Prop := qp_Fr n a a1 ∧ ∀ r c, c < w → (r < i ∨ (r = i ∧ c < j)) → a1 (n * 144 + r * 6 + c) = f r c
theorem qp_Pt_0 (n w : Nat) (f : Nat → qp_Row) (a : Nat → Int32) : qp_Pt n w f 0 0 a a := ⟨qp_Fr_r n a, fun r c _ h => by omega⟩
theorem qp_Pt_s {n w i j : Nat} {f : Nat → qp_Row} {a a1 : Nat → Int32} {v : Int32} (P : qp_Pt n w f i j a a1) (hi : i < 24) (hj : j < w) (hw : w ≤ 6) (e : v = f i j) : qp_Pt n w f i (j + 1) a (upd a1 (n * 144 + i * 6 + j) v) := by
  obtain ⟨p1, p2⟩ := P
  refine ⟨fun p hp => ?_, fun r c hc h => ?_⟩
  · rw [pk_un (by omega)]; exact p1 p hp
  · by_cases z : r = i ∧ c = j
    · obtain ⟨z1, z2⟩ := z
      subst z1 z2
      rw [pk_us]; exact e
    · rw [pk_un (by omega)]; exact p2 r c hc (by omega)
theorem qp_Pt_n {n w i : Nat} {f : Nat → qp_Row} {a a1 : Nat → Int32} (P : qp_Pt n w f i w a a1) : qp_Pt n w f (i + 1) 0 a a1 := ⟨P.1, fun r c hc h => P.2 r c hc (by omega)⟩
theorem qp_Pt_e {n w h : Nat} {f : Nat → qp_Row} {a a1 : Nat → Int32} (P : qp_Pt n w f h 0 a a1) : qp_Rep a1 n w (qp_tab h f) := by
  intro r c hr hc
  rw [qp_tab_len] at hr
  rw [qp_tab_g hr]
  exact P.2 r c hc (Or.inl hr)
/-- a copied row: w columns from fr to to -/
def qp_Cp (to fr w : Nat) (a a' : Nat → Int32) : Prop := (∀ c, c < w → a' (to + c) = a (fr + c)) ∧ ∀ p, (p < to ∨ to + w ≤ p) → a' p = a p
theorem qp_Cp_0 (to fr : Nat) (a : Nat → Int32) : qp_Cp to fr 0 a a := ⟨fun c h => absurd h (Nat.not_lt_zero c), fun _ _ => rfl⟩
theorem qp_Cp_s {to fr i w : Nat} {a a' : Nat → Int32} {v : Int32} (P : qp_Cp to fr i a a') (hi : i < w) (hd : fr + w ≤ to ∨ to + w ≤ fr) (e : v = a' (fr + i)) : qp_Cp to fr (i + 1) a (upd a' (to + i) v) := by
  obtain ⟨p1, p2⟩ := P
  refine ⟨fun c hc => ?_, fun p hp => ?_⟩
  · by_cases z : c = i
    · subst z
      rw [pk_us, e]; exact p2 _ (by omega)
    · rw [pk_un (by omega)]; exact p1 c (by omega)
  · rw [pk_un (by omega)]; exact p2 p (by omega)
/-- a row of S, copied behind R -/
theorem qp_Out_cp {n w s r : Nat} {R S : List qp_Row} {h a h1 a1 a2 : Nat → Int32} (O : qp_Out n w R h a h1 a1) (hR : R.length < 24) (hw : w ≤ 6) (hS : qp_Rep a1 s w S) (hr : r < S.length) (hc : qp_Cp (n * 144 + R.length * 6) (s * 144 + r * 6) w a1 a2) : qp_Out n w (R ++ [qp_g S r]) h a (upd h1 n (nI (R.length + 1))) a2 :=
  qp_Out_app O hR hw _ (fun c k => (hc.1 c k).trans (hS r c hr k)) (fun p k => hc.2 p (by omega))
theorem qp_Out_h {n w : Nat} {R : List qp_Row} {h a h1 a1 : Nat → Int32} (O : qp_Out n w R h a h1 a1) : h1 n = nI R.length := O.2.2.1
/-- a pair of rows, copied behind R -/
theorem qp_Out_pr {n w wl wr s r q t : Nat} {R S Q : List qp_Row} {h a h1 a1 a2 a3 : Nat → Int32} (O : qp_Out n w R h a h1 a1) (hR : R.length < 24) (hw : w ≤ 6) (ew : w = wl + wr) (hS : qp_Rep a1 s wl S) (hr : r < S.length) (hQ : qp_Rep a1 q wr Q) (ht : t < Q.length) (hQl : Q.length ≤ 24) (hqn : q ≠ n) (hc : qp_Cp (n * 144 + R.length * 6) (s * 144 + r * 6) wl a1 a2) (hd : qp_Cp (n * 144 + R.length * 6 + wl) (q * 144 + t * 6) wr a2 a3) : qp_Out n w (R ++ [qp_pair (qp_g S r) (qp_g Q t) wl]) h a (upd h1 n (nI (R.length + 1))) a3 := by
  refine qp_Out_app O hR hw _ (fun c k => ?_) (fun p k => ?_)
  · unfold qp_pair
    by_cases z : c < wl
    · rw [if_pos z, hd.2 _ (by omega), hc.1 c z]; exact hS r c hr z
    · rw [if_neg z]
      have e1 := hd.1 (c - wl) (by omega)
      rw [show n * 144 + R.length * 6 + wl + (c - wl) = n * 144 + R.length * 6 + c by omega] at e1
      rw [e1, hc.2 _ (by omega)]
      exact hQ t (c - wl) ht (by omega)
  · rw [hd.2 p (by omega)]; exact hc.2 p (by omega)
/-- a row and zeros: zeros first, as the component does -/
theorem qp_Out_zr {n w wl wr s r : Nat} {R S : List qp_Row} {h a h1 a1 a3 : Nat → Int32} (O : qp_Out n w R h a h1 a1) (hR : R.length < 24) (hw : w ≤ 6) (ew : w = wl + wr) (hS : qp_Rep a1 s wl S) (hr : r < S.length) (h1' : ∀ c, c < wl → a3 (n * 144 + R.length * 6 + c) = a1 (s * 144 + r * 6 + c)) (h2 : ∀ c, wl ≤ c → c < w → a3 (n * 144 + R.length * 6 + c) = 0) (h3 : ∀ p, (p < n * 144 + R.length * 6 ∨ n * 144 + R.length * 6 + w ≤ p) → a3 p = a1 p) : qp_Out n w (R ++ [qp_pair (qp_g S r) (fun _ => 0) wl]) h a (upd h1 n (nI (R.length + 1))) a3 := by
  refine qp_Out_app O hR hw _ (fun c k => ?_) (fun p k => h3 p (by omega))
  unfold qp_pair
  by_cases z : c < wl
  · rw [if_pos z, h1' c z]; exact hS r c hr z
  · rw [if_neg z]; exact h2 c (by omega) k
/-! group -/
theorem qp_gp_0 {S : List qp_Row} {o : Int32} {a b n i g : Nat} (h : g < (qp_F S a i).length) : qp_g (qp_gp S o a b n i) g 0 = qp_g S (qp_fg (qp_F S a i) g) a := by rw [qp_gp_g h]; rfl
theorem qp_gp_1 {S : List qp_Row} {o : Int32} {a b n i g : Nat} (h : g < (qp_F S a i).length) : qp_g (qp_gp S o a b n i) g 1 = qp_ag S o a b (qp_g S (qp_fg (qp_F S a i) g) a) (qp_g S (qp_fg (qp_F S a i) g) b) n := by rw [qp_gp_g h]; rfl
theorem qp_gp_ln (S : List qp_Row) (o : Int32) (a b n i : Nat) : (qp_gp S o a b n i).length = (qp_F S a i).length := by unfold qp_gp; rw [List.length_map]
theorem qp_F_f {S : List qp_Row} {a i : Nat} (h : ¬ qp_fst S a i) : qp_F S a (i + 1) = qp_F S a i := by
  rw [show qp_F S a (i + 1) = qp_if (qp_fst S a i) (qp_F S a i ++ [i]) (qp_F S a i) from rfl, qp_if_f h]
theorem qp_F_t {S : List qp_Row} {a i : Nat} (h : qp_fst S a i) : qp_F S a (i + 1) = qp_F S a i ++ [i] := by
  rw [show qp_F S a (i + 1) = qp_if (qp_fst S a i) (qp_F S a i ++ [i]) (qp_F S a i) from rfl, qp_if_t h]
theorem qp_Out_go {n i g a b : Nat} {S : List qp_Row} {o : Int32} {h A h1 A1 : Nat → Int32} (O : qp_Out n 2 (qp_gp S o a b i i) h A h1 A1) (hi : i < 24) (hg : g < (qp_gp S o a b i i).length) (hk : qp_g (qp_gp S o a b i i) g 0 = qp_g S i a) : qp_Out n 2 (qp_gp S o a b (i + 1) (i + 1)) h A h1 (upd (upd A1 (n * 144 + g * 6) (qp_g S i a)) (n * 144 + g * 6 + 1) (qp_cb o (qp_g (qp_gp S o a b i i) g 1) (qp_g S i b))) := by
  obtain ⟨o1, o2, o3, o4⟩ := O
  obtain ⟨f1, f2, f3⟩ := qp_F_ok S a i
  have hl := qp_F_len S a i
  have hln := qp_gp_ln S o a b i i
  have hln2 := qp_gp_ln S o a b (i + 1) (i + 1)
  have hg' : g < (qp_F S a i).length := by omega
  rw [qp_gp_0 hg'] at hk
  have hnf : ¬ qp_fst S a i := fun z => z _ (f1 g hg') hk
  rw [qp_F_f hnf] at hln2
  refine ⟨fun p hp => ?_, o2, by rw [hln2, ← hln]; exact o3, fun r c hr hc => ?_⟩
  · rw [pk_un (by omega), pk_un (by omega)]; exact o1 p hp
  · have hr' : r < (qp_F S a i).length := by omega
    have hr2 : r < (qp_F S a (i + 1)).length := by rw [qp_F_f hnf]; exact hr'
    by_cases z : r = g
    · subst z
      by_cases hc0 : c = 0
      · subst hc0
        rw [pk_un (by omega), Nat.add_zero, pk_us, qp_gp_0 hr2, qp_F_f hnf]
        exact hk.symm
      · have hc1 : c = 1 := by omega
        subst hc1
        rw [pk_us, qp_gp_1 hr2, qp_F_f hnf, qp_gp_1 hg', qp_ag_t hk.symm]
    · rw [pk_un (by omega), pk_un (by omega), o4 r c (by omega) hc]
      have hne : ¬ qp_g S i a = qp_g S (qp_fg (qp_F S a i) r) a := fun q => z (f3 r g hr' hg' (q.symm.trans hk.symm))
      by_cases hc0 : c = 0
      · subst hc0
        rw [qp_gp_0 hr', qp_gp_0 hr2, qp_F_f hnf]
      · have hc1 : c = 1 := by omega
        subst hc1
        rw [qp_gp_1 hr', qp_gp_1 hr2, qp_F_f hnf, qp_ag_f hne]
theorem qp_Out_gn {n i a b : Nat} {S : List qp_Row} {o : Int32} {h A h1 A1 : Nat → Int32} (ho : o = 0 ∨ o = 1 ∨ o = 2 ∨ o = 3) (O : qp_Out n 2 (qp_gp S o a b i i) h A h1 A1) (hi : i < 24) (hk : ∀ g, g < (qp_gp S o a b i i).length → qp_g (qp_gp S o a b i i) g 0 ≠ qp_g S i a) : qp_Out n 2 (qp_gp S o a b (i + 1) (i + 1)) h A (upd h1 n (nI ((qp_gp S o a b i i).length + 1))) (upd (upd A1 (n * 144 + (qp_gp S o a b i i).length * 6) (qp_g S i a)) (n * 144 + (qp_gp S o a b i i).length * 6 + 1) (if o = 0 then 1 else qp_g S i b)) := by
  obtain ⟨f1, f2, f3⟩ := qp_F_ok S a i
  have hl := qp_F_len S a i
  have hln := qp_gp_ln S o a b i i
  have hf : qp_fst S a i := by
    intro t ht e
    obtain ⟨g, hg, e2⟩ := f2 t ht
    exact hk g (by omega) (by rw [qp_gp_0 hg, e2, e])
  -- the new list, with the old groups' values brought up to date
  obtain ⟨o1, o2, o3, o4⟩ := O
  have hln2 := qp_gp_ln S o a b (i + 1) (i + 1)
  rw [qp_F_t hf, List.length_append, List.length_singleton] at hln2
  refine ⟨fun p hp => ?_, fun j hj => ?_, ?_, fun r c hr hc => ?_⟩
  · rw [pk_un (by omega), pk_un (by omega)]; exact o1 p hp
  · rw [pk_un hj]; exact o2 j hj
  · rw [pk_us, hln2, hln]
  · have hr2 : r < (qp_F S a (i + 1)).length := by rw [← qp_gp_ln S o a b (i + 1) (i + 1)]; exact hr
    by_cases z : r < (qp_F S a i).length
    · have hne : ¬ qp_g S i a = qp_g S (qp_fg (qp_F S a i) r) a := fun q => hf _ (f1 r z) q.symm
      rw [pk_un (by omega), pk_un (by omega), o4 r c (by omega) hc]
      by_cases hc0 : c = 0
      · subst hc0
        rw [qp_gp_0 z, qp_gp_0 hr2, qp_F_t hf, qp_fg_lo z]
      · have hc1 : c = 1 := by omega
        subst hc1
        rw [qp_gp_1 z, qp_gp_1 hr2, qp_F_t hf, qp_fg_lo z, qp_ag_f hne]
    · have er : r = (qp_F S a i).length := by omega
      have er2 : qp_fg (qp_F S a (i + 1)) r = i := by rw [qp_F_t hf, er, qp_fg_hi]
      rw [hln, ← er]
      by_cases hc0 : c = 0
      · subst hc0
        rw [pk_un (by omega), Nat.add_zero, pk_us, qp_gp_0 hr2, er2]
      · have hc1 : c = 1 := by omega
        subst hc1
        rw [pk_us, qp_gp_1 hr2, er2, qp_ag_1 ho hf]
/-! sort: the component puts each row at its place -/
def qp_Pk (n w : Nat) (S : List qp_Row) (d : Prop) (x i : Nat) (a a1 : Nat → Int32) : Prop := qp_Fr n a a1 ∧ ∀ r c, r < i → c < w → a1 (n * 144 + qp_rk d (fun t => qp_g S t x) S.length r * 6 + c) = qp_g S r c
theorem qp_Pk_0 (n w : Nat) (S : List qp_Row) (d : Prop) (x : Nat) (a : Nat → Int32) : qp_Pk n w S d x 0 a a := ⟨qp_Fr_r n a, fun r c h _ => absurd h (Nat.not_lt_zero r)⟩
theorem qp_Pk_s {n w s i x : Nat} {S : List qp_Row} {d : Prop} {a a1 a2 : Nat → Int32} (P : qp_Pk n w S d x i a a1) (hi : i < S.length) (hl : S.length ≤ 24) (hw : w ≤ 6) (hS : qp_Rep a1 s w S) (hc : qp_Cp (n * 144 + qp_rk d (fun t => qp_g S t x) S.length i * 6) (s * 144 + i * 6) w a1 a2) : qp_Pk n w S d x (i + 1) a a2 := by
  obtain ⟨p1, p2⟩ := P
  have hk := qp_rk_lt d (fun t => qp_g S t x) hi
  refine ⟨fun p hp => ?_, fun r c hr hcw => ?_⟩
  · rw [hc.2 p (by omega)]; exact p1 p hp
  · by_cases e : r = i
    · subst e
      rw [hc.1 c hcw]; exact hS r c hi hcw
    · have hri : r < i := by omega
      have hne : qp_rk d (fun t => qp_g S t x) S.length r ≠ qp_rk d (fun t => qp_g S t x) S.length i := fun z => e (qp_rk_inj (by omega) hi z)
      rw [hc.2 _ (by omega)]
      exact p2 r c hri hcw
theorem qp_Pk_e {n w x : Nat} {S : List qp_Row} {d : Prop} {a a1 : Nat → Int32} (P : qp_Pk n w S d x S.length a a1) : qp_Rep a1 n w (qp_tab S.length (qp_so S d x)) := by
  intro r c hr hc
  rw [qp_tab_len] at hr
  rw [qp_tab_g hr]
  have h := qp_iv_ok d (fun t => qp_g S t x) hr
  have h2 := P.2 _ c h.1 hc
  rw [h.2] at h2
  exact h2
theorem qp_ltne {a b : Int32} (h : a < b) : ¬ a = b := by
  intro e
  subst e
  rw [qp_i32lt] at h
  omega
/-- the other way to test which row goes before -/
theorem qp_bf_x {c : Int32} {v : Nat → Int32} {i j : Nat} (hc : c = 4 ∨ c = 2) : qp_bf (c = 4) v i j ↔ (v j = v i ∧ j < i) ∨ (¬ v j = v i ∧ qp_ful (v j) c (v i)) := by
  unfold qp_bf
  rcases hc with hc | hc
  · subst hc
    have e : qp_ful (v j) 4 (v i) = (v i < v j) := rfl
    rw [e]
    constructor
    · rintro (⟨_, h⟩ | ⟨h, _⟩ | h)
      · exact Or.inr ⟨fun z => qp_ltne h z.symm, h⟩
      · exact absurd rfl h
      · exact Or.inl h
    · rintro (h | ⟨_, h⟩)
      · exact Or.inr (Or.inr h)
      · exact Or.inl ⟨rfl, h⟩
  · subst hc
    have e : qp_ful (v j) 2 (v i) = (v j < v i) := rfl
    rw [e]
    constructor
    · rintro (⟨h, _⟩ | ⟨_, h⟩ | h)
      · exact absurd h (by decide)
      · exact Or.inr ⟨qp_ltne h, h⟩
      · exact Or.inl h
    · rintro (h | ⟨_, h⟩)
      · exact Or.inr (Or.inr h)
      · exact Or.inr (Or.inl ⟨by decide, h⟩)
end
section
/-! what stands in the list store while a run goes up the nodes -/
def qp_Inv (i : Nat) (bd : Nat → Nat) (LL : Nat → List qp_Row) (W h a : Nat → Int32) : Prop := ∀ j, j < i → bd j ≤ 24 → h j = nI (LL j).length ∧ qp_Rep a j (W j).toNatClampNeg (LL j)
theorem qp_Inv_0 {bd : Nat → Nat} {LL : Nat → List qp_Row} {W h a : Nat → Int32} : qp_Inv 0 bd LL W h a := fun j hj => absurd hj (Nat.not_lt_zero j)
theorem qp_Inv_k {i : Nat} {bd : Nat → Nat} {LL : Nat → List qp_Row} {W h a : Nat → Int32} (I : qp_Inv i bd LL W h a) (hb : ¬ bd i ≤ 24) : qp_Inv (i + 1) bd LL W h a := by
  intro j hj h24
  by_cases e : j = i
  · subst e; exact absurd h24 hb
  · exact I j (by omega) h24
theorem qp_Inv_s {i w : Nat} {bd : Nat → Nat} {LL : Nat → List qp_Row} {W h a h' a' : Nat → Int32} (I : qp_Inv i bd LL W h a) (O : qp_Out i w (LL i) h a h' a') (ew : (W i).toNatClampNeg = w) (hw : ∀ j, j < i → (W j).toNatClampNeg ≤ 6) (hl : ∀ j, j < i → bd j ≤ 24 → (LL j).length ≤ 24) : qp_Inv (i + 1) bd LL W h' a' := by
  obtain ⟨o1, o2, o3, o4⟩ := O
  intro j hj h24
  by_cases e : j = i
  · subst e; rw [ew]; exact ⟨o3, o4⟩
  · have hji : j < i := by omega
    obtain ⟨i1, i2⟩ := I j hji h24
    exact ⟨(o2 j e).trans i1, qp_Rep_fr i2 (hl j hji h24) (hw j hji) e o1⟩
def qp_cd (b : Nat) : Int32 := if b ≤ 24 then nI b else -10
theorem qp_cd_t {b : Nat} (h : b ≤ 24) : qp_cd b = nI b := if_pos h
theorem qp_cd_f {b : Nat} (h : ¬ b ≤ 24) : qp_cd b = -10 := if_neg h
theorem qp_cd_n {b : Nat} (h : b ≤ 24) : ¬ qp_cd b = -10 := by
  rw [qp_cd_t h]
  intro z
  have h1 := congrArg Int32.toInt z
  rw [nI_toInt (by omega)] at h1
  have h2 : (-10 : Int32).toInt = -10 := by decide
  omega
end
section
/-! the component's small methods -/
theorem qp_rd {f : Nat → Int32} {n : Nat} {v : Int32} (hn : n < 12) (e : f n = v) : f (nI n).toNatClampNeg = v := by
  rw [nI_clamp (by omega)]; exact e
section qp_X1
variable {tc nc rh rc : Int32} {tw th tb nk nl nr nw us ca cb cc nn bo lh lc rs : Nat → Int32}
theorem x_listCell {post : Int32 → Prop} {p0 p1 p2 v : Int32} {n r c : Nat} (e0 : p0 = nI n) (e1 : p1 = nI r) (e2 : p2 = nI c) (hv : lc (n * 144 + r * 6 + c) = v) (h : n * 144 + r * 6 + c < 1728) (H : post v) : wpX_listCell post (tc, nc, rh, rc, tw, th, tb, nk, nl, nr, nw, us, ca, cb, cc, nn, bo, lh, lc, rs) p0 p1 p2 := by
  subst e0 e1 e2 hv
  unfold wpX_listCell
  try dsimp only
  rw [qp_ix, nI_clamp (by omega)]
  exact ⟨vp_in_nI h (by omega), H⟩
theorem x_putCell {post : SX → Prop} {p0 p1 p2 v : Int32} {n r c : Nat} (e0 : p0 = nI n) (e1 : p1 = nI r) (e2 : p2 = nI c) (h : n * 144 + r * 6 + c < 1728) (H : post (tc, nc, rh, rc, tw, th, tb, nk, nl, nr, nw, us, ca, cb, cc, nn, bo, lh, upd lc (n * 144 + r * 6 + c) v, rs)) : wpX_putCell post (tc, nc, rh, rc, tw, th, tb, nk, nl, nr, nw, us, ca, cb, cc, nn, bo, lh, lc, rs) p0 p1 p2 v := by
  subst e0 e1 e2
  unfold wpX_putCell
  try dsimp only
  rw [qp_ix, nI_clamp (by omega)]
  exact ⟨vp_in_nI h (by omega), nm_e H⟩
theorem x_copyRow {post : SX → Prop} {p0 p1 p2 p3 p4 : Int32} {s sr n r fc w : Nat} (e0 : p0 = nI s) (e1 : p1 = nI sr) (e2 : p2 = nI n) (e3 : p3 = nI r) (e4 : p4 = nI fc) (hw : nw s = nI w) (hs : s < 12) (h6 : w ≤ 6) (hf : s * 144 + sr * 6 + w ≤ 1728) (ht : n * 144 + r * 6 + fc + w ≤ 1728) (hd : s * 144 + sr * 6 + w ≤ n * 144 + r * 6 + fc ∨ n * 144 + r * 6 + fc + w ≤ s * 144 + sr * 6) (H : ∀ lc', qp_Cp (n * 144 + r * 6 + fc) (s * 144 + sr * 6) w lc lc' → post (tc, nc, rh, rc, tw, th, tb, nk, nl, nr, nw, us, ca, cb, cc, nn, bo, lh, lc', rs)) : wpX_copyRow post (tc, nc, rh, rc, tw, th, tb, nk, nl, nr, nw, us, ca, cb, cc, nn, bo, lh, lc, rs) p0 p1 p2 p3 p4 := by
  subst e0 e1 e2 e3 e4
  unfold wpX_copyRow
  try dsimp only
  refine nm_r (qp_ix0 s sr) (nm_r (qp_ix n r fc) ⟨vp_in_nI hs (by omega), nm_r (qp_rd hs hw) ⟨w + 1, ?_⟩⟩)
  refine qp_loop1 (fun k i a => wX_copyRow_37 post (nI (s * 144 + sr * 6)) (nI (n * 144 + r * 6 + fc)) (nI w) tc nc rh rc k (nI i) tw th tb nk nl nr nw us ca cb cc nn bo lh a rs) (fun i a => qp_Cp (n * 144 + r * 6 + fc) (s * 144 + sr * 6) i lc a) w ?_ ?_ (w + 1) 0 lc (by omega) (by omega) (qp_Cp_0 _ _ _)
  · intro k a I
    exact br_t (nI_le (Nat.le_refl _) (by omega)) (H a I)
  · intro k i a hi I ih
    refine br_f (nI_ge hi (by omega)) ?_
    try dsimp only
    rw [nI_add, nI_add, nI_clamp (by omega), nI_clamp (by omega)]
    exact ⟨vp_in_nI (by omega) (by omega), vp_in_nI (by omega) (by omega), nm_e (nm_r (nI_1 i) (ih _ (qp_Cp_s I hi hd rfl)))⟩
theorem x_appendRow {post : SX → Prop} {p0 p1 p2 : Int32} {n w s r : Nat} {R S : List qp_Row} {h0 a0 : Nat → Int32} (e0 : p0 = nI n) (e1 : p1 = nI s) (e2 : p2 = nI r) (hn : n < 12) (hs : s < 12) (hsn : s ≠ n) (hw : nw s = nI w) (h6 : w ≤ 6) (O : qp_Out n w R h0 a0 lh lc) (hR : R.length < 24) (hS : qp_Rep lc s w S) (hr : r < S.length) (h24 : S.length ≤ 24) (H : ∀ lh' lc', qp_Out n w (R ++ [qp_g S r]) h0 a0 lh' lc' → post (tc, nc, rh, rc, tw, th, tb, nk, nl, nr, nw, us, ca, cb, cc, nn, bo, lh', lc', rs)) : wpX_appendRow post (tc, nc, rh, rc, tw, th, tb, nk, nl, nr, nw, us, ca, cb, cc, nn, bo, lh, lc, rs) p0 p1 p2 := by
  subst e0 e1 e2
  unfold wpX_appendRow
  try dsimp only
  refine ⟨vp_in_nI hn (by omega), ?_⟩
  refine x_copyRow rfl rfl rfl (qp_rd hn (qp_Out_h O)) (e4 := nI_0.symm) hw hs h6 (by omega) (by omega) (by omega) ?_
  intro lc' hc
  try dsimp only
  rw [nI_clamp (by omega), qp_Out_h O, nI_1]
  exact ⟨vp_in_nI hn (by omega), vp_in_nI hn (by omega), nm_e (H _ _ (qp_Out_cp O hR h6 hS hr hc))⟩
theorem x_fulfils {post : Int32 → Prop} {p0 p1 p2 a c b : Int32} (e0 : p0 = a) (e1 : p1 = c) (e2 : p2 = b) (ht : qp_ful a c b → post 1) (hf : ¬ qp_ful a c b → post 0) : wpX_fulfils post (tc, nc, rh, rc, tw, th, tb, nk, nl, nr, nw, us, ca, cb, cc, nn, bo, lh, lc, rs) p0 p1 p2 := by
  subst e0 e1 e2
  unfold wpX_fulfils
  try dsimp only
  by_cases h0 : p1 = 0
  · subst h0
    exact br_f (by decide) (br_f (by decide) (br_t rfl (br_c (fun h => ht h) (fun h => hf h))))
  · by_cases h1 : p1 = 1
    · subst h1
      exact br_f (by decide) (br_f (by decide) (br_f (by decide) (br_t rfl (br_c (fun h => hf (fun z => z h)) (fun h => ht h)))))
    · by_cases h2 : p1 = 2
      · subst h2
        exact br_f (by decide) (br_f (by decide) (br_f (by decide) (br_f (by decide) (br_t rfl (br_c (fun h => hf (fun z => Int32.not_lt.mpr h z)) (fun h => ht (Int32.not_le.mp h)))))))
      · by_cases h3 : p1 = 3
        · subst h3
          exact br_f (by decide) (br_f (by decide) (br_f (by decide) (br_f (by decide) (br_f (by decide) (br_t rfl (br_c (fun h => hf (fun z => Int32.not_lt.mpr z h)) (fun h => ht (Int32.not_lt.mp h))))))))
        · by_cases h4 : p1 = 4
          · subst h4
            exact br_f (by decide) (br_f (by decide) (br_f (by decide) (br_f (by decide) (br_f (by decide) (br_f (by decide) (br_t rfl (br_c (fun h => hf (fun z => Int32.not_lt.mpr h z)) (fun h => ht (Int32.not_le.mp h)))))))))
          · have e : qp_ful p0 p1 p2 = (p2 ≤ p0) := by unfold qp_ful; rw [if_neg h0, if_neg h1, if_neg h2, if_neg h3, if_neg h4]
            rw [e] at ht hf
            have L : (p0 < p2 → post 0) ∧ (¬ p0 < p2 → post 1) := br_c (fun h => hf (Int32.not_le.mpr h)) (fun h => ht (Int32.not_lt.mp h))
            refine br_c (fun _ => L) (fun _ => br_c (fun _ => L) (fun _ => br_f h0 (br_f h1 (br_f h2 (br_f h3 (br_f h4 trivial))))))
theorem x_smaller {post : Int32 → Prop} {p0 p1 : Int32} (H : post (if p0 < p1 then p0 else p1)) : wpX_smaller post (tc, nc, rh, rc, tw, th, tb, nk, nl, nr, nw, us, ca, cb, cc, nn, bo, lh, lc, rs) p0 p1 := by
  unfold wpX_smaller
  try dsimp only
  refine br_c (fun h => ?_) (fun h => ?_)
  · rw [if_neg (Int32.not_lt.mpr h)] at H; exact H
  · rw [if_pos (Int32.not_le.mp h)] at H; exact H
theorem x_larger {post : Int32 → Prop} {p0 p1 : Int32} (H : post (if p1 < p0 then p0 else p1)) : wpX_larger post (tc, nc, rh, rc, tw, th, tb, nk, nl, nr, nw, us, ca, cb, cc, nn, bo, lh, lc, rs) p0 p1 := by
  unfold wpX_larger
  try dsimp only
  refine br_c (fun h => ?_) (fun h => ?_)
  · rw [if_neg (Int32.not_lt.mpr h)] at H; exact H
  · rw [if_pos (Int32.not_le.mp h)] at H; exact H
theorem x_combined {post : Int32 → Prop} {p0 p1 p2 o a b : Int32} (e0 : p0 = o) (e1 : p1 = a) (e2 : p2 = b) (H : post (qp_com o a b)) : wpX_combined post (tc, nc, rh, rc, tw, th, tb, nk, nl, nr, nw, us, ca, cb, cc, nn, bo, lh, lc, rs) p0 p1 p2 := by
  subst e0 e1 e2
  unfold wpX_combined
  try dsimp only
  by_cases h0 : p0 = 0
  · subst h0
    exact br_f (by decide) (br_f (by decide) (br_t rfl H))
  · by_cases h1 : p0 = 1
    · subst h1
      exact br_f (by decide) (br_f (by decide) (br_f (by decide) (br_t rfl H)))
    · by_cases h2 : p0 = 2
      · subst h2
        exact br_f (by decide) (br_f (by decide) (br_f (by decide) (br_f (by decide) (br_t rfl H))))
      · by_cases h3 : p0 = 3
        · subst h3
          exact br_f (by decide) (br_f (by decide) (br_f (by decide) (br_f (by decide) (br_f (by decide) (br_t rfl (x_smaller H))))))
        · have e : qp_com p0 p1 p2 = (if p2 < p1 then p1 else p2) := by unfold qp_com; rw [if_neg h0, if_neg h1, if_neg h2, if_neg h3]
          rw [e] at H
          exact br_c (fun _ => x_larger H) (fun _ => br_c (fun _ => x_larger H) (fun _ => br_f h0 (br_f h1 (br_f h2 (br_f h3 trivial)))))
theorem x_aggregated {post : Int32 → Prop} {p0 p1 p2 o a b : Int32} (e0 : p0 = o) (e1 : p1 = a) (e2 : p2 = b) (H : post (qp_cx o a b)) : wpX_aggregated post (tc, nc, rh, rc, tw, th, tb, nk, nl, nr, nw, us, ca, cb, cc, nn, bo, lh, lc, rs) p0 p1 p2 := by
  subst e0 e1 e2
  unfold wpX_aggregated
  try dsimp only
  unfold qp_cx at H
  by_cases h2 : p0 = 2
  · rw [if_pos h2] at H
    exact br_t h2 (x_smaller H)
  · rw [if_neg h2] at H
    by_cases h3 : p0 = 3
    · rw [if_pos h3] at H
      exact br_f h2 (br_t h3 (x_larger H))
    · rw [if_neg h3] at H
      exact br_f h2 (br_f h3 H)
end qp_X1
end
section
/-! the component works the kinds out, one list each -/
section qp_X2
variable {tc nc rh rc : Int32} {tw th tb nk nl nr nw us ca cb cc nn bo lh lc rs : Nat → Int32}
theorem x_filter {post : SX → Prop} {n l a w : Nat} {S : List qp_Row} (hn : n < 12) (hl : l < n) (eL : nl n = nI l) (eW : nw l = nI w) (hw : w ≤ 6) (eA : ca n = nI a) (ha : a < w) (hS : qp_Rep lc l w S) (eH : lh l = nI S.length) (h24 : S.length ≤ 24) (e0 : lh n = 0) (H : ∀ lh' lc', qp_Out n w (qp_fl S (fun z => qp_ful (z a) (cc n) (nn n)) S.length) lh lc lh' lc' → post (tc, nc, rh, rc, tw, th, tb, nk, nl, nr, nw, us, ca, cb, cc, nn, bo, lh', lc', rs)) : wpX_workOutFilter post (tc, nc, rh, rc, tw, th, tb, nk, nl, nr, nw, us, ca, cb, cc, nn, bo, lh, lc, rs) (nI n) := by
  unfold wpX_workOutFilter
  try dsimp only
  refine ⟨vp_in_nI hn (by omega), nm_r (qp_rd hn eL) ⟨vp_in_nI (by omega) (by omega), nm_r (qp_rd (by omega) eH) ⟨S.length + 1, ?_⟩⟩⟩
  refine qp_loop (fun k i h a' => wX_workOutFilter_17 post (nI n) (nI l) (nI S.length) k (nI i) tc nc rh rc tw th tb nk nl nr nw us ca cb cc nn bo h a' rs) (fun i h a' => qp_Out n w (qp_fl S (fun z => qp_ful (z a) (cc n) (nn n)) i) lh lc h a') S.length ?_ ?_ (S.length + 1) 0 lh lc (by omega) (by omega) (qp_Out_0 e0)
  · intro k h a' O
    exact br_t (nI_le (Nat.le_refl _) (by omega)) (H h a' O)
  · intro k i h a' hi O ih
    have hS' := qp_Out_rd O hS h24 hw (by omega)
    have hlen := qp_fl_len S (fun z => qp_ful (z a) (cc n) (nn n)) i
    refine br_f (nI_ge hi (by omega)) ⟨vp_in_nI hn (by omega), ?_⟩
    refine x_listCell rfl rfl (qp_rd hn eA) (hS' i a hi ha) (by omega) ?_
    refine ⟨vp_in_nI hn (by omega), vp_in_nI hn (by omega), ?_⟩
    refine x_fulfils rfl (qp_rd hn rfl) (qp_rd hn rfl) (fun hp => ?_) (fun hp => ?_)
    · refine br_f (by decide) ?_
      refine x_appendRow rfl rfl rfl hn (by omega) (by omega) eW hw O (by omega) hS' hi h24 ?_
      intro lh' lc' O'
      refine nm_r (nI_1 i) (ih lh' lc' ?_)
      show qp_Out n w (qp_if (qp_ful (qp_g S i a) (cc n) (nn n)) _ _) lh lc lh' lc'
      rw [qp_if_t hp]; exact O'
    · refine br_t rfl ?_
      refine nm_r (nI_1 i) (ih h a' ?_)
      show qp_Out n w (qp_if (qp_ful (qp_g S i a) (cc n) (nn n)) _ _) lh lc h a'
      rw [qp_if_f hp]; exact O
theorem x_filterCols {post : SX → Prop} {n l a b w : Nat} {S : List qp_Row} (hn : n < 12) (hl : l < n) (eL : nl n = nI l) (eW : nw l = nI w) (hw : w ≤ 6) (eA : ca n = nI a) (ha : a < w) (eB : cb n = nI b) (hb : b < w) (hS : qp_Rep lc l w S) (eH : lh l = nI S.length) (h24 : S.length ≤ 24) (e0 : lh n = 0) (H : ∀ lh' lc', qp_Out n w (qp_fl S (fun z => qp_ful (z a) (cc n) (z b)) S.length) lh lc lh' lc' → post (tc, nc, rh, rc, tw, th, tb, nk, nl, nr, nw, us, ca, cb, cc, nn, bo, lh', lc', rs)) : wpX_workOutFilterCols post (tc, nc, rh, rc, tw, th, tb, nk, nl, nr, nw, us, ca, cb, cc, nn, bo, lh, lc, rs) (nI n) := by
  unfold wpX_workOutFilterCols
  try dsimp only
  refine ⟨vp_in_nI hn (by omega), nm_r (qp_rd hn eL) ⟨vp_in_nI (by omega) (by omega), nm_r (qp_rd (by omega) eH) ⟨S.length + 1, ?_⟩⟩⟩
  refine qp_loop (fun k i h a' => wX_workOutFilterCols_17 post (nI n) (nI l) (nI S.length) k (nI i) tc nc rh rc tw th tb nk nl nr nw us ca cb cc nn bo h a' rs) (fun i h a' => qp_Out n w (qp_fl S (fun z => qp_ful (z a) (cc n) (z b)) i) lh lc h a') S.length ?_ ?_ (S.length + 1) 0 lh lc (by omega) (by omega) (qp_Out_0 e0)
  · intro k h a' O
    exact br_t (nI_le (Nat.le_refl _) (by omega)) (H h a' O)
  · intro k i h a' hi O ih
    have hS' := qp_Out_rd O hS h24 hw (by omega)
    have hlen := qp_fl_len S (fun z => qp_ful (z a) (cc n) (z b)) i
    refine br_f (nI_ge hi (by omega)) ⟨vp_in_nI hn (by omega), ?_⟩
    refine x_listCell rfl rfl (qp_rd hn eA) (hS' i a hi ha) (by omega) ?_
    refine ⟨vp_in_nI hn (by omega), ?_⟩
    refine x_listCell rfl rfl (qp_rd hn eB) (hS' i b hi hb) (by omega) ?_
    refine ⟨vp_in_nI hn (by omega), ?_⟩
    refine x_fulfils rfl (qp_rd hn rfl) rfl (fun hp => ?_) (fun hp => ?_)
    · refine br_f (by decide) ?_
      refine x_appendRow rfl rfl rfl hn (by omega) (by omega) eW hw O (by omega) hS' hi h24 ?_
      intro lh' lc' O'
      refine nm_r (nI_1 i) (ih lh' lc' ?_)
      show qp_Out n w (qp_if (qp_ful (qp_g S i a) (cc n) (qp_g S i b)) _ _) lh lc lh' lc'
      rw [qp_if_t hp]; exact O'
    · refine br_t rfl ?_
      refine nm_r (nI_1 i) (ih h a' ?_)
      show qp_Out n w (qp_if (qp_ful (qp_g S i a) (cc n) (qp_g S i b)) _ _) lh lc h a'
      rw [qp_if_f hp]; exact O
theorem x_map {post : SX → Prop} {n l a b w : Nat} {S : List qp_Row} (hn : n < 12) (hl : l < n) (eL : nl n = nI l) (eW : nw l = nI w) (hw : w + 1 ≤ 6) (eA : ca n = nI a) (ha : a < w) (eB : cb n = nI b) (hb : b < w) (hS : qp_Rep lc l w S) (eH : lh l = nI S.length) (h24 : S.length ≤ 24) (e0 : lh n = 0) (H : ∀ lh' lc', qp_Out n (w + 1) (qp_tab S.length (qp_mp S w (cc n) a b)) lh lc lh' lc' → post (tc, nc, rh, rc, tw, th, tb, nk, nl, nr, nw, us, ca, cb, cc, nn, bo, lh', lc', rs)) : wpX_workOutMap post (tc, nc, rh, rc, tw, th, tb, nk, nl, nr, nw, us, ca, cb, cc, nn, bo, lh, lc, rs) (nI n) := by
  unfold wpX_workOutMap
  try dsimp only
  refine ⟨vp_in_nI hn (by omega), nm_r (qp_rd hn eL) ⟨vp_in_nI (by omega) (by omega), nm_r (qp_rd (by omega) eH) ⟨S.length + 1, ?_⟩⟩⟩
  refine qp_loop (fun k i h a' => wX_workOutMap_17 post (nI n) (nI l) (nI S.length) k (nI i) tc nc rh rc tw th tb nk nl nr nw us ca cb cc nn bo h a' rs) (fun i h a' => qp_Out n (w + 1) (qp_tab i (qp_mp S w (cc n) a b)) lh lc h a') S.length ?_ ?_ (S.length + 1) 0 lh lc (by omega) (by omega) (qp_Out_0 e0)
  · intro k h a' O
    exact br_t (nI_le (Nat.le_refl _) (by omega)) (H h a' O)
  · intro k i h a' hi O ih
    have hS' := qp_Out_rd O hS h24 (by omega) (by omega)
    have hlen := qp_tab_len i (qp_mp S w (cc n) a b)
    have hhn : h n = nI i := by have := qp_Out_h O; rw [hlen] at this; exact this
    refine br_f (nI_ge hi (by omega)) ⟨vp_in_nI hn (by omega), ?_⟩
    refine x_listCell rfl rfl (qp_rd hn eA) (hS' i a hi ha) (by omega) ?_
    refine ⟨vp_in_nI hn (by omega), ?_⟩
    refine x_listCell rfl rfl (qp_rd hn eB) (hS' i b hi hb) (by omega) ?_
    refine ⟨vp_in_nI hn (by omega), ?_⟩
    refine x_combined (qp_rd hn rfl) rfl rfl ?_
    refine ⟨vp_in_nI (by omega) (by omega), ?_⟩
    refine x_putCell rfl rfl (qp_rd (by omega) eW) (by omega) ?_
    try dsimp only
    unfold wpX_appendRow
    try dsimp only
    refine ⟨vp_in_nI hn (by omega), ?_⟩
    refine x_copyRow rfl rfl rfl (qp_rd hn hhn) (e4 := nI_0.symm) eW (by omega) (by omega) (by omega) (by omega) (by omega) ?_
    intro lc' hc
    try dsimp only
    rw [nI_clamp (by omega), hhn, nI_1]
    refine ⟨vp_in_nI hn (by omega), vp_in_nI hn (by omega), nm_e (nm_e (ih _ _ ?_))⟩
    rw [qp_tab_s]
    have key := qp_Out_app (a2 := lc') O (by omega) (by omega) (qp_mp S w (cc n) a b i) (fun c hcw => ?_) (fun p hp => ?_)
    · rw [hlen] at key; exact key
    · rw [hlen]
      unfold qp_mp
      by_cases z : c < w
      · rw [if_pos z]
        have e1 := hc.1 c z
        rw [Nat.add_zero] at e1
        rw [e1, pk_un (by omega)]
        exact hS' i c hi z
      · have z2 : c = w := by omega
        subst z2
        rw [if_neg z, hc.2 _ (by omega), pk_us]
    · rw [hlen] at hp
      rw [hc.2 p (by omega), pk_un (by omega)]
theorem x_scan {post : SX → Prop} {n t w h0 : Nat} (hn : n < 12) (ht : t < 4) (eD : nn n = nI t) (eT : th t = nI h0) (h10 : h0 ≤ 10) (eW : nw n = nI w) (hw : w ≤ 3) (H : ∀ lc', qp_Out n w (qp_tab h0 (fun r c => tb (t * 30 + r * 3 + c))) lh lc (upd lh n (nI h0)) lc' → post (tc, nc, rh, rc, tw, th, tb, nk, nl, nr, nw, us, ca, cb, cc, nn, bo, upd lh n (nI h0), lc', rs)) : wpX_workOutScan post (tc, nc, rh, rc, tw, th, tb, nk, nl, nr, nw, us, ca, cb, cc, nn, bo, lh, lc, rs) (nI n) := by
  unfold wpX_workOutScan
  try dsimp only
  refine ⟨vp_in_nI hn (by omega), nm_r (qp_rd hn eD) ⟨vp_in_nI ht (by omega), nm_r (qp_rd (by omega) eT) ⟨vp_in_nI hn (by omega), nm_r (qp_rd hn eW) ⟨h0 + 1, ?_⟩⟩⟩⟩
  refine qp_loop1 (fun k i a => wX_workOutScan_25 post (nI n) (nI t) (nI h0) (nI w) k (nI i) tc nc rh rc tw th tb nk nl nr nw us ca cb cc nn bo lh a rs) (fun i a => qp_Pt n w (fun r c => tb (t * 30 + r * 3 + c)) i 0 lc a) h0 ?_ ?_ (h0 + 1) 0 lc (by omega) (by omega) (qp_Pt_0 _ _ _ _)
  · intro k a P
    refine br_t (nI_le (Nat.le_refl _) (by omega)) ⟨vp_in_nI hn (by omega), ?_⟩
    rw [nI_clamp (by omega)]
    exact nm_e (H a ⟨P.1, fun j hj => pk_un hj, by rw [pk_us, qp_tab_len], qp_Pt_e P⟩)
  · intro k i a hi P ih
    refine br_f (nI_ge hi (by omega)) ?_
    unfold wpX_tableRowStart
    try dsimp only
    rw [qp_it0]
    refine ⟨w + 1, ?_⟩
    refine qp_loop1 (fun m j a => wX_workOutScan_43 post (wX_workOutScan_25 post (nI n) (nI t) (nI h0) (nI w) k) (nI n) (nI t) (nI h0) (nI w) (nI i) (nI (t * 30 + i * 3)) m (nI j) tc nc rh rc tw th tb nk nl nr nw us ca cb cc nn bo lh a rs) (fun j a => qp_Pt n w (fun r c => tb (t * 30 + r * 3 + c)) i j lc a) w ?_ ?_ (w + 1) 0 a (by omega) (by omega) P
    · intro m a P
      exact br_t (nI_le (Nat.le_refl _) (by omega)) (nm_r (nI_1 i) (ih a (qp_Pt_n P)))
    · intro m j a hj P ihj
      refine br_f (nI_ge hj (by omega)) ?_
      try dsimp only
      rw [nI_add, nI_clamp (by omega)]
      refine ⟨vp_in_nI (by omega) (by omega), ?_⟩
      refine x_putCell rfl rfl rfl (by omega) ?_
      exact nm_r (nI_1 j) (ihj _ (qp_Pt_s P (by omega) hj (by omega) rfl))
theorem x_project {post : SX → Prop} {n l w wl : Nat} {S : List qp_Row} (hn : n < 12) (hl : l < n) (eL : nl n = nI l) (hwl : wl ≤ 6) (eW : nw n = nI w) (hw : w ≤ 6) (hch : ∀ e, e < w → ∃ q : Nat, q < wl ∧ qp_ch (nn n) e = nI q) (hS : qp_Rep lc l wl S) (eH : lh l = nI S.length) (h24 : S.length ≤ 24) (H : ∀ lc', qp_Out n w (qp_tab S.length (qp_pr S (nn n))) lh lc (upd lh n (nI S.length)) lc' → post (tc, nc, rh, rc, tw, th, tb, nk, nl, nr, nw, us, ca, cb, cc, nn, bo, upd lh n (nI S.length), lc', rs)) : wpX_workOutProject post (tc, nc, rh, rc, tw, th, tb, nk, nl, nr, nw, us, ca, cb, cc, nn, bo, lh, lc, rs) (nI n) := by
  unfold wpX_workOutProject
  try dsimp only
  refine ⟨vp_in_nI hn (by omega), nm_r (qp_rd hn eL) ⟨vp_in_nI (by omega) (by omega), nm_r (qp_rd (by omega) eH) ⟨vp_in_nI hn (by omega), nm_r (qp_rd hn eW) ⟨S.length + 1, ?_⟩⟩⟩⟩
  refine qp_loop1 (fun k i a => wX_workOutProject_25 post (nI n) (nI l) (nI S.length) (nI w) k (nI i) tc nc rh rc tw th tb nk nl nr nw us ca cb cc nn bo lh a rs) (fun i a => qp_Pt n w (qp_pr S (nn n)) i 0 lc a) S.length ?_ ?_ (S.length + 1) 0 lc (by omega) (by omega) (qp_Pt_0 _ _ _ _)
  · intro k a P
    refine br_t (nI_le (Nat.le_refl _) (by omega)) ⟨vp_in_nI hn (by omega), ?_⟩
    rw [nI_clamp (by omega)]
    exact nm_e (H a ⟨P.1, fun j hj => pk_un hj, by rw [pk_us, qp_tab_len], qp_Pt_e P⟩)
  · intro k i a hi P ih
    refine br_f (nI_ge hi (by omega)) ⟨w + 1, ?_⟩
    refine qp_loop1 (fun m j a => wX_workOutProject_34 post (wX_workOutProject_25 post (nI n) (nI l) (nI S.length) (nI w) k) (nI n) (nI l) (nI S.length) (nI w) (nI i) m (nI j) tc nc rh rc tw th tb nk nl nr nw us ca cb cc nn bo lh a rs) (fun j a => qp_Pt n w (qp_pr S (nn n)) i j lc a) w ?_ ?_ (w + 1) 0 a (by omega) (by omega) P
    · intro m a P
      exact br_t (nI_le (Nat.le_refl _) (by omega)) (nm_r (nI_1 i) (ih a (qp_Pt_n P)))
    · intro m j a hj P ihj
      obtain ⟨q, hq, eq⟩ := hch j hj
      have hS' := qp_Rep_fr hS h24 hwl (by omega) P.1
      refine br_f (nI_ge hj (by omega)) ⟨vp_in_nI hn (by omega), ?_⟩
      unfold wpX_chosenColumn
      try dsimp only
      rw [nI_clamp (by omega)]
      refine x_listCell rfl rfl eq (hS' i q hi hq) (by omega) ?_
      refine x_putCell rfl rfl rfl (by omega) ?_
      refine nm_r (nI_1 j) (ihj _ (qp_Pt_s P (by omega) hj (by omega) ?_))
      unfold qp_pr
      rw [eq, nI_clamp (by omega)]
theorem x_first {post : SX → Prop} {p1 p2 : Int32} {n l w m : Nat} {R S : List qp_Row} {h0 a0 : Nat → Int32} (e1 : p1 = nI l) (e2 : p2 = nI m) (hm : m < 2 ^ 31) (hn : n < 12) (hl : l < n) (eW : nw l = nI w) (hw : w ≤ 6) (hS : qp_Rep lc l w S) (eH : lh l = nI S.length) (h24 : S.length ≤ 24) (O : qp_Out n w R h0 a0 lh lc) (hR : R.length + (if m < S.length then m else S.length) ≤ 24) (H : ∀ lh' lc', qp_Out n w (R ++ qp_tab (if m < S.length then m else S.length) (qp_g S)) h0 a0 lh' lc' → post (tc, nc, rh, rc, tw, th, tb, nk, nl, nr, nw, us, ca, cb, cc, nn, bo, lh', lc', rs)) : wpX_appendFirstRows post (tc, nc, rh, rc, tw, th, tb, nk, nl, nr, nw, us, ca, cb, cc, nn, bo, lh, lc, rs) (nI n) p1 p2 := by
  subst e1 e2
  unfold wpX_appendFirstRows
  try dsimp only
  refine ⟨vp_in_nI (by omega) (by omega), ?_⟩
  have eH' : lh (nI l).toNatClampNeg = nI S.length := qp_rd (by omega) eH
  refine x_smaller ?_
  have ek : (if nI m < lh (nI l).toNatClampNeg then nI m else lh (nI l).toNatClampNeg) = nI (if m < S.length then m else S.length) := by
    rw [eH']
    by_cases z : m < S.length
    · rw [if_pos z, if_pos ((nI_ltI hm (by omega)).mpr z)]
    · rw [if_neg z, if_neg (fun y => z ((nI_ltI hm (by omega)).mp y))]
  rw [ek]
  generalize hk : (if m < S.length then m else S.length) = k0 at *
  have hkl : k0 ≤ S.length := by rw [← hk]; split <;> omega
  refine ⟨k0 + 1, ?_⟩
  have hL : ∀ h' a', qp_Out n w (R ++ qp_tab 0 (qp_g S)) h0 a0 h' a' → qp_Rep a' l w S → wX_appendFirstRows_16 post (nI n) (nI l) (nI k0) (k0 + 1) (nI 0) tc nc rh rc tw th tb nk nl nr nw us ca cb cc nn bo h' a' rs := by
    intro h' a' O0 hS0
    refine qp_loop (fun k i h a => wX_appendFirstRows_16 post (nI n) (nI l) (nI k0) k (nI i) tc nc rh rc tw th tb nk nl nr nw us ca cb cc nn bo h a rs) (fun i h a => qp_Out n w (R ++ qp_tab i (qp_g S)) h0 a0 h a ∧ qp_Rep a l w S) k0 ?_ ?_ (k0 + 1) 0 h' a' (by omega) (by omega) ⟨O0, hS0⟩
    · intro k h a O
      exact br_t (nI_le (Nat.le_refl _) (by omega)) (H h a O.1)
    · intro k i h a hi O ih
      have hlen : (R ++ qp_tab i (qp_g S)).length = R.length + i := by rw [List.length_append, qp_tab_len]
      refine br_f (nI_ge hi (by omega)) ?_
      refine x_appendRow rfl rfl rfl hn (by omega) (by omega) eW hw O.1 (by omega) O.2 (by omega) h24 ?_
      intro lh' lc' O'
      refine nm_r (nI_1 i) (ih lh' lc' ⟨?_, ?_⟩)
      · rw [qp_tab_s, ← List.append_assoc]; exact O'
      · intro r c hr hc
        rw [O'.1 _ (by omega), ← O.1.1 _ (by omega)]
        exact O.2 r c hr hc
  refine hL lh lc ?_ hS
  rw [qp_tab_0, List.append_nil]; exact O
end qp_X2
end
section
/-! the component: distinct, sort, group -/
section qp_X3
variable {tc nc rh rc : Int32} {tw th tb nk nl nr nw us ca cb cc nn bo lh lc rs : Nat → Int32}
theorem x_rowsEq {post : Int32 → Prop} {p0 p1 p2 p3 : Int32} {n r s q w : Nat} {R S : List qp_Row} (e0 : p0 = nI n) (e1 : p1 = nI r) (e2 : p2 = nI s) (e3 : p3 = nI q) (hn : n < 12) (hs : s < 12) (eW : nw n = nI w) (hw : w ≤ 6) (hR : qp_Rep lc n w R) (hr : r < R.length) (hR24 : R.length ≤ 24) (hS : qp_Rep lc s w S) (hq : q < S.length) (hS24 : S.length ≤ 24) (ht : qp_eqv w (qp_g R r) (qp_g S q) → post 1) (hf : ¬ qp_eqv w (qp_g R r) (qp_g S q) → post 0) : wpX_rowsAreEqual post (tc, nc, rh, rc, tw, th, tb, nk, nl, nr, nw, us, ca, cb, cc, nn, bo, lh, lc, rs) p0 p1 p2 p3 := by
  subst e0 e1 e2 e3
  unfold wpX_rowsAreEqual
  try dsimp only
  refine nm_r (qp_ix0 n r) (nm_r (qp_ix0 s q) ⟨vp_in_nI hn (by omega), nm_r (qp_rd hn eW) ⟨w + 1, ?_⟩⟩)
  refine qp_loop0 (fun k i => wX_rowsAreEqual_34 post (nI (n * 144 + r * 6)) (nI (s * 144 + q * 6)) (nI w) tc nc rh rc tw th tb nk nl nr nw us ca cb cc nn bo lh lc rs k (nI i)) (fun i => ∀ c, c < i → qp_g R r c = qp_g S q c) w ?_ ?_ (w + 1) 0 (by omega) (by omega) (fun c h => absurd h (Nat.not_lt_zero c))
  · intro k I
    exact br_t (nI_le (Nat.le_refl _) (by omega)) (ht I)
  · intro k i hi I ih
    refine br_f (nI_ge hi (by omega)) ?_
    try dsimp only
    rw [nI_add, nI_add, nI_clamp (by omega), nI_clamp (by omega), hR r i hr hi, hS q i hq hi]
    refine ⟨vp_in_nI (by omega) (by omega), vp_in_nI (by omega) (by omega), br_c (fun h => ?_) (fun h => ?_)⟩
    · refine nm_r (nI_1 i) (ih (fun c hc => ?_))
      by_cases z : c = i
      · subst z; exact h
      · exact I c (by omega)
    · exact hf (fun z => h (z i hi))
theorem x_isKept {post : Int32 → Prop} {p0 p1 p2 : Int32} {n s q w : Nat} {R S : List qp_Row} (e0 : p0 = nI n) (e1 : p1 = nI s) (e2 : p2 = nI q) (hn : n < 12) (hs : s < 12) (eW : nw n = nI w) (hw : w ≤ 6) (hR : qp_Rep lc n w R) (eR : lh n = nI R.length) (hR24 : R.length ≤ 24) (hS : qp_Rep lc s w S) (hq : q < S.length) (hS24 : S.length ≤ 24) (ht : (∃ r, r < R.length ∧ qp_eqv w (qp_g R r) (qp_g S q)) → post 1) (hf : ¬ (∃ r, r < R.length ∧ qp_eqv w (qp_g R r) (qp_g S q)) → post 0) : wpX_isKept post (tc, nc, rh, rc, tw, th, tb, nk, nl, nr, nw, us, ca, cb, cc, nn, bo, lh, lc, rs) p0 p1 p2 := by
  subst e0 e1 e2
  unfold wpX_isKept
  try dsimp only
  refine ⟨vp_in_nI hn (by omega), nm_r (qp_rd hn eR) ⟨R.length + 1, ?_⟩⟩
  refine qp_loop0 (fun k i => wX_isKept_11 post (nI n) (nI s) (nI q) (nI R.length) tc nc rh rc tw th tb nk nl nr nw us ca cb cc nn bo lh lc rs k (nI i)) (fun i => ∀ r, r < i → ¬ qp_eqv w (qp_g R r) (qp_g S q)) R.length ?_ ?_ (R.length + 1) 0 (by omega) (by omega) (fun c h => absurd h (Nat.not_lt_zero c))
  · intro k I
    exact br_t (nI_le (Nat.le_refl _) (by omega)) (hf (fun ⟨r, hr, e⟩ => I r hr e))
  · intro k i hi I ih
    refine br_f (nI_ge hi (by omega)) ?_
    refine x_rowsEq rfl rfl rfl rfl hn hs eW hw hR hi hR24 hS hq hS24 (fun h => ?_) (fun h => ?_)
    · exact br_f (by decide) (ht ⟨i, hi, h⟩)
    · refine br_t rfl (nm_r (nI_1 i) (ih (fun r hr => ?_)))
      by_cases z : r = i
      · subst z; exact h
      · exact I r (by omega)
theorem x_distinct {post : SX → Prop} {n l w : Nat} {S : List qp_Row} (hn : n < 12) (hl : l < n) (eL : nl n = nI l) (eW : nw l = nI w) (eWn : nw n = nI w) (hw : w ≤ 6) (hS : qp_Rep lc l w S) (eH : lh l = nI S.length) (h24 : S.length ≤ 24) (e0 : lh n = 0) (H : ∀ lh' lc', qp_Out n w (qp_di S w S.length) lh lc lh' lc' → post (tc, nc, rh, rc, tw, th, tb, nk, nl, nr, nw, us, ca, cb, cc, nn, bo, lh', lc', rs)) : wpX_workOutDistinct post (tc, nc, rh, rc, tw, th, tb, nk, nl, nr, nw, us, ca, cb, cc, nn, bo, lh, lc, rs) (nI n) := by
  unfold wpX_workOutDistinct
  try dsimp only
  refine ⟨vp_in_nI hn (by omega), nm_r (qp_rd hn eL) ⟨vp_in_nI (by omega) (by omega), nm_r (qp_rd (by omega) eH) ⟨S.length + 1, ?_⟩⟩⟩
  refine qp_loop (fun k i h a' => wX_workOutDistinct_17 post (nI n) (nI l) (nI S.length) k (nI i) tc nc rh rc tw th tb nk nl nr nw us ca cb cc nn bo h a' rs) (fun i h a' => qp_Out n w (qp_di S w i) lh lc h a') S.length ?_ ?_ (S.length + 1) 0 lh lc (by omega) (by omega) (qp_Out_0 e0)
  · intro k h a' O
    exact br_t (nI_le (Nat.le_refl _) (by omega)) (H h a' O)
  · intro k i h a' hi O ih
    have hS' := qp_Out_rd O hS h24 hw (by omega)
    have hlen := qp_di_len S w i
    have hk := qp_di_kept S w (qp_g S i) i
    refine br_f (nI_ge hi (by omega)) ?_
    refine x_isKept rfl rfl rfl hn (by omega) eWn hw O.2.2.2 (qp_Out_h O) (by omega) hS' hi h24 (fun hp => ?_) (fun hp => ?_)
    · refine br_f (by decide) (nm_r (nI_1 i) (ih h a' ?_))
      obtain ⟨j, hj, e⟩ := hk.mp hp
      show qp_Out n w (qp_if (∃ j, j < i ∧ qp_eqv w (qp_g S i) (qp_g S j)) _ _) lh lc h a'
      rw [qp_if_t ⟨j, hj, fun c hc => (e c hc).symm⟩]; exact O
    · refine br_t rfl ?_
      refine x_appendRow rfl rfl rfl hn (by omega) (by omega) eW hw O (by omega) hS' hi h24 ?_
      intro lh' lc' O'
      refine nm_r (nI_1 i) (ih lh' lc' ?_)
      show qp_Out n w (qp_if (∃ j, j < i ∧ qp_eqv w (qp_g S i) (qp_g S j)) _ _) lh lc lh' lc'
      rw [qp_if_f (fun ⟨j, hj, e⟩ => hp (hk.mpr ⟨j, hj, fun c hc => (e c hc).symm⟩))]; exact O'
theorem x_rankOf {post : Int32 → Prop} {p0 p1 : Int32} {n l q a w : Nat} {S : List qp_Row} (e0 : p0 = nI n) (e1 : p1 = nI q) (hn : n < 12) (hl : l < n) (eL : nl n = nI l) (hw : w ≤ 6) (eA : ca n = nI a) (ha : a < w) (hc : cc n = 4 ∨ cc n = 2) (hS : qp_Rep lc l w S) (eH : lh l = nI S.length) (h24 : S.length ≤ 24) (hq : q < S.length) (H : post (nI (qp_rk (cc n = 4) (fun t => qp_g S t a) S.length q))) : wpX_rankOf post (tc, nc, rh, rc, tw, th, tb, nk, nl, nr, nw, us, ca, cb, cc, nn, bo, lh, lc, rs) p0 p1 := by
  subst e0 e1
  unfold wpX_rankOf
  try dsimp only
  refine ⟨vp_in_nI hn (by omega), nm_r (qp_rd hn eL) ⟨vp_in_nI (by omega) (by omega), nm_r (qp_rd (by omega) eH) ⟨vp_in_nI hn (by omega), ?_⟩⟩⟩
  refine x_listCell rfl rfl (qp_rd hn eA) (hS q a hq ha) (by omega) ?_
  refine ⟨S.length + 1, ?_⟩
  have hcnt : ∀ i, qp_cnt (qp_bf (cc n = 4) (fun t => qp_g S t a) q) i ≤ i := qp_cnt_le _
  refine qp_loop1 (fun k i x => wX_rankOf_35 post (nI n) (nI q) (nI l) (nI S.length) (qp_g S q a) tc nc rh rc tw th tb nk nl nr nw us ca cb cc nn bo lh lc rs k x (nI i)) (fun i x => x = nI (qp_cnt (qp_bf (cc n = 4) (fun t => qp_g S t a) q) i)) S.length ?_ ?_ (S.length + 1) 0 0 (by omega) (by omega) rfl
  · intro k x I
    refine br_t (nI_le (Nat.le_refl _) (by omega)) ?_
    rw [I]; exact H
  · intro k i x hi I ih
    refine br_f (nI_ge hi (by omega)) ⟨vp_in_nI hn (by omega), ?_⟩
    refine x_listCell rfl rfl (qp_rd hn eA) (hS i a hi ha) (by omega) ?_
    have hb := qp_bf_x (c := cc n) (v := fun t => qp_g S t a) (i := q) (j := i) hc
    have yes : qp_bf (cc n = 4) (fun t => qp_g S t a) q i → x + 1 = nI (qp_cnt (qp_bf (cc n = 4) (fun t => qp_g S t a) q) (i + 1)) := by
      intro hy
      show x + 1 = nI (qp_if _ _ _)
      rw [qp_if_t hy, I, nI_1]
    have no : ¬ qp_bf (cc n = 4) (fun t => qp_g S t a) q i → x = nI (qp_cnt (qp_bf (cc n = 4) (fun t => qp_g S t a) q) (i + 1)) := by
      intro hy
      show x = nI (qp_if _ _ _)
      rw [qp_if_f hy, I]
    refine br_c (fun h => ?_) (fun h => ?_)
    · refine pk_le q i (fun z => ?_) (fun z => ?_)
      · refine nm_r (nI_1 i) (ih x (no (fun y => ?_)))
        rcases hb.mp y with ⟨_, y⟩ | ⟨y, _⟩
        · omega
        · exact y h
      · exact nm_e (nm_r (nI_1 i) (ih _ (yes (hb.mpr (Or.inl ⟨h, z⟩)))))
    · refine ⟨vp_in_nI hn (by omega), ?_⟩
      refine x_fulfils rfl (qp_rd hn rfl) rfl (fun hp => ?_) (fun hp => ?_)
      · exact br_f (by decide) (nm_e (nm_r (nI_1 i) (ih _ (yes (hb.mpr (Or.inr ⟨h, hp⟩))))))
      · refine br_t rfl (nm_r (nI_1 i) (ih x (no (fun y => ?_))))
        rcases hb.mp y with ⟨y, _⟩ | ⟨_, y⟩
        · exact h y
        · exact hp y
theorem x_sort {post : SX → Prop} {n l a w : Nat} {S : List qp_Row} (hn : n < 12) (hl : l < n) (eL : nl n = nI l) (eW : nw l = nI w) (hw : w ≤ 6) (eA : ca n = nI a) (ha : a < w) (hc : cc n = 4 ∨ cc n = 2) (hS : qp_Rep lc l w S) (eH : lh l = nI S.length) (h24 : S.length ≤ 24) (H : ∀ lc', qp_Out n w (qp_tab S.length (qp_so S (cc n = 4) a)) lh lc (upd lh n (nI S.length)) lc' → post (tc, nc, rh, rc, tw, th, tb, nk, nl, nr, nw, us, ca, cb, cc, nn, bo, upd lh n (nI S.length), lc', rs)) : wpX_workOutSort post (tc, nc, rh, rc, tw, th, tb, nk, nl, nr, nw, us, ca, cb, cc, nn, bo, lh, lc, rs) (nI n) := by
  unfold wpX_workOutSort
  try dsimp only
  refine ⟨vp_in_nI hn (by omega), nm_r (qp_rd hn eL) ⟨vp_in_nI (by omega) (by omega), nm_r (qp_rd (by omega) eH) ⟨S.length + 1, ?_⟩⟩⟩
  refine qp_loop1 (fun k i a' => wX_workOutSort_17 post (nI n) (nI l) (nI S.length) k (nI i) tc nc rh rc tw th tb nk nl nr nw us ca cb cc nn bo lh a' rs) (fun i a' => qp_Pk n w S (cc n = 4) a i lc a') S.length ?_ ?_ (S.length + 1) 0 lc (by omega) (by omega) (qp_Pk_0 _ _ _ _ _ _)
  · intro k a' P
    refine br_t (nI_le (Nat.le_refl _) (by omega)) ⟨vp_in_nI hn (by omega), ?_⟩
    rw [nI_clamp (by omega)]
    exact nm_e (H a' ⟨P.1, fun j hj => pk_un hj, by rw [pk_us, qp_tab_len], qp_Pk_e P⟩)
  · intro k i a' hi P ih
    have hS' := qp_Rep_fr hS h24 hw (by omega) P.1
    have hrk := qp_rk_lt (cc n = 4) (fun t => qp_g S t a) hi
    refine br_f (nI_ge hi (by omega)) ?_
    refine x_rankOf rfl rfl hn hl eL hw eA ha hc hS' eH h24 hi ?_
    refine x_copyRow rfl rfl rfl rfl (e4 := nI_0.symm) eW (by omega) hw (by omega) (by omega) (by omega) ?_
    intro lc' hcp
    exact nm_r (nI_1 i) (ih lc' (qp_Pk_s P hi h24 hw hS' hcp))
theorem x_groupOf {post : Int32 → Prop} {p0 key : Int32} {n w : Nat} {R : List qp_Row} (e0 : p0 = nI n) (hn : n < 12) (hw : 1 ≤ w) (hw6 : w ≤ 6) (hR : qp_Rep lc n w R) (eR : lh n = nI R.length) (hR24 : R.length ≤ 24) (ht : ∀ g, g < R.length → qp_g R g 0 = key → post (nI g)) (hf : (∀ g, g < R.length → qp_g R g 0 ≠ key) → post (nI R.length)) : wpX_groupOf post (tc, nc, rh, rc, tw, th, tb, nk, nl, nr, nw, us, ca, cb, cc, nn, bo, lh, lc, rs) p0 key := by
  subst e0
  unfold wpX_groupOf
  try dsimp only
  refine ⟨vp_in_nI hn (by omega), nm_r (qp_rd hn eR) ⟨R.length + 1, ?_⟩⟩
  refine qp_loop0 (fun k i => wX_groupOf_10 post (nI n) key (nI R.length) tc nc rh rc tw th tb nk nl nr nw us ca cb cc nn bo lh lc rs k (nI i)) (fun i => ∀ g, g < i → qp_g R g 0 ≠ key) R.length ?_ ?_ (R.length + 1) 0 (by omega) (by omega) (fun c h => absurd h (Nat.not_lt_zero c))
  · intro k I
    exact br_t (nI_le (Nat.le_refl _) (by omega)) (hf I)
  · intro k i hi I ih
    refine br_f (nI_ge hi (by omega)) ?_
    refine x_listCell (c := 0) rfl rfl nI_0.symm (hR i 0 hi (by omega)) (by omega) ?_
    refine br_c (fun h => ht i hi h) (fun h => nm_r (nI_1 i) (ih (fun g hg => ?_)))
    by_cases z : g = i
    · subst z; exact h
    · exact I g (by omega)
theorem x_group {post : SX → Prop} {n l a b wl : Nat} {S : List qp_Row} (hn : n < 12) (hl : l < n) (eL : nl n = nI l) (hwl : wl ≤ 6) (eA : ca n = nI a) (ha : a < wl) (eB : cb n = nI b) (hb : b < wl) (ho : cc n = 0 ∨ cc n = 1 ∨ cc n = 2 ∨ cc n = 3) (hS : qp_Rep lc l wl S) (eH : lh l = nI S.length) (h24 : S.length ≤ 24) (e0 : lh n = 0) (H : ∀ lh' lc', qp_Out n 2 (qp_gp S (cc n) a b S.length S.length) lh lc lh' lc' → post (tc, nc, rh, rc, tw, th, tb, nk, nl, nr, nw, us, ca, cb, cc, nn, bo, lh', lc', rs)) : wpX_workOutGroup post (tc, nc, rh, rc, tw, th, tb, nk, nl, nr, nw, us, ca, cb, cc, nn, bo, lh, lc, rs) (nI n) := by
  unfold wpX_workOutGroup
  try dsimp only
  refine ⟨vp_in_nI hn (by omega), nm_r (qp_rd hn eL) ⟨vp_in_nI (by omega) (by omega), nm_r (qp_rd (by omega) eH) ⟨vp_in_nI hn (by omega), nm_r (qp_rd hn rfl) ⟨S.length + 1, ?_⟩⟩⟩⟩
  refine qp_loop (fun k i h a' => wX_workOutGroup_25 post (nI n) (nI l) (nI S.length) (cc n) k (nI i) tc nc rh rc tw th tb nk nl nr nw us ca cb cc nn bo h a' rs) (fun i h a' => qp_Out n 2 (qp_gp S (cc n) a b i i) lh lc h a') S.length ?_ ?_ (S.length + 1) 0 lh lc (by omega) (by omega) (qp_Out_0 e0)
  · intro k h a' O
    exact br_t (nI_le (Nat.le_refl _) (by omega)) (H h a' O)
  · intro k i h a' hi O ih
    have hS' := qp_Out_rd O hS h24 hwl (by omega)
    have hlen := qp_gp_len S (cc n) a b i i
    have core : ∀ v, v = (if cc n = 0 then 1 else qp_g S i b) → wX_workOutGroup_68 post (wX_workOutGroup_25 post (nI n) (nI l) (nI S.length) (cc n) k) (nI n) (nI l) (nI S.length) (cc n) (nI i) (qp_g S i a) v tc nc rh rc tw th tb nk nl nr nw us ca cb cc nn bo h a' rs := by
      intro v ev
      unfold wX_workOutGroup_68
      have hh : h (nI n).toNatClampNeg = nI (qp_gp S (cc n) a b i i).length := qp_rd hn (qp_Out_h O)
      refine x_groupOf rfl hn (w := 2) (by omega) (by omega) O.2.2.2 (qp_Out_h O) (by omega) (fun g hg hk => ?_) (fun hk => ?_)
      · refine ⟨vp_in_nI hn (by omega), ?_⟩
        rw [hh]
        refine br_f (nI_ge hg (by omega)) ?_
        refine x_listCell (c := 1) rfl rfl rfl (O.2.2.2 g 1 hg (by omega)) (by omega) ?_
        refine x_aggregated rfl rfl ev ?_
        rw [qp_cx_cb ho]
        unfold wX_workOutGroup_125
        refine x_putCell (c := 0) rfl rfl nI_0.symm (by omega) ?_
        try dsimp only
        refine x_putCell (c := 1) rfl rfl rfl (by omega) ?_
        exact nm_r (nI_1 i) (ih _ _ (qp_Out_go O (by omega) hg hk))
      · refine ⟨vp_in_nI hn (by omega), ?_⟩
        rw [hh]
        refine br_t (nI_le (Nat.le_refl _) (by omega)) ⟨vp_in_nI hn (by omega), ?_⟩
        rw [nI_1, nI_clamp (by omega)]
        refine nm_e ?_
        unfold wX_workOutGroup_125
        refine x_putCell (c := 0) rfl rfl nI_0.symm (by omega) ?_
        try dsimp only
        refine x_putCell (c := 1) rfl rfl rfl (by omega) ?_
        rw [ev]
        exact nm_r (nI_1 i) (ih _ _ (qp_Out_gn ho O (by omega) hk))
    refine br_f (nI_ge hi (by omega)) ⟨vp_in_nI hn (by omega), ?_⟩
    refine x_listCell rfl rfl (qp_rd hn eA) (hS' i a hi ha) (by omega) ?_
    refine br_c (fun hz => ?_) (fun hz => ?_)
    · exact core 1 (by rw [if_pos hz])
    · refine ⟨vp_in_nI hn (by omega), ?_⟩
      refine x_listCell rfl rfl (qp_rd hn eB) (hS' i b hi hb) (by omega) ?_
      exact core _ (by rw [if_neg hz])
end qp_X3
end
section
/-! the component: join -/
section qp_X4
variable {tc nc rh rc : Int32} {tw th tb nk nl nr nw us ca cb cc nn bo lh lc rs : Nat → Int32}
theorem x_hasMatch {post : Int32 → Prop} {p0 p1 : Int32} {n l r i a b wl wr : Nat} {S Q : List qp_Row} (e0 : p0 = nI n) (e1 : p1 = nI i) (hn : n < 12) (hl : l < n) (hr : r < n) (eL : nl n = nI l) (eR : nr n = nI r) (hwl : wl ≤ 6) (hwr : wr ≤ 6) (eA : ca n = nI a) (ha : a < wl) (eB : cb n = nI b) (hb : b < wr) (hS : qp_Rep lc l wl S) (hi : i < S.length) (hS24 : S.length ≤ 24) (hQ : qp_Rep lc r wr Q) (eQ : lh r = nI Q.length) (hQ24 : Q.length ≤ 24) (ht : qp_hit Q (qp_g S i) a b Q.length → post 1) (hf : ¬ qp_hit Q (qp_g S i) a b Q.length → post 0) : wpX_hasMatch post (tc, nc, rh, rc, tw, th, tb, nk, nl, nr, nw, us, ca, cb, cc, nn, bo, lh, lc, rs) p0 p1 := by
  subst e0 e1
  unfold wpX_hasMatch
  try dsimp only
  refine ⟨vp_in_nI hn (by omega), nm_r (qp_rd hn eR) ⟨vp_in_nI (by omega) (by omega), nm_r (qp_rd (by omega) eQ) ⟨vp_in_nI hn (by omega), vp_in_nI hn (by omega), ?_⟩⟩⟩
  refine x_listCell (qp_rd hn eL) rfl (qp_rd hn eA) (hS i a hi ha) (by omega) ?_
  refine ⟨Q.length + 1, ?_⟩
  refine qp_loop0 (fun k j => wX_hasMatch_37 post (nI n) (nI r) (nI Q.length) (qp_g S i a) tc nc rh rc tw th tb nk nl nr nw us ca cb cc nn bo lh lc rs k (nI j)) (fun j => ¬ qp_hit Q (qp_g S i) a b j) Q.length ?_ ?_ (Q.length + 1) 0 (by omega) (by omega) (fun ⟨t, h, _⟩ => absurd h (Nat.not_lt_zero t))
  · intro k I
    exact br_t (nI_le (Nat.le_refl _) (by omega)) (hf I)
  · intro k j hj I ih
    refine br_f (nI_ge hj (by omega)) ⟨vp_in_nI hn (by omega), ?_⟩
    refine x_listCell rfl rfl (qp_rd hn eB) (hQ j b hj hb) (by omega) ?_
    refine br_c (fun h => ht ⟨j, hj, h.symm⟩) (fun h => nm_r (nI_1 j) (ih (fun ⟨t, h1, h2⟩ => ?_)))
    by_cases z : t = j
    · subst z; exact h h2.symm
    · exact I ⟨t, by omega, h2⟩
theorem x_pairs {post : SX → Prop} {p0 p1 : Int32} {n l r i a b w wl wr : Nat} {R S Q : List qp_Row} {h0 a0 : Nat → Int32} (e0 : p0 = nI n) (e1 : p1 = nI i) (hn : n < 12) (hl : l < n) (hr : r < n) (eL : nl n = nI l) (eR : nr n = nI r) (eWl : nw l = nI wl) (eWr : nw r = nI wr) (ew : w = wl + wr) (hw : w ≤ 6) (eA : ca n = nI a) (ha : a < wl) (eB : cb n = nI b) (hb : b < wr) (hS : qp_Rep a0 l wl S) (hi : i < S.length) (hS24 : S.length ≤ 24) (hQ : qp_Rep a0 r wr Q) (eQ : h0 r = nI Q.length) (hQ24 : Q.length ≤ 24) (O : qp_Out n w R h0 a0 lh lc) (hR : R.length + Q.length ≤ 24) (H : ∀ lh' lc', qp_Out n w (qp_ji Q (qp_g S i) a b wl R Q.length) h0 a0 lh' lc' → post (tc, nc, rh, rc, tw, th, tb, nk, nl, nr, nw, us, ca, cb, cc, nn, bo, lh', lc', rs)) : wpX_appendPairs post (tc, nc, rh, rc, tw, th, tb, nk, nl, nr, nw, us, ca, cb, cc, nn, bo, lh, lc, rs) p0 p1 := by
  subst e0 e1
  unfold wpX_appendPairs
  try dsimp only
  have eQ' : lh r = nI Q.length := (O.2.1 r (by omega)).trans eQ
  refine ⟨vp_in_nI hn (by omega), nm_r (qp_rd hn eL) ⟨vp_in_nI hn (by omega), nm_r (qp_rd hn eR) ⟨vp_in_nI (by omega) (by omega), nm_r (qp_rd (by omega) eQ') ⟨vp_in_nI hn (by omega), ?_⟩⟩⟩⟩
  refine x_listCell rfl rfl (qp_rd hn eA) (qp_Out_rd O hS hS24 (by omega) (by omega) i a hi ha) (by omega) ?_
  refine ⟨Q.length + 1, ?_⟩
  refine qp_loop (fun k j h a' => wX_appendPairs_41 post (nI n) (nI i) (nI l) (nI r) (nI Q.length) (qp_g S i a) k (nI j) tc nc rh rc tw th tb nk nl nr nw us ca cb cc nn bo h a' rs) (fun j h a' => qp_Out n w (qp_ji Q (qp_g S i) a b wl R j) h0 a0 h a') Q.length ?_ ?_ (Q.length + 1) 0 lh lc (by omega) (by omega) O
  · intro k h a' O
    exact br_t (nI_le (Nat.le_refl _) (by omega)) (H h a' O)
  · intro k j h a' hj O ih
    have hS' := qp_Out_rd O hS hS24 (by omega) (by omega)
    have hQ' := qp_Out_rd O hQ hQ24 (by omega) (by omega)
    have hlen := qp_ji_len Q (qp_g S i) a b wl R j
    refine br_f (nI_ge hj (by omega)) ⟨vp_in_nI hn (by omega), ?_⟩
    refine x_listCell rfl rfl (qp_rd hn eB) (hQ' j b hj hb) (by omega) ?_
    refine br_c (fun hp => ?_) (fun hp => ?_)
    · refine ⟨vp_in_nI hn (by omega), ?_⟩
      refine x_copyRow rfl rfl rfl (qp_rd hn (qp_Out_h O)) (e4 := nI_0.symm) eWl (by omega) (by omega) (by omega) (by omega) (by omega) ?_
      intro lc1 hc1
      try dsimp only
      refine ⟨vp_in_nI hn (by omega), vp_in_nI (by omega) (by omega), ?_⟩
      refine x_copyRow rfl rfl rfl (qp_rd hn (qp_Out_h O)) (qp_rd (by omega) eWl) eWr (by omega) (by omega) (by omega) (by omega) (by omega) ?_
      intro lc2 hc2
      try dsimp only
      rw [nI_clamp (by omega), qp_Out_h O, nI_1]
      refine ⟨vp_in_nI hn (by omega), vp_in_nI hn (by omega), nm_e (nm_r (nI_1 j) (ih _ _ ?_))⟩
      show qp_Out n w (qp_if (qp_g S i a = qp_g Q j b) _ _) h0 a0 _ _
      rw [qp_if_t hp.symm]
      exact qp_Out_pr O (by omega) hw ew hS' hi hQ' hj hQ24 (by omega) hc1 hc2
    · refine nm_r (nI_1 j) (ih h a' ?_)
      show qp_Out n w (qp_if (qp_g S i a = qp_g Q j b) _ _) h0 a0 h a'
      rw [qp_if_f (fun z => hp z.symm)]; exact O
theorem x_zeros {post : SX → Prop} {p0 p1 : Int32} {n l i w wl wr : Nat} {R S : List qp_Row} {h0 a0 : Nat → Int32} (e0 : p0 = nI n) (e1 : p1 = nI i) (hn : n < 12) (hl : l < n) (eL : nl n = nI l) (eWl : nw l = nI wl) (eWn : nw n = nI w) (ew : w = wl + wr) (hw : w ≤ 6) (hS : qp_Rep a0 l wl S) (hi : i < S.length) (hS24 : S.length ≤ 24) (O : qp_Out n w R h0 a0 lh lc) (hR : R.length < 24) (H : ∀ lh' lc', qp_Out n w (R ++ [qp_pair (qp_g S i) (fun _ => 0) wl]) h0 a0 lh' lc' → post (tc, nc, rh, rc, tw, th, tb, nk, nl, nr, nw, us, ca, cb, cc, nn, bo, lh', lc', rs)) : wpX_appendWithZeros post (tc, nc, rh, rc, tw, th, tb, nk, nl, nr, nw, us, ca, cb, cc, nn, bo, lh, lc, rs) p0 p1 := by
  subst e0 e1
  unfold wpX_appendWithZeros
  try dsimp only
  have hS' := qp_Out_rd O hS hS24 (by omega) (by omega)
  refine ⟨vp_in_nI hn (by omega), nm_r (qp_rd hn eL) ⟨vp_in_nI hn (by omega), nm_r (qp_rd hn eWn) ⟨vp_in_nI (by omega) (by omega), nm_r (qp_rd (by omega) eWl) ⟨w + 1, ?_⟩⟩⟩⟩
  refine qp_loop1 (fun k j a' => wX_appendWithZeros_23 post (nI n) (nI i) (nI l) (nI w) k (nI j) tc nc rh rc tw th tb nk nl nr nw us ca cb cc nn bo lh a' rs) (fun j a' => wl ≤ j ∧ (∀ c, wl ≤ c → c < j → a' (n * 144 + R.length * 6 + c) = 0) ∧ ∀ p, (p < n * 144 + R.length * 6 + wl ∨ n * 144 + R.length * 6 + j ≤ p) → a' p = lc p) w ?_ ?_ (w + 1) wl lc (by omega) (by omega) ⟨by omega, fun c h1 h2 => by omega, fun _ _ => rfl⟩
  · intro k a' I
    obtain ⟨i1, i2, i3⟩ := I
    refine br_t (nI_le (Nat.le_refl _) (by omega)) ⟨vp_in_nI hn (by omega), ?_⟩
    refine x_copyRow rfl rfl rfl (qp_rd hn (qp_Out_h O)) (e4 := nI_0.symm) eWl (by omega) (by omega) (by omega) (by omega) (by omega) ?_
    intro lc1 hc1
    try dsimp only
    rw [nI_clamp (by omega), qp_Out_h O, nI_1]
    refine ⟨vp_in_nI hn (by omega), vp_in_nI hn (by omega), nm_e (H _ _ ?_)⟩
    refine qp_Out_zr O hR hw ew hS' hi (fun c hc => ?_) (fun c h1 h2 => ?_) (fun p hp => ?_)
    · exact (hc1.1 c hc).trans (i3 _ (by omega))
    · rw [hc1.2 _ (by omega)]; exact i2 c h1 h2
    · rw [hc1.2 _ (by omega)]; exact i3 p (by omega)
  · intro k j a' hj I ih
    obtain ⟨i1, i2, i3⟩ := I
    refine br_f (nI_ge hj (by omega)) ⟨vp_in_nI hn (by omega), ?_⟩
    refine x_putCell rfl (qp_rd hn (qp_Out_h O)) rfl (by omega) ?_
    refine nm_r (nI_1 j) (ih _ ⟨by omega, fun c h1 h2 => ?_, fun p hp => ?_⟩)
    · by_cases z : c = j
      · subst z; rw [pk_us]
      · rw [pk_un (by omega)]; exact i2 c h1 (by omega)
    · rw [pk_un (by omega)]; exact i3 p (by omega)
theorem x_join {post : SX → Prop} {n l r a b w wl wr m : Nat} {kd : Int32} {S Q : List qp_Row} (hn : n < 12) (hl : l < n) (hr : r < n) (eL : nl n = nI l) (eR : nr n = nI r) (eWl : nw l = nI wl) (eWr : nw r = nI wr) (eWn : nw n = nI w) (hwl : wl ≤ 6) (hwr : wr ≤ 6) (hw : w ≤ 6) (eA : ca n = nI a) (ha : a < wl) (eB : cb n = nI b) (hb : b < wr) (eC : cc n = kd) (hk : ((kd = 0 ∨ kd = 3) ∧ w = wl + wr) ∨ ((kd = 1 ∨ kd = 2) ∧ w = wl)) (hS : qp_Rep lc l wl S) (eS : lh l = nI S.length) (hS24 : S.length ≤ 24) (hQ : qp_Rep lc r wr Q) (eQ : lh r = nI Q.length) (hQ24 : Q.length ≤ 24) (e0 : lh n = 0) (m1 : kd = 0 ∨ kd = 3 → Q.length ≤ m) (m2 : kd ≠ 0 → 1 ≤ m) (hm : S.length * m ≤ 24) (H : ∀ lh' lc', qp_Out n w (qp_jo S Q a b wl kd S.length) lh lc lh' lc' → post (tc, nc, rh, rc, tw, th, tb, nk, nl, nr, nw, us, ca, cb, cc, nn, bo, lh', lc', rs)) : wpX_workOutJoin post (tc, nc, rh, rc, tw, th, tb, nk, nl, nr, nw, us, ca, cb, cc, nn, bo, lh, lc, rs) (nI n) := by
  have hkd : kd = 0 ∨ kd = 1 ∨ kd = 2 ∨ kd = 3 := by
    rcases hk with ⟨h | h, _⟩ | ⟨h | h, _⟩
    · exact Or.inl h
    · exact Or.inr (Or.inr (Or.inr h))
    · exact Or.inr (Or.inl h)
    · exact Or.inr (Or.inr (Or.inl h))
  unfold wpX_workOutJoin
  try dsimp only
  refine ⟨vp_in_nI hn (by omega), nm_r (qp_rd hn eL) ⟨vp_in_nI (by omega) (by omega), nm_r (qp_rd (by omega) eS) ⟨vp_in_nI hn (by omega), nm_r (qp_rd hn eC) ⟨S.length + 1, ?_⟩⟩⟩⟩
  refine qp_loop (fun k i h a' => wX_workOutJoin_25 post (nI n) (nI l) (nI S.length) kd k (nI i) tc nc rh rc tw th tb nk nl nr nw us ca cb cc nn bo h a' rs) (fun i h a' => qp_Out n w (qp_jo S Q a b wl kd i) lh lc h a') S.length ?_ ?_ (S.length + 1) 0 lh lc (by omega) (by omega) (qp_Out_0 e0)
  · intro k h a' O
    exact br_t (nI_le (Nat.le_refl _) (by omega)) (H h a' O)
  · intro k i h a' hi O ih
    have hS' := qp_Out_rd O hS hS24 hwl (by omega)
    have hQ' := qp_Out_rd O hQ hQ24 hwr (by omega)
    have eQ' : h r = nI Q.length := (O.2.1 r (by omega)).trans eQ
    have hlen := qp_jo_len (S := S) (Q := Q) (a := a) (b := b) (wl := wl) m1 m2 hkd i
    have hmm := Nat.mul_le_mul_right m (show i + 1 ≤ S.length from hi)
    rw [Nat.succ_mul] at hmm
    have es : qp_jo S Q a b wl kd (i + 1) = qp_jb Q (qp_g S i) a b wl kd (qp_jo S Q a b wl kd i) := rfl
    refine br_f (nI_ge hi (by omega)) ?_
    refine x_hasMatch rfl rfl hn hl hr eL eR hwl hwr eA ha eB hb hS' hi hS24 hQ' eQ' hQ24 (fun hp => ?_) (fun hp => ?_)
    · refine br_f (by decide) ?_
      rcases hk with ⟨h3 | h3, ew⟩ | ⟨h3 | h3, ew⟩
      · subst h3
        have := m1 (Or.inl rfl)
        refine br_t rfl ?_
        unfold wX_workOutJoin_56
        refine x_pairs rfl rfl hn hl hr eL eR eWl eWr ew hw eA ha eB hb hS hi hS24 hQ eQ hQ24 O (by omega) ?_
        intro lh' lc' O'
        refine nm_r (nI_1 i) (ih lh' lc' ?_)
        rw [es]; exact O'
      · subst h3
        have := m1 (Or.inr rfl)
        refine br_f (by decide) (br_t rfl ?_)
        unfold wX_workOutJoin_56
        refine x_pairs rfl rfl hn hl hr eL eR eWl eWr ew hw eA ha eB hb hS hi hS24 hQ eQ hQ24 O (by omega) ?_
        intro lh' lc' O'
        refine nm_r (nI_1 i) (ih lh' lc' ?_)
        rw [es]
        show qp_Out n w (qp_if (qp_hit Q (qp_g S i) a b Q.length) _ _) lh lc lh' lc'
        rw [qp_if_t hp]; exact O'
      · subst h3
        subst ew
        have := m2 (by decide)
        refine br_f (by decide) (br_f (by decide) ?_)
        unfold wX_workOutJoin_66 wX_workOutJoin_87 wX_workOutJoin_107
        refine br_f (by decide) (br_f (by decide) (br_t rfl ?_))
        refine x_appendRow rfl rfl rfl hn (by omega) (by omega) eWl hwl O (by omega) hS' hi hS24 ?_
        intro lh' lc' O'
        refine nm_r (nI_1 i) (ih lh' lc' ?_)
        rw [es]
        show qp_Out n w (qp_if (qp_hit Q (qp_g S i) a b Q.length) _ _) lh lc lh' lc'
        rw [qp_if_t hp]; exact O'
      · subst h3
        refine br_f (by decide) (br_f (by decide) ?_)
        unfold wX_workOutJoin_66 wX_workOutJoin_87
        refine br_f (by decide) (br_f (by decide) (br_f (by decide) ?_))
        refine nm_r (nI_1 i) (ih h a' ?_)
        rw [es]
        show qp_Out n w (qp_if (qp_hit Q (qp_g S i) a b Q.length) _ _) lh lc h a'
        rw [qp_if_t hp]; exact O
    · refine br_t rfl ?_
      unfold wX_workOutJoin_66 wX_workOutJoin_87 wX_workOutJoin_107
      refine br_t rfl ?_
      rcases hk with ⟨h3 | h3, ew⟩ | ⟨h3 | h3, ew⟩
      · subst h3
        refine br_f (by decide) (br_t rfl (br_f (by decide) ?_))
        refine nm_r (nI_1 i) (ih h a' ?_)
        rw [es]
        show qp_Out n w (qp_ji Q (qp_g S i) a b wl _ Q.length) lh lc h a'
        rw [qp_ji_no hp]; exact O
      · subst h3
        have := m2 (by decide)
        refine br_t rfl ?_
        refine x_zeros rfl rfl hn hl eL eWl eWn ew hw hS hi hS24 O (by omega) ?_
        intro lh' lc' O'
        refine nm_r (nI_1 i) (ih lh' lc' ?_)
        rw [es]
        show qp_Out n w (qp_if (qp_hit Q (qp_g S i) a b Q.length) _ _) lh lc lh' lc'
        rw [qp_if_f hp]; exact O'
      · subst h3
        refine br_f (by decide) (br_t rfl (br_f (by decide) ?_))
        refine nm_r (nI_1 i) (ih h a' ?_)
        rw [es]
        show qp_Out n w (qp_if (qp_hit Q (qp_g S i) a b Q.length) _ _) lh lc h a'
        rw [qp_if_f hp]; exact O
      · subst h3
        subst ew
        have := m2 (by decide)
        refine br_f (by decide) (br_t rfl (br_t rfl ?_))
        refine x_appendRow rfl rfl rfl hn (by omega) (by omega) eWl hwl O (by omega) hS' hi hS24 ?_
        intro lh' lc' O'
        refine nm_r (nI_1 i) (ih lh' lc' ?_)
        rw [es]
        show qp_Out n w (qp_if (qp_hit Q (qp_g S i) a b Q.length) _ _) lh lc lh' lc'
        rw [qp_if_f hp]; exact O'
end qp_X4
end
section
/-! the component: bounds, the kinds, the result, the run -/
section qp_X5
variable {tc nc rh rc : Int32} {tw th tb nk nl nr nw us ca cb cc nn bo lh lc rs : Nat → Int32}
theorem qp_Out_u {n w : Nat} {R : List qp_Row} {h a h' a' : Nat → Int32} {v : Int32} (O : qp_Out n w R (upd h n v) a h' a') : qp_Out n w R h a h' a' := ⟨O.1, fun j hj => (O.2.1 j hj).trans (pk_un hj), O.2.2⟩
theorem x_pair6 {post : Int32 → Prop} {i : Nat} {p1 p2 : Int32} (hi : i < 12) (hk : nk i = 6) (H : post (p1 + p2)) : wpX_boundOfPair post (tc, nc, rh, rc, tw, th, tb, nk, nl, nr, nw, us, ca, cb, cc, nn, bo, lh, lc, rs) (nI i) p1 p2 := by
  unfold wpX_boundOfPair
  try dsimp only
  rw [nI_clamp (by omega)]
  exact ⟨vp_in_nI hi (by omega), br_t hk H⟩
theorem x_pair5 {post : Int32 → Prop} {i l r : Nat} (hi : i < 12) (hk : nk i = 5) (H : post (nI (qp_bk 5 (cc i) 0 l r))) (hr : r < 2 ^ 31) : wpX_boundOfPair post (tc, nc, rh, rc, tw, th, tb, nk, nl, nr, nw, us, ca, cb, cc, nn, bo, lh, lc, rs) (nI i) (nI l) (nI r) := by
  unfold wpX_boundOfPair
  try dsimp only
  rw [nI_clamp (by omega)]
  have h6 : ¬ nk i = 6 := by rw [hk]; decide
  refine ⟨vp_in_nI hi (by omega), br_f h6 ⟨vp_in_nI hi (by omega), nm_e ?_⟩⟩
  rw [qp_bk5] at H
  by_cases h0 : cc i = 0
  · rw [if_pos h0] at H
    refine br_t h0 ?_
    rw [pk_mul]; exact H
  · rw [if_neg h0] at H
    refine br_f h0 ?_
    by_cases h3 : cc i = 3
    · rw [if_pos h3] at H
      refine br_t h3 ?_
      refine pk_eq r 0 (fun z => ?_) (fun z => ?_) rfl nI_0.symm
      · rw [if_pos z] at H; exact H
      · rw [if_neg z] at H; rw [pk_mul]; exact H
    · rw [if_neg h3] at H
      exact br_f h3 H
theorem x_boundU {post : Int32 → Prop} {i x wl : Nat} {bd : Nat → Nat} (hi : i < 12) (hU : qp_U (nl i) nw i x wl) (hR : nr i = -1) (hk : nk i = 1 ∨ nk i = 2 ∨ nk i = 3 ∨ nk i = 4 ∨ nk i = 7 ∨ nk i = 8 ∨ nk i = 10) (hB : ∀ j, j < i → bo j = qp_cd (bd j)) (H : post (qp_cd (qp_bs nk nl nr cc nn th i bd))) : wpX_boundOf post (tc, nc, rh, rc, tw, th, tb, nk, nl, nr, nw, us, ca, cb, cc, nn, bo, lh, lc, rs) (nI i) := by
  unfold wpX_boundOf
  try dsimp only
  rw [nI_clamp (by omega)]
  have v : vp_in (nI i) 12 := vp_in_nI hi (by omega)
  have h0 : ¬ nk i = 0 := by rcases hk with h | h | h | h | h | h | h <;> rw [h] <;> decide
  have h9 : ¬ nk i = 9 := by rcases hk with h | h | h | h | h | h | h <;> rw [h] <;> decide
  have hx := hU.1
  have eL := hU.2.1
  rw [qp_bs_u hk hR eL (by omega)] at H
  have eb : bo (nl i).toNatClampNeg = qp_cd (bd x) := by rw [qp_cl eL (by omega)]; exact hB x hx
  refine ⟨v, br_f h0 ⟨v, by rw [eL]; exact vp_in_nI (by omega) (by omega), nm_r eb ?_⟩⟩
  by_cases hb : bd x ≤ 24
  · rw [if_neg (by omega)] at H
    exact br_f (qp_cd_n hb) ⟨v, br_f h9 ⟨v, br_t hR H⟩⟩
  · rw [if_pos (by omega)] at H
    exact br_t (qp_cd_f hb) H
theorem x_boundOf {post : Int32 → Prop} {i : Nat} {bd : Nat → Nat} {q1 q2 q3 : Int32} (hi : i < 12) (ok : qp_OK (nk i) (nl i) (nr i) (nw i) (ca i) (cb i) (cc i) (nn i) q1 q2 q3 nw i) (hT : ∀ t, t < 4 → ∃ h : Nat, h ≤ 10 ∧ th t = nI h) (hB : ∀ j, j < i → bo j = qp_cd (bd j)) (H : post (qp_cd (qp_bs nk nl nr cc nn th i bd))) : wpX_boundOf post (tc, nc, rh, rc, tw, th, tb, nk, nl, nr, nw, us, ca, cb, cc, nn, bo, lh, lc, rs) (nI i) := by
  have v : vp_in (nI i) 12 := vp_in_nI hi (by omega)
  obtain ⟨wn, _, _, _, h⟩ := ok
  rcases h with h | h | h | h | h | h | h | h | h | h | h
  · obtain ⟨hk, _, t, ht, hD, _⟩ := h
    obtain ⟨hh, hh10, eh⟩ := hT t ht
    unfold wpX_boundOf
    try dsimp only
    rw [nI_clamp (by omega)]
    rw [qp_bs_0 hk hD (by omega), eh, nI_clamp (by omega), qp_cd_t (by omega)] at H
    refine ⟨v, br_t hk ⟨v, by rw [hD]; exact vp_in_nI (by omega) (by omega), ?_⟩⟩
    rw [qp_cl hD (by omega), eh]; exact H
  · obtain ⟨hk, hr, x, _, hU, _⟩ := h
    exact x_boundU hi hU hr (Or.inl hk) hB H
  · obtain ⟨hk, hr, x, _, _, hU, _⟩ := h
    exact x_boundU hi hU hr (Or.inr (Or.inl hk)) hB H
  · obtain ⟨hk, hr, x, _, _, _, hU, _⟩ := h
    exact x_boundU hi hU hr (Or.inr (Or.inr (Or.inl hk))) hB H
  · obtain ⟨hk, hr, x, _, hU, _⟩ := h
    exact x_boundU hi hU hr (Or.inr (Or.inr (Or.inr (Or.inl hk)))) hB H
  · obtain ⟨hk, x, wl, y, wr, a, b, hU, hV, _⟩ := h
    unfold wpX_boundOf
    try dsimp only
    rw [nI_clamp (by omega)]
    have h0 : ¬ nk i = 0 := by rw [hk]; decide
    have h9 : ¬ nk i = 9 := by rw [hk]; decide
    have hx := hU.1
    have hy := hV.1
    have eL := hU.2.1
    have eR := hV.2.1
    have hm : ¬ nr i = -1 := by rw [eR]; exact qp_m1 (by omega)
    rw [qp_bs_5 hk eR (by omega) eL (by omega)] at H
    have ebl : bo (nl i).toNatClampNeg = qp_cd (bd x) := by rw [qp_cl eL (by omega)]; exact hB x hx
    have ebr : bo (nr i).toNatClampNeg = qp_cd (bd y) := by rw [qp_cl eR (by omega)]; exact hB y hy
    refine ⟨v, br_f h0 ⟨v, by rw [eL]; exact vp_in_nI (by omega) (by omega), nm_r ebl ?_⟩⟩
    by_cases hb : bd x ≤ 24
    · refine br_f (qp_cd_n hb) ⟨v, br_f h9 ⟨v, br_f hm ⟨v, by rw [eR]; exact vp_in_nI (by omega) (by omega), nm_r ebr ?_⟩⟩⟩
      by_cases hc : bd y ≤ 24
      · refine br_f (qp_cd_n hc) ?_
        rw [if_neg (by omega)] at H
        rw [qp_cd_t hb, qp_cd_t hc]
        have hbig : qp_bk 5 (cc i) 0 (bd x) (bd y) ≤ 24 * 24 := by
          have hmul : bd x * bd y ≤ 24 * 24 := Nat.mul_le_mul hb hc
          rw [qp_bk5]
          split
          · exact hmul
          · split
            · split
              · omega
              · exact hmul
            · omega
        refine x_pair5 hi hk ?_ (by omega)
        refine pk_le (qp_bk 5 (cc i) 0 (bd x) (bd y)) 24 (fun z => ?_) (fun z => ?_) rfl rfl (by omega) (by omega)
        · rw [if_neg (by omega), qp_cd_t z] at H; exact H
        · rw [if_pos z] at H; exact H
      · rw [if_pos (by omega)] at H
        exact br_t (qp_cd_f hc) H
    · rw [if_pos (by omega)] at H
      exact br_t (qp_cd_f hb) H
  · obtain ⟨hk, x, y, hU, hV⟩ := h
    unfold wpX_boundOf
    try dsimp only
    rw [nI_clamp (by omega)]
    have h0 : ¬ nk i = 0 := by rw [hk]; decide
    have h9 : ¬ nk i = 9 := by rw [hk]; decide
    have hx := hU.1
    have hy := hV.1
    have eL := hU.2.1
    have eR := hV.2.1
    have hm : ¬ nr i = -1 := by rw [eR]; exact qp_m1 (by omega)
    rw [qp_bs_6 hk eR (by omega) eL (by omega)] at H
    have ebl : bo (nl i).toNatClampNeg = qp_cd (bd x) := by rw [qp_cl eL (by omega)]; exact hB x hx
    have ebr : bo (nr i).toNatClampNeg = qp_cd (bd y) := by rw [qp_cl eR (by omega)]; exact hB y hy
    refine ⟨v, br_f h0 ⟨v, by rw [eL]; exact vp_in_nI (by omega) (by omega), nm_r ebl ?_⟩⟩
    by_cases hb : bd x ≤ 24
    · refine br_f (qp_cd_n hb) ⟨v, br_f h9 ⟨v, br_f hm ⟨v, by rw [eR]; exact vp_in_nI (by omega) (by omega), nm_r ebr ?_⟩⟩⟩
      by_cases hc : bd y ≤ 24
      · refine br_f (qp_cd_n hc) ?_
        rw [if_neg (by omega)] at H
        rw [qp_cd_t hb, qp_cd_t hc]
        refine x_pair6 hi hk ?_
        rw [nI_add]
        refine pk_le (bd x + bd y) 24 (fun z => ?_) (fun z => ?_) rfl rfl (by omega) (by omega)
        · rw [if_neg (by omega), qp_cd_t z] at H; exact H
        · rw [if_pos z] at H; exact H
      · rw [if_pos (by omega)] at H
        exact br_t (qp_cd_f hc) H
    · rw [if_pos (by omega)] at H
      exact br_t (qp_cd_f hb) H
  · obtain ⟨hk, hr, _, x, _, _, _, hU, _⟩ := h
    exact x_boundU hi hU hr (Or.inr (Or.inr (Or.inr (Or.inr (Or.inl hk))))) hB H
  · obtain ⟨hk, hr, x, hU⟩ := h
    exact x_boundU hi hU hr (Or.inr (Or.inr (Or.inr (Or.inr (Or.inr (Or.inl hk)))))) hB H
  · obtain ⟨hk, hr, x, m, hU, hm, hD, _⟩ := h
    unfold wpX_boundOf
    try dsimp only
    rw [nI_clamp (by omega)]
    have h0 : ¬ nk i = 0 := by rw [hk]; decide
    have hx := hU.1
    have eL := hU.2.1
    rw [qp_bs_9 hk hr eL (by omega) hD hm] at H
    have ebl : bo (nl i).toNatClampNeg = qp_cd (bd x) := by rw [qp_cl eL (by omega)]; exact hB x hx
    refine ⟨v, br_f h0 ⟨v, by rw [eL]; exact vp_in_nI (by omega) (by omega), nm_r ebl ?_⟩⟩
    by_cases hb : bd x ≤ 24
    · refine br_f (qp_cd_n hb) ⟨v, br_t hk ⟨v, x_smaller ?_⟩⟩
      rw [if_neg (by omega)] at H
      rw [hD, qp_cd_t hb]
      by_cases z : m < bd x
      · rw [if_pos z, qp_cd_t (by omega)] at H
        rw [if_pos ((nI_ltI hm (by omega)).mpr z)]; exact H
      · rw [if_neg z, qp_cd_t hb] at H
        rw [if_neg (fun y => z ((nI_ltI hm (by omega)).mp y))]; exact H
    · rw [if_pos (by omega)] at H
      exact br_t (qp_cd_f hb) H
  · obtain ⟨hk, hr, x, _, hU, _⟩ := h
    exact x_boundU hi hU hr (Or.inr (Or.inr (Or.inr (Or.inr (Or.inr (Or.inr hk)))))) hB H
end qp_X5
end
section
/-! the component: one node's list, the result, the run -/
section qp_X6
variable {tc nc rh rc : Int32} {tw th tb nk nl nr nw us ca cb cc nn bo lh lc rs : Nat → Int32}
theorem x_workOut {post : SX → Prop} {N i : Nat} {bd : Nat → Nat} {LL : Nat → List qp_Row} {p1 p2 p3 : Nat → Int32} (hN : N ≤ 12) (hi : i < N) (ok : ∀ j, j < N → qp_OK (nk j) (nl j) (nr j) (nw j) (ca j) (cb j) (cc j) (nn j) (p1 j) (p2 j) (p3 j) nw j) (hT : ∀ t, t < 4 → ∃ h : Nat, h ≤ 10 ∧ th t = nI h) (hb : ∀ j, j < N → bd j = qp_bs nk nl nr cc nn th j bd) (hl : ∀ j, j < N → LL j = qp_sem nk nl nr nw ca cb cc nn th tb j LL) (hlen : ∀ j, j < N → bd j ≤ 24 → (LL j).length ≤ bd j) (I : qp_Inv i bd LL nw lh lc) (h24 : bd i ≤ 24) (H : ∀ lh' lc', qp_Out i (nw i).toNatClampNeg (LL i) lh lc lh' lc' → post (tc, nc, rh, rc, tw, th, tb, nk, nl, nr, nw, us, ca, cb, cc, nn, bo, lh', lc', rs)) : wpX_workOut post (tc, nc, rh, rc, tw, th, tb, nk, nl, nr, nw, us, ca, cb, cc, nn, bo, lh, lc, rs) (nI i) := by
  unfold wpX_workOut
  try dsimp only
  have hi12 : i < 12 := by omega
  have v : vp_in (nI i) 12 := vp_in_nI hi12 (by omega)
  have ci : (nI i).toNatClampNeg = i := nI_clamp (by omega)
  rw [ci]
  have hbi := hb i hi
  have hli := hl i hi
  -- a child's list, as the run so far has left it
  have ch : ∀ l x wl, qp_U l nw i x wl → bd x ≤ 24 → x < 12 ∧ x < i ∧ l = nI x ∧ wl ≤ 6 ∧ nw x = nI wl ∧ qp_Rep lc x wl (LL x) ∧ upd lh i 0 x = nI (LL x).length ∧ (LL x).length ≤ 24 ∧ (LL x).length ≤ bd x := by
    intro l x wl hU hx24
    obtain ⟨u1, u2, u3, u4, u5⟩ := hU
    obtain ⟨j1, j2⟩ := I x u1 hx24
    have j3 := hlen x (by omega) hx24
    rw [qp_cl u5 (by omega)] at j2
    exact ⟨by omega, u1, u2, u4, u5, j2, by rw [pk_un (by omega)]; exact j1, by omega, j3⟩
  have e0 : upd lh i 0 i = 0 := pk_us
  obtain ⟨w, hw1, hw6, hWn, h⟩ := ok i hi
  rw [qp_cl hWn (by omega)] at H
  -- a node with one child: the child is not too big either
  have un : ∀ x wl, qp_U (nl i) nw i x wl → nr i = -1 → (nk i = 1 ∨ nk i = 2 ∨ nk i = 3 ∨ nk i = 4 ∨ nk i = 7 ∨ nk i = 8 ∨ nk i = 10) → bd x ≤ 24 := by
    intro x wl hU hR hk
    have := hU.1
    rw [qp_bs_u hk hR hU.2.1 (by omega)] at hbi
    by_cases z : 24 < bd x
    · rw [if_pos z] at hbi; omega
    · omega
  refine ⟨v, nm_e ⟨v, ?_⟩⟩
  rcases h with h | h | h | h | h | h | h | h | h | h | h
  · obtain ⟨hk, hw3, t, ht, hD, _⟩ := h
    obtain ⟨h0, h010, eh⟩ := hT t ht
    rw [qp_sem_0 hk hD (by omega), eh, nI_clamp (by omega)] at hli
    rw [hli] at H
    refine nm_r hk (br_f (by decide) (br_f (by decide) (br_t rfl ?_)))
    refine x_scan hi12 ht hD eh h010 hWn hw3 ?_
    intro lc' O
    exact H _ _ (qp_Out_u O)
  · obtain ⟨hk, hr, x, a, hU, ha, hA, _⟩ := h
    obtain ⟨c1, c2, c3, c4, c5, c6, c7, c8, c9⟩ := ch _ x _ hU (un x _ hU hr (Or.inl hk))
    rw [qp_sem_1 hk c3 (by omega) hA (by omega)] at hli
    rw [hli] at H
    refine nm_r hk (br_f (by decide) (br_f (by decide) (br_f (by decide) (br_t rfl ?_))))
    refine x_filter hi12 c2 c3 c5 c4 hA ha c6 c7 c8 e0 ?_
    intro lh' lc' O
    exact H _ _ (qp_Out_u O)
  · obtain ⟨hk, hr, x, a, b, hU, ha, hb', hA, hB, _⟩ := h
    obtain ⟨c1, c2, c3, c4, c5, c6, c7, c8, c9⟩ := ch _ x _ hU (un x _ hU hr (Or.inr (Or.inl hk)))
    rw [qp_sem_2 hk c3 (by omega) hA (by omega) hB (by omega)] at hli
    rw [hli] at H
    refine nm_r hk (br_f (by decide) (br_f (by decide) (br_f (by decide) (br_f (by decide) (br_t rfl ?_)))))
    refine x_filterCols hi12 c2 c3 c5 c4 hA ha hB hb' c6 c7 c8 e0 ?_
    intro lh' lc' O
    exact H _ _ (qp_Out_u O)
  · obtain ⟨hk, hr, x, wl, a, b, hU, hwl, ha, hb', hA, hB, _⟩ := h
    obtain ⟨c1, c2, c3, c4, c5, c6, c7, c8, c9⟩ := ch _ x _ hU (un x _ hU hr (Or.inr (Or.inr (Or.inl hk))))
    rw [qp_sem_3 hk c3 (by omega) hA (by omega) hB (by omega) c5 (by omega)] at hli
    rw [hli, hwl] at H
    refine nm_r hk (br_f (by decide) (br_f (by decide) (br_f (by decide) (br_f (by decide) (br_f (by decide) (br_t rfl ?_))))))
    refine x_map hi12 c2 c3 c5 (by omega) hA ha hB hb' c6 c7 c8 e0 ?_
    intro lh' lc' O
    exact H _ _ (qp_Out_u O)
  · obtain ⟨hk, hr, x, wl, hU, _, hch⟩ := h
    obtain ⟨c1, c2, c3, c4, c5, c6, c7, c8, c9⟩ := ch _ x _ hU (un x _ hU hr (Or.inr (Or.inr (Or.inr (Or.inl hk)))))
    rw [qp_sem_4 hk c3 (by omega)] at hli
    rw [hli] at H
    refine nm_r hk (br_f (by decide) (br_f (by decide) (br_f (by decide) (br_f (by decide) (br_f (by decide) (br_f (by decide) (br_t rfl ?_)))))))
    refine x_project hi12 c2 c3 c4 hWn hw6 hch c6 c7 c8 ?_
    intro lc' O
    exact H _ _ (qp_Out_u O)
  · obtain ⟨hk, x, wl, y, wr, a, b, hU, hV, ha, hb', hA, hB, _, _, _, hc⟩ := h
    have hx := hU.1
    have hy := hV.1
    rw [qp_bs_5 hk hV.2.1 (by omega) hU.2.1 (by omega), qp_fac_bk] at hbi
    have h4 : ¬ (24 < bd x ∨ 24 < bd y) := by intro z; rw [if_pos z] at hbi; omega
    rw [if_neg h4] at hbi
    have h7 : ¬ 24 < bd x * qp_fac (cc i) (bd y) := by intro z; rw [if_pos z] at hbi; omega
    obtain ⟨c1, c2, c3, c4, c5, c6, c7, c8, c9⟩ := ch _ x _ hU (by omega)
    obtain ⟨d1, d2, d3, d4, d5, d6, d7, d8, d9⟩ := ch _ y _ hV (by omega)
    rw [qp_sem_5 hk c3 (by omega) d3 (by omega) hA (by omega) hB (by omega) c5 (by omega)] at hli
    rw [hli] at H
    refine nm_r hk (br_f (by decide) (br_f (by decide) (br_f (by decide) (br_f (by decide) (br_f (by decide) (br_f (by decide) (br_f (by decide) (br_t rfl ?_))))))))
    have h9 := Nat.mul_le_mul_right (qp_fac (cc i) (bd y)) c9
    refine x_join (m := qp_fac (cc i) (bd y)) hi12 c2 d2 c3 d3 c5 d5 hWn c4 d4 hw6 hA ha hB hb' rfl hc c6 c7 c8 d6 d7 d8 e0 (fun z => qp_fac_1 d9 z) (fun z => qp_fac_2 z) (by omega) ?_
    intro lh' lc' O
    exact H _ _ (qp_Out_u O)
  · obtain ⟨hk, x, y, hU, hV⟩ := h
    have hx := hU.1
    have hy := hV.1
    rw [qp_bs_6 hk hV.2.1 (by omega) hU.2.1 (by omega)] at hbi
    have h4 : ¬ (24 < bd x ∨ 24 < bd y) := by intro z; rw [if_pos z] at hbi; omega
    rw [if_neg h4] at hbi
    have h7 : ¬ 24 < bd x + bd y := by intro z; rw [if_pos z] at hbi; omega
    obtain ⟨c1, c2, c3, c4, c5, c6, c7, c8, c9⟩ := ch _ x _ hU (by omega)
    obtain ⟨d1, d2, d3, d4, d5, d6, d7, d8, d9⟩ := ch _ y _ hV (by omega)
    rw [qp_sem_6 hk c3 (by omega) d3 (by omega)] at hli
    rw [hli] at H
    have k1 : (if 24 < (LL x).length then 24 else (LL x).length) = (LL x).length := if_neg (by omega)
    have k2 : (if 24 < (LL y).length then 24 else (LL y).length) = (LL y).length := if_neg (by omega)
    refine nm_r hk (br_f (by decide) (br_f (by decide) (br_f (by decide) (br_f (by decide) (br_f (by decide) (br_f (by decide) (br_f (by decide) (br_f (by decide) (br_t rfl ?_)))))))))
    refine ⟨v, ?_⟩
    refine x_first (m := 24) c3 rfl (by omega) hi12 c2 c5 c4 c6 c7 c8 (qp_Out_0 (w := w) e0) (by rw [k1, List.length_nil]; omega) ?_
    intro lh1 lc1 O1
    rw [k1, List.nil_append] at O1
    refine ⟨v, ?_⟩
    refine x_first (m := 24) d3 rfl (by omega) hi12 d2 d5 d4 (qp_Out_rd O1 d6 d8 d4 (by omega)) ((O1.2.1 y (by omega)).trans d7) d8 O1 (by rw [k2, qp_tab_len]; omega) ?_
    intro lh' lc' O
    rw [k2] at O
    exact H _ _ (qp_Out_u O)
  · obtain ⟨hk, hr, hw2, x, wl, a, b, hU, ha, hb', hA, hB, _, _, _, ho⟩ := h
    obtain ⟨c1, c2, c3, c4, c5, c6, c7, c8, c9⟩ := ch _ x _ hU (un x _ hU hr (Or.inr (Or.inr (Or.inr (Or.inr (Or.inl hk))))))
    rw [qp_sem_7 hk c3 (by omega) hA (by omega) hB (by omega)] at hli
    rw [hli, hw2] at H
    refine nm_r hk (br_f (by decide) (br_f (by decide) (br_f (by decide) (br_f (by decide) (br_f (by decide) (br_f (by decide) (br_f (by decide) (br_f (by decide) (br_f (by decide) (br_t rfl ?_))))))))))
    refine x_group hi12 c2 c3 c4 hA ha hB hb' ho c6 c7 c8 e0 ?_
    intro lh' lc' O
    exact H _ _ (qp_Out_u O)
  · obtain ⟨hk, hr, x, hU⟩ := h
    obtain ⟨c1, c2, c3, c4, c5, c6, c7, c8, c9⟩ := ch _ x _ hU (un x _ hU hr (Or.inr (Or.inr (Or.inr (Or.inr (Or.inr (Or.inl hk)))))))
    rw [qp_sem_8 hk c3 (by omega) hWn (by omega)] at hli
    rw [hli] at H
    refine nm_r hk (br_f (by decide) (br_f (by decide) (br_f (by decide) (br_f (by decide) (br_f (by decide) (br_f (by decide) (br_f (by decide) (br_f (by decide) (br_f (by decide) (br_f (by decide) (br_t rfl ?_)))))))))))
    refine x_distinct hi12 c2 c3 c5 hWn c4 c6 c7 c8 e0 ?_
    intro lh' lc' O
    exact H _ _ (qp_Out_u O)
  · obtain ⟨hk, hr, x, m, hU, hm, hD, _⟩ := h
    have hx := hU.1
    rw [qp_bs_9 hk hr hU.2.1 (by omega) hD hm] at hbi
    have h4 : ¬ 24 < bd x := by intro z; rw [if_pos z] at hbi; omega
    obtain ⟨c1, c2, c3, c4, c5, c6, c7, c8, c9⟩ := ch _ x _ hU (by omega)
    rw [qp_sem_9 hk c3 (by omega) hD hm] at hli
    rw [hli] at H
    refine nm_r hk (br_f (by decide) (br_f (by decide) (br_f (by decide) (br_f (by decide) (br_f (by decide) (br_f (by decide) (br_f (by decide) (br_f (by decide) (br_f (by decide) (br_f (by decide) (br_f (by decide) (br_t rfl ?_))))))))))))
    refine ⟨v, v, ?_⟩
    refine x_first c3 hD hm hi12 c2 c5 c4 c6 c7 c8 (qp_Out_0 (w := w) e0) (by rw [List.length_nil]; split <;> omega) ?_
    intro lh' lc' O
    rw [List.nil_append] at O
    exact H _ _ (qp_Out_u O)
  · obtain ⟨hk, hr, x, a, hU, ha, hA, _, hc⟩ := h
    obtain ⟨c1, c2, c3, c4, c5, c6, c7, c8, c9⟩ := ch _ x _ hU (un x _ hU hr (Or.inr (Or.inr (Or.inr (Or.inr (Or.inr (Or.inr hk)))))))
    rw [qp_sem_10 hk c3 (by omega) hA (by omega)] at hli
    rw [hli] at H
    refine nm_r hk (br_f (by decide) (br_t (by decide) ?_))
    refine x_sort hi12 c2 c3 c5 c4 hA ha (by rcases hc with ⟨z, _⟩ | ⟨z, _⟩ <;> rw [z] <;> decide) c6 c7 c8 ?_
    intro lc' O
    exact H _ _ (qp_Out_u O)
theorem x_keep {post : SX → Prop} {n h w : Nat} (hn : n < 12) (eH : lh n = nI h) (h24 : h ≤ 24) (eW : nw n = nI w) (hw : w ≤ 6) (H : ∀ rs', (∀ r c, r < h → c < w → rs' (r * 6 + c) = lc (n * 144 + r * 6 + c)) → post (tc, nc, nI h, nI w, tw, th, tb, nk, nl, nr, nw, us, ca, cb, cc, nn, bo, lh, lc, rs')) : wpX_keepResult post (tc, nc, rh, rc, tw, th, tb, nk, nl, nr, nw, us, ca, cb, cc, nn, bo, lh, lc, rs) (nI n) := by
  unfold wpX_keepResult
  try dsimp only
  refine ⟨vp_in_nI hn (by omega), nm_r (qp_rd hn eH) ⟨vp_in_nI hn (by omega), nm_r (qp_rd hn eW) ⟨h + 1, ?_⟩⟩⟩
  refine qp_loop1 (fun k i a => wX_keepResult_17 post (nI n) (nI h) (nI w) tc nc rh rc k (nI i) tw th tb nk nl nr nw us ca cb cc nn bo lh lc a) (fun i a => ∀ r c, r < i → c < w → a (r * 6 + c) = lc (n * 144 + r * 6 + c)) h ?_ ?_ (h + 1) 0 rs (by omega) (by omega) (fun r c hr _ => absurd hr (Nat.not_lt_zero r))
  · intro k a I
    exact br_t (nI_le (Nat.le_refl _) (by omega)) (H a I)
  · intro k i a hi I ih
    refine br_f (nI_ge hi (by omega)) ⟨w + 1, ?_⟩
    refine qp_loop1 (fun m j a => wX_keepResult_26 post (wX_keepResult_17 post (nI n) (nI h) (nI w) tc nc rh rc k) (nI n) (nI h) (nI w) (nI i) tc nc rh rc m (nI j) tw th tb nk nl nr nw us ca cb cc nn bo lh lc a) (fun j a => ∀ r c, (r < i ∨ (r = i ∧ c < j)) → c < w → a (r * 6 + c) = lc (n * 144 + r * 6 + c)) w ?_ ?_ (w + 1) 0 a (by omega) (by omega) (fun r c hr hc => I r c (by omega) hc)
    · intro m a I
      exact br_t (nI_le (Nat.le_refl _) (by omega)) (nm_r (nI_1 i) (ih a (fun r c hr hc => I r c (by omega) hc)))
    · intro m j a hj I ihj
      refine br_f (nI_ge hj (by omega)) ?_
      refine x_listCell rfl rfl rfl rfl (by omega) ?_
      rw [qp_i6, nI_clamp (by omega)]
      refine ⟨vp_in_nI (by omega) (by omega), nm_e (nm_r (nI_1 j) (ihj _ (fun r c hr hc => ?_)))⟩
      by_cases z : r = i ∧ c = j
      · obtain ⟨z1, z2⟩ := z
        subst z1 z2
        rw [pk_us]
      · rw [pk_un (by omega)]; exact I r c (by omega) hc
end qp_X6
end
section
/-! the reference's small methods -/
section qp_Y1
variable {tn nc rh rc : Int32} {tb th tw nk nl nr p1 p2 p3 nw us bo ct vl rs : Nat → Int32}
theorem y_get {post : Int32 → Prop} {q0 q1 q2 v : Int32} {n r c : Nat} (e0 : q0 = nI n) (e1 : q1 = nI r) (e2 : q2 = nI c) (hv : vl (n * 144 + r * 6 + c) = v) (h : n * 144 + r * 6 + c < 1728) (H : post v) : wpY_get post (tn, nc, rh, rc, tb, th, tw, nk, nl, nr, p1, p2, p3, nw, us, bo, ct, vl, rs) q0 q1 q2 := by
  subst e0 e1 e2 hv
  unfold wpY_get
  try dsimp only
  rw [qp_iy, nI_clamp (by omega)]
  exact ⟨vp_in_nI h (by omega), H⟩
theorem y_copyC {post : SY → Prop} {q0 q1 q2 : Int32} {n s r m w : Nat} (e0 : q0 = nI n) (e1 : q1 = nI s) (e2 : q2 = nI r) (hn : n < 12) (hs : s < 12) (hw : nw s = nI w) (h6 : w ≤ 6) (ec : ct n = nI m) (hm : m < 24) (hr : r < 24) (hd : s ≠ n) (H : ∀ vl', qp_Cp (n * 144 + m * 6) (s * 144 + r * 6) w vl vl' → post (tn, nc, rh, rc, tb, th, tw, nk, nl, nr, p1, p2, p3, nw, us, bo, upd ct n (nI (m + 1)), vl', rs)) : wpY_copy post (tn, nc, rh, rc, tb, th, tw, nk, nl, nr, p1, p2, p3, nw, us, bo, ct, vl, rs) q0 q1 q2 := by
  subst e0 e1 e2
  unfold wpY_copy
  try dsimp only
  refine ⟨vp_in_nI hn (by omega), nm_r (qp_rd hn ec) (br_f (nI_ge (b := 24) hm (by decide)) ⟨w + 1, ?_⟩)⟩
  refine qp_loop1 (fun k i a => wY_copy_18 post (nI n) (nI s) (nI r) (nI m) tn nc rh rc k (nI i) tb th tw nk nl nr p1 p2 p3 nw us bo ct a rs) (fun i a => qp_Cp (n * 144 + m * 6) (s * 144 + r * 6) i vl a) w ?_ ?_ (w + 1) 0 vl (by omega) (by omega) (qp_Cp_0 _ _ _)
  · intro k a I
    refine ⟨vp_in_nI hs (by omega), ?_⟩
    rw [qp_rd hs hw, nI_clamp (show n < 2 ^ 31 by omega), nI_1]
    exact br_t (nI_le (Nat.le_refl _) (by omega)) ⟨vp_in_nI hn (by omega), nm_e (H a I)⟩
  · intro k i a hi I ih
    refine ⟨vp_in_nI hs (by omega), ?_⟩
    rw [qp_rd hs hw]
    refine br_f (nI_ge hi (by omega)) ?_
    rw [qp_iy, qp_iy, nI_clamp (by omega), nI_clamp (by omega)]
    exact ⟨vp_in_nI (by omega) (by omega), vp_in_nI (by omega) (by omega), nm_e (nm_r (nI_1 i) (ih _ (qp_Cp_s I hi (by omega) rfl)))⟩
theorem y_copy {post : SY → Prop} {q0 q1 q2 : Int32} {n w s r : Nat} {R S : List qp_Row} {h0 a0 : Nat → Int32} (e0 : q0 = nI n) (e1 : q1 = nI s) (e2 : q2 = nI r) (hn : n < 12) (hs : s < 12) (hsn : s ≠ n) (hw : nw s = nI w) (h6 : w ≤ 6) (O : qp_Out n w R h0 a0 ct vl) (hR : R.length < 24) (hS : qp_Rep vl s w S) (hr : r < S.length) (h24 : S.length ≤ 24) (H : ∀ ct' vl', qp_Out n w (R ++ [qp_g S r]) h0 a0 ct' vl' → post (tn, nc, rh, rc, tb, th, tw, nk, nl, nr, p1, p2, p3, nw, us, bo, ct', vl', rs)) : wpY_copy post (tn, nc, rh, rc, tb, th, tw, nk, nl, nr, p1, p2, p3, nw, us, bo, ct, vl, rs) q0 q1 q2 :=
  y_copyC e0 e1 e2 hn hs hw h6 (qp_Out_h O) hR (by omega) hsn (fun _ hc => H _ _ (qp_Out_cp O hR h6 hS hr hc))
theorem y_holds {post : Int32 → Prop} {q0 q1 q2 a c b : Int32} (e0 : q0 = a) (e1 : q1 = c) (e2 : q2 = b) (ht : qp_ful a c b → post 1) (hf : ¬ qp_ful a c b → post 0) : wpY_holds post (tn, nc, rh, rc, tb, th, tw, nk, nl, nr, p1, p2, p3, nw, us, bo, ct, vl, rs) q0 q1 q2 := by
  subst e0 e1 e2
  unfold wpY_holds
  try dsimp only
  by_cases h0 : q1 = 0
  · subst h0
    exact br_t rfl (br_c (fun h => ht h) (fun h => hf h))
  · by_cases h1 : q1 = 1
    · subst h1
      exact br_f (by decide) (br_t rfl (br_c (fun h => hf (fun z => z h)) (fun h => ht h)))
    · by_cases h2 : q1 = 2
      · subst h2
        exact br_f (by decide) (br_f (by decide) (br_t rfl (br_c (fun h => hf (fun z => Int32.not_lt.mpr h z)) (fun h => ht (Int32.not_le.mp h)))))
      · by_cases h3 : q1 = 3
        · subst h3
          exact br_f (by decide) (br_f (by decide) (br_f (by decide) (br_t rfl (br_c (fun h => hf (fun z => Int32.not_lt.mpr z h)) (fun h => ht (Int32.not_lt.mp h))))))
        · by_cases h4 : q1 = 4
          · subst h4
            exact br_f (by decide) (br_f (by decide) (br_f (by decide) (br_f (by decide) (br_t rfl (br_c (fun h => hf (fun z => Int32.not_lt.mpr h z)) (fun h => ht (Int32.not_le.mp h)))))))
          · have e : qp_ful q0 q1 q2 = (q2 ≤ q0) := by unfold qp_ful; rw [if_neg h0, if_neg h1, if_neg h2, if_neg h3, if_neg h4]
            rw [e] at ht hf
            have L : (q0 < q2 → post 0) ∧ (¬ q0 < q2 → post 1) := br_c (fun h => hf (Int32.not_le.mpr h)) (fun h => ht (Int32.not_lt.mp h))
            exact br_f h0 (br_f h1 (br_f h2 (br_f h3 (br_f h4 L))))
theorem y_computed {post : Int32 → Prop} {q0 q1 q2 o a b : Int32} (e0 : q0 = o) (e1 : q1 = a) (e2 : q2 = b) (H : post (qp_com o a b)) : wpY_computed post (tn, nc, rh, rc, tb, th, tw, nk, nl, nr, p1, p2, p3, nw, us, bo, ct, vl, rs) q0 q1 q2 := by
  subst e0 e1 e2
  unfold wpY_computed
  try dsimp only
  unfold qp_com at H
  refine br_c (fun h0 => ?_) (fun h0 => br_c (fun h1 => ?_) (fun h1 => br_c (fun h2 => ?_) (fun h2 => br_c (fun h3 => br_c (fun h => ?_) (fun h => ?_)) (fun h3 => br_c (fun h => ?_) (fun h => ?_)))))
  · rw [if_pos h0] at H; exact H
  · rw [if_neg h0, if_pos h1] at H; exact H
  · rw [if_neg h0, if_neg h1, if_pos h2] at H; exact H
  · rw [if_neg h0, if_neg h1, if_neg h2, if_pos h3, if_neg (Int32.not_lt.mpr h)] at H; exact H
  · rw [if_neg h0, if_neg h1, if_neg h2, if_pos h3, if_pos (Int32.not_le.mp h)] at H; exact H
  · rw [if_neg h0, if_neg h1, if_neg h2, if_neg h3, if_neg (Int32.not_lt.mpr h)] at H; exact H
  · rw [if_neg h0, if_neg h1, if_neg h2, if_neg h3, if_pos (Int32.not_le.mp h)] at H; exact H
theorem y_table {post : SY → Prop} {n t w h0 : Nat} {f : Nat → qp_Row} (hn : n < 12) (ht : t < 4) (eD : p1 n = nI t) (eT : th t = nI h0) (h10 : h0 ≤ 10) (eW : nw n = nI w) (hw : w ≤ 3) (hf : ∀ r c, r < h0 → c < w → tb (t * 30 + r * 3 + c) = f r c) (H : ∀ vl', qp_Out n w (qp_tab h0 f) ct vl (upd ct n (nI h0)) vl' → post (tn, nc, rh, rc, tb, th, tw, nk, nl, nr, p1, p2, p3, nw, us, bo, upd ct n (nI h0), vl', rs)) : wpY_tableList post (tn, nc, rh, rc, tb, th, tw, nk, nl, nr, p1, p2, p3, nw, us, bo, ct, vl, rs) (nI n) := by
  unfold wpY_tableList
  try dsimp only
  refine ⟨vp_in_nI hn (by omega), nm_r (qp_rd hn eD) ⟨h0 + 1, ?_⟩⟩
  refine qp_loop1 (fun k i a => wY_tableList_9 post (nI n) (nI t) tn nc rh rc k (nI i) tb th tw nk nl nr p1 p2 p3 nw us bo ct a rs) (fun i a => qp_Pt n w f i 0 vl a) h0 ?_ ?_ (h0 + 1) 0 vl (by omega) (by omega) (qp_Pt_0 _ _ _ _)
  · intro k a P
    refine ⟨vp_in_nI ht (by omega), ?_⟩
    rw [qp_rd (by omega) eT, nI_clamp (show n < 2 ^ 31 by omega)]
    exact br_t (nI_le (Nat.le_refl _) (by omega)) ⟨vp_in_nI ht (by omega), vp_in_nI hn (by omega), nm_e (H a ⟨P.1, fun j hj => pk_un hj, by rw [pk_us, qp_tab_len], qp_Pt_e P⟩)⟩
  · intro k i a hi P ih
    refine ⟨vp_in_nI ht (by omega), ?_⟩
    rw [qp_rd (by omega) eT]
    refine br_f (nI_ge hi (by omega)) ⟨w + 1, ?_⟩
    refine qp_loop1 (fun m j a => wY_tableList_22 post (wY_tableList_9 post (nI n) (nI t) tn nc rh rc k) (nI n) (nI t) (nI i) tn nc rh rc m (nI j) tb th tw nk nl nr p1 p2 p3 nw us bo ct a rs) (fun j a => qp_Pt n w f i j vl a) w ?_ ?_ (w + 1) 0 a (by omega) (by omega) P
    · intro m a P
      refine ⟨vp_in_nI hn (by omega), ?_⟩
      rw [qp_rd hn eW]
      exact br_t (nI_le (Nat.le_refl _) (by omega)) (nm_r (nI_1 i) (ih a (qp_Pt_n P)))
    · intro m j a hj P ihj
      refine ⟨vp_in_nI hn (by omega), ?_⟩
      rw [qp_rd hn eW]
      refine br_f (nI_ge hj (by omega)) ?_
      rw [qp_iu, qp_iy, nI_clamp (by omega), nI_clamp (by omega)]
      exact ⟨vp_in_nI (by omega) (by omega), vp_in_nI (by omega) (by omega), nm_e (nm_r (nI_1 j) (ihj _ (qp_Pt_s P (by omega) hj (by omega) (hf i j hi hj))))⟩
theorem y_filter {post : SY → Prop} {n l a w : Nat} {b : qp_Row → Int32} {S : List qp_Row} (hn : n < 12) (hl : l < n) (eL : nl n = nI l) (eW : nw l = nI w) (hw : w ≤ 6) (eA : p1 n = nI a) (ha : a < w) (hb : (¬ nk n = 2 ∧ ∀ z, b z = p3 n) ∨ (nk n = 2 ∧ ∃ b' : Nat, b' < w ∧ p3 n = nI b' ∧ ∀ z, b z = z b')) (hS : qp_Rep vl l w S) (eH : ct l = nI S.length) (h24 : S.length ≤ 24) (e0 : ct n = 0) (H : ∀ ct' vl', qp_Out n w (qp_fl S (fun z => qp_ful (z a) (p2 n) (b z)) S.length) ct vl ct' vl' → post (tn, nc, rh, rc, tb, th, tw, nk, nl, nr, p1, p2, p3, nw, us, bo, ct', vl', rs)) : wpY_filterList post (tn, nc, rh, rc, tb, th, tw, nk, nl, nr, p1, p2, p3, nw, us, bo, ct, vl, rs) (nI n) := by
  unfold wpY_filterList
  try dsimp only
  refine ⟨vp_in_nI hn (by omega), nm_r (qp_rd hn eL) ⟨S.length + 1, ?_⟩⟩
  refine qp_loop (fun k i h a' => wY_filterList_9 post (nI n) (nI l) k (nI i) tn nc rh rc tb th tw nk nl nr p1 p2 p3 nw us bo h a' rs) (fun i h a' => qp_Out n w (qp_fl S (fun z => qp_ful (z a) (p2 n) (b z)) i) ct vl h a') S.length ?_ ?_ (S.length + 1) 0 ct vl (by omega) (by omega) (qp_Out_0 e0)
  · intro k h a' O
    have eH' : h l = nI S.length := (O.2.1 l (by omega)).trans eH
    refine ⟨vp_in_nI (by omega) (by omega), ?_⟩
    rw [qp_rd (by omega) eH']
    exact br_t (nI_le (Nat.le_refl _) (by omega)) (H h a' O)
  · intro k i h a' hi O ih
    have eH' : h l = nI S.length := (O.2.1 l (by omega)).trans eH
    have hS' := qp_Out_rd O hS h24 hw (by omega)
    have hlen := qp_fl_len S (fun z => qp_ful (z a) (p2 n) (b z)) i
    have core : ∀ v, v = b (qp_g S i) → wY_filterList_65 post (wY_filterList_9 post (nI n) (nI l) k) (nI n) (nI l) (nI i) (qp_g S i a) v tn nc rh rc tb th tw nk nl nr p1 p2 p3 nw us bo h a' rs := by
      intro v ev
      unfold wY_filterList_65
      refine ⟨vp_in_nI hn (by omega), ?_⟩
      refine y_holds rfl (qp_rd hn rfl) ev (fun hp => ?_) (fun hp => ?_)
      · refine br_f (by decide) ?_
        refine y_copy rfl rfl rfl hn (by omega) (by omega) eW hw O (by omega) hS' hi h24 ?_
        intro ct' vl' O'
        refine nm_r (nI_1 i) (ih ct' vl' ?_)
        show qp_Out n w (qp_if (qp_ful (qp_g S i a) (p2 n) (b (qp_g S i))) _ _) ct vl ct' vl'
        rw [qp_if_t hp]; exact O'
      · refine br_t rfl (nm_r (nI_1 i) (ih h a' ?_))
        show qp_Out n w (qp_if (qp_ful (qp_g S i a) (p2 n) (b (qp_g S i))) _ _) ct vl h a'
        rw [qp_if_f hp]; exact O
    refine ⟨vp_in_nI (by omega) (by omega), ?_⟩
    rw [qp_rd (f := h) (by omega) eH']
    refine br_f (nI_ge hi (by omega)) ⟨vp_in_nI hn (by omega), ?_⟩
    refine y_get rfl rfl (qp_rd hn eA) (hS' i a hi ha) (by omega) ?_
    refine ⟨vp_in_nI hn (by omega), nm_r (qp_rd hn rfl) ⟨vp_in_nI hn (by omega), ?_⟩⟩
    rw [qp_rd (f := nk) hn rfl]
    rcases hb with ⟨hk, hz⟩ | ⟨hk, b', hb', eb, hz⟩
    · exact br_f hk (core _ (hz _).symm)
    · refine br_t hk ⟨vp_in_nI hn (by omega), ?_⟩
      exact y_get rfl rfl (qp_rd hn eb) (hS' i b' hi hb') (by omega) (core _ (hz _).symm)
theorem y_map {post : SY → Prop} {n l a b w : Nat} {S : List qp_Row} (hn : n < 12) (hl : l < n) (eL : nl n = nI l) (eW : nw l = nI w) (hw : w + 1 ≤ 6) (eA : p2 n = nI a) (ha : a < w) (eB : p3 n = nI b) (hb : b < w) (hS : qp_Rep vl l w S) (eH : ct l = nI S.length) (h24 : S.length ≤ 24) (e0 : ct n = 0) (H : ∀ ct' vl', qp_Out n (w + 1) (qp_tab S.length (qp_mp S w (p1 n) a b)) ct vl ct' vl' → post (tn, nc, rh, rc, tb, th, tw, nk, nl, nr, p1, p2, p3, nw, us, bo, ct', vl', rs)) : wpY_mapList post (tn, nc, rh, rc, tb, th, tw, nk, nl, nr, p1, p2, p3, nw, us, bo, ct, vl, rs) (nI n) := by
  unfold wpY_mapList
  try dsimp only
  refine ⟨vp_in_nI hn (by omega), nm_r (qp_rd hn eL) ⟨S.length + 1, ?_⟩⟩
  refine qp_loop (fun k i h a' => wY_mapList_9 post (nI n) (nI l) k (nI i) tn nc rh rc tb th tw nk nl nr p1 p2 p3 nw us bo h a' rs) (fun i h a' => qp_Out n (w + 1) (qp_tab i (qp_mp S w (p1 n) a b)) ct vl h a') S.length ?_ ?_ (S.length + 1) 0 ct vl (by omega) (by omega) (qp_Out_0 e0)
  · intro k h a' O
    have eH' : h l = nI S.length := (O.2.1 l (by omega)).trans eH
    refine ⟨vp_in_nI (by omega) (by omega), ?_⟩
    rw [qp_rd (by omega) eH']
    exact br_t (nI_le (Nat.le_refl _) (by omega)) (H h a' O)
  · intro k i h a' hi O ih
    have eH' : h l = nI S.length := (O.2.1 l (by omega)).trans eH
    have hS' := qp_Out_rd O hS h24 (by omega) (by omega)
    have hlen := qp_tab_len i (qp_mp S w (p1 n) a b)
    have hhn : h n = nI i := by have := qp_Out_h O; rw [hlen] at this; exact this
    refine ⟨vp_in_nI (by omega) (by omega), ?_⟩
    rw [qp_rd (f := h) (by omega) eH']
    refine br_f (nI_ge hi (by omega)) ?_
    refine y_copyC rfl rfl rfl hn (by omega) eW (by omega) hhn (by omega) (by omega) (by omega) ?_
    intro vl' hc
    have rd : ∀ c, c < w → vl' (l * 144 + i * 6 + c) = qp_g S i c := fun c hcw => (hc.2 _ (by omega)).trans (hS' i c hi hcw)
    refine ⟨vp_in_nI hn (by omega), ?_⟩
    refine y_get rfl rfl (qp_rd hn eA) (rd a ha) (by omega) ?_
    refine ⟨vp_in_nI hn (by omega), ?_⟩
    refine y_get rfl rfl (qp_rd hn eB) (rd b hb) (by omega) ?_
    refine ⟨vp_in_nI (by omega) (by omega), vp_in_nI hn (by omega), ?_⟩
    refine y_computed (qp_rd hn rfl) rfl rfl ?_
    rw [qp_rd (f := nw) (by omega) eW, qp_iy, nI_clamp (by omega)]
    refine ⟨vp_in_nI (by omega) (by omega), nm_e (nm_r (nI_1 i) (ih _ _ ?_))⟩
    rw [qp_tab_s]
    have key := qp_Out_app (a2 := upd vl' (n * 144 + i * 6 + w) (qp_com (p1 n) (qp_g S i a) (qp_g S i b))) O (by omega) (by omega) (qp_mp S w (p1 n) a b i) (fun c hcw => ?_) (fun p hp => ?_)
    · rw [hlen] at key; exact key
    · rw [hlen]
      unfold qp_mp
      by_cases z : c < w
      · rw [if_pos z, pk_un (by omega), hc.1 c z]
        exact hS' i c hi z
      · have z2 : c = w := by omega
        subst z2
        rw [if_neg z, pk_us]
    · rw [hlen] at hp
      rw [pk_un (by omega), hc.2 p (by omega)]
theorem y_project {post : SY → Prop} {n l w wl : Nat} {d : Int32} {S : List qp_Row} (hn : n < 12) (hl : l < n) (eL : nl n = nI l) (hwl : wl ≤ 6) (eW : nw n = nI w) (hw : w ≤ 6) (eD : p1 n = d) (hch : ∀ e, e < w → ∃ q : Nat, q < wl ∧ qp_ch d e = nI q) (hS : qp_Rep vl l wl S) (eH : ct l = nI S.length) (h24 : S.length ≤ 24) (H : ∀ vl', qp_Out n w (qp_tab S.length (qp_pr S d)) ct vl (upd ct n (nI S.length)) vl' → post (tn, nc, rh, rc, tb, th, tw, nk, nl, nr, p1, p2, p3, nw, us, bo, upd ct n (nI S.length), vl', rs)) : wpY_projectList post (tn, nc, rh, rc, tb, th, tw, nk, nl, nr, p1, p2, p3, nw, us, bo, ct, vl, rs) (nI n) := by
  unfold wpY_projectList
  try dsimp only
  refine ⟨vp_in_nI hn (by omega), nm_r (qp_rd hn eL) ⟨S.length + 1, ?_⟩⟩
  refine qp_loop1 (fun k i a => wY_projectList_9 post (nI n) (nI l) tn nc rh rc k (nI i) tb th tw nk nl nr p1 p2 p3 nw us bo ct a rs) (fun i a => qp_Pt n w (qp_pr S d) i 0 vl a) S.length ?_ ?_ (S.length + 1) 0 vl (by omega) (by omega) (qp_Pt_0 _ _ _ _)
  · intro k a P
    refine ⟨vp_in_nI (by omega) (by omega), ?_⟩
    rw [qp_rd (f := ct) (by omega) eH, nI_clamp (show n < 2 ^ 31 by omega)]
    exact br_t (nI_le (Nat.le_refl _) (by omega)) ⟨vp_in_nI (by omega) (by omega), vp_in_nI hn (by omega), nm_e (H a ⟨P.1, fun j hj => pk_un hj, by rw [pk_us, qp_tab_len], qp_Pt_e P⟩)⟩
  · intro k i a hi P ih
    refine ⟨vp_in_nI (by omega) (by omega), ?_⟩
    rw [qp_rd (f := ct) (by omega) eH]
    refine br_f (nI_ge hi (by omega)) ⟨w + 1, ?_⟩
    refine qp_loop1 (fun m j a => wY_projectList_22 post (wY_projectList_9 post (nI n) (nI l) tn nc rh rc k) (nI n) (nI l) (nI i) tn nc rh rc m (nI j) tb th tw nk nl nr p1 p2 p3 nw us bo ct a rs) (fun j a => qp_Pt n w (qp_pr S d) i j vl a) w ?_ ?_ (w + 1) 0 a (by omega) (by omega) P
    · intro m a P
      refine ⟨vp_in_nI hn (by omega), ?_⟩
      rw [qp_rd hn eW]
      exact br_t (nI_le (Nat.le_refl _) (by omega)) (nm_r (nI_1 i) (ih a (qp_Pt_n P)))
    · intro m j a hj P ihj
      obtain ⟨q, hq, eq⟩ := hch j hj
      have hS' := qp_Rep_fr hS h24 hwl (by omega) P.1
      refine ⟨vp_in_nI hn (by omega), ?_⟩
      rw [qp_rd (f := nw) hn eW]
      refine br_f (nI_ge hj (by omega)) ?_
      have eq' : (p1 (nI n).toNatClampNeg >>> ((3 * nI j) &&& 31)) &&& 7 = nI q := by rw [qp_rd (f := p1) hn eD]; exact eq
      rw [eq', qp_iy, qp_iy, nI_clamp (by omega), nI_clamp (by omega), hS' i q hi hq]
      refine ⟨vp_in_nI hn (by omega), vp_in_nI (by omega) (by omega), vp_in_nI (by omega) (by omega), nm_e (nm_r (nI_1 j) (ihj _ (qp_Pt_s P (by omega) hj (by omega) ?_)))⟩
      unfold qp_pr
      rw [eq, nI_clamp (by omega)]
end qp_Y1
end
section
/-! the reference: union, limit, distinct, sort -/
section qp_Y2
variable {tn nc rh rc : Int32} {tb th tw nk nl nr p1 p2 p3 nw us bo ct vl rs : Nat → Int32}
theorem y_union {post : SY → Prop} {n l r w : Nat} {S Q : List qp_Row} (hn : n < 12) (hl : l < n) (hr : r < n) (eL : nl n = nI l) (eR : nr n = nI r) (eWl : nw l = nI w) (eWr : nw r = nI w) (hw : w ≤ 6) (hS : qp_Rep vl l w S) (eS : ct l = nI S.length) (hS24 : S.length ≤ 24) (hQ : qp_Rep vl r w Q) (eQ : ct r = nI Q.length) (hQ24 : Q.length ≤ 24) (e0 : ct n = 0) (hSQ : S.length + Q.length ≤ 24) (H : ∀ ct' vl', qp_Out n w (qp_tab S.length (qp_g S) ++ qp_tab Q.length (qp_g Q)) ct vl ct' vl' → post (tn, nc, rh, rc, tb, th, tw, nk, nl, nr, p1, p2, p3, nw, us, bo, ct', vl', rs)) : wpY_unionList post (tn, nc, rh, rc, tb, th, tw, nk, nl, nr, p1, p2, p3, nw, us, bo, ct, vl, rs) (nI n) := by
  unfold wpY_unionList
  try dsimp only
  have eL' := qp_rd hn eL
  have eR' := qp_rd hn eR
  refine ⟨S.length + 1, ?_⟩
  refine qp_loop (fun k i h a' => wY_unionList_2 post (nI n) k (nI i) tn nc rh rc tb th tw nk nl nr p1 p2 p3 nw us bo h a' rs) (fun i h a' => qp_Out n w (qp_tab i (qp_g S)) ct vl h a') S.length ?_ ?_ (S.length + 1) 0 ct vl (by omega) (by omega) (qp_Out_0 e0)
  · intro k h a' O
    have eH' : h l = nI S.length := (O.2.1 l (by omega)).trans eS
    refine ⟨vp_in_nI hn (by omega), ?_⟩
    rw [eL', qp_rd (f := h) (by omega) eH']
    refine ⟨vp_in_nI (by omega) (by omega), br_t (nI_le (Nat.le_refl _) (by omega)) ⟨Q.length + 1, ?_⟩⟩
    refine qp_loop (fun k i h a' => wY_unionList_37 post (nI n) k (nI i) tn nc rh rc tb th tw nk nl nr p1 p2 p3 nw us bo h a' rs) (fun i h a' => qp_Out n w (qp_tab S.length (qp_g S) ++ qp_tab i (qp_g Q)) ct vl h a') Q.length ?_ ?_ (Q.length + 1) 0 h a' (by omega) (by omega) (by rw [qp_tab_0, List.append_nil]; exact O)
    · intro k h a' O
      have eH' : h r = nI Q.length := (O.2.1 r (by omega)).trans eQ
      refine ⟨vp_in_nI hn (by omega), ?_⟩
      rw [eR', qp_rd (f := h) (by omega) eH']
      exact ⟨vp_in_nI (by omega) (by omega), br_t (nI_le (Nat.le_refl _) (by omega)) (H h a' O)⟩
    · intro k i h a' hi O ih
      have eH' : h r = nI Q.length := (O.2.1 r (by omega)).trans eQ
      have hlen : (qp_tab S.length (qp_g S) ++ qp_tab i (qp_g Q)).length = S.length + i := by rw [List.length_append, qp_tab_len, qp_tab_len]
      refine ⟨vp_in_nI hn (by omega), ?_⟩
      rw [eR', qp_rd (f := h) (by omega) eH']
      refine ⟨vp_in_nI (by omega) (by omega), br_f (nI_ge hi (by omega)) ⟨vp_in_nI hn (by omega), ?_⟩⟩
      refine y_copy rfl rfl rfl hn (by omega) (by omega) eWr hw O (by omega) (qp_Out_rd O hQ hQ24 hw (by omega)) hi hQ24 ?_
      intro ct' vl' O'
      refine nm_r (nI_1 i) (ih ct' vl' ?_)
      rw [qp_tab_s, ← List.append_assoc]; exact O'
  · intro k i h a' hi O ih
    have eH' : h l = nI S.length := (O.2.1 l (by omega)).trans eS
    refine ⟨vp_in_nI hn (by omega), ?_⟩
    rw [eL', qp_rd (f := h) (by omega) eH']
    refine ⟨vp_in_nI (by omega) (by omega), br_f (nI_ge hi (by omega)) ⟨vp_in_nI hn (by omega), ?_⟩⟩
    refine y_copy rfl rfl rfl hn (by omega) (by omega) eWl hw O (by rw [qp_tab_len]; omega) (qp_Out_rd O hS hS24 hw (by omega)) hi hS24 ?_
    intro ct' vl' O'
    refine nm_r (nI_1 i) (ih ct' vl' ?_)
    rw [qp_tab_s]; exact O'
theorem y_limit {post : SY → Prop} {n l w m : Nat} {S : List qp_Row} (hn : n < 12) (hl : l < n) (eL : nl n = nI l) (eW : nw l = nI w) (hw : w ≤ 6) (eD : p1 n = nI m) (hm : m < 2 ^ 31) (hS : qp_Rep vl l w S) (eS : ct l = nI S.length) (h24 : S.length ≤ 24) (e0 : ct n = 0) (H : ∀ ct' vl', qp_Out n w (qp_tab (if m < S.length then m else S.length) (qp_g S)) ct vl ct' vl' → post (tn, nc, rh, rc, tb, th, tw, nk, nl, nr, p1, p2, p3, nw, us, bo, ct', vl', rs)) : wpY_limitList post (tn, nc, rh, rc, tb, th, tw, nk, nl, nr, p1, p2, p3, nw, us, bo, ct, vl, rs) (nI n) := by
  unfold wpY_limitList
  try dsimp only
  refine ⟨vp_in_nI hn (by omega), nm_r (qp_rd hn eL) ⟨S.length + 1, ?_⟩⟩
  have z0 : (if m < 0 then m else 0) = 0 := if_neg (by omega)
  refine qp_loop (fun k i h a' => wY_limitList_9 post (nI n) (nI l) k (nI i) tn nc rh rc tb th tw nk nl nr p1 p2 p3 nw us bo h a' rs) (fun i h a' => qp_Out n w (qp_tab (if m < i then m else i) (qp_g S)) ct vl h a') S.length ?_ ?_ (S.length + 1) 0 ct vl (by omega) (by omega) (by rw [z0]; exact qp_Out_0 e0)
  · intro k h a' O
    have eH' : h l = nI S.length := (O.2.1 l (by omega)).trans eS
    refine ⟨vp_in_nI (by omega) (by omega), ?_⟩
    rw [qp_rd (f := h) (by omega) eH']
    exact br_t (nI_le (Nat.le_refl _) (by omega)) (H h a' O)
  · intro k i h a' hi O ih
    have eH' : h l = nI S.length := (O.2.1 l (by omega)).trans eS
    refine ⟨vp_in_nI (by omega) (by omega), ?_⟩
    rw [qp_rd (f := h) (by omega) eH']
    refine br_f (nI_ge hi (by omega)) ⟨vp_in_nI hn (by omega), ?_⟩
    rw [qp_rd (f := p1) hn eD]
    refine pk_le m i (fun z => ?_) (fun z => ?_) rfl rfl hm (by omega)
    · refine nm_r (nI_1 i) (ih h a' ?_)
      rw [if_pos (by omega)]
      by_cases y : m < i
      · rw [if_pos y] at O; exact O
      · rw [if_neg y] at O
        have : i = m := by omega
        subst this; exact O
    · rw [if_neg (by omega)] at O
      refine y_copy rfl rfl rfl hn (by omega) (by omega) eW hw O (by rw [qp_tab_len]; omega) (qp_Out_rd O hS h24 hw (by omega)) hi h24 ?_
      intro ct' vl' O'
      refine nm_r (nI_1 i) (ih ct' vl' ?_)
      rw [if_neg (by omega), qp_tab_s]; exact O'
theorem y_eqRows {post : Int32 → Prop} {q0 q1 q2 : Int32} {s i j w : Nat} {S : List qp_Row} (e0 : q0 = nI s) (e1 : q1 = nI i) (e2 : q2 = nI j) (hs : s < 12) (eW : nw s = nI w) (hw : w ≤ 6) (hS : qp_Rep vl s w S) (h24 : S.length ≤ 24) (hi : i < S.length) (hj : j < S.length) (ht : qp_eqv w (qp_g S i) (qp_g S j) → post 1) (hf : ¬ qp_eqv w (qp_g S i) (qp_g S j) → post 0) : wpY_equalRows post (tn, nc, rh, rc, tb, th, tw, nk, nl, nr, p1, p2, p3, nw, us, bo, ct, vl, rs) q0 q1 q2 := by
  subst e0 e1 e2
  unfold wpY_equalRows
  try dsimp only
  refine ⟨w + 1, ?_⟩
  refine qp_loop0 (fun k c => wY_equalRows_3 post (nI s) (nI i) (nI j) tn nc rh rc tb th tw nk nl nr p1 p2 p3 nw us bo ct vl rs k (nI c)) (fun c => ∀ x, x < c → qp_g S i x = qp_g S j x) w ?_ ?_ (w + 1) 0 (by omega) (by omega) (fun c h => absurd h (Nat.not_lt_zero c))
  · intro k I
    refine ⟨vp_in_nI hs (by omega), ?_⟩
    rw [qp_rd hs eW]
    exact br_t (nI_le (Nat.le_refl _) (by omega)) (ht I)
  · intro k c hc I ih
    refine ⟨vp_in_nI hs (by omega), ?_⟩
    rw [qp_rd hs eW]
    refine br_f (nI_ge hc (by omega)) ?_
    rw [qp_iy, qp_iy, nI_clamp (by omega), nI_clamp (by omega), hS i c hi hc, hS j c hj hc]
    refine ⟨vp_in_nI (by omega) (by omega), vp_in_nI (by omega) (by omega), br_c (fun h => ?_) (fun h => ?_)⟩
    · refine nm_r (nI_1 c) (ih (fun x hx => ?_))
      by_cases z : x = c
      · subst z; exact h
      · exact I x (by omega)
    · exact hf (fun z => h (z c hc))
theorem y_distinct {post : SY → Prop} {n l w : Nat} {S : List qp_Row} (hn : n < 12) (hl : l < n) (eL : nl n = nI l) (eW : nw l = nI w) (hw : w ≤ 6) (hS : qp_Rep vl l w S) (eS : ct l = nI S.length) (h24 : S.length ≤ 24) (e0 : ct n = 0) (H : ∀ ct' vl', qp_Out n w (qp_di S w S.length) ct vl ct' vl' → post (tn, nc, rh, rc, tb, th, tw, nk, nl, nr, p1, p2, p3, nw, us, bo, ct', vl', rs)) : wpY_distinctList post (tn, nc, rh, rc, tb, th, tw, nk, nl, nr, p1, p2, p3, nw, us, bo, ct, vl, rs) (nI n) := by
  unfold wpY_distinctList
  try dsimp only
  refine ⟨vp_in_nI hn (by omega), nm_r (qp_rd hn eL) ⟨S.length + 1, ?_⟩⟩
  refine qp_loop (fun k i h a' => wY_distinctList_9 post (nI n) (nI l) k (nI i) tn nc rh rc tb th tw nk nl nr p1 p2 p3 nw us bo h a' rs) (fun i h a' => qp_Out n w (qp_di S w i) ct vl h a') S.length ?_ ?_ (S.length + 1) 0 ct vl (by omega) (by omega) (qp_Out_0 e0)
  · intro k h a' O
    have eH' : h l = nI S.length := (O.2.1 l (by omega)).trans eS
    refine ⟨vp_in_nI (by omega) (by omega), ?_⟩
    rw [qp_rd (f := h) (by omega) eH']
    exact br_t (nI_le (Nat.le_refl _) (by omega)) (H h a' O)
  · intro k i h a' hi O ih
    have eH' : h l = nI S.length := (O.2.1 l (by omega)).trans eS
    have hS' := qp_Out_rd O hS h24 hw (by omega)
    have hlen := qp_di_len S w i
    refine ⟨vp_in_nI (by omega) (by omega), ?_⟩
    rw [qp_rd (f := h) (by omega) eH']
    refine br_f (nI_ge hi (by omega)) ⟨i + 1, ?_⟩
    refine qp_loop1 (fun m j (x : Int32) => wY_distinctList_25 post (wY_distinctList_9 post (nI n) (nI l) k) (nI n) (nI l) (nI i) tn nc rh rc tb th tw nk nl nr p1 p2 p3 nw us bo h a' rs m x (nI j)) (fun j x => (x = 0 ∧ ∃ t, t < j ∧ qp_eqv w (qp_g S i) (qp_g S t)) ∨ (x = 1 ∧ ¬ ∃ t, t < j ∧ qp_eqv w (qp_g S i) (qp_g S t))) i ?_ ?_ (i + 1) 0 1 (by omega) (by omega) (Or.inr ⟨rfl, fun ⟨t, ht, _⟩ => absurd ht (Nat.not_lt_zero t)⟩)
    · intro m x I
      refine br_t (nI_le (Nat.le_refl _) (by omega)) ?_
      rcases I with ⟨rfl, I⟩ | ⟨rfl, I⟩
      · refine br_t rfl (nm_r (nI_1 i) (ih h a' ?_))
        show qp_Out n w (qp_if (∃ j, j < i ∧ qp_eqv w (qp_g S i) (qp_g S j)) _ _) ct vl h a'
        rw [qp_if_t I]; exact O
      · refine br_f (by decide) ?_
        refine y_copy rfl rfl rfl hn (by omega) (by omega) eW hw O (by omega) hS' hi h24 ?_
        intro ct' vl' O'
        refine nm_r (nI_1 i) (ih ct' vl' ?_)
        show qp_Out n w (qp_if (∃ j, j < i ∧ qp_eqv w (qp_g S i) (qp_g S j)) _ _) ct vl ct' vl'
        rw [qp_if_f I]; exact O'
    · intro m j x hj I ihj
      refine br_f (nI_ge hj (by omega)) ?_
      refine y_eqRows rfl rfl rfl (by omega) eW hw hS' h24 hi (by omega) (fun hp => ?_) (fun hp => ?_)
      · exact br_f (by decide) (nm_r (nI_1 j) (ihj 0 (Or.inl ⟨rfl, j, by omega, hp⟩)))
      · refine br_t rfl (nm_r (nI_1 j) (ihj x ?_))
        rcases I with ⟨ex, t, ht, e⟩ | ⟨ex, I⟩
        · exact Or.inl ⟨ex, t, by omega, e⟩
        · refine Or.inr ⟨ex, fun ⟨t, ht, e⟩ => ?_⟩
          by_cases z : t = j
          · subst z; exact hp e
          · exact I ⟨t, by omega, e⟩
theorem y_place {post : Int32 → Prop} {q0 q1 : Int32} {n l q a w : Nat} {d : Prop} {S : List qp_Row} (e0 : q0 = nI n) (e1 : q1 = nI q) (hn : n < 12) (hl : l < n) (eL : nl n = nI l) (hw : w ≤ 6) (eA : p1 n = nI a) (ha : a < w) (hd : (d ∧ p2 n = 1) ∨ (¬ d ∧ p2 n = 0)) (hS : qp_Rep vl l w S) (eS : ct l = nI S.length) (h24 : S.length ≤ 24) (hq : q < S.length) (H : post (nI (qp_rk d (fun t => qp_g S t a) S.length q))) : wpY_place post (tn, nc, rh, rc, tb, th, tw, nk, nl, nr, p1, p2, p3, nw, us, bo, ct, vl, rs) q0 q1 := by
  subst e0 e1
  unfold wpY_place
  try dsimp only
  refine ⟨vp_in_nI hn (by omega), nm_r (qp_rd hn eL) ⟨vp_in_nI hn (by omega), ?_⟩⟩
  refine y_get rfl rfl (qp_rd hn eA) (hS q a hq ha) (by omega) ?_
  refine ⟨S.length + 1, ?_⟩
  have hcnt : ∀ i, qp_cnt (qp_bf d (fun t => qp_g S t a) q) i ≤ i := qp_cnt_le _
  refine qp_loop1 (fun k i x => wY_place_27 post (nI n) (nI q) (nI l) (qp_g S q a) tn nc rh rc tb th tw nk nl nr p1 p2 p3 nw us bo ct vl rs k x (nI i)) (fun i x => x = nI (qp_cnt (qp_bf d (fun t => qp_g S t a) q) i)) S.length ?_ ?_ (S.length + 1) 0 0 (by omega) (by omega) rfl
  · intro k x I
    refine ⟨vp_in_nI (by omega) (by omega), ?_⟩
    rw [qp_rd (f := ct) (by omega) eS]
    refine br_t (nI_le (Nat.le_refl _) (by omega)) ?_
    rw [I]; exact H
  · intro k i x hi I ih
    refine ⟨vp_in_nI (by omega) (by omega), ?_⟩
    rw [qp_rd (f := ct) (by omega) eS]
    refine br_f (nI_ge hi (by omega)) ⟨vp_in_nI hn (by omega), ?_⟩
    rw [qp_rd (f := p1) hn eA, qp_iy, nI_clamp (show l * 144 + i * 6 + a < 2 ^ 31 by omega), hS i a hi ha]
    have yes : qp_bf d (fun t => qp_g S t a) q i → x + 1 = nI (qp_cnt (qp_bf d (fun t => qp_g S t a) q) (i + 1)) := by
      intro hy
      show x + 1 = nI (qp_if _ _ _)
      rw [qp_if_t hy, I, nI_1]
    have no : ¬ qp_bf d (fun t => qp_g S t a) q i → x = nI (qp_cnt (qp_bf d (fun t => qp_g S t a) q) (i + 1)) := by
      intro hy
      show x = nI (qp_if _ _ _)
      rw [qp_if_f hy, I]
    have c1 : ((d ∧ qp_g S q a < qp_g S i a) ∨ (¬ d ∧ qp_g S i a < qp_g S q a)) → wY_place_100 post (wY_place_27 post (nI n) (nI q) (nI l) (qp_g S q a) tn nc rh rc tb th tw nk nl nr p1 p2 p3 nw us bo ct vl rs k) (nI n) (nI q) (nI l) (qp_g S q a) x (nI i) (qp_g S i a) 1 tn nc rh rc tb th tw nk nl nr p1 p2 p3 nw us bo ct vl rs := by
      intro hy
      unfold wY_place_100
      refine br_f (by decide) (nm_e (nm_r (nI_1 i) (ih _ (yes ?_))))
      rcases hy with hy | hy
      · exact Or.inl hy
      · exact Or.inr (Or.inl hy)
    have c0 : ¬ ((d ∧ qp_g S q a < qp_g S i a) ∨ (¬ d ∧ qp_g S i a < qp_g S q a)) → wY_place_100 post (wY_place_27 post (nI n) (nI q) (nI l) (qp_g S q a) tn nc rh rc tb th tw nk nl nr p1 p2 p3 nw us bo ct vl rs k) (nI n) (nI q) (nI l) (qp_g S q a) x (nI i) (qp_g S i a) 0 tn nc rh rc tb th tw nk nl nr p1 p2 p3 nw us bo ct vl rs := by
      intro hy
      unfold wY_place_100
      refine br_t rfl (br_c (fun h => pk_le q i (fun z => ?_) (fun z => ?_)) (fun h => ?_))
      · refine nm_r (nI_1 i) (ih x (no (fun y => ?_)))
        rcases y with y | y | ⟨_, y⟩
        · exact hy (Or.inl y)
        · exact hy (Or.inr y)
        · omega
      · exact nm_e (nm_r (nI_1 i) (ih _ (yes (Or.inr (Or.inr ⟨h, z⟩)))))
      · refine nm_r (nI_1 i) (ih x (no (fun y => ?_)))
        rcases y with y | y | ⟨y, _⟩
        · exact hy (Or.inl y)
        · exact hy (Or.inr y)
        · exact h y
    refine ⟨vp_in_nI (by omega) (by omega), nm_e ⟨vp_in_nI hn (by omega), ?_⟩⟩
    rw [qp_rd (f := p2) hn rfl]
    rcases hd with ⟨hd, e⟩ | ⟨hd, e⟩
    · refine br_t e (br_c (fun z => c0 ?_) (fun z => c1 (Or.inl ⟨hd, Int32.not_le.mp z⟩)))
      rintro (⟨_, y⟩ | ⟨y, _⟩)
      · exact Int32.not_lt.mpr z y
      · exact y hd
    · refine br_f (by rw [e]; decide) (br_c (fun z => c0 ?_) (fun z => c1 (Or.inr ⟨hd, Int32.not_le.mp z⟩)))
      rintro (⟨y, _⟩ | ⟨_, y⟩)
      · exact hd y
      · exact Int32.not_lt.mpr z y
theorem y_sort {post : SY → Prop} {n l a w : Nat} {d : Prop} {S : List qp_Row} (hn : n < 12) (hl : l < n) (eL : nl n = nI l) (eW : nw l = nI w) (hw : w ≤ 6) (eA : p1 n = nI a) (ha : a < w) (hd : (d ∧ p2 n = 1) ∨ (¬ d ∧ p2 n = 0)) (hS : qp_Rep vl l w S) (eS : ct l = nI S.length) (h24 : S.length ≤ 24) (e0 : ct n = 0) (H : ∀ ct' vl', qp_Out n w (qp_tab S.length (qp_so S d a)) ct vl ct' vl' → post (tn, nc, rh, rc, tb, th, tw, nk, nl, nr, p1, p2, p3, nw, us, bo, ct', vl', rs)) : wpY_sortList post (tn, nc, rh, rc, tb, th, tw, nk, nl, nr, p1, p2, p3, nw, us, bo, ct, vl, rs) (nI n) := by
  unfold wpY_sortList
  try dsimp only
  refine ⟨vp_in_nI hn (by omega), nm_r (qp_rd hn eL) ⟨S.length + 1, ?_⟩⟩
  refine qp_loop (fun k i h a' => wY_sortList_9 post (nI n) (nI l) k (nI i) tn nc rh rc tb th tw nk nl nr p1 p2 p3 nw us bo h a' rs) (fun i h a' => qp_Out n w (qp_tab i (qp_so S d a)) ct vl h a') S.length ?_ ?_ (S.length + 1) 0 ct vl (by omega) (by omega) (qp_Out_0 e0)
  · intro k h a' O
    have eH' : h l = nI S.length := (O.2.1 l (by omega)).trans eS
    refine ⟨vp_in_nI (by omega) (by omega), ?_⟩
    rw [qp_rd (f := h) (by omega) eH']
    exact br_t (nI_le (Nat.le_refl _) (by omega)) (H h a' O)
  · intro k i h a' hi O ih
    have eH' : h l = nI S.length := (O.2.1 l (by omega)).trans eS
    refine ⟨vp_in_nI (by omega) (by omega), ?_⟩
    rw [qp_rd (f := h) (by omega) eH']
    refine br_f (nI_ge hi (by omega)) ⟨S.length + 1, ?_⟩
    have hiv := qp_iv_ok d (fun t => qp_g S t a) hi
    refine qp_loop (fun m j h a' => wY_sortList_22 post (wY_sortList_9 post (nI n) (nI l) k) (nI n) (nI l) (nI i) m (nI j) tn nc rh rc tb th tw nk nl nr p1 p2 p3 nw us bo h a' rs) (fun j h a' => (j ≤ qp_iv d (fun t => qp_g S t a) S.length i ∧ qp_Out n w (qp_tab i (qp_so S d a)) ct vl h a') ∨ (qp_iv d (fun t => qp_g S t a) S.length i < j ∧ qp_Out n w (qp_tab (i + 1) (qp_so S d a)) ct vl h a')) S.length ?_ ?_ (S.length + 1) 0 h a' (by omega) (by omega) (Or.inl ⟨by omega, O⟩)
    · intro m h a' I
      rcases I with ⟨z, _⟩ | ⟨_, O⟩
      · omega
      · have eH' : h l = nI S.length := (O.2.1 l (by omega)).trans eS
        refine ⟨vp_in_nI (by omega) (by omega), ?_⟩
        rw [qp_rd (f := h) (by omega) eH']
        exact br_t (nI_le (Nat.le_refl _) (by omega)) (nm_r (nI_1 i) (ih h a' O))
    · intro m j h a' hj I ihj
      have hO : ∃ R, qp_Out n w R ct vl h a' := by
        rcases I with ⟨_, O⟩ | ⟨_, O⟩
        · exact ⟨_, O⟩
        · exact ⟨_, O⟩
      obtain ⟨R, OR⟩ := hO
      have eH' : h l = nI S.length := (OR.2.1 l (by omega)).trans eS
      have hS' := qp_Out_rd OR hS h24 hw (by omega)
      have hrk := qp_rk_lt d (fun t => qp_g S t a) hj
      refine ⟨vp_in_nI (by omega) (by omega), ?_⟩
      rw [qp_rd (f := h) (by omega) eH']
      refine br_f (nI_ge hj (by omega)) ?_
      refine y_place rfl rfl hn hl eL hw eA ha hd hS' eH' h24 hj ?_
      refine pk_eq (qp_rk d (fun t => qp_g S t a) S.length j) i (fun z => ?_) (fun z => ?_) rfl rfl (by omega) (by omega)
      · have ej : qp_iv d (fun t => qp_g S t a) S.length i = j := by rw [← z]; exact qp_iv_rk d (fun t => qp_g S t a) hj
        rcases I with ⟨_, O⟩ | ⟨y, _⟩
        · refine y_copy rfl rfl rfl hn (by omega) (by omega) eW hw O (by rw [qp_tab_len]; omega) hS' hj h24 ?_
          intro ct' vl' O'
          refine nm_r (nI_1 j) (ihj ct' vl' (Or.inr ⟨by omega, ?_⟩))
          rw [qp_tab_s]
          show qp_Out n w (qp_tab i (qp_so S d a) ++ [qp_g S (qp_iv d (fun t => qp_g S t a) S.length i)]) ct vl ct' vl'
          rw [ej]; exact O'
        · omega
      · refine nm_r (nI_1 j) (ihj h a' ?_)
        rcases I with ⟨y, O⟩ | ⟨y, O⟩
        · refine Or.inl ⟨?_, O⟩
          by_cases q : qp_iv d (fun t => qp_g S t a) S.length i = j
          · exact absurd (by rw [← q]; exact hiv.2) z
          · omega
        · exact Or.inr ⟨by omega, O⟩
end qp_Y2
end
section
/-! the reference: group -/
section qp_Y3
variable {tn nc rh rc : Int32} {tb th tw nk nl nr p1 p2 p3 nw us bo ct vl rs : Nat → Int32}
theorem y_aggregate {post : Int32 → Prop} {q0 q1 : Int32} {n l i a b w : Nat} {S : List qp_Row} (e0 : q0 = nI n) (e1 : q1 = nI i) (hn : n < 12) (hl : l < n) (eL : nl n = nI l) (hw : w ≤ 6) (eA : p1 n = nI a) (ha : a < w) (eB : p3 n = nI b) (hb : b < w) (ho : p2 n = 0 ∨ p2 n = 1 ∨ p2 n = 2 ∨ p2 n = 3) (hS : qp_Rep vl l w S) (eS : ct l = nI S.length) (h24 : S.length ≤ 24) (hi : i < S.length) (H : post (qp_ag S (p2 n) a b (qp_g S i a) (qp_g S i b) S.length)) : wpY_aggregate post (tn, nc, rh, rc, tb, th, tw, nk, nl, nr, p1, p2, p3, nw, us, bo, ct, vl, rs) q0 q1 := by
  subst e0 e1
  unfold wpY_aggregate
  try dsimp only
  refine ⟨vp_in_nI hn (by omega), nm_r (qp_rd hn eL) ⟨vp_in_nI hn (by omega), ?_⟩⟩
  refine y_get rfl rfl (qp_rd hn eA) (hS i a hi ha) (by omega) ?_
  refine ⟨vp_in_nI hn (by omega), ?_⟩
  refine y_get rfl rfl (qp_rd hn eB) (hS i b hi hb) (by omega) ?_
  refine ⟨S.length + 1, ?_⟩
  generalize qp_g S i a = key at *
  generalize qp_g S i b = v0 at *
  refine qp_loop1 (fun k j (s : Int32 × Int32 × Int32 × Int32) => wY_aggregate_48 post (nI n) (nI l) key tn nc rh rc tb th tw nk nl nr p1 p2 p3 nw us bo ct vl rs k s.1 s.2.1 s.2.2.1 s.2.2.2 (nI j)) (fun j s => s.1 = qp_ag S 0 a b key v0 j ∧ s.2.1 = qp_ag S 1 a b key v0 j ∧ s.2.2.1 = qp_ag S 2 a b key v0 j ∧ s.2.2.2 = qp_ag S 3 a b key v0 j) S.length ?_ ?_ (S.length + 1) 0 (0, 0, v0, v0) (by omega) (by omega) ⟨rfl, rfl, rfl, rfl⟩
  · intro k s I
    obtain ⟨x5, x6, x7, x8⟩ := s
    obtain ⟨i0, i1, i2, i3⟩ := I
    dsimp only at i0 i1 i2 i3
    refine ⟨vp_in_nI (by omega) (by omega), ?_⟩
    rw [qp_rd (f := ct) (by omega) eS, qp_rd (f := p2) hn rfl]
    refine br_t (nI_le (Nat.le_refl _) (by omega)) ⟨vp_in_nI hn (by omega), ?_⟩
    rcases ho with h | h | h | h
    · rw [h] at H; exact br_t h (by rw [i0]; exact H)
    · rw [h] at H; exact br_f (by rw [h]; decide) ⟨vp_in_nI hn (by omega), br_t h (by rw [i1]; exact H)⟩
    · rw [h] at H; exact br_f (by rw [h]; decide) ⟨vp_in_nI hn (by omega), br_f (by rw [h]; decide) ⟨vp_in_nI hn (by omega), br_t h (by rw [i2]; exact H)⟩⟩
    · rw [h] at H; exact br_f (by rw [h]; decide) ⟨vp_in_nI hn (by omega), br_f (by rw [h]; decide) ⟨vp_in_nI hn (by omega), br_f (by rw [h]; decide) (by rw [i3]; exact H)⟩⟩
  · intro k j s hj I ih
    obtain ⟨x5, x6, x7, x8⟩ := s
    obtain ⟨i0, i1, i2, i3⟩ := I
    dsimp only at i0 i1 i2 i3
    refine ⟨vp_in_nI (by omega) (by omega), ?_⟩
    rw [qp_rd (f := ct) (by omega) eS]
    refine br_f (nI_ge hj (by omega)) ⟨vp_in_nI hn (by omega), ?_⟩
    rw [qp_rd (f := p1) hn eA, qp_rd (f := p3) hn eB, qp_iy, qp_iy, nI_clamp (show l * 144 + j * 6 + a < 2 ^ 31 by omega), nI_clamp (show l * 144 + j * 6 + b < 2 ^ 31 by omega), hS j a hj ha, hS j b hj hb]
    refine ⟨vp_in_nI (by omega) (by omega), br_c (fun h => ?_) (fun h => ?_)⟩
    · have t0 := qp_ag_t (S := S) (o := 0) (a := a) (b := b) (v0 := v0) h
      have t1 := qp_ag_t (S := S) (o := 1) (a := a) (b := b) (v0 := v0) h
      have t2 := qp_ag_t (S := S) (o := 2) (a := a) (b := b) (v0 := v0) h
      have t3 := qp_ag_t (S := S) (o := 3) (a := a) (b := b) (v0 := v0) h
      rw [← i0] at t0
      rw [← i1] at t1
      rw [← i2] at t2
      rw [← i3] at t3
      have fin : ∀ z0 z1, z0 = (if qp_g S j b < x7 then qp_g S j b else x7) → z1 = (if x8 < qp_g S j b then qp_g S j b else x8) → wY_aggregate_48 post (nI n) (nI l) key tn nc rh rc tb th tw nk nl nr p1 p2 p3 nw us bo ct vl rs k (x5 + 1) (x6 + qp_g S j b) z0 z1 (nI (j + 1)) := by
        intro z0 z1 ez0 ez1
        exact ih (x5 + 1, x6 + qp_g S j b, z0, z1) ⟨t0.symm, t1.symm, ez0.trans t2.symm, ez1.trans t3.symm⟩
      have g0 : ∀ z0, z0 = (if qp_g S j b < x7 then qp_g S j b else x7) → wY_aggregate_136 post (wY_aggregate_48 post (nI n) (nI l) key tn nc rh rc tb th tw nk nl nr p1 p2 p3 nw us bo ct vl rs k) (nI n) (nI l) key (x5 + 1) (x6 + qp_g S j b) x8 (nI j) (qp_g S j b) z0 tn nc rh rc tb th tw nk nl nr p1 p2 p3 nw us bo ct vl rs := by
        intro z0 ez0
        unfold wY_aggregate_136
        refine br_c (fun y => nm_r (nI_1 j) (fin z0 _ ez0 ?_)) (fun y => nm_r (nI_1 j) (fin z0 _ ez0 ?_))
        · rw [if_neg (Int32.not_lt.mpr y)]
        · rw [if_pos (Int32.not_le.mp y)]
      refine ⟨vp_in_nI hn (by omega), vp_in_nI (by omega) (by omega), nm_e (nm_e (nm_e (br_c (fun y => g0 _ ?_) (fun y => g0 _ ?_))))⟩
      · rw [if_neg (Int32.not_lt.mpr y)]
      · rw [if_pos (Int32.not_le.mp y)]
    · refine nm_r (nI_1 j) (ih (x5, x6, x7, x8) ⟨?_, ?_, ?_, ?_⟩)
      · rw [qp_ag_f h]; exact i0
      · rw [qp_ag_f h]; exact i1
      · rw [qp_ag_f h]; exact i2
      · rw [qp_ag_f h]; exact i3
theorem y_group {post : SY → Prop} {n l a b w : Nat} {S : List qp_Row} (hn : n < 12) (hl : l < n) (eL : nl n = nI l) (hw : w ≤ 6) (eA : p1 n = nI a) (ha : a < w) (eB : p3 n = nI b) (hb : b < w) (ho : p2 n = 0 ∨ p2 n = 1 ∨ p2 n = 2 ∨ p2 n = 3) (hS : qp_Rep vl l w S) (eS : ct l = nI S.length) (h24 : S.length ≤ 24) (e0 : ct n = 0) (H : ∀ ct' vl', qp_Out n 2 (qp_gp S (p2 n) a b S.length S.length) ct vl ct' vl' → post (tn, nc, rh, rc, tb, th, tw, nk, nl, nr, p1, p2, p3, nw, us, bo, ct', vl', rs)) : wpY_groupList post (tn, nc, rh, rc, tb, th, tw, nk, nl, nr, p1, p2, p3, nw, us, bo, ct, vl, rs) (nI n) := by
  unfold wpY_groupList
  try dsimp only
  refine ⟨vp_in_nI hn (by omega), nm_r (qp_rd hn eL) ⟨S.length + 1, ?_⟩⟩
  refine qp_loop (fun k i h a' => wY_groupList_9 post (nI n) (nI l) tn nc rh rc k (nI i) tb th tw nk nl nr p1 p2 p3 nw us bo h a' rs) (fun i h a' => qp_Out n 2 (qp_gp S (p2 n) a b S.length i) ct vl h a') S.length ?_ ?_ (S.length + 1) 0 ct vl (by omega) (by omega) (qp_Out_0 e0)
  · intro k h a' O
    have eH' : h l = nI S.length := (O.2.1 l (by omega)).trans eS
    refine ⟨vp_in_nI (by omega) (by omega), ?_⟩
    rw [qp_rd (f := h) (by omega) eH']
    exact br_t (nI_le (Nat.le_refl _) (by omega)) (H h a' O)
  · intro k i h a' hi O ih
    have eH' : h l = nI S.length := (O.2.1 l (by omega)).trans eS
    have hS' := qp_Out_rd O hS h24 hw (by omega)
    have hlen := qp_gp_len S (p2 n) a b S.length i
    refine ⟨vp_in_nI (by omega) (by omega), ?_⟩
    rw [qp_rd (f := h) (by omega) eH']
    refine br_f (nI_ge hi (by omega)) ⟨vp_in_nI hn (by omega), ?_⟩
    refine y_get rfl rfl (qp_rd hn eA) (hS' i a hi ha) (by omega) ?_
    refine ⟨i + 1, ?_⟩
    refine qp_loop1 (fun m j (x : Int32) => wY_groupList_39 post (wY_groupList_9 post (nI n) (nI l) tn nc rh rc k) (nI n) (nI l) (nI i) (qp_g S i a) tn nc rh rc tb th tw nk nl nr p1 p2 p3 nw us bo h a' rs m x (nI j)) (fun j x => (x = 0 ∧ ∃ t, t < j ∧ qp_g S t a = qp_g S i a) ∨ (x = 1 ∧ ¬ ∃ t, t < j ∧ qp_g S t a = qp_g S i a)) i ?_ ?_ (i + 1) 0 1 (by omega) (by omega) (Or.inr ⟨rfl, fun ⟨t, ht, _⟩ => absurd ht (Nat.not_lt_zero t)⟩)
    · intro m x I
      refine br_t (nI_le (Nat.le_refl _) (by omega)) ?_
      rcases I with ⟨rfl, t, ht, e⟩ | ⟨rfl, I⟩
      · refine br_t rfl (nm_r (nI_1 i) (ih h a' ?_))
        rw [qp_gp_f (fun z => z t ht e)]; exact O
      · have hf : qp_fst S a i := fun t ht e => I ⟨t, ht, e⟩
        refine br_f (by decide) ⟨vp_in_nI hn (by omega), ?_⟩
        rw [qp_rd (f := h) hn (qp_Out_h O)]
        refine br_f (nI_ge (b := 24) (by omega) (by decide)) ?_
        refine y_aggregate rfl rfl hn hl eL hw eA ha eB hb ho hS' eH' h24 hi ?_
        rw [qp_iy0, nI_1, nI_1, nI_clamp (by omega), nI_clamp (by omega), nI_clamp (show n < 2 ^ 31 by omega)]
        refine ⟨vp_in_nI hn (by omega), vp_in_nI (by omega) (by omega), nm_e ⟨vp_in_nI hn (by omega), vp_in_nI (by omega) (by omega), nm_e ⟨vp_in_nI hn (by omega), vp_in_nI hn (by omega), nm_e (nm_r (nI_1 i) (ih _ _ ?_))⟩⟩⟩
        rw [qp_gp_t hf]
        refine qp_Out_app O (by omega) (by omega) _ (fun c hc => ?_) (fun p hp => ?_)
        · by_cases z : c = 0
          · subst z
            rw [pk_un (by omega), Nat.add_zero, pk_us]; rfl
          · have z2 : c = 1 := by omega
            subst z2
            rw [pk_us]; rfl
        · rw [pk_un (by omega), pk_un (by omega)]
    · intro m j x hj I ihj
      refine br_f (nI_ge hj (by omega)) ⟨vp_in_nI hn (by omega), ?_⟩
      rw [qp_rd (f := p1) hn eA, qp_iy, nI_clamp (show l * 144 + j * 6 + a < 2 ^ 31 by omega), hS' j a (by omega) ha]
      refine ⟨vp_in_nI (by omega) (by omega), br_c (fun hp => ?_) (fun hp => ?_)⟩
      · exact nm_r (nI_1 j) (ihj 0 (Or.inl ⟨rfl, j, by omega, hp⟩))
      · refine nm_r (nI_1 j) (ihj x ?_)
        rcases I with ⟨ex, t, ht, e⟩ | ⟨ex, I⟩
        · exact Or.inl ⟨ex, t, by omega, e⟩
        · refine Or.inr ⟨ex, fun ⟨t, ht, e⟩ => ?_⟩
          by_cases z : t = j
          · subst z; exact hp e
          · exact I ⟨t, by omega, e⟩
end qp_Y3
end
section
/-! the reference: join -/
section qp_Y4
variable {tn nc rh rc : Int32} {tb th tw nk nl nr p1 p2 p3 nw us bo ct vl rs : Nat → Int32}
theorem y_behind {post : SY → Prop} {q0 q1 q2 : Int32} {n l q r m wl wr : Nat} (e0 : q0 = nI n) (e1 : q1 = nI q) (e2 : q2 = nI r) (hn : n < 12) (hl : l < 12) (hq : q < 12) (hr : r < 24) (hm : m < 24) (eL : nl n = nI l) (eWl : nw l = nI wl) (eWr : nw q = nI wr) (hw : wl + wr ≤ 6) (hqn : q ≠ n) (ec : ct n = nI (m + 1)) (H : ∀ vl', qp_Cp (n * 144 + m * 6 + wl) (q * 144 + r * 6) wr vl vl' → post (tn, nc, rh, rc, tb, th, tw, nk, nl, nr, p1, p2, p3, nw, us, bo, ct, vl', rs)) : wpY_behind post (tn, nc, rh, rc, tb, th, tw, nk, nl, nr, p1, p2, p3, nw, us, bo, ct, vl, rs) q0 q1 q2 := by
  subst e0 e1 e2
  unfold wpY_behind
  try dsimp only
  rw [qp_rd (f := nl) hn eL, qp_rd (f := nw) hl eWl, qp_rd (f := ct) hn ec, nI_pred, qp_iy]
  refine ⟨vp_in_nI hn (by omega), vp_in_nI hn (by omega), vp_in_nI hl (by omega), nm_e ⟨wr + 1, ?_⟩⟩
  refine qp_loop1 (fun k i a => wY_behind_34 post (nI q) (nI r) (nI (n * 144 + m * 6 + wl)) tn nc rh rc k (nI i) tb th tw nk nl nr p1 p2 p3 nw us bo ct a rs) (fun i a => qp_Cp (n * 144 + m * 6 + wl) (q * 144 + r * 6) i vl a) wr ?_ ?_ (wr + 1) 0 vl (by omega) (by omega) (qp_Cp_0 _ _ _)
  · intro k a I
    refine ⟨vp_in_nI hq (by omega), ?_⟩
    rw [qp_rd (f := nw) hq eWr]
    exact br_t (nI_le (Nat.le_refl _) (by omega)) (H a I)
  · intro k i a hi I ih
    refine ⟨vp_in_nI hq (by omega), ?_⟩
    rw [qp_rd (f := nw) hq eWr]
    refine br_f (nI_ge hi (by omega)) (br_t (nI_pos' (by omega)) ?_)
    rw [qp_iy, nI_add, nI_clamp (by omega), nI_clamp (by omega)]
    exact ⟨vp_in_nI (by omega) (by omega), vp_in_nI (by omega) (by omega), nm_e (nm_r (nI_1 i) (ih _ (qp_Cp_s I hi (by omega) rfl)))⟩
theorem y_behind0 {post : SY → Prop} {q0 q1 : Int32} {n l q m wl wr : Nat} (e0 : q0 = nI n) (e1 : q1 = nI q) (hn : n < 12) (hl : l < 12) (hq : q < 12) (hm : m < 24) (eL : nl n = nI l) (eWl : nw l = nI wl) (eWr : nw q = nI wr) (hw : wl + wr ≤ 6) (ec : ct n = nI (m + 1)) (H : ∀ vl', (∀ c, c < wr → vl' (n * 144 + m * 6 + wl + c) = 0) → (∀ p, (p < n * 144 + m * 6 + wl ∨ n * 144 + m * 6 + wl + wr ≤ p) → vl' p = vl p) → post (tn, nc, rh, rc, tb, th, tw, nk, nl, nr, p1, p2, p3, nw, us, bo, ct, vl', rs)) : wpY_behind post (tn, nc, rh, rc, tb, th, tw, nk, nl, nr, p1, p2, p3, nw, us, bo, ct, vl, rs) q0 q1 (-1) := by
  subst e0 e1
  unfold wpY_behind
  try dsimp only
  rw [qp_rd (f := nl) hn eL, qp_rd (f := nw) hl eWl, qp_rd (f := ct) hn ec, nI_pred, qp_iy]
  refine ⟨vp_in_nI hn (by omega), vp_in_nI hn (by omega), vp_in_nI hl (by omega), nm_e ⟨wr + 1, ?_⟩⟩
  refine qp_loop1 (fun k i a => wY_behind_34 post (nI q) (-1) (nI (n * 144 + m * 6 + wl)) tn nc rh rc k (nI i) tb th tw nk nl nr p1 p2 p3 nw us bo ct a rs) (fun i a => (∀ c, c < i → a (n * 144 + m * 6 + wl + c) = 0) ∧ ∀ p, (p < n * 144 + m * 6 + wl ∨ n * 144 + m * 6 + wl + i ≤ p) → a p = vl p) wr ?_ ?_ (wr + 1) 0 vl (by omega) (by omega) ⟨fun c h => absurd h (Nat.not_lt_zero c), fun _ _ => rfl⟩
  · intro k a I
    refine ⟨vp_in_nI hq (by omega), ?_⟩
    rw [qp_rd (f := nw) hq eWr]
    exact br_t (nI_le (Nat.le_refl _) (by omega)) (H a I.1 I.2)
  · intro k i a hi I ih
    refine ⟨vp_in_nI hq (by omega), ?_⟩
    rw [qp_rd (f := nw) hq eWr]
    refine br_f (nI_ge hi (by omega)) (br_f (by decide) ?_)
    rw [nI_add, nI_clamp (by omega)]
    refine ⟨vp_in_nI (by omega) (by omega), nm_e (nm_r (nI_1 i) (ih _ ⟨fun c hc => ?_, fun p hp => ?_⟩))⟩
    · by_cases z : c = i
      · subst z; rw [pk_us]
      · rw [pk_un (by omega)]; exact I.1 c (by omega)
    · rw [pk_un (by omega)]; exact I.2 p (by omega)
theorem y_join {post : SY → Prop} {n l r a b w wl wr m : Nat} {kd : Int32} {S Q : List qp_Row} (hn : n < 12) (hl : l < n) (hr : r < n) (eL : nl n = nI l) (eR : nr n = nI r) (eWl : nw l = nI wl) (eWr : nw r = nI wr) (hwl : wl ≤ 6) (hwr : wr ≤ 6) (hw : w ≤ 6) (eA : p1 n = nI a) (ha : a < wl) (eB : p2 n = nI b) (hb : b < wr) (eC : p3 n = kd) (hk : ((kd = 0 ∨ kd = 3) ∧ w = wl + wr) ∨ ((kd = 1 ∨ kd = 2) ∧ w = wl)) (hS : qp_Rep vl l wl S) (eS : ct l = nI S.length) (hS24 : S.length ≤ 24) (hQ : qp_Rep vl r wr Q) (eQ : ct r = nI Q.length) (hQ24 : Q.length ≤ 24) (e0 : ct n = 0) (m1 : kd = 0 ∨ kd = 3 → Q.length ≤ m) (m2 : kd ≠ 0 → 1 ≤ m) (hm : S.length * m ≤ 24) (H : ∀ ct' vl', qp_Out n w (qp_jo S Q a b wl kd S.length) ct vl ct' vl' → post (tn, nc, rh, rc, tb, th, tw, nk, nl, nr, p1, p2, p3, nw, us, bo, ct', vl', rs)) : wpY_joinList post (tn, nc, rh, rc, tb, th, tw, nk, nl, nr, p1, p2, p3, nw, us, bo, ct, vl, rs) (nI n) := by
  have hkd : kd = 0 ∨ kd = 1 ∨ kd = 2 ∨ kd = 3 := by
    rcases hk with ⟨h | h, _⟩ | ⟨h | h, _⟩
    · exact Or.inl h
    · exact Or.inr (Or.inr (Or.inr h))
    · exact Or.inr (Or.inl h)
    · exact Or.inr (Or.inr (Or.inl h))
  unfold wpY_joinList
  try dsimp only
  refine ⟨vp_in_nI hn (by omega), nm_r (qp_rd hn eL) ⟨vp_in_nI hn (by omega), nm_r (qp_rd hn eR) ⟨S.length + 1, ?_⟩⟩⟩
  have v : vp_in (nI n) 12 := vp_in_nI hn (by omega)
  have eC' : p3 (nI n).toNatClampNeg = kd := qp_rd hn eC
  refine qp_loop (fun k i h a' => wY_joinList_17 post (nI n) (nI l) (nI r) k (nI i) tn nc rh rc tb th tw nk nl nr p1 p2 p3 nw us bo h a' rs) (fun i h a' => qp_Out n w (qp_jo S Q a b wl kd i) ct vl h a') S.length ?_ ?_ (S.length + 1) 0 ct vl (by omega) (by omega) (qp_Out_0 e0)
  · intro k h a' O
    have eS' : h l = nI S.length := (O.2.1 l (by omega)).trans eS
    refine ⟨vp_in_nI (by omega) (by omega), ?_⟩
    rw [qp_rd (f := h) (by omega) eS']
    exact br_t (nI_le (Nat.le_refl _) (by omega)) (H h a' O)
  · intro k i h a' hi O ih
    have eS' : h l = nI S.length := (O.2.1 l (by omega)).trans eS
    have hlen := qp_jo_len (S := S) (Q := Q) (a := a) (b := b) (wl := wl) m1 m2 hkd i
    have hmm := Nat.mul_le_mul_right m (show i + 1 ≤ S.length from hi)
    rw [Nat.succ_mul] at hmm
    have es : qp_jo S Q a b wl kd (i + 1) = qp_jb Q (qp_g S i) a b wl kd (qp_jo S Q a b wl kd i) := rfl
    refine ⟨vp_in_nI (by omega) (by omega), ?_⟩
    rw [qp_rd (f := h) (by omega) eS']
    refine br_f (nI_ge hi (by omega)) ⟨Q.length + 1, ?_⟩
    refine qp_loop (fun q j (s : Int32 × (Nat → Int32)) a' => wY_joinList_34 post (wY_joinList_17 post (nI n) (nI l) (nI r) k) (nI n) (nI l) (nI r) (nI i) q s.1 (nI j) tn nc rh rc tb th tw nk nl nr p1 p2 p3 nw us bo s.2 a' rs) (fun j s a' => qp_Out n w (qp_if (kd = 0 ∨ kd = 3) (qp_ji Q (qp_g S i) a b wl (qp_jo S Q a b wl kd i) j) (qp_jo S Q a b wl kd i)) ct vl s.2 a' ∧ ∃ t : Nat, t ≤ j ∧ s.1 = nI t ∧ (t = 0 ↔ ¬ qp_hit Q (qp_g S i) a b j)) Q.length ?_ ?_ (Q.length + 1) 0 (0, h) a' (by omega) (by omega) ⟨?_, 0, by omega, rfl, fun _ => fun ⟨t, ht, _⟩ => absurd ht (Nat.not_lt_zero t), fun _ => rfl⟩
    · -- all right rows looked at
      intro q s a1 I
      obtain ⟨x5, h1⟩ := s
      obtain ⟨O1, t, ht, ex, hhit⟩ := I
      dsimp only at O1 ex
      subst ex
      have eQ' : h1 r = nI Q.length := (O1.2.1 r (by omega)).trans eQ
      have hS' := qp_Out_rd O1 hS hS24 hwl (by omega)
      refine ⟨vp_in_nI (by omega) (by omega), ?_⟩
      dsimp only
      rw [qp_rd (f := h1) (by omega) eQ', eC']
      refine br_t (nI_le (Nat.le_refl _) (by omega)) ⟨v, ?_⟩
      rcases hk with ⟨h3 | h3, ew⟩ | ⟨h3 | h3, ew⟩
      · subst h3
        rw [qp_if_t (Or.inl rfl)] at O1
        refine br_f (by decide) ?_
        unfold wY_joinList_161 wY_joinList_184
        rw [eC']
        refine ⟨v, br_f (by decide) ⟨v, br_f (by decide) (nm_r (nI_1 i) (ih h1 a1 ?_))⟩⟩
        rw [es]; exact O1
      · subst h3
        rw [qp_if_t (Or.inr rfl)] at O1
        have hml := m2 (by decide)
        refine br_f (by decide) ?_
        unfold wY_joinList_161 wY_joinList_184
        rw [eC']
        refine ⟨v, br_f (by decide) ⟨v, br_t rfl ?_⟩⟩
        refine pk_eq t 0 (fun z => ?_) (fun z => ?_) rfl nI_0.symm (by omega) (by omega)
        · have hno := hhit.mp z
          rw [qp_ji_no hno] at O1
          refine y_copyC rfl rfl rfl hn (by omega) eWl hwl (qp_Out_h O1) (by omega) (by omega) (by omega) ?_
          intro vl1 hc1
          refine y_behind0 (m := (qp_jo S Q a b wl 3 i).length) rfl rfl hn (by omega) (by omega) (by omega) eL eWl eWr (by omega) pk_us ?_
          intro vl2 hz hk2
          refine nm_r (nI_1 i) (ih _ _ ?_)
          rw [es]
          show qp_Out n w (qp_if (qp_hit Q (qp_g S i) a b Q.length) _ _) ct vl _ _
          rw [qp_if_f hno]
          refine qp_Out_zr O1 (by omega) hw ew hS' hi (fun c hc => ?_) (fun c c1 c2 => ?_) (fun p hp => ?_)
          · rw [hk2 _ (by omega)]; exact hc1.1 c hc
          · have := hz (c - wl) (by omega)
            rw [show n * 144 + (qp_jo S Q a b wl 3 i).length * 6 + wl + (c - wl) = n * 144 + (qp_jo S Q a b wl 3 i).length * 6 + c by omega] at this
            exact this
          · rw [hk2 p (by omega)]; exact hc1.2 p (by omega)
        · have hyes : qp_hit Q (qp_g S i) a b Q.length := Classical.byContradiction (fun y => z (hhit.mpr y))
          refine nm_r (nI_1 i) (ih h1 a1 ?_)
          rw [es]
          show qp_Out n w (qp_if (qp_hit Q (qp_g S i) a b Q.length) _ _) ct vl _ _
          rw [qp_if_t hyes]; exact O1
      · subst h3
        subst ew
        rw [qp_if_f (by decide)] at O1
        have hml := m2 (by decide)
        refine br_t rfl ?_
        refine pk_le t 0 (fun z => ?_) (fun z => ?_) rfl nI_0.symm (by omega) (by omega)
        · have hno := hhit.mp (by omega)
          unfold wY_joinList_161 wY_joinList_184
          rw [eC']
          refine ⟨v, br_f (by decide) ⟨v, br_f (by decide) (nm_r (nI_1 i) (ih h1 a1 ?_))⟩⟩
          rw [es]
          show qp_Out n w (qp_if (qp_hit Q (qp_g S i) a b Q.length) _ _) ct vl _ _
          rw [qp_if_f hno]; exact O1
        · have hyes : qp_hit Q (qp_g S i) a b Q.length := Classical.byContradiction (fun y => by have := hhit.mpr y; omega)
          refine y_copy rfl rfl rfl hn (by omega) (by omega) eWl hwl O1 (by omega) hS' hi hS24 ?_
          intro ct' vl' O'
          try dsimp only
          unfold wY_joinList_161 wY_joinList_184
          rw [eC']
          refine ⟨v, br_f (by decide) ⟨v, br_f (by decide) (nm_r (nI_1 i) (ih ct' vl' ?_))⟩⟩
          rw [es]
          show qp_Out n w (qp_if (qp_hit Q (qp_g S i) a b Q.length) _ _) ct vl _ _
          rw [qp_if_t hyes]; exact O'
      · subst h3
        subst ew
        rw [qp_if_f (by decide)] at O1
        have hml := m2 (by decide)
        refine br_f (by decide) ?_
        unfold wY_joinList_161
        rw [eC']
        refine ⟨v, br_t rfl (pk_eq t 0 (fun z => ?_) (fun z => ?_) rfl nI_0.symm (by omega) (by omega))⟩
        · have hno := hhit.mp z
          refine y_copy rfl rfl rfl hn (by omega) (by omega) eWl hwl O1 (by omega) hS' hi hS24 ?_
          intro ct' vl' O'
          try dsimp only
          unfold wY_joinList_184
          rw [eC']
          refine ⟨v, br_f (by decide) (nm_r (nI_1 i) (ih ct' vl' ?_))⟩
          rw [es]
          show qp_Out n w (qp_if (qp_hit Q (qp_g S i) a b Q.length) _ _) ct vl _ _
          rw [qp_if_f hno]; exact O'
        · have hyes : qp_hit Q (qp_g S i) a b Q.length := Classical.byContradiction (fun y => z (hhit.mpr y))
          unfold wY_joinList_184
          rw [eC']
          refine ⟨v, br_f (by decide) (nm_r (nI_1 i) (ih h1 a1 ?_))⟩
          rw [es]
          show qp_Out n w (qp_if (qp_hit Q (qp_g S i) a b Q.length) _ _) ct vl _ _
          rw [qp_if_t hyes]; exact O1
    · -- one right row
      intro q j s a1 hj I ihj
      obtain ⟨x5, h1⟩ := s
      obtain ⟨O1, t, ht, ex, hhit⟩ := I
      dsimp only at O1 ex
      subst ex
      have eQ' : h1 r = nI Q.length := (O1.2.1 r (by omega)).trans eQ
      have hS' := qp_Out_rd O1 hS hS24 hwl (by omega)
      have hQ' := qp_Out_rd O1 hQ hQ24 hwr (by omega)
      have hjl := qp_ji_len Q (qp_g S i) a b wl (qp_jo S Q a b wl kd i) j
      refine ⟨vp_in_nI (by omega) (by omega), ?_⟩
      dsimp only
      rw [qp_rd (f := h1) (by omega) eQ']
      refine br_f (nI_ge hj (by omega)) ⟨v, ?_⟩
      rw [qp_rd (f := p1) hn eA, qp_rd (f := p2) hn eB, qp_iy, qp_iy, nI_clamp (show l * 144 + i * 6 + a < 2 ^ 31 by omega), nI_clamp (show r * 144 + j * 6 + b < 2 ^ 31 by omega), hS' i a hi ha, hQ' j b hj hb]
      refine ⟨vp_in_nI (by omega) (by omega), v, vp_in_nI (by omega) (by omega), br_c (fun hp => ?_) (fun hp => ?_)⟩
      · have hh : (t + 1 = 0 ↔ ¬ qp_hit Q (qp_g S i) a b (j + 1)) := ⟨fun z => by omega, fun z => absurd ⟨j, by omega, hp⟩ z⟩
        refine nm_r (nI_1 t) ⟨v, ?_⟩
        rw [eC']
        have pairs : (kd = 0 ∨ kd = 3) → w = wl + wr → wY_joinList_116 post (wY_joinList_17 post (nI n) (nI l) (nI r) k) (wY_joinList_34 post (wY_joinList_17 post (nI n) (nI l) (nI r) k) (nI n) (nI l) (nI r) (nI i) q) (nI n) (nI l) (nI r) (nI i) (nI (t + 1)) (nI j) tn nc rh rc tb th tw nk nl nr p1 p2 p3 nw us bo h1 a1 rs := by
          intro h03 ew
          have hQm := m1 h03
          rw [qp_if_t h03] at O1
          unfold wY_joinList_116
          refine y_copyC rfl rfl rfl hn (by omega) eWl hwl (qp_Out_h O1) (by omega) (by omega) (by omega) ?_
          intro vl1 hc1
          refine y_behind (m := (qp_ji Q (qp_g S i) a b wl (qp_jo S Q a b wl kd i) j).length) rfl rfl rfl hn (by omega) (by omega) (by omega) (by omega) eL eWl eWr (by omega) (by omega) pk_us ?_
          intro vl2 hc2
          refine nm_r (nI_1 j) (ihj (nI (t + 1), _) _ ⟨?_, t + 1, by omega, rfl, hh⟩)
          rw [qp_if_t h03]
          show qp_Out n w (qp_if (qp_g S i a = qp_g Q j b) _ _) ct vl _ _
          rw [qp_if_t hp]
          exact qp_Out_pr O1 (by omega) hw ew hS' hi hQ' hj hQ24 (by omega) hc1 hc2
        rcases hk with ⟨h3 | h3, ew⟩ | ⟨h3 | h3, ew⟩
        · exact br_t h3 (pairs (Or.inl h3) ew)
        · exact br_f (by rw [h3]; decide) ⟨v, br_t h3 (pairs (Or.inr h3) ew)⟩
        · have hnot : ¬ (kd = 0 ∨ kd = 3) := by rw [h3]; decide
          rw [qp_if_f hnot] at O1
          refine br_f (by rw [h3]; decide) ⟨v, br_f (by rw [h3]; decide) (nm_r (nI_1 j) (ihj (nI (t + 1), h1) a1 ⟨?_, t + 1, by omega, rfl, hh⟩))⟩
          rw [qp_if_f hnot]; exact O1
        · have hnot : ¬ (kd = 0 ∨ kd = 3) := by rw [h3]; decide
          rw [qp_if_f hnot] at O1
          refine br_f (by rw [h3]; decide) ⟨v, br_f (by rw [h3]; decide) (nm_r (nI_1 j) (ihj (nI (t + 1), h1) a1 ⟨?_, t + 1, by omega, rfl, hh⟩))⟩
          rw [qp_if_f hnot]; exact O1
      · refine nm_r (nI_1 j) (ihj (nI t, h1) a1 ⟨?_, t, by omega, rfl, ?_⟩)
        · have e : qp_ji Q (qp_g S i) a b wl (qp_jo S Q a b wl kd i) (j + 1) = qp_ji Q (qp_g S i) a b wl (qp_jo S Q a b wl kd i) j := qp_if_f hp
          rw [e]; exact O1
        · rw [hhit]
          constructor
          · rintro y ⟨u, hu, e⟩
            by_cases z : u = j
            · subst z; exact hp e
            · exact y ⟨u, by omega, e⟩
          · rintro y ⟨u, hu, e⟩
            exact y ⟨u, by omega, e⟩
    · by_cases h03 : kd = 0 ∨ kd = 3
      · rw [qp_if_t h03]; exact O
      · rw [qp_if_f h03]; exact O
end qp_Y4
end
section
/-! the reference: bounds, one node's list -/
section qp_Y5
variable {tn nc rh rc : Int32} {tb th tw nk nl nr p1 p2 p3 nw us bo ct vl rs : Nat → Int32}
theorem y_b176 {post : Int32 → Prop} {b : Nat} (hb : b < 2 ^ 31) (H : post (nI (if 24 < b then 25 else b))) : wY_boundOf_176 post (nI b) tn nc rh rc tb th tw nk nl nr p1 p2 p3 nw us bo ct vl rs := by
  unfold wY_boundOf_176
  refine pk_le b 24 (fun z => ?_) (fun z => ?_) rfl rfl hb (by omega)
  · rw [if_neg (by omega)] at H; exact H
  · rw [if_pos z] at H; exact H
theorem y_bU {post : Int32 → Prop} {i l : Nat} (hi : i < 12) (hl : l ≤ 25) (h5 : ¬ nk i = 5) (h6 : ¬ nk i = 6) (h9 : ¬ nk i = 9) (H : post (nI (if 24 < l then 25 else l))) : wY_boundOf_56 post (nI i) (nI l) 0 tn nc rh rc tb th tw nk nl nr p1 p2 p3 nw us bo ct vl rs := by
  have v : vp_in (nI i) 12 := vp_in_nI hi (by omega)
  have ci : (nI i).toNatClampNeg = i := nI_clamp (by omega)
  unfold wY_boundOf_56 wY_boundOf_98 wY_boundOf_131 wY_boundOf_147
  rw [ci]
  refine pk_lt 24 l (fun z => ?_) (fun z => br_t (by decide) ⟨v, br_f h5 ⟨v, br_f h5 ⟨v, br_f h6 ⟨v, br_f h9 (y_b176 (by omega) H)⟩⟩⟩⟩) rfl rfl (by omega) (by omega)
  rw [if_pos z] at H; exact H
theorem y_b9 {post : Int32 → Prop} {i l m : Nat} (hi : i < 12) (hl : l ≤ 25) (h9 : nk i = 9) (hD : p1 i = nI m) (hm : m < 2 ^ 31) (H : post (nI (if 24 < l then 25 else if m < l then m else l))) : wY_boundOf_56 post (nI i) (nI l) 0 tn nc rh rc tb th tw nk nl nr p1 p2 p3 nw us bo ct vl rs := by
  have v : vp_in (nI i) 12 := vp_in_nI hi (by omega)
  have ci : (nI i).toNatClampNeg = i := nI_clamp (by omega)
  have h5 : ¬ nk i = 5 := by rw [h9]; decide
  have h6 : ¬ nk i = 6 := by rw [h9]; decide
  unfold wY_boundOf_56 wY_boundOf_98 wY_boundOf_131 wY_boundOf_147
  rw [ci, hD]
  refine pk_lt 24 l (fun z => ?_) (fun z => br_t (by decide) ⟨v, br_f h5 ⟨v, br_f h5 ⟨v, br_f h6 ⟨v, br_t h9 ⟨v, pk_le l m (fun y => ?_) (fun y => ⟨v, nm_e ?_⟩) rfl rfl (by omega) hm⟩⟩⟩⟩⟩) rfl rfl (by omega) (by omega)
  · rw [if_pos z] at H; exact H
  · rw [if_neg (by omega), if_neg (by omega)] at H
    refine y_b176 (by omega) ?_
    rw [if_neg (by omega)]; exact H
  · rw [if_neg (by omega), if_pos y] at H
    refine y_b176 (by omega) ?_
    rw [if_neg (by omega)]; exact H
theorem y_b6 {post : Int32 → Prop} {i l r : Nat} (hi : i < 12) (hl : l ≤ 25) (hr : r ≤ 25) (h6 : nk i = 6) (H : post (nI (if 24 < l ∨ 24 < r then 25 else if 24 < l + r then 25 else l + r))) : wY_boundOf_56 post (nI i) (nI l) (nI r) tn nc rh rc tb th tw nk nl nr p1 p2 p3 nw us bo ct vl rs := by
  have v : vp_in (nI i) 12 := vp_in_nI hi (by omega)
  have ci : (nI i).toNatClampNeg = i := nI_clamp (by omega)
  have h5 : ¬ nk i = 5 := by rw [h6]; decide
  have h9 : ¬ nk i = 9 := by rw [h6]; decide
  unfold wY_boundOf_56 wY_boundOf_98 wY_boundOf_131 wY_boundOf_147
  rw [ci, nI_add]
  refine pk_lt 24 l (fun z => ?_) (fun z => pk_le r 24 (fun y => ⟨v, br_f h5 ⟨v, br_f h5 ⟨v, br_t h6 (nm_e ⟨v, br_f h9 (y_b176 (by omega) ?_)⟩)⟩⟩⟩) (fun y => ?_) rfl rfl (by omega) (by omega)) rfl rfl (by omega) (by omega)
  · rw [if_pos (Or.inl z)] at H; exact H
  · rw [if_neg (by omega)] at H; exact H
  · rw [if_pos (Or.inr y)] at H; exact H
theorem y_b5 {post : Int32 → Prop} {i l r : Nat} {c : Int32} (hi : i < 12) (hl : l ≤ 25) (hr : r ≤ 25) (h5 : nk i = 5) (hC : p3 i = c) (H : post (nI (if 24 < l ∨ 24 < r then 25 else if 24 < qp_bk 5 c 0 l r then 25 else qp_bk 5 c 0 l r))) : wY_boundOf_56 post (nI i) (nI l) (nI r) tn nc rh rc tb th tw nk nl nr p1 p2 p3 nw us bo ct vl rs := by
  have v : vp_in (nI i) 12 := vp_in_nI hi (by omega)
  have ci : (nI i).toNatClampNeg = i := nI_clamp (by omega)
  have h6 : ¬ nk i = 6 := by rw [h5]; decide
  have h9 : ¬ nk i = 9 := by rw [h5]; decide
  have hmul : l * r ≤ 25 * 25 := Nat.mul_le_mul hl hr
  rw [qp_bk5] at H
  unfold wY_boundOf_56 wY_boundOf_98 wY_boundOf_129 wY_boundOf_131 wY_boundOf_147
  rw [ci, pk_mul, hC]
  refine pk_lt 24 l (fun z => ?_) (fun z => pk_le r 24 (fun y => ⟨v, br_t h5 ⟨v, br_c (fun c0 => nm_e ⟨v, br_t h5 ⟨v, br_f (by rw [c0]; decide) ⟨v, br_f h6 ⟨v, br_f h9 (y_b176 (by omega) ?_)⟩⟩⟩⟩) (fun c0 => ⟨v, br_t h5 ⟨v, br_c (fun c3 => pk_eq r 0 (fun r0 => ⟨v, br_f h6 ⟨v, br_f h9 (y_b176 (by omega) ?_)⟩⟩) (fun r0 => ⟨v, br_f h6 ⟨v, br_f h9 (y_b176 (by omega) ?_)⟩⟩) rfl nI_0.symm (by omega) (by omega)) (fun c3 => ⟨v, br_f h6 ⟨v, br_f h9 (y_b176 (by omega) ?_)⟩⟩)⟩⟩)⟩⟩) (fun y => ?_) rfl rfl (by omega) (by omega)) rfl rfl (by omega) (by omega)
  · rw [if_pos (Or.inl z)] at H; exact H
  · rw [if_neg (by omega), if_pos c0] at H; exact H
  · rw [if_neg (by omega), if_neg c0, if_pos c3, if_pos r0] at H; exact H
  · rw [if_neg (by omega), if_neg c0, if_pos c3, if_neg r0] at H; exact H
  · rw [if_neg (by omega), if_neg c0, if_neg c3] at H; exact H
  · rw [if_pos (Or.inr y)] at H; exact H
theorem y_boundOf {post : Int32 → Prop} {i : Nat} {bd : Nat → Nat} {A B C D : Nat → Int32} (hi : i < 12) (ok : qp_OK (nk i) (nl i) (nr i) (nw i) (A i) (B i) (C i) (D i) (p1 i) (p2 i) (p3 i) nw i) (hT : ∀ t, t < 4 → ∃ h : Nat, h ≤ 10 ∧ th t = nI h) (hB : ∀ j, j < i → bo j = nI (bd j)) (h25 : ∀ j, j < i → bd j ≤ 25) (H : post (nI (qp_bs nk nl nr C D th i bd))) : wpY_boundOf post (tn, nc, rh, rc, tb, th, tw, nk, nl, nr, p1, p2, p3, nw, us, bo, ct, vl, rs) (nI i) := by
  have v : vp_in (nI i) 12 := vp_in_nI hi (by omega)
  have ci : (nI i).toNatClampNeg = i := nI_clamp (by omega)
  unfold wpY_boundOf
  try dsimp only
  rw [ci]
  refine ⟨v, ?_⟩
  -- one child
  have un : ∀ x wl, qp_U (nl i) nw i x wl → nr i = -1 → ¬ nk i = 0 → wY_boundOf_56 post (nI i) (nI (bd x)) 0 tn nc rh rc tb th tw nk nl nr p1 p2 p3 nw us bo ct vl rs → (nk i = 0 → vp_in (nI i) 12 ∧ vp_in (p1 i) 4 ∧ post (th (p1 i).toNatClampNeg)) ∧ (¬ nk i = 0 → vp_in (nI i) 12 ∧ vp_in (nl i) 12 ∧ ∀ x2, x2 = bo (nl i).toNatClampNeg → vp_in (nI i) 12 ∧ ((nr i < 0 → wY_boundOf_56 post (nI i) x2 0 tn nc rh rc tb th tw nk nl nr p1 p2 p3 nw us bo ct vl rs) ∧ (¬ nr i < 0 → vp_in (nI i) 12 ∧ vp_in (nr i) 12 ∧ ∀ x3, x3 = bo (nr i).toNatClampNeg → wY_boundOf_56 post (nI i) x2 x3 tn nc rh rc tb th tw nk nl nr p1 p2 p3 nw us bo ct vl rs))) := by
    intro x wl hU hR h0 K
    have eL := hU.2.1
    have hx := hU.1
    have ebl : bo (nl i).toNatClampNeg = nI (bd x) := by rw [qp_cl eL (by omega)]; exact hB x hx
    exact br_f h0 ⟨v, by rw [eL]; exact vp_in_nI (by omega) (by omega), nm_r ebl ⟨v, br_t (by rw [hR]; decide) K⟩⟩
  have bi : ∀ x wl y wr, qp_U (nl i) nw i x wl → qp_U (nr i) nw i y wr → ¬ nk i = 0 → wY_boundOf_56 post (nI i) (nI (bd x)) (nI (bd y)) tn nc rh rc tb th tw nk nl nr p1 p2 p3 nw us bo ct vl rs → (nk i = 0 → vp_in (nI i) 12 ∧ vp_in (p1 i) 4 ∧ post (th (p1 i).toNatClampNeg)) ∧ (¬ nk i = 0 → vp_in (nI i) 12 ∧ vp_in (nl i) 12 ∧ ∀ x2, x2 = bo (nl i).toNatClampNeg → vp_in (nI i) 12 ∧ ((nr i < 0 → wY_boundOf_56 post (nI i) x2 0 tn nc rh rc tb th tw nk nl nr p1 p2 p3 nw us bo ct vl rs) ∧ (¬ nr i < 0 → vp_in (nI i) 12 ∧ vp_in (nr i) 12 ∧ ∀ x3, x3 = bo (nr i).toNatClampNeg → wY_boundOf_56 post (nI i) x2 x3 tn nc rh rc tb th tw nk nl nr p1 p2 p3 nw us bo ct vl rs))) := by
    intro x wl y wr hU hV h0 K
    have eL := hU.2.1
    have hx := hU.1
    have eR := hV.2.1
    have hy := hV.1
    have ebl : bo (nl i).toNatClampNeg = nI (bd x) := by rw [qp_cl eL (by omega)]; exact hB x hx
    have ebr : bo (nr i).toNatClampNeg = nI (bd y) := by rw [qp_cl eR (by omega)]; exact hB y hy
    exact br_f h0 ⟨v, by rw [eL]; exact vp_in_nI (by omega) (by omega), nm_r ebl ⟨v, br_f (by rw [eR]; exact nI_pos (by omega)) ⟨v, by rw [eR]; exact vp_in_nI (by omega) (by omega), nm_r ebr K⟩⟩⟩
  obtain ⟨wn, _, _, _, h⟩ := ok
  rcases h with h | h | h | h | h | h | h | h | h | h | h
  · obtain ⟨hk, _, t, ht, hD, hq⟩ := h
    obtain ⟨hh, hh10, eh⟩ := hT t ht
    rw [qp_bs_0 hk hD (by omega), eh, nI_clamp (by omega)] at H
    refine br_t hk ⟨v, by rw [hq]; exact vp_in_nI (by omega) (by omega), ?_⟩
    rw [qp_cl hq (by omega), eh]; exact H
  · obtain ⟨hk, hr, x, _, hU, _⟩ := h
    rw [qp_bs_u (Or.inl hk) hr hU.2.1 (by have := hU.1; omega)] at H
    exact un x _ hU hr (by rw [hk]; decide) (y_bU hi (h25 x hU.1) (by rw [hk]; decide) (by rw [hk]; decide) (by rw [hk]; decide) H)
  · obtain ⟨hk, hr, x, _, _, hU, _⟩ := h
    rw [qp_bs_u (Or.inr (Or.inl hk)) hr hU.2.1 (by have := hU.1; omega)] at H
    exact un x _ hU hr (by rw [hk]; decide) (y_bU hi (h25 x hU.1) (by rw [hk]; decide) (by rw [hk]; decide) (by rw [hk]; decide) H)
  · obtain ⟨hk, hr, x, _, _, _, hU, _⟩ := h
    rw [qp_bs_u (Or.inr (Or.inr (Or.inl hk))) hr hU.2.1 (by have := hU.1; omega)] at H
    exact un x _ hU hr (by rw [hk]; decide) (y_bU hi (h25 x hU.1) (by rw [hk]; decide) (by rw [hk]; decide) (by rw [hk]; decide) H)
  · obtain ⟨hk, hr, x, _, hU, _⟩ := h
    rw [qp_bs_u (Or.inr (Or.inr (Or.inr (Or.inl hk)))) hr hU.2.1 (by have := hU.1; omega)] at H
    exact un x _ hU hr (by rw [hk]; decide) (y_bU hi (h25 x hU.1) (by rw [hk]; decide) (by rw [hk]; decide) (by rw [hk]; decide) H)
  · obtain ⟨hk, x, wl, y, wr, a, b, hU, hV, _, _, _, _, _, _, hC, _⟩ := h
    rw [qp_bs_5 hk hV.2.1 (by have := hV.1; omega) hU.2.1 (by have := hU.1; omega)] at H
    exact bi x _ y _ hU hV (by rw [hk]; decide) (y_b5 hi (h25 x hU.1) (h25 y hV.1) hk hC H)
  · obtain ⟨hk, x, y, hU, hV⟩ := h
    rw [qp_bs_6 hk hV.2.1 (by have := hV.1; omega) hU.2.1 (by have := hU.1; omega)] at H
    exact bi x _ y _ hU hV (by rw [hk]; decide) (y_b6 hi (h25 x hU.1) (h25 y hV.1) hk H)
  · obtain ⟨hk, hr, _, x, _, _, _, hU, _⟩ := h
    rw [qp_bs_u (Or.inr (Or.inr (Or.inr (Or.inr (Or.inl hk))))) hr hU.2.1 (by have := hU.1; omega)] at H
    exact un x _ hU hr (by rw [hk]; decide) (y_bU hi (h25 x hU.1) (by rw [hk]; decide) (by rw [hk]; decide) (by rw [hk]; decide) H)
  · obtain ⟨hk, hr, x, hU⟩ := h
    rw [qp_bs_u (Or.inr (Or.inr (Or.inr (Or.inr (Or.inr (Or.inl hk)))))) hr hU.2.1 (by have := hU.1; omega)] at H
    exact un x _ hU hr (by rw [hk]; decide) (y_bU hi (h25 x hU.1) (by rw [hk]; decide) (by rw [hk]; decide) (by rw [hk]; decide) H)
  · obtain ⟨hk, hr, x, m, hU, hm, hD, hq⟩ := h
    rw [qp_bs_9 hk hr hU.2.1 (by have := hU.1; omega) hD hm] at H
    exact un x _ hU hr (by rw [hk]; decide) (y_b9 hi (h25 x hU.1) hk hq hm H)
  · obtain ⟨hk, hr, x, _, hU, _⟩ := h
    rw [qp_bs_u (Or.inr (Or.inr (Or.inr (Or.inr (Or.inr (Or.inr hk)))))) hr hU.2.1 (by have := hU.1; omega)] at H
    exact un x _ hU hr (by rw [hk]; decide) (y_bU hi (h25 x hU.1) (by rw [hk]; decide) (by rw [hk]; decide) (by rw [hk]; decide) H)
end qp_Y5
end
section
/-! the reference: one node's list -/
section qp_Y6
variable {tn nc rh rc : Int32} {tb th tw nk nl nr p1 p2 p3 nw us bo ct vl rs : Nat → Int32}
theorem y_work {post : SY → Prop} {N i : Nat} {bd : Nat → Nat} {LL : Nat → List qp_Row} {ca cb cc nn tbX : Nat → Int32} (hN : N ≤ 12) (hi : i < N) (ok : ∀ j, j < N → qp_OK (nk j) (nl j) (nr j) (nw j) (ca j) (cb j) (cc j) (nn j) (p1 j) (p2 j) (p3 j) nw j) (hT : qp_TB th tbX tb) (hb : ∀ j, j < N → bd j = qp_bs nk nl nr cc nn th j bd) (hl : ∀ j, j < N → LL j = qp_sem nk nl nr nw ca cb cc nn th tbX j LL) (hlen : ∀ j, j < N → bd j ≤ 24 → (LL j).length ≤ bd j) (I : qp_Inv i bd LL nw ct vl) (h24 : bd i ≤ 24) (H : ∀ ct' vl', qp_Out i (nw i).toNatClampNeg (LL i) ct vl ct' vl' → post (tn, nc, rh, rc, tb, th, tw, nk, nl, nr, p1, p2, p3, nw, us, bo, ct', vl', rs)) : wpY_work post (tn, nc, rh, rc, tb, th, tw, nk, nl, nr, p1, p2, p3, nw, us, bo, ct, vl, rs) (nI i) := by
  unfold wpY_work
  try dsimp only
  have hi12 : i < 12 := by omega
  have v : vp_in (nI i) 12 := vp_in_nI hi12 (by omega)
  have ci : (nI i).toNatClampNeg = i := nI_clamp (by omega)
  rw [ci]
  have hbi := hb i hi
  have hli := hl i hi
  have ch : ∀ l x wl, qp_U l nw i x wl → bd x ≤ 24 → x < 12 ∧ x < i ∧ l = nI x ∧ wl ≤ 6 ∧ nw x = nI wl ∧ qp_Rep vl x wl (LL x) ∧ upd ct i 0 x = nI (LL x).length ∧ (LL x).length ≤ 24 ∧ (LL x).length ≤ bd x := by
    intro l x wl hU hx24
    obtain ⟨u1, u2, u3, u4, u5⟩ := hU
    obtain ⟨j1, j2⟩ := I x u1 hx24
    have j3 := hlen x (by omega) hx24
    rw [qp_cl u5 (by omega)] at j2
    exact ⟨by omega, u1, u2, u4, u5, j2, by rw [pk_un (by omega)]; exact j1, by omega, j3⟩
  have e0 : upd ct i 0 i = 0 := pk_us
  obtain ⟨w, hw1, hw6, hWn, h⟩ := ok i hi
  rw [qp_cl hWn (by omega)] at H
  have un : ∀ x wl, qp_U (nl i) nw i x wl → nr i = -1 → (nk i = 1 ∨ nk i = 2 ∨ nk i = 3 ∨ nk i = 4 ∨ nk i = 7 ∨ nk i = 8 ∨ nk i = 10) → bd x ≤ 24 := by
    intro x wl hU hR hk
    have := hU.1
    rw [qp_bs_u hk hR hU.2.1 (by omega)] at hbi
    by_cases z : 24 < bd x
    · rw [if_pos z] at hbi; omega
    · omega
  refine ⟨v, nm_e ⟨v, ?_⟩⟩
  rcases h with h | h | h | h | h | h | h | h | h | h | h
  · obtain ⟨hk, hw3, t, ht, hD, hq⟩ := h
    obtain ⟨h0, h010, eh, hag⟩ := hT t ht
    rw [qp_sem_0 hk hD (by omega), eh, nI_clamp (by omega)] at hli
    rw [hli] at H
    refine br_t hk ?_
    refine y_table (f := fun r c => tbX (t * 30 + r * 3 + c)) hi12 ht hq eh h010 hWn hw3 (fun r c hr hc => ?_) ?_
    · have := hag (r * 3 + c) (by omega)
      show tb (t * 30 + r * 3 + c) = tbX (t * 30 + r * 3 + c)
      rw [show t * 30 + r * 3 + c = t * 30 + (r * 3 + c) by omega]
      exact this.symm
    · intro vl' O
      exact H _ _ (qp_Out_u O)
  · obtain ⟨hk, hr, x, a, hU, ha, hA, q1, q2, q3⟩ := h
    obtain ⟨c1, c2, c3, c4, c5, c6, c7, c8, c9⟩ := ch _ x _ hU (un x _ hU hr (Or.inl hk))
    rw [qp_sem_1 hk c3 (by omega) hA (by omega), ← q2, ← q3] at hli
    rw [hli] at H
    refine br_f (by rw [hk]; decide) ⟨v, br_f (by rw [hk]; decide) ?_⟩
    refine y_filter (b := fun _ => p3 i) hi12 c2 c3 c5 c4 q1 ha (Or.inl ⟨by rw [hk]; decide, fun _ => rfl⟩) c6 c7 c8 e0 ?_
    intro ct' vl' O
    exact H _ _ (qp_Out_u O)
  · obtain ⟨hk, hr, x, a, b, hU, ha, hb', hA, hB, q1, q2, q3⟩ := h
    obtain ⟨c1, c2, c3, c4, c5, c6, c7, c8, c9⟩ := ch _ x _ hU (un x _ hU hr (Or.inr (Or.inl hk)))
    rw [qp_sem_2 hk c3 (by omega) hA (by omega) hB (by omega), ← q2] at hli
    rw [hli] at H
    refine br_f (by rw [hk]; decide) ⟨v, br_f (by rw [hk]; decide) ?_⟩
    refine y_filter (b := fun z => z b) hi12 c2 c3 c5 c4 q1 ha (Or.inr ⟨hk, b, hb', q3, fun _ => rfl⟩) c6 c7 c8 e0 ?_
    intro ct' vl' O
    exact H _ _ (qp_Out_u O)
  · obtain ⟨hk, hr, x, wl, a, b, hU, hwl, ha, hb', hA, hB, q1, q2, q3⟩ := h
    obtain ⟨c1, c2, c3, c4, c5, c6, c7, c8, c9⟩ := ch _ x _ hU (un x _ hU hr (Or.inr (Or.inr (Or.inl hk))))
    rw [qp_sem_3 hk c3 (by omega) hA (by omega) hB (by omega) c5 (by omega), ← q1] at hli
    rw [hli, hwl] at H
    refine br_f (by rw [hk]; decide) ⟨v, br_t (by rw [hk]; decide) ⟨v, br_t hk ?_⟩⟩
    refine y_map hi12 c2 c3 c5 (by omega) q2 ha q3 hb' c6 c7 c8 e0 ?_
    intro ct' vl' O
    exact H _ _ (qp_Out_u O)
  · obtain ⟨hk, hr, x, wl, hU, q1, hch⟩ := h
    obtain ⟨c1, c2, c3, c4, c5, c6, c7, c8, c9⟩ := ch _ x _ hU (un x _ hU hr (Or.inr (Or.inr (Or.inr (Or.inl hk)))))
    rw [qp_sem_4 hk c3 (by omega)] at hli
    rw [hli] at H
    refine br_f (by rw [hk]; decide) ⟨v, br_t (by rw [hk]; decide) ⟨v, br_f (by rw [hk]; decide) ⟨v, br_t hk ?_⟩⟩⟩
    refine y_project hi12 c2 c3 c4 hWn hw6 q1 hch c6 c7 c8 ?_
    intro vl' O
    exact H _ _ (qp_Out_u O)
  · obtain ⟨hk, x, wl, y, wr, a, b, hU, hV, ha, hb', hA, hB, q1, q2, q3, hc⟩ := h
    have hx := hU.1
    have hy := hV.1
    rw [qp_bs_5 hk hV.2.1 (by omega) hU.2.1 (by omega), qp_fac_bk] at hbi
    have h4 : ¬ (24 < bd x ∨ 24 < bd y) := by intro z; rw [if_pos z] at hbi; omega
    rw [if_neg h4] at hbi
    have h7 : ¬ 24 < bd x * qp_fac (cc i) (bd y) := by intro z; rw [if_pos z] at hbi; omega
    obtain ⟨c1, c2, c3, c4, c5, c6, c7, c8, c9⟩ := ch _ x _ hU (by omega)
    obtain ⟨d1, d2, d3, d4, d5, d6, d7, d8, d9⟩ := ch _ y _ hV (by omega)
    rw [qp_sem_5 hk c3 (by omega) d3 (by omega) hA (by omega) hB (by omega) c5 (by omega)] at hli
    rw [hli] at H
    refine br_f (by rw [hk]; decide) ⟨v, br_t (by rw [hk]; decide) ⟨v, br_f (by rw [hk]; decide) ⟨v, br_f (by rw [hk]; decide) ⟨v, br_t hk ?_⟩⟩⟩⟩
    have h9 := Nat.mul_le_mul_right (qp_fac (cc i) (bd y)) c9
    refine y_join (m := qp_fac (cc i) (bd y)) hi12 c2 d2 c3 d3 c5 d5 c4 d4 hw6 q1 ha q2 hb' q3 hc c6 c7 c8 d6 d7 d8 e0 (fun z => qp_fac_1 d9 z) (fun z => qp_fac_2 z) (by omega) ?_
    intro ct' vl' O
    exact H _ _ (qp_Out_u O)
  · obtain ⟨hk, x, y, hU, hV⟩ := h
    have hx := hU.1
    have hy := hV.1
    rw [qp_bs_6 hk hV.2.1 (by omega) hU.2.1 (by omega)] at hbi
    have h4 : ¬ (24 < bd x ∨ 24 < bd y) := by intro z; rw [if_pos z] at hbi; omega
    rw [if_neg h4] at hbi
    have h7 : ¬ 24 < bd x + bd y := by intro z; rw [if_pos z] at hbi; omega
    obtain ⟨c1, c2, c3, c4, c5, c6, c7, c8, c9⟩ := ch _ x _ hU (by omega)
    obtain ⟨d1, d2, d3, d4, d5, d6, d7, d8, d9⟩ := ch _ y _ hV (by omega)
    rw [qp_sem_6 hk c3 (by omega) d3 (by omega)] at hli
    rw [hli] at H
    refine br_f (by rw [hk]; decide) ⟨v, br_t (by rw [hk]; decide) ⟨v, br_f (by rw [hk]; decide) ⟨v, br_f (by rw [hk]; decide) ⟨v, br_f (by rw [hk]; decide) ⟨v, br_t hk ?_⟩⟩⟩⟩⟩
    refine y_union hi12 c2 d2 c3 d3 c5 d5 hw6 c6 c7 c8 d6 d7 d8 e0 (by omega) ?_
    intro ct' vl' O
    exact H _ _ (qp_Out_u O)
  · obtain ⟨hk, hr, hw2, x, wl, a, b, hU, ha, hb', hA, hB, q1, q2, q3, ho⟩ := h
    obtain ⟨c1, c2, c3, c4, c5, c6, c7, c8, c9⟩ := ch _ x _ hU (un x _ hU hr (Or.inr (Or.inr (Or.inr (Or.inr (Or.inl hk))))))
    rw [qp_sem_7 hk c3 (by omega) hA (by omega) hB (by omega), ← q2] at hli
    rw [hli, hw2] at H
    refine br_f (by rw [hk]; decide) ⟨v, br_t (by rw [hk]; decide) ⟨v, br_f (by rw [hk]; decide) ⟨v, br_f (by rw [hk]; decide) ⟨v, br_f (by rw [hk]; decide) ⟨v, br_f (by rw [hk]; decide) ⟨v, br_t hk ?_⟩⟩⟩⟩⟩⟩
    refine y_group hi12 c2 c3 c4 q1 ha q3 hb' (by rw [q2]; exact ho) c6 c7 c8 e0 ?_
    intro ct' vl' O
    exact H _ _ (qp_Out_u O)
  · obtain ⟨hk, hr, x, hU⟩ := h
    obtain ⟨c1, c2, c3, c4, c5, c6, c7, c8, c9⟩ := ch _ x _ hU (un x _ hU hr (Or.inr (Or.inr (Or.inr (Or.inr (Or.inr (Or.inl hk)))))))
    rw [qp_sem_8 hk c3 (by omega) hWn (by omega)] at hli
    rw [hli] at H
    refine br_f (by rw [hk]; decide) ⟨v, br_t (by rw [hk]; decide) ⟨v, br_f (by rw [hk]; decide) ⟨v, br_f (by rw [hk]; decide) ⟨v, br_f (by rw [hk]; decide) ⟨v, br_f (by rw [hk]; decide) ⟨v, br_f (by rw [hk]; decide) ⟨v, br_t hk ?_⟩⟩⟩⟩⟩⟩⟩
    refine y_distinct hi12 c2 c3 c5 c4 c6 c7 c8 e0 ?_
    intro ct' vl' O
    exact H _ _ (qp_Out_u O)
  · obtain ⟨hk, hr, x, m, hU, hm, hD, hq⟩ := h
    have hx := hU.1
    rw [qp_bs_9 hk hr hU.2.1 (by omega) hD hm] at hbi
    have h4 : ¬ 24 < bd x := by intro z; rw [if_pos z] at hbi; omega
    obtain ⟨c1, c2, c3, c4, c5, c6, c7, c8, c9⟩ := ch _ x _ hU (by omega)
    rw [qp_sem_9 hk c3 (by omega) hD hm] at hli
    rw [hli] at H
    refine br_f (by rw [hk]; decide) ⟨v, br_t (by rw [hk]; decide) ⟨v, br_f (by rw [hk]; decide) ⟨v, br_f (by rw [hk]; decide) ⟨v, br_f (by rw [hk]; decide) ⟨v, br_f (by rw [hk]; decide) ⟨v, br_f (by rw [hk]; decide) ⟨v, br_f (by rw [hk]; decide) ⟨v, br_t hk ?_⟩⟩⟩⟩⟩⟩⟩⟩
    refine y_limit hi12 c2 c3 c5 c4 hq hm c6 c7 c8 e0 ?_
    intro ct' vl' O
    exact H _ _ (qp_Out_u O)
  · obtain ⟨hk, hr, x, a, hU, ha, hA, hq, hc⟩ := h
    obtain ⟨c1, c2, c3, c4, c5, c6, c7, c8, c9⟩ := ch _ x _ hU (un x _ hU hr (Or.inr (Or.inr (Or.inr (Or.inr (Or.inr (Or.inr hk)))))))
    rw [qp_sem_10 hk c3 (by omega) hA (by omega)] at hli
    rw [hli] at H
    refine br_f (by rw [hk]; decide) ⟨v, br_t (by rw [hk]; decide) ⟨v, br_f (by rw [hk]; decide) ⟨v, br_f (by rw [hk]; decide) ⟨v, br_f (by rw [hk]; decide) ⟨v, br_f (by rw [hk]; decide) ⟨v, br_f (by rw [hk]; decide) ⟨v, br_f (by rw [hk]; decide) ⟨v, br_f (by rw [hk]; decide) ?_⟩⟩⟩⟩⟩⟩⟩⟩
    refine y_sort (d := cc i = 4) hi12 c2 c3 c5 c4 hq ha (by rcases hc with ⟨z, y⟩ | ⟨z, y⟩; exact Or.inl ⟨z, y⟩; exact Or.inr ⟨by rw [z]; decide, y⟩) c6 c7 c8 e0 ?_
    intro ct' vl' O
    exact H _ _ (qp_Out_u O)
end qp_Y6
end
section
/-! the runs -/
theorem qp_bl_25 (k r c : Int32) (d l rr : Nat) : qp_bl k r c d l rr ≤ 25 := by
  unfold qp_bl
  generalize (if r = -1 then 0 else rr) = q
  generalize qp_bk k c d l q = b
  split
  · omega
  · split <;> omega
section qp_XR
variable {tc nc rh rc : Int32} {tw th tb nk nl nr nw us ca cb cc nn bo lh lc rs : Nat → Int32}
theorem x_run {post : Int32 → SX → Prop} {N i w : Nat} {bd : Nat → Nat} {LL : Nat → List qp_Row} {p1 p2 p3 : Nat → Int32} (hN : N ≤ 12) (hi : i < N) (ok : ∀ j, j < N → qp_OK (nk j) (nl j) (nr j) (nw j) (ca j) (cb j) (cc j) (nn j) (p1 j) (p2 j) (p3 j) nw j) (hT : ∀ t, t < 4 → ∃ h : Nat, h ≤ 10 ∧ th t = nI h) (hb : ∀ j, j < N → bd j = qp_bs nk nl nr cc nn th j bd) (hl : ∀ j, j < N → LL j = qp_sem nk nl nr nw ca cb cc nn th tb j LL) (hlen : ∀ j, j < N → bd j ≤ 24 → (LL j).length ≤ bd j) (hW : ∀ j, j < N → (nw j).toNatClampNeg ≤ 6) (ew : nw i = nI w) (hw6 : w ≤ 6) (Hb : ¬ bd i ≤ 24 → ∀ bo', post (-10) (tc, nI N, rh, rc, tw, th, tb, nk, nl, nr, nw, us, ca, cb, cc, nn, bo', lh, lc, rs)) (H : bd i ≤ 24 → ∀ bo' lh' lc' rs', (∀ r c, r < (LL i).length → c < w → rs' (r * 6 + c) = qp_g (LL i) r c) → post (nI (LL i).length) (tc, nI N, nI (LL i).length, nI w, tw, th, tb, nk, nl, nr, nw, us, ca, cb, cc, nn, bo', lh', lc', rs')) : wpX_run post (tc, nI N, rh, rc, tw, th, tb, nk, nl, nr, nw, us, ca, cb, cc, nn, bo, lh, lc, rs) (nI i) := by
  have hi12 : i < 12 := by omega
  have v : vp_in (nI i) 12 := vp_in_nI hi12 (by omega)
  unfold wpX_run wpX_hasNode
  try dsimp only
  refine br_f (nI_pos (by omega)) (br_f (nI_ge hi (by omega)) (br_f (by decide) ⟨i + 2, ?_⟩))
  refine qp_loop1 (fun k j b => wX_run_13 post (nI i) tc (nI N) rh rc k (nI j) tw th tb nk nl nr nw us ca cb cc nn b lh lc rs) (fun j b => ∀ t, t < j → b t = qp_cd (bd t)) (i + 1) ?_ ?_ (i + 2) 0 bo (by omega) (by omega) (fun t h => absurd h (Nat.not_lt_zero t))
  · intro k b J
    refine br_t (nI_lt (by omega) (by omega)) ⟨v, ?_⟩
    rw [qp_rd (f := b) hi12 (J i (by omega))]
    by_cases z : bd i ≤ 24
    · refine br_f (qp_cd_n z) ⟨i + 2, ?_⟩
      refine qp_loop (fun k j h a => wX_run_51 post (nI i) k (nI j) tc (nI N) rh rc tw th tb nk nl nr nw us ca cb cc nn b h a rs) (fun j h a => qp_Inv j bd LL nw h a) (i + 1) ?_ ?_ (i + 2) 0 lh lc (by omega) (by omega) qp_Inv_0
      · intro k h a I
        obtain ⟨j1, j2⟩ := I i (by omega) z
        have hli := hlen i hi z
        rw [qp_cl ew (by omega)] at j2
        refine br_t (nI_lt (by omega) (by omega)) ?_
        refine x_keep hi12 j1 (by omega) ew hw6 ?_
        intro rs' hr
        exact H z b h a rs' (fun r c hr1 hc1 => (hr r c hr1 hc1).trans (j2 r c hr1 hc1))
      · intro k j h a hj I ih
        refine br_f (nI_nlt (by omega) (by omega)) ⟨vp_in_nI (by omega) (by omega), ?_⟩
        rw [qp_rd (f := b) (by omega) (J j (by omega))]
        by_cases y : bd j ≤ 24
        · refine br_f (qp_cd_n y) ?_
          refine x_workOut hN (by omega) ok hT hb hl hlen I y ?_
          intro lh' lc' O
          exact nm_r (nI_1 j) (ih lh' lc' (qp_Inv_s I O rfl (fun t ht => hW t (by omega)) (fun t ht h24 => by have := hlen t (by omega) h24; omega)))
        · exact br_t (qp_cd_f y) (nm_r (nI_1 j) (ih h a (qp_Inv_k I y)))
    · exact br_t (qp_cd_f z) (Hb z b)
  · intro k j b hj J ih
    refine br_f (nI_nlt (by omega) (by omega)) ?_
    refine x_boundOf (by omega) (ok j (by omega)) hT J ?_
    rw [← hb j (by omega), nI_clamp (by omega)]
    refine ⟨vp_in_nI (by omega) (by omega), nm_e (nm_r (nI_1 j) (ih _ (fun t ht => ?_)))⟩
    by_cases z : t = j
    · subst z; rw [pk_us]
    · rw [pk_un z]; exact J t (by omega)
end qp_XR
section qp_YR
variable {tn nc rh rc : Int32} {tb th tw nk nl nr p1 p2 p3 nw us bo ct vl rs : Nat → Int32}
theorem y_run {post : Int32 → SY → Prop} {N i w : Nat} {bd : Nat → Nat} {LL : Nat → List qp_Row} {ca cb cc nn tbX : Nat → Int32} (hN : N ≤ 12) (hi : i < N) (ok : ∀ j, j < N → qp_OK (nk j) (nl j) (nr j) (nw j) (ca j) (cb j) (cc j) (nn j) (p1 j) (p2 j) (p3 j) nw j) (hT : qp_TB th tbX tb) (hb : ∀ j, j < N → bd j = qp_bs nk nl nr cc nn th j bd) (hl : ∀ j, j < N → LL j = qp_sem nk nl nr nw ca cb cc nn th tbX j LL) (hlen : ∀ j, j < N → bd j ≤ 24 → (LL j).length ≤ bd j) (h25 : ∀ j, j < N → bd j ≤ 25) (hW : ∀ j, j < N → (nw j).toNatClampNeg ≤ 6) (ew : nw i = nI w) (hw6 : w ≤ 6) (Hb : ¬ bd i ≤ 24 → ∀ bo' ct' vl', post (-10) (tn, nI N, rh, rc, tb, th, tw, nk, nl, nr, p1, p2, p3, nw, us, bo', ct', vl', rs)) (H : bd i ≤ 24 → ∀ bo' ct' vl' rs', (∀ r c, r < (LL i).length → c < w → rs' (r * 6 + c) = qp_g (LL i) r c) → post (nI (LL i).length) (tn, nI N, nI (LL i).length, nI w, tb, th, tw, nk, nl, nr, p1, p2, p3, nw, us, bo', ct', vl', rs')) : wpY_run post (tn, nI N, rh, rc, tb, th, tw, nk, nl, nr, p1, p2, p3, nw, us, bo, ct, vl, rs) (nI i) := by
  have hi12 : i < 12 := by omega
  have v : vp_in (nI i) 12 := vp_in_nI hi12 (by omega)
  have hT' : ∀ t, t < 4 → ∃ h : Nat, h ≤ 10 ∧ th t = nI h := fun t ht => by
    obtain ⟨h, h1, h2, _⟩ := hT t ht
    exact ⟨h, h1, h2⟩
  unfold wpY_run wpY_noNode
  try dsimp only
  refine br_f (nI_pos (by omega)) (br_t (nI_lt hi (by omega)) (br_t rfl ⟨i + 2, ?_⟩))
  refine qp_loop (fun k j (s : (Nat → Int32) × (Nat → Int32)) a => wY_run_13 post (nI i) k (nI j) tn (nI N) rh rc tb th tw nk nl nr p1 p2 p3 nw us s.1 s.2 a rs) (fun j s a => (∀ t, t < j → s.1 t = nI (bd t)) ∧ qp_Inv j bd LL nw s.2 a) (i + 1) ?_ ?_ (i + 2) 0 (bo, ct) vl (by omega) (by omega) ⟨fun t h => absurd h (Nat.not_lt_zero t), qp_Inv_0⟩
  · intro k s a J
    obtain ⟨b, h⟩ := s
    obtain ⟨J, I⟩ := J
    dsimp only at J I
    refine br_t (nI_lt (by omega) (by omega)) ⟨v, ?_⟩
    have h25i := h25 i hi
    try dsimp only
    rw [qp_rd (f := b) hi12 (J i (by omega))]
    refine pk_le (bd i) 24 (fun z => ⟨145, ?_⟩) (fun z => Hb (by omega) b h a) rfl rfl (by omega) (by omega)
    obtain ⟨j1, j2⟩ := I i (by omega) z
    have hli := hlen i hi z
    rw [qp_cl ew (by omega)] at j2
    refine qp_loop1 (fun k j r => wY_run_67 post (nI i) tn (nI N) rh rc k (nI j) tb th tw nk nl nr p1 p2 p3 nw us b h a r) (fun j r => ∀ p, p < j → r p = a (i * 144 + p)) 144 ?_ ?_ 145 0 rs (by omega) (by omega) (fun t h => absurd h (Nat.not_lt_zero t))
    · intro k r J
      refine br_t (nI_le (a := 144) (Nat.le_refl _) (by omega)) ⟨v, nm_r (qp_rd hi12 j1) ⟨v, nm_r (qp_rd hi12 ew) ?_⟩⟩
      refine H z b h a r (fun r1 c1 hr1 hc1 => ?_)
      rw [J _ (by omega), ← j2 r1 c1 hr1 hc1, Nat.add_assoc]
    · intro k j r hj J ih
      refine br_f (nI_ge (b := 144) hj (by omega)) ?_
      have e : nI i * 144 + nI j = nI (i * 144 + j) := by rw [show (144 : Int32) = nI 144 from rfl, pk_mul, nI_add]
      rw [e, nI_clamp (by omega), nI_clamp (by omega)]
      refine ⟨vp_in_nI (by omega) (by omega), vp_in_nI hj (by omega), nm_e (nm_r (nI_1 j) (ih _ (fun p hp => ?_)))⟩
      by_cases y : p = j
      · subst y; rw [pk_us]
      · rw [pk_un y]; exact J p (by omega)
  · intro k j s a hj J ih
    obtain ⟨b, h⟩ := s
    obtain ⟨J, I⟩ := J
    dsimp only at J I
    have h25j := h25 j (by omega)
    have J' : ∀ t, t < j + 1 → upd b j (nI (bd j)) t = nI (bd t) := fun t ht => by
      by_cases z : t = j
      · subst z; rw [pk_us]
      · rw [pk_un z]; exact J t (by omega)
    refine br_f (nI_nlt (by omega) (by omega)) ?_
    refine y_boundOf (by omega) (ok j (by omega)) hT' J (fun t ht => h25 t (by omega)) ?_
    rw [← hb j (by omega), nI_clamp (by omega)]
    refine ⟨vp_in_nI (by omega) (by omega), nm_e ⟨vp_in_nI (by omega) (by omega), ?_⟩⟩
    rw [pk_us]
    refine pk_lt 24 (bd j) (fun z => ?_) (fun z => ?_) rfl rfl (by omega) (by omega)
    · exact nm_r (nI_1 j) (ih (upd b j (nI (bd j)), h) a ⟨J', qp_Inv_k I (by omega)⟩)
    · refine y_work hN (by omega) ok hT hb hl hlen I z ?_
      intro ct' vl' O
      exact nm_r (nI_1 j) (ih (upd b j (nI (bd j)), ct') vl' ⟨J', qp_Inv_s I O rfl (fun t ht => hW t (by omega)) (fun t ht h24 => by have := hlen t (by omega) h24; omega)⟩)
end qp_YR
end
section
/-! the relation, and the small methods of both sides -/
def i_Rel (k : Nat) (u : SX) (v : SY) : Prop := ∃ (t n h c : Nat) (tw th tb tb' nk nl nr nw us us' ca cb cc nn bo lh lc rs p1 p2 p3 bo' ct vl rs' : Nat → Int32), u = (nI t, nI n, nI h, nI c, tw, th, tb, nk, nl, nr, nw, us, ca, cb, cc, nn, bo, lh, lc, rs) ∧ v = (nI t, nI n, nI h, nI c, tb', th, tw, nk, nl, nr, p1, p2, p3, nw, us', bo', ct, vl, rs') ∧ 1 ≤ t ∧ t ≤ 4 ∧ qp_TW tw ∧ qp_TB th tb tb' ∧ qp_ND n nk nl nr nw us us' ca cb cc nn p1 p2 p3 ∧ qp_RS h c rs rs'
theorem i_up {k : Nat} {u : SX} {v : SY} (h : i_Rel k u v) : i_Rel (k + 5) u v := h
theorem qp_ix2 (x : Int32) {n : Nat} (hn : n < 2 ^ 31) : (x < 0 ∨ nI n ≤ x) ∨ ∃ j : Nat, j < n ∧ x = nI j := by
  rcases pk_ix x hn with h | h | h
  · exact Or.inl (Or.inl h)
  · exact Or.inl (Or.inr h)
  · exact Or.inr h
section qp_RL
variable {tc nc rh rc : Int32} {tw th tb nk nl nr nw us ca cb cc nn bo lh lc rs : Nat → Int32}
variable {tb' us' bo' rs' p1 p2 p3 ct vl : Nat → Int32}
theorem qp_mk {k t n h c : Nat} (h1 : 1 ≤ t) (h2 : t ≤ 4) (hW : qp_TW tw) (hT : qp_TB th tb tb') (hN : qp_ND n nk nl nr nw us us' ca cb cc nn p1 p2 p3) (hR : qp_RS h c rs rs') : i_Rel k (nI t, nI n, nI h, nI c, tw, th, tb, nk, nl, nr, nw, us, ca, cb, cc, nn, bo, lh, lc, rs) (nI t, nI n, nI h, nI c, tb', th, tw, nk, nl, nr, p1, p2, p3, nw, us', bo', ct, vl, rs') := ⟨t, n, h, c, tw, th, tb, tb', nk, nl, nr, nw, us, us', ca, cb, cc, nn, bo, lh, lc, rs, p1, p2, p3, bo', ct, vl, rs', rfl, rfl, h1, h2, hW, hT, hN, hR⟩
theorem qp_ND_w {n i : Nat} (hN : qp_ND n nk nl nr nw us us' ca cb cc nn p1 p2 p3) (hi : i < n) : ∃ w : Nat, 1 ≤ w ∧ w ≤ 6 ∧ nw i = nI w := by
  obtain ⟨w, h1, h2, h3, _⟩ := hN.2.2 i hi
  exact ⟨w, h1, h2, h3⟩
theorem x_hasT_y {post : Int32 → Prop} {t x : Nat} (ht : t ≤ 4) (hx : x < t) (H : post 1) : wpX_hasTable post (nI t, nc, rh, rc, tw, th, tb, nk, nl, nr, nw, us, ca, cb, cc, nn, bo, lh, lc, rs) (nI x) := by
  unfold wpX_hasTable
  try dsimp only
  exact br_f (nI_pos (by omega)) (br_f (nI_ge hx (by omega)) H)
theorem x_hasT_n {post : Int32 → Prop} {t : Nat} {p : Int32} (hv : p < 0 ∨ nI t ≤ p) (H : post 0) : wpX_hasTable post (nI t, nc, rh, rc, tw, th, tb, nk, nl, nr, nw, us, ca, cb, cc, nn, bo, lh, lc, rs) p := by
  unfold wpX_hasTable
  try dsimp only
  exact br_c (fun _ => H) (fun h => br_t (hv.resolve_left h) H)
theorem y_noT_y {post : Int32 → Prop} {t x : Nat} (ht : t ≤ 4) (hx : x < t) (H : post 0) : wpY_noTable post (nI t, nc, rh, rc, tb', th, tw, nk, nl, nr, p1, p2, p3, nw, us', bo', ct, vl, rs') (nI x) := by
  unfold wpY_noTable
  try dsimp only
  exact br_f (nI_pos (by omega)) (br_t (nI_lt hx (by omega)) H)
theorem y_noT_n {post : Int32 → Prop} {t : Nat} {p : Int32} (hv : p < 0 ∨ nI t ≤ p) (H : post 1) : wpY_noTable post (nI t, nc, rh, rc, tb', th, tw, nk, nl, nr, p1, p2, p3, nw, us', bo', ct, vl, rs') p := by
  unfold wpY_noTable
  try dsimp only
  exact br_c (fun _ => H) (fun h => br_f (Int32.not_lt.mpr (hv.resolve_left h)) H)
theorem x_hasN_y {post : Int32 → Prop} {n x : Nat} (hn : n ≤ 12) (hx : x < n) (H : post 1) : wpX_hasNode post (tc, nI n, rh, rc, tw, th, tb, nk, nl, nr, nw, us, ca, cb, cc, nn, bo, lh, lc, rs) (nI x) := by
  unfold wpX_hasNode
  try dsimp only
  exact br_f (nI_pos (by omega)) (br_f (nI_ge hx (by omega)) H)
theorem x_hasN_n {post : Int32 → Prop} {n : Nat} {p : Int32} (hv : p < 0 ∨ nI n ≤ p) (H : post 0) : wpX_hasNode post (tc, nI n, rh, rc, tw, th, tb, nk, nl, nr, nw, us, ca, cb, cc, nn, bo, lh, lc, rs) p := by
  unfold wpX_hasNode
  try dsimp only
  exact br_c (fun _ => H) (fun h => br_t (hv.resolve_left h) H)
theorem y_noN_y {post : Int32 → Prop} {n x : Nat} (hn : n ≤ 12) (hx : x < n) (H : post 0) : wpY_noNode post (tc, nI n, rh, rc, tb', th, tw, nk, nl, nr, p1, p2, p3, nw, us', bo', ct, vl, rs') (nI x) := by
  unfold wpY_noNode
  try dsimp only
  exact br_f (nI_pos (by omega)) (br_t (nI_lt hx (by omega)) H)
theorem y_noN_n {post : Int32 → Prop} {n : Nat} {p : Int32} (hv : p < 0 ∨ nI n ≤ p) (H : post 1) : wpY_noNode post (tc, nI n, rh, rc, tb', th, tw, nk, nl, nr, p1, p2, p3, nw, us', bo', ct, vl, rs') p := by
  unfold wpY_noNode
  try dsimp only
  exact br_c (fun _ => H) (fun h => br_f (Int32.not_lt.mpr (hv.resolve_left h)) H)
theorem x_hasC_y {post : Int32 → Prop} {x w q : Nat} {p1 : Int32} (hx : x < 12) (ew : nw x = nI w) (hw : w ≤ 6) (e1 : p1 = nI q) (hq : q < w) (H : post 1) : wpX_hasColumn post (tc, nc, rh, rc, tw, th, tb, nk, nl, nr, nw, us, ca, cb, cc, nn, bo, lh, lc, rs) (nI x) p1 := by
  subst e1
  unfold wpX_hasColumn
  try dsimp only
  rw [qp_rd hx ew]
  exact br_f (nI_pos (by omega)) ⟨vp_in_nI hx (by omega), br_f (nI_ge hq (by omega)) H⟩
theorem x_hasC_n {post : Int32 → Prop} {x w : Nat} {p : Int32} (hx : x < 12) (ew : nw x = nI w) (hv : p < 0 ∨ nI w ≤ p) (H : post 0) : wpX_hasColumn post (tc, nc, rh, rc, tw, th, tb, nk, nl, nr, nw, us, ca, cb, cc, nn, bo, lh, lc, rs) (nI x) p := by
  unfold wpX_hasColumn
  try dsimp only
  rw [qp_rd hx ew]
  exact br_c (fun _ => H) (fun h => ⟨vp_in_nI hx (by omega), br_t (hv.resolve_left h) H⟩)
theorem y_noC_y {post : Int32 → Prop} {x w q : Nat} {e : Int32} (hx : x < 12) (ew : nw x = nI w) (hw : w ≤ 6) (e1 : e = nI q) (hq : q < w) (H : post 0) : wpY_noColumn post (tc, nc, rh, rc, tb', th, tw, nk, nl, nr, p1, p2, p3, nw, us', bo', ct, vl, rs') (nI x) e := by
  subst e1
  unfold wpY_noColumn
  try dsimp only
  rw [qp_rd (f := nw) hx ew]
  exact br_f (nI_pos (by omega)) ⟨vp_in_nI hx (by omega), br_t (nI_lt hq (by omega)) H⟩
theorem y_noC_n {post : Int32 → Prop} {x w : Nat} {p : Int32} (hx : x < 12) (ew : nw x = nI w) (hv : p < 0 ∨ nI w ≤ p) (H : post 1) : wpY_noColumn post (tc, nc, rh, rc, tb', th, tw, nk, nl, nr, p1, p2, p3, nw, us', bo', ct, vl, rs') (nI x) p := by
  unfold wpY_noColumn
  try dsimp only
  rw [qp_rd (f := nw) hx ew]
  exact br_c (fun _ => H) (fun h => ⟨vp_in_nI hx (by omega), br_f (Int32.not_lt.mpr (hv.resolve_left h)) H⟩)
theorem x_full_y {post : Int32 → Prop} {n : Nat} (hn : n = 12) (H : post 1) : wpX_planIsFull post (tc, nI n, rh, rc, tw, th, tb, nk, nl, nr, nw, us, ca, cb, cc, nn, bo, lh, lc, rs) := by
  subst hn
  unfold wpX_planIsFull
  try dsimp only
  exact br_f (nI_nlt (a := 12) (b := 12) (by omega) (by omega)) H
theorem x_full_n {post : Int32 → Prop} {n : Nat} (hn : n < 12) (H : post 0) : wpX_planIsFull post (tc, nI n, rh, rc, tw, th, tb, nk, nl, nr, nw, us, ca, cb, cc, nn, bo, lh, lc, rs) := by
  unfold wpX_planIsFull
  try dsimp only
  exact br_t (nI_lt (b := 12) hn (by omega)) H
/-- a call that names one child: refused alike, or the child is a node that may be taken -/
theorem xy_child {n : Nat} (hn : n ≤ 12) (hus : ∀ i, i < n → us i = us' i) (p : Int32) :
    (∃ r : Int32, r ≠ 0 ∧ (∀ post : Int32 → Prop, post r → wpX_refusalOfChild post (tc, nI n, rh, rc, tw, th, tb, nk, nl, nr, nw, us, ca, cb, cc, nn, bo, lh, lc, rs) p) ∧ (∀ post : Int32 → Prop, post r → wpY_oneChild post (tc, nI n, rh, rc, tb', th, tw, nk, nl, nr, p1, p2, p3, nw, us', bo', ct, vl, rs') p)) ∨
    (∃ x : Nat, x < n ∧ n < 12 ∧ p = nI x ∧ (∀ post : Int32 → Prop, post 0 → wpX_refusalOfChild post (tc, nI n, rh, rc, tw, th, tb, nk, nl, nr, nw, us, ca, cb, cc, nn, bo, lh, lc, rs) p) ∧ (∀ post : Int32 → Prop, post 0 → wpY_oneChild post (tc, nI n, rh, rc, tb', th, tw, nk, nl, nr, p1, p2, p3, nw, us', bo', ct, vl, rs') p)) := by
  by_cases h12 : n < 12
  · have lt : nI n < 12 := nI_lt (b := 12) h12 (by omega)
    rcases qp_ix2 p (n := n) (by omega) with hv | ⟨x, hx, rfl⟩
    · refine Or.inl ⟨-4, by decide, fun post H => ?_, fun post H => ?_⟩
      · unfold wpX_refusalOfChild
        try dsimp only
        exact x_full_n h12 (br_t rfl (x_hasN_n hv (br_t rfl H)))
      · unfold wpY_oneChild
        try dsimp only
        exact br_t lt (y_noN_n hv (br_f (by decide) H))
    · have ec : (nI x).toNatClampNeg = x := nI_clamp (by omega)
      have v : vp_in (nI x) 12 := vp_in_nI (by omega) (by omega)
      by_cases hu : us x = 0
      · refine Or.inr ⟨x, hx, h12, rfl, fun post H => ?_, fun post H => ?_⟩
        · unfold wpX_refusalOfChild
          try dsimp only
          rw [ec]
          exact x_full_n h12 (br_t rfl (x_hasN_y hn hx (br_f (by decide) ⟨v, br_t hu H⟩)))
        · unfold wpY_oneChild
          try dsimp only
          rw [ec]
          exact br_t lt (y_noN_y hn hx (br_t rfl ⟨v, br_t ((hus x hx).symm.trans hu) H⟩))
      · refine Or.inl ⟨-5, by decide, fun post H => ?_, fun post H => ?_⟩
        · unfold wpX_refusalOfChild
          try dsimp only
          rw [ec]
          exact x_full_n h12 (br_t rfl (x_hasN_y hn hx (br_f (by decide) ⟨v, br_f hu H⟩)))
        · unfold wpY_oneChild
          try dsimp only
          rw [ec]
          exact br_t lt (y_noN_y hn hx (br_t rfl ⟨v, br_f (fun z => hu ((hus x hx).trans z)) H⟩))
  · have e12 : n = 12 := by omega
    refine Or.inl ⟨-8, by decide, fun post H => ?_, fun post H => ?_⟩
    · unfold wpX_refusalOfChild
      try dsimp only
      exact x_full_y e12 (br_f (by decide) H)
    · unfold wpY_oneChild
      try dsimp only
      subst e12
      exact br_f (nI_nlt (a := 12) (b := 12) (by omega) (by omega)) H
theorem xy_pair {n : Nat} (hn : n ≤ 12) (hus : ∀ i, i < n → us i = us' i) (p q : Int32) :
    (∃ r : Int32, r ≠ 0 ∧ (∀ post : Int32 → Prop, post r → wpX_refusalOfPair post (tc, nI n, rh, rc, tw, th, tb, nk, nl, nr, nw, us, ca, cb, cc, nn, bo, lh, lc, rs) p q) ∧ (∀ post : Int32 → Prop, post r → wpY_twoChildren post (tc, nI n, rh, rc, tb', th, tw, nk, nl, nr, p1, p2, p3, nw, us', bo', ct, vl, rs') p q)) ∨
    (∃ x y : Nat, x < n ∧ y < n ∧ n < 12 ∧ p = nI x ∧ q = nI y ∧ (∀ post : Int32 → Prop, post 0 → wpX_refusalOfPair post (tc, nI n, rh, rc, tw, th, tb, nk, nl, nr, nw, us, ca, cb, cc, nn, bo, lh, lc, rs) p q) ∧ (∀ post : Int32 → Prop, post 0 → wpY_twoChildren post (tc, nI n, rh, rc, tb', th, tw, nk, nl, nr, p1, p2, p3, nw, us', bo', ct, vl, rs') p q)) := by
  by_cases h12 : n < 12
  · have lt : nI n < 12 := nI_lt (b := 12) h12 (by omega)
    rcases qp_ix2 p (n := n) (by omega) with hv | ⟨x, hx, rfl⟩
    · refine Or.inl ⟨-4, by decide, fun post H => ?_, fun post H => ?_⟩
      · unfold wpX_refusalOfPair
        try dsimp only
        exact x_full_n h12 (br_t rfl (x_hasN_n hv (br_t rfl H)))
      · unfold wpY_twoChildren
        try dsimp only
        exact br_t lt (y_noN_n hv (br_f (by decide) H))
    · rcases qp_ix2 q (n := n) (by omega) with hv | ⟨y, hy, rfl⟩
      · refine Or.inl ⟨-4, by decide, fun post H => ?_, fun post H => ?_⟩
        · unfold wpX_refusalOfPair
          try dsimp only
          exact x_full_n h12 (br_t rfl (x_hasN_y hn hx (br_f (by decide) (x_hasN_n hv (br_t rfl H)))))
        · unfold wpY_twoChildren
          try dsimp only
          exact br_t lt (y_noN_y hn hx (br_t rfl (y_noN_n hv (br_f (by decide) H))))
      · have ec : (nI x).toNatClampNeg = x := nI_clamp (by omega)
        have ed : (nI y).toNatClampNeg = y := nI_clamp (by omega)
        have v : vp_in (nI x) 12 := vp_in_nI (by omega) (by omega)
        have w : vp_in (nI y) 12 := vp_in_nI (by omega) (by omega)
        have go : ∀ (r : Int32), ((us x = 0 ∧ us y = 0 ∧ ¬ nI x = nI y → r = 0) ∧ (¬ (us x = 0 ∧ us y = 0 ∧ ¬ nI x = nI y) → r = -5)) → (∀ post : Int32 → Prop, post r → wpX_refusalOfPair post (tc, nI n, rh, rc, tw, th, tb, nk, nl, nr, nw, us, ca, cb, cc, nn, bo, lh, lc, rs) (nI x) (nI y)) ∧ (∀ post : Int32 → Prop, post r → wpY_twoChildren post (tc, nI n, rh, rc, tb', th, tw, nk, nl, nr, p1, p2, p3, nw, us', bo', ct, vl, rs') (nI x) (nI y)) := by
          intro r ⟨r0, r5⟩
          refine ⟨fun post H => ?_, fun post H => ?_⟩
          · unfold wpX_refusalOfPair
            try dsimp only
            rw [ec, ed]
            refine x_full_n h12 (br_t rfl (x_hasN_y hn hx (br_f (by decide) (x_hasN_y hn hy (br_f (by decide) ⟨v, br_c (fun a => ⟨w, br_c (fun b => br_c (fun c => ?_) (fun c => ?_)) (fun b => ?_)⟩) (fun a => ?_)⟩)))))
            · rw [r5 (fun z => z.2.2 c)] at H; exact H
            · rw [r0 ⟨a, b, c⟩] at H; exact H
            · rw [r5 (fun z => b z.2.1)] at H; exact H
            · rw [r5 (fun z => a z.1)] at H; exact H
          · unfold wpY_twoChildren
            try dsimp only
            rw [ec, ed, ← hus x hx, ← hus y hy]
            refine br_t lt (y_noN_y hn hx (br_t rfl (y_noN_y hn hy (br_t rfl ⟨v, br_c (fun a => ⟨w, br_c (fun b => br_c (fun c => ?_) (fun c => ?_)) (fun b => ?_)⟩) (fun a => ?_)⟩))))
            · rw [r5 (fun z => z.2.2 c)] at H; exact H
            · rw [r0 ⟨a, b, c⟩] at H; exact H
            · rw [r5 (fun z => b z.2.1)] at H; exact H
            · rw [r5 (fun z => a z.1)] at H; exact H
        by_cases hz : us x = 0 ∧ us y = 0 ∧ ¬ nI x = nI y
        · have := go 0 ⟨fun _ => rfl, fun z => absurd hz z⟩
          exact Or.inr ⟨x, y, hx, hy, h12, rfl, rfl, this.1, this.2⟩
        · have := go (-5) ⟨fun z => absurd z hz, fun _ => rfl⟩
          exact Or.inl ⟨-5, by decide, this.1, this.2⟩
  · have e12 : n = 12 := by omega
    refine Or.inl ⟨-8, by decide, fun post H => ?_, fun post H => ?_⟩
    · unfold wpX_refusalOfPair
      try dsimp only
      exact x_full_y e12 (br_f (by decide) H)
    · unfold wpY_twoChildren
      try dsimp only
      subst e12
      exact br_f (nI_nlt (a := 12) (b := 12) (by omega) (by omega)) H
/-! a new node -/
theorem x_add0 {post : Int32 → SX → Prop} {n : Nat} {k p w : Int32} (h12 : n < 12) (e3 : p = w) (H : post (nI n) (tc, nI (n + 1), rh, rc, tw, th, tb, upd nk n k, upd nl n (-1), upd nr n (-1), upd nw n w, upd us n (vp_nar .boolean 0), ca, cb, cc, nn, bo, lh, lc, rs)) : wpX_addNode post (tc, nI n, rh, rc, tw, th, tb, nk, nl, nr, nw, us, ca, cb, cc, nn, bo, lh, lc, rs) k (-1) (-1) p := by
  subst e3
  have v : vp_in (nI n) 12 := vp_in_nI h12 (by omega)
  unfold wpX_addNode wX_addNode_59
  try dsimp only
  rw [nI_clamp (by omega)]
  exact ⟨v, nm_e ⟨v, nm_e ⟨v, nm_e ⟨v, nm_e ⟨v, nm_e (br_t rfl (br_t rfl (nm_r (nI_1 n) H)))⟩⟩⟩⟩⟩
theorem x_add1 {post : Int32 → SX → Prop} {n x : Nat} {k p w : Int32} (h12 : n < 12) (hx : x < 12) (e3 : p = w) (H : post (nI n) (tc, nI (n + 1), rh, rc, tw, th, tb, upd nk n k, upd nl n (nI x), upd nr n (-1), upd nw n w, upd (upd us n (vp_nar .boolean 0)) x (vp_nar .boolean 1), ca, cb, cc, nn, bo, lh, lc, rs)) : wpX_addNode post (tc, nI n, rh, rc, tw, th, tb, nk, nl, nr, nw, us, ca, cb, cc, nn, bo, lh, lc, rs) k (nI x) (-1) p := by
  subst e3
  have v : vp_in (nI n) 12 := vp_in_nI h12 (by omega)
  unfold wpX_addNode wX_addNode_59
  try dsimp only
  rw [nI_clamp (show n < 2 ^ 31 by omega), nI_clamp (show x < 2 ^ 31 by omega)]
  exact ⟨v, nm_e ⟨v, nm_e ⟨v, nm_e ⟨v, nm_e ⟨v, nm_e (br_f (qp_m1 (by omega)) ⟨vp_in_nI hx (by omega), nm_e (br_t rfl (nm_r (nI_1 n) H))⟩)⟩⟩⟩⟩⟩
theorem x_add2 {post : Int32 → SX → Prop} {n x y : Nat} {k p w : Int32} (h12 : n < 12) (hx : x < 12) (hy : y < 12) (e3 : p = w) (H : post (nI n) (tc, nI (n + 1), rh, rc, tw, th, tb, upd nk n k, upd nl n (nI x), upd nr n (nI y), upd nw n w, upd (upd (upd us n (vp_nar .boolean 0)) x (vp_nar .boolean 1)) y (vp_nar .boolean 1), ca, cb, cc, nn, bo, lh, lc, rs)) : wpX_addNode post (tc, nI n, rh, rc, tw, th, tb, nk, nl, nr, nw, us, ca, cb, cc, nn, bo, lh, lc, rs) k (nI x) (nI y) p := by
  subst e3
  have v : vp_in (nI n) 12 := vp_in_nI h12 (by omega)
  unfold wpX_addNode wX_addNode_59
  try dsimp only
  rw [nI_clamp (show n < 2 ^ 31 by omega), nI_clamp (show x < 2 ^ 31 by omega), nI_clamp (show y < 2 ^ 31 by omega)]
  exact ⟨v, nm_e ⟨v, nm_e ⟨v, nm_e ⟨v, nm_e ⟨v, nm_e (br_f (qp_m1 (by omega)) ⟨vp_in_nI hx (by omega), nm_e (br_f (qp_m1 (by omega)) ⟨vp_in_nI hy (by omega), nm_e (nm_r (nI_1 n) H)⟩)⟩)⟩⟩⟩⟩⟩
theorem y_add0 {post : Int32 → SY → Prop} {n : Nat} {k p w : Int32} (h12 : n < 12) (e3 : p = w) (H : post (nI n) (tc, nI (n + 1), rh, rc, tb', th, tw, upd nk n k, upd nl n (-1), upd nr n (-1), p1, p2, p3, upd nw n w, upd us' n (vp_nar .boolean 0), bo', ct, vl, rs')) : wpY_node post (tc, nI n, rh, rc, tb', th, tw, nk, nl, nr, p1, p2, p3, nw, us', bo', ct, vl, rs') k (-1) (-1) p := by
  subst e3
  have v : vp_in (nI n) 12 := vp_in_nI h12 (by omega)
  unfold wpY_node wY_node_58
  try dsimp only
  rw [nI_clamp (by omega)]
  exact ⟨v, nm_e ⟨v, nm_e ⟨v, nm_e ⟨v, nm_e ⟨v, nm_e (br_t (by decide) (br_t (by decide) (nm_r (nI_1 n) H)))⟩⟩⟩⟩⟩
theorem y_add1 {post : Int32 → SY → Prop} {n x : Nat} {k p w : Int32} (h12 : n < 12) (hx : x < 12) (e3 : p = w) (H : post (nI n) (tc, nI (n + 1), rh, rc, tb', th, tw, upd nk n k, upd nl n (nI x), upd nr n (-1), p1, p2, p3, upd nw n w, upd (upd us' n (vp_nar .boolean 0)) x (vp_nar .boolean 1), bo', ct, vl, rs')) : wpY_node post (tc, nI n, rh, rc, tb', th, tw, nk, nl, nr, p1, p2, p3, nw, us', bo', ct, vl, rs') k (nI x) (-1) p := by
  subst e3
  have v : vp_in (nI n) 12 := vp_in_nI h12 (by omega)
  unfold wpY_node wY_node_58
  try dsimp only
  rw [nI_clamp (show n < 2 ^ 31 by omega), nI_clamp (show x < 2 ^ 31 by omega)]
  exact ⟨v, nm_e ⟨v, nm_e ⟨v, nm_e ⟨v, nm_e ⟨v, nm_e (br_f (nI_pos (by omega)) ⟨vp_in_nI hx (by omega), nm_e (br_t (by decide) (nm_r (nI_1 n) H))⟩)⟩⟩⟩⟩⟩
theorem y_add2 {post : Int32 → SY → Prop} {n x y : Nat} {k p w : Int32} (h12 : n < 12) (hx : x < 12) (hy : y < 12) (e3 : p = w) (H : post (nI n) (tc, nI (n + 1), rh, rc, tb', th, tw, upd nk n k, upd nl n (nI x), upd nr n (nI y), p1, p2, p3, upd nw n w, upd (upd (upd us' n (vp_nar .boolean 0)) x (vp_nar .boolean 1)) y (vp_nar .boolean 1), bo', ct, vl, rs')) : wpY_node post (tc, nI n, rh, rc, tb', th, tw, nk, nl, nr, p1, p2, p3, nw, us', bo', ct, vl, rs') k (nI x) (nI y) p := by
  subst e3
  have v : vp_in (nI n) 12 := vp_in_nI h12 (by omega)
  unfold wpY_node wY_node_58
  try dsimp only
  rw [nI_clamp (show n < 2 ^ 31 by omega), nI_clamp (show x < 2 ^ 31 by omega), nI_clamp (show y < 2 ^ 31 by omega)]
  exact ⟨v, nm_e ⟨v, nm_e ⟨v, nm_e ⟨v, nm_e ⟨v, nm_e (br_f (nI_pos (by omega)) ⟨vp_in_nI hx (by omega), nm_e (br_f (nI_pos (by omega)) ⟨vp_in_nI hy (by omega), nm_e (nm_r (nI_1 n) H)⟩)⟩)⟩⟩⟩⟩⟩
theorem y_numbers {post : SY → Prop} {n : Nat} {a b c : Int32} (h12 : n < 12) (H : post (tc, nc, rh, rc, tb', th, tw, nk, nl, nr, upd p1 n a, upd p2 n b, upd p3 n c, nw, us', bo', ct, vl, rs')) : wpY_numbers post (tc, nc, rh, rc, tb', th, tw, nk, nl, nr, p1, p2, p3, nw, us', bo', ct, vl, rs') (nI n) a b c := by
  have v : vp_in (nI n) 12 := vp_in_nI h12 (by omega)
  unfold wpY_numbers
  try dsimp only
  rw [nI_clamp (by omega)]
  exact ⟨v, nm_e ⟨v, nm_e ⟨v, nm_e H⟩⟩⟩
end qp_RL
end
section
/-! the constructors, the tables, what is read -/
theorem x_init4 {post : SX → Prop} {z : Int32} (H : ∀ a : Nat → Int32, (∀ j, a j = if j < 4 then 2 else 0) → post (z, 0, 0, 0, a, (fun _ => 0), (fun _ => 0), (fun _ => 0), (fun _ => 0), (fun _ => 0), (fun _ => 0), (fun _ => 0), (fun _ => 0), (fun _ => 0), (fun _ => 0), (fun _ => 0), (fun _ => 0), (fun _ => 0), (fun _ => 0), (fun _ => 0))) : ∃ m, wX_init_174 post z 0 0 0 m 0 (fun _ => 0) (fun _ => 0) (fun _ => 0) (fun _ => 0) (fun _ => 0) (fun _ => 0) (fun _ => 0) (fun _ => 0) (fun _ => 0) (fun _ => 0) (fun _ => 0) (fun _ => 0) (fun _ => 0) (fun _ => 0) (fun _ => 0) (fun _ => 0) := by
  refine ⟨5, ?_⟩
  refine qp_loop1 (fun k i a => wX_init_174 post z 0 0 0 k (nI i) a (fun _ => 0) (fun _ => 0) (fun _ => 0) (fun _ => 0) (fun _ => 0) (fun _ => 0) (fun _ => 0) (fun _ => 0) (fun _ => 0) (fun _ => 0) (fun _ => 0) (fun _ => 0) (fun _ => 0) (fun _ => 0) (fun _ => 0)) (fun i a => ∀ j, a j = if j < i then 2 else 0) 4 ?_ ?_ 5 0 (fun _ => 0) (by omega) (by omega) (fun j => rfl)
  · intro k a A
    exact br_t (nI_le (a := 4) (Nat.le_refl _) (by omega)) (H a A)
  · intro k i a hi A ih
    refine br_f (nI_ge (b := 4) hi (by omega)) ⟨vp_in_nI hi (by omega), ?_⟩
    rw [nI_clamp (by omega)]
    refine nm_e (nm_r (nI_1 i) (ih _ (fun j => ?_)))
    by_cases e : j = i
    · subst e; rw [pk_us, if_pos (by omega)]
    · rw [pk_un e, A j]
      by_cases z : j < i
      · rw [if_pos z, if_pos (by omega)]
      · rw [if_neg z, if_neg (by omega)]
theorem y_init4 {post : SY → Prop} {z : Int32} (H : ∀ a : Nat → Int32, (∀ j, a j = if j < 4 then 2 else 0) → post (z, 0, 0, 0, (fun _ => 0), (fun _ => 0), a, (fun _ => 0), (fun _ => 0), (fun _ => 0), (fun _ => 0), (fun _ => 0), (fun _ => 0), (fun _ => 0), (fun _ => 0), (fun _ => 0), (fun _ => 0), (fun _ => 0), (fun _ => 0))) : ∃ m, wY_init_147 post z 0 0 0 m 0 (fun _ => 0) (fun _ => 0) (fun _ => 0) (fun _ => 0) (fun _ => 0) (fun _ => 0) (fun _ => 0) (fun _ => 0) (fun _ => 0) (fun _ => 0) (fun _ => 0) (fun _ => 0) (fun _ => 0) (fun _ => 0) (fun _ => 0) := by
  refine ⟨5, ?_⟩
  refine qp_loop1 (fun k i a => wY_init_147 post z 0 0 0 k (nI i) (fun _ => 0) (fun _ => 0) a (fun _ => 0) (fun _ => 0) (fun _ => 0) (fun _ => 0) (fun _ => 0) (fun _ => 0) (fun _ => 0) (fun _ => 0) (fun _ => 0) (fun _ => 0) (fun _ => 0) (fun _ => 0)) (fun i a => ∀ j, a j = if j < i then 2 else 0) 4 ?_ ?_ 5 0 (fun _ => 0) (by omega) (by omega) (fun j => rfl)
  · intro k a A
    exact br_t (nI_le (a := 4) (Nat.le_refl _) (by omega)) (H a A)
  · intro k i a hi A ih
    refine br_f (nI_ge (b := 4) hi (by omega)) ⟨vp_in_nI hi (by omega), ?_⟩
    rw [nI_clamp (by omega)]
    refine nm_e (nm_r (nI_1 i) (ih _ (fun j => ?_)))
    by_cases e : j = i
    · subst e; rw [pk_us, if_pos (by omega)]
    · rw [pk_un e, A j]
      by_cases z : j < i
      · rw [if_pos z, if_pos (by omega)]
      · rw [if_neg z, if_neg (by omega)]
theorem xy_init {z : Int32} {t : Nat} {a b : Nat → Int32} (ez : z = nI t) (h1 : 1 ≤ t) (h4 : t ≤ 4) (A : ∀ j, a j = if j < 4 then 2 else 0) (B : ∀ j, b j = if j < 4 then 2 else 0) : i_Rel 1 (z, 0, 0, 0, a, (fun _ => 0), (fun _ => 0), (fun _ => 0), (fun _ => 0), (fun _ => 0), (fun _ => 0), (fun _ => 0), (fun _ => 0), (fun _ => 0), (fun _ => 0), (fun _ => 0), (fun _ => 0), (fun _ => 0), (fun _ => 0), (fun _ => 0)) (z, 0, 0, 0, (fun _ => 0), (fun _ => 0), b, (fun _ => 0), (fun _ => 0), (fun _ => 0), (fun _ => 0), (fun _ => 0), (fun _ => 0), (fun _ => 0), (fun _ => 0), (fun _ => 0), (fun _ => 0), (fun _ => 0), (fun _ => 0)) := by
  have eab : b = a := funext (fun j => (B j).trans (A j).symm)
  subst eab ez
  refine qp_mk (n := 0) (h := 0) (c := 0) h1 h4 (fun j hj => ⟨2, by omega, by omega, ?_⟩) (fun j hj => ⟨0, by omega, nI_0.symm, fun p hp => by omega⟩) qp_ND_0 ⟨by omega, by omega, fun r q hr => absurd hr (Nat.not_lt_zero r)⟩
  rw [B j, if_pos hj]; rfl
theorem i_vc0 (k0 : Int32) : wpX_init (fun u => wpY_init (fun v => i_Rel 1 u v) k0) k0 := by
  unfold wpX_init wX_init_157 wpY_init wY_init_133
  by_cases h1 : 1 ≤ k0
  · by_cases h4 : k0 ≤ 4
    · obtain ⟨t, ht, et⟩ := nI_of2 (x := k0) (M := 4) (n := 4) (by decide) (fun z => absurd (Int32.le_trans h1 (Int32.le_of_lt z)) (by decide)) h4
      have ht1 : 1 ≤ t := by
        rw [et] at h1
        exact (nI_leI (a := 1) (b := t) (by omega) (by omega)).mp h1
      exact br_t h1 (br_t h4 (x_init4 (fun a A => br_t h1 (br_t h4 (y_init4 (fun b B => xy_init et ht1 ht A B))))))
    · exact br_t h1 (br_f h4 (x_init4 (fun a A => br_t h1 (br_f h4 (y_init4 (fun b B => xy_init (t := 4) rfl (by omega) (by omega) A B))))))
  · exact br_f h1 (br_t (by decide) (x_init4 (fun a A => br_f h1 (br_t (by decide) (y_init4 (fun b B => xy_init (t := 1) rfl (by omega) (by omega) A B))))))
theorem i_vc_resultRows {k : Nat} {u : SX} {v : SY} (I : i_Rel k u v) (hk : k + 5 ≤ 2561) : wpX_resultRows (fun r => wpY_resultRows (fun r' => r' = r ∧ i_Rel (k + 5) u v) v) u := by
  have J := I
  obtain ⟨t, n, h, c, tw, th, tb, tb', nk, nl, nr, nw, us, us', ca, cb, cc, nn, bo, lh, lc, rs, p1, p2, p3, bo', ct, vl, rs', rfl, rfl, ht1, ht4, hW, hT, hN, hR⟩ := I
  have hn := hN.1
  have hus := hN.2.1
  exact ⟨rfl, J⟩
theorem i_vc_resultWidth {k : Nat} {u : SX} {v : SY} (I : i_Rel k u v) (hk : k + 5 ≤ 2561) : wpX_resultWidth (fun r => wpY_resultWidth (fun r' => r' = r ∧ i_Rel (k + 5) u v) v) u := by
  have J := I
  obtain ⟨t, n, h, c, tw, th, tb, tb', nk, nl, nr, nw, us, us', ca, cb, cc, nn, bo, lh, lc, rs, p1, p2, p3, bo', ct, vl, rs', rfl, rfl, ht1, ht4, hW, hT, hN, hR⟩ := I
  have hn := hN.1
  have hus := hN.2.1
  exact ⟨rfl, J⟩
theorem i_vc_cell {k : Nat} {u : SX} {v : SY} (I : i_Rel k u v) (hk : k + 5 ≤ 2561) (v1 : Int32) (v2 : Int32) : wpX_cell (fun r => wpY_cell (fun r' => r' = r ∧ i_Rel (k + 5) u v) v v1 v2) u v1 v2 := by
  have J := I
  obtain ⟨t, n, h, c, tw, th, tb, tb', nk, nl, nr, nw, us, us', ca, cb, cc, nn, bo, lh, lc, rs, p1, p2, p3, bo', ct, vl, rs', rfl, rfl, ht1, ht4, hW, hT, hN, hR⟩ := I
  have hn := hN.1
  have hus := hN.2.1
  obtain ⟨h24, c6, hcell⟩ := hR
  unfold wpX_cell
  try dsimp only
  unfold wpY_cell
  try dsimp only
  by_cases a0 : v1 < 0
  · exact br_t a0 (br_t a0 ⟨rfl, J⟩)
  · by_cases a1 : nI h ≤ v1
    · exact br_f a0 (br_t a1 (br_f a0 (br_t a1 ⟨rfl, J⟩)))
    · by_cases b0 : v2 < 0
      · exact br_f a0 (br_f a1 (br_t b0 (br_f a0 (br_f a1 (br_t b0 ⟨rfl, J⟩)))))
      · by_cases b1 : v2 < nI c
        · obtain ⟨r, hr, rfl⟩ := nI_of a0
          obtain ⟨q, hq, rfl⟩ := nI_of b0
          have hr' : r < h := by
            rw [nI_leI (by omega) hr] at a1; omega
          have hq' : q < c := (nI_ltI hq (by omega)).mp b1
          rw [qp_i6, nI_clamp (by omega)]
          have v : vp_in (nI (r * 6 + q)) 144 := vp_in_nI (by omega) (by omega)
          exact br_f a0 (br_f a1 (br_f b0 (br_t b1 ⟨v, br_f a0 (br_f a1 (br_f b0 (br_t b1 ⟨v, (hcell r q hr' hq').symm, J⟩)))⟩)))
        · exact br_f a0 (br_f a1 (br_f b0 (br_f b1 (br_f a0 (br_f a1 (br_f b0 (br_f b1 ⟨rfl, J⟩)))))))
theorem i_vc_width {k : Nat} {u : SX} {v : SY} (I : i_Rel k u v) (hk : k + 5 ≤ 2561) (v1 : Int32) : wpX_width (fun r => wpY_width (fun r' => r' = r ∧ i_Rel (k + 5) u v) v v1) u v1 := by
  have J := I
  obtain ⟨t, n, h, c, tw, th, tb, tb', nk, nl, nr, nw, us, us', ca, cb, cc, nn, bo, lh, lc, rs, p1, p2, p3, bo', ct, vl, rs', rfl, rfl, ht1, ht4, hW, hT, hN, hR⟩ := I
  have hn := hN.1
  have hus := hN.2.1
  unfold wpX_width
  try dsimp only
  unfold wpY_width
  try dsimp only
  rcases qp_ix2 v1 (n := n) (by omega) with hv | ⟨x, hx, rfl⟩
  · exact x_hasN_n hv (br_t rfl (y_noN_n hv (br_f (by decide) ⟨rfl, J⟩)))
  · have v : vp_in (nI x) 12 := vp_in_nI (by omega) (by omega)
    exact x_hasN_y hn hx (br_f (by decide) ⟨v, y_noN_y hn hx (br_t rfl ⟨v, rfl, J⟩)⟩)
theorem i_vc_tableRows {k : Nat} {u : SX} {v : SY} (I : i_Rel k u v) (hk : k + 5 ≤ 2561) (v1 : Int32) : wpX_tableRows (fun r => wpY_tableRows (fun r' => r' = r ∧ i_Rel (k + 5) u v) v v1) u v1 := by
  have J := I
  obtain ⟨t, n, h, c, tw, th, tb, tb', nk, nl, nr, nw, us, us', ca, cb, cc, nn, bo, lh, lc, rs, p1, p2, p3, bo', ct, vl, rs', rfl, rfl, ht1, ht4, hW, hT, hN, hR⟩ := I
  have hn := hN.1
  have hus := hN.2.1
  unfold wpX_tableRows
  try dsimp only
  unfold wpY_tableRows
  try dsimp only
  rcases qp_ix2 v1 (n := t) (by omega) with hv | ⟨x, hx, rfl⟩
  · exact x_hasT_n hv (br_t rfl (y_noT_n hv (br_f (by decide) ⟨rfl, J⟩)))
  · have v : vp_in (nI x) 4 := vp_in_nI (by omega) (by omega)
    exact x_hasT_y ht4 hx (br_f (by decide) ⟨v, y_noT_y ht4 hx (br_t rfl ⟨v, rfl, J⟩)⟩)
theorem i_vc_clearPlan {k : Nat} {u : SX} {v : SY} (I : i_Rel k u v) (hk : k + 5 ≤ 2561) : wpX_clearPlan (fun u' => wpY_clearPlan (fun v' => i_Rel (k + 5) u' v') v) u := by
  have J := I
  obtain ⟨t, n, h, c, tw, th, tb, tb', nk, nl, nr, nw, us, us', ca, cb, cc, nn, bo, lh, lc, rs, p1, p2, p3, bo', ct, vl, rs', rfl, rfl, ht1, ht4, hW, hT, hN, hR⟩ := I
  have hn := hN.1
  have hus := hN.2.1
  unfold wpX_clearPlan
  try dsimp only
  unfold wpY_clearPlan
  try dsimp only
  refine ⟨13, ?_⟩
  refine qp_loop1 (fun m i a => wY_clearPlan_2 (fun v' => i_Rel (k + 5) (nI t, 0, nI h, nI c, tw, th, tb, nk, nl, nr, nw, us, ca, cb, cc, nn, bo, lh, lc, rs) v') (nI t) (nI n) (nI h) (nI c) m (nI i) tb' th tw nk nl nr p1 p2 p3 nw a bo' ct vl rs') (fun _ _ => True) 12 ?_ ?_ 13 0 us' (by omega) (by omega) trivial
  · intro m a _
    exact br_t (nI_le (a := 12) (Nat.le_refl _) (by omega)) (qp_mk (n := 0) ht1 ht4 hW hT qp_ND_0 hR)
  · intro m i a hi _ ih
    exact br_f (nI_ge (b := 12) hi (by omega)) ⟨vp_in_nI hi (by omega), nm_e (nm_r (nI_1 i) (ih _ trivial))⟩
end
section
/-! the tables -/
section qp_T
variable {tc nc rh rc : Int32} {tw th tb nk nl nr nw us ca cb cc nn bo lh lc rs : Nat → Int32}
variable {tb' us' bo' rs' p1 p2 p3 ct vl : Nat → Int32}
theorem x_scanned {post : Int32 → Prop} {n : Nat} {p : Int32} (hn : n ≤ 12) (ht : (∃ i, i < n ∧ nk i = 0 ∧ nn i = p) → post 1) (hf : ¬ (∃ i, i < n ∧ nk i = 0 ∧ nn i = p) → post 0) : wpX_isScanned post (tc, nI n, rh, rc, tw, th, tb, nk, nl, nr, nw, us, ca, cb, cc, nn, bo, lh, lc, rs) p := by
  unfold wpX_isScanned
  try dsimp only
  refine ⟨n + 1, ?_⟩
  refine qp_loop0 (fun k i => wX_isScanned_2 post p tc (nI n) rh rc tw th tb nk nl nr nw us ca cb cc nn bo lh lc rs k (nI i)) (fun i => ∀ j, j < i → ¬ (nk j = 0 ∧ nn j = p)) n ?_ ?_ (n + 1) 0 (by omega) (by omega) (fun j h => absurd h (Nat.not_lt_zero j))
  · intro k J
    exact br_t (nI_le (Nat.le_refl _) (by omega)) (hf (fun ⟨i, h1, h2⟩ => J i h1 h2))
  · intro k i hi J ih
    have go : ¬ (nk i = 0 ∧ nn i = p) → wX_isScanned_2 post p tc (nI n) rh rc tw th tb nk nl nr nw us ca cb cc nn bo lh lc rs k (nI (i + 1)) := fun hz => ih (fun j hj => by
      by_cases e : j = i
      · subst e; exact hz
      · exact J j (by omega))
    refine br_f (nI_ge hi (by omega)) ?_
    rw [nI_clamp (by omega)]
    exact ⟨vp_in_nI (by omega) (by omega), br_c (fun a => ⟨vp_in_nI (by omega) (by omega), br_c (fun b => ht ⟨i, hi, a, b⟩) (fun b => nm_r (nI_1 i) (go (fun z => b z.2)))⟩) (fun a => nm_r (nI_1 i) (go (fun z => a z.1)))⟩
theorem y_scanned {post : Int32 → SY → Prop} {n x : Nat} {p : Int32} (hn : n ≤ 12) (hx : x < 4) (ht : (∃ i, i < n ∧ nk i = 0 ∧ p1 i = nI x) → post (-11) (tc, nI n, rh, rc, tb', th, tw, nk, nl, nr, p1, p2, p3, nw, us', bo', ct, vl, rs')) (hf : ¬ (∃ i, i < n ∧ nk i = 0 ∧ p1 i = nI x) → post 0 (tc, nI n, rh, rc, tb', upd th x 0, upd tw x p, nk, nl, nr, p1, p2, p3, nw, us', bo', ct, vl, rs')) : ∃ m, wY_defineTable_25 post (nI x) p tc (nI n) rh rc tb' th tw nk nl nr p1 p2 p3 nw us' bo' ct vl rs' m 0 := by
  refine ⟨n + 1, ?_⟩
  refine qp_loop0 (fun k i => wY_defineTable_25 post (nI x) p tc (nI n) rh rc tb' th tw nk nl nr p1 p2 p3 nw us' bo' ct vl rs' k (nI i)) (fun i => ∀ j, j < i → ¬ (nk j = 0 ∧ p1 j = nI x)) n ?_ ?_ (n + 1) 0 (by omega) (by omega) (fun j h => absurd h (Nat.not_lt_zero j))
  · intro k J
    refine br_t (nI_le (Nat.le_refl _) (by omega)) ?_
    rw [nI_clamp (by omega)]
    exact ⟨vp_in_nI hx (by omega), nm_e ⟨vp_in_nI hx (by omega), nm_e (hf (fun ⟨i, h1, h2⟩ => J i h1 h2))⟩⟩
  · intro k i hi J ih
    have go : ¬ (nk i = 0 ∧ p1 i = nI x) → wY_defineTable_25 post (nI x) p tc (nI n) rh rc tb' th tw nk nl nr p1 p2 p3 nw us' bo' ct vl rs' k (nI (i + 1)) := fun hz => ih (fun j hj => by
      by_cases e : j = i
      · subst e; exact hz
      · exact J j (by omega))
    refine br_f (nI_ge hi (by omega)) ?_
    rw [nI_clamp (show i < 2 ^ 31 by omega)]
    exact ⟨vp_in_nI (by omega) (by omega), br_c (fun a => ⟨vp_in_nI (by omega) (by omega), br_c (fun b => ht ⟨i, hi, a, b⟩) (fun b => nm_r (nI_1 i) (go (fun z => b z.2)))⟩) (fun a => nm_r (nI_1 i) (go (fun z => a z.1)))⟩
end qp_T
theorem qp_u2 {f g : Nat → Int32} {i p : Nat} {x : Int32} (h : p ≠ i → f p = g p) : upd f i x p = upd g i x p := by
  by_cases e : p = i
  · subst e; rw [pk_us, pk_us]
  · rw [pk_un e, pk_un e]; exact h e
/-- a scan's table is the same number on both sides -/
theorem qp_scan_eq {k l r w a b c d q1 q2 q3 : Int32} {W : Nat → Int32} {i : Nat} (h : qp_OK k l r w a b c d q1 q2 q3 W i) (hk : k = 0) : d = q1 := by
  obtain ⟨wn, _, _, _, h⟩ := h
  rcases h with h | h | h | h | h | h | h | h | h | h | h
  · obtain ⟨_, _, t, _, h1, h2⟩ := h
    exact h1.trans h2.symm
  all_goals (rw [hk] at h; exact absurd h.1 (by decide))
theorem i_vc_defineTable {k : Nat} {u : SX} {v : SY} (I : i_Rel k u v) (hk : k + 5 ≤ 2561) (v1 : Int32) (v2 : Int32) : wpX_defineTable (fun r u' => wpY_defineTable (fun r' v' => r' = r ∧ i_Rel (k + 5) u' v') v v1 v2) u v1 v2 := by
  have J := I
  obtain ⟨t, n, h, c, tw, th, tb, tb', nk, nl, nr, nw, us, us', ca, cb, cc, nn, bo, lh, lc, rs, p1, p2, p3, bo', ct, vl, rs', rfl, rfl, ht1, ht4, hW, hT, hN, hR⟩ := I
  have hn := hN.1
  have hus := hN.2.1
  unfold wpX_defineTable
  try dsimp only
  unfold wpY_defineTable
  try dsimp only
  rcases qp_ix2 v1 (n := t) (by omega) with hv | ⟨x, hx, rfl⟩
  · exact x_hasT_n hv (br_t rfl (y_noT_n hv (br_f (by decide) ⟨rfl, J⟩)))
  · have vx : vp_in (nI x) 4 := vp_in_nI (by omega) (by omega)
    refine x_hasT_y ht4 hx (br_f (by decide) ?_)
    by_cases w1 : v2 < 1
    · exact br_t w1 (y_noT_y ht4 hx (br_t rfl (br_t w1 ⟨rfl, J⟩)))
    · by_cases w3 : v2 ≤ 3
      · obtain ⟨w, hw, ew⟩ := nI_of2 (x := v2) (M := 3) (n := 3) (by decide) (fun z => w1 (Int32.lt_trans z (by decide))) w3
        have hw1 : 1 ≤ w := by
          subst ew
          have := Int32.not_lt.mp w1
          exact (nI_leI (a := 1) (b := w) (by omega) (by omega)).mp this
        have hiff : (∃ i, i < n ∧ nk i = 0 ∧ nn i = nI x) ↔ (∃ i, i < n ∧ nk i = 0 ∧ p1 i = nI x) := by
          constructor
          · rintro ⟨i, h1, h2, h3⟩
            exact ⟨i, h1, h2, (qp_scan_eq (hN.2.2 i h1) h2).symm.trans h3⟩
          · rintro ⟨i, h1, h2, h3⟩
            exact ⟨i, h1, h2, (qp_scan_eq (hN.2.2 i h1) h2).trans h3⟩
        refine br_f w1 (br_t w3 ?_)
        refine x_scanned hn (fun hs => ?_) (fun hs => ?_)
        · refine br_f (by decide) ?_
          refine y_noT_y ht4 hx (br_t rfl (br_f w1 (br_t w3 ?_)))
          exact y_scanned hn (by omega) (fun _ => ⟨rfl, J⟩) (fun z => absurd (hiff.mp hs) z)
        · refine br_t rfl ?_
          rw [nI_clamp (by omega)]
          refine ⟨vx, nm_e ⟨vx, nm_e ?_⟩⟩
          refine y_noT_y ht4 hx (br_t rfl (br_f w1 (br_t w3 ?_)))
          refine y_scanned hn (by omega) (fun z => absurd (hiff.mpr z) hs) (fun _ => ⟨rfl, ?_⟩)
          refine qp_mk ht1 ht4 (fun j hj => ?_) (fun j hj => ?_) hN hR
          · by_cases e : j = x
            · subst e; rw [pk_us]; exact ⟨w, hw1, hw, ew⟩
            · rw [pk_un e]; exact hW j hj
          · by_cases e : j = x
            · subst e; rw [pk_us]; exact ⟨0, by omega, nI_0.symm, fun p hp => by omega⟩
            · rw [pk_un e]; exact hT j hj
      · exact br_f w1 (br_f w3 (y_noT_y ht4 hx (br_t rfl (br_f w1 (br_f w3 ⟨rfl, J⟩)))))
theorem i_vc_addRow {k : Nat} {u : SX} {v : SY} (I : i_Rel k u v) (hk : k + 5 ≤ 2561) (v1 : Int32) (v2 : Int32) (v3 : Int32) (v4 : Int32) : wpX_addRow (fun r u' => wpY_addRow (fun r' v' => r' = r ∧ i_Rel (k + 5) u' v') v v1 v2 v3 v4) u v1 v2 v3 v4 := by
  have J := I
  obtain ⟨t, n, h, c, tw, th, tb, tb', nk, nl, nr, nw, us, us', ca, cb, cc, nn, bo, lh, lc, rs, p1, p2, p3, bo', ct, vl, rs', rfl, rfl, ht1, ht4, hW, hT, hN, hR⟩ := I
  have hn := hN.1
  have hus := hN.2.1
  unfold wpX_addRow
  try dsimp only
  unfold wpY_addRow wpX_tableRowStart
  try dsimp only
  rcases qp_ix2 v1 (n := t) (by omega) with hv | ⟨x, hx, rfl⟩
  · exact x_hasT_n hv (br_t rfl (y_noT_n hv (br_f (by decide) ⟨rfl, J⟩)))
  · have vx : vp_in (nI x) 4 := vp_in_nI (by omega) (by omega)
    obtain ⟨r, hr, er, hag⟩ := hT x (by omega)
    refine x_hasT_y ht4 hx (br_f (by decide) ⟨vx, ?_⟩)
    rw [nI_clamp (show x < 2 ^ 31 by omega)]
    refine nm_r er ?_
    by_cases r10 : r < 10
    · have l10 : nI r < 10 := nI_lt (b := 10) r10 (by omega)
      refine br_t l10 ?_
      have i1 : nI (x * 30 + r * 3) + 1 = nI (x * 30 + r * 3 + 1) := nI_1 _
      have i2 : nI (x * 30 + r * 3) + 2 = nI (x * 30 + r * 3 + 2) := nI_add _ 2
      rw [qp_it0, i1, i2, nI_clamp (by omega), nI_clamp (by omega), nI_clamp (by omega), nI_1]
      have va : vp_in (nI (x * 30 + r * 3)) 120 := vp_in_nI (by omega) (by omega)
      have vb : vp_in (nI (x * 30 + r * 3 + 1)) 120 := vp_in_nI (by omega) (by omega)
      have vc : vp_in (nI (x * 30 + r * 3 + 2)) 120 := vp_in_nI (by omega) (by omega)
      refine ⟨va, nm_e ⟨vb, nm_e ⟨vc, nm_e ⟨vx, nm_e ?_⟩⟩⟩⟩
      refine y_noT_y ht4 hx (br_t rfl ⟨vx, nm_r er (br_t l10 ?_)⟩)
      rw [qp_iu0, i1, i2, nI_clamp (by omega), nI_clamp (by omega), nI_clamp (by omega), nI_1]
      refine ⟨va, nm_e ⟨vb, nm_e ⟨vc, nm_e ⟨vx, nm_e ⟨rfl, ?_⟩⟩⟩⟩⟩
      refine qp_mk ht1 ht4 hW (fun j hj => ?_) hN hR
      by_cases e : j = x
      · subst e
        refine ⟨r + 1, by omega, pk_us, fun p hp => ?_⟩
        exact qp_u2 (fun e2 => qp_u2 (fun e1 => qp_u2 (fun e0 => hag p (by omega))))
      · obtain ⟨r', hr', er', hag'⟩ := hT j hj
        refine ⟨r', hr', by rw [pk_un e]; exact er', fun p hp => ?_⟩
        exact qp_u2 (fun e2 => qp_u2 (fun e1 => qp_u2 (fun e0 => hag' p hp)))
    · have l10 : ¬ nI r < 10 := nI_nlt (b := 10) (by omega) (by omega)
      refine br_f l10 ?_
      exact y_noT_y ht4 hx (br_t rfl ⟨vx, nm_r er (br_f l10 ⟨rfl, J⟩)⟩)
theorem i_vc_setCell {k : Nat} {u : SX} {v : SY} (I : i_Rel k u v) (hk : k + 5 ≤ 2561) (v1 : Int32) (v2 : Int32) (v3 : Int32) (v4 : Int32) : wpX_setCell (fun r u' => wpY_setCell (fun r' v' => r' = r ∧ i_Rel (k + 5) u' v') v v1 v2 v3 v4) u v1 v2 v3 v4 := by
  have J := I
  obtain ⟨t, n, h, c, tw, th, tb, tb', nk, nl, nr, nw, us, us', ca, cb, cc, nn, bo, lh, lc, rs, p1, p2, p3, bo', ct, vl, rs', rfl, rfl, ht1, ht4, hW, hT, hN, hR⟩ := I
  have hn := hN.1
  have hus := hN.2.1
  unfold wpX_setCell
  try dsimp only
  unfold wpY_setCell wpX_tableRowStart
  try dsimp only
  rcases qp_ix2 v1 (n := t) (by omega) with hv | ⟨x, hx, rfl⟩
  · exact x_hasT_n hv (br_t rfl (y_noT_n hv (br_f (by decide) ⟨rfl, J⟩)))
  · have vx : vp_in (nI x) 4 := vp_in_nI (by omega) (by omega)
    obtain ⟨r, hr, er, hag⟩ := hT x (by omega)
    obtain ⟨w, hw1, hw3, ew⟩ := hW x (by omega)
    rw [nI_clamp (show x < 2 ^ 31 by omega), er, ew]
    refine x_hasT_y ht4 hx (br_f (by decide) ?_)
    by_cases a0 : v2 < 0
    · exact br_t a0 (y_noT_y ht4 hx (br_t rfl (br_t a0 ⟨rfl, J⟩)))
    · refine br_f a0 ⟨vx, ?_⟩
      by_cases a1 : v2 < nI r
      · refine br_t a1 ?_
        by_cases b0 : v3 < 0
        · exact br_t b0 (y_noT_y ht4 hx (br_t rfl (br_f a0 ⟨vx, br_t a1 (br_t b0 ⟨rfl, J⟩)⟩)))
        · refine br_f b0 ⟨vx, ?_⟩
          by_cases b1 : v3 < nI w
          · obtain ⟨y, hy, rfl⟩ := nI_of a0
            obtain ⟨q, hq, rfl⟩ := nI_of b0
            have hy' : y < r := (nI_ltI hy (by omega)).mp a1
            have hq' : q < w := (nI_ltI hq (by omega)).mp b1
            have va : vp_in (nI (x * 30 + y * 3 + q)) 120 := vp_in_nI (by omega) (by omega)
            rw [qp_it0, nI_add, qp_iu, nI_clamp (by omega)]
            refine br_t b1 ⟨va, nm_e ?_⟩
            refine y_noT_y ht4 hx (br_t rfl (br_f a0 ⟨vx, br_t a1 (br_f b0 ⟨vx, br_t b1 ⟨va, nm_e ⟨rfl, ?_⟩⟩⟩)⟩))
            refine qp_mk ht1 ht4 hW (fun j hj => ?_) hN hR
            obtain ⟨r', hr', er', hag'⟩ := hT j hj
            refine ⟨r', hr', er', fun p hp => ?_⟩
            exact qp_u2 (fun _ => hag' p hp)
          · exact br_f b1 (y_noT_y ht4 hx (br_t rfl (br_f a0 ⟨vx, br_t a1 (br_f b0 ⟨vx, br_f b1 ⟨rfl, J⟩⟩)⟩)))
      · exact br_f a1 (y_noT_y ht4 hx (br_t rfl (br_f a0 ⟨vx, br_f a1 ⟨rfl, J⟩⟩)))
theorem i_vc_dropRow {k : Nat} {u : SX} {v : SY} (I : i_Rel k u v) (hk : k + 5 ≤ 2561) (v1 : Int32) (v2 : Int32) : wpX_dropRow (fun r u' => wpY_dropRow (fun r' v' => r' = r ∧ i_Rel (k + 5) u' v') v v1 v2) u v1 v2 := by
  have J := I
  obtain ⟨t, n, h, c, tw, th, tb, tb', nk, nl, nr, nw, us, us', ca, cb, cc, nn, bo, lh, lc, rs, p1, p2, p3, bo', ct, vl, rs', rfl, rfl, ht1, ht4, hW, hT, hN, hR⟩ := I
  have hn := hN.1
  have hus := hN.2.1
  unfold wpX_dropRow
  try dsimp only
  unfold wpX_tableRowStart
  try dsimp only
  rcases qp_ix2 v1 (n := t) (by omega) with hv | ⟨x, hx, rfl⟩
  · refine x_hasT_n hv (br_t rfl ?_)
    unfold wpY_dropRow
    try dsimp only
    exact y_noT_n hv (br_f (by decide) ⟨rfl, J⟩)
  · have vx : vp_in (nI x) 4 := vp_in_nI (by omega) (by omega)
    have cx : (nI x).toNatClampNeg = x := nI_clamp (by omega)
    obtain ⟨r, hr, er, hag⟩ := hT x (by omega)
    rw [cx, er]
    refine x_hasT_y ht4 hx (br_f (by decide) ?_)
    by_cases a0 : v2 < 0
    · refine br_t a0 ?_
      unfold wpY_dropRow
      try dsimp only
      exact y_noT_y ht4 hx (br_t rfl (br_t a0 ⟨rfl, J⟩))
    · refine br_f a0 ⟨vx, ?_⟩
      by_cases a1 : v2 < nI r
      · obtain ⟨y, hy, rfl⟩ := nI_of a0
        have hy' : y < r := (nI_ltI hy (by omega)).mp a1
        obtain ⟨m, rfl⟩ : ∃ m, r = m + 1 := ⟨r - 1, by omega⟩
        refine br_t a1 ⟨vx, nm_r (nI_pred m) ?_⟩
        rw [qp_it0, qp_it0]
        refine ⟨m * 3 - y * 3 + 1, ?_⟩
        refine qp_loop1 (fun q i a => wX_dropRow_56 (fun r u' => wpY_dropRow (fun r' v' => r' = r ∧ i_Rel (k + 5) u' v') (nI t, nI n, nI h, nI c, tb', th, tw, nk, nl, nr, p1, p2, p3, nw, us', bo', ct, vl, rs') (nI x) (nI y)) (nI x) (nI m) (nI (x * 30 + m * 3)) (nI t) (nI n) (nI h) (nI c) q (nI i) tw th a nk nl nr nw us ca cb cc nn bo lh lc rs) (fun i a => x * 30 + y * 3 ≤ i ∧ ∀ p, (x * 30 + y * 3 ≤ p ∧ p < i → a p = tb (p + 3)) ∧ (¬ (x * 30 + y * 3 ≤ p ∧ p < i) → a p = tb p)) (x * 30 + m * 3) ?_ ?_ (m * 3 - y * 3 + 1) (x * 30 + y * 3) tb (by omega) (by omega) ⟨by omega, fun p => ⟨fun z => by omega, fun _ => rfl⟩⟩
        · intro q a A
          obtain ⟨_, A⟩ := A
          refine br_t (nI_le (Nat.le_refl _) (by omega)) ⟨vx, ?_⟩
          rw [cx]
          refine nm_e ?_
          unfold wpY_dropRow
          try dsimp only
          rw [cx, er]
          have e3 : nI y * 3 = nI (y * 3) := pk_mul y 3
          refine y_noT_y ht4 hx (br_t rfl (br_f a0 ⟨vx, br_t a1 (nm_r e3 ⟨27 - y * 3 + 1, ?_⟩)⟩))
          refine qp_loop1 (fun q i b => wY_dropRow_31 (fun r' v' => r' = nI m ∧ i_Rel (k + 5) (nI t, nI n, nI h, nI c, tw, upd th x (nI m), a, nk, nl, nr, nw, us, ca, cb, cc, nn, bo, lh, lc, rs) v') (nI x) (nI t) (nI n) (nI h) (nI c) q (nI i) b th tw nk nl nr p1 p2 p3 nw us' bo' ct vl rs') (fun i b => y * 3 ≤ i ∧ ∀ p, (x * 30 + y * 3 ≤ p ∧ p < x * 30 + i → b p = tb' (p + 3)) ∧ (¬ (x * 30 + y * 3 ≤ p ∧ p < x * 30 + i) → b p = tb' p)) 27 ?_ ?_ (27 - y * 3 + 1) (y * 3) tb' (by omega) (by omega) ⟨by omega, fun p => ⟨fun z => by omega, fun _ => rfl⟩⟩
          · intro q b B
            obtain ⟨_, B⟩ := B
            refine br_t (nI_le (a := 27) (Nat.le_refl _) (by omega)) ⟨vx, vx, ?_⟩
            rw [cx, er, nI_pred]
            refine nm_e ⟨vx, ?_⟩
            rw [pk_us]
            refine ⟨rfl, qp_mk ht1 ht4 hW (fun j hj => ?_) hN hR⟩
            by_cases e : j = x
            · subst e
              refine ⟨m, by omega, pk_us, fun p hp => ?_⟩
              by_cases z : y * 3 ≤ p
              · rw [(A _).1 ⟨by omega, by omega⟩, (B _).1 ⟨by omega, by omega⟩, Nat.add_assoc]
                exact hag (p + 3) (by omega)
              · rw [(A _).2 (by omega), (B _).2 (by omega)]
                exact hag p (by omega)
            · obtain ⟨r', hr', er', hag'⟩ := hT j hj
              refine ⟨r', hr', by rw [pk_un e]; exact er', fun p hp => ?_⟩
              rw [(A _).2 (by omega), (B _).2 (by omega)]
              exact hag' p hp
          · intro q i b hi B ih
            obtain ⟨hlo, B⟩ := B
            refine br_f (nI_ge (b := 27) hi (by omega)) ?_
            have e30 : nI x * 30 + nI i = nI (x * 30 + i) := by rw [show (30 : Int32) = nI 30 from rfl, pk_mul, nI_add]
            have e33 : nI (x * 30 + i) + 3 = nI (x * 30 + i + 3) := nI_add _ 3
            rw [e30, e33, nI_clamp (by omega), nI_clamp (by omega)]
            refine ⟨vp_in_nI (by omega) (by omega), vp_in_nI (by omega) (by omega), nm_e (nm_r (nI_1 i) (ih _ ⟨by omega, fun p => ⟨fun z => ?_, fun z => ?_⟩⟩))⟩
            · by_cases e : p = x * 30 + i
              · subst e; rw [pk_us]; exact (B _).2 (by omega)
              · rw [pk_un e]; exact (B p).1 (by omega)
            · rw [pk_un (by omega)]; exact (B p).2 (by omega)
        · intro q i a hi A ih
          obtain ⟨hlo, A⟩ := A
          refine br_f (nI_ge hi (by omega)) ?_
          have e3 : nI i + 3 = nI (i + 3) := nI_add _ 3
          rw [e3, nI_clamp (by omega), nI_clamp (by omega)]
          refine ⟨vp_in_nI (by omega) (by omega), vp_in_nI (by omega) (by omega), nm_e (nm_r (nI_1 i) (ih _ ⟨by omega, fun p => ⟨fun z => ?_, fun z => ?_⟩⟩))⟩
          · by_cases e : p = i
            · subst e; rw [pk_us]; exact (A _).2 (by omega)
            · rw [pk_un e]; exact (A p).1 (by omega)
          · rw [pk_un (by omega)]; exact (A p).2 (by omega)
      · refine br_f a1 ?_
        unfold wpY_dropRow
        try dsimp only
        rw [cx, er]
        exact y_noT_y ht4 hx (br_t rfl (br_f a0 ⟨vx, br_f a1 ⟨rfl, J⟩⟩))
end
section
/-! the nodes -/
theorem qp_ch0 (x : Int32) : (x >>> (((3 : Int32) * 0) &&& 31)) &&& 7 = x &&& 7 := by
  rw [show (((3 : Int32) * 0) &&& 31) = 0 by decide]
  congr 1
  simp
theorem qp_ch1 (x : Int32) : (x >>> (((3 : Int32) * 1) &&& 31)) &&& 7 = (x >>> ((3 : Int32) &&& 31)) &&& 7 := by
  rw [show (((3 : Int32) * 1) &&& 31) = ((3 : Int32) &&& 31) by decide]
theorem qp_and7 (x : Int32) : ∃ j : Nat, j < 8 ∧ x &&& 7 = nI j := pk_andE x 3 (by decide)
theorem i_vc_scan {k : Nat} {u : SX} {v : SY} (I : i_Rel k u v) (hk : k + 5 ≤ 2561) (v1 : Int32) : wpX_scan (fun r u' => wpY_scan (fun r' v' => r' = r ∧ i_Rel (k + 5) u' v') v v1) u v1 := by
  have J := I
  obtain ⟨t, n, h, c, tw, th, tb, tb', nk, nl, nr, nw, us, us', ca, cb, cc, nn, bo, lh, lc, rs, p1, p2, p3, bo', ct, vl, rs', rfl, rfl, ht1, ht4, hW, hT, hN, hR⟩ := I
  have hn := hN.1
  have hus := hN.2.1
  unfold wpX_scan
  try dsimp only
  unfold wpY_scan
  try dsimp only
  by_cases h12 : n < 12
  · have lt : nI n < 12 := nI_lt (b := 12) h12 (by omega)
    rcases qp_ix2 v1 (n := t) (by omega) with hv | ⟨x, hx, rfl⟩
    · exact x_full_n h12 (br_t rfl (x_hasT_n hv (br_t rfl (br_t lt (y_noT_n hv (br_f (by decide) ⟨rfl, J⟩))))))
    · have vx : vp_in (nI x) 4 := vp_in_nI (by omega) (by omega)
      have vn : vp_in (nI n) 12 := vp_in_nI h12 (by omega)
      obtain ⟨w, hw1, hw3, ew⟩ := hW x (by omega)
      refine x_full_n h12 (br_t rfl (x_hasT_y ht4 hx (br_f (by decide) ⟨vx, ?_⟩)))
      refine x_add0 h12 (qp_rd (by omega) ew) ?_
      try dsimp only
      rw [nI_clamp (show n < 2 ^ 31 by omega)]
      refine ⟨vn, nm_e ?_⟩
      refine br_t lt (y_noT_y ht4 hx (br_t rfl ⟨vx, ?_⟩))
      refine y_add0 h12 (qp_rd (by omega) ew) ?_
      refine y_numbers h12 ?_
      refine ⟨rfl, qp_mk ht1 ht4 hW hT (qp_ND_s hN h12 qp_same qp_same qp_same qp_keep qp_keep qp_keep qp_keep (qp_us0 hus) ?_) hR⟩
      exact ⟨w, hw1, by omega, rfl, Or.inl ⟨rfl, hw3, x, by omega, pk_us, pk_us⟩⟩
  · have e12 : n = 12 := by omega
    have nlt : ¬ nI n < 12 := nI_nlt (b := 12) (by omega) (by omega)
    exact x_full_y e12 (br_f (by decide) (br_f nlt ⟨rfl, J⟩))
theorem i_vc_filter {k : Nat} {u : SX} {v : SY} (I : i_Rel k u v) (hk : k + 5 ≤ 2561) (v1 : Int32) (v2 : Int32) (v3 : Int32) (v4 : Int32) : wpX_filter (fun r u' => wpY_filter (fun r' v' => r' = r ∧ i_Rel (k + 5) u' v') v v1 v2 v3 v4) u v1 v2 v3 v4 := by
  have J := I
  obtain ⟨t, n, h, c, tw, th, tb, tb', nk, nl, nr, nw, us, us', ca, cb, cc, nn, bo, lh, lc, rs, p1, p2, p3, bo', ct, vl, rs', rfl, rfl, ht1, ht4, hW, hT, hN, hR⟩ := I
  have hn := hN.1
  have hus := hN.2.1
  unfold wpX_filter
  try dsimp only
  unfold wpY_filter
  try dsimp only
  rcases xy_child hn hus v1 with ⟨r, hr, hX, hY⟩ | ⟨x, hx, h12, rfl, hX, hY⟩
  · exact hX _ (br_f hr (hY _ (br_f hr ⟨rfl, J⟩)))
  · obtain ⟨w, hw1, hw6, ew⟩ := qp_ND_w hN hx
    have vx : vp_in (nI x) 12 := vp_in_nI (by omega) (by omega)
    have vn : vp_in (nI n) 12 := vp_in_nI h12 (by omega)
    refine hX _ (br_t rfl ?_)
    rcases qp_ix2 v2 (n := w) (by omega) with hv | ⟨q, hq, rfl⟩
    · exact x_hasC_n (by omega) ew hv (br_t rfl (hY _ (br_t rfl (y_noC_n (by omega) ew hv (br_f (by decide) ⟨rfl, J⟩)))))
    · refine x_hasC_y (by omega) ew hw6 rfl hq (br_f (by decide) ?_)
      by_cases c0 : v3 < 0
      · exact br_t c0 (hY _ (br_t rfl (y_noC_y (by omega) ew hw6 rfl hq (br_t rfl (br_t c0 ⟨rfl, J⟩)))))
      · by_cases c5 : v3 ≤ 5
        · refine br_f c0 (br_t c5 ⟨vx, ?_⟩)
          refine x_add1 h12 (by omega) (qp_rd (by omega) ew) ?_
          try dsimp only
          rw [nI_clamp (show n < 2 ^ 31 by omega)]
          refine ⟨vn, nm_e ⟨vn, nm_e ⟨vn, nm_e ?_⟩⟩⟩
          refine hY _ (br_t rfl (y_noC_y (by omega) ew hw6 rfl hq (br_t rfl (br_f c0 (br_t c5 ⟨vx, ?_⟩)))))
          refine y_add1 h12 (by omega) (qp_rd (by omega) ew) ?_
          refine y_numbers h12 ?_
          refine ⟨rfl, qp_mk ht1 ht4 hW hT (qp_ND_s hN h12 qp_keep qp_same qp_keep qp_keep qp_keep qp_keep qp_keep (qp_us1 hus) ?_) hR⟩
          exact ⟨w, hw1, hw6, rfl, Or.inr (Or.inl ⟨rfl, rfl, x, q, ⟨hx, rfl, hw1, hw6, ew⟩, hq, pk_us, pk_us, pk_us.trans pk_us.symm, pk_us.trans pk_us.symm⟩)⟩
        · exact br_f c0 (br_f c5 (hY _ (br_t rfl (y_noC_y (by omega) ew hw6 rfl hq (br_t rfl (br_f c0 (br_f c5 ⟨rfl, J⟩)))))))
theorem i_vc_filterCols {k : Nat} {u : SX} {v : SY} (I : i_Rel k u v) (hk : k + 5 ≤ 2561) (v1 : Int32) (v2 : Int32) (v3 : Int32) (v4 : Int32) : wpX_filterCols (fun r u' => wpY_filterCols (fun r' v' => r' = r ∧ i_Rel (k + 5) u' v') v v1 v2 v3 v4) u v1 v2 v3 v4 := by
  have J := I
  obtain ⟨t, n, h, c, tw, th, tb, tb', nk, nl, nr, nw, us, us', ca, cb, cc, nn, bo, lh, lc, rs, p1, p2, p3, bo', ct, vl, rs', rfl, rfl, ht1, ht4, hW, hT, hN, hR⟩ := I
  have hn := hN.1
  have hus := hN.2.1
  unfold wpX_filterCols
  try dsimp only
  unfold wpY_filterCols
  try dsimp only
  rcases xy_child hn hus v1 with ⟨r, hr, hX, hY⟩ | ⟨x, hx, h12, rfl, hX, hY⟩
  · exact hX _ (br_f hr (hY _ (br_f hr ⟨rfl, J⟩)))
  · obtain ⟨w, hw1, hw6, ew⟩ := qp_ND_w hN hx
    have vx : vp_in (nI x) 12 := vp_in_nI (by omega) (by omega)
    have vn : vp_in (nI n) 12 := vp_in_nI h12 (by omega)
    refine hX _ (br_t rfl ?_)
    rcases qp_ix2 v2 (n := w) (by omega) with hv | ⟨q, hq, rfl⟩
    · exact x_hasC_n (by omega) ew hv (br_t rfl (hY _ (br_t rfl (y_noC_n (by omega) ew hv (br_f (by decide) ⟨rfl, J⟩)))))
    · refine x_hasC_y (by omega) ew hw6 rfl hq (br_f (by decide) ?_)
      rcases qp_ix2 v4 (n := w) (by omega) with hv | ⟨s, hs, rfl⟩
      · exact x_hasC_n (by omega) ew hv (br_t rfl (hY _ (br_t rfl (y_noC_y (by omega) ew hw6 rfl hq (br_t rfl (y_noC_n (by omega) ew hv (br_f (by decide) ⟨rfl, J⟩)))))))
      · refine x_hasC_y (by omega) ew hw6 rfl hs (br_f (by decide) ?_)
        by_cases c0 : v3 < 0
        · exact br_t c0 (hY _ (br_t rfl (y_noC_y (by omega) ew hw6 rfl hq (br_t rfl (y_noC_y (by omega) ew hw6 rfl hs (br_t rfl (br_t c0 ⟨rfl, J⟩)))))))
        · by_cases c5 : v3 ≤ 5
          · refine br_f c0 (br_t c5 ⟨vx, ?_⟩)
            refine x_add1 h12 (by omega) (qp_rd (by omega) ew) ?_
            try dsimp only
            rw [nI_clamp (show n < 2 ^ 31 by omega)]
            refine ⟨vn, nm_e ⟨vn, nm_e ⟨vn, nm_e ?_⟩⟩⟩
            refine hY _ (br_t rfl (y_noC_y (by omega) ew hw6 rfl hq (br_t rfl (y_noC_y (by omega) ew hw6 rfl hs (br_t rfl (br_f c0 (br_t c5 ⟨vx, ?_⟩)))))))
            refine y_add1 h12 (by omega) (qp_rd (by omega) ew) ?_
            refine y_numbers h12 ?_
            refine ⟨rfl, qp_mk ht1 ht4 hW hT (qp_ND_s hN h12 qp_keep qp_keep qp_keep qp_same qp_keep qp_keep qp_keep (qp_us1 hus) ?_) hR⟩
            exact ⟨w, hw1, hw6, rfl, Or.inr (Or.inr (Or.inl ⟨rfl, rfl, x, q, s, ⟨hx, rfl, hw1, hw6, ew⟩, hq, hs, pk_us, pk_us, pk_us, pk_us.trans pk_us.symm, pk_us⟩))⟩
          · exact br_f c0 (br_f c5 (hY _ (br_t rfl (y_noC_y (by omega) ew hw6 rfl hq (br_t rfl (y_noC_y (by omega) ew hw6 rfl hs (br_t rfl (br_f c0 (br_f c5 ⟨rfl, J⟩)))))))))
theorem i_vc_map {k : Nat} {u : SX} {v : SY} (I : i_Rel k u v) (hk : k + 5 ≤ 2561) (v1 : Int32) (v2 : Int32) (v3 : Int32) (v4 : Int32) : wpX_map (fun r u' => wpY_map (fun r' v' => r' = r ∧ i_Rel (k + 5) u' v') v v1 v2 v3 v4) u v1 v2 v3 v4 := by
  have J := I
  obtain ⟨t, n, h, c, tw, th, tb, tb', nk, nl, nr, nw, us, us', ca, cb, cc, nn, bo, lh, lc, rs, p1, p2, p3, bo', ct, vl, rs', rfl, rfl, ht1, ht4, hW, hT, hN, hR⟩ := I
  have hn := hN.1
  have hus := hN.2.1
  unfold wpX_map
  try dsimp only
  unfold wpY_map
  try dsimp only
  rcases xy_child hn hus v1 with ⟨r, hr, hX, hY⟩ | ⟨x, hx, h12, rfl, hX, hY⟩
  · exact hX _ (br_f hr (hY _ (br_f hr ⟨rfl, J⟩)))
  · obtain ⟨w, hw1, hw6, ew⟩ := qp_ND_w hN hx
    have vx : vp_in (nI x) 12 := vp_in_nI (by omega) (by omega)
    have vn : vp_in (nI n) 12 := vp_in_nI h12 (by omega)
    rw [qp_rd (f := nw) (show x < 12 by omega) ew]
    refine hX _ (br_t rfl ?_)
    by_cases c0 : v2 < 0
    · exact br_t c0 (hY _ (br_t rfl (br_t c0 ⟨rfl, J⟩)))
    · by_cases c4 : v2 ≤ 4
      · refine br_f c0 (br_t c4 ?_)
        rcases qp_ix2 v3 (n := w) (by omega) with hv | ⟨q, hq, rfl⟩
        · exact x_hasC_n (by omega) ew hv (br_t rfl (hY _ (br_t rfl (br_f c0 (br_t c4 (y_noC_n (by omega) ew hv (br_f (by decide) ⟨rfl, J⟩)))))))
        · refine x_hasC_y (by omega) ew hw6 rfl hq (br_f (by decide) ?_)
          rcases qp_ix2 v4 (n := w) (by omega) with hv | ⟨s, hs, rfl⟩
          · exact x_hasC_n (by omega) ew hv (br_t rfl (hY _ (br_t rfl (br_f c0 (br_t c4 (y_noC_y (by omega) ew hw6 rfl hq (br_t rfl (y_noC_n (by omega) ew hv (br_f (by decide) ⟨rfl, J⟩)))))))))
          · refine x_hasC_y (by omega) ew hw6 rfl hs (br_f (by decide) ⟨vx, ?_⟩)
            by_cases w6 : w < 6
            · have lw : nI w < 6 := nI_lt (b := 6) w6 (by omega)
              refine br_t lw ⟨vx, ?_⟩
              refine x_add1 h12 (by omega) (nI_1 w) ?_
              try dsimp only
              rw [nI_clamp (show n < 2 ^ 31 by omega)]
              refine ⟨vn, nm_e ⟨vn, nm_e ⟨vn, nm_e ?_⟩⟩⟩
              refine hY _ (br_t rfl (br_f c0 (br_t c4 (y_noC_y (by omega) ew hw6 rfl hq (br_t rfl (y_noC_y (by omega) ew hw6 rfl hs (br_t rfl ⟨vx, br_t lw ⟨vx, ?_⟩⟩)))))))
              refine y_add1 h12 (by omega) (nI_1 w) ?_
              refine y_numbers h12 ?_
              refine ⟨rfl, qp_mk ht1 ht4 hW hT (qp_ND_s hN h12 qp_keep qp_keep qp_keep qp_same qp_keep qp_keep qp_keep (qp_us1 hus) ?_) hR⟩
              exact ⟨w + 1, by omega, by omega, rfl, Or.inr (Or.inr (Or.inr (Or.inl ⟨rfl, rfl, x, w, q, s, ⟨hx, rfl, hw1, hw6, ew⟩, rfl, hq, hs, pk_us, pk_us, pk_us.trans pk_us.symm, pk_us, pk_us⟩)))⟩
            · have lw : ¬ nI w < 6 := nI_nlt (b := 6) (by omega) (by omega)
              exact br_f lw (hY _ (br_t rfl (br_f c0 (br_t c4 (y_noC_y (by omega) ew hw6 rfl hq (br_t rfl (y_noC_y (by omega) ew hw6 rfl hs (br_t rfl ⟨vx, br_f lw ⟨rfl, J⟩⟩))))))))
      · exact br_f c0 (br_f c4 (hY _ (br_t rfl (br_f c0 (br_f c4 ⟨rfl, J⟩)))))
theorem i_vc_distinct {k : Nat} {u : SX} {v : SY} (I : i_Rel k u v) (hk : k + 5 ≤ 2561) (v1 : Int32) : wpX_distinct (fun r u' => wpY_distinct (fun r' v' => r' = r ∧ i_Rel (k + 5) u' v') v v1) u v1 := by
  have J := I
  obtain ⟨t, n, h, c, tw, th, tb, tb', nk, nl, nr, nw, us, us', ca, cb, cc, nn, bo, lh, lc, rs, p1, p2, p3, bo', ct, vl, rs', rfl, rfl, ht1, ht4, hW, hT, hN, hR⟩ := I
  have hn := hN.1
  have hus := hN.2.1
  unfold wpX_distinct
  try dsimp only
  unfold wpY_distinct
  try dsimp only
  rcases xy_child hn hus v1 with ⟨r, hr, hX, hY⟩ | ⟨x, hx, h12, rfl, hX, hY⟩
  · exact hX _ (br_f hr (hY _ (br_f hr ⟨rfl, J⟩)))
  · obtain ⟨w, hw1, hw6, ew⟩ := qp_ND_w hN hx
    have vx : vp_in (nI x) 12 := vp_in_nI (by omega) (by omega)
    refine hX _ (br_t rfl ⟨vx, ?_⟩)
    refine x_add1 h12 (by omega) (qp_rd (by omega) ew) ?_
    refine hY _ (br_t rfl ⟨vx, ?_⟩)
    refine y_add1 h12 (by omega) (qp_rd (by omega) ew) ?_
    refine ⟨rfl, qp_mk ht1 ht4 hW hT (qp_ND_s hN h12 qp_same qp_same qp_same qp_same qp_same qp_same qp_same (qp_us1 hus) ?_) hR⟩
    exact ⟨w, hw1, hw6, rfl, Or.inr (Or.inr (Or.inr (Or.inr (Or.inr (Or.inr (Or.inr (Or.inr (Or.inl ⟨rfl, rfl, x, ⟨hx, rfl, hw1, hw6, ew⟩⟩))))))))⟩
theorem i_vc_limit {k : Nat} {u : SX} {v : SY} (I : i_Rel k u v) (hk : k + 5 ≤ 2561) (v1 : Int32) (v2 : Int32) : wpX_limit (fun r u' => wpY_limit (fun r' v' => r' = r ∧ i_Rel (k + 5) u' v') v v1 v2) u v1 v2 := by
  have J := I
  obtain ⟨t, n, h, c, tw, th, tb, tb', nk, nl, nr, nw, us, us', ca, cb, cc, nn, bo, lh, lc, rs, p1, p2, p3, bo', ct, vl, rs', rfl, rfl, ht1, ht4, hW, hT, hN, hR⟩ := I
  have hn := hN.1
  have hus := hN.2.1
  unfold wpX_limit
  try dsimp only
  unfold wpY_limit wY_limit_40
  try dsimp only
  rcases xy_child hn hus v1 with ⟨r, hr, hX, hY⟩ | ⟨x, hx, h12, rfl, hX, hY⟩
  · exact hX _ (br_f hr (hY _ (br_f hr ⟨rfl, J⟩)))
  · obtain ⟨w, hw1, hw6, ew⟩ := qp_ND_w hN hx
    have vx : vp_in (nI x) 12 := vp_in_nI (by omega) (by omega)
    have vn : vp_in (nI n) 12 := vp_in_nI h12 (by omega)
    refine hX _ (br_t rfl ⟨vx, ?_⟩)
    refine x_add1 h12 (by omega) (qp_rd (by omega) ew) ?_
    try dsimp only
    rw [nI_clamp (show n < 2 ^ 31 by omega)]
    by_cases z : 0 ≤ v2
    · obtain ⟨m, hm, rfl⟩ := nI_of (Int32.not_lt.mpr z)
      refine br_t z ⟨vn, nm_e ?_⟩
      refine hY _ (br_t rfl ⟨vx, ?_⟩)
      refine y_add1 h12 (by omega) (qp_rd (by omega) ew) ?_
      refine br_t z ?_
      refine y_numbers h12 ?_
      refine ⟨rfl, qp_mk ht1 ht4 hW hT (qp_ND_s hN h12 qp_same qp_same qp_same qp_keep qp_keep qp_keep qp_keep (qp_us1 hus) ?_) hR⟩
      exact ⟨w, hw1, hw6, rfl, Or.inr (Or.inr (Or.inr (Or.inr (Or.inr (Or.inr (Or.inr (Or.inr (Or.inr (Or.inl ⟨rfl, rfl, x, m, ⟨hx, rfl, hw1, hw6, ew⟩, hm, pk_us, pk_us⟩)))))))))⟩
    · refine br_f z ⟨vn, nm_e ?_⟩
      refine hY _ (br_t rfl ⟨vx, ?_⟩)
      refine y_add1 h12 (by omega) (qp_rd (by omega) ew) ?_
      refine br_f z ?_
      refine y_numbers h12 ?_
      refine ⟨rfl, qp_mk ht1 ht4 hW hT (qp_ND_s hN h12 qp_same qp_same qp_same qp_keep qp_keep qp_keep qp_keep (qp_us1 hus) ?_) hR⟩
      exact ⟨w, hw1, hw6, rfl, Or.inr (Or.inr (Or.inr (Or.inr (Or.inr (Or.inr (Or.inr (Or.inr (Or.inr (Or.inl ⟨rfl, rfl, x, 0, ⟨hx, rfl, hw1, hw6, ew⟩, by omega, pk_us, pk_us⟩)))))))))⟩
theorem i_vc_sort {k : Nat} {u : SX} {v : SY} (I : i_Rel k u v) (hk : k + 5 ≤ 2561) (v1 : Int32) (v2 : Int32) (v3 : Int32) : wpX_sort (fun r u' => wpY_sort (fun r' v' => r' = r ∧ i_Rel (k + 5) u' v') v v1 v2 (lw_bz v3)) u v1 v2 (lw_bz v3) := by
  have J := I
  obtain ⟨t, n, h, c, tw, th, tb, tb', nk, nl, nr, nw, us, us', ca, cb, cc, nn, bo, lh, lc, rs, p1, p2, p3, bo', ct, vl, rs', rfl, rfl, ht1, ht4, hW, hT, hN, hR⟩ := I
  have hn := hN.1
  have hus := hN.2.1
  generalize hb : lw_bz v3 = b
  have hb01 : b = 0 ∨ b = 1 := by rw [← hb]; exact lw_bz_01 v3
  clear hb
  unfold wpX_sort
  try dsimp only
  unfold wpY_sort wY_sort_56
  try dsimp only
  rcases xy_child hn hus v1 with ⟨r, hr, hX, hY⟩ | ⟨x, hx, h12, rfl, hX, hY⟩
  · exact hX _ (br_f hr (hY _ (br_f hr ⟨rfl, J⟩)))
  · obtain ⟨w, hw1, hw6, ew⟩ := qp_ND_w hN hx
    have vx : vp_in (nI x) 12 := vp_in_nI (by omega) (by omega)
    have vn : vp_in (nI n) 12 := vp_in_nI h12 (by omega)
    refine hX _ (br_t rfl ?_)
    rcases qp_ix2 v2 (n := w) (by omega) with hv | ⟨q, hq, rfl⟩
    · exact x_hasC_n (by omega) ew hv (br_t rfl (hY _ (br_t rfl (y_noC_n (by omega) ew hv (br_f (by decide) ⟨rfl, J⟩)))))
    · refine x_hasC_y (by omega) ew hw6 rfl hq (br_f (by decide) ⟨vx, ?_⟩)
      refine x_add1 h12 (by omega) (qp_rd (by omega) ew) ?_
      try dsimp only
      rw [nI_clamp (show n < 2 ^ 31 by omega)]
      refine ⟨vn, nm_e ?_⟩
      rcases hb01 with rfl | rfl
      · refine br_t rfl ⟨vn, nm_e ?_⟩
        refine hY _ (br_t rfl (y_noC_y (by omega) ew hw6 rfl hq (br_t rfl ⟨vx, ?_⟩)))
        refine y_add1 h12 (by omega) (qp_rd (by omega) ew) ?_
        refine br_t rfl ?_
        refine y_numbers h12 ?_
        refine ⟨rfl, qp_mk ht1 ht4 hW hT (qp_ND_s hN h12 qp_keep qp_same qp_keep qp_same qp_keep qp_keep qp_keep (qp_us1 hus) ?_) hR⟩
        exact ⟨w, hw1, hw6, rfl, Or.inr (Or.inr (Or.inr (Or.inr (Or.inr (Or.inr (Or.inr (Or.inr (Or.inr (Or.inr ⟨rfl, rfl, x, q, ⟨hx, rfl, hw1, hw6, ew⟩, hq, pk_us, pk_us, Or.inr ⟨pk_us, pk_us⟩⟩)))))))))⟩
      · refine br_f (by decide) ⟨vn, nm_e ?_⟩
        refine hY _ (br_t rfl (y_noC_y (by omega) ew hw6 rfl hq (br_t rfl ⟨vx, ?_⟩)))
        refine y_add1 h12 (by omega) (qp_rd (by omega) ew) ?_
        refine br_f (by decide) ?_
        refine y_numbers h12 ?_
        refine ⟨rfl, qp_mk ht1 ht4 hW hT (qp_ND_s hN h12 qp_keep qp_same qp_keep qp_same qp_keep qp_keep qp_keep (qp_us1 hus) ?_) hR⟩
        exact ⟨w, hw1, hw6, rfl, Or.inr (Or.inr (Or.inr (Or.inr (Or.inr (Or.inr (Or.inr (Or.inr (Or.inr (Or.inr ⟨rfl, rfl, x, q, ⟨hx, rfl, hw1, hw6, ew⟩, hq, pk_us, pk_us, Or.inl ⟨pk_us, pk_us⟩⟩)))))))))⟩
theorem i_vc_group {k : Nat} {u : SX} {v : SY} (I : i_Rel k u v) (hk : k + 5 ≤ 2561) (v1 : Int32) (v2 : Int32) (v3 : Int32) (v4 : Int32) : wpX_group (fun r u' => wpY_group (fun r' v' => r' = r ∧ i_Rel (k + 5) u' v') v v1 v2 v3 v4) u v1 v2 v3 v4 := by
  have J := I
  obtain ⟨t, n, h, c, tw, th, tb, tb', nk, nl, nr, nw, us, us', ca, cb, cc, nn, bo, lh, lc, rs, p1, p2, p3, bo', ct, vl, rs', rfl, rfl, ht1, ht4, hW, hT, hN, hR⟩ := I
  have hn := hN.1
  have hus := hN.2.1
  unfold wpX_group
  try dsimp only
  unfold wpY_group
  try dsimp only
  rcases xy_child hn hus v1 with ⟨r, hr, hX, hY⟩ | ⟨x, hx, h12, rfl, hX, hY⟩
  · exact hX _ (br_f hr (hY _ (br_f hr ⟨rfl, J⟩)))
  · obtain ⟨w, hw1, hw6, ew⟩ := qp_ND_w hN hx
    have vx : vp_in (nI x) 12 := vp_in_nI (by omega) (by omega)
    have vn : vp_in (nI n) 12 := vp_in_nI h12 (by omega)
    refine hX _ (br_t rfl ?_)
    rcases qp_ix2 v2 (n := w) (by omega) with hv | ⟨q, hq, rfl⟩
    · exact x_hasC_n (by omega) ew hv (br_t rfl (hY _ (br_t rfl (y_noC_n (by omega) ew hv (br_f (by decide) ⟨rfl, J⟩)))))
    · refine x_hasC_y (by omega) ew hw6 rfl hq (br_f (by decide) ?_)
      rcases qp_ix2 v4 (n := w) (by omega) with hv | ⟨s, hs, rfl⟩
      · exact x_hasC_n (by omega) ew hv (br_t rfl (hY _ (br_t rfl (y_noC_y (by omega) ew hw6 rfl hq (br_t rfl (y_noC_n (by omega) ew hv (br_f (by decide) ⟨rfl, J⟩)))))))
      · refine x_hasC_y (by omega) ew hw6 rfl hs (br_f (by decide) ?_)
        by_cases c0 : v3 < 0
        · exact br_t c0 (hY _ (br_t rfl (y_noC_y (by omega) ew hw6 rfl hq (br_t rfl (y_noC_y (by omega) ew hw6 rfl hs (br_t rfl (br_t c0 ⟨rfl, J⟩)))))))
        · by_cases c3 : v3 ≤ 3
          · have ho : v3 = 0 ∨ v3 = 1 ∨ v3 = 2 ∨ v3 = 3 := by
              obtain ⟨m, hm, em⟩ := nI_of2 (x := v3) (M := 3) (n := 3) (by decide) c0 c3
              subst em
              have : m = 0 ∨ m = 1 ∨ m = 2 ∨ m = 3 := by omega
              rcases this with rfl | rfl | rfl | rfl
              · exact Or.inl rfl
              · exact Or.inr (Or.inl rfl)
              · exact Or.inr (Or.inr (Or.inl rfl))
              · exact Or.inr (Or.inr (Or.inr rfl))
            refine br_f c0 (br_t c3 ?_)
            refine x_add1 (w := nI 2) h12 (by omega) rfl ?_
            try dsimp only
            rw [nI_clamp (show n < 2 ^ 31 by omega)]
            refine ⟨vn, nm_e ⟨vn, nm_e ⟨vn, nm_e ?_⟩⟩⟩
            refine hY _ (br_t rfl (y_noC_y (by omega) ew hw6 rfl hq (br_t rfl (y_noC_y (by omega) ew hw6 rfl hs (br_t rfl (br_f c0 (br_t c3 ?_)))))))
            refine y_add1 (w := nI 2) h12 (by omega) rfl ?_
            refine y_numbers h12 ?_
            refine ⟨rfl, qp_mk ht1 ht4 hW hT (qp_ND_s hN h12 qp_keep qp_keep qp_keep qp_same qp_keep qp_keep qp_keep (qp_us1 hus) ?_) hR⟩
            exact ⟨2, by omega, by omega, rfl, Or.inr (Or.inr (Or.inr (Or.inr (Or.inr (Or.inr (Or.inr (Or.inl ⟨rfl, rfl, rfl, x, w, q, s, ⟨hx, rfl, hw1, hw6, ew⟩, hq, hs, pk_us, pk_us, pk_us, pk_us.trans pk_us.symm, pk_us, by rw [pk_us]; exact ho⟩)))))))⟩
          · exact br_f c0 (br_f c3 (hY _ (br_t rfl (y_noC_y (by omega) ew hw6 rfl hq (br_t rfl (y_noC_y (by omega) ew hw6 rfl hs (br_t rfl (br_f c0 (br_f c3 ⟨rfl, J⟩)))))))))
theorem i_vc_union {k : Nat} {u : SX} {v : SY} (I : i_Rel k u v) (hk : k + 5 ≤ 2561) (v1 : Int32) (v2 : Int32) : wpX_union (fun r u' => wpY_union (fun r' v' => r' = r ∧ i_Rel (k + 5) u' v') v v1 v2) u v1 v2 := by
  have J := I
  obtain ⟨t, n, h, c, tw, th, tb, tb', nk, nl, nr, nw, us, us', ca, cb, cc, nn, bo, lh, lc, rs, p1, p2, p3, bo', ct, vl, rs', rfl, rfl, ht1, ht4, hW, hT, hN, hR⟩ := I
  have hn := hN.1
  have hus := hN.2.1
  unfold wpX_union
  try dsimp only
  unfold wpY_union
  try dsimp only
  rcases xy_pair hn hus v1 v2 with ⟨r, hr, hX, hY⟩ | ⟨x, y, hx, hy, h12, rfl, rfl, hX, hY⟩
  · exact hX _ (br_f hr (hY _ (br_f hr ⟨rfl, J⟩)))
  · obtain ⟨w, hw1, hw6, ew⟩ := qp_ND_w hN hx
    obtain ⟨w', hw1', hw6', ew'⟩ := qp_ND_w hN hy
    have vx : vp_in (nI x) 12 := vp_in_nI (by omega) (by omega)
    have vy : vp_in (nI y) 12 := vp_in_nI (by omega) (by omega)
    rw [qp_rd (f := nw) (show x < 12 by omega) ew, qp_rd (f := nw) (show y < 12 by omega) ew']
    by_cases e : w = w'
    · subst e
      refine hX _ (br_t rfl ⟨vx, vy, br_t rfl ⟨vx, ?_⟩⟩)
      refine x_add2 h12 (by omega) (by omega) rfl ?_
      refine hY _ (br_t rfl ⟨vx, vy, br_t rfl ⟨vx, ?_⟩⟩)
      refine y_add2 h12 (by omega) (by omega) rfl ?_
      refine ⟨rfl, qp_mk ht1 ht4 hW hT (qp_ND_s hN h12 qp_same qp_same qp_same qp_same qp_same qp_same qp_same (qp_us2 hus) ?_) hR⟩
      exact ⟨w, hw1, hw6, rfl, Or.inr (Or.inr (Or.inr (Or.inr (Or.inr (Or.inr (Or.inl ⟨rfl, x, y, ⟨hx, rfl, hw1, hw6, ew⟩, ⟨hy, rfl, hw1', hw6', ew'⟩⟩))))))⟩
    · have ne : ¬ nI w = nI w' := fun z => e ((nI_eq (by omega) (by omega)).mp z)
      exact hX _ (br_t rfl ⟨vx, vy, br_f ne (hY _ (br_t rfl ⟨vx, vy, br_f ne ⟨rfl, J⟩⟩))⟩)
end
section
/-! project, join, run -/
section qp_PJ
variable {tc nc rh rc : Int32} {tw th tb nk nl nr nw us ca cb cc nn bo lh lc rs : Nat → Int32}
variable {tb' us' bo' rs' p1 p2 p3 ct vl : Nat → Int32}
theorem x_proj {post : Int32 → SX → Prop} {x w m : Nat} {d : Int32} (hx : x < 12) (ew : nw x = nI w) (hw : w ≤ 6) (hm : m ≤ 6) (H : (∀ e, e < m → ∃ q : Nat, q < w ∧ qp_ch d e = nI q) → wpX_addNode (fun r u => match u with | (tc, nc, rh, rc, tw, th, tb, nk, nl, nr, nw, us, ca, cb, cc, nn, bo, lh, lc, rs) => (vp_in r 12 ∧ ∀ z, z = upd nn r.toNatClampNeg d → post r (tc, nc, rh, rc, tw, th, tb, nk, nl, nr, nw, us, ca, cb, cc, z, bo, lh, lc, rs))) (tc, nc, rh, rc, tw, th, tb, nk, nl, nr, nw, us, ca, cb, cc, nn, bo, lh, lc, rs) 4 (nI x) (-1) (nI m)) (Hf : ¬ (∀ e, e < m → ∃ q : Nat, q < w ∧ qp_ch d e = nI q) → post (-3) (tc, nc, rh, rc, tw, th, tb, nk, nl, nr, nw, us, ca, cb, cc, nn, bo, lh, lc, rs)) : ∃ k, wX_project_32 post (nI x) d (nI m) tc nc rh rc tw th tb nk nl nr nw us ca cb cc nn bo lh lc rs k 0 := by
  refine ⟨m + 1, ?_⟩
  refine qp_loop0 (fun k i => wX_project_32 post (nI x) d (nI m) tc nc rh rc tw th tb nk nl nr nw us ca cb cc nn bo lh lc rs k (nI i)) (fun i => ∀ e, e < i → ∃ q : Nat, q < w ∧ qp_ch d e = nI q) m ?_ ?_ (m + 1) 0 (by omega) (by omega) (fun e h => absurd h (Nat.not_lt_zero e))
  · intro k A
    exact br_t (nI_le (Nat.le_refl _) (by omega)) (H A)
  · intro k i hi A ih
    refine br_f (nI_ge hi (by omega)) ?_
    unfold wpX_chosenColumn
    try dsimp only
    rcases qp_ix2 (qp_ch d i) (n := w) (by omega) with hv | ⟨q, hq, e⟩
    · exact x_hasC_n hx ew hv (br_t rfl (Hf (fun B => by
        obtain ⟨q, hq, e⟩ := B i hi
        rw [e] at hv
        rcases hv with hv | hv
        · exact nI_pos (by omega) hv
        · exact nI_ge hq (by omega) hv)))
    · refine x_hasC_y hx ew hw e hq (br_f (by decide) (nm_r (nI_1 i) (ih (fun j hj => ?_))))
      by_cases z : j = i
      · subst z; exact ⟨q, hq, e⟩
      · exact A j (by omega)
theorem y_proj {post : Int32 → SY → Prop} {x w m : Nat} {d : Int32} (hx : x < 12) (ew : nw x = nI w) (hw : w ≤ 6) (hm : m ≤ 6) (H : (∀ e, e < m → ∃ q : Nat, q < w ∧ qp_ch d e = nI q) → wpY_node (fun r u => match u with | (tc, nc, rh, rc, tb', th, tw, nk, nl, nr, p1, p2, p3, nw, us', bo', ct, vl, rs') => wpY_numbers (fun u => match u with | (tc, nc, rh, rc, tb', th, tw, nk, nl, nr, p1, p2, p3, nw, us', bo', ct, vl, rs') => post r (tc, nc, rh, rc, tb', th, tw, nk, nl, nr, p1, p2, p3, nw, us', bo', ct, vl, rs')) (tc, nc, rh, rc, tb', th, tw, nk, nl, nr, p1, p2, p3, nw, us', bo', ct, vl, rs') r d (nI m) 0) (tc, nc, rh, rc, tb', th, tw, nk, nl, nr, p1, p2, p3, nw, us', bo', ct, vl, rs') 4 (nI x) (-1) (nI m)) (Hf : ¬ (∀ e, e < m → ∃ q : Nat, q < w ∧ qp_ch d e = nI q) → post (-3) (tc, nc, rh, rc, tb', th, tw, nk, nl, nr, p1, p2, p3, nw, us', bo', ct, vl, rs')) : ∃ k, wY_project_32 post (nI x) d (nI m) tc nc rh rc tb' th tw nk nl nr p1 p2 p3 nw us' bo' ct vl rs' k 0 := by
  refine ⟨m + 1, ?_⟩
  refine qp_loop0 (fun k i => wY_project_32 post (nI x) d (nI m) tc nc rh rc tb' th tw nk nl nr p1 p2 p3 nw us' bo' ct vl rs' k (nI i)) (fun i => ∀ e, e < i → ∃ q : Nat, q < w ∧ qp_ch d e = nI q) m ?_ ?_ (m + 1) 0 (by omega) (by omega) (fun e h => absurd h (Nat.not_lt_zero e))
  · intro k A
    exact br_t (nI_le (Nat.le_refl _) (by omega)) (H A)
  · intro k i hi A ih
    refine br_f (nI_ge hi (by omega)) ?_
    rcases qp_ix2 (qp_ch d i) (n := w) (by omega) with hv | ⟨q, hq, e⟩
    · exact y_noC_n hx ew hv (br_f (by decide) (Hf (fun B => by
        obtain ⟨q, hq, e⟩ := B i hi
        rw [e] at hv
        rcases hv with hv | hv
        · exact nI_pos (by omega) hv
        · exact nI_ge hq (by omega) hv)))
    · refine y_noC_y hx ew hw e hq (br_t rfl (nm_r (nI_1 i) (ih (fun j hj => ?_))))
      by_cases z : j = i
      · subst z; exact ⟨q, hq, e⟩
      · exact A j (by omega)
end qp_PJ
theorem i_vc_project {k : Nat} {u : SX} {v : SY} (I : i_Rel k u v) (hk : k + 5 ≤ 2561) (v1 : Int32) (v2 : Int32) (v3 : Int32) : wpX_project (fun r u' => wpY_project (fun r' v' => r' = r ∧ i_Rel (k + 5) u' v') v v1 v2 v3) u v1 v2 v3 := by
  have J := I
  obtain ⟨t, n, h, c, tw, th, tb, tb', nk, nl, nr, nw, us, us', ca, cb, cc, nn, bo, lh, lc, rs, p1, p2, p3, bo', ct, vl, rs', rfl, rfl, ht1, ht4, hW, hT, hN, hR⟩ := I
  have hn := hN.1
  have hus := hN.2.1
  unfold wpX_project
  try dsimp only
  rcases xy_child hn hus v1 with ⟨r, hr, hX, hY⟩ | ⟨x, hx, h12, rfl, hX, hY⟩
  · refine hX _ (br_f hr ?_)
    unfold wpY_project
    try dsimp only
    exact hY _ (br_f hr ⟨rfl, J⟩)
  · obtain ⟨w, hw1, hw6, ew⟩ := qp_ND_w hN hx
    have vx : vp_in (nI x) 12 := vp_in_nI (by omega) (by omega)
    have vn : vp_in (nI n) 12 := vp_in_nI h12 (by omega)
    refine hX _ (br_t rfl ?_)
    by_cases a1 : v3 < 1
    · refine br_t a1 ?_
      unfold wpY_project
      try dsimp only
      exact hY _ (br_t rfl (br_t a1 ⟨rfl, J⟩))
    · by_cases a6 : v3 ≤ 6
      · obtain ⟨m, hm, em⟩ := nI_of2 (x := v3) (M := 6) (n := 6) (by decide) (fun z => a1 (Int32.lt_trans z (by decide))) a6
        subst em
        have hm1 : 1 ≤ m := (nI_leI (a := 1) (b := m) (by omega) (by omega)).mp (Int32.not_lt.mp a1)
        refine br_f a1 (br_t a6 ?_)
        refine x_proj (by omega) ew hw6 hm (fun A => ?_) (fun A => ?_)
        · refine x_add1 h12 (by omega) rfl ?_
          try dsimp only
          rw [nI_clamp (show n < 2 ^ 31 by omega)]
          refine ⟨vn, nm_e ?_⟩
          unfold wpY_project
          try dsimp only
          refine hY _ (br_t rfl (br_f a1 (br_t a6 ?_)))
          refine y_proj (by omega) ew hw6 hm (fun _ => ?_) (fun B => absurd A B)
          refine y_add1 h12 (by omega) rfl ?_
          refine y_numbers h12 ?_
          refine ⟨rfl, qp_mk ht1 ht4 hW hT (qp_ND_s hN h12 qp_same qp_same qp_same qp_keep qp_keep qp_keep qp_keep (qp_us1 hus) ?_) hR⟩
          exact ⟨m, hm1, hm, rfl, Or.inr (Or.inr (Or.inr (Or.inr (Or.inl ⟨rfl, rfl, x, w, ⟨hx, rfl, hw1, hw6, ew⟩, pk_us.trans pk_us.symm, by rw [pk_us]; exact A⟩))))⟩
        · unfold wpY_project
          try dsimp only
          refine hY _ (br_t rfl (br_f a1 (br_t a6 ?_)))
          exact y_proj (by omega) ew hw6 hm (fun B => absurd B A) (fun _ => ⟨rfl, J⟩)
      · refine br_f a1 (br_f a6 ?_)
        unfold wpY_project
        try dsimp only
        exact hY _ (br_t rfl (br_f a1 (br_f a6 ⟨rfl, J⟩)))
theorem i_vc_join {k : Nat} {u : SX} {v : SY} (I : i_Rel k u v) (hk : k + 5 ≤ 2561) (v1 : Int32) (v2 : Int32) (v3 : Int32) (v4 : Int32) : wpX_join (fun r u' => wpY_join (fun r' v' => r' = r ∧ i_Rel (k + 5) u' v') v v1 v2 v3 v4) u v1 v2 v3 v4 := by
  have J := I
  obtain ⟨t, n, h, c, tw, th, tb, tb', nk, nl, nr, nw, us, us', ca, cb, cc, nn, bo, lh, lc, rs, p1, p2, p3, bo', ct, vl, rs', rfl, rfl, ht1, ht4, hW, hT, hN, hR⟩ := I
  have hn := hN.1
  have hus := hN.2.1
  unfold wpX_join wpX_chosenColumn
  try dsimp only
  unfold wpY_join
  try dsimp only
  rcases xy_pair hn hus v1 v2 with ⟨r, hr, hX, hY⟩ | ⟨x, y, hx, hy, h12, rfl, rfl, hX, hY⟩
  · exact hX _ (br_f hr (hY _ (br_f hr ⟨rfl, J⟩)))
  · obtain ⟨wl, hl1, hl6, el⟩ := qp_ND_w hN hx
    obtain ⟨wr, hr1, hr6, er⟩ := qp_ND_w hN hy
    have vx : vp_in (nI x) 12 := vp_in_nI (by omega) (by omega)
    have vy : vp_in (nI y) 12 := vp_in_nI (by omega) (by omega)
    have vn : vp_in (nI n) 12 := vp_in_nI h12 (by omega)
    have el' := qp_rd (f := nw) (show x < 12 by omega) el
    have er' := qp_rd (f := nw) (show y < 12 by omega) er
    refine hX _ (br_t rfl ?_)
    by_cases c0 : v4 < 0
    · exact br_t c0 (hY _ (br_t rfl (br_t c0 ⟨rfl, J⟩)))
    · by_cases c3 : v4 ≤ 3
      · refine br_f c0 (br_t c3 ?_)
        rw [qp_ch0, qp_ch1]
        obtain ⟨a, ha8, ea⟩ := qp_and7 v3
        obtain ⟨b, hb8, eb⟩ := qp_and7 (v3 >>> ((3 : Int32) &&& 31))
        by_cases ha : a < wl
        · refine x_hasC_y (by omega) el hl6 ea ha (br_f (by decide) ?_)
          by_cases hb : b < wr
          · refine x_hasC_y (by omega) er hr6 eb hb (br_f (by decide) ⟨vx, nm_r el' ?_⟩)
            have kinds : v4 = 0 ∨ v4 = 1 ∨ v4 = 2 ∨ v4 = 3 := by
              obtain ⟨m, hm, em⟩ := nI_of2 (x := v4) (M := 3) (n := 3) (by decide) c0 c3
              subst em
              have : m = 0 ∨ m = 1 ∨ m = 2 ∨ m = 3 := by omega
              rcases this with rfl | rfl | rfl | rfl
              · exact Or.inl rfl
              · exact Or.inr (Or.inl rfl)
              · exact Or.inr (Or.inr (Or.inl rfl))
              · exact Or.inr (Or.inr (Or.inr rfl))
            -- Y's way to where it has the width
            have yes : ∀ (Q : Int32 → SY → Prop), ((v4 = 0 → wY_join_78 Q (nI x) (nI y) v3 v4 (nI wl) (nI t) (nI n) (nI h) (nI c) tb' th tw nk nl nr p1 p2 p3 nw us' bo' ct vl rs') ∧ (¬ v4 = 0 → (v4 = 3 → wY_join_78 Q (nI x) (nI y) v3 v4 (nI wl) (nI t) (nI n) (nI h) (nI c) tb' th tw nk nl nr p1 p2 p3 nw us' bo' ct vl rs') ∧ (¬ v4 = 3 → wY_join_89 Q (nI x) (nI y) v3 v4 (nI wl) (nI t) (nI n) (nI h) (nI c) tb' th tw nk nl nr p1 p2 p3 nw us' bo' ct vl rs'))) → wpY_join Q (nI t, nI n, nI h, nI c, tb', th, tw, nk, nl, nr, p1, p2, p3, nw, us', bo', ct, vl, rs') (nI x) (nI y) v3 v4 := by
              intro Q K
              unfold wpY_join
              try dsimp only
              exact hY _ (br_t rfl (br_f c0 (br_t c3 (y_noC_y (by omega) el hl6 ea ha (br_t rfl (y_noC_y (by omega) er hr6 eb hb (br_t rfl ⟨vx, nm_r el' K⟩)))))))
            -- both sides with the width they have reckoned
            have fin : ∀ w : Nat, w ≤ 12 → (((v4 = 0 ∨ v4 = 3) ∧ w = wl + wr) ∨ ((v4 = 1 ∨ v4 = 2) ∧ w = wl)) → ((∀ (Q : Int32 → SY → Prop), wY_join_89 Q (nI x) (nI y) v3 v4 (nI w) (nI t) (nI n) (nI h) (nI c) tb' th tw nk nl nr p1 p2 p3 nw us' bo' ct vl rs' → wpY_join Q (nI t, nI n, nI h, nI c, tb', th, tw, nk, nl, nr, p1, p2, p3, nw, us', bo', ct, vl, rs') (nI x) (nI y) v3 v4)) → wX_join_99 (fun r u' => wpY_join (fun r' v' => r' = r ∧ i_Rel (k + 5) u' v') (nI t, nI n, nI h, nI c, tb', th, tw, nk, nl, nr, p1, p2, p3, nw, us', bo', ct, vl, rs') (nI x) (nI y) v3 v4) (nI x) (nI y) v4 (v3 &&& 7) ((v3 >>> ((3 : Int32) &&& 31)) &&& 7) (nI w) (nI t) (nI n) (nI h) (nI c) tw th tb nk nl nr nw us ca cb cc nn bo lh lc rs := by
              intro w hw12 hw Y
              unfold wX_join_99
              refine pk_le w 6 (fun w6 => ?_) (fun w6 => ?_) rfl rfl (by omega) (by omega)
              · refine x_add2 h12 (by omega) (by omega) rfl ?_
                try dsimp only
                rw [nI_clamp (show n < 2 ^ 31 by omega)]
                refine ⟨vn, nm_e ⟨vn, nm_e ⟨vn, nm_e ?_⟩⟩⟩
                refine Y _ ?_
                unfold wY_join_89
                refine br_t (nI_le (b := 6) w6 (by omega)) ?_
                refine y_add2 h12 (by omega) (by omega) rfl ?_
                refine y_numbers h12 ?_
                refine ⟨rfl, qp_mk ht1 ht4 hW hT (qp_ND_s hN h12 qp_keep qp_keep qp_keep qp_same qp_keep qp_keep qp_keep (qp_us2 hus) ?_) hR⟩
                exact ⟨w, by omega, w6, rfl, Or.inr (Or.inr (Or.inr (Or.inr (Or.inr (Or.inl ⟨rfl, x, wl, y, wr, a, b, ⟨hx, rfl, hl1, hl6, el⟩, ⟨hy, rfl, hr1, hr6, er⟩, ha, hb, pk_us.trans ea, pk_us.trans eb, pk_us.trans ea, pk_us.trans eb, pk_us.trans pk_us.symm, by rw [pk_us]; exact hw⟩)))))⟩
              · refine Y _ ?_
                unfold wY_join_89
                exact br_f (nI_ge (a := 6) w6 (by omega)) ⟨rfl, J⟩
            unfold wX_join_88
            rcases kinds with h4 | h4 | h4 | h4
            · refine br_t h4 ⟨vy, nm_r (by rw [er', nI_add]) ?_⟩
              refine fin (wl + wr) (by omega) (Or.inl ⟨Or.inl h4, rfl⟩) (fun Q K => yes Q (br_t h4 ?_))
              unfold wY_join_78
              exact ⟨vy, nm_r (by rw [er', nI_add]) K⟩
            · have n0 : ¬ v4 = 0 := by rw [h4]; decide
              have n3 : ¬ v4 = 3 := by rw [h4]; decide
              exact br_f n0 (br_f n3 (fin wl (by omega) (Or.inr ⟨Or.inl h4, rfl⟩) (fun Q K => yes Q (br_f n0 (br_f n3 K)))))
            · have n0 : ¬ v4 = 0 := by rw [h4]; decide
              have n3 : ¬ v4 = 3 := by rw [h4]; decide
              exact br_f n0 (br_f n3 (fin wl (by omega) (Or.inr ⟨Or.inr h4, rfl⟩) (fun Q K => yes Q (br_f n0 (br_f n3 K)))))
            · have n0 : ¬ v4 = 0 := by rw [h4]; decide
              refine br_f n0 (br_t h4 ⟨vy, nm_r (by rw [er', nI_add]) ?_⟩)
              refine fin (wl + wr) (by omega) (Or.inl ⟨Or.inr h4, rfl⟩) (fun Q K => yes Q (br_f n0 (br_t h4 ?_)))
              unfold wY_join_78
              exact ⟨vy, nm_r (by rw [er', nI_add]) K⟩
          · have hv : (v3 >>> ((3 : Int32) &&& 31)) &&& 7 < 0 ∨ nI wr ≤ (v3 >>> ((3 : Int32) &&& 31)) &&& 7 := Or.inr (by rw [eb]; exact nI_le (by omega) (by omega))
            exact x_hasC_n (by omega) er hv (br_t rfl (hY _ (br_t rfl (br_f c0 (br_t c3 (y_noC_y (by omega) el hl6 ea ha (br_t rfl (y_noC_n (by omega) er hv (br_f (by decide) ⟨rfl, J⟩)))))))))
        · have hv : v3 &&& 7 < 0 ∨ nI wl ≤ v3 &&& 7 := Or.inr (by rw [ea]; exact nI_le (by omega) (by omega))
          exact x_hasC_n (by omega) el hv (br_t rfl (hY _ (br_t rfl (br_f c0 (br_t c3 (y_noC_n (by omega) el hv (br_f (by decide) ⟨rfl, J⟩)))))))
      · exact br_f c0 (br_f c3 (hY _ (br_t rfl (br_f c0 (br_f c3 ⟨rfl, J⟩)))))
end
section
/-! run -/
theorem i_vc_run {k : Nat} {u : SX} {v : SY} (I : i_Rel k u v) (hk : k + 5 ≤ 2561) (v1 : Int32) : wpX_run (fun r u' => wpY_run (fun r' v' => r' = r ∧ i_Rel (k + 5) u' v') v v1) u v1 := by
  have J := I
  obtain ⟨t, n, h, c, tw, th, tb, tb', nk, nl, nr, nw, us, us', ca, cb, cc, nn, bo, lh, lc, rs, p1, p2, p3, bo', ct, vl, rs', rfl, rfl, ht1, ht4, hW, hT, hN, hR⟩ := I
  have hn := hN.1
  have hus := hN.2.1
  rcases qp_ix2 v1 (n := n) (by omega) with hv | ⟨i, hi, rfl⟩
  · unfold wpX_run
    try dsimp only
    refine x_hasN_n hv (br_t rfl ?_)
    unfold wpY_run
    try dsimp only
    exact y_noN_n hv (br_f (by decide) ⟨rfl, J⟩)
  · have ok := hN.2.2
    obtain ⟨w, hw1, hw6, ew⟩ := qp_ND_w hN hi
    have hWs : ∀ j, j < n → (nw j).toNatClampNeg ≤ 6 := fun j hj => by
      obtain ⟨w', _, h6', e'⟩ := qp_ND_w hN hj
      rw [qp_cl e' (by omega)]; exact h6'
    have hTh : ∀ s, s < 4 → ∃ r : Nat, r ≤ 10 ∧ th s = nI r := fun s hs => by
      obtain ⟨r, h1, h2, _⟩ := hT s hs
      exact ⟨r, h1, h2⟩
    obtain ⟨bd, LL, hb, hl⟩ := qp_run_ex (th := th) (tb := tb) hn ok
    have hlen : ∀ j, j < n → bd j ≤ 24 → (LL j).length ≤ bd j := fun j hj h24 => qp_len hn ok hb hl j j (Nat.le_refl _) hj h24
    have h25 : ∀ j, j < n → bd j ≤ 25 := fun j hj => by
      rw [hb j hj]
      unfold qp_bs
      by_cases z : nk j = 0
      · rw [if_pos z]
        obtain ⟨wn, _, _, _, hq⟩ := ok j hj
        rcases hq with hq | hq | hq | hq | hq | hq | hq | hq | hq | hq | hq
        · obtain ⟨_, _, s, hs, hD, _⟩ := hq
          obtain ⟨r, h1, h2⟩ := hTh s hs
          rw [qp_cl hD (by omega), qp_cl h2 (by omega)]; omega
        all_goals (rw [z] at hq; exact absurd hq.1 (by decide))
      · rw [if_neg z]; exact qp_bl_25 _ _ _ _ _ _
    refine x_run hn hi ok hTh hb hl hlen hWs ew hw6 (fun z bo1 => ?_) (fun z bo1 lh1 lc1 rs1 hrs1 => ?_)
    · refine y_run hn hi ok hT hb hl hlen h25 hWs ew hw6 (fun _ bo2 ct2 vl2 => ⟨rfl, ?_⟩) (fun z2 => absurd z2 z)
      exact qp_mk ht1 ht4 hW hT hN hR
    · refine y_run hn hi ok hT hb hl hlen h25 hWs ew hw6 (fun z2 => absurd z z2) (fun _ bo2 ct2 vl2 rs2 hrs2 => ⟨rfl, ?_⟩)
      have hle := hlen i hi z
      exact qp_mk ht1 ht4 hW hT hN ⟨by omega, hw6, fun r q hr hq => (hrs1 r q hr hq).trans (hrs2 r q hr hq).symm⟩
end
