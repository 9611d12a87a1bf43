/-! counting, pigeonhole, sort -/
noncomputable def qp_cnt (P : Nat → Prop) : Nat → Nat
  | 0 => 0
  | n + 1 => qp_if (P n) (qp_cnt P n + 1) (qp_cnt P n)
theorem qp_cnt_le (P : Nat → Prop) : ∀ n, qp_cnt P n ≤ n := by
  intro n
  induction n with
  | zero => exact Nat.le_refl 0
  | succ n ih =>
    unfold qp_cnt
    by_cases h : P n
    · rw [qp_if_t h]; omega
    · rw [qp_if_f h]; omega
theorem qp_cnt_mono {P Q : Nat → Prop} (hPQ : ∀ j, P j → Q j) : ∀ n, qp_cnt P n ≤ qp_cnt Q n := by
  intro n
  induction n with
  | zero => exact Nat.le_refl 0
  | succ n ih =>
    unfold qp_cnt
    by_cases h : P n
    · rw [qp_if_t h, qp_if_t (hPQ n h)]; omega
    · rw [qp_if_f h]
      by_cases h2 : Q n
      · rw [qp_if_t h2]; omega
      · rw [qp_if_f h2]; exact ih
theorem qp_cnt_lt {P Q : Nat → Prop} (hPQ : ∀ j, P j → Q j) {t : Nat} (hq : Q t) (hp : ¬ P t) : ∀ n, t < n → qp_cnt P n < qp_cnt Q n := by
  intro n
  induction n with
  | zero => intro h; exact absurd h (Nat.not_lt_zero t)
  | succ n ih =>
    intro ht
    unfold qp_cnt
    by_cases e : t = n
    · subst e
      rw [qp_if_f hp, qp_if_t hq]
      have := qp_cnt_mono hPQ t
      omega
    · have h3 := ih (by omega)
      by_cases h : P n
      · rw [qp_if_t h, qp_if_t (hPQ n h)]; omega
      · rw [qp_if_f h]
        by_cases h2 : Q n
        · rw [qp_if_t h2]; omega
        · rw [qp_if_f h2]; exact h3
theorem qp_pig : ∀ (n : Nat) (f : Nat → Nat), (∀ i, i < n → f i < n) → (∀ i j, i < n → j < n → f i = f j → i = j) → ∀ k, k < n → ∃ i, i < n ∧ f i = k := by
  intro n
  induction n with
  | zero => intro f _ _ k hk; exact absurd hk (Nat.not_lt_zero k)
  | succ n ih =>
    intro f hf hi k hk
    have key := ih (fun i => if f i = n then f n else f i) (by
      intro i hin
      show (if f i = n then f n else f i) < n
      by_cases e : f i = n
      · rw [if_pos e]
        have h1 := hf n (by omega)
        by_cases e2 : f n = n
        · have := hi i n (by omega) (by omega) (by omega)
          omega
        · omega
      · rw [if_neg e]
        have h1 := hf i (by omega)
        omega) (by
      intro i j hin hjn
      show (if f i = n then f n else f i) = (if f j = n then f n else f j) → i = j
      by_cases e : f i = n
      · rw [if_pos e]
        by_cases e2 : f j = n
        · intro _; exact hi i j (by omega) (by omega) (by omega)
        · rw [if_neg e2]
          intro h
          have := hi n j (by omega) (by omega) h
          omega
      · rw [if_neg e]
        by_cases e2 : f j = n
        · rw [if_pos e2]
          intro h
          have := hi i n (by omega) (by omega) h
          omega
        · rw [if_neg e2]
          intro h
          exact hi i j (by omega) (by omega) h)
    by_cases e : f n = k
    · exact ⟨n, by omega, e⟩
    · by_cases hkn : k = n
      · have h1 := hf n (by omega)
        obtain ⟨i, hin, hgi⟩ := key (f n) (by omega)
        have hgi' : (if f i = n then f n else f i) = f n := hgi
        by_cases e2 : f i = n
        · exact ⟨i, by omega, by omega⟩
        · rw [if_neg e2] at hgi'
          have := hi i n (by omega) (by omega) hgi'
          omega
      · obtain ⟨i, hin, hgi⟩ := key k (by omega)
        have hgi' : (if f i = n then f n else f i) = k := hgi
        by_cases e2 : f i = n
        · rw [if_pos e2] at hgi'
          exact absurd hgi' e
        · rw [if_neg e2] at hgi'
          exact ⟨i, by omega, hgi'⟩
def qp_find (f : Nat → Nat) (k : Nat) : Nat → Nat
  | 0 => 0
  | n + 1 => if f n = k then n else qp_find f k n
theorem qp_find_ok (f : Nat → Nat) (k : Nat) : ∀ n, (∃ i, i < n ∧ f i = k) → qp_find f k n < n ∧ f (qp_find f k n) = k := by
  intro n
  induction n with
  | zero => intro ⟨i, hi, _⟩; exact absurd hi (Nat.not_lt_zero i)
  | succ n ih =>
    intro ⟨i, hi, e⟩
    unfold qp_find
    by_cases h : f n = k
    · rw [if_pos h]; exact ⟨by omega, h⟩
    · rw [if_neg h]
      have hin : i ≠ n := fun z => h (by rw [← z]; exact e)
      have := ih ⟨i, by omega, e⟩
      exact ⟨by omega, this.2⟩
/-- j goes before i, by values x and y = value at i -/
def qp_bf (d : Prop) (v : Nat → Int32) (i j : Nat) : Prop := (d ∧ v i < v j) ∨ (¬ d ∧ v j < v i) ∨ (v j = v i ∧ j < i)
noncomputable def qp_rk (d : Prop) (v : Nat → Int32) (h i : Nat) : Nat := qp_cnt (qp_bf d v i) h
theorem qp_i32lt {a b : Int32} : a < b ↔ a.toInt < b.toInt := Int32.lt_iff_toInt_lt
theorem qp_i32eq {a b : Int32} : a = b ↔ a.toInt = b.toInt := Int32.toInt_inj.symm
theorem qp_bf_irr (d : Prop) (v : Nat → Int32) (i : Nat) : ¬ qp_bf d v i i := by
  unfold qp_bf
  rw [qp_i32lt]
  omega
theorem qp_bf_tr {d : Prop} {v : Nat → Int32} {i j k : Nat} (h1 : qp_bf d v i j) (h2 : qp_bf d v j k) : qp_bf d v i k := by
  unfold qp_bf at *
  rw [qp_i32lt, qp_i32lt, qp_i32eq] at *
  by_cases hd : d
  · rcases h1 with ⟨_, h1⟩ | ⟨h0, _⟩ | ⟨h1, h1'⟩
    · rcases h2 with ⟨_, h2⟩ | ⟨h0, _⟩ | ⟨h2, h2'⟩
      · exact Or.inl ⟨hd, by omega⟩
      · exact absurd hd h0
      · exact Or.inl ⟨hd, by omega⟩
    · exact absurd hd h0
    · rcases h2 with ⟨_, h2⟩ | ⟨h0, _⟩ | ⟨h2, h2'⟩
      · exact Or.inl ⟨hd, by omega⟩
      · exact absurd hd h0
      · exact Or.inr (Or.inr ⟨by omega, by omega⟩)
  · rcases h1 with ⟨h0, _⟩ | ⟨_, h1⟩ | ⟨h1, h1'⟩
    · exact absurd h0 hd
    · rcases h2 with ⟨h0, _⟩ | ⟨_, h2⟩ | ⟨h2, h2'⟩
      · exact absurd h0 hd
      · exact Or.inr (Or.inl ⟨hd, by omega⟩)
      · exact Or.inr (Or.inl ⟨hd, by omega⟩)
    · rcases h2 with ⟨h0, _⟩ | ⟨_, h2⟩ | ⟨h2, h2'⟩
      · exact absurd h0 hd
      · exact Or.inr (Or.inl ⟨hd, by omega⟩)
      · exact Or.inr (Or.inr ⟨by omega, by omega⟩)
theorem qp_bf_tot (d : Prop) (v : Nat → Int32) {i j : Nat} (h : i ≠ j) : qp_bf d v i j ∨ qp_bf d v j i := by
  unfold qp_bf
  rw [qp_i32lt, qp_i32lt, qp_i32eq, qp_i32eq]
  by_cases hd : d
  · by_cases h1 : (v i).toInt < (v j).toInt
    · exact Or.inl (Or.inl ⟨hd, h1⟩)
    · by_cases h2 : (v j).toInt < (v i).toInt
      · exact Or.inr (Or.inl ⟨hd, h2⟩)
      · by_cases h3 : j < i
        · exact Or.inl (Or.inr (Or.inr ⟨by omega, h3⟩))
        · exact Or.inr (Or.inr (Or.inr ⟨by omega, by omega⟩))
  · by_cases h1 : (v i).toInt < (v j).toInt
    · exact Or.inr (Or.inr (Or.inl ⟨hd, h1⟩))
    · by_cases h2 : (v j).toInt < (v i).toInt
      · exact Or.inl (Or.inr (Or.inl ⟨hd, h2⟩))
      · by_cases h3 : j < i
        · exact Or.inl (Or.inr (Or.inr ⟨by omega, h3⟩))
        · exact Or.inr (Or.inr (Or.inr ⟨by omega, by omega⟩))
theorem qp_rk_lt (d : Prop) (v : Nat → Int32) {h i : Nat} (hi : i < h) : qp_rk d v h i < h := by
  have h1 := qp_cnt_lt (P := qp_bf d v i) (Q := fun _ => True) (fun _ _ => trivial) (t := i) trivial (qp_bf_irr d v i) h hi
  have h2 := qp_cnt_le (fun _ => True) h
  unfold qp_rk
  omega
theorem qp_rk_mono {d : Prop} {v : Nat → Int32} {h i j : Nat} (hj : j < h) (hb : qp_bf d v i j) : qp_rk d v h j < qp_rk d v h i := qp_cnt_lt (P := qp_bf d v j) (Q := qp_bf d v i) (fun _ hk => qp_bf_tr hb hk) (t := j) hb (qp_bf_irr d v j) h hj
theorem qp_rk_inj {d : Prop} {v : Nat → Int32} {h i j : Nat} (hi : i < h) (hj : j < h) (e : qp_rk d v h i = qp_rk d v h j) : i = j := by
  by_cases hij : i = j
  · exact hij
  · rcases qp_bf_tot d v hij with hb | hb
    · have := qp_rk_mono hj hb
      omega
    · have := qp_rk_mono hi hb
      omega
noncomputable def qp_iv (d : Prop) (v : Nat → Int32) (h k : Nat) : Nat := qp_find (qp_rk d v h) k h
theorem qp_iv_ok (d : Prop) (v : Nat → Int32) {h k : Nat} (hk : k < h) : qp_iv d v h k < h ∧ qp_rk d v h (qp_iv d v h k) = k := qp_find_ok _ _ _ (qp_pig h (qp_rk d v h) (fun _ hi => qp_rk_lt d v hi) (fun _ _ hi hj e => qp_rk_inj hi hj e) k hk)
theorem qp_iv_rk (d : Prop) (v : Nat → Int32) {h i : Nat} (hi : i < h) : qp_iv d v h (qp_rk d v h i) = i := by
  have h1 := qp_iv_ok d v (qp_rk_lt d v hi)
  exact qp_rk_inj h1.1 hi h1.2
noncomputable def qp_so (S : List qp_Row) (d : Prop) (a : Nat) : Nat → qp_Row := fun k => qp_g S (qp_iv d (fun r => qp_g S r a) S.length k)
/-! group -/
def qp_cb (o s v : Int32) : Int32 := if o = 0 then s + 1 else if o = 1 then s + v else if o = 2 then (if v < s then v else s) else (if s < v then v else s)
def qp_ag (S : List qp_Row) (o : Int32) (a b : Nat) (key v0 : Int32) : Nat → Int32
  | 0 => if o = 0 then 0 else if o = 1 then 0 else v0
  | n + 1 => if qp_g S n a = key then qp_cb o (qp_ag S o a b key v0 n) (qp_g S n b) else qp_ag S o a b key v0 n
def qp_fst (S : List qp_Row) (a j : Nat) : Prop := ∀ t, t < j → qp_g S t a ≠ qp_g S j a
noncomputable def qp_F (S : List qp_Row) (a : Nat) : Nat → List Nat
  | 0 => []
  | i + 1 => qp_if (qp_fst S a i) (qp_F S a i ++ [i]) (qp_F S a i)
def qp_kv (k v : Int32) : qp_Row := fun c => if c = 0 then k else v
def qp_gr (S : List qp_Row) (o : Int32) (a b n j : Nat) : qp_Row := qp_kv (qp_g S j a) (qp_ag S o a b (qp_g S j a) (qp_g S j b) n)
noncomputable def qp_gp (S : List qp_Row) (o : Int32) (a b n i : Nat) : List qp_Row := (qp_F S a i).map (qp_gr S o a b n)
theorem qp_F_len (S : List qp_Row) (a : Nat) : ∀ i, (qp_F S a i).length ≤ i := by
  intro i
  induction i with
  | zero => exact Nat.le_refl 0
  | succ i ih =>
    unfold qp_F
    by_cases h : qp_fst S a i
    · rw [qp_if_t h, List.length_append, List.length_singleton]; omega
    · rw [qp_if_f h]; omega
theorem qp_gp_len (S : List qp_Row) (o : Int32) (a b n i : Nat) : (qp_gp S o a b n i).length ≤ i := by
  unfold qp_gp; rw [List.length_map]; exact qp_F_len S a i
theorem qp_gp_t {S : List qp_Row} {o : Int32} {a b n i : Nat} (h : qp_fst S a i) : qp_gp S o a b n (i + 1) = qp_gp S o a b n i ++ [qp_gr S o a b n i] := by
  unfold qp_gp
  rw [show qp_F S a (i + 1) = qp_if (qp_fst S a i) (qp_F S a i ++ [i]) (qp_F S a i) from rfl, qp_if_t h, List.map_append]
  rfl
theorem qp_gp_f {S : List qp_Row} {o : Int32} {a b n i : Nat} (h : ¬ qp_fst S a i) : qp_gp S o a b n (i + 1) = qp_gp S o a b n i := by
  unfold qp_gp
  rw [show qp_F S a (i + 1) = qp_if (qp_fst S a i) (qp_F S a i ++ [i]) (qp_F S a i) from rfl, qp_if_f h]
def qp_fg (F : List Nat) (g : Nat) : Nat := F.getD g 0
theorem qp_fg_lo {F : List Nat} {x g : Nat} (h : g < F.length) : qp_fg (F ++ [x]) g = qp_fg F g := by
  unfold qp_fg
  rw [List.getD_eq_getElem?_getD, List.getD_eq_getElem?_getD, List.getElem?_append_left h]
theorem qp_fg_hi {F : List Nat} {x : Nat} : qp_fg (F ++ [x]) F.length = x := by
  unfold qp_fg
  rw [List.getD_eq_getElem?_getD, List.getElem?_concat_length]
  rfl
theorem qp_gp_g {S : List qp_Row} {o : Int32} {a b n i g : Nat} (h : g < (qp_F S a i).length) : qp_g (qp_gp S o a b n i) g = qp_gr S o a b n (qp_fg (qp_F S a i) g) := by
  unfold qp_g qp_gp qp_fg
  rw [List.getD_eq_getElem?_getD, List.getD_eq_getElem?_getD, List.getElem?_map, List.getElem?_eq_getElem h]
  rfl
/-- the first occurrences: below i, all keys, no key twice -/
theorem qp_F_ok (S : List qp_Row) (a : Nat) : ∀ i, (∀ g, g < (qp_F S a i).length → qp_fg (qp_F S a i) g < i) ∧ (∀ t, t < i → ∃ g, g < (qp_F S a i).length ∧ qp_g S (qp_fg (qp_F S a i) g) a = qp_g S t a) ∧ (∀ g g', g < (qp_F S a i).length → g' < (qp_F S a i).length → qp_g S (qp_fg (qp_F S a i) g) a = qp_g S (qp_fg (qp_F S a i) g') a → g = g') := by
  intro i
  induction i with
  | zero => exact ⟨fun g h => absurd h (Nat.not_lt_zero g), fun t h => absurd h (Nat.not_lt_zero t), fun g _ h => absurd h (Nat.not_lt_zero g)⟩
  | succ i ih =>
    obtain ⟨i1, i2, i3⟩ := ih
    unfold qp_F
    by_cases h : qp_fst S a i
    · rw [qp_if_t h, List.length_append, List.length_singleton]
      refine ⟨fun g hg => ?_, fun t ht => ?_, fun g g' hg hg' e => ?_⟩
      · by_cases e : g < (qp_F S a i).length
        · rw [qp_fg_lo e]; have := i1 g e; omega
        · have : g = (qp_F S a i).length := by omega
          subst this
          rw [qp_fg_hi]; omega
      · by_cases e : t < i
        · obtain ⟨g, hg, e2⟩ := i2 t e
          exact ⟨g, by omega, by rw [qp_fg_lo hg]; exact e2⟩
        · have : t = i := by omega
          subst this
          exact ⟨(qp_F S a t).length, by omega, by rw [qp_fg_hi]⟩
      · by_cases e1 : g < (qp_F S a i).length
        · rw [qp_fg_lo e1] at e
          by_cases e2 : g' < (qp_F S a i).length
          · rw [qp_fg_lo e2] at e
            exact i3 g g' e1 e2 e
          · have : g' = (qp_F S a i).length := by omega
            subst this
            rw [qp_fg_hi] at e
            exact absurd e (h _ (i1 g e1))
        · have : g = (qp_F S a i).length := by omega
          subst this
          rw [qp_fg_hi] at e
          by_cases e2 : g' < (qp_F S a i).length
          · rw [qp_fg_lo e2] at e
            exact absurd e.symm (h _ (i1 g' e2))
          · omega
    · rw [qp_if_f h]
      refine ⟨fun g hg => by have := i1 g hg; omega, fun t ht => ?_, i3⟩
      by_cases e : t < i
      · exact i2 t e
      · have : t = i := by omega
        subst this
        by_cases hx : ∃ s, s < t ∧ qp_g S s a = qp_g S t a
        · obtain ⟨s, hs, e2⟩ := hx
          obtain ⟨g, hg, e3⟩ := i2 s hs
          exact ⟨g, hg, e3.trans e2⟩
        · exact absurd (fun s hs e2 => hx ⟨s, hs, e2⟩) h
theorem qp_ag_no {S : List qp_Row} {o : Int32} {a b : Nat} {key v0 : Int32} : ∀ {n : Nat}, (∀ t, t < n → qp_g S t a ≠ key) → qp_ag S o a b key v0 n = qp_ag S o a b key v0 0 := by
  intro n
  induction n with
  | zero => intro _; rfl
  | succ n ih =>
    intro h
    rw [show qp_ag S o a b key v0 (n + 1) = (if qp_g S n a = key then qp_cb o (qp_ag S o a b key v0 n) (qp_g S n b) else qp_ag S o a b key v0 n) from rfl, if_neg (h n (by omega))]
    exact ih (fun t ht => h t (by omega))
/-- a new group starts with 1, or with its value -/
theorem qp_ag_1 {S : List qp_Row} {o : Int32} {a b i : Nat} (ho : o = 0 ∨ o = 1 ∨ o = 2 ∨ o = 3) (h : qp_fst S a i) : qp_ag S o a b (qp_g S i a) (qp_g S i b) (i + 1) = if o = 0 then 1 else qp_g S i b := by
  rw [show qp_ag S o a b (qp_g S i a) (qp_g S i b) (i + 1) = (if qp_g S i a = qp_g S i a then qp_cb o (qp_ag S o a b (qp_g S i a) (qp_g S i b) i) (qp_g S i b) else qp_ag S o a b (qp_g S i a) (qp_g S i b) i) from rfl, if_pos rfl, qp_ag_no h]
  generalize qp_g S i b = v
  rcases ho with rfl | rfl | rfl | rfl
  · show (0 : Int32) + 1 = 1
    rfl
  · show (0 : Int32) + v = v
    exact Int32.zero_add v
  · show (if v < v then v else v) = v
    split <;> rfl
  · show (if v < v then v else v) = v
    split <;> rfl
theorem qp_ag_t {S : List qp_Row} {o : Int32} {a b : Nat} {key v0 : Int32} {n : Nat} (h : qp_g S n a = key) : qp_ag S o a b key v0 (n + 1) = qp_cb o (qp_ag S o a b key v0 n) (qp_g S n b) := by
  rw [show qp_ag S o a b key v0 (n + 1) = (if qp_g S n a = key then qp_cb o (qp_ag S o a b key v0 n) (qp_g S n b) else qp_ag S o a b key v0 n) from rfl, if_pos h]
theorem qp_ag_f {S : List qp_Row} {o : Int32} {a b : Nat} {key v0 : Int32} {n : Nat} (h : ¬ qp_g S n a = key) : qp_ag S o a b key v0 (n + 1) = qp_ag S o a b key v0 n := by
  rw [show qp_ag S o a b key v0 (n + 1) = (if qp_g S n a = key then qp_cb o (qp_ag S o a b key v0 n) (qp_g S n b) else qp_ag S o a b key v0 n) from rfl, if_neg h]
/-- the component's way to put two together -/
def qp_cx (o s v : Int32) : Int32 := if o = 2 then (if s < v then s else v) else if o = 3 then (if v < s then s else v) else s + v
theorem qp_cx_cb {o s v : Int32} (ho : o = 0 ∨ o = 1 ∨ o = 2 ∨ o = 3) : qp_cx o s (if o = 0 then 1 else v) = qp_cb o s v := by
  rcases ho with rfl | rfl | rfl | rfl
  · rfl
  · rfl
  · show (if s < v then s else v) = (if v < s then v else s)
    by_cases h1 : s < v
    · rw [if_pos h1, if_neg (by rw [qp_i32lt] at *; omega)]
    · rw [if_neg h1]
      by_cases h2 : v < s
      · rw [if_pos h2]
      · rw [if_neg h2]
        rw [qp_i32lt] at *
        exact qp_i32eq.mpr (by omega)
  · show (if v < s then s else v) = (if s < v then v else s)
    by_cases h1 : v < s
    · rw [if_pos h1, if_neg (by rw [qp_i32lt] at *; omega)]
    · rw [if_neg h1]
      by_cases h2 : s < v
      · rw [if_pos h2]
      · rw [if_neg h2]
        rw [qp_i32lt] at *
        exact qp_i32eq.mpr (by omega)
/-! a value for every node, each out of those before it -/
theorem qp_ex {α : Type} (d : α) (f : Nat → (Nat → α) → α) : ∀ n, (∀ j, j < n → ∀ g g', (∀ t, t < j → g t = g' t) → f j g = f j g') → ∃ F : Nat → α, ∀ j, j < n → F j = f j F := by
  intro n
  induction n with
  | zero => intro _; exact ⟨fun _ => d, fun j h => absurd h (Nat.not_lt_zero j)⟩
  | succ n ih =>
    intro h
    obtain ⟨F, hF⟩ := ih (fun j hj => h j (by omega))
    refine ⟨fun j => if j = n then f n F else F j, fun j hj => ?_⟩
    by_cases e : j = n
    · subst e
      show (if j = j then f j F else F j) = _
      rw [if_pos rfl]
      exact h j (by omega) _ _ (fun t ht => (if_neg (by omega)).symm)
    · show (if j = n then f n F else F j) = _
      rw [if_neg e, hF j (by omega)]
      exact h j (by omega) _ _ (fun t ht => (if_neg (by omega)).symm)
