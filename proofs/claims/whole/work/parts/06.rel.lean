/-! the relation's facts -/
/-- the two table stores agree on the rows that a table has -/
def qp_TB (th tb tb' : Nat → Int32) : Prop := ∀ t, t < 4 → ∃ h : Nat, h ≤ 10 ∧ th t = nI h ∧ ∀ p, p < 3 * h → tb (t * 30 + p) = tb' (t * 30 + p)
def qp_TW (tw : Nat → Int32) : Prop := ∀ t, t < 4 → ∃ w : Nat, 1 ≤ w ∧ w ≤ 3 ∧ tw t = nI w
def qp_RS (h c : Nat) (rs rs' : Nat → Int32) : Prop := h ≤ 24 ∧ c ≤ 6 ∧ ∀ r q, r < h → q < c → rs (r * 6 + q) = rs' (r * 6 + q)
def qp_ND (n : Nat) (K L R W us us' A B C D p1 p2 p3 : Nat → Int32) : Prop := n ≤ 12 ∧ (∀ i, i < n → us i = us' i) ∧ ∀ i, i < n → qp_OK (K i) (L i) (R i) (W i) (A i) (B i) (C i) (D i) (p1 i) (p2 i) (p3 i) W i
theorem qp_ND_0 {K L R W us us' A B C D p1 p2 p3 : Nat → Int32} : qp_ND 0 K L R W us us' A B C D p1 p2 p3 := ⟨by omega, fun i h => absurd h (Nat.not_lt_zero i), fun i h => absurd h (Nat.not_lt_zero i)⟩
/-- one node more -/
theorem qp_ND_s {n : Nat} {K L R W us us' A B C D p1 p2 p3 A1 B1 C1 D1 q1 q2 q3 us1 us1' : Nat → Int32} {k l r w : Int32} (H : qp_ND n K L R W us us' A B C D p1 p2 p3) (hn : n < 12)
    (hA : ∀ i, i < n → A1 i = A i) (hB : ∀ i, i < n → B1 i = B i) (hC : ∀ i, i < n → C1 i = C i) (hD : ∀ i, i < n → D1 i = D i)
    (h1 : ∀ i, i < n → q1 i = p1 i) (h2 : ∀ i, i < n → q2 i = p2 i) (h3 : ∀ i, i < n → q3 i = p3 i)
    (hu : ∀ i, i < n + 1 → us1 i = us1' i)
    (ho : qp_OK k l r w (A1 n) (B1 n) (C1 n) (D1 n) (q1 n) (q2 n) (q3 n) W n) :
    qp_ND (n + 1) (upd K n k) (upd L n l) (upd R n r) (upd W n w) us1 us1' A1 B1 C1 D1 q1 q2 q3 := by
  obtain ⟨h12, hus, hok⟩ := H
  refine ⟨by omega, hu, fun i hi => ?_⟩
  have hWc : ∀ j, j < i → upd W n w j = W j := fun j hj => pk_un (by omega)
  refine qp_OK_c hWc ?_
  by_cases e : i = n
  · subst e
    rw [pk_us, pk_us, pk_us, pk_us]
    exact ho
  · have hi' : i < n := by omega
    rw [pk_un e, pk_un e, pk_un e, pk_un e, hA i hi', hB i hi', hC i hi', hD i hi', h1 i hi', h2 i hi', h3 i hi']
    exact hok i hi'
theorem qp_keep {a : Nat → Int32} {n : Nat} {x : Int32} : ∀ i, i < n → upd a n x i = a i := fun i hi => pk_un (by omega)
theorem qp_same {a : Nat → Int32} {n : Nat} : ∀ i, i < n → a i = a i := fun _ _ => rfl
/-- the children's marks, one child or two -/
theorem qp_us1 {n l : Nat} {us us' : Nat → Int32} {f t : Int32} (h : ∀ i, i < n → us i = us' i) : ∀ i, i < n + 1 → upd (upd us n f) l t i = upd (upd us' n f) l t i := by
  intro i hi
  by_cases e : i = l
  · subst e; rw [pk_us, pk_us]
  · rw [pk_un e, pk_un e]
    by_cases e2 : i = n
    · subst e2; rw [pk_us, pk_us]
    · rw [pk_un e2, pk_un e2]; exact h i (by omega)
theorem qp_us0 {n : Nat} {us us' : Nat → Int32} {f : Int32} (h : ∀ i, i < n → us i = us' i) : ∀ i, i < n + 1 → upd us n f i = upd us' n f i := by
  intro i hi
  by_cases e2 : i = n
  · subst e2; rw [pk_us, pk_us]
  · rw [pk_un e2, pk_un e2]; exact h i (by omega)
theorem qp_us2 {n l r : Nat} {us us' : Nat → Int32} {f t : Int32} (h : ∀ i, i < n → us i = us' i) : ∀ i, i < n + 1 → upd (upd (upd us n f) l t) r t i = upd (upd (upd us' n f) l t) r t i := by
  intro i hi
  by_cases e : i = r
  · subst e; rw [pk_us, pk_us]
  · rw [pk_un e, pk_un e]; exact qp_us1 h i hi
/-- indices of the list store -/
theorem qp_ix (s r c : Nat) : (nI s * 24 + nI r) * 6 + nI c = nI (s * 144 + r * 6 + c) := by
  rw [show (24 : Int32) = nI 24 from rfl, show (6 : Int32) = nI 6 from rfl, pk_mul, nI_add, pk_mul, nI_add]
  exact congrArg nI (by omega)
theorem qp_ix0 (s r : Nat) : (nI s * 24 + nI r) * 6 = nI (s * 144 + r * 6) := by
  rw [show (24 : Int32) = nI 24 from rfl, show (6 : Int32) = nI 6 from rfl, pk_mul, nI_add, pk_mul]
  exact congrArg nI (by omega)
theorem qp_iy (s r c : Nat) : nI s * 144 + nI r * 6 + nI c = nI (s * 144 + r * 6 + c) := by
  rw [show (144 : Int32) = nI 144 from rfl, show (6 : Int32) = nI 6 from rfl, pk_mul, pk_mul, nI_add, nI_add]
theorem qp_iy0 (s r : Nat) : nI s * 144 + nI r * 6 = nI (s * 144 + r * 6) := by
  rw [show (144 : Int32) = nI 144 from rfl, show (6 : Int32) = nI 6 from rfl, pk_mul, pk_mul, nI_add]
theorem qp_i6 (r c : Nat) : nI r * 6 + nI c = nI (r * 6 + c) := by
  rw [show (6 : Int32) = nI 6 from rfl, pk_mul, nI_add]
theorem qp_it0 (t r : Nat) : (nI t * 10 + nI r) * 3 = nI (t * 30 + r * 3) := by
  rw [show (10 : Int32) = nI 10 from rfl, show (3 : Int32) = nI 3 from rfl, pk_mul, nI_add, pk_mul]
  exact congrArg nI (by omega)
theorem qp_iu (t r c : Nat) : nI t * 30 + nI r * 3 + nI c = nI (t * 30 + r * 3 + c) := by
  rw [show (30 : Int32) = nI 30 from rfl, show (3 : Int32) = nI 3 from rfl, pk_mul, pk_mul, nI_add, nI_add]
theorem qp_iu0 (t r : Nat) : nI t * 30 + nI r * 3 = nI (t * 30 + r * 3) := by
  rw [show (30 : Int32) = nI 30 from rfl, show (3 : Int32) = nI 3 from rfl, pk_mul, pk_mul, nI_add]
theorem qp_m1 {x : Nat} (h : x < 2 ^ 31) : ¬ nI x = -1 := by
  intro z
  have h1 := congrArg Int32.toInt z
  rw [nI_toInt h] at h1
  have h2 : (-1 : Int32).toInt = -1 := by decide
  omega
/-- one loop over a counter, two arrays changing -/
theorem qp_loop {α β : Type} (W : Nat → Nat → α → β → Prop) (I : Nat → α → β → Prop) (e : Nat) (hx : ∀ n h a, I e h a → W (n + 1) e h a) (hs : ∀ n i h a, i < e → I i h a → (∀ h' a', I (i + 1) h' a' → W n (i + 1) h' a') → W (n + 1) i h a) : ∀ n i h a, i ≤ e → e < n + i → I i h a → W n i h a := by
  intro n
  induction n with
  | zero => intro i h a h1 h2; omega
  | succ n ih =>
    intro i h a h1 h2 hI
    by_cases hi : i = e
    · subst hi; exact hx n h a hI
    · exact hs n i h a (by omega) hI (fun h' a' hI' => ih (i + 1) h' a' (by omega) (by omega) hI')
theorem qp_loop1 {α : Type} (W : Nat → Nat → α → Prop) (I : Nat → α → Prop) (e : Nat) (hx : ∀ n a, I e a → W (n + 1) e a) (hs : ∀ n i a, i < e → I i a → (∀ a', I (i + 1) a' → W n (i + 1) a') → W (n + 1) i a) : ∀ n i a, i ≤ e → e < n + i → I i a → W n i a := by
  intro n
  induction n with
  | zero => intro i a h1 h2; omega
  | succ n ih =>
    intro i a h1 h2 hI
    by_cases hi : i = e
    · subst hi; exact hx n a hI
    · exact hs n i a (by omega) hI (fun a' hI' => ih (i + 1) a' (by omega) (by omega) hI')
theorem qp_loop0 (W : Nat → Nat → Prop) (I : Nat → Prop) (e : Nat) (hx : ∀ n, I e → W (n + 1) e) (hs : ∀ n i, i < e → I i → (I (i + 1) → W n (i + 1)) → W (n + 1) i) : ∀ n i, i ≤ e → e < n + i → I i → W n i := by
  intro n
  induction n with
  | zero => intro i h1 h2; omega
  | succ n ih =>
    intro i h1 h2 hI
    by_cases hi : i = e
    · subst hi; exact hx n hI
    · exact hs n i (by omega) hI (fun hI' => ih (i + 1) (by omega) (by omega) hI')
