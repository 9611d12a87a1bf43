/-! steps that both sides take -/
def qp_Pt (n w : Nat) (f : Nat → qp_Row) (i j : Nat) (a a1 : Nat → Int32) : Prop := qp_Fr n a a1 ∧ ∀ r c, c < w → (r < i ∨ (r = i ∧ c < j)) → a1 (n * 144 + r * 6 + c) = f r c
theorem qp_Pt_0 (n w : Nat) (f : Nat → qp_Row) (a : Nat → Int32) : qp_Pt n w f 0 0 a a := ⟨qp_Fr_r n a, fun r c _ h => by omega⟩
theorem qp_Pt_s {n w i j : Nat} {f : Nat → qp_Row} {a a1 : Nat → Int32} {v : Int32} (P : qp_Pt n w f i j a a1) (hi : i < 24) (hj : j < w) (hw : w ≤ 6) (e : v = f i j) : qp_Pt n w f i (j + 1) a (upd a1 (n * 144 + i * 6 + j) v) := by
  obtain ⟨p1, p2⟩ := P
  refine ⟨fun p hp => ?_, fun r c hc h => ?_⟩
  · rw [pk_un (by omega)]; exact p1 p hp
  · by_cases z : r = i ∧ c = j
    · obtain ⟨z1, z2⟩ := z
      subst z1 z2
      rw [pk_us]; exact e
    · rw [pk_un (by omega)]; exact p2 r c hc (by omega)
theorem qp_Pt_n {n w i : Nat} {f : Nat → qp_Row} {a a1 : Nat → Int32} (P : qp_Pt n w f i w a a1) : qp_Pt n w f (i + 1) 0 a a1 := ⟨P.1, fun r c hc h => P.2 r c hc (by omega)⟩
theorem qp_Pt_e {n w h : Nat} {f : Nat → qp_Row} {a a1 : Nat → Int32} (P : qp_Pt n w f h 0 a a1) : qp_Rep a1 n w (qp_tab h f) := by
  intro r c hr hc
  rw [qp_tab_len] at hr
  rw [qp_tab_g hr]
  exact P.2 r c hc (Or.inl hr)
/-- a copied row: w columns from fr to to -/
def qp_Cp (to fr w : Nat) (a a' : Nat → Int32) : Prop := (∀ c, c < w → a' (to + c) = a (fr + c)) ∧ ∀ p, (p < to ∨ to + w ≤ p) → a' p = a p
theorem qp_Cp_0 (to fr : Nat) (a : Nat → Int32) : qp_Cp to fr 0 a a := ⟨fun c h => absurd h (Nat.not_lt_zero c), fun _ _ => rfl⟩
theorem qp_Cp_s {to fr i w : Nat} {a a' : Nat → Int32} {v : Int32} (P : qp_Cp to fr i a a') (hi : i < w) (hd : fr + w ≤ to ∨ to + w ≤ fr) (e : v = a' (fr + i)) : qp_Cp to fr (i + 1) a (upd a' (to + i) v) := by
  obtain ⟨p1, p2⟩ := P
  refine ⟨fun c hc => ?_, fun p hp => ?_⟩
  · by_cases z : c = i
    · subst z
      rw [pk_us, e]; exact p2 _ (by omega)
    · rw [pk_un (by omega)]; exact p1 c (by omega)
  · rw [pk_un (by omega)]; exact p2 p (by omega)
/-- a row of S, copied behind R -/
theorem qp_Out_cp {n w s r : Nat} {R S : List qp_Row} {h a h1 a1 a2 : Nat → Int32} (O : qp_Out n w R h a h1 a1) (hR : R.length < 24) (hw : w ≤ 6) (hS : qp_Rep a1 s w S) (hr : r < S.length) (hc : qp_Cp (n * 144 + R.length * 6) (s * 144 + r * 6) w a1 a2) : qp_Out n w (R ++ [qp_g S r]) h a (upd h1 n (nI (R.length + 1))) a2 :=
  qp_Out_app O hR hw _ (fun c k => (hc.1 c k).trans (hS r c hr k)) (fun p k => hc.2 p (by omega))
theorem qp_Out_h {n w : Nat} {R : List qp_Row} {h a h1 a1 : Nat → Int32} (O : qp_Out n w R h a h1 a1) : h1 n = nI R.length := O.2.2.1
/-- a pair of rows, copied behind R -/
theorem qp_Out_pr {n w wl wr s r q t : Nat} {R S Q : List qp_Row} {h a h1 a1 a2 a3 : Nat → Int32} (O : qp_Out n w R h a h1 a1) (hR : R.length < 24) (hw : w ≤ 6) (ew : w = wl + wr) (hS : qp_Rep a1 s wl S) (hr : r < S.length) (hQ : qp_Rep a1 q wr Q) (ht : t < Q.length) (hQl : Q.length ≤ 24) (hqn : q ≠ n) (hc : qp_Cp (n * 144 + R.length * 6) (s * 144 + r * 6) wl a1 a2) (hd : qp_Cp (n * 144 + R.length * 6 + wl) (q * 144 + t * 6) wr a2 a3) : qp_Out n w (R ++ [qp_pair (qp_g S r) (qp_g Q t) wl]) h a (upd h1 n (nI (R.length + 1))) a3 := by
  refine qp_Out_app O hR hw _ (fun c k => ?_) (fun p k => ?_)
  · unfold qp_pair
    by_cases z : c < wl
    · rw [if_pos z, hd.2 _ (by omega), hc.1 c z]; exact hS r c hr z
    · rw [if_neg z]
      have e1 := hd.1 (c - wl) (by omega)
      rw [show n * 144 + R.length * 6 + wl + (c - wl) = n * 144 + R.length * 6 + c by omega] at e1
      rw [e1, hc.2 _ (by omega)]
      exact hQ t (c - wl) ht (by omega)
  · rw [hd.2 p (by omega)]; exact hc.2 p (by omega)
/-- a row and zeros: zeros first, as the component does -/
theorem qp_Out_zr {n w wl wr s r : Nat} {R S : List qp_Row} {h a h1 a1 a3 : Nat → Int32} (O : qp_Out n w R h a h1 a1) (hR : R.length < 24) (hw : w ≤ 6) (ew : w = wl + wr) (hS : qp_Rep a1 s wl S) (hr : r < S.length) (h1' : ∀ c, c < wl → a3 (n * 144 + R.length * 6 + c) = a1 (s * 144 + r * 6 + c)) (h2 : ∀ c, wl ≤ c → c < w → a3 (n * 144 + R.length * 6 + c) = 0) (h3 : ∀ p, (p < n * 144 + R.length * 6 ∨ n * 144 + R.length * 6 + w ≤ p) → a3 p = a1 p) : qp_Out n w (R ++ [qp_pair (qp_g S r) (fun _ => 0) wl]) h a (upd h1 n (nI (R.length + 1))) a3 := by
  refine qp_Out_app O hR hw _ (fun c k => ?_) (fun p k => h3 p (by omega))
  unfold qp_pair
  by_cases z : c < wl
  · rw [if_pos z, h1' c z]; exact hS r c hr z
  · rw [if_neg z]; exact h2 c (by omega) k
/-! group -/
theorem qp_gp_0 {S : List qp_Row} {o : Int32} {a b n i g : Nat} (h : g < (qp_F S a i).length) : qp_g (qp_gp S o a b n i) g 0 = qp_g S (qp_fg (qp_F S a i) g) a := by rw [qp_gp_g h]; rfl
theorem qp_gp_1 {S : List qp_Row} {o : Int32} {a b n i g : Nat} (h : g < (qp_F S a i).length) : qp_g (qp_gp S o a b n i) g 1 = qp_ag S o a b (qp_g S (qp_fg (qp_F S a i) g) a) (qp_g S (qp_fg (qp_F S a i) g) b) n := by rw [qp_gp_g h]; rfl
theorem qp_gp_ln (S : List qp_Row) (o : Int32) (a b n i : Nat) : (qp_gp S o a b n i).length = (qp_F S a i).length := by unfold qp_gp; rw [List.length_map]
theorem qp_F_f {S : List qp_Row} {a i : Nat} (h : ¬ qp_fst S a i) : qp_F S a (i + 1) = qp_F S a i := by
  rw [show qp_F S a (i + 1) = qp_if (qp_fst S a i) (qp_F S a i ++ [i]) (qp_F S a i) from rfl, qp_if_f h]
theorem qp_F_t {S : List qp_Row} {a i : Nat} (h : qp_fst S a i) : qp_F S a (i + 1) = qp_F S a i ++ [i] := by
  rw [show qp_F S a (i + 1) = qp_if (qp_fst S a i) (qp_F S a i ++ [i]) (qp_F S a i) from rfl, qp_if_t h]
theorem qp_Out_go {n i g a b : Nat} {S : List qp_Row} {o : Int32} {h A h1 A1 : Nat → Int32} (O : qp_Out n 2 (qp_gp S o a b i i) h A h1 A1) (hi : i < 24) (hg : g < (qp_gp S o a b i i).length) (hk : qp_g (qp_gp S o a b i i) g 0 = qp_g S i a) : qp_Out n 2 (qp_gp S o a b (i + 1) (i + 1)) h A h1 (upd (upd A1 (n * 144 + g * 6) (qp_g S i a)) (n * 144 + g * 6 + 1) (qp_cb o (qp_g (qp_gp S o a b i i) g 1) (qp_g S i b))) := by
  obtain ⟨o1, o2, o3, o4⟩ := O
  obtain ⟨f1, f2, f3⟩ := qp_F_ok S a i
  have hl := qp_F_len S a i
  have hln := qp_gp_ln S o a b i i
  have hln2 := qp_gp_ln S o a b (i + 1) (i + 1)
  have hg' : g < (qp_F S a i).length := by omega
  rw [qp_gp_0 hg'] at hk
  have hnf : ¬ qp_fst S a i := fun z => z _ (f1 g hg') hk
  rw [qp_F_f hnf] at hln2
  refine ⟨fun p hp => ?_, o2, by rw [hln2, ← hln]; exact o3, fun r c hr hc => ?_⟩
  · rw [pk_un (by omega), pk_un (by omega)]; exact o1 p hp
  · have hr' : r < (qp_F S a i).length := by omega
    have hr2 : r < (qp_F S a (i + 1)).length := by rw [qp_F_f hnf]; exact hr'
    by_cases z : r = g
    · subst z
      by_cases hc0 : c = 0
      · subst hc0
        rw [pk_un (by omega), Nat.add_zero, pk_us, qp_gp_0 hr2, qp_F_f hnf]
        exact hk.symm
      · have hc1 : c = 1 := by omega
        subst hc1
        rw [pk_us, qp_gp_1 hr2, qp_F_f hnf, qp_gp_1 hg', qp_ag_t hk.symm]
    · rw [pk_un (by omega), pk_un (by omega), o4 r c (by omega) hc]
      have hne : ¬ qp_g S i a = qp_g S (qp_fg (qp_F S a i) r) a := fun q => z (f3 r g hr' hg' (q.symm.trans hk.symm))
      by_cases hc0 : c = 0
      · subst hc0
        rw [qp_gp_0 hr', qp_gp_0 hr2, qp_F_f hnf]
      · have hc1 : c = 1 := by omega
        subst hc1
        rw [qp_gp_1 hr', qp_gp_1 hr2, qp_F_f hnf, qp_ag_f hne]
theorem qp_Out_gn {n i a b : Nat} {S : List qp_Row} {o : Int32} {h A h1 A1 : Nat → Int32} (ho : o = 0 ∨ o = 1 ∨ o = 2 ∨ o = 3) (O : qp_Out n 2 (qp_gp S o a b i i) h A h1 A1) (hi : i < 24) (hk : ∀ g, g < (qp_gp S o a b i i).length → qp_g (qp_gp S o a b i i) g 0 ≠ qp_g S i a) : qp_Out n 2 (qp_gp S o a b (i + 1) (i + 1)) h A (upd h1 n (nI ((qp_gp S o a b i i).length + 1))) (upd (upd A1 (n * 144 + (qp_gp S o a b i i).length * 6) (qp_g S i a)) (n * 144 + (qp_gp S o a b i i).length * 6 + 1) (if o = 0 then 1 else qp_g S i b)) := by
  obtain ⟨f1, f2, f3⟩ := qp_F_ok S a i
  have hl := qp_F_len S a i
  have hln := qp_gp_ln S o a b i i
  have hf : qp_fst S a i := by
    intro t ht e
    obtain ⟨g, hg, e2⟩ := f2 t ht
    exact hk g (by omega) (by rw [qp_gp_0 hg, e2, e])
  -- the new list, with the old groups' values brought up to date
  obtain ⟨o1, o2, o3, o4⟩ := O
  have hln2 := qp_gp_ln S o a b (i + 1) (i + 1)
  rw [qp_F_t hf, List.length_append, List.length_singleton] at hln2
  refine ⟨fun p hp => ?_, fun j hj => ?_, ?_, fun r c hr hc => ?_⟩
  · rw [pk_un (by omega), pk_un (by omega)]; exact o1 p hp
  · rw [pk_un hj]; exact o2 j hj
  · rw [pk_us, hln2, hln]
  · have hr2 : r < (qp_F S a (i + 1)).length := by rw [← qp_gp_ln S o a b (i + 1) (i + 1)]; exact hr
    by_cases z : r < (qp_F S a i).length
    · have hne : ¬ qp_g S i a = qp_g S (qp_fg (qp_F S a i) r) a := fun q => hf _ (f1 r z) q.symm
      rw [pk_un (by omega), pk_un (by omega), o4 r c (by omega) hc]
      by_cases hc0 : c = 0
      · subst hc0
        rw [qp_gp_0 z, qp_gp_0 hr2, qp_F_t hf, qp_fg_lo z]
      · have hc1 : c = 1 := by omega
        subst hc1
        rw [qp_gp_1 z, qp_gp_1 hr2, qp_F_t hf, qp_fg_lo z, qp_ag_f hne]
    · have er : r = (qp_F S a i).length := by omega
      have er2 : qp_fg (qp_F S a (i + 1)) r = i := by rw [qp_F_t hf, er, qp_fg_hi]
      rw [hln, ← er]
      by_cases hc0 : c = 0
      · subst hc0
        rw [pk_un (by omega), Nat.add_zero, pk_us, qp_gp_0 hr2, er2]
      · have hc1 : c = 1 := by omega
        subst hc1
        rw [pk_us, qp_gp_1 hr2, er2, qp_ag_1 ho hf]
/-! sort: the component puts each row at its place -/
def qp_Pk (n w : Nat) (S : List qp_Row) (d : Prop) (x i : Nat) (a a1 : Nat → Int32) : Prop := qp_Fr n a a1 ∧ ∀ r c, r < i → c < w → a1 (n * 144 + qp_rk d (fun t => qp_g S t x) S.length r * 6 + c) = qp_g S r c
theorem qp_Pk_0 (n w : Nat) (S : List qp_Row) (d : Prop) (x : Nat) (a : Nat → Int32) : qp_Pk n w S d x 0 a a := ⟨qp_Fr_r n a, fun r c h _ => absurd h (Nat.not_lt_zero r)⟩
theorem qp_Pk_s {n w s i x : Nat} {S : List qp_Row} {d : Prop} {a a1 a2 : Nat → Int32} (P : qp_Pk n w S d x i a a1) (hi : i < S.length) (hl : S.length ≤ 24) (hw : w ≤ 6) (hS : qp_Rep a1 s w S) (hc : qp_Cp (n * 144 + qp_rk d (fun t => qp_g S t x) S.length i * 6) (s * 144 + i * 6) w a1 a2) : qp_Pk n w S d x (i + 1) a a2 := by
  obtain ⟨p1, p2⟩ := P
  have hk := qp_rk_lt d (fun t => qp_g S t x) hi
  refine ⟨fun p hp => ?_, fun r c hr hcw => ?_⟩
  · rw [hc.2 p (by omega)]; exact p1 p hp
  · by_cases e : r = i
    · subst e
      rw [hc.1 c hcw]; exact hS r c hi hcw
    · have hri : r < i := by omega
      have hne : qp_rk d (fun t => qp_g S t x) S.length r ≠ qp_rk d (fun t => qp_g S t x) S.length i := fun z => e (qp_rk_inj (by omega) hi z)
      rw [hc.2 _ (by omega)]
      exact p2 r c hri hcw
theorem qp_Pk_e {n w x : Nat} {S : List qp_Row} {d : Prop} {a a1 : Nat → Int32} (P : qp_Pk n w S d x S.length a a1) : qp_Rep a1 n w (qp_tab S.length (qp_so S d x)) := by
  intro r c hr hc
  rw [qp_tab_len] at hr
  rw [qp_tab_g hr]
  have h := qp_iv_ok d (fun t => qp_g S t x) hr
  have h2 := P.2 _ c h.1 hc
  rw [h.2] at h2
  exact h2
theorem qp_ltne {a b : Int32} (h : a < b) : ¬ a = b := by
  intro e
  subst e
  rw [qp_i32lt] at h
  omega
/-- the other way to test which row goes before -/
theorem qp_bf_x {c : Int32} {v : Nat → Int32} {i j : Nat} (hc : c = 4 ∨ c = 2) : qp_bf (c = 4) v i j ↔ (v j = v i ∧ j < i) ∨ (¬ v j = v i ∧ qp_ful (v j) c (v i)) := by
  unfold qp_bf
  rcases hc with hc | hc
  · subst hc
    have e : qp_ful (v j) 4 (v i) = (v i < v j) := rfl
    rw [e]
    constructor
    · rintro (⟨_, h⟩ | ⟨h, _⟩ | h)
      · exact Or.inr ⟨fun z => qp_ltne h z.symm, h⟩
      · exact absurd rfl h
      · exact Or.inl h
    · rintro (h | ⟨_, h⟩)
      · exact Or.inr (Or.inr h)
      · exact Or.inl ⟨rfl, h⟩
  · subst hc
    have e : qp_ful (v j) 2 (v i) = (v j < v i) := rfl
    rw [e]
    constructor
    · rintro (⟨h, _⟩ | ⟨_, h⟩ | h)
      · exact absurd h (by decide)
      · exact Or.inr ⟨qp_ltne h, h⟩
      · exact Or.inl h
    · rintro (h | ⟨_, h⟩)
      · exact Or.inr (Or.inr h)
      · exact Or.inr (Or.inl ⟨by decide, h⟩)
