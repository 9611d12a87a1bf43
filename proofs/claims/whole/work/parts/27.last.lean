/-! run -/
theorem i_vc_run {k : Nat} {u : SX} {v : SY} (I : i_Rel k u v) (hk : k + 5 ≤ 2561) (v1 : Int32) : wpX_run (fun r u' => wpY_run (fun r' v' => r' = r ∧ i_Rel (k + 5) u' v') v v1) u v1 := by
  have J := I
  obtain ⟨t, n, h, c, tw, th, tb, tb', nk, nl, nr, nw, us, us', ca, cb, cc, nn, bo, lh, lc, rs, p1, p2, p3, bo', ct, vl, rs', rfl, rfl, ht1, ht4, hW, hT, hN, hR⟩ := I
  have hn := hN.1
  have hus := hN.2.1
  rcases qp_ix2 v1 (n := n) (by omega) with hv | ⟨i, hi, rfl⟩
  · unfold wpX_run
    try dsimp only
    refine x_hasN_n hv (br_t rfl ?_)
    unfold wpY_run
    try dsimp only
    exact y_noN_n hv (br_f (by decide) ⟨rfl, J⟩)
  · have ok := hN.2.2
    obtain ⟨w, hw1, hw6, ew⟩ := qp_ND_w hN hi
    have hWs : ∀ j, j < n → (nw j).toNatClampNeg ≤ 6 := fun j hj => by
      obtain ⟨w', _, h6', e'⟩ := qp_ND_w hN hj
      rw [qp_cl e' (by omega)]; exact h6'
    have hTh : ∀ s, s < 4 → ∃ r : Nat, r ≤ 10 ∧ th s = nI r := fun s hs => by
      obtain ⟨r, h1, h2, _⟩ := hT s hs
      exact ⟨r, h1, h2⟩
    obtain ⟨bd, LL, hb, hl⟩ := qp_run_ex (th := th) (tb := tb) hn ok
    have hlen : ∀ j, j < n → bd j ≤ 24 → (LL j).length ≤ bd j := fun j hj h24 => qp_len hn ok hb hl j j (Nat.le_refl _) hj h24
    have h25 : ∀ j, j < n → bd j ≤ 25 := fun j hj => by
      rw [hb j hj]
      unfold qp_bs
      by_cases z : nk j = 0
      · rw [if_pos z]
        obtain ⟨wn, _, _, _, hq⟩ := ok j hj
        rcases hq with hq | hq | hq | hq | hq | hq | hq | hq | hq | hq | hq
        · obtain ⟨_, _, s, hs, hD, _⟩ := hq
          obtain ⟨r, h1, h2⟩ := hTh s hs
          rw [qp_cl hD (by omega), qp_cl h2 (by omega)]; omega
        all_goals (rw [z] at hq; exact absurd hq.1 (by decide))
      · rw [if_neg z]; exact qp_bl_25 _ _ _ _ _ _
    refine x_run hn hi ok hTh hb hl hlen hWs ew hw6 (fun z bo1 => ?_) (fun z bo1 lh1 lc1 rs1 hrs1 => ?_)
    · refine y_run hn hi ok hT hb hl hlen h25 hWs ew hw6 (fun _ bo2 ct2 vl2 => ⟨rfl, ?_⟩) (fun z2 => absurd z2 z)
      exact qp_mk ht1 ht4 hW hT hN hR
    · refine y_run hn hi ok hT hb hl hlen h25 hWs ew hw6 (fun z2 => absurd z z2) (fun _ bo2 ct2 vl2 rs2 hrs2 => ⟨rfl, ?_⟩)
      have hle := hlen i hi z
      exact qp_mk ht1 ht4 hW hT hN ⟨by omega, hw6, fun r q hr hq => (hrs1 r q hr hq).trans (hrs2 r q hr hq).symm⟩
