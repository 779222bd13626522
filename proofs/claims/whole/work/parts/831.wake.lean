/-! PURE: wake -/
theorem s_23 : zs_23 Inv0 := by
  rintro μ ⟨A, hw, hC, hM⟩ x d w c e
  by_cases h1 : p_in x 0 3
  case neg => exact p_look hw hC hM (r := -1001) (by unfold f_X4_wake; rw [p_isLand4, z_b2_s, p_if0, if_neg h1]) (fun ν hν => by unfold f_X5_wake; rw [p_isLand5, z_b2_s, p_if0, if_neg h1])
  by_cases h2 : p_in c 0 ((A.1.2.1 : Int) - 1)
  case neg => exact p_look hw hC hM (r := -1001) (by unfold f_X4_wake; rw [p_isLand4, z_b2_s, p_if0, if_pos h1, p_isClaimC hw hC, z_b2_s, p_if0, if_neg h2]) (fun ν hν => by unfold f_X5_wake; rw [p_isLand5, z_b2_s, p_if0, if_pos h1, p_isClaimM hw hν, z_b2_s, p_if0, if_neg h2])
  by_cases h3 : p_in d 0 999
  case neg => exact p_look hw hC hM (r := -1002) (by unfold f_X4_wake; rw [p_isLand4, z_b2_s, p_if0, if_pos h1, p_isClaimC hw hC, z_b2_s, p_if0, if_pos h2, p_isDay4, z_b2_s, p_if0, if_neg h3]) (fun ν hν => by unfold f_X5_wake; rw [p_isLand5, z_b2_s, p_if0, if_pos h1, p_isClaimM hw hν, z_b2_s, p_if0, if_pos h2, p_isGood5, z_b2_s, p_if0, if_neg (fun h => h3 h.1)])
  by_cases h4 : p_in w 0 1
  case neg => exact p_look hw hC hM (r := -1002) (by unfold f_X4_wake; rw [p_isLand4, z_b2_s, p_if0, if_pos h1, p_isClaimC hw hC, z_b2_s, p_if0, if_pos h2, p_isDay4, z_b2_s, p_if0, if_pos h3, p_isWay4, z_b2_s, p_if0, if_neg h4]) (fun ν hν => by unfold f_X5_wake; rw [p_isLand5, z_b2_s, p_if0, if_pos h1, p_isClaimM hw hν, z_b2_s, p_if0, if_pos h2, p_isGood5, z_b2_s, p_if0, if_neg (fun h => h4 h.2)])
  by_cases h5 : p_in e 0 999
  case neg => exact p_look hw hC hM (r := -1002) (by unfold f_X4_wake; rw [p_isLand4, z_b2_s, p_if0, if_pos h1, p_isClaimC hw hC, z_b2_s, p_if0, if_pos h2, p_isDay4, z_b2_s, p_if0, if_pos h3, p_isWay4, z_b2_s, p_if0, if_pos h4, p_isDay4, z_b2_s, p_if0, if_neg h5]) (fun ν hν => by unfold f_X5_wake; rw [p_isLand5, z_b2_s, p_if0, if_pos h1, p_isClaimM hw hν, z_b2_s, p_if0, if_pos h2, p_isGood5, z_b2_s, p_if0, if_pos ⟨h3, h4⟩, p_isDay5, z_b2_s, p_if0, if_neg h5])
  obtain ⟨n, rfl, hn, hn'⟩ := p_nat h1
  have hn4 : n < 4 := by omega
  have wl := hw.2.2.2.2 n hn4
  obtain ⟨c, rfl, hc, hc'⟩ := p_nat h2
  have hcc : c < A.1.2.1 := by omega
  have h14 : A.1.2.1 ≤ 14 := hw.1.2.1
  obtain ⟨w, rfl, hw2, hw2'⟩ := p_nat h4
  have hway : w < 2 := by omega
  have hs' : w_ship (A.1.1, A.1.2.1, a_up A.1.2.2 9 c e) := w_up hw.1 (Or.inr (Or.inr (Or.inr ⟨rfl, by have := h5.1; omega, h5.2⟩)))
  obtain ⟨μ1, e1, c1, u1, i1⟩ := k_bec hw hC
  obtain ⟨u2, i2⟩ := k_un i1 23 c e (by decide) (by decide) rfl
  have c2 : c_ship (z_si μ1 23 c e) 15 (A.1.1, A.1.2.1, a_up A.1.2.2 9 c e) := c_ship_upd c e 8 9 (by decide) c1
  obtain ⟨o1, L, ln, μ3, e3, e4, c4, u4, i4⟩ := k_run hw i2 hn4 h3 hway (Or.inr rfl) hs' c2
  have co := c4.out
  refine p_step hC hM hw (r := nI (q_pd (y_of (A.2.2.2.2.2 n) (A.1.1, A.1.2.1, a_up A.1.2.2 9 c e) d) w c)) ⟨μ3, ?_, i4, z_hi_un ((u1.tr u2).tr (u4.mono xR_sc))⟩ (fun ν hν => ?_)
  · unfold f_X4_wake
    rw [p_isLand4, z_b2_s, p_if0, if_pos h1, p_isClaimC hw hC, z_b2_s, p_if0, if_pos h2, p_isDay4, z_b2_s, p_if0, if_pos h3, p_isWay4, z_b2_s, p_if0, if_pos h4, p_isDay4, z_b2_s, p_if0, if_pos h5]
    rw [e1, z_b1_s, p_g (show c < 14 by omega) (by decide), z_st_s, nI_clamp hc', p_g hn4 (by decide), nI_clamp hn', e3, Option.bind_some, e4, z_b1_s, p_paidTo (w_of hs' wl d) co hcc, z_b2_s]
  · have m9 : ν.1 122 c = A.1.2.2 9 c := (hν.1.2.2.2.1 c hcc).2.2.2.2.2.2
    obtain ⟨ν', e5, u5, m5⟩ := k_out hs' wl hn4 ((hν.ctx hw hn4).up 122 9 (by omega) c e) d hway
    rw [y_og_0] at m5
    have u6 : z_un scM ν (z_si ν' 122 c (ν.1 122 c)) := (u5.mono xO_sc).re (by decide)
    refine ⟨_, ?_, hν.scr u6, z_lo_un u6⟩
    unfold f_X5_wake
    rw [p_isLand5, z_b2_s, p_if0, if_pos h1, p_isClaimM hw hν, z_b2_s, p_if0, if_pos h2, p_isGood5, z_b2_s, p_if0, if_pos ⟨h3, h4⟩, p_isDay5, z_b2_s, p_if0, if_pos h5]
    simp only [if_pos (p_zn (n := c) (N := 15) (by omega) (by decide)), z_lt_s, z_st_s, nI_clamp hc', e5, z_b1_s]
    rw [p_si_ne (show (126 : Nat) ≠ 122 by decide), m5.1 c hcc]
