/-! PURE: paid, left, order, has -/
theorem p_rC {α : Type} {L H : Int32} (m n : Int) (hL : L.toInt = m) (hH : H.toInt = n + 1) (x : Int32) (a b : α) : (if x < L then a else if x < H then b else a) = if p_in x m n then b else a := by
  unfold p_in
  by_cases h1 : x < L
  · rw [if_pos h1]
    rw [p_lt, hL] at h1
    rw [if_neg (by omega)]
  · rw [if_neg h1]
    rw [p_lt, hL] at h1
    by_cases h2 : x < H
    · rw [if_pos h2]
      rw [p_lt, hH] at h2
      rw [if_pos (by omega)]
    · rw [if_neg h2]
      rw [p_lt, hH] at h2
      rw [if_neg (by omega)]
theorem s_18 : zs_18 Inv0 := by
  rintro μ ⟨A, hw, hC, hM⟩ x d w c
  by_cases h1 : p_in x 0 3
  case neg => exact p_look hw hC hM (r := -1001) (by unfold f_X4_paid; rw [p_isLand4, z_b2_s, p_if0, if_neg h1]) (fun ν hν => by unfold f_X5_paid; rw [p_isLand5, z_b2_s, p_if0, if_neg h1])
  by_cases h2 : p_in c 0 ((A.1.2.1 : Int) - 1)
  case neg => exact p_look hw hC hM (r := -1001) (by unfold f_X4_paid; rw [p_isLand4, z_b2_s, p_if0, if_pos h1, p_isClaimC hw hC, z_b2_s, p_if0, if_neg h2]) (fun ν hν => by unfold f_X5_paid; rw [p_isLand5, z_b2_s, p_if0, if_pos h1, p_isClaimM hw hν, z_b2_s, p_if0, if_neg h2])
  by_cases h3 : p_in d 0 999
  case neg => exact p_look hw hC hM (r := -1002) (by unfold f_X4_paid; rw [p_isLand4, z_b2_s, p_if0, if_pos h1, p_isClaimC hw hC, z_b2_s, p_if0, if_pos h2, p_isDay4, z_b2_s, p_if0, if_neg h3]) (fun ν hν => by unfold f_X5_paid; rw [p_isLand5, z_b2_s, p_if0, if_pos h1, p_isClaimM hw hν, z_b2_s, p_if0, if_pos h2, p_isGood5, z_b2_s, p_if0, if_neg (fun h => h3 h.1)])
  by_cases h4 : p_in w 0 1
  case neg => exact p_look hw hC hM (r := -1002) (by unfold f_X4_paid; rw [p_isLand4, z_b2_s, p_if0, if_pos h1, p_isClaimC hw hC, z_b2_s, p_if0, if_pos h2, p_isDay4, z_b2_s, p_if0, if_pos h3, p_isWay4, z_b2_s, p_if0, if_neg h4]) (fun ν hν => by unfold f_X5_paid; rw [p_isLand5, z_b2_s, p_if0, if_pos h1, p_isClaimM hw hν, z_b2_s, p_if0, if_pos h2, p_isGood5, z_b2_s, p_if0, if_neg (fun h => h4 h.2)])
  obtain ⟨n, rfl, hn, hn'⟩ := p_nat h1
  have hn4 : n < 4 := by omega
  have wl := hw.2.2.2.2 n hn4
  obtain ⟨c, rfl, hc, hc'⟩ := p_nat h2
  have hcc : c < A.1.2.1 := by omega
  have h14 : A.1.2.1 ≤ 14 := hw.1.2.1
  obtain ⟨w, rfl, hw2, hw2'⟩ := p_nat h4
  have hway : w < 2 := by omega
  obtain ⟨o1, L, ln, μ', e1, e2, c2, u2, i2⟩ := k_run hw hC hn4 h3 hway (Or.inl rfl) hw.1 hC.1
  have co := c2.out
  refine p_step hC hM hw (r := nI (q_pd (y_of (A.2.2.2.2.2 n) A.1 d) w c)) ⟨μ', ?_, i2, z_hi_un (u2.mono xR_sc)⟩ (fun ν hν => ?_)
  · unfold f_X4_paid
    rw [p_isLand4, z_b2_s, p_if0, if_pos h1, p_isClaimC hw hC, z_b2_s, p_if0, if_pos h2, p_isDay4, z_b2_s, p_if0, if_pos h3, p_isWay4, z_b2_s, p_if0, if_pos h4]
    rw [p_g hn4 (by decide), nI_clamp hn', e1, Option.bind_some, e2, z_b1_s, p_paidTo (w_of hw.1 wl d) co hcc, z_b2_s]
  · obtain ⟨ν', e3, u3, m3⟩ := k_out hw.1 wl hn4 (hν.ctx hw hn4) d hway
    rw [y_og_0] at m3
    refine ⟨ν', ?_, hν.scr (u3.mono xO_sc), z_lo_un (u3.mono xO_sc)⟩
    unfold f_X5_paid
    rw [p_isLand5, z_b2_s, p_if0, if_pos h1, p_isClaimM hw hν, z_b2_s, p_if0, if_pos h2, p_isGood5, z_b2_s, p_if0, if_pos ⟨h3, h4⟩]
    rw [e3, z_b1_s, p_g (show c < 15 by omega) (by decide), nI_clamp hc', m3.1 c hcc]
theorem s_19 : zs_19 Inv0 := by
  rintro μ ⟨A, hw, hC, hM⟩ x d w f
  by_cases h1 : p_in x 0 3
  case neg => exact p_look hw hC hM (r := -1001) (by unfold f_X4_left; rw [p_isLand4, z_b2_s, p_if0, if_neg h1]) (fun ν hν => by unfold f_X5_left; rw [p_isLand5, z_b2_s, p_if0, if_neg h1])
  by_cases h2 : p_in f 0 4
  case neg => exact p_look hw hC hM (r := -1001) (by unfold f_X4_left; rw [p_isLand4, z_b2_s, p_if0, if_pos h1, p_isFund4, z_b2_s, p_if0, if_neg h2]) (fun ν hν => by unfold f_X5_left; rw [p_isLand5, z_b2_s, p_if0, if_pos h1, p_isFund5, z_b2_s, p_if0, if_neg h2])
  by_cases h3 : p_in d 0 999
  case neg => exact p_look hw hC hM (r := -1002) (by unfold f_X4_left; rw [p_isLand4, z_b2_s, p_if0, if_pos h1, p_isFund4, z_b2_s, p_if0, if_pos h2, p_isDay4, z_b2_s, p_if0, if_neg h3]) (fun ν hν => by unfold f_X5_left; rw [p_isLand5, z_b2_s, p_if0, if_pos h1, p_isFund5, z_b2_s, p_if0, if_pos h2, p_isGood5, z_b2_s, p_if0, if_neg (fun h => h3 h.1)])
  by_cases h4 : p_in w 0 1
  case neg => exact p_look hw hC hM (r := -1002) (by unfold f_X4_left; rw [p_isLand4, z_b2_s, p_if0, if_pos h1, p_isFund4, z_b2_s, p_if0, if_pos h2, p_isDay4, z_b2_s, p_if0, if_pos h3, p_isWay4, z_b2_s, p_if0, if_neg h4]) (fun ν hν => by unfold f_X5_left; rw [p_isLand5, z_b2_s, p_if0, if_pos h1, p_isFund5, z_b2_s, p_if0, if_pos h2, p_isGood5, z_b2_s, p_if0, if_neg (fun h => h4 h.2)])
  obtain ⟨n, rfl, hn, hn'⟩ := p_nat h1
  have hn4 : n < 4 := by omega
  have wl := hw.2.2.2.2 n hn4
  obtain ⟨f, rfl, hf, hf'⟩ := p_nat h2
  have hf5 : f < 5 := by omega
  obtain ⟨w, rfl, hw2, hw2'⟩ := p_nat h4
  have hway : w < 2 := by omega
  obtain ⟨o1, L, ln, μ', e1, e2, c2, u2, i2⟩ := k_run hw hC hn4 h3 hway (Or.inl rfl) hw.1 hC.1
  have co := c2.out
  refine p_step hC hM hw (r := nI (q_lf (y_of (A.2.2.2.2.2 n) A.1 d) w f)) ⟨μ', ?_, i2, z_hi_un (u2.mono xR_sc)⟩ (fun ν hν => ?_)
  · unfold f_X4_left
    rw [p_isLand4, z_b2_s, p_if0, if_pos h1, p_isFund4, z_b2_s, p_if0, if_pos h2, p_isDay4, z_b2_s, p_if0, if_pos h3, p_isWay4, z_b2_s, p_if0, if_pos h4]
    rw [p_g hn4 (by decide), nI_clamp hn', e1, Option.bind_some, e2, z_b1_s, p_g hf5 (by decide), nI_clamp hf', co.2.1 f hf5]
  · obtain ⟨ν', e3, u3, m3⟩ := k_out hw.1 wl hn4 (hν.ctx hw hn4) d hway
    rw [y_og_0] at m3
    refine ⟨ν', ?_, hν.scr (u3.mono xO_sc), z_lo_un (u3.mono xO_sc)⟩
    unfold f_X5_left
    rw [p_isLand5, z_b2_s, p_if0, if_pos h1, p_isFund5, z_b2_s, p_if0, if_pos h2, p_isGood5, z_b2_s, p_if0, if_pos ⟨h3, h4⟩]
    rw [e3, z_b1_s, p_g hf5 (by decide), nI_clamp hf', m3.2.1 f hf5]
theorem s_21 : zs_21 Inv0 := by
  rintro μ ⟨A, hw, hC, hM⟩ x d w f
  by_cases h1 : p_in x 0 3
  case neg => exact p_look hw hC hM (r := -1001) (by unfold f_X4_order; rw [p_isLand4, z_b2_s, p_if0, if_neg h1]) (fun ν hν => by unfold f_X5_order; rw [p_isLand5, z_b2_s, p_if0, if_neg h1])
  by_cases h2 : p_in f 0 4
  case neg => exact p_look hw hC hM (r := -1001) (by unfold f_X4_order; rw [p_isLand4, z_b2_s, p_if0, if_pos h1, p_rC 0 4 (by decide) (by decide), if_neg h2]) (fun ν hν => by unfold f_X5_order; rw [p_isLand5, z_b2_s, p_if0, if_pos h1, p_isFund5, z_b2_s, p_if0, if_neg h2])
  by_cases h3 : p_in d 0 999
  case neg => exact p_look hw hC hM (r := -1002) (by unfold f_X4_order; rw [p_isLand4, z_b2_s, p_if0, if_pos h1, p_rC 0 4 (by decide) (by decide), if_pos h2, p_isDay4, z_b2_s, p_if0, if_neg h3]) (fun ν hν => by unfold f_X5_order; rw [p_isLand5, z_b2_s, p_if0, if_pos h1, p_isFund5, z_b2_s, p_if0, if_pos h2, p_isGood5, z_b2_s, p_if0, if_neg (fun h => h3 h.1)])
  by_cases h4 : p_in w 0 1
  case neg => exact p_look hw hC hM (r := -1002) (by unfold f_X4_order; rw [p_isLand4, z_b2_s, p_if0, if_pos h1, p_rC 0 4 (by decide) (by decide), if_pos h2, p_isDay4, z_b2_s, p_if0, if_pos h3, p_isWay4, z_b2_s, p_if0, if_neg h4]) (fun ν hν => by unfold f_X5_order; rw [p_isLand5, z_b2_s, p_if0, if_pos h1, p_isFund5, z_b2_s, p_if0, if_pos h2, p_isGood5, z_b2_s, p_if0, if_neg (fun h => h4 h.2)])
  obtain ⟨n, rfl, hn, hn'⟩ := p_nat h1
  have hn4 : n < 4 := by omega
  have wl := hw.2.2.2.2 n hn4
  obtain ⟨f, rfl, hf, hf'⟩ := p_nat h2
  have hf5 : f < 5 := by omega
  obtain ⟨w, rfl, hw2, hw2'⟩ := p_nat h4
  have hway : w < 2 := by omega
  obtain ⟨o1, L, ln, μ', e1, e2, c2, u2, i2⟩ := k_run hw hC hn4 h3 hway (Or.inl rfl) hw.1 hC.1
  have co := c2.out
  refine p_step hC hM hw (r := nI (q_o (y_of (A.2.2.2.2.2 n) A.1 d) w f)) ⟨μ', ?_, i2, z_hi_un (u2.mono xR_sc)⟩ (fun ν hν => ?_)
  · unfold f_X4_order
    rw [p_isLand4, z_b2_s, p_if0, if_pos h1, p_rC 0 4 (by decide) (by decide), if_pos h2, p_isDay4, z_b2_s, p_if0, if_pos h3, p_isWay4, z_b2_s, p_if0, if_pos h4]
    rw [p_g hn4 (by decide), nI_clamp hn', e1, Option.bind_some, e2, z_b1_s, p_g hf5 (by decide), nI_clamp hf', co.2.2.1 f hf5]
  · obtain ⟨ν', e3, u3, m3⟩ := k_out hw.1 wl hn4 (hν.ctx hw hn4) d hway
    rw [y_og_0] at m3
    refine ⟨ν', ?_, hν.scr (u3.mono xO_sc), z_lo_un (u3.mono xO_sc)⟩
    unfold f_X5_order
    rw [p_isLand5, z_b2_s, p_if0, if_pos h1, p_isFund5, z_b2_s, p_if0, if_pos h2, p_isGood5, z_b2_s, p_if0, if_pos ⟨h3, h4⟩]
    rw [e3, z_b1_s, p_g hf5 (by decide), nI_clamp hf', m3.2.2.1 f hf5]
theorem s_20 : zs_20 Inv0 := by
  rintro μ ⟨A, hw, hC, hM⟩ x d w h
  by_cases h1 : p_in x 0 3
  case neg => exact p_look hw hC hM (r := -1001) (by unfold f_X4_has; rw [p_isLand4, z_b2_s, p_if0, if_neg h1]) (fun ν hν => by unfold f_X5_has; rw [p_isLand5, z_b2_s, p_if0, if_neg h1])
  have F4 : f_X4_has x d w h μ = if h = -1 ∨ p_in h 0 5 then g_X4_has_25 x d w h μ else some (-1001, μ) := by
    unfold f_X4_has
    rw [p_isLand4, z_b2_s, p_if0, if_pos h1, p_isHolder4, z_b2_s, p_if0]
    by_cases q : h = -1
    · rw [if_pos q, if_pos (Or.inl q)]
    · rw [if_neg q]
      by_cases q2 : p_in h 0 5
      · rw [if_pos q2, if_pos (Or.inr q2)]
      · rw [if_neg q2, if_neg (fun z => z.elim q q2)]
  have F5 : ∀ ν, f_X5_has x d w h ν = if h = -1 ∨ p_in h 0 5 then g_X5_has_25 x d w h ν else some (-1001, ν) := by
    intro ν
    unfold f_X5_has
    rw [p_isLand5, z_b2_s, p_if0, if_pos h1, p_isHolder5, z_b2_s, p_if0]
    by_cases q : h = -1
    · rw [if_pos q, if_pos (Or.inl q)]
    · rw [if_neg q]
      by_cases q2 : p_in h 0 5
      · rw [if_pos q2, if_pos (Or.inr q2)]
      · rw [if_neg q2, if_neg (fun z => z.elim q q2)]
  by_cases h2 : h = -1 ∨ p_in h 0 5
  case neg => exact p_look hw hC hM (r := -1001) (by rw [F4, if_neg h2]) (fun ν hν => by rw [F5, if_neg h2])
  by_cases h3 : p_in d 0 999
  case neg => exact p_look hw hC hM (r := -1002) (by rw [F4, if_pos h2]; unfold g_X4_has_25; rw [p_isDay4, z_b2_s, p_if0, if_neg h3]) (fun ν hν => by rw [F5, if_pos h2]; unfold g_X5_has_25; rw [p_isGood5, z_b2_s, p_if0, if_neg (fun z => h3 z.1)])
  by_cases h4 : p_in w 0 1
  case neg => exact p_look hw hC hM (r := -1002) (by rw [F4, if_pos h2]; unfold g_X4_has_25; rw [p_isDay4, z_b2_s, p_if0, if_pos h3, p_isWay4, z_b2_s, p_if0, if_neg h4]) (fun ν hν => by rw [F5, if_pos h2]; unfold g_X5_has_25; rw [p_isGood5, z_b2_s, p_if0, if_neg (fun z => h4 z.2)])
  obtain ⟨n, rfl, hn, hn'⟩ := p_nat h1
  have hn4 : n < 4 := by omega
  have wl := hw.2.2.2.2 n hn4
  obtain ⟨w, rfl, hw2, hw2'⟩ := p_nat h4
  have hway : w < 2 := by omega
  obtain ⟨o1, L, ln, μ', e1, e2, c2, u2, i2⟩ := k_run hw hC hn4 h3 hway (Or.inl rfl) hw.1 hC.1
  have co := c2.out
  refine p_step hC hM hw (r := if h = -1 then nI (sm A.1.2.1 (q_pd (y_of (A.2.2.2.2.2 n) A.1 d) w)) else nI (q_hd (y_of (A.2.2.2.2.2 n) A.1 d) w A.1 h)) ⟨μ', ?_, i2, z_hi_un (u2.mono xR_sc)⟩ (fun ν hν => ?_)
  · have c5 : (5 : Int32).toNatClampNeg = 5 := by decide
    rw [F4, if_pos h2]
    unfold g_X4_has_25
    rw [p_isDay4, z_b2_s, p_if0, if_pos h3, p_isWay4, z_b2_s, p_if0, if_pos h4, p_g hn4 (by decide), nI_clamp hn', e1, Option.bind_some, e2, z_b1_s, p_hold hw.1 rfl co i2.1, z_b2_s]
    unfold f_X2_paidInAll
    rw [if_pos (show z_in (5 : Int32) 6 by decide), z_b2_s, c5, co.2.2.2.1]
    by_cases q : h = -1
    · rw [if_pos q, if_pos q]
      rfl
    · rw [if_neg q, if_neg q]
  · obtain ⟨ν', e3, u3, m3⟩ := k_out hw.1 wl hn4 (hν.ctx hw hn4) d hway
    rw [y_og_0] at m3
    refine ⟨ν', ?_, hν.scr (u3.mono xO_sc), z_lo_un (u3.mono xO_sc)⟩
    rw [F5, if_pos h2]
    unfold g_X5_has_25
    rw [p_isGood5, z_b2_s, p_if0, if_pos ⟨h3, h4⟩, e3, z_b1_s, p_hav hw.1 rfl m3 (hν.scr (u3.mono xO_sc)).1, z_b2_s]
