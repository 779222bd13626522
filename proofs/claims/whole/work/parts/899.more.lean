/-! PURE: more -/
theorem p_eE {α : Type} {d e : Int32} (hd : p_in d 0 999) (R K : α) : (if p_in e 0 999 then (if e ≤ d then R else K) else R) = if p_in e (d.toInt + 1) 999 then K else R := by
  have h0 := hd.1
  by_cases q : p_in e 0 999
  · rw [if_pos q]
    by_cases q2 : e ≤ d
    · rw [if_pos q2, if_neg (fun z => by rw [p_le] at q2; have := z.1; omega)]
    · rw [if_neg q2, if_pos ⟨by rw [p_le] at q2; omega, q.2⟩]
  · rw [if_neg q, if_neg (fun z => q ⟨by have := z.1; omega, z.2⟩)]
theorem s_27 : zs_27 Inv0 := by
  rintro μ ⟨A, hw, hC, hM⟩ x d w p h e g f c
  by_cases h1 : p_in x 0 3
  case neg => exact p_look hw hC hM (r := -1001) (by unfold f_X4_more; rw [p_isLand4, z_b2_s, p_if0, if_neg h1]) (fun ν hν => by unfold f_X5_more; rw [p_isLand5, z_b2_s, p_if0, if_neg h1])
  have F4 : f_X4_more x d w p h e g f c μ = if p = -1 ∨ p_in p 0 5 then g_X4_more_21 x d w p h e g f c μ else some (-1001, μ) := by
    unfold f_X4_more
    rw [p_isLand4, z_b2_s, p_if0, if_pos h1, p_isHolder4, z_b2_s, p_if0]
    by_cases q : p = -1
    · rw [if_pos q, if_pos (Or.inl q)]
    · rw [if_neg q]
      by_cases q2 : p_in p 0 5
      · rw [if_pos q2, if_pos (Or.inr q2)]
      · rw [if_neg q2, if_neg (fun z => z.elim q q2)]
  have F5 : ∀ ν, f_X5_more x d w p h e g f c ν = if p = -1 ∨ p_in p 0 5 then g_X5_more_21 x d w p h e g f c ν else some (-1001, ν) := by
    intro ν
    unfold f_X5_more
    rw [p_isLand5, z_b2_s, p_if0, if_pos h1, p_isHolder5, z_b2_s, p_if0]
    by_cases q : p = -1
    · rw [if_pos q, if_pos (Or.inl q)]
    · rw [if_neg q]
      by_cases q2 : p_in p 0 5
      · rw [if_pos q2, if_pos (Or.inr q2)]
      · rw [if_neg q2, if_neg (fun z => z.elim q q2)]
  by_cases hp : p = -1 ∨ p_in p 0 5
  case neg => exact p_look hw hC hM (r := -1001) (by rw [F4, if_neg hp]) (fun ν hν => by rw [F5 ν, if_neg hp])
  by_cases h2 : p_in h 0 5
  case neg => exact p_look hw hC hM (r := -1001) (by rw [F4, if_pos hp]; unfold g_X4_more_21; rw [p_isHolder4, z_b2_s, p_if0, if_neg h2]) (fun ν hν => by rw [F5 ν, if_pos hp]; unfold g_X5_more_21; rw [p_isHolder5, z_b2_s, p_if0, if_neg h2])
  by_cases h3 : p_in d 0 999
  case neg => exact p_look hw hC hM (r := -1002) (by rw [F4, if_pos hp]; unfold g_X4_more_21; rw [p_isHolder4, z_b2_s, p_if0, if_pos h2, p_isDay4, z_b2_s, p_if0, if_neg h3]) (fun ν hν => by rw [F5 ν, if_pos hp]; unfold g_X5_more_21; rw [p_isHolder5, z_b2_s, p_if0, if_pos h2, p_isGood5, z_b2_s, p_if0, if_neg (fun z => h3 z.1)])
  by_cases h4 : p_in w 0 1
  case neg => exact p_look hw hC hM (r := -1002) (by rw [F4, if_pos hp]; unfold g_X4_more_21; rw [p_isHolder4, z_b2_s, p_if0, if_pos h2, p_isDay4, z_b2_s, p_if0, if_pos h3, p_isWay4, z_b2_s, p_if0, if_neg h4]) (fun ν hν => by rw [F5 ν, if_pos hp]; unfold g_X5_more_21; rw [p_isHolder5, z_b2_s, p_if0, if_pos h2, p_isGood5, z_b2_s, p_if0, if_neg (fun z => h4 z.2)])
  have d0 := h3.1
  have d9 := h3.2
  have ed : (d + 1).toInt = d.toInt + 1 := by rw [p_addI (by rw [p_z1]; omega) (by rw [p_z1]; omega), p_z1]
  have edl : ((d + 1).toInt64).toInt = d.toInt + 1 := by rw [Int32.toInt_toInt64, ed]
  have G4 : g_X4_more_21 x d w p h e g f c μ = if p_in e (d.toInt + 1) 999 then (if p_in g 1 999 then (if p_in f 0 9999 then (if p_in c 0 100 then (if v_can A.1 d f then (if z_in x 4 then ((μ.2.2 1 x.toNatClampNeg).bind fun r43 => (z_b1 (f_X2_run (r43) (4) (d) (w) μ) fun μ47 => (g_X4_more_144 z_N (x) (d) (w) (p) (h) (e) (g) (f) (c) ((0 : Int32)) μ47))) else none) else some (-1003, μ)) else some (-1002, μ)) else some (-1002, μ)) else some (-1002, μ)) else some (-1002, μ) := by
    unfold g_X4_more_21
    rw [p_isHolder4, z_b2_s, p_if0, if_pos h2, p_isDay4, z_b2_s, p_if0, if_pos h3, p_isWay4, z_b2_s, p_if0, if_pos h4, p_isDay4, z_b2_s, p_if0, p_eE h3, p_rB 1 999 (by decide) (by decide), p_rA 0 9999 (by decide) (by decide), p_rB 0 100 (by decide) (by decide), p_can4 hw hC, z_b2_s, p_if0]
  have G5 : ∀ ν, InvM A ν → g_X5_more_21 x d w p h e g f c ν = if p_in e (d.toInt + 1) 999 then (if p_in g 1 999 then (if p_in f 0 9999 then (if p_in c 0 100 then (if v_can A.1 d f then (z_b1 (f_X5_payOut (x) (d) (w) ν) fun μ53 => (g_X5_more_181 z_N (x) (d) (w) (p) (h) (e) (g) (f) (c) ((0 : Int32)) μ53)) else some (-1003, ν)) else some (-1002, ν)) else some (-1002, ν)) else some (-1002, ν)) else some (-1002, ν) := by
    intro ν hν
    unfold g_X5_more_21
    rw [p_isHolder5, z_b2_s, p_if0, if_pos h2, p_isGood5, z_b2_s, p_if0, if_pos ⟨h3, h4⟩, p_in5k (d.toInt + 1) 999 edl (by decide), z_b2_s, p_if0, p_in5k 1 999 (by decide) (by decide), z_b2_s, p_if0, p_in5k 0 9999 (by decide) (by decide), z_b2_s, p_if0, p_in5k 0 100 (by decide) (by decide), z_b2_s, p_if0, p_can5 hw hν h3]
  by_cases h5 : p_in e (d.toInt + 1) 999
  case neg => exact p_look hw hC hM (r := -1002) (by rw [F4, if_pos hp, G4, if_neg h5]) (fun ν hν => by rw [F5 ν, if_pos hp, G5 ν hν, if_neg h5])
  by_cases h6 : p_in g 1 999
  case neg => exact p_look hw hC hM (r := -1002) (by rw [F4, if_pos hp, G4, if_pos h5, if_neg h6]) (fun ν hν => by rw [F5 ν, if_pos hp, G5 ν hν, if_pos h5, if_neg h6])
  by_cases h7 : p_in f 0 9999
  case neg => exact p_look hw hC hM (r := -1002) (by rw [F4, if_pos hp, G4, if_pos h5, if_pos h6, if_neg h7]) (fun ν hν => by rw [F5 ν, if_pos hp, G5 ν hν, if_pos h5, if_pos h6, if_neg h7])
  by_cases h8 : p_in c 0 100
  case neg => exact p_look hw hC hM (r := -1002) (by rw [F4, if_pos hp, G4, if_pos h5, if_pos h6, if_pos h7, if_neg h8]) (fun ν hν => by rw [F5 ν, if_pos hp, G5 ν hν, if_pos h5, if_pos h6, if_pos h7, if_neg h8])
  by_cases h9 : v_can A.1 d f
  case neg => exact p_look hw hC hM (r := -1003) (by rw [F4, if_pos hp, G4, if_pos h5, if_pos h6, if_pos h7, if_pos h8, if_neg h9]) (fun ν hν => by rw [F5 ν, if_pos hp, G5 ν hν, if_pos h5, if_pos h6, if_pos h7, if_pos h8, if_neg h9])
  rw [if_pos h5, if_pos h6, if_pos h7, if_pos h8, if_pos h9] at G4
  obtain ⟨c1, c2, c3, c4⟩ := h9
  obtain ⟨n, rfl, hn, hn'⟩ := p_nat h1
  have hn4 : n < 4 := by omega
  have wl := hw.2.2.2.2 n hn4
  obtain ⟨w, rfl, hw2, hw2'⟩ := p_nat h4
  have hway : w < 2 := by omega
  have hN : z_N = 5000 := rfl
  have he : p_in e 0 999 := ⟨by have := h5.1; omega, h5.2⟩
  have hd1 : p_in (d + 1) 0 999 := ⟨by rw [ed]; omega, by rw [ed]; have := h5.1; have := h5.2; omega⟩
  have s1 := hw.1.2.2.2.2.1 1 (by decide)
  have hf : p_in (A.1.2.2 10 1 + f) 0 9999 := by
    have q1 := s1.1
    have q2 := s1.2
    have q3 := h7.1
    have q4 := h7.2
    have ea : (A.1.2.2 10 1 + f).toInt = (A.1.2.2 10 1).toInt + f.toInt := p_addI (by omega) (by omega)
    refine ⟨by rw [ea]; omega, ?_⟩
    rw [p_lt, show (9999 : Int32).toInt = 9999 by decide] at c4
    omega
  have hs' := w_v hw.1 c2 c3 hd1 he h2 h6 hf
  obtain ⟨o1, L, ln, μ1, e1, e2, r2, u2, i2⟩ := k_run hw hC hn4 h3 hway (Or.inl rfl) hw.1 hC.1
  obtain ⟨μ2, i3, u3, g3, e3⟩ := p_m144 (μ := μ1) hw rfl (nI n) d (nI w) p h e g f c 6 0 z_N μ1 (by omega) (by omega) i2 r2.out (z_un.rf _ _) (fun j hj => by omega)
  obtain ⟨μ3, e4, c5, u4, i4⟩ := p_supp hw i3 h g f hd1 he c2 c3
  obtain ⟨o2, L2, ln2, μ4, e5, e6, r5, u5, i5⟩ := k_run hw i4 hn4 he hway (Or.inr rfl) hs' c5
  have hX : ∀ a, a < 26 → 15 ≤ a → a ∉ xR := by decide
  have c6 : c_ship μ4 15 (v_s A.1 (d + 1) e h g f) := c5.cg (fun i q1 q2 => u5.1 i (hX i (by omega) q1))
  have g5 : ∀ j, j < 6 → μ4.1 50 j = nI (v_hd (y_of (A.2.2.2.2.2 n) A.1 d) w A.1 j) := fun j hj => by rw [u5.1 50 (by decide), u4.1 50 (by decide)]; exact g3 j hj
  have ut : z_un scC μ μ4 := (((u2.mono xR_sc).tr u3).tr (u4.mono (by decide))).tr (u5.mono xR_sc)
  rw [nI_0] at e3
  refine p_step hC hM hw (r := if p = -1 then v_wi (v_hd (y_of (A.2.2.2.2.2 n) (v_s A.1 (d + 1) e h g f) e) w (v_s A.1 (d + 1) e h g f)) (v_hd (y_of (A.2.2.2.2.2 n) A.1 d) w A.1) c 6 else v_wp (v_hd (y_of (A.2.2.2.2.2 n) (v_s A.1 (d + 1) e h g f) e) w (v_s A.1 (d + 1) e h g f)) (v_hd (y_of (A.2.2.2.2.2 n) A.1 d) w A.1) c p 6) ⟨μ4, ?_, i5, z_hi_un ut⟩ (fun ν hν => ?_)
  · rw [F4, if_pos hp, G4, p_g hn4 (by decide), nI_clamp hn', e1, Option.bind_some, e2, z_b1_s, e3, e4, z_b1_s, p_g hn4 (by decide), nI_clamp hn', e5, Option.bind_some, e6, z_b1_s]
    by_cases q : p = -1
    · rw [if_pos q, if_pos q, p_wise4 hs' rfl r5.out c6 g5, z_b2_s]
    · obtain ⟨k, rfl, hk, hk'⟩ := p_nat (hp.resolve_left q)
      rw [if_neg q, if_neg q, p_worth4 hs' rfl r5.out c6 g5 c (by omega), z_b2_s, v_wp_at _ _ _ (by omega) 6 (Nat.le_refl _) (by omega)]
  · obtain ⟨ν1, x1, v1, m1⟩ := k_out hw.1 wl hn4 (hν.ctx hw hn4) d hway
    rw [y_og_0] at m1
    obtain ⟨ν2, j2, v2, g6, x2⟩ := p_m181 (ν := ν1) hw rfl (nI n) d (nI w) p h e g f c 6 0 z_N ν1 (by omega) (by omega) (hν.scr (v1.mono xO_sc)) m1 (z_un.rf _ _) (fun j hj => by omega)
    obtain ⟨ν3, x3, j3, l3⟩ := p_m5end hw j2 hn4 hway c p c2 c3 hd1 he h2 h6 hf g6
    have l12 := z_lo_un ((v1.mono xO_sc).tr v2)
    refine ⟨ν3, ?_, j3, ⟨fun i hi => (l3.1 i hi).trans (l12.1 i hi), l3.2.trans l12.2⟩⟩
    rw [nI_0] at x2
    rw [F5 ν, if_pos hp, G5 ν hν, if_pos h5, if_pos h6, if_pos h7, if_pos h8, if_pos ⟨c1, c2, c3, c4⟩, x1, z_b1_s, x2, x3]
