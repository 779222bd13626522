/-! PURE: voyage, claim -/
theorem p_zn {n N : Nat} (h : n < N) (hN : N < 2 ^ 31) : z_in (nI n) N := vp_in_nI h hN
theorem nI_m1 (n : Nat) : nI (n + 1) - 1 = nI n := nI_pred n
theorem p_nI {n : Nat} (h : n < 2 ^ 31) : (nI n).toInt = (n : Int) := nI_toInt h
theorem c_ship_voy {μ : z_M} {o : Nat} {s : a_S} (x y : Int32) (h : c_ship μ o s) : c_ship (z_si (z_si (z_si μ (o + 1) s.1 x) (o + 2) s.1 y) o 0 (nI (s.1 + 1))) o (s.1 + 1, s.2.1, a_up (a_up s.2.2 1 s.1 x) 2 s.1 y) := by
  obtain ⟨h1, h2, h3, h4, h5, h6⟩ := h
  refine ⟨by simp [p_si], by simpa [p_si] using h2, fun k hk => ?_, fun k hk => ?_, fun k hk => ?_, fun k hk => ?_⟩
  · by_cases e : k = s.1
    · simp [p_si, a_up, e]
    · have hk : k < s.1 + 1 := hk
      have q := h3 k (by omega)
      simpa [p_si, a_up, e] using q
  · simpa [p_si, a_up] using h4 k hk
  · simpa [p_si, a_up] using h5 k hk
  · simpa [p_si, a_up] using h6 k hk
theorem m_ship_voy {μ : z_M} {s : a_S} (x y : Int32) (h : m_ship μ s) : m_ship (z_si (z_si (z_si μ 114 s.1 x) 115 s.1 y) 98 24 (nI (s.1 + 1))) (s.1 + 1, s.2.1, a_up (a_up s.2.2 1 s.1 x) 2 s.1 y) := by
  obtain ⟨h1, h2, h3, h4, h5, h6⟩ := h
  refine ⟨by simp [p_si], by simpa [p_si] using h2, fun k hk => ?_, fun k hk => ?_, fun k hk => ?_, fun k hk => ?_⟩
  · by_cases e : k = s.1
    · simp [p_si, a_up, e]
    · have hk : k < s.1 + 1 := hk
      have q := h3 k (by omega)
      simpa [p_si, a_up, e] using q
  · simpa [p_si, a_up] using h4 k hk
  · simpa [p_si, a_up] using h5 k hk
  · simpa [p_si, a_up] using h6 k hk
/-- the end of the last voyage -/
def a_last (s : a_S) : Int32 := if s.1 = 0 then -1 else s.2.2 2 (s.1 - 1)
theorem p_last4 {μ : z_M} {o : Nat} {s : a_S} (hw : w_ship s) (hs : c_ship μ o s) : f_X3_lastEnd o μ = some (a_last s, μ) := by
  have h6 : s.1 ≤ 6 := hw.1
  unfold f_X3_lastEnd a_last
  rw [hs.1]
  by_cases h0 : s.1 = 0
  · rw [h0, if_pos (fun h => absurd (by decide) h), if_pos (by decide), if_pos rfl]
  · obtain ⟨m, hm⟩ : ∃ m, s.1 = m + 1 := ⟨s.1 - 1, by omega⟩
    have hp : ¬ nI s.1 ≤ 0 := nI_nle (by omega) (by omega)
    have e : nI s.1 - 1 = nI m := by rw [hm]; exact nI_m1 m
    have hcond : ¬ nI s.1 ≤ 0 → z_in (nI s.1 - 1) 6 := fun _ => by rw [e]; exact p_zn (by omega) (by decide)
    rw [if_pos hcond, if_neg hp, if_neg h0, e, nI_clamp (by omega), (hs.2.2.1 m (by omega)).2, hm]
    rfl
theorem p_add4 {μ : z_M} {o : Nat} {s : a_S} (hw : w_ship s) (hs : c_ship μ o s) (x y : Int32) : f_X3_addVoyage o x y μ = if s.1 < 6 then some (nI s.1, z_si (z_si (z_si μ (o + 1) s.1 x) (o + 2) s.1 y) o 0 (nI (s.1 + 1))) else some (-1004, μ) := by
  have h6 : s.1 ≤ 6 := hw.1
  unfold f_X3_addVoyage
  rw [hs.1]
  by_cases h : s.1 < 6
  · have e1 : (z_si μ (o + 1) s.1 x).1 o 0 = nI s.1 := by rw [p_si_ne (by omega)]; exact hs.1
    have e2 : (z_si (z_si μ (o + 1) s.1 x) (o + 2) s.1 y).1 o 0 = nI s.1 := by rw [p_si_ne (by omega)]; exact e1
    have hz : z_in (nI s.1) 6 := vp_in_nI h (by decide)
    have hlt : nI s.1 < 6 := nI_lt (a := s.1) (b := 6) h (by decide)
    rw [if_pos hlt, if_pos hz, if_pos h, nI_clamp (by omega)]
    simp only [z_st]
    rw [e1, if_pos hz, nI_clamp (by omega), e2, nI_1, p_si_at, nI_m1]
  · have hlt : ¬ nI s.1 < 6 := nI_nlt (a := s.1) (b := 6) (by omega) (by omega)
    rw [if_neg hlt, if_neg h]
theorem s_6 : zs_6 Inv0 := by
  rintro μ ⟨A, hw, hC, hM⟩ x y
  by_cases h1 : p_in x 0 999
  · by_cases h2 : p_in y 0 999
    · by_cases h3 : x ≤ y
      · have hv6 : A.1.1 ≤ 6 := hw.1.1
        by_cases h4 : a_last A.1 < x
        · by_cases h5 : A.1.1 < 6
          · refine p_step (A' := ((A.1.1 + 1, A.1.2.1, a_up (a_up A.1.2.2 1 A.1.1 x) 2 A.1.1 y), A.2)) (r := nI A.1.1) hC hM ?_ ⟨z_si (z_si (z_si μ (4 + 1) A.1.1 x) (4 + 2) A.1.1 y) 4 0 (nI (A.1.1 + 1)), ?_, hC.ship (c_ship_voy x y hC.1) (fun i hi => ?_) rfl, fun i hi => ?_⟩ (fun ν hν => ⟨z_si (z_si (z_si ν 114 A.1.1 x) 115 A.1.1 y) 98 24 (nI (A.1.1 + 1)), ?_, hν.ship (m_ship_voy x y hν.1) (fun k hk => ?_) (fun i hi => ?_) ?_ ?_, fun i hi => ?_, rfl⟩)
            · obtain ⟨⟨a1, a2, a3, a4, a5, a6⟩, a7⟩ := hw
              refine ⟨⟨h5, a2, fun k hk => ?_, fun k hk => ?_, fun k hk => ?_, fun k hk => ?_⟩, a7⟩
              · by_cases e : k = A.1.1
                · simpa [a_up, e] using And.intro h1 h2
                · have hk : k < A.1.1 + 1 := hk
                  simpa [a_up, e] using a3 k (by omega)
              · simpa [a_up] using a4 k hk
              · simpa [a_up] using a5 k hk
              · simpa [a_up] using a6 k hk
            · unfold f_X4_voyage
              rw [p_isDay4, z_b2_s, if_neg (fun h => p_b_0.mp h h1), p_isDay4, z_b2_s, if_neg (fun h => p_b_0.mp h h2), if_pos h3, p_last4 hw.1 hC.1, z_b2_s, if_pos h4, p_add4 hw.1 hC.1, if_pos h5, z_b2_s]
            · rw [p_si_ne (by omega), p_si_ne (by omega), p_si_ne (by omega)]
            · rw [p_si_ne (by omega), p_si_ne (by omega), p_si_ne (by omega)]
            · have h49 : g_X5_voyage_49 x y ν = some (nI A.1.1, z_si (z_si (z_si ν 114 A.1.1 x) 115 A.1.1 y) 98 24 (nI (A.1.1 + 1))) := by
                unfold g_X5_voyage_49
                have e1 : (z_si ν 114 A.1.1 x).1 98 24 = nI A.1.1 := by rw [p_si_ne (by decide)]; exact hν.1.1
                have e2 : (z_si (z_si ν 114 A.1.1 x) 115 A.1.1 y).1 98 24 = nI A.1.1 := by rw [p_si_ne (by decide)]; exact e1
                have hz : z_in (nI A.1.1) 7 := vp_in_nI (by omega) (by decide)
                rw [hν.1.1, if_neg (fun e => by have := (nI_eq (a := A.1.1) (b := 6) (by omega) (by decide)).mp e; omega), if_pos hz, nI_clamp (by omega)]
                simp only [z_st]
                rw [e1, if_pos hz, nI_clamp (by omega), e2, nI_1, p_si_at, nI_m1]
              unfold f_X5_voyage
              rw [p_isDay5, z_b2_s, if_neg (fun h => p_b_0.mp h h1), p_isDay5, z_b2_s, if_neg (fun h => p_b_0.mp h h2), if_pos h3, hν.1.1]
              by_cases h0 : A.1.1 = 0
              · rw [if_pos (by rw [h0]; decide), h49]
              · obtain ⟨m, hm⟩ : ∃ m, A.1.1 = m + 1 := ⟨A.1.1 - 1, by omega⟩
                have e : nI A.1.1 - 1 = nI m := by rw [hm]; exact nI_m1 m
                have el : a_last A.1 = A.1.2.2 2 m := by
                  unfold a_last
                  rw [if_neg h0, hm]
                  rfl
                rw [el] at h4
                rw [if_neg (nI_nle (by omega) (by omega)), e, if_pos (p_zn (by omega) (by decide)), nI_clamp (by omega), (hν.1.2.2.1 m (by omega)).2, if_pos h4, h49]
            · rw [p_si_ne (by decide), p_si_ne (by decide), p_si_ne (by decide)]
              exact hν.2.1 k hk
            · simp only [List.mem_cons, List.not_mem_nil, or_false] at hi
              rw [p_si_ne (by omega), p_si_ne (by omega), p_si_ne (by omega)]
            · rw [p_si_nk (by decide), p_si_ne (by decide), p_si_ne (by decide)]
            · rw [p_si_nk (by decide), p_si_ne (by decide), p_si_ne (by decide)]
            · rw [p_si_ne (by omega), p_si_ne (by omega), p_si_ne (by omega)]
          · refine p_look hw hC hM (r := -1004) ?_ (fun ν hν => ?_)
            · unfold f_X4_voyage
              rw [p_isDay4, z_b2_s, if_neg (fun h => p_b_0.mp h h1), p_isDay4, z_b2_s, if_neg (fun h => p_b_0.mp h h2), if_pos h3, p_last4 hw.1 hC.1, z_b2_s, if_pos h4, p_add4 hw.1 hC.1, if_neg h5, z_b2_s]
            · have e6 : A.1.1 = 6 := by omega
              have h49 : g_X5_voyage_49 x y ν = some (-1004, ν) := by
                unfold g_X5_voyage_49
                rw [hν.1.1, e6, if_pos (by decide)]
              unfold f_X5_voyage
              have el : a_last A.1 = A.1.2.2 2 5 := by
                unfold a_last
                rw [e6]
                rfl
              rw [el] at h4
              rw [p_isDay5, z_b2_s, if_neg (fun h => p_b_0.mp h h1), p_isDay5, z_b2_s, if_neg (fun h => p_b_0.mp h h2), if_pos h3, hν.1.1, e6, if_neg (by decide), show nI 6 - 1 = nI 5 by decide, if_pos (p_zn (by decide) (by decide)), nI_clamp (by decide), (hν.1.2.2.1 5 (by omega)).2, if_pos h4, h49]
        · refine p_look hw hC hM (r := -1003) ?_ (fun ν hν => ?_)
          · unfold f_X4_voyage
            rw [p_isDay4, z_b2_s, if_neg (fun h => p_b_0.mp h h1), p_isDay4, z_b2_s, if_neg (fun h => p_b_0.mp h h2), if_pos h3, p_last4 hw.1 hC.1, z_b2_s, if_neg h4]
          · unfold f_X5_voyage
            rw [p_isDay5, z_b2_s, if_neg (fun h => p_b_0.mp h h1), p_isDay5, z_b2_s, if_neg (fun h => p_b_0.mp h h2), if_pos h3, hν.1.1]
            by_cases h0 : A.1.1 = 0
            · exfalso
              apply h4
              unfold a_last
              rw [if_pos h0, Int32.lt_iff_toInt_lt]
              have : (-1 : Int32).toInt = -1 := by decide
              have := h1.1
              omega
            · obtain ⟨m, hm⟩ : ∃ m, A.1.1 = m + 1 := ⟨A.1.1 - 1, by omega⟩
              have e : nI A.1.1 - 1 = nI m := by rw [hm]; exact nI_m1 m
              have el : a_last A.1 = A.1.2.2 2 m := by
                unfold a_last
                rw [if_neg h0, hm]
                rfl
              rw [el] at h4
              rw [if_neg (nI_nle (by omega) (by omega)), e, if_pos (p_zn (by omega) (by decide)), nI_clamp (by omega), (hν.1.2.2.1 m (by omega)).2, if_neg h4]
      · refine p_look hw hC hM (r := -1002) ?_ (fun ν hν => ?_)
        · unfold f_X4_voyage
          rw [p_isDay4, z_b2_s, if_neg (fun h => p_b_0.mp h h1), p_isDay4, z_b2_s, if_neg (fun h => p_b_0.mp h h2), if_neg h3]
        · unfold f_X5_voyage
          rw [p_isDay5, z_b2_s, if_neg (fun h => p_b_0.mp h h1), p_isDay5, z_b2_s, if_neg (fun h => p_b_0.mp h h2), if_neg h3]
    · refine p_look hw hC hM (r := -1002) ?_ (fun ν hν => ?_)
      · unfold f_X4_voyage
        rw [p_isDay4, z_b2_s, if_neg (fun h => p_b_0.mp h h1), p_isDay4, z_b2_s, if_pos (p_b_0.mpr h2)]
      · unfold f_X5_voyage
        rw [p_isDay5, z_b2_s, if_neg (fun h => p_b_0.mp h h1), p_isDay5, z_b2_s, if_pos (p_b_0.mpr h2)]
  · refine p_look hw hC hM (r := -1002) ?_ (fun ν hν => ?_)
    · unfold f_X4_voyage
      rw [p_isDay4, z_b2_s, if_pos (p_b_0.mpr h1)]
    · unfold f_X5_voyage
      rw [p_isDay5, z_b2_s, if_pos (p_b_0.mpr h1)]
