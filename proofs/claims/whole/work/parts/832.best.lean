/-! PURE: best -/
/-- the best land so far, what it has there -/
noncomputable def q_bst (L : Nat → a_T) (s : a_S) (d : Int32) (w : Nat) (h : Int32) : Nat → Int32 × Int32
  | 0 => (-1, -1)
  | i + 1 => if nI (q_hd (y_of (L i) s d) w s h) ≤ (q_bst L s d w h i).2 then q_bst L s d w h i else (nI i, nI (q_hd (y_of (L i) s d) w s h))
theorem p_best4 {A : a_A} {μ : z_M} (hw : w_A A) {d h x : Int32} (hd : p_in d 0 999) {w : Nat} (hway : w < 2) : ∀ m i fu μ1, i + m = 4 → m < fu → InvC A μ1 → z_un scC μ μ1 → ∃ μ', g_X4_best_49 fu d (nI w) h x (q_bst A.2.2.2.2.2 A.1 d w h i).1 (q_bst A.2.2.2.2.2 A.1 d w h i).2 (nI i) μ1 = some (if x = 0 then (q_bst A.2.2.2.2.2 A.1 d w h 4).1 else (q_bst A.2.2.2.2.2 A.1 d w h 4).2, μ') ∧ InvC A μ' ∧ z_un scC μ μ' := by
  intro m
  induction m with
  | zero =>
    intro i fu μ1 hi hf hC hu
    obtain ⟨fu, rfl⟩ : ∃ q, fu = q + 1 := ⟨fu - 1, by omega⟩
    have ei : i = 4 := by omega
    subst ei
    refine ⟨μ1, ?_, hC, hu⟩
    rw [g_X4_best_49]
    rw [if_pos (show (4 : Int32) ≤ nI 4 by decide)]
  | succ m ih =>
    intro i fu μ1 hi hf hC hu
    obtain ⟨fu, rfl⟩ : ∃ q, fu = q + 1 := ⟨fu - 1, by omega⟩
    have hi4 : i < 4 := by omega
    obtain ⟨o1, L, ln, μ2, e1, e2, c2, u2, i2⟩ := k_run hw hC hi4 hd hway (Or.inl rfl) hw.1 hC.1
    obtain ⟨μ', y1, y2, y3⟩ := ih (i + 1) fu μ2 (by omega) (by omega) i2 (hu.tr (u2.mono xR_sc))
    refine ⟨μ', ?_, y2, y3⟩
    rw [g_X4_best_49]
    rw [if_neg (show ¬ (4 : Int32) ≤ nI i from p_nle (a := 4) (by omega) (by decide)), p_g hi4 (by decide), nI_clamp (by omega), e1, Option.bind_some, e2, z_b1_s, p_hold hw.1 rfl c2.out i2.1, z_b2_s, nI_1]
    rw [q_bst] at y1
    by_cases q : nI (q_hd (y_of (A.2.2.2.2.2 i) A.1 d) w A.1 h) ≤ (q_bst A.2.2.2.2.2 A.1 d w h i).2
    · rw [if_pos q]
      rw [if_pos q] at y1
      exact y1
    · rw [if_neg q]
      rw [if_neg q] at y1
      exact y1
theorem p_best5 {A : a_A} {ν : z_M} (hw : w_A A) {d h x : Int32} (hh : h ≠ -1) {w : Nat} (hway : w < 2) : ∀ m i fu ν1, i + m = 4 → m < fu → InvM A ν1 → z_un scM ν ν1 → ∃ ν', g_X5_best_43 fu d (nI w) h x (q_bst A.2.2.2.2.2 A.1 d w h i).1 (q_bst A.2.2.2.2.2 A.1 d w h i).2 (nI i) ν1 = some (if x = 0 then (q_bst A.2.2.2.2.2 A.1 d w h 4).1 else (q_bst A.2.2.2.2.2 A.1 d w h 4).2, ν') ∧ InvM A ν' ∧ z_un scM ν ν' := by
  intro m
  induction m with
  | zero =>
    intro i fu μ1 hi hf hC hu
    obtain ⟨fu, rfl⟩ : ∃ q, fu = q + 1 := ⟨fu - 1, by omega⟩
    have ei : i = 4 := by omega
    subst ei
    refine ⟨μ1, ?_, hC, hu⟩
    rw [g_X5_best_43]
    rw [if_pos (show (4 : Int32) ≤ nI 4 by decide)]
  | succ m ih =>
    intro i fu ν1 hi hf hM hu
    obtain ⟨fu, rfl⟩ : ∃ q, fu = q + 1 := ⟨fu - 1, by omega⟩
    have hi4 : i < 4 := by omega
    obtain ⟨ν2, e3, u3, m3⟩ := k_out hw.1 (hw.2.2.2.2 i hi4) hi4 (hM.ctx hw hi4) d hway
    rw [y_og_0] at m3
    have i2 := hM.scr (u3.mono xO_sc)
    obtain ⟨ν', y1, y2, y3⟩ := ih (i + 1) fu ν2 (by omega) (by omega) i2 (hu.tr (u3.mono xO_sc))
    refine ⟨ν', ?_, y2, y3⟩
    rw [g_X5_best_43]
    rw [if_neg (show ¬ (4 : Int32) ≤ nI i from p_nle (a := 4) (by omega) (by decide)), e3, z_b1_s, p_hav hw.1 rfl m3 i2.1, if_neg hh, z_b2_s, z_lt_s, z_lt_s, nI_1]
    rw [q_bst] at y1
    by_cases q : nI (q_hd (y_of (A.2.2.2.2.2 i) A.1 d) w A.1 h) ≤ (q_bst A.2.2.2.2.2 A.1 d w h i).2
    · rw [if_pos q, if_pos q]
      rw [if_pos q] at y1
      exact y1
    · rw [if_neg q, if_neg q]
      rw [if_neg q] at y1
      exact y1
theorem p_m1n {h : Int32} {b : Int} (q : p_in h 0 b) : h ≠ -1 := by
  intro e
  have := q.1
  rw [e, p_zm1] at this
  omega
theorem s_24 : zs_24 Inv0 := by
  rintro μ ⟨A, hw, hC, hM⟩ d w h y
  by_cases h1 : p_in h 0 5
  case neg => exact p_look hw hC hM (r := -1001) (by unfold f_X4_best; rw [p_isHolder4, z_b2_s, p_if0, if_neg h1]) (fun ν hν => by unfold f_X5_best; rw [p_isHolder5, z_b2_s, p_if0, if_neg h1])
  by_cases h3 : p_in d 0 999
  case neg => exact p_look hw hC hM (r := -1002) (by unfold f_X4_best; rw [p_isHolder4, z_b2_s, p_if0, if_pos h1, p_isDay4, z_b2_s, p_if0, if_neg h3]) (fun ν hν => by unfold f_X5_best; rw [p_isHolder5, z_b2_s, p_if0, if_pos h1, p_isGood5, z_b2_s, p_if0, if_neg (fun h => h3 h.1)])
  by_cases h4 : p_in w 0 1
  case neg => exact p_look hw hC hM (r := -1002) (by unfold f_X4_best; rw [p_isHolder4, z_b2_s, p_if0, if_pos h1, p_isDay4, z_b2_s, p_if0, if_pos h3, p_isWay4, z_b2_s, p_if0, if_neg h4]) (fun ν hν => by unfold f_X5_best; rw [p_isHolder5, z_b2_s, p_if0, if_pos h1, p_isGood5, z_b2_s, p_if0, if_neg (fun h => h4 h.2)])
  by_cases h5 : p_in y 0 1
  case neg => exact p_look hw hC hM (r := -1002) (by unfold f_X4_best; rw [p_isHolder4, z_b2_s, p_if0, if_pos h1, p_isDay4, z_b2_s, p_if0, if_pos h3, p_isWay4, z_b2_s, p_if0, if_pos h4, p_rB 0 1 (by decide) (by decide), if_neg h5]) (fun ν hν => by unfold f_X5_best; rw [p_isHolder5, z_b2_s, p_if0, if_pos h1, p_isGood5, z_b2_s, p_if0, if_pos ⟨h3, h4⟩, p_in5k 0 1 (by decide) (by decide), z_b2_s, p_if0, if_neg h5])
  obtain ⟨w, rfl, hw2, hw2'⟩ := p_nat h4
  have hway : w < 2 := by omega
  have hN : z_N = 5000 := rfl
  refine p_step hC hM hw (r := if y = 0 then (q_bst A.2.2.2.2.2 A.1 d w h 4).1 else (q_bst A.2.2.2.2.2 A.1 d w h 4).2) ?_ (fun ν hν => ?_)
  · obtain ⟨μ', y1, y2, y3⟩ := p_best4 (h := h) (x := y) hw h3 hway 4 0 z_N μ (by omega) (by omega) hC (z_un.rf _ _)
    rw [show q_bst A.2.2.2.2.2 A.1 d w h 0 = (-1, -1) by rw [q_bst], nI_0] at y1
    refine ⟨μ', ?_, y2, z_hi_un y3⟩
    unfold f_X4_best
    rw [p_isHolder4, z_b2_s, p_if0, if_pos h1, p_isDay4, z_b2_s, p_if0, if_pos h3, p_isWay4, z_b2_s, p_if0, if_pos h4, p_rB 0 1 (by decide) (by decide), if_pos h5]
    exact y1
  · obtain ⟨ν', y1, y2, y3⟩ := p_best5 (h := h) (x := y) (d := d) hw (p_m1n h1) hway 4 0 z_N ν (by omega) (by omega) hν (z_un.rf _ _)
    rw [show q_bst A.2.2.2.2.2 A.1 d w h 0 = (-1, -1) by rw [q_bst], nI_0] at y1
    refine ⟨ν', ?_, y2, z_lo_un y3⟩
    unfold f_X5_best
    rw [p_isHolder5, z_b2_s, p_if0, if_pos h1, p_isGood5, z_b2_s, p_if0, if_pos ⟨h3, h4⟩, p_in5k 0 1 (by decide) (by decide), z_b2_s, p_if0, if_pos h5]
    exact y1
