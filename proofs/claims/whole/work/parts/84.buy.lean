/-! PURE: buy -/
/-- the least of the greatest, if above 0 -/
def q_mx (sk : Nat → Bool) (gn : Nat → Int32) : Nat → Int32 × Int32
  | 0 => (-1, 0)
  | i + 1 => if sk i = true then q_mx sk gn i else if gn i ≤ (q_mx sk gn i).2 then q_mx sk gn i else (nI i, gn i)
theorem q_mx_in (sk : Nat → Bool) (gn : Nat → Int32) : ∀ i, i ≤ 14 → 0 ≤ (q_mx sk gn i).2 ∧ ((q_mx sk gn i).1 = -1 ∨ 0 ≤ (q_mx sk gn i).1)
  | 0, _ => ⟨by rw [q_mx]; decide, Or.inl (by rw [q_mx])⟩
  | i + 1, h => by
    have ih := q_mx_in sk gn i (by omega)
    rw [q_mx]
    split
    · exact ih
    · split
      · exact ih
      · next q =>
        refine ⟨?_, Or.inr (nI_pos' (by omega))⟩
        rw [p_le, p_z0]
        rw [p_le] at q
        have := ih.1
        rw [p_le, p_z0] at this
        show 0 ≤ (gn i).toInt
        omega
theorem q_fin {b m x : Int32} (h : b = -1 ∨ 0 ≤ b) : (if x = 0 then b else (if b = -1 then b else m)) = (if 0 ≤ b then (if x = 0 then b else m) else -1) := by
  rcases h with e | e
  · rw [e, if_neg (show ¬ (0 : Int32) ≤ -1 by decide), if_pos rfl]
    split <;> rfl
  · have : b ≠ -1 := by
      intro q
      rw [q] at e
      exact absurd e (by decide)
    rw [if_pos e, if_neg this]
def q_gain (pd : Nat → Nat) (s : a_S) (q : Int32) (c : Nat) : Int32 := nI (pd c) - (s.2.2 6 c * q / 100)
theorem p_buy4 {μ : z_M} {Q : y_Q} {w : Nat} {s : a_S} (hs : w_ship s) (hw : w_Q Q) (hQ : Q.1 = s.2.1) (hc : c_out μ Q w) (cs : c_ship μ 4 s) (h q x : Int32) : ∀ m i fu, i + m = s.2.1 → m < fu → g_X4_buy_90 fu h q x (q_mx (fun c => decide (s.2.2 4 c = h)) (q_gain (q_pd Q w) s q) i).1 (q_mx (fun c => decide (s.2.2 4 c = h)) (q_gain (q_pd Q w) s q) i).2 (nI i) μ = some (if x = 0 then (q_mx (fun c => decide (s.2.2 4 c = h)) (q_gain (q_pd Q w) s q) s.2.1).1 else (if (q_mx (fun c => decide (s.2.2 4 c = h)) (q_gain (q_pd Q w) s q) s.2.1).1 = -1 then (q_mx (fun c => decide (s.2.2 4 c = h)) (q_gain (q_pd Q w) s q) s.2.1).1 else (q_mx (fun c => decide (s.2.2 4 c = h)) (q_gain (q_pd Q w) s q) s.2.1).2), μ) := by
  have h14 : s.2.1 ≤ 14 := hs.2.1
  intro m
  induction m with
  | zero =>
    intro i fu hi hf
    obtain ⟨fu, rfl⟩ : ∃ q, fu = q + 1 := ⟨fu - 1, by omega⟩
    have ei : i = s.2.1 := by omega
    subst ei
    rw [g_X4_buy_90]
    rw [cs.2.1, if_pos (nI_le (Nat.le_refl _) (by omega))]
  | succ m ih =>
    intro i fu hi hf
    obtain ⟨fu, rfl⟩ : ∃ q, fu = q + 1 := ⟨fu - 1, by omega⟩
    have hci : i < s.2.1 := by omega
    have y1 := ih (i + 1) fu (by omega) (by omega)
    obtain ⟨m3, m4, m5, m6, m7, m8, m9⟩ := cs.2.2.2.1 i hci
    have m4 : μ.1 8 i = s.2.2 4 i := m4
    have m6 : μ.1 10 i = s.2.2 6 i := m6
    rw [g_X4_buy_90]
    rw [cs.2.1, if_neg (nI_ge hci (by omega)), p_paidTo hw hc (by omega), z_b2_s]
    simp only [if_pos (p_zn (n := i) (N := 14) (by omega) (by decide)), if_pos (show ¬ (100 : Int32) = 0 by decide), nI_clamp (show i < 2 ^ 31 by omega), m4, m6, z_lt_s, nI_1]
    rw [q_mx] at y1
    have eg : q_gain (q_pd Q w) s q i = nI (q_pd Q w i) - (s.2.2 6 i * q / 100) := rfl
    rw [eg] at y1
    by_cases q1 : s.2.2 4 i = h
    · rw [if_pos q1]
      rw [if_pos (show decide (s.2.2 4 i = h) = true from decide_eq_true q1)] at y1
      exact y1
    · rw [if_neg q1]
      rw [if_neg (show ¬ decide (s.2.2 4 i = h) = true from fun z => q1 (of_decide_eq_true z))] at y1
      by_cases q2 : nI (q_pd Q w i) - (s.2.2 6 i * q / 100) ≤ (q_mx (fun c => decide (s.2.2 4 c = h)) (q_gain (q_pd Q w) s q) i).2
      · rw [if_pos q2]
        rw [if_pos q2] at y1
        exact y1
      · rw [if_neg q2]
        rw [if_neg q2] at y1
        exact y1
theorem p_buy5 {ν : z_M} {Q : y_Q} {w : Nat} {s : a_S} (hs : w_ship s) (hQ : Q.1 = s.2.1) (hc : m_out ν Q w) (ms : m_ship ν s) (h q x : Int32) : ∀ m i fu, i + m = s.2.1 → m < fu → g_X5_buy_71 fu h q x (q_mx (fun c => decide (s.2.2 4 c = h)) (q_gain (q_pd Q w) s q) i).1 (q_mx (fun c => decide (s.2.2 4 c = h)) (q_gain (q_pd Q w) s q) i).2 (nI i) ν = some (if 0 ≤ (q_mx (fun c => decide (s.2.2 4 c = h)) (q_gain (q_pd Q w) s q) s.2.1).1 then (if x = 0 then (q_mx (fun c => decide (s.2.2 4 c = h)) (q_gain (q_pd Q w) s q) s.2.1).1 else (q_mx (fun c => decide (s.2.2 4 c = h)) (q_gain (q_pd Q w) s q) s.2.1).2) else -1, ν) := by
  have h14 : s.2.1 ≤ 14 := hs.2.1
  intro m
  induction m with
  | zero =>
    intro i fu hi hf
    obtain ⟨fu, rfl⟩ : ∃ q, fu = q + 1 := ⟨fu - 1, by omega⟩
    have ei : i = s.2.1 := by omega
    subst ei
    rw [g_X5_buy_71]
    rw [ms.2.1, if_pos (nI_le (Nat.le_refl _) (by omega))]
  | succ m ih =>
    intro i fu hi hf
    obtain ⟨fu, rfl⟩ : ∃ q, fu = q + 1 := ⟨fu - 1, by omega⟩
    have hci : i < s.2.1 := by omega
    have y1 := ih (i + 1) fu (by omega) (by omega)
    have hin := q_mx_in (fun c => decide (s.2.2 4 c = h)) (q_gain (q_pd Q w) s q) i (by omega)
    obtain ⟨m3, m4, m5, m6, m7, m8, m9⟩ := ms.2.2.2.1 i hci
    rw [g_X5_buy_71]
    rw [ms.2.1, if_neg (nI_ge hci (by omega))]
    unfold g_X5_buy_117
    simp only [if_pos (p_zn (n := i) (N := 15) (by omega) (by decide)), if_pos (show ¬ (100 : Int32) = 0 by decide), nI_clamp (show i < 2 ^ 31 by omega), m4, m6, hc.1 i (by omega), z_lt_s, nI_1]
    rw [q_mx] at y1
    have eg : q_gain (q_pd Q w) s q i = nI (q_pd Q w i) - (s.2.2 6 i * q / 100) := rfl
    rw [eg] at y1
    by_cases q1 : s.2.2 4 i = h
    · rw [if_pos q1, if_pos hin.1, if_pos hin.1]
      rw [if_pos (show decide (s.2.2 4 i = h) = true from decide_eq_true q1)] at y1
      exact y1
    · rw [if_neg q1]
      rw [if_neg (show ¬ decide (s.2.2 4 i = h) = true from fun z => q1 (of_decide_eq_true z))] at y1
      by_cases q2 : nI (q_pd Q w i) - (s.2.2 6 i * q / 100) ≤ (q_mx (fun c => decide (s.2.2 4 c = h)) (q_gain (q_pd Q w) s q) i).2
      · rw [if_pos q2, if_pos q2]
        rw [if_pos q2] at y1
        exact y1
      · rw [if_neg q2, if_neg q2]
        rw [if_neg q2] at y1
        exact y1
theorem s_25 : zs_25 Inv0 := by
  rintro μ ⟨A, hw, hC, hM⟩ x d w h q y
  by_cases h1 : p_in x 0 3
  case neg => exact p_look hw hC hM (r := -1001) (by unfold f_X4_buy; rw [p_isLand4, z_b2_s, p_if0, if_neg h1]) (fun ν hν => by unfold f_X5_buy; rw [p_isLand5, z_b2_s, p_if0, if_neg h1])
  by_cases h2 : p_in h 0 5
  case neg => exact p_look hw hC hM (r := -1001) (by unfold f_X4_buy; rw [p_isLand4, z_b2_s, p_if0, if_pos h1, p_isHolder4, z_b2_s, p_if0, if_neg h2]) (fun ν hν => by unfold f_X5_buy; rw [p_isLand5, z_b2_s, p_if0, if_pos h1, p_isHolder5, z_b2_s, p_if0, if_neg h2])
  by_cases h3 : p_in d 0 999
  case neg => exact p_look hw hC hM (r := -1002) (by unfold f_X4_buy; rw [p_isLand4, z_b2_s, p_if0, if_pos h1, p_isHolder4, z_b2_s, p_if0, if_pos h2, p_isDay4, z_b2_s, p_if0, if_neg h3]) (fun ν hν => by unfold f_X5_buy; rw [p_isLand5, z_b2_s, p_if0, if_pos h1, p_isHolder5, z_b2_s, p_if0, if_pos h2, p_isGood5, z_b2_s, p_if0, if_neg (fun h => h3 h.1)])
  by_cases h4 : p_in w 0 1
  case neg => exact p_look hw hC hM (r := -1002) (by unfold f_X4_buy; rw [p_isLand4, z_b2_s, p_if0, if_pos h1, p_isHolder4, z_b2_s, p_if0, if_pos h2, p_isDay4, z_b2_s, p_if0, if_pos h3, p_isWay4, z_b2_s, p_if0, if_neg h4]) (fun ν hν => by unfold f_X5_buy; rw [p_isLand5, z_b2_s, p_if0, if_pos h1, p_isHolder5, z_b2_s, p_if0, if_pos h2, p_isGood5, z_b2_s, p_if0, if_neg (fun h => h4 h.2)])
  by_cases h5 : p_in q 1 200
  case neg => exact p_look hw hC hM (r := -1002) (by unfold f_X4_buy; rw [p_isLand4, z_b2_s, p_if0, if_pos h1, p_isHolder4, z_b2_s, p_if0, if_pos h2, p_isDay4, z_b2_s, p_if0, if_pos h3, p_isWay4, z_b2_s, p_if0, if_pos h4, p_rA 1 200 (by decide) (by decide), if_neg h5]) (fun ν hν => by unfold f_X5_buy; rw [p_isLand5, z_b2_s, p_if0, if_pos h1, p_isHolder5, z_b2_s, p_if0, if_pos h2, p_isGood5, z_b2_s, p_if0, if_pos ⟨h3, h4⟩, p_in5k 1 200 (by decide) (by decide), z_b2_s, p_if0, if_neg h5])
  by_cases h6 : p_in y 0 1
  case neg => exact p_look hw hC hM (r := -1002) (by unfold f_X4_buy; rw [p_isLand4, z_b2_s, p_if0, if_pos h1, p_isHolder4, z_b2_s, p_if0, if_pos h2, p_isDay4, z_b2_s, p_if0, if_pos h3, p_isWay4, z_b2_s, p_if0, if_pos h4, p_rA 1 200 (by decide) (by decide), if_pos h5, p_rB 0 1 (by decide) (by decide), if_neg h6]) (fun ν hν => by unfold f_X5_buy; rw [p_isLand5, z_b2_s, p_if0, if_pos h1, p_isHolder5, z_b2_s, p_if0, if_pos h2, p_isGood5, z_b2_s, p_if0, if_pos ⟨h3, h4⟩, p_in5k 1 200 (by decide) (by decide), z_b2_s, p_if0, if_pos h5, p_in5k 0 1 (by decide) (by decide), z_b2_s, p_if0, if_neg h6])
  obtain ⟨n, rfl, hn, hn'⟩ := p_nat h1
  have hn4 : n < 4 := by omega
  have wl := hw.2.2.2.2 n hn4
  obtain ⟨w, rfl, hw2, hw2'⟩ := p_nat h4
  have hway : w < 2 := by omega
  have hN : z_N = 5000 := rfl
  have h14 : A.1.2.1 ≤ 14 := hw.1.2.1
  obtain ⟨o1, L, ln, μ', e1, e2, c2, u2, i2⟩ := k_run hw hC hn4 h3 hway (Or.inl rfl) hw.1 hC.1
  have e0 : q_mx (fun c => decide (A.1.2.2 4 c = h)) (q_gain (q_pd (y_of (A.2.2.2.2.2 n) A.1 d) w) A.1 q) 0 = (-1, 0) := by rw [q_mx]
  refine p_step hC hM hw (r := if y = 0 then (q_mx (fun c => decide (A.1.2.2 4 c = h)) (q_gain (q_pd (y_of (A.2.2.2.2.2 n) A.1 d) w) A.1 q) A.1.2.1).1 else (if (q_mx (fun c => decide (A.1.2.2 4 c = h)) (q_gain (q_pd (y_of (A.2.2.2.2.2 n) A.1 d) w) A.1 q) A.1.2.1).1 = -1 then (q_mx (fun c => decide (A.1.2.2 4 c = h)) (q_gain (q_pd (y_of (A.2.2.2.2.2 n) A.1 d) w) A.1 q) A.1.2.1).1 else (q_mx (fun c => decide (A.1.2.2 4 c = h)) (q_gain (q_pd (y_of (A.2.2.2.2.2 n) A.1 d) w) A.1 q) A.1.2.1).2)) ⟨μ', ?_, i2, z_hi_un (u2.mono xR_sc)⟩ (fun ν hν => ?_)
  · have y1 := p_buy4 hw.1 (w_of hw.1 wl d) rfl c2.out i2.1 h q y A.1.2.1 0 z_N (by omega) (by omega)
    rw [e0, nI_0] at y1
    unfold f_X4_buy
    rw [p_isLand4, z_b2_s, p_if0, if_pos h1, p_isHolder4, z_b2_s, p_if0, if_pos h2, p_isDay4, z_b2_s, p_if0, if_pos h3, p_isWay4, z_b2_s, p_if0, if_pos h4, p_rA 1 200 (by decide) (by decide), if_pos h5, p_rB 0 1 (by decide) (by decide), if_pos h6]
    rw [p_g hn4 (by decide), nI_clamp hn', e1, Option.bind_some, e2, z_b1_s]
    exact y1
  · obtain ⟨ν', e3, u3, m3⟩ := k_out hw.1 wl hn4 (hν.ctx hw hn4) d hway
    rw [y_og_0] at m3
    refine ⟨ν', ?_, hν.scr (u3.mono xO_sc), z_lo_un (u3.mono xO_sc)⟩
    have y1 := p_buy5 hw.1 rfl m3 (hν.scr (u3.mono xO_sc)).1 h q y A.1.2.1 0 z_N (by omega) (by omega)
    rw [e0, nI_0, ← q_fin (q_mx_in _ _ _ h14).2] at y1
    unfold f_X5_buy
    rw [p_isLand5, z_b2_s, p_if0, if_pos h1, p_isHolder5, z_b2_s, p_if0, if_pos h2, p_isGood5, z_b2_s, p_if0, if_pos ⟨h3, h4⟩, p_in5k 1 200 (by decide) (by decide), z_b2_s, p_if0, if_pos h5, p_in5k 0 1 (by decide) (by decide), z_b2_s, p_if0, if_pos h6]
    rw [e3, z_b1_s]
    exact y1
