/-! PURE: clear -/
theorem y_of_cg {l : a_T} {v N : Nat} {t t' : a_T} (d : Int32) (e : ∀ f, f ≠ 6 → t' f = t f) : (y_of l (v, N, t') d).2.2 = (y_of l (v, N, t) d).2.2 := by
  have e1 := e 1 (by decide); have e3 := e 3 (by decide); have e5 := e 5 (by decide); have e7 := e 7 (by decide); have e8 := e 8 (by decide); have e9 := e 9 (by decide); have e10 := e 10 (by decide)
  unfold y_of a_why a_stI rd a_vof a_unbP a_lack a_k
  simp only [e1, e3, e5, e7, e8, e9, e10]
/-- a claim taken away -/
def a_gone (s : a_S) (c : Nat) : a_S := (s.1, s.2.1, a_up s.2.2 6 c 0)
theorem a_gone_ne {s : a_S} {c f : Nat} (h : f ≠ 6) : (a_gone s c).2.2 f = s.2.2 f := funext fun k => a_up_ne (fun q => h q.1)
theorem y_og_c (l : a_T) (s : a_S) (d : Int32) (c : Nat) : y_og l s d (fun k => decide (k = c)) = y_of l (a_gone s c) d := by
  refine Prod.ext rfl (Prod.ext (funext fun k => ?_) ?_)
  · show (if decide (k = c) = true then 0 else (s.2.2 6 k).toNatClampNeg) = (a_up s.2.2 6 c 0 6 k).toNatClampNeg
    by_cases e : k = c
    · rw [if_pos (decide_eq_true e), e, a_up_at]
      decide
    · rw [if_neg (fun z => e (of_decide_eq_true z)), a_up_ne (fun q => e q.2)]
  · exact (y_of_cg (l := l) (v := s.1) (N := s.2.1) (t := s.2.2) (t' := a_up s.2.2 6 c 0) d (fun f hf => funext fun k => a_up_ne (fun q => hf q.1))).symm
theorem q_hd_c (Q : y_Q) (w : Nat) (s : a_S) (c : Nat) (h : Int32) : q_hd Q w (a_gone s c) h = q_hd Q w s h := by
  unfold q_hd
  rw [a_gone_ne (by decide), a_gone_ne (by decide)]
  rfl
theorem w_gone {s : a_S} (hs : w_ship s) (c : Nat) : w_ship (a_gone s c) := w_up hs (Or.inr (Or.inl ⟨rfl, by decide⟩))
theorem k_take {A : a_A} {μ : z_M} (hw : w_A A) (hC : InvC A μ) {c : Nat} (hc : c < A.1.2.1) : ∃ μ1 μ2, f_X3_become 15 4 μ = some μ1 ∧ f_X3_takeAway 15 (nI c) μ1 = some μ2 ∧ c_ship μ2 15 (a_gone A.1 c) ∧ z_un scC μ μ2 ∧ InvC A μ2 := by
  have h14 : A.1.2.1 ≤ 14 := hw.1.2.1
  obtain ⟨μ1, e1, c1, u1, i1⟩ := k_bec hw hC
  obtain ⟨u2, i2⟩ := k_un i1 21 c 0 (by decide) (by decide) rfl
  refine ⟨μ1, z_si μ1 21 c 0, e1, ?_, c_ship_upd c 0 6 6 (by decide) c1, u1.tr u2, i2⟩
  unfold f_X3_takeAway
  rw [p_g (show c < 14 by omega) (by decide), z_st_s, nI_clamp (by omega)]
theorem p_hw4 {A : a_A} {μ : z_M} (hw : w_A A) (hC : InvC A μ) {n : Nat} (hn : n < 4) {d : Int32} (hd : p_in d 0 999) {w : Nat} (hway : w < 2) (h : Int32) {c : Nat} (hc : c < A.1.2.1) : ∃ μ', f_X4_holdingWithout (nI n) d (nI w) h (nI c) μ = some (nI (q_hd (y_of (A.2.2.2.2.2 n) (a_gone A.1 c) d) w A.1 h), μ') ∧ z_un scC μ μ' ∧ InvC A μ' := by
  obtain ⟨μ1, μ2, e1, e2, c2, u2, i2⟩ := k_take hw hC hc
  have hs' := w_gone hw.1 c
  obtain ⟨o1, L, ln, μ3, e3, e4, c4, u4, i4⟩ := k_run hw i2 hn hd hway (Or.inr rfl) hs' c2
  refine ⟨μ3, ?_, u2.tr (u4.mono xR_sc), i4⟩
  have c15 : c_ship μ3 15 (a_gone A.1 c) := c2.cg (fun i h1 h2 => u4.1 i (by
    have : ∀ a, a < 26 → 15 ≤ a → a ∉ xR := by decide
    exact this i (by omega) h1))
  have e5 := p_hold (o := 15) hs' rfl c4.out c15 h
  rw [q_hd_c] at e5
  unfold f_X4_holdingWithout
  rw [e1, z_b1_s, e2, z_b1_s, p_g hn (by decide), nI_clamp (by omega), e3, Option.bind_some, e4, z_b1_s, e5, z_b2_s]
theorem p_hw5 {A : a_A} {ν : z_M} (hw : w_A A) (hM : InvM A ν) {n : Nat} (hn : n < 4) (d : Int32) {w : Nat} (hway : w < 2) {h : Int32} (hh : h ≠ -1) {c : Nat} (hc : c < A.1.2.1) : ∃ ν', f_X5_payOut (nI n) d (nI w) (z_si ν 123 c 1) = some ν' ∧ z_un scM ν (z_si ν' 123 c 0) ∧ m_out (z_si ν' 123 c 0) (y_of (A.2.2.2.2.2 n) (a_gone A.1 c) d) w ∧ InvM A (z_si ν' 123 c 0) ∧ f_X5_having h (z_si ν' 123 c 0) = some (nI (q_hd (y_of (A.2.2.2.2.2 n) (a_gone A.1 c) d) w A.1 h), z_si ν' 123 c 0) := by
  have h14 : A.1.2.1 ≤ 14 := hw.1.2.1
  have e123 : ν.1 123 c = 0 := hM.2.1 c (by omega)
  have hm : m_ctx (z_si ν 123 c 1) n (A.2.2.2.2.2 n) A.1 (fun k => decide (k = c)) := by
    have h0 := hM.ctx hw hn
    refine ⟨?_, ?_, fun k hk => ?_⟩
    · have h1 := h0.1
      unfold m_ship at h1 ⊢
      rw [p_si_ne (show (98 : Nat) ≠ 123 by decide), p_si_ne (show (114 : Nat) ≠ 123 by decide), p_si_ne (show (115 : Nat) ≠ 123 by decide), p_si_ne (show (116 : Nat) ≠ 123 by decide), p_si_ne (show (117 : Nat) ≠ 123 by decide), p_si_ne (show (118 : Nat) ≠ 123 by decide), p_si_ne (show (119 : Nat) ≠ 123 by decide), p_si_ne (show (120 : Nat) ≠ 123 by decide), p_si_ne (show (121 : Nat) ≠ 123 by decide), p_si_ne (show (122 : Nat) ≠ 123 by decide), p_si_ne (show (124 : Nat) ≠ 123 by decide), p_si_ne (show (125 : Nat) ≠ 123 by decide)]
      exact h1
    · have h2 := h0.2.1
      unfold m_law at h2 ⊢
      rw [p_si_ne (show (99 : Nat) ≠ 123 by decide), p_si_ne (show (100 : Nat) ≠ 123 by decide), p_si_ne (show (101 : Nat) ≠ 123 by decide), p_si_ne (show (102 : Nat) ≠ 123 by decide), p_si_ne (show (113 : Nat) ≠ 123 by decide), p_si_ne (show (103 : Nat) ≠ 123 by decide), p_si_ne (show (104 : Nat) ≠ 123 by decide)]
      exact h2
    · by_cases e : k = c
      · rw [e, p_si_at, if_pos (decide_eq_true rfl)]
      · rw [p_si_nk e, if_neg (fun z => e (of_decide_eq_true z)), hM.2.1 k (by omega)]
  obtain ⟨ν', e5, u5, m5⟩ := k_out hw.1 (hw.2.2.2.2 n hn) hn hm d hway
  rw [y_og_c] at m5
  have u6 : z_un scM ν (z_si ν' 123 c (ν.1 123 c)) := (u5.mono xO_sc).re (by decide)
  rw [e123] at u6
  have i6 := hM.scr u6
  have m6 : m_out (z_si ν' 123 c 0) (y_of (A.2.2.2.2.2 n) (a_gone A.1 c) d) w := by
    obtain ⟨o1, o2, o3, o4⟩ := m5
    unfold m_out
    rw [p_si_ne (show (126 : Nat) ≠ 123 by decide), p_si_ne (show (127 : Nat) ≠ 123 by decide), p_si_ne (show (128 : Nat) ≠ 123 by decide), p_si_ne (show (129 : Nat) ≠ 123 by decide)]
    exact ⟨o1, o2, o3, o4⟩
  refine ⟨ν', e5, u6, m6, i6, ?_⟩
  rw [p_hav hw.1 rfl m6 i6.1, if_neg hh]
theorem p_clear4 {A : a_A} {μ : z_M} (hw : w_A A) {n : Nat} (hn : n < 4) {d h x x6 : Int32} (hd : p_in d 0 999) {w : Nat} (hway : w < 2) : ∀ m i fu μ1, i + m = A.1.2.1 → m < fu → InvC A μ1 → z_un scC μ μ1 → ∃ μ', g_X4_clear_91 fu (nI n) d (nI w) h x x6 (q_mx (fun c => decide (A.1.2.2 4 c = h)) (fun c => nI (q_hd (y_of (A.2.2.2.2.2 n) (a_gone A.1 c) d) w A.1 h) - x6 - A.1.2.2 6 c) i).1 (q_mx (fun c => decide (A.1.2.2 4 c = h)) (fun c => nI (q_hd (y_of (A.2.2.2.2.2 n) (a_gone A.1 c) d) w A.1 h) - x6 - A.1.2.2 6 c) i).2 (nI i) μ1 = some (if x = 0 then (q_mx (fun c => decide (A.1.2.2 4 c = h)) (fun c => nI (q_hd (y_of (A.2.2.2.2.2 n) (a_gone A.1 c) d) w A.1 h) - x6 - A.1.2.2 6 c) A.1.2.1).1 else (if (q_mx (fun c => decide (A.1.2.2 4 c = h)) (fun c => nI (q_hd (y_of (A.2.2.2.2.2 n) (a_gone A.1 c) d) w A.1 h) - x6 - A.1.2.2 6 c) A.1.2.1).1 = -1 then (q_mx (fun c => decide (A.1.2.2 4 c = h)) (fun c => nI (q_hd (y_of (A.2.2.2.2.2 n) (a_gone A.1 c) d) w A.1 h) - x6 - A.1.2.2 6 c) A.1.2.1).1 else (q_mx (fun c => decide (A.1.2.2 4 c = h)) (fun c => nI (q_hd (y_of (A.2.2.2.2.2 n) (a_gone A.1 c) d) w A.1 h) - x6 - A.1.2.2 6 c) A.1.2.1).2), μ') ∧ InvC A μ' ∧ z_un scC μ μ' := by
  have h14 : A.1.2.1 ≤ 14 := hw.1.2.1
  intro m
  induction m with
  | zero =>
    intro i fu μ1 hi hf hC hu
    obtain ⟨fu, rfl⟩ : ∃ q, fu = q + 1 := ⟨fu - 1, by omega⟩
    have ei : i = A.1.2.1 := by omega
    subst ei
    refine ⟨μ1, ?_, hC, hu⟩
    rw [g_X4_clear_91]
    rw [hC.1.2.1, if_pos (nI_le (Nat.le_refl _) (by omega))]
  | succ m ih =>
    intro i fu μ1 hi hf hC hu
    obtain ⟨fu, rfl⟩ : ∃ q, fu = q + 1 := ⟨fu - 1, by omega⟩
    have hci : i < A.1.2.1 := by omega
    have hz : z_in (nI i) 14 := p_zn (by omega) (by decide)
    have m4 : μ1.1 8 i = A.1.2.2 4 i := (hC.1.2.2.2.1 i hci).2.1
    obtain ⟨μ2, e2, u2, i2⟩ := p_hw4 hw hC hn hd hway h hci
    have m6 : μ2.1 10 i = A.1.2.2 6 i := (i2.1.2.2.2.1 i hci).2.2.2.1
    by_cases q1 : A.1.2.2 4 i = h
    · obtain ⟨μ', y1, y2, y3⟩ := ih (i + 1) fu μ1 (by omega) (by omega) hC hu
      refine ⟨μ', ?_, y2, y3⟩
      rw [g_X4_clear_91]
      rw [hC.1.2.1, if_neg (nI_ge hci (by omega)), if_pos hz]
      simp only [nI_clamp (show i < 2 ^ 31 by omega), m4, nI_1]
      rw [if_pos q1]
      rw [q_mx, if_pos (show decide (A.1.2.2 4 i = h) = true from decide_eq_true q1)] at y1
      exact y1
    · obtain ⟨μ', y1, y2, y3⟩ := ih (i + 1) fu μ2 (by omega) (by omega) i2 (hu.tr u2)
      refine ⟨μ', ?_, y2, y3⟩
      rw [g_X4_clear_91]
      rw [hC.1.2.1, if_neg (nI_ge hci (by omega)), if_pos hz]
      simp only [nI_clamp (show i < 2 ^ 31 by omega), m4, nI_1]
      rw [if_neg q1, e2, z_b2_s, if_pos hz, z_lt_s, m6]
      rw [q_mx, if_neg (show ¬ decide (A.1.2.2 4 i = h) = true from fun z => q1 (of_decide_eq_true z))] at y1
      by_cases q2 : nI (q_hd (y_of (A.2.2.2.2.2 n) (a_gone A.1 i) d) w A.1 h) - x6 - A.1.2.2 6 i ≤ (q_mx (fun c => decide (A.1.2.2 4 c = h)) (fun c => nI (q_hd (y_of (A.2.2.2.2.2 n) (a_gone A.1 c) d) w A.1 h) - x6 - A.1.2.2 6 c) i).2
      · rw [if_pos q2]
        rw [if_pos q2] at y1
        exact y1
      · rw [if_neg q2]
        rw [if_neg q2] at y1
        exact y1
theorem p_clear5 {A : a_A} {ν : z_M} (hw : w_A A) {n : Nat} (hn : n < 4) {d h x x6 : Int32} (hh : h ≠ -1) {w : Nat} (hway : w < 2) : ∀ m i fu ν1, i + m = A.1.2.1 → m < fu → InvM A ν1 → z_un scM ν ν1 → ∃ ν', g_X5_clear_66 fu (nI n) d (nI w) h x x6 (q_mx (fun c => decide (A.1.2.2 4 c = h)) (fun c => nI (q_hd (y_of (A.2.2.2.2.2 n) (a_gone A.1 c) d) w A.1 h) - x6 - A.1.2.2 6 c) i).1 (q_mx (fun c => decide (A.1.2.2 4 c = h)) (fun c => nI (q_hd (y_of (A.2.2.2.2.2 n) (a_gone A.1 c) d) w A.1 h) - x6 - A.1.2.2 6 c) i).2 (nI i) ν1 = some (if 0 ≤ (q_mx (fun c => decide (A.1.2.2 4 c = h)) (fun c => nI (q_hd (y_of (A.2.2.2.2.2 n) (a_gone A.1 c) d) w A.1 h) - x6 - A.1.2.2 6 c) A.1.2.1).1 then (if x = 0 then (q_mx (fun c => decide (A.1.2.2 4 c = h)) (fun c => nI (q_hd (y_of (A.2.2.2.2.2 n) (a_gone A.1 c) d) w A.1 h) - x6 - A.1.2.2 6 c) A.1.2.1).1 else (q_mx (fun c => decide (A.1.2.2 4 c = h)) (fun c => nI (q_hd (y_of (A.2.2.2.2.2 n) (a_gone A.1 c) d) w A.1 h) - x6 - A.1.2.2 6 c) A.1.2.1).2) else -1, ν') ∧ InvM A ν' ∧ z_un scM ν ν' := by
  have h14 : A.1.2.1 ≤ 14 := hw.1.2.1
  have e11 : (1 : Int32) &&& 1 = 1 := by decide
  have e01 : (0 : Int32) &&& 1 = 0 := by decide
  intro m
  induction m with
  | zero =>
    intro i fu ν1 hi hf hC hu
    obtain ⟨fu, rfl⟩ : ∃ q, fu = q + 1 := ⟨fu - 1, by omega⟩
    have ei : i = A.1.2.1 := by omega
    subst ei
    refine ⟨ν1, ?_, hC, hu⟩
    rw [g_X5_clear_66]
    rw [hC.1.2.1, if_pos (nI_le (Nat.le_refl _) (by omega))]
  | succ m ih =>
    intro i fu ν1 hi hf hC hu
    obtain ⟨fu, rfl⟩ : ∃ q, fu = q + 1 := ⟨fu - 1, by omega⟩
    have hci : i < A.1.2.1 := by omega
    have hz : z_in (nI i) 15 := p_zn (by omega) (by decide)
    have m4 : ν1.1 117 i = A.1.2.2 4 i := (hC.1.2.2.2.1 i hci).2.1
    obtain ⟨ν2, e2, u2, m2, i2, e3⟩ := p_hw5 hw hC hn d hway hh hci
    have m6 : (z_si ν2 123 i 0).1 119 i = A.1.2.2 6 i := (i2.1.2.2.2.1 i hci).2.2.2.1
    by_cases q1 : A.1.2.2 4 i = h
    · obtain ⟨μ', y1, y2, y3⟩ := ih (i + 1) fu ν1 (by omega) (by omega) hC hu
      refine ⟨μ', ?_, y2, y3⟩
      rw [g_X5_clear_66]
      rw [hC.1.2.1, if_neg (nI_ge hci (by omega)), if_pos hz]
      simp only [nI_clamp (show i < 2 ^ 31 by omega), m4, nI_1]
      rw [if_pos q1]
      rw [q_mx, if_pos (show decide (A.1.2.2 4 i = h) = true from decide_eq_true q1)] at y1
      exact y1
    · obtain ⟨μ', y1, y2, y3⟩ := ih (i + 1) fu (z_si ν2 123 i 0) (by omega) (by omega) i2 (hu.tr u2)
      refine ⟨μ', ?_, y2, y3⟩
      rw [g_X5_clear_66]
      rw [hC.1.2.1, if_neg (nI_ge hci (by omega)), if_pos hz]
      simp only [nI_clamp (show i < 2 ^ 31 by omega), m4, nI_1]
      rw [if_neg q1]
      simp only [if_pos hz, z_st_s, e11, e01, e2, z_b1_s, e3, z_b2_s, z_lt_s, m6]
      rw [q_mx, if_neg (show ¬ decide (A.1.2.2 4 i = h) = true from fun z => q1 (of_decide_eq_true z))] at y1
      by_cases q2 : nI (q_hd (y_of (A.2.2.2.2.2 n) (a_gone A.1 i) d) w A.1 h) - x6 - A.1.2.2 6 i ≤ (q_mx (fun c => decide (A.1.2.2 4 c = h)) (fun c => nI (q_hd (y_of (A.2.2.2.2.2 n) (a_gone A.1 c) d) w A.1 h) - x6 - A.1.2.2 6 c) i).2
      · rw [if_pos q2, if_pos q2]
        rw [if_pos q2] at y1
        exact y1
      · rw [if_neg q2, if_neg q2]
        rw [if_neg q2] at y1
        exact y1
theorem s_26 : zs_26 Inv0 := by
  rintro μ ⟨A, hw, hC, hM⟩ x d w h y
  by_cases h1 : p_in x 0 3
  case neg => exact p_look hw hC hM (r := -1001) (by unfold f_X4_clear; rw [p_isLand4, z_b2_s, p_if0, if_neg h1]) (fun ν hν => by unfold f_X5_clear; rw [p_isLand5, z_b2_s, p_if0, if_neg h1])
  by_cases h2 : p_in h 0 5
  case neg => exact p_look hw hC hM (r := -1001) (by unfold f_X4_clear; rw [p_isLand4, z_b2_s, p_if0, if_pos h1, p_isHolder4, z_b2_s, p_if0, if_neg h2]) (fun ν hν => by unfold f_X5_clear; rw [p_isLand5, z_b2_s, p_if0, if_pos h1, p_isHolder5, z_b2_s, p_if0, if_neg h2])
  by_cases h3 : p_in d 0 999
  case neg => exact p_look hw hC hM (r := -1002) (by unfold f_X4_clear; rw [p_isLand4, z_b2_s, p_if0, if_pos h1, p_isHolder4, z_b2_s, p_if0, if_pos h2, p_isDay4, z_b2_s, p_if0, if_neg h3]) (fun ν hν => by unfold f_X5_clear; rw [p_isLand5, z_b2_s, p_if0, if_pos h1, p_isHolder5, z_b2_s, p_if0, if_pos h2, p_isGood5, z_b2_s, p_if0, if_neg (fun h => h3 h.1)])
  by_cases h4 : p_in w 0 1
  case neg => exact p_look hw hC hM (r := -1002) (by unfold f_X4_clear; rw [p_isLand4, z_b2_s, p_if0, if_pos h1, p_isHolder4, z_b2_s, p_if0, if_pos h2, p_isDay4, z_b2_s, p_if0, if_pos h3, p_isWay4, z_b2_s, p_if0, if_neg h4]) (fun ν hν => by unfold f_X5_clear; rw [p_isLand5, z_b2_s, p_if0, if_pos h1, p_isHolder5, z_b2_s, p_if0, if_pos h2, p_isGood5, z_b2_s, p_if0, if_neg (fun h => h4 h.2)])
  by_cases h6 : p_in y 0 1
  case neg => exact p_look hw hC hM (r := -1002) (by unfold f_X4_clear; rw [p_isLand4, z_b2_s, p_if0, if_pos h1, p_isHolder4, z_b2_s, p_if0, if_pos h2, p_isDay4, z_b2_s, p_if0, if_pos h3, p_isWay4, z_b2_s, p_if0, if_pos h4, p_rB 0 1 (by decide) (by decide), if_neg h6]) (fun ν hν => by unfold f_X5_clear; rw [p_isLand5, z_b2_s, p_if0, if_pos h1, p_isHolder5, z_b2_s, p_if0, if_pos h2, p_isGood5, z_b2_s, p_if0, if_pos ⟨h3, h4⟩, p_in5k 0 1 (by decide) (by decide), z_b2_s, p_if0, if_neg h6])
  obtain ⟨n, rfl, hn, hn'⟩ := p_nat h1
  have hn4 : n < 4 := by omega
  have wl := hw.2.2.2.2 n hn4
  obtain ⟨w, rfl, hw2, hw2'⟩ := p_nat h4
  have hway : w < 2 := by omega
  have hN : z_N = 5000 := rfl
  have h14 : A.1.2.1 ≤ 14 := hw.1.2.1
  obtain ⟨o1, L, ln, μ', e1, e2, c2, u2, i2⟩ := k_run hw hC hn4 h3 hway (Or.inl rfl) hw.1 hC.1
  have e0 : (q_mx (fun c => decide (A.1.2.2 4 c = h)) (fun c => nI (q_hd (y_of (A.2.2.2.2.2 n) (a_gone A.1 c) d) w A.1 h) - nI (q_hd (y_of (A.2.2.2.2.2 n) A.1 d) w A.1 h) - A.1.2.2 6 c) 0) = (-1, 0) := by rw [q_mx]
  refine p_step hC hM hw (r := if y = 0 then (q_mx (fun c => decide (A.1.2.2 4 c = h)) (fun c => nI (q_hd (y_of (A.2.2.2.2.2 n) (a_gone A.1 c) d) w A.1 h) - nI (q_hd (y_of (A.2.2.2.2.2 n) A.1 d) w A.1 h) - A.1.2.2 6 c) A.1.2.1).1 else (if (q_mx (fun c => decide (A.1.2.2 4 c = h)) (fun c => nI (q_hd (y_of (A.2.2.2.2.2 n) (a_gone A.1 c) d) w A.1 h) - nI (q_hd (y_of (A.2.2.2.2.2 n) A.1 d) w A.1 h) - A.1.2.2 6 c) A.1.2.1).1 = -1 then (q_mx (fun c => decide (A.1.2.2 4 c = h)) (fun c => nI (q_hd (y_of (A.2.2.2.2.2 n) (a_gone A.1 c) d) w A.1 h) - nI (q_hd (y_of (A.2.2.2.2.2 n) A.1 d) w A.1 h) - A.1.2.2 6 c) A.1.2.1).1 else (q_mx (fun c => decide (A.1.2.2 4 c = h)) (fun c => nI (q_hd (y_of (A.2.2.2.2.2 n) (a_gone A.1 c) d) w A.1 h) - nI (q_hd (y_of (A.2.2.2.2.2 n) A.1 d) w A.1 h) - A.1.2.2 6 c) A.1.2.1).2)) ?_ (fun ν hν => ?_)
  · obtain ⟨μ3, y1, y2, y3⟩ := p_clear4 (h := h) (x := y) (x6 := nI (q_hd (y_of (A.2.2.2.2.2 n) A.1 d) w A.1 h)) hw hn4 h3 hway A.1.2.1 0 z_N μ' (by omega) (by omega) i2 (z_un.rf _ _)
    rw [e0, nI_0] at y1
    refine ⟨μ3, ?_, y2, z_hi_un ((u2.mono xR_sc).tr y3)⟩
    unfold f_X4_clear
    rw [p_isLand4, z_b2_s, p_if0, if_pos h1, p_isHolder4, z_b2_s, p_if0, if_pos h2, p_isDay4, z_b2_s, p_if0, if_pos h3, p_isWay4, z_b2_s, p_if0, if_pos h4, p_rB 0 1 (by decide) (by decide), if_pos h6]
    rw [p_g hn4 (by decide), nI_clamp hn', e1, Option.bind_some, e2, z_b1_s, p_hold hw.1 rfl c2.out i2.1, z_b2_s]
    exact y1
  · obtain ⟨ν', e3, u3, m3⟩ := k_out hw.1 wl hn4 (hν.ctx hw hn4) d hway
    rw [y_og_0] at m3
    have i3 := hν.scr (u3.mono xO_sc)
    obtain ⟨ν3, y1, y2, y3⟩ := p_clear5 (h := h) (x := y) (d := d) (x6 := nI (q_hd (y_of (A.2.2.2.2.2 n) A.1 d) w A.1 h)) hw hn4 (p_m1n h2) hway A.1.2.1 0 z_N ν' (by omega) (by omega) i3 (z_un.rf _ _)
    rw [e0, nI_0, ← q_fin (q_mx_in _ _ _ h14).2] at y1
    refine ⟨ν3, ?_, y2, z_lo_un ((u3.mono xO_sc).tr y3)⟩
    unfold f_X5_clear
    rw [p_isLand5, z_b2_s, p_if0, if_pos h1, p_isHolder5, z_b2_s, p_if0, if_pos h2, p_isGood5, z_b2_s, p_if0, if_pos ⟨h3, h4⟩, p_in5k 0 1 (by decide) (by decide), z_b2_s, p_if0, if_pos h6]
    rw [e3, z_b1_s, p_hav hw.1 rfl m3 i3.1, if_neg (p_m1n h2), z_b2_s]
    exact y1
