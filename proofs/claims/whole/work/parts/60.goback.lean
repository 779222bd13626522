/-! PURE: goBack -/
def q_un (μ : z_M) (b a k : Nat) : Int32 :=
  if a = 98 then (if k = 24 then μ.1 134 b else μ.1 134 (b + 1)) else if a = 114 then μ.1 134 (b + 2 + k) else if a = 115 then μ.1 134 (b + 8 + k) else if a = 116 then μ.1 134 (b + 14 + k) else if a = 117 then μ.1 134 (b + 28 + k) else if a = 118 then μ.1 134 (b + 42 + k) else if a = 119 then μ.1 134 (b + 56 + k) else if a = 120 then ((if μ.1 134 (b + 70 + k) = 1 then (1 : Int32) else 0) &&& 1) else if a = 121 then μ.1 134 (b + 84 + k) else if a = 122 then μ.1 134 (b + 98 + k) else if a = 124 then μ.1 134 (b + 112 + k) else μ.1 134 (b + 117 + k)
def q_G (i1 i2 i3 i4 : Nat) : Nat → Nat → Prop := fun a k => (a = 98 ∧ (k = 24 ∨ k = 27)) ∨ ((a = 114 ∨ a = 115) ∧ k < i1) ∨ (116 ≤ a ∧ a ≤ 122 ∧ k < i2) ∨ (a = 124 ∧ k < i3) ∨ (a = 125 ∧ k < i4)
theorem q_Gs {i a k : Nat} : q_G 6 (i + 1) 0 0 a k ↔ (((((((q_G 6 i 0 0 a k ∨ (a = 116 ∧ k = i)) ∨ (a = 117 ∧ k = i)) ∨ (a = 118 ∧ k = i)) ∨ (a = 119 ∧ k = i)) ∨ (a = 120 ∧ k = i)) ∨ (a = 121 ∧ k = i)) ∨ (a = 122 ∧ k = i)) := by
  by_cases hk : k = i
  · subst hk
    simp only [and_true]
    unfold q_G
    constructor
    · intro h
      by_cases ha : 116 ≤ a ∧ a ≤ 122
      · have : a = 116 ∨ a = 117 ∨ a = 118 ∨ a = 119 ∨ a = 120 ∨ a = 121 ∨ a = 122 := by omega
        rcases this with e | e | e | e | e | e | e <;> simp [e]
      · iterate 7 apply Or.inl
        rcases h with h | h | h | h | h
        · exact Or.inl h
        · exact Or.inr (Or.inl h)
        · exact absurd ⟨h.1, h.2.1⟩ ha
        · exact Or.inr (Or.inr (Or.inr (Or.inl h)))
        · exact Or.inr (Or.inr (Or.inr (Or.inr h)))
    · intro h
      rcases h with ((((((h | h) | h) | h) | h) | h) | h) | h
      · rcases h with h | h | h | h | h
        · exact Or.inl h
        · exact Or.inr (Or.inl h)
        · exact Or.inr (Or.inr (Or.inl ⟨h.1, h.2.1, by omega⟩))
        · exact Or.inr (Or.inr (Or.inr (Or.inl h)))
        · exact Or.inr (Or.inr (Or.inr (Or.inr h)))
      all_goals exact Or.inr (Or.inr (Or.inl ⟨by omega, by omega, by omega⟩))
  · simp only [hk, and_false, or_false]
    unfold q_G
    constructor
    · intro h
      rcases h with h | h | h | h | h
      · exact Or.inl h
      · exact Or.inr (Or.inl h)
      · exact Or.inr (Or.inr (Or.inl ⟨h.1, h.2.1, by omega⟩))
      · exact Or.inr (Or.inr (Or.inr (Or.inl h)))
      · exact Or.inr (Or.inr (Or.inr (Or.inr h)))
    · intro h
      rcases h with h | h | h | h | h
      · exact Or.inl h
      · exact Or.inr (Or.inl h)
      · exact Or.inr (Or.inr (Or.inl ⟨h.1, h.2.1, by omega⟩))
      · exact Or.inr (Or.inr (Or.inr (Or.inl h)))
      · exact Or.inr (Or.inr (Or.inr (Or.inr h)))
theorem p_goB273 {μ : z_M} {b : Nat} (hb : b ≤ 150) : ∀ m i n μ', i + m = 3 → m < n → q_w μ (q_un μ b) (q_G 6 14 5 i) μ' → ∃ μ'', q_w μ (q_un μ b) (q_G 6 14 5 3) μ'' ∧ g_X5_goBack_273 n (nI b) (nI i) μ' = some (1, μ'') := by
  intro m
  induction m with
  | zero =>
    intro i n μ' hi hm h
    obtain ⟨n, rfl⟩ : ∃ q, n = q + 1 := ⟨n - 1, by omega⟩
    have ei : i = 3 := by omega
    subst ei
    refine ⟨μ', h, ?_⟩
    unfold g_X5_goBack_273
    rw [if_pos (by decide)]
  | succ m ih =>
    intro i n μ' hi hm h
    obtain ⟨n, rfl⟩ : ∃ q, n = q + 1 := ⟨n - 1, by omega⟩
    have r : μ'.1 134 = μ.1 134 := h.ne (fun k w => by unfold q_G at w; omega)
    have q := (h.st 125 i (x := q_un μ b 125 i) rfl).mono (W' := q_G 6 14 5 (i + 1)) (fun a k => by unfold q_G; omega)
    obtain ⟨μ'', h1, h2⟩ := ih (i + 1) n _ (by omega) (by omega) q
    refine ⟨μ'', h1, ?_⟩
    unfold g_X5_goBack_273
    rw [if_neg (show ¬ (3 : Int32) ≤ nI i from p_nle (a := 3) (by omega) (by decide))]
    simp only [if_pos (p_zn (n := i) (N := 3) (by omega) (by decide)), nI_clamp (show i < 2 ^ 31 by omega), p_off b i 117 117 rfl, if_pos (p_zn (n := b + 117 + i) (N := 300) (by omega) (by decide)), nI_clamp (show b + 117 + i < 2 ^ 31 by omega), z_st, r, nI_1]
    exact h2
theorem p_goB243 {μ : z_M} {b : Nat} (hb : b ≤ 150) : ∀ m i n μ', i + m = 5 → m < n → q_w μ (q_un μ b) (q_G 6 14 i 0) μ' → ∃ μ'', q_w μ (q_un μ b) (q_G 6 14 5 3) μ'' ∧ g_X5_goBack_243 n (nI b) (nI i) μ' = some (1, μ'') := by
  intro m
  induction m with
  | zero =>
    intro i n μ' hi hm h
    obtain ⟨n, rfl⟩ : ∃ q, n = q + 1 := ⟨n - 1, by omega⟩
    have ei : i = 5 := by omega
    subst ei
    obtain ⟨μ'', h1, h2⟩ := p_goB273 hb 3 0 z_N μ' (by omega) (by decide) h
    refine ⟨μ'', h1, ?_⟩
    unfold g_X5_goBack_243
    rw [if_pos (by decide)]
    exact h2
  | succ m ih =>
    intro i n μ' hi hm h
    obtain ⟨n, rfl⟩ : ∃ q, n = q + 1 := ⟨n - 1, by omega⟩
    have r : μ'.1 134 = μ.1 134 := h.ne (fun k w => by unfold q_G at w; omega)
    have q := (h.st 124 i (x := q_un μ b 124 i) rfl).mono (W' := q_G 6 14 (i + 1) 0) (fun a k => by unfold q_G; omega)
    obtain ⟨μ'', h1, h2⟩ := ih (i + 1) n _ (by omega) (by omega) q
    refine ⟨μ'', h1, ?_⟩
    unfold g_X5_goBack_243
    rw [if_neg (show ¬ (5 : Int32) ≤ nI i from p_nle (a := 5) (by omega) (by decide))]
    simp only [if_pos (p_zn (n := i) (N := 5) (by omega) (by decide)), nI_clamp (show i < 2 ^ 31 by omega), p_off b i 112 112 rfl, if_pos (p_zn (n := b + 112 + i) (N := 300) (by omega) (by decide)), nI_clamp (show b + 112 + i < 2 ^ 31 by omega), z_st, r, nI_1]
    exact h2
theorem p_goB101 {μ : z_M} {b : Nat} (hb : b ≤ 150) : ∀ m i n μ', i + m = 14 → m < n → q_w μ (q_un μ b) (q_G 6 i 0 0) μ' → ∃ μ'', q_w μ (q_un μ b) (q_G 6 14 5 3) μ'' ∧ g_X5_goBack_101 n (nI b) (nI i) μ' = some (1, μ'') := by
  intro m
  induction m with
  | zero =>
    intro i n μ' hi hm h
    obtain ⟨n, rfl⟩ : ∃ q, n = q + 1 := ⟨n - 1, by omega⟩
    have ei : i = 14 := by omega
    subst ei
    obtain ⟨μ'', h1, h2⟩ := p_goB243 hb 5 0 z_N μ' (by omega) (by decide) h
    refine ⟨μ'', h1, ?_⟩
    unfold g_X5_goBack_101
    rw [if_pos (by decide)]
    exact h2
  | succ m ih =>
    intro i n μ' hi hm h
    obtain ⟨n, rfl⟩ : ∃ q, n = q + 1 := ⟨n - 1, by omega⟩
    have r : μ'.1 134 = μ.1 134 := h.ne (fun k w => by unfold q_G at w; omega)
    have q := (((((((h.st 116 i (x := q_un μ b 116 i) rfl).st 117 i (x := q_un μ b 117 i) rfl).st 118 i (x := q_un μ b 118 i) rfl).st 119 i (x := q_un μ b 119 i) rfl).st 120 i (x := q_un μ b 120 i) rfl).st 121 i (x := q_un μ b 121 i) rfl).st 122 i (x := q_un μ b 122 i) rfl).mono (W' := q_G 6 (i + 1) 0 0) (fun a k => q_Gs)
    obtain ⟨μ'', h1, h2⟩ := ih (i + 1) n _ (by omega) (by omega) q
    refine ⟨μ'', h1, ?_⟩
    unfold g_X5_goBack_101
    rw [if_neg (show ¬ (14 : Int32) ≤ nI i from p_nle (a := 14) (by omega) (by decide))]
    simp only [if_pos (p_zn (n := i) (N := 15) (by omega) (by decide)), nI_clamp (show i < 2 ^ 31 by omega), p_off b i 14 14 rfl, if_pos (p_zn (n := b + 14 + i) (N := 300) (by omega) (by decide)), nI_clamp (show b + 14 + i < 2 ^ 31 by omega), p_off b i 28 28 rfl, if_pos (p_zn (n := b + 28 + i) (N := 300) (by omega) (by decide)), nI_clamp (show b + 28 + i < 2 ^ 31 by omega), p_off b i 42 42 rfl, if_pos (p_zn (n := b + 42 + i) (N := 300) (by omega) (by decide)), nI_clamp (show b + 42 + i < 2 ^ 31 by omega), p_off b i 56 56 rfl, if_pos (p_zn (n := b + 56 + i) (N := 300) (by omega) (by decide)), nI_clamp (show b + 56 + i < 2 ^ 31 by omega), p_off b i 70 70 rfl, if_pos (p_zn (n := b + 70 + i) (N := 300) (by omega) (by decide)), nI_clamp (show b + 70 + i < 2 ^ 31 by omega), p_off b i 84 84 rfl, if_pos (p_zn (n := b + 84 + i) (N := 300) (by omega) (by decide)), nI_clamp (show b + 84 + i < 2 ^ 31 by omega), p_off b i 98 98 rfl, if_pos (p_zn (n := b + 98 + i) (N := 300) (by omega) (by decide)), nI_clamp (show b + 98 + i < 2 ^ 31 by omega), z_st, p_si_ne (show (134 : Nat) ≠ 116 by decide), p_si_ne (show (134 : Nat) ≠ 117 by decide), p_si_ne (show (134 : Nat) ≠ 118 by decide), p_si_ne (show (134 : Nat) ≠ 119 by decide), p_si_ne (show (134 : Nat) ≠ 120 by decide), p_si_ne (show (134 : Nat) ≠ 121 by decide), r, nI_1]
    exact h2
theorem p_goB54 {μ : z_M} {b : Nat} (hb : b ≤ 150) : ∀ m i n μ', i + m = 6 → m < n → q_w μ (q_un μ b) (q_G i 0 0 0) μ' → ∃ μ'', q_w μ (q_un μ b) (q_G 6 14 5 3) μ'' ∧ g_X5_goBack_54 n (nI b) (nI i) μ' = some (1, μ'') := by
  intro m
  induction m with
  | zero =>
    intro i n μ' hi hm h
    obtain ⟨n, rfl⟩ : ∃ q, n = q + 1 := ⟨n - 1, by omega⟩
    have ei : i = 6 := by omega
    subst ei
    obtain ⟨μ'', h1, h2⟩ := p_goB101 hb 14 0 z_N μ' (by omega) (by decide) h
    refine ⟨μ'', h1, ?_⟩
    unfold g_X5_goBack_54
    rw [if_pos (by decide)]
    exact h2
  | succ m ih =>
    intro i n μ' hi hm h
    obtain ⟨n, rfl⟩ : ∃ q, n = q + 1 := ⟨n - 1, by omega⟩
    have r : μ'.1 134 = μ.1 134 := h.ne (fun k w => by unfold q_G at w; omega)
    have q := ((h.st 114 i (x := q_un μ b 114 i) rfl).st 115 i (x := q_un μ b 115 i) rfl).mono (W' := q_G (i + 1) 0 0 0) (fun a k => by unfold q_G; omega)
    obtain ⟨μ'', h1, h2⟩ := ih (i + 1) n _ (by omega) (by omega) q
    refine ⟨μ'', h1, ?_⟩
    unfold g_X5_goBack_54
    rw [if_neg (show ¬ (6 : Int32) ≤ nI i from p_nle (a := 6) (by omega) (by decide))]
    simp only [if_pos (p_zn (n := i) (N := 7) (by omega) (by decide)), nI_clamp (show i < 2 ^ 31 by omega), p_off b i 2 2 rfl, if_pos (p_zn (n := b + 2 + i) (N := 300) (by omega) (by decide)), nI_clamp (show b + 2 + i < 2 ^ 31 by omega), p_off b i 8 8 rfl, if_pos (p_zn (n := b + 8 + i) (N := 300) (by omega) (by decide)), nI_clamp (show b + 8 + i < 2 ^ 31 by omega), z_st, p_si_ne (show (134 : Nat) ≠ 114 by decide), r, nI_1]
    exact h2
theorem q_G.ship {ν μ'' : z_M} {s : a_S} {b : Nat} (hs : w_ship s) (mi : m_img ν b s) (h : q_w ν (q_un ν b) (q_G 6 14 5 3) μ'') : m_ship μ'' s := by
  have h14 : s.2.1 ≤ 14 := hs.2.1
  have h6 : s.1 ≤ 6 := hs.1
  obtain ⟨m1, m2, m3, m4, m5, m6⟩ := mi
  have T : ∀ a k, q_G 6 14 5 3 a k → μ''.1 a k = q_un ν b a k := h.1
  refine ⟨?_, ?_, fun k hk => ?_, fun k hk => ?_, fun k hk => ?_, fun k hk => ?_⟩
  · rw [T 98 24 (by unfold q_G; omega)]
    exact m1
  · rw [T 98 27 (by unfold q_G; omega)]
    exact m2
  · rw [T 114 k (by unfold q_G; omega), T 115 k (by unfold q_G; omega)]
    exact m3 k hk
  · obtain ⟨n1, n2, n3, n4, n5, n6, n7⟩ := m4 k hk
    have w7 := (hs.2.2.2.1 k hk).2.2.2.2.1
    have e7 : ((if ν.1 134 (b + 70 + k) = 1 then (1 : Int32) else 0) &&& 1) = s.2.2 7 k := by
      rw [n5]
      rcases w7 with e | e <;> rw [e] <;> decide
    rw [T 116 k (by unfold q_G; omega), T 117 k (by unfold q_G; omega), T 118 k (by unfold q_G; omega), T 119 k (by unfold q_G; omega), T 120 k (by unfold q_G; omega), T 121 k (by unfold q_G; omega), T 122 k (by unfold q_G; omega)]
    exact ⟨n1, n2, n3, n4, e7, n6, n7⟩
  · rw [T 124 k (by unfold q_G; omega)]
    exact m5 k hk
  · rw [T 125 k (by unfold q_G; omega)]
    exact m6 k hk
theorem s_30 : zs_30 Inv0 := by
  rintro μ ⟨A, hw, hC, hM⟩ x
  by_cases h1 : p_in x 0 1
  case neg => exact p_look hw hC hM (r := -1001) (by unfold f_X4_goBack; rw [p_isImage4, z_b2_s, p_if0, if_neg h1]) (fun ν hν => by unfold f_X5_goBack; rw [p_isImage5, z_b2_s, p_if0, if_neg h1])
  obtain ⟨j, rfl, hj, hj'⟩ := p_nat h1
  have hj2 : j < 2 := by omega
  have hz : z_in (nI j) 2 := p_zn hj2 (by decide)
  have hk := (hw.2.1 j hj2).1
  have ws := (hw.2.1 j hj2).2
  rcases hk with e0 | e1
  · refine p_look hw hC hM (r := -1003) ?_ (fun ν hν => ?_)
    · unfold f_X4_goBack
      rw [p_isImage4, z_b2_s, p_if0, if_pos h1]
      simp only [if_pos hz, nI_clamp hj', (hC.2.1 j hj2).1, e0, if_true]
    · unfold f_X5_goBack
      rw [p_isImage5, z_b2_s, p_if0, if_pos h1]
      simp only [if_pos hz, nI_clamp hj', (hν.2.2.1 j hj2).1, e0, if_true]
  · obtain ⟨μ1, e2, b1⟩ := p_become (μ := μ) (o := 4) (o1 := 76 + 11 * j) (by omega)
    refine p_step (A' := (A.2.2.1 j, A.2)) (r := 1) hC hM ⟨ws, hw.2⟩ ⟨μ1, ?_, hC.ship (b1.ship ws ((hC.2.1 j hj2).2 e1)) (fun i hi => b1.2.2.1 i (by omega)) (by rw [b1.2.2.2]), fun i hi => b1.2.2.1 i (by omega)⟩ (fun ν hν => ?_)
    · unfold f_X4_goBack
      rw [p_isImage4, z_b2_s, p_if0, if_pos h1]
      simp only [if_pos hz, nI_clamp hj', (hC.2.1 j hj2).1, e1, if_neg (show ¬ (1 : Int32) = 0 by decide), hC.2.2.2.2.2.2.2.1 j hj2, Option.bind_some, e2, z_b1_s]
    · have q0 := ((q_w.refl ν (q_un ν (150 * j))).st 98 24 (x := ν.1 134 (150 * j)) rfl).st 98 27 (x := ν.1 134 (150 * j + 1)) rfl
      have q1 := q0.mono (W' := q_G 0 0 0 0) (fun a k => by
        show q_G 0 0 0 0 a k ↔ ((False ∨ (a = 98 ∧ k = 24)) ∨ (a = 98 ∧ k = 27))
        rw [false_or]
        unfold q_G
        omega)
      obtain ⟨μ'', k1, k2⟩ := p_goB54 (b := 150 * j) (by omega) 6 0 z_N _ (by omega) (by decide) q1
      have kn : ∀ a, a < 98 ∨ 98 < a ∧ a < 114 ∨ a = 123 ∨ 125 < a → μ''.1 a = ν.1 a := fun a ha => k1.ne (fun k w => by unfold q_G at w; omega)
      refine ⟨μ'', ?_, hν.ship (q_G.ship ws ((hν.2.2.1 j hj2).2 e1) k1) ?_ (fun i hi => ?_) ?_ ?_, fun i hi => kn i (by omega), ?_⟩
      · unfold f_X5_goBack
        rw [p_isImage5, z_b2_s, p_if0, if_pos h1]
        have e150 : (150 : Int32) * nI j = nI (150 * j) := nI_mul 150 j
        have e151 : nI (150 * j) + 1 = nI (150 * j + 1) := nI_1 _
        simp only [if_pos hz, nI_clamp hj', (hν.2.2.1 j hj2).1, e1, if_neg (show ¬ (1 : Int32) = 0 by decide), z_lt, e150, e151, if_pos (p_zn (n := 150 * j) (N := 300) (by omega) (by decide)), if_pos (p_zn (n := 150 * j + 1) (N := 300) (by omega) (by decide)), nI_clamp (show 150 * j < 2 ^ 31 by omega), nI_clamp (show 150 * j + 1 < 2 ^ 31 by omega), z_st, p_si_ne (show (134 : Nat) ≠ 98 by decide)]
        exact k2
      · rw [kn 123 (by omega)]
        exact hν.2.1
      · simp only [List.mem_cons, List.not_mem_nil, or_false] at hi
        exact kn i (by omega)
      · exact k1.2.1 98 13 (by unfold q_G; omega)
      · exact k1.2.1 98 14 (by unfold q_G; omega)
      · rw [k1.2.2]
