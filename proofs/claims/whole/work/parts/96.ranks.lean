/-! PURE: the reference's findRanks -/
theorem p_alikeB {ν : z_M} {n : Nat} {C : Nat → Nat → Bool} (hM : mb ν n C) (hn : n < 4) {a b : Nat} (ha : a < 8) (hb : b < 8) : f_X5_areAlike (nI n) (nI a) (nI b) ν = some (p_b (k_al C a b), ν) := by
  have e1 := hM a b ha hb
  have e2 := hM b a hb ha
  unfold f_X5_areAlike
  simp only [p_ix3, nI_clamp (show 64 * n + (8 * a + b) < 2 ^ 31 by omega), nI_clamp (show 64 * n + (8 * b + a) < 2 ^ 31 by omega), e1, e2]
  rw [if_pos ⟨fun _ => p_zn (by omega) (by decide), fun _ _ => p_zn (by omega) (by decide)⟩]
  unfold p_b
  congr 2
  by_cases h : a = b
  · rw [if_pos (by rw [h]), if_pos (Or.inl h)]
  · rw [if_neg (fun q => h ((nI_eq (by omega) (by omega)).mp q))]
    by_cases g1 : C a b = true
    · by_cases g2 : C b a = true
      · rw [if_pos g1, if_pos g2, if_neg (show ¬ (1 : Int32) = 0 by decide), if_neg (show ¬ (1 : Int32) = 0 by decide), if_pos (Or.inr ⟨g1, g2⟩)]
      · rw [if_pos g1, if_neg g2, if_neg (show ¬ (1 : Int32) = 0 by decide), if_pos rfl, if_neg (fun z => z.elim h (fun y => g2 y.2))]
    · rw [if_neg g1, if_pos rfl, if_neg (fun z => z.elim h (fun y => g1 y.1))]
def sb1 (ν : z_M) (n : Nat) (s : Nat → Nat → Bool) : Prop := ∀ a b, a < 8 → b < 8 → ν.1 112 (64 * n + (8 * a + b)) = if s a b = true then 1 else 0
def mr (ν : z_M) (n : Nat) (r : Nat → Nat) : Prop := ∀ k, k < 8 → ν.1 113 (8 * n + k) = nI (r k)
section
variable {n : Nat} {C s : Nat → Nat → Bool} {H r0 : Nat → Nat} {ν : z_M}
theorem p_fr76 (hn : n < 4) (hM : mb ν n C) (hS : sb1 ν n s) (h7 : ∀ k, k < 8 → H k ≤ 7) (hH : ∀ j k, j < 8 → k < 8 → s j k = true ∧ ¬ k_al C j k → H j + 1 ≤ H k) {a : Nat} (ha : a < 8) (x2 : Int32) (K : Int32 → Int32 → Int32 → z_M → Option z_M) : ∀ c b fu ν1 r, b + c = 8 → c < fu → z_un [113] ν ν1 → kF n ν ν1 → mr ν1 n r → (∀ i, i < 8 → r0 i ≤ r i ∧ r i ≤ H i) → (∀ j' k', j' < 8 → k' < 8 → (j' < a ∨ (j' = a ∧ k' < b)) → s j' k' = true ∧ ¬ k_al C j' k' → r0 j' + 1 ≤ r k') → ∃ ν' r', z_un [113] ν ν' ∧ kF n ν ν' ∧ mr ν' n r' ∧ (∀ i, i < 8 → r0 i ≤ r' i ∧ r' i ≤ H i) ∧ (∀ j' k', j' < 8 → k' < 8 → j' < a + 1 → s j' k' = true ∧ ¬ k_al C j' k' → r0 j' + 1 ≤ r' k') ∧ g_X5_findRanks_76 K fu (nI n) x2 (nI a) (nI b) ν1 = K (nI n) x2 (nI (a + 1)) ν' := by
  intro c
  induction c with
  | zero =>
    intro b fu ν1 r hb hf hu hF hr hle hp
    obtain ⟨fu, rfl⟩ : ∃ q, fu = q + 1 := ⟨fu - 1, by omega⟩
    have eb : b = 8 := by omega
    subst eb
    refine ⟨ν1, r, hu, hF, hr, hle, fun j' k' h1 h2 h3 h4 => hp j' k' h1 h2 (by omega) h4, ?_⟩
    rw [g_X5_findRanks_76]
    rw [if_pos (show (8 : Int32) ≤ nI 8 by decide), nI_1]
  | succ c ih =>
    intro b fu ν1 r hb hf hu hF hr hle hp
    obtain ⟨fu, rfl⟩ : ∃ q, fu = q + 1 := ⟨fu - 1, by omega⟩
    have hb8 : b < 8 := by omega
    have hM1 : mb ν1 n C := fun i j hi hj => by rw [hu.1 103 (by decide)]; exact hM i j hi hj
    have e112 : ν1.1 112 (64 * n + (8 * a + b)) = if s a b = true then 1 else 0 := by rw [hu.1 112 (by decide)]; exact hS a b ha hb8
    have la := hle a ha
    have lb := hle b hb8
    have h7a := h7 a ha
    have h7b := h7 b hb8
    have ea8 : (8 : Int32) * nI n + nI a = nI (8 * n + a) := p_ix 8 n a
    have eb8 : (8 : Int32) * nI n + nI b = nI (8 * n + b) := p_ix 8 n b
    have skip : (∀ z : s a b = true ∧ ¬ k_al C a b, r0 a + 1 ≤ r b) → ∃ ν' r', z_un [113] ν ν' ∧ kF n ν ν' ∧ mr ν' n r' ∧ (∀ i, i < 8 → r0 i ≤ r' i ∧ r' i ≤ H i) ∧ (∀ j' k', j' < 8 → k' < 8 → j' < a + 1 → s j' k' = true ∧ ¬ k_al C j' k' → r0 j' + 1 ≤ r' k') ∧ g_X5_findRanks_76 K fu (nI n) x2 (nI a) (nI (b + 1)) ν1 = K (nI n) x2 (nI (a + 1)) ν' := by
      intro hD
      refine ih (b + 1) fu ν1 r (by omega) (by omega) hu hF hr hle (fun j' k' h1 h2 h3 h4 => ?_)
      by_cases e : j' = a ∧ k' = b
      · rw [e.1, e.2] at h4
        rw [e.1, e.2]
        exact hD h4
      · exact hp j' k' h1 h2 (by omega) h4
    rw [g_X5_findRanks_76]
    rw [if_neg (show ¬ (8 : Int32) ≤ nI b from p_nle (a := 8) hb8 (by decide)), p_ix3, p_g (show 64 * n + (8 * a + b) < 256 by omega) (by decide), p_alikeB hM1 hn ha hb8, z_b2_s, p_if0, ea8, eb8]
    simp only [nI_clamp (show 64 * n + (8 * a + b) < 2 ^ 31 by omega), e112, if_pos (p_zn (n := 8 * n + a) (N := 32) (by omega) (by decide)), if_pos (p_zn (n := 8 * n + b) (N := 32) (by omega) (by decide)), nI_clamp (show 8 * n + a < 2 ^ 31 by omega), nI_clamp (show 8 * n + b < 2 ^ 31 by omega), hr a ha, hr b hb8, z_st_s, nI_1]
    by_cases q : s a b = true
    · rw [if_pos q, if_neg (show ¬ (1 : Int32) = 0 by decide)]
      by_cases q2 : k_al C a b
      · rw [if_pos q2]
        exact skip (fun z => absurd q2 z.2)
      · rw [if_neg q2]
        have hHk := hH a b ha hb8 ⟨q, q2⟩
        by_cases q3 : r a < r b
        · rw [if_pos (nI_lt q3 (by omega))]
          exact skip (fun _ => by omega)
        · rw [if_neg (nI_nlt (by omega) (by omega))]
          refine ih (b + 1) fu _ (fun i => if i = b then r a + 1 else r i) (by omega) (by omega) (hu.si (by simp) _ _) (hF.si (Or.inl ⟨by omega, by omega, by omega⟩) _) (fun i hi => ?_) (fun i hi => ?_) (fun j' k' h1 h2 h3 h4 => ?_)
          · show _ = nI (if i = b then r a + 1 else r i)
            by_cases e : i = b
            · rw [if_pos e, e, p_si_at]
            · rw [if_neg e, p_si_nk (by omega)]
              exact hr i hi
          · show r0 i ≤ (if i = b then r a + 1 else r i) ∧ (if i = b then r a + 1 else r i) ≤ H i
            have := hle i hi
            by_cases e : i = b
            · rw [if_pos e]
              subst e
              omega
            · rw [if_neg e]
              exact this
          · show r0 j' + 1 ≤ (if k' = b then r a + 1 else r k')
            by_cases e : k' = b
            · rw [if_pos e]
              by_cases e2 : j' = a
              · rw [e2]
                omega
              · have := hp j' k' h1 h2 (by omega) h4
                rw [e] at this
                omega
            · rw [if_neg e]
              exact hp j' k' h1 h2 (by omega) h4
    · rw [if_neg q, if_pos rfl]
      exact skip (fun z => absurd z.1 q)
theorem p_lv10 (hn : n < 4) (hM : mb ν n C) (h7 : ∀ k, k < 8 → H k ≤ 7) (hH : ∀ j k, j < 8 → k < 8 → k_al C j k → H j ≤ H k) {a : Nat} (ha : a < 8) (K : Int32 → Int32 → z_M → Option z_M) : ∀ c b fu ν1 r, b + c = 8 → c < fu → z_un [113] ν ν1 → kF n ν ν1 → mr ν1 n r → (∀ i, i < 8 → r0 i ≤ r i ∧ r i ≤ H i) → (∀ j' k', j' < 8 → k' < 8 → (j' < a ∨ (j' = a ∧ k' < b)) → k_al C j' k' → r0 j' ≤ r k') → ∃ ν' r', z_un [113] ν ν' ∧ kF n ν ν' ∧ mr ν' n r' ∧ (∀ i, i < 8 → r0 i ≤ r' i ∧ r' i ≤ H i) ∧ (∀ j' k', j' < 8 → k' < 8 → j' < a + 1 → k_al C j' k' → r0 j' ≤ r' k') ∧ g_X5_levelRanks_10 K fu (nI n) (nI a) (nI b) ν1 = K (nI n) (nI (a + 1)) ν' := by
  intro c
  induction c with
  | zero =>
    intro b fu ν1 r hb hf hu hF hr hle hp
    obtain ⟨fu, rfl⟩ : ∃ q, fu = q + 1 := ⟨fu - 1, by omega⟩
    have eb : b = 8 := by omega
    subst eb
    refine ⟨ν1, r, hu, hF, hr, hle, fun j' k' h1 h2 h3 h4 => hp j' k' h1 h2 (by omega) h4, ?_⟩
    rw [g_X5_levelRanks_10]
    rw [if_pos (show (8 : Int32) ≤ nI 8 by decide), nI_1]
  | succ c ih =>
    intro b fu ν1 r hb hf hu hF hr hle hp
    obtain ⟨fu, rfl⟩ : ∃ q, fu = q + 1 := ⟨fu - 1, by omega⟩
    have hb8 : b < 8 := by omega
    have hM1 : mb ν1 n C := fun i j hi hj => by rw [hu.1 103 (by decide)]; exact hM i j hi hj
    have la := hle a ha
    have lb := hle b hb8
    have h7a := h7 a ha
    have h7b := h7 b hb8
    have ea8 : (8 : Int32) * nI n + nI a = nI (8 * n + a) := p_ix 8 n a
    have eb8 : (8 : Int32) * nI n + nI b = nI (8 * n + b) := p_ix 8 n b
    have skip : (k_al C a b → r0 a ≤ r b) → ∃ ν' r', z_un [113] ν ν' ∧ kF n ν ν' ∧ mr ν' n r' ∧ (∀ i, i < 8 → r0 i ≤ r' i ∧ r' i ≤ H i) ∧ (∀ j' k', j' < 8 → k' < 8 → j' < a + 1 → k_al C j' k' → r0 j' ≤ r' k') ∧ g_X5_levelRanks_10 K fu (nI n) (nI a) (nI (b + 1)) ν1 = K (nI n) (nI (a + 1)) ν' := by
      intro hD
      refine ih (b + 1) fu ν1 r (by omega) (by omega) hu hF hr hle (fun j' k' h1 h2 h3 h4 => ?_)
      by_cases e : j' = a ∧ k' = b
      · rw [e.1, e.2] at h4
        rw [e.1, e.2]
        exact hD h4
      · exact hp j' k' h1 h2 (by omega) h4
    rw [g_X5_levelRanks_10]
    rw [if_neg (show ¬ (8 : Int32) ≤ nI b from p_nle (a := 8) hb8 (by decide)), p_alikeB hM1 hn ha hb8, z_b2_s, p_if0, ea8, eb8]
    simp only [if_pos (p_zn (n := 8 * n + a) (N := 32) (by omega) (by decide)), if_pos (p_zn (n := 8 * n + b) (N := 32) (by omega) (by decide)), nI_clamp (show 8 * n + a < 2 ^ 31 by omega), nI_clamp (show 8 * n + b < 2 ^ 31 by omega), hr a ha, hr b hb8, z_st_s, nI_1]
    by_cases q2 : k_al C a b
    · rw [if_pos q2]
      have hHk := hH a b ha hb8 q2
      by_cases q3 : r a ≤ r b
      · rw [if_pos (nI_le q3 (by omega))]
        exact skip (fun _ => by omega)
      · rw [if_neg (nI_ge (by omega) (by omega))]
        refine ih (b + 1) fu _ (fun i => if i = b then r a else r i) (by omega) (by omega) (hu.si (by simp) _ _) (hF.si (Or.inl ⟨by omega, by omega, by omega⟩) _) (fun i hi => ?_) (fun i hi => ?_) (fun j' k' h1 h2 h3 h4 => ?_)
        · show _ = nI (if i = b then r a else r i)
          by_cases e : i = b
          · rw [if_pos e, e, p_si_at]
          · rw [if_neg e, p_si_nk (by omega)]
            exact hr i hi
        · show r0 i ≤ (if i = b then r a else r i) ∧ (if i = b then r a else r i) ≤ H i
          have := hle i hi
          by_cases e : i = b
          · rw [if_pos e]
            subst e
            omega
          · rw [if_neg e]
            exact this
        · show r0 j' ≤ (if k' = b then r a else r k')
          by_cases e : k' = b
          · rw [if_pos e]
            by_cases e2 : j' = a
            · rw [e2]
              omega
            · have := hp j' k' h1 h2 (by omega) h4
              rw [e] at this
              omega
          · rw [if_neg e]
            exact hp j' k' h1 h2 (by omega) h4
    · rw [if_neg q2]
      exact skip (fun z => absurd z q2)
theorem p_lv (hn : n < 4) (hM : mb ν n C) (h7 : ∀ k, k < 8 → H k ≤ 7) (hH : ∀ j k, j < 8 → k < 8 → k_al C j k → H j ≤ H k) (hr0 : mr ν n r0) (hle0 : ∀ i, i < 8 → r0 i ≤ H i) : ∃ ν' r', f_X5_levelRanks (nI n) ν = some ν' ∧ z_un [113] ν ν' ∧ kF n ν ν' ∧ mr ν' n r' ∧ (∀ i, i < 8 → r0 i ≤ r' i ∧ r' i ≤ H i) ∧ (∀ j k, j < 8 → k < 8 → k_al C j k → r0 j ≤ r' k) := by
  have hN : z_N = 5000 := rfl
  have key : ∀ c a fu ν1 r, a + c = 8 → c < fu → z_un [113] ν ν1 → kF n ν ν1 → mr ν1 n r → (∀ i, i < 8 → r0 i ≤ r i ∧ r i ≤ H i) → (∀ j' k', j' < 8 → k' < 8 → j' < a → k_al C j' k' → r0 j' ≤ r k') → ∃ ν' r', g_X5_levelRanks_2 fu (nI n) (nI a) ν1 = some ν' ∧ z_un [113] ν ν' ∧ kF n ν ν' ∧ mr ν' n r' ∧ (∀ i, i < 8 → r0 i ≤ r' i ∧ r' i ≤ H i) ∧ (∀ j k, j < 8 → k < 8 → k_al C j k → r0 j ≤ r' k) := by
    intro c
    induction c with
    | zero =>
      intro a fu ν1 r ha hf hu hF hr hle hp
      obtain ⟨fu, rfl⟩ : ∃ q, fu = q + 1 := ⟨fu - 1, by omega⟩
      have ea : a = 8 := by omega
      subst ea
      refine ⟨ν1, r, ?_, hu, hF, hr, hle, fun j k h1 h2 h3 => hp j k h1 h2 h1 h3⟩
      rw [g_X5_levelRanks_2]
      rw [if_pos (show (8 : Int32) ≤ nI 8 by decide)]
    | succ c ih =>
      intro a fu ν1 r ha hf hu hF hr hle hp
      obtain ⟨fu, rfl⟩ : ∃ q, fu = q + 1 := ⟨fu - 1, by omega⟩
      obtain ⟨ν2, r2, u2, F2, k2, l2, p2, e2⟩ := p_lv10 (ν := ν) hn hM h7 hH (a := a) (by omega) (fun (y13 : Int32) (y14 : Int32) (μ11 : z_M) => (g_X5_levelRanks_2 fu (y13) (y14) μ11)) 8 0 z_N ν1 r (by omega) (by omega) hu hF hr hle (fun j' k' h1 h2 h3 h4 => hp j' k' h1 h2 (by omega) h4)
      obtain ⟨ν', r', y1, y2, y3, y4, y5, y6⟩ := ih (a + 1) fu ν2 r2 (by omega) (by omega) u2 F2 k2 l2 p2
      refine ⟨ν', r', ?_, y2, y3, y4, y5, y6⟩
      rw [g_X5_levelRanks_2]
      rw [if_neg (show ¬ (8 : Int32) ≤ nI a from p_nle (a := 8) (by omega) (by decide))]
      rw [nI_0] at e2
      exact e2.trans y1
  unfold f_X5_levelRanks
  exact key 8 0 z_N ν r0 (by omega) (by omega) (z_un.rf _ _) (kF.rf n ν) hr0 (fun i hi => ⟨Nat.le_refl _, hle0 i hi⟩) (fun j' k' h1 h2 h3 => by omega)
theorem p_fr67 (hn : n < 4) (hM : mb ν n C) (hS : sb1 ν n s) (h7 : ∀ k, k < 8 → H k ≤ 7) (hH : ∀ j k, j < 8 → k < 8 → s j k = true ∧ ¬ k_al C j k → H j + 1 ≤ H k) (hA : ∀ j k, j < 8 → k < 8 → k_al C j k → H j ≤ H k) (hr0 : mr ν n r0) (hle0 : ∀ i, i < 8 → r0 i ≤ H i) (t : Nat) (K : Int32 → Int32 → z_M → Option z_M) : ∃ (ν' : z_M) (r1 r2 : Nat → Nat), z_un [113] ν ν' ∧ kF n ν ν' ∧ mr ν' n r2 ∧ (∀ i, i < 8 → r0 i ≤ r1 i ∧ r1 i ≤ r2 i ∧ r2 i ≤ H i) ∧ (∀ j k, j < 8 → k < 8 → s j k = true ∧ ¬ k_al C j k → r0 j + 1 ≤ r1 k) ∧ (∀ j k, j < 8 → k < 8 → k_al C j k → r1 j ≤ r2 k) ∧ g_X5_findRanks_67 K z_N (nI n) (nI t) 0 ν = K (nI n) (nI (t + 1)) ν' := by
  have hN : z_N = 5000 := rfl
  have key : ∀ c a fu ν1 r, a + c = 8 → c < fu → z_un [113] ν ν1 → kF n ν ν1 → mr ν1 n r → (∀ i, i < 8 → r0 i ≤ r i ∧ r i ≤ H i) → (∀ j' k', j' < 8 → k' < 8 → j' < a → s j' k' = true ∧ ¬ k_al C j' k' → r0 j' + 1 ≤ r k') → ∃ (ν' : z_M) (r1 r2 : Nat → Nat), z_un [113] ν ν' ∧ kF n ν ν' ∧ mr ν' n r2 ∧ (∀ i, i < 8 → r0 i ≤ r1 i ∧ r1 i ≤ r2 i ∧ r2 i ≤ H i) ∧ (∀ j k, j < 8 → k < 8 → s j k = true ∧ ¬ k_al C j k → r0 j + 1 ≤ r1 k) ∧ (∀ j k, j < 8 → k < 8 → k_al C j k → r1 j ≤ r2 k) ∧ g_X5_findRanks_67 K fu (nI n) (nI t) (nI a) ν1 = K (nI n) (nI (t + 1)) ν' := by
    intro c
    induction c with
    | zero =>
      intro a fu ν1 r ha hf hu hF hr hle hp
      obtain ⟨fu, rfl⟩ : ∃ q, fu = q + 1 := ⟨fu - 1, by omega⟩
      have ea : a = 8 := by omega
      subst ea
      have hM1 : mb ν1 n C := fun i j hi hj => by rw [hu.1 103 (by decide)]; exact hM i j hi hj
      obtain ⟨ν2, r2, e2, u2, F2, k2, l2, p2⟩ := p_lv (ν := ν1) (r0 := r) hn hM1 h7 hA hr (fun i hi => (hle i hi).2)
      refine ⟨ν2, r, r2, hu.tr u2, hF.tr F2, k2, fun i hi => ⟨(hle i hi).1, (l2 i hi).1, (l2 i hi).2⟩, fun j k h1 h2 h3 => hp j k h1 h2 h1 h3, p2, ?_⟩
      rw [g_X5_findRanks_67]
      rw [if_pos (show (8 : Int32) ≤ nI 8 by decide), e2, z_b1_s, nI_1]
    | succ c ih =>
      intro a fu ν1 r ha hf hu hF hr hle hp
      obtain ⟨fu, rfl⟩ : ∃ q, fu = q + 1 := ⟨fu - 1, by omega⟩
      obtain ⟨ν2, r2, u2, F2, k2, l2, p2, e2⟩ := p_fr76 (ν := ν) hn hM hS h7 hH (a := a) (by omega) (nI t) (fun (y19 : Int32) (y20 : Int32) (y21 : Int32) (μ17 : z_M) => (g_X5_findRanks_67 K fu (y19) (y20) (y21) μ17)) 8 0 z_N ν1 r (by omega) (by omega) hu hF hr hle (fun j' k' h1 h2 h3 h4 => hp j' k' h1 h2 (by omega) h4)
      obtain ⟨ν', q1, q2, y2, y3, y4, y5, y6, y7, y8⟩ := ih (a + 1) fu ν2 r2 (by omega) (by omega) u2 F2 k2 l2 p2
      refine ⟨ν', q1, q2, y2, y3, y4, y5, y6, y7, ?_⟩
      rw [g_X5_findRanks_67]
      rw [if_neg (show ¬ (8 : Int32) ≤ nI a from p_nle (a := 8) (by omega) (by decide))]
      rw [nI_0] at e2
      exact e2.trans y8
  have := key 8 0 z_N ν r0 (by omega) (by omega) (z_un.rf _ _) (kF.rf n ν) hr0 (fun i hi => ⟨Nat.le_refl _, hle0 i hi⟩) (fun j' k' h1 h2 h3 => by omega)
  rw [nI_0] at this
  exact this
end
