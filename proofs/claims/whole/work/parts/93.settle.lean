/-! PURE: Law.settle -/
theorem p_bit_or2 (x y : Int32) {k : Nat} (hk : k < 32) : p_bit (x ||| y) k = if p_bit x k = 1 ∨ p_bit y k = 1 then 1 else 0 := by
  rw [p_bit_bt _ hk, p_bit_bt _ hk, p_bit_bt _ hk, b_or]
  cases bt x k <;> cases bt y k <;> decide
def rb (μ : z_M) (o : Nat) (g : Nat → Nat → Bool) : Prop := ∀ a b, a < 8 → b < 8 → p_bit (μ.1 (o + 3) a) b = if g a b = true then 1 else 0
theorem b01 {g : Bool} : (if g = true then (1 : Int32) else 0) = 1 ↔ g = true := by
  cases g <;> decide
theorem p_fo10 {o m : Nat} {G : Nat → Nat → Bool} {μ : z_M} (hm : m < 8) (K : Int32 → z_M → Option z_M) : ∀ c a fu μ1, a + c = 8 → c < fu → z_un [o + 3] μ μ1 → (∀ i b, i < 8 → b < 8 → p_bit (μ1.1 (o + 3) i) b = if (if i < a then cl_st m G i b else G i b) = true then 1 else 0) → ∃ μ', z_un [o + 3] μ μ' ∧ rb μ' o (cl_st m G) ∧ g_X0_followSteps_10 o K fu (nI m) (nI a) μ1 = K (nI (m + 1)) μ' := by
  intro c
  induction c with
  | zero =>
    intro a fu μ1 ha hf hu hb
    obtain ⟨fu, rfl⟩ : ∃ q, fu = q + 1 := ⟨fu - 1, by omega⟩
    have ea : a = 8 := by omega
    subst ea
    refine ⟨μ1, hu, fun i b hi hb' => ?_, ?_⟩
    · rw [hb i b hi hb', if_pos hi]
    · rw [g_X0_followSteps_10]
      rw [if_pos (show (8 : Int32) ≤ nI 8 by decide), nI_1]
  | succ c ih =>
    intro a fu μ1 ha hf hu hb
    obtain ⟨fu, rfl⟩ : ∃ q, fu = q + 1 := ⟨fu - 1, by omega⟩
    have ha8 : a < 8 := by omega
    have rm : ∀ b, b < 8 → p_bit (μ1.1 (o + 3) m) b = if G m b = true then 1 else 0 := by
      intro b hb'
      rw [hb m b hm hb']
      by_cases q : m < a
      · rw [if_pos q]
        unfold cl_st
        cases G m b <;> cases G m m <;> rfl
      · rw [if_neg q]
    have ra : ∀ b, b < 8 → p_bit (μ1.1 (o + 3) a) b = if G a b = true then 1 else 0 := by
      intro b hb'
      rw [hb a b ha8 hb', if_neg (show ¬ a < a by omega)]
    rw [g_X0_followSteps_10]
    rw [if_neg (show ¬ (8 : Int32) ≤ nI a from p_nle (a := 8) ha8 (by decide))]
    simp only [if_pos (p_zn (n := a) (N := 8) ha8 (by decide)), if_pos (p_zn (n := m) (N := 8) hm (by decide)), nI_clamp (show a < 2 ^ 31 by omega), nI_clamp (show m < 2 ^ 31 by omega), p_bitE, ra m hm, z_b2_s, z_st_s, nI_1]
    by_cases q : G a m = true
    · rw [if_pos q, if_pos (show (1 : Int32) = 1 from rfl)]
      refine ih (a + 1) fu _ (by omega) (by omega) (hu.si (by simp) _ _) (fun i b hi hb' => ?_)
      by_cases e : i = a
      · rw [e, p_si_at, if_pos (show a < a + 1 by omega), p_bit_or2 _ _ (by omega), ra b hb', rm b hb']
        unfold cl_st
        rw [q]
        cases G a b <;> cases G m b <;> decide
      · rw [p_si_nk e, hb i b hi hb']
        by_cases z : i < a
        · rw [if_pos z, if_pos (show i < a + 1 by omega)]
        · rw [if_neg z, if_neg (show ¬ i < a + 1 by omega)]
    · rw [if_neg q, if_neg (show ¬ (0 : Int32) = 1 by decide)]
      refine ih (a + 1) fu _ (by omega) (by omega) hu (fun i b hi hb' => ?_)
      by_cases e : i = a
      · rw [e, ra b hb', if_pos (show a < a + 1 by omega)]
        unfold cl_st
        rw [show G a m = false by simpa using q, Bool.false_and, Bool.or_false]
      · rw [hb i b hi hb']
        by_cases z : i < a
        · rw [if_pos z, if_pos (show i < a + 1 by omega)]
        · rw [if_neg z, if_neg (show ¬ i < a + 1 by omega)]
theorem p_fo {o : Nat} {s : Nat → Nat → Bool} {μ : z_M} (h : rb μ o s) : ∃ μ', f_X0_followSteps o μ = some μ' ∧ z_un [o + 3] μ μ' ∧ rb μ' o (cl s 8) := by
  have hN : z_N = 5000 := rfl
  have key : ∀ c m fu μ1, m + c = 8 → c < fu → z_un [o + 3] μ μ1 → rb μ1 o (cl s m) → ∃ μ', g_X0_followSteps_2 o fu (nI m) μ1 = some μ' ∧ z_un [o + 3] μ μ' ∧ rb μ' o (cl s 8) := by
    intro c
    induction c with
    | zero =>
      intro m fu μ1 hm hf hu hb
      obtain ⟨fu, rfl⟩ : ∃ q, fu = q + 1 := ⟨fu - 1, by omega⟩
      have em : m = 8 := by omega
      subst em
      refine ⟨μ1, ?_, hu, hb⟩
      rw [g_X0_followSteps_2]
      rw [if_pos (show (8 : Int32) ≤ nI 8 by decide)]
    | succ c ih =>
      intro m fu μ1 hm hf hu hb
      obtain ⟨fu, rfl⟩ : ∃ q, fu = q + 1 := ⟨fu - 1, by omega⟩
      obtain ⟨μ2, u2, b2, e2⟩ := p_fo10 (o := o) (m := m) (G := cl s m) (μ := μ) (by omega) (fun (y13 : Int32) (μ11 : z_M) => (g_X0_followSteps_2 o fu (y13) μ11)) 8 0 z_N μ1 (by omega) (by omega) hu (fun i b hi hb' => by rw [if_neg (show ¬ i < 0 by omega)]; exact hb i b hi hb')
      obtain ⟨μ', y1, y2, y3⟩ := ih (m + 1) fu μ2 (by omega) (by omega) u2 b2
      refine ⟨μ', ?_, y2, y3⟩
      rw [g_X0_followSteps_2]
      rw [if_neg (show ¬ (8 : Int32) ≤ nI m from p_nle (a := 8) (by omega) (by decide))]
      rw [nI_0] at e2
      exact e2.trans y1
  unfold f_X0_followSteps
  exact key 8 0 z_N μ (by omega) (by omega) (z_un.rf _ _) h
/-! ranks -/
def rk (μ : z_M) (o : Nat) (r : Nat → Nat) : Prop := ∀ k, k < 8 → μ.1 (o + 4) k = nI (r k)
section
variable {o : Nat} {C : Nat → Nat → Bool} {H r0 : Nat → Nat} {μ : z_M}
theorem p_ra10 (hb : rb μ o C) (h7 : ∀ k, k < 8 → H k ≤ 7) (hH : ∀ j k, j < 8 → k < 8 → k_D C j k → H j + 1 ≤ H k) {k : Nat} (hk : k < 8) (K : Int32 → z_M → Option z_M) : ∀ c j fu μ1 r, j + c = 8 → c < fu → z_un [o + 4] μ μ1 → rk μ1 o r → (∀ i, i < 8 → r0 i ≤ r i ∧ r i ≤ H i) → (∀ j' k', j' < 8 → k' < 8 → (k' < k ∨ (k' = k ∧ j' < j)) → k_D C j' k' → r0 j' + 1 ≤ r k') → ∃ μ' r', z_un [o + 4] μ μ' ∧ rk μ' o r' ∧ (∀ i, i < 8 → r0 i ≤ r' i ∧ r' i ≤ H i) ∧ (∀ j' k', j' < 8 → k' < 8 → k' < k + 1 → k_D C j' k' → r0 j' + 1 ≤ r' k') ∧ g_X0_raiseRanks_10 o K fu (nI k) (nI j) μ1 = K (nI (k + 1)) μ' := by
  intro c
  induction c with
  | zero =>
    intro j fu μ1 r hj hf hu hr hle hp
    obtain ⟨fu, rfl⟩ : ∃ q, fu = q + 1 := ⟨fu - 1, by omega⟩
    have ej : j = 8 := by omega
    subst ej
    refine ⟨μ1, r, hu, hr, hle, fun j' k' h1 h2 h3 h4 => hp j' k' h1 h2 (by omega) h4, ?_⟩
    rw [g_X0_raiseRanks_10]
    rw [if_pos (show (8 : Int32) ≤ nI 8 by decide), nI_1]
  | succ c ih =>
    intro j fu μ1 r hj hf hu hr hle hp
    obtain ⟨fu, rfl⟩ : ∃ q, fu = q + 1 := ⟨fu - 1, by omega⟩
    have hj8 : j < 8 := by omega
    have e3 : μ1.1 (o + 3) = μ.1 (o + 3) := hu.1 (o + 3) (by simp)
    have rj := (hle j hj8).2
    have rk' := (hle k hk).2
    have h7j := h7 j hj8
    have h7k := h7 k hk
    have skip : ¬ k_D C j k → ∃ μ' r', z_un [o + 4] μ μ' ∧ rk μ' o r' ∧ (∀ i, i < 8 → r0 i ≤ r' i ∧ r' i ≤ H i) ∧ (∀ j' k', j' < 8 → k' < 8 → k' < k + 1 → k_D C j' k' → r0 j' + 1 ≤ r' k') ∧ g_X0_raiseRanks_10 o K fu (nI k) (nI (j + 1)) μ1 = K (nI (k + 1)) μ' := by
      intro hD
      refine ih (j + 1) fu μ1 r (by omega) (by omega) hu hr hle (fun j' k' h1 h2 h3 h4 => ?_)
      by_cases e : k' = k ∧ j' = j
      · rw [e.1, e.2] at h4
        exact absurd h4 hD
      · exact hp j' k' h1 h2 (by omega) h4
    rw [g_X0_raiseRanks_10]
    rw [if_neg (show ¬ (8 : Int32) ≤ nI j from p_nle (a := 8) hj8 (by decide))]
    simp only [if_pos (p_zn (n := j) (N := 8) hj8 (by decide)), if_pos (p_zn (n := k) (N := 8) hk (by decide)), nI_clamp (show j < 2 ^ 31 by omega), nI_clamp (show k < 2 ^ 31 by omega), p_bitE, e3, hb j k hj8 hk, hb k j hk hj8, z_b2_s, z_st_s, nI_1, hr k hk, hr j hj8]
    by_cases q : C j k = true
    · rw [if_pos q, if_pos (show (1 : Int32) = 1 from rfl)]
      by_cases q2 : C k j = true
      · rw [if_pos q2, if_neg (show ¬ (1 : Int32) = 0 by decide)]
        exact skip (fun z => z.2 q2)
      · rw [if_neg q2, if_pos rfl]
        have hD : k_D C j k := ⟨q, q2⟩
        have hHk := hH j k hj8 hk hD
        have em : (if nI (r k) < nI (r j + 1) then nI (r j + 1) else nI (r k)) = nI (max (r k) (r j + 1)) := by
          by_cases z : r k < r j + 1
          · rw [if_pos (nI_lt z (by omega)), Nat.max_eq_right (by omega)]
          · rw [if_neg (nI_nlt (by omega) (by omega)), Nat.max_eq_left (by omega)]
        rw [em]
        refine ih (j + 1) fu _ (fun i => if i = k then max (r k) (r j + 1) else r i) (by omega) (by omega) (hu.si (by simp) _ _) (fun i hi => ?_) (fun i hi => ?_) (fun j' k' h1 h2 h3 h4 => ?_)
        · show _ = nI (if i = k then max (r k) (r j + 1) else r i)
          by_cases e : i = k
          · rw [if_pos e, e, p_si_at]
          · rw [if_neg e, p_si_nk e]
            exact hr i hi
        · show r0 i ≤ (if i = k then max (r k) (r j + 1) else r i) ∧ (if i = k then max (r k) (r j + 1) else r i) ≤ H i
          have := hle i hi
          by_cases e : i = k
          · rw [if_pos e]
            subst e
            omega
          · rw [if_neg e]
            exact this
        · show r0 j' + 1 ≤ (if k' = k then max (r k) (r j + 1) else r k')
          by_cases e : k' = k
          · rw [if_pos e]
            by_cases e2 : j' = j
            · have := (hle j hj8).1
              rw [e2]
              omega
            · have := hp j' k' h1 h2 (by omega) h4
              rw [e] at this
              omega
          · rw [if_neg e]
            exact hp j' k' h1 h2 (by omega) h4
    · rw [if_neg q, if_neg (show ¬ (0 : Int32) = 1 by decide)]
      exact skip (fun z => q z.1)
theorem p_ra (hb : rb μ o C) (h7 : ∀ k, k < 8 → H k ≤ 7) (hH : ∀ j k, j < 8 → k < 8 → k_D C j k → H j + 1 ≤ H k) (hr0 : rk μ o r0) (hle0 : ∀ i, i < 8 → r0 i ≤ H i) : ∃ μ' r', f_X0_raiseRanks o μ = some μ' ∧ z_un [o + 4] μ μ' ∧ rk μ' o r' ∧ (∀ i, i < 8 → r0 i ≤ r' i ∧ r' i ≤ H i) ∧ (∀ j k, j < 8 → k < 8 → k_D C j k → r0 j + 1 ≤ r' k) := by
  have hN : z_N = 5000 := rfl
  have key : ∀ c k fu μ1 r, k + c = 8 → c < fu → z_un [o + 4] μ μ1 → rk μ1 o r → (∀ i, i < 8 → r0 i ≤ r i ∧ r i ≤ H i) → (∀ j' k', j' < 8 → k' < 8 → k' < k → k_D C j' k' → r0 j' + 1 ≤ r k') → ∃ μ' r', g_X0_raiseRanks_2 o fu (nI k) μ1 = some μ' ∧ z_un [o + 4] μ μ' ∧ rk μ' o r' ∧ (∀ i, i < 8 → r0 i ≤ r' i ∧ r' i ≤ H i) ∧ (∀ j k, j < 8 → k < 8 → k_D C j k → r0 j + 1 ≤ r' k) := by
    intro c
    induction c with
    | zero =>
      intro k fu μ1 r hk hf hu hr hle hp
      obtain ⟨fu, rfl⟩ : ∃ q, fu = q + 1 := ⟨fu - 1, by omega⟩
      have ek : k = 8 := by omega
      subst ek
      refine ⟨μ1, r, ?_, hu, hr, hle, fun j k h1 h2 h3 => hp j k h1 h2 h2 h3⟩
      rw [g_X0_raiseRanks_2]
      rw [if_pos (show (8 : Int32) ≤ nI 8 by decide)]
    | succ c ih =>
      intro k fu μ1 r hk hf hu hr hle hp
      obtain ⟨fu, rfl⟩ : ∃ q, fu = q + 1 := ⟨fu - 1, by omega⟩
      obtain ⟨μ2, r2, u2, k2, l2, p2, e2⟩ := p_ra10 (μ := μ) hb h7 hH (k := k) (by omega) (fun (y20 : Int32) (μ18 : z_M) => (g_X0_raiseRanks_2 o fu (y20) μ18)) 8 0 z_N μ1 r (by omega) (by omega) hu hr hle (fun j' k' h1 h2 h3 h4 => hp j' k' h1 h2 (by omega) h4)
      obtain ⟨μ', r', y1, y2, y3, y4, y5⟩ := ih (k + 1) fu μ2 r2 (by omega) (by omega) u2 k2 l2 p2
      refine ⟨μ', r', ?_, y2, y3, y4, y5⟩
      rw [g_X0_raiseRanks_2]
      rw [if_neg (show ¬ (8 : Int32) ≤ nI k from p_nle (a := 8) (by omega) (by decide))]
      rw [nI_0] at e2
      exact e2.trans y1
  unfold f_X0_raiseRanks
  exact key 8 0 z_N μ r0 (by omega) (by omega) (z_un.rf _ _) hr0 (fun i hi => ⟨Nat.le_refl _, hle0 i hi⟩) (fun j' k' h1 h2 h3 => by omega)
end
