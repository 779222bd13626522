/-! PURE: the readers from the start -/
section
variable {t : Nat → Int32} {N : Nat} {μ ν : z_M} {o n : Nat}
def Wj (o : Nat) : Nat → Nat → Prop := fun a k => (a = 2 ∧ 1 ≤ k ∧ k ≤ 8) ∨ a = o ∨ a = o + 1 ∨ a = o + 2 ∨ a = o + 3 ∨ a = o + 4
theorem p_readers (ho : 51 ≤ o) (ht : ∀ i, i < N → p_in (t i) 0 255) (h1 : tx μ t N) (h2 : my ν t N) (hn : n < 4) : ∃ μ' c' f ν', f_X1_readInto o μ = some (nI c', μ') ∧ f_X5_law (nI n) ν = g_X5_law_56 (nI n) (nI c') (nI f) ν' ∧ gF (Wj o) μ μ' ∧ hF Vm ν ν' ∧ μ'.1 2 1 = 0 ∧ (∀ k, k < 8 → μ'.1 (o + 4) k = 0) ∧ μ'.1 o 7 = 0 ∧ ((f = 0 ∧ μ'.1 2 2 = 0 ∧ dr μ' ν' o ∧ μ'.1 2 3 = -1 ∧ ν'.1 98 14 = -1) ∨ (1 ≤ f ∧ f ≤ 3 ∧ μ'.1 2 2 = nI f ∧ μ'.1 2 3 = ν'.1 98 14)) := by
  have hN : z_N = 5000 := rfl
  have h240 := h1.1
  obtain ⟨μ1, e1, F1, a1, a2⟩ := p_tellN o μ
  have hL : p_in (nI n) 0 3 := ⟨by rw [nI_toInt (by omega)]; omega, by rw [nI_toInt (by omega)]; omega⟩
  have G0 : hF Vm ν (z_si (z_si (z_si ν 98 14 (-1)) 98 15 0) 98 21 0) := (((hF.rf Vm ν).si (Or.inl (by decide)) _).si (Or.inl (by decide)) _).si (Or.inl (by decide)) _
  obtain ⟨ν1, g1, G1, b1, b2, b3⟩ := p_bare (z_si (z_si (z_si ν 98 14 (-1)) 98 15 0) 98 21 0)
  have q14 : ν1.1 98 14 = -1 := by
    rw [G1.1 98 14 (by unfold Wb; omega)]
    simp [p_si]
  have q15 : ν1.1 98 15 = 0 := by
    rw [G1.1 98 15 (by unfold Wb; omega)]
    simp [p_si]
  have q21 : ν1.1 98 21 = 0 := by
    rw [G1.1 98 21 (by unfold Wb; omega)]
    simp [p_si]
  have q13 : my ν1 t N := by
    refine ⟨h240, ?_, fun k hk => ?_⟩
    · rw [G1.1 98 13 (by unfold Wb; omega)]
      simp [p_si]
      exact h2.2.1
    · rw [G1.1 111 k (by unfold Wb; omega)]
      simp [p_si]
      exact h2.2.2 k hk
  have G2 : hF Vm ν ν1 := G0.tr (G1.mono (fun a k h => Or.inr h))
  have L : f_X5_law (nI n) ν = g_X5_law_34 z_N (nI n) 0 0 ν1 := by
    unfold f_X5_law
    rw [p_isLand5, z_b2_s, if_neg (fun w => p_b_0.mp w hL), z_st_s, z_st_s, z_st_s, g1, z_b1_s]
  have x2 : ∀ k, ¬ (2 ≤ k ∧ k ≤ 8) → μ1.1 2 k = μ.1 2 k := fun k _ => F1.1 2 k (by unfold Wt; omega)
  have C : f_X1_readInto o μ = z_b1 (f_X1_nextToken (z_si (z_si (z_si (z_si (z_si μ1 2 2 0) 2 3 (-1)) 2 6 0) 2 7 0) 2 8 0)) fun μ23 => g_X1_readInto_35 o z_N 0 μ23 := by
    unfold f_X1_readInto
    rw [e1, z_b1_s, z_st_s, z_st_s, z_st_s, z_st_s, z_st_s]
  have F2 : gF (Wj o) μ (z_si (z_si (z_si (z_si (z_si μ1 2 2 0) 2 3 (-1)) 2 6 0) 2 7 0) 2 8 0) := (((((F1.mono (fun a k h => Or.inr h)).si (Or.inl (by decide)) _).si (Or.inl (by decide)) _).si (Or.inl (by decide)) _).si (Or.inl (by decide)) _).si (Or.inl (by decide)) _
  have y : ∀ a k, ¬ a = 2 → (z_si (z_si (z_si (z_si (z_si μ1 2 2 0) 2 3 (-1)) 2 6 0) 2 7 0) 2 8 0).1 a k = μ1.1 a k := fun a k h => by
    rw [p_si_ne h, p_si_ne h, p_si_ne h, p_si_ne h, p_si_ne h]
  have y1 : (z_si (z_si (z_si (z_si (z_si μ1 2 2 0) 2 3 (-1)) 2 6 0) 2 7 0) 2 8 0).1 2 1 = nI N := by
    simp [p_si]
    rw [x2 1 (by omega)]
    exact h1.2.1
  have y22 : (z_si (z_si (z_si (z_si (z_si μ1 2 2 0) 2 3 (-1)) 2 6 0) 2 7 0) 2 8 0).1 2 2 = 0 := by simp [p_si]
  have y23 : (z_si (z_si (z_si (z_si (z_si μ1 2 2 0) 2 3 (-1)) 2 6 0) 2 7 0) 2 8 0).1 2 3 = -1 := by simp [p_si]
  have y26 : (z_si (z_si (z_si (z_si (z_si μ1 2 2 0) 2 3 (-1)) 2 6 0) 2 7 0) 2 8 0).1 2 6 = 0 := by simp [p_si]
  have y27 : (z_si (z_si (z_si (z_si (z_si μ1 2 2 0) 2 3 (-1)) 2 6 0) 2 7 0) 2 8 0).1 2 7 = 0 := by simp [p_si]
  have y28 : (z_si (z_si (z_si (z_si (z_si μ1 2 2 0) 2 3 (-1)) 2 6 0) 2 7 0) 2 8 0).1 2 8 = 0 := by simp [p_si]
  generalize z_si (z_si (z_si (z_si (z_si μ1 2 2 0) 2 3 (-1)) 2 6 0) 2 7 0) 2 8 0 = μ2 at *
  have tx2 : tx μ2 t N := ⟨h240, y1, fun k hk => by rw [y 3 k (by decide), F1.1 3 k (by unfold Wt; omega)]; exact h1.2.2 k hk⟩
  have R : Rl t N o μ2 ν1 0 := by
    refine ⟨⟨tx2, q13, by omega, y26, ⟨0, by omega, q15, rfl⟩, y22⟩, ⟨fun k hk => ?_, fun k hk => ?_, fun k hk => ?_, fun k hk => ?_, ⟨fun a b ha hb => ?_, fun a ha => ?_⟩, ?_, ?_⟩, y23, q14⟩
    · rw [(b1 k hk).1, y (o + 1) k (by omega), (a1 k hk).1, y28, p_0bit k (by omega)]
      decide
    · rw [(b1 k hk).2.1, y o 4 (by omega), y o 5 (by omega), a2 4 (by omega) (by omega), a2 5 (by omega) (by omega), p_0bit k (by omega)]
      decide
    · rw [(b1 k hk).2.2.1, y (o + 2) k (by omega), (a1 k hk).2.1]
      decide
    · rw [(b1 k hk).2.2.2, y o 6 (by omega), a2 6 (by omega) (by omega), p_0bit k (by omega)]
      decide
    · rw [b2 _ (by omega), y (o + 3) a (by omega), (a1 a ha).2.2.1, p_0bit b (by omega)]
      decide
    · exact b2 _ (by omega)
    · unfold d5
      rw [b3 0 (by omega), b3 1 (by omega), b3 2 (by omega), b3 3 (by omega), b3 4 (by omega), y o 11 (by omega), y o 9 (by omega), y o 12 (by omega), y o 10 (by omega), y o 8 (by omega), a2 11 (by omega) (by omega), a2 9 (by omega) (by omega), a2 12 (by omega) (by omega), a2 10 (by omega) (by omega), a2 8 (by omega) (by omega)]
      decide
    · rw [y27, q21]
      exact fun _ _ => rfl
  obtain ⟨μ3, w1, w2, -⟩ := p_nT tx2 (Nat.zero_le N) y26
  obtain ⟨μ', c', f, ν', v1, v2, v3, v4, v5, v6⟩ := p_into (n := n) ho ht N 0 0 z_N z_N μ2 μ3 ν1 (by omega) (by omega) (by omega) (by omega) R w1 (gF.rf _ μ2) (hF.rf _ ν1)
  rw [nI_0] at v1 v2
  refine ⟨μ', c', f, ν', ?_, L.trans v2, F2.tr (v3.mono (fun a k h => ?_)), G2.tr v4, v5, fun k hk => ?_, ?_, v6⟩
  · rw [C, w1, z_b1_s]
    exact v1
  · unfold Wi Wc at h
    unfold Wj
    omega
  · rw [v3.1 (o + 4) k (by unfold Wi Wc; omega), y (o + 4) k (by omega)]
    exact (a1 k hk).2.2.2
  · rw [v3.1 o 7 (by unfold Wi Wc; omega), y o 7 (by omega)]
    exact a2 7 (by omega) (by omega)
end
