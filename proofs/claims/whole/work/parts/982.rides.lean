/-! PURE: the clause rides, whole -/
section
variable {t : Nat → Int32} {N : Nat} {μ ν : z_M} {o p : Nat}
/-- the reference sees the fault in the body, the class at the close -/
def La (t : Nat → Int32) (N o : Nat) (μ ν : z_M) (c r : Option (Int32 × z_M)) : Prop := ∃ μ' ν' p', c = some (1, μ') ∧ r = some (1, ν') ∧ gF (Wc o) μ μ' ∧ hF Vm ν ν' ∧ tx μ' t N ∧ p' ≤ N ∧ μ'.1 2 6 = nI p' ∧ tkK t N (wq t N p') = 1 ∧ ν'.1 98 14 = nI (wq t N p')
theorem Wr_c (o k : Nat) : ∀ a j, Wr o k a j → Wc o a j := fun a j h => by
  rcases h with h | h
  · exact W2_c o a j h
  · exact Or.inr (Or.inr (Or.inl h.1))
theorem Vr_m (k : Nat) : ∀ a j, Vr k a j → Vm a j := fun a j h => by
  rcases h with h | h
  · exact V1_m a j h
  · exact Or.inr (by omega)
theorem b_rides (ho : 51 ≤ o) (ht : ∀ i, i < N → p_in (t i) 0 255) (h : Rl t N o μ ν p) : Bo t N o μ ν p (f_X1_readRides o μ) (f_X5_takeRides ν) ∨ La t N o μ ν (f_X1_readRides o μ) (f_X5_takeRides ν) := by
  have hN : z_N = 5000 := rfl
  obtain ⟨T, D, h3, h14⟩ := h
  have Dk := D.1
  obtain ⟨ν', G, ⟨μ', r, F, tk, fl⟩ | ⟨k, hk, q, p', hp', tk, k19, k20, bad, good, e14⟩⟩ := p_kinds ht T
  · left
    refine ⟨μ', ν', 1, ?_, F.mono (W2_c o), G.mono V1_m, Or.inr ⟨?_, fl⟩⟩
    · unfold f_X5_takeRides
      rw [tk, z_b2_s, if_neg (show ¬ (1 : Int32) ≤ 0 by decide)]
      rfl
    · unfold f_X1_readRides
      rw [r, z_b2_s, if_pos rfl]
  · have e1 : ν'.1 105 = ν.1 105 := funext fun j => G.1 105 j (by unfold V1; omega)
    have zk : z_in (nI k) 8 := p_zn hk (by decide)
    have R : f_X5_takeRides ν = if ν.1 105 k = 0 then g_X5_takeRides_37 z_N (nI k) 1 ν' else some (3, z_si ν' 98 14 (nI q)) := by
      unfold f_X5_takeRides f_X5_fails
      rw [tk, z_b2_s, if_pos (show (0 : Int32) ≤ 0 by decide), z_lt_s, k19, if_pos zk, k20, z_st_s, z_b2_s]
      simp only [nI_clamp (show k < 2 ^ 31 by omega), e1]
    have hb := Dk k hk
    by_cases z : ν.1 105 k = 0
    · obtain ⟨μ1, r, F, T1⟩ := good (μ.1 2 8) (by rw [hb.2.2, if_pos z]; decide)
      have C : f_X1_readRides o μ = g_X1_readRides_40 o z_N (nI k) 1 0 (z_si (z_si μ1 2 8 (μ.1 2 8 ||| ((1 : Int32) <<< (nI k &&& 31)))) (o + 1) k 0) := by
        unfold f_X1_readRides
        rw [r, z_b2_s, if_neg (nI_n1 k hk), z_st_s, if_pos zk, z_st_s, nI_clamp (by omega), F.1 2 8 (by unfold W456; omega)]
      rw [if_pos z] at R
      have TB : Tl t N (z_si (z_si μ1 2 8 (μ.1 2 8 ||| ((1 : Int32) <<< (nI k &&& 31)))) (o + 1) k 0) ν' p' := (T1.c (Or.inr (by decide))).c (Or.inl (by omega))
      have B1 : ∀ a j, ¬ W456 a j → ¬ (a = 2 ∧ j = 8) → ¬ (a = o + 1 ∧ j = k) → (z_si (z_si μ1 2 8 (μ.1 2 8 ||| ((1 : Int32) <<< (nI k &&& 31)))) (o + 1) k 0).1 a j = μ.1 a j := fun a j w1 w2 w3 => by
        rw [p_si, if_neg w3, p_si, if_neg w2]
        exact F.1 a j w1
      have B2 : (z_si (z_si μ1 2 8 (μ.1 2 8 ||| ((1 : Int32) <<< (nI k &&& 31)))) (o + 1) k 0).1 2 8 = μ.1 2 8 ||| ((1 : Int32) <<< (nI k &&& 31)) := by
        rw [p_si_ne (by omega), p_si_at]
      have B3 : (z_si (z_si μ1 2 8 (μ.1 2 8 ||| ((1 : Int32) <<< (nI k &&& 31)))) (o + 1) k 0).1 (o + 1) k = 0 := p_si_at _ _ _ _
      have B4 : gF (Wc o) μ (z_si (z_si μ1 2 8 (μ.1 2 8 ||| ((1 : Int32) <<< (nI k &&& 31)))) (o + 1) k 0) := ((F.mono (W456_c o)).si (Or.inl (by decide)) _).si (Or.inr (Or.inr (Or.inl rfl))) _
      generalize z_si (z_si μ1 2 8 (μ.1 2 8 ||| ((1 : Int32) <<< (nI k &&& 31)))) (o + 1) k 0 = μb at *
      have RI : Ri t N o k μb ν' μb ν' 0 p' := ⟨gF.rf _ _, hF.rf _ _, TB, by rw [B1 2 3 (by unfold W456; omega) (by omega) (by omega)]; exact h3, by rw [e14]; exact h14, by decide, B3, by rw [e1]; exact z⟩
      have L := r_loop ho hk ht 3 0 p' μb ν' z_N z_N (by decide) (by omega) (by omega) RI
      rw [show nI (pc 0) = 0 from rfl, ← C, ← R] at L
      rcases L with ⟨μ2, ν2, m2, p2, c1, c2, hm0, hp2, F2, G2, T2, x3, x14, hm8, y1, y2⟩ | ⟨μ2, ν2, f, c1, c2, F2, G2, fl⟩ | ⟨μ2, ν2, p2, c1, c2, F2, G2, x1, x2, x3, x4, x5⟩
      · left
        refine ⟨μ2, ν2, 0, c2, B4.tr (F2.mono (Wr_c o k)), (G.mono V1_m).tr (G2.mono (Vr_m k)), Or.inl ⟨rfl, c1, p2, by omega, T2, ?_, x3, x14⟩⟩
        refine dr.u0 ho D (fun a j hd hn => ?_) (fun a j hd hn => ?_) (fun j hj => ?_)
        · rw [F2.1 a j (by unfold Wr W2; unfold dC at hd; omega)]
          exact B1 a j (by unfold W456; unfold dC at hd; omega) (by omega) (by omega)
        · rw [G2.1 a j (by unfold Vr V1; unfold dM at hd; omega)]
          exact G.1 a j (by unfold V1; unfold dM at hd; omega)
        · rw [F2.1 2 8 (by unfold Wr W2; omega), B2, p_bit_or _ (by omega) (by omega)]
          by_cases y : j = k
          · rw [if_pos y, y, y1, y2, if_neg (nI_ne0 (by omega) (by omega)), if_neg (nI_ne0 (by omega) (by omega))]
            exact ⟨⟨by rw [nI_toInt (by omega)]; omega, by rw [nI_toInt (by omega)]; omega⟩, rfl, rfl⟩
          · rw [if_neg y, F2.1 (o + 1) j (by unfold Wr W2; omega), B1 (o + 1) j (by unfold W456; omega) (by omega) (by omega), G2.1 105 j (by unfold Vr V1; omega), e1]
            exact Dk j hj
      · left
        exact ⟨μ2, ν2, f, c2, B4.tr (F2.mono (Wr_c o k)), (G.mono V1_m).tr (G2.mono (Vr_m k)), Or.inr ⟨c1, fl⟩⟩
      · right
        exact ⟨μ2, ν2, p2, c1, c2, B4.tr (F2.mono (Wr_c o k)), (G.mono V1_m).tr (G2.mono (Vr_m k)), x1, x2, x3, x4, x5⟩
    · left
      obtain ⟨μ', r, F, fl⟩ := bad (μ.1 2 8) (by rw [hb.2.2, if_neg z])
      refine ⟨μ', z_si ν' 98 14 (nI q), 3, ?_, F.mono (W2_c o), (G.mono V1_m).si (Or.inl (by decide)) _, Or.inr ⟨?_, fl _ (p_si_at _ _ _ _)⟩⟩
      · rw [R, if_neg z]
        rfl
      · unfold f_X1_readRides
        rw [r, z_b2_s, if_pos rfl]
end
