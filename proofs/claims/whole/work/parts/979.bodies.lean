/-! PURE: clauses: ahead, within, costs, later, sale -/
section
variable {t : Nat → Int32} {N : Nat} {μ ν : z_M} {o p : Nat}
theorem p_1bit : ∀ k, k < 8 → ∀ j, j < 8 → p_bit ((1 : Int32) <<< (nI k &&& 31)) j = if j = k then 1 else 0 := by decide +kernel
theorem b_ahead (ho : 51 ≤ o) (ht : ∀ i, i < N → p_in (t i) 0 255) (x1 : Int32) (h : Rl t N o μ ν p) (hc : ¬ ν.1 110 4 = 12) : Bo t N o μ ν p (f_X1_readAhead o μ) (f_X5_takeAhead x1 ν) := by
  obtain ⟨T, D, h3, h14⟩ := h
  obtain ⟨D5, D4⟩ : d5 (μ.1 o 11) (μ.1 o 9) (μ.1 o 12) (μ.1 o 10) (μ.1 o 8) (ν.1 110) ∧ d4 (μ.1 (o + 3)) (ν.1 109) := ⟨D.2.2.2.2.2.1, D.2.2.2.2.1⟩
  have R0 : f_X5_takeAhead x1 ν = z_b2 (f_X5_takeKind (z_si ν 110 4 (ν.1 110 4 + 1))) fun r4 μ5 => if r4 ≤ 0 then z_b2 (f_X5_takeKind μ5) fun r13 μ14 => g_X5_takeAhead_50 (μ5.1 98 19) r13 μ14 else g_X5_takeAhead_50 (μ5.1 98 19) r4 μ5 := by
    unfold f_X5_takeAhead
    rw [if_pos (show z_in (4 : Int32) 5 by decide), if_neg (show ¬ ν.1 110 (4 : Int32).toNatClampNeg = 12 from hc), if_pos (show z_in (4 : Int32) 5 by decide), if_pos (show z_in (4 : Int32) 5 by decide), z_st_s]
    simp only [z_lt_s]
    rfl
  rw [R0]
  have G0 : hF Vm ν (z_si ν 110 4 (ν.1 110 4 + 1)) := (hF.rf Vm ν).si (Or.inr (by decide)) _
  have T0 : Tl t N μ (z_si ν 110 4 (ν.1 110 4 + 1)) p := T.m (Or.inl (by decide))
  have E0 : (z_si ν 110 4 (ν.1 110 4 + 1)).1 98 14 = -1 := by
    rw [p_si_ne (by decide)]
    exact h14
  have E109 : (z_si ν 110 4 (ν.1 110 4 + 1)).1 109 = ν.1 109 := p_si_ne (by decide)
  have E1 : ∀ a k, dM a k → ¬ a = 110 → (z_si ν 110 4 (ν.1 110 4 + 1)).1 a k = ν.1 a k := fun a k _ hn => by rw [p_si_ne hn]
  have E2 : (z_si ν 110 4 (ν.1 110 4 + 1)).1 110 4 = ν.1 110 4 + 1 := p_si_at _ _ _ _
  have E3 : ∀ j, ¬ j = 4 → (z_si ν 110 4 (ν.1 110 4 + 1)).1 110 j = ν.1 110 j := fun j hj => p_si_nk hj
  generalize z_si ν 110 4 (ν.1 110 4 + 1) = ν0 at *
  have e50 : ∀ (x : Int32) (f : Nat) (ν' : z_M), 1 ≤ f → f ≤ 3 → g_X5_takeAhead_50 x (nI f) ν' = some (nI f, ν') := fun x f ν' h1 h2 => by
    unfold g_X5_takeAhead_50
    rw [if_neg (show ¬ nI f ≤ 0 from nI_nle (by omega) (by omega))]
  obtain ⟨ν1, G1, ⟨μ1, r1, F1, k1, fl⟩ | ⟨k, hk, q, p1, hp1, k1, k19, k20, -, good, e14⟩⟩ := p_kinds ht T0
  · refine ⟨μ1, ν1, 1, ?_, F1.mono (W2_c o), G0.tr (G1.mono V1_m), Or.inr ⟨?_, fl⟩⟩
    · rw [k1, z_b2_s, if_neg (show ¬ (1 : Int32) ≤ 0 by decide)]
      exact e50 _ 1 _ (by decide) (by decide)
    · unfold f_X1_readAhead
      rw [r1, z_b2_s, if_pos rfl]
  · obtain ⟨μ1, r1, F1, T1⟩ := good 0 (by rw [p_0bit k (by omega)]; decide)
    rw [k1, z_b2_s, if_pos (show (0 : Int32) ≤ 0 by decide), k19]
    obtain ⟨ν2, G2, ⟨μ2, r2, F2, k2, fl⟩ | ⟨j, hj, q2, p2, hp2, k2, j19, j20, bad2, good2, f14⟩⟩ := p_kinds ht T1
    · refine ⟨μ2, ν2, 1, ?_, (F1.mono (W456_c o)).tr (F2.mono (W2_c o)), (G0.tr (G1.mono V1_m)).tr (G2.mono V1_m), Or.inr ⟨?_, fl⟩⟩
      · rw [k2, z_b2_s]
        exact e50 _ 1 _ (by decide) (by decide)
      · unfold f_X1_readAhead
        rw [r1, z_b2_s, if_neg (nI_n1 k hk), r2, z_b2_s, if_pos rfl]
    · have R2 : g_X5_takeAhead_50 (nI k) 0 ν2 = if j = k then some (3, z_si ν2 98 14 (nI q2)) else some (0, z_si ν2 109 (8 * k + j) 1) := by
        unfold g_X5_takeAhead_50 f_X5_fails
        rw [if_pos (show (0 : Int32) ≤ 0 by decide), j19, j20, z_st_s, z_b2_s, show (8 : Int32) * nI k + nI j = nI (8 * k + j) from p_ix 8 k j, p_g (show 8 * k + j < 64 by omega) (by decide), nI_clamp (by omega), z_st_s]
        by_cases y : j = k
        · rw [if_pos y, if_pos (show nI k = nI j by rw [y])]
        · rw [if_neg y, if_neg (show ¬ nI k = nI j from fun w => y ((nI_eq (by omega) (by omega)).mp w).symm)]
          rfl
      rw [k2, z_b2_s, R2]
      by_cases y : j = k
      · obtain ⟨μ2, r2, F2, fl⟩ := bad2 ((1 : Int32) <<< (nI k &&& 31)) (by rw [p_1bit k hk j hj, if_pos y])
        refine ⟨μ2, z_si ν2 98 14 (nI q2), 3, by rw [if_pos y]; rfl, (F1.mono (W456_c o)).tr (F2.mono (W2_c o)), ((G0.tr (G1.mono V1_m)).tr (G2.mono V1_m)).si (Or.inl (by decide)) _, Or.inr ⟨?_, fl _ (p_si_at _ _ _ _)⟩⟩
        unfold f_X1_readAhead
        rw [r1, z_b2_s, if_neg (nI_n1 k hk), r2, z_b2_s, if_pos rfl]
      · obtain ⟨μ2, r2, F2, T2⟩ := good2 ((1 : Int32) <<< (nI k &&& 31)) (by rw [p_1bit k hk j hj, if_neg y]; decide)
        have FF := F1.tr F2
        have GG := G1.tr G2
        have m3 : ∀ a i, dC o a i → μ2.1 a i = μ.1 a i := fun a i hd => FF.1 a i (by unfold W456; unfold dC at hd; omega)
        have n3 : ∀ a i, dM a i → ν2.1 a i = ν0.1 a i := fun a i hd => GG.1 a i (by unfold V1; unfold dM at hd; omega)
        have c8 : (z_si μ2 (o + 3) k (μ2.1 (o + 3) k ||| ((1 : Int32) <<< (nI j &&& 31)))).1 o 8 = μ.1 o 8 := by
          rw [p_si_ne (by omega)]
          exact m3 o 8 (by unfold dC; omega)
        refine ⟨z_si (z_si μ2 (o + 3) k (μ2.1 (o + 3) k ||| ((1 : Int32) <<< (nI j &&& 31)))) o 8 (μ.1 o 8 + 1), z_si ν2 109 (8 * k + j) 1, 0, by rw [if_neg y]; rfl, ((((F1.mono (W456_c o)).tr (F2.mono (W456_c o)))).si (Or.inr (Or.inr (Or.inr (Or.inr rfl)))) _).si (Or.inr (Or.inl ⟨rfl, by decide⟩)) _, ((G0.tr (G1.mono V1_m)).tr (G2.mono V1_m)).si (Or.inr (by decide)) _, Or.inl ⟨rfl, ?_, p2, by omega, ((T2.c (Or.inl (by omega))).c (Or.inl ho)).m (Or.inl (by decide)), ?_, ?_, ?_⟩⟩
        · unfold f_X1_readAhead
          rw [r1, z_b2_s, if_neg (nI_n1 k hk), r2, z_b2_s, if_neg (nI_n1 j hj), p_g hk (by decide), p_g hk (by decide), nI_clamp (by omega), z_st_s, z_st_s, c8]
        · have DA : dr (z_si μ2 (o + 3) k (μ2.1 (o + 3) k ||| ((1 : Int32) <<< (nI j &&& 31)))) (z_si ν 109 (8 * k + j) 1) o := by
            refine dr.u4 ho D (fun a i hd hn => ?_) (fun a i hd hn => ?_) ⟨fun a b ha hb => ?_, fun a ha => ?_⟩
            · rw [p_si, if_neg (by omega)]
              exact m3 a i hd
            · rw [p_si, if_neg (by omega)]
            · have hab := D4.1 a b ha hb
              rw [p_si, p_si, m3 (o + 3) k (by unfold dC; omega), m3 (o + 3) a (by unfold dC; omega)]
              by_cases z : a = k
              · rw [if_pos (show o + 3 = o + 3 ∧ a = k from ⟨rfl, z⟩), p_bit_or _ (by omega) (by omega)]
                by_cases w : b = j
                · rw [if_pos w, if_pos (show 109 = 109 ∧ 8 * a + b = 8 * k + j by omega)]
                  decide
                · rw [if_neg w, if_neg (show ¬ (109 = 109 ∧ 8 * a + b = 8 * k + j) by omega), ← z]
                  exact hab
              · rw [if_neg (show ¬ (o + 3 = o + 3 ∧ a = k) from fun w => z w.2), if_neg (show ¬ (109 = 109 ∧ 8 * a + b = 8 * k + j) by omega)]
                exact hab
            · rw [p_si, if_neg (show ¬ (109 = 109 ∧ 8 * a + a = 8 * k + j) by omega)]
              exact D4.2 a ha
          have DA5 := DA.2.2.2.2.2.1
          obtain ⟨g0, g1, g2, g3, g4, g5, g6, g7, g8, g9⟩ := D5
          refine dr.u5 ho DA (fun a i hd hn => ?_) (fun a i hd hn => ?_) ?_
          · rw [p_si, if_neg (by omega)]
          · rw [p_si, p_si]
            split
            · rfl
            · rw [n3 a i hd, E1 a i hd hn]
          · have u : ∀ i, ¬ i = 8 → (z_si (z_si μ2 (o + 3) k (μ2.1 (o + 3) k ||| ((1 : Int32) <<< (nI j &&& 31)))) o 8 (μ.1 o 8 + 1)).1 o i = μ.1 o i := fun i hi => by
              rw [p_si_nk hi, p_si_ne (by omega)]
              exact m3 o i (by unfold dC; omega)
            have v : ∀ i, (z_si ν2 109 (8 * k + j) 1).1 110 i = ν0.1 110 i := fun i => by
              rw [p_si_ne (by decide)]
              exact n3 110 i (by unfold dM; omega)
            rw [u 11 (by decide), u 9 (by decide), u 12 (by decide), u 10 (by decide), p_si_at]
            unfold d5
            rw [v, v, v, v, v, E3 0 (by decide), E3 1 (by decide), E3 2 (by decide), E3 3 (by decide), E2]
            refine ⟨g0, g1, g2, g3, by rw [g4], g5, g6, g7, g8, ?_⟩
            have hne : ¬ (μ.1 o 8).toInt = 12 := fun w => hc (by
              rw [g4]
              exact Int32.toInt_inj.mp w)
            have g90 := g9.1
            have g91 := g9.2
            have hz := p_cl g9
            rw [hz.1, nI_1]
            unfold p_in
            rw [nI_toInt (by omega)]
            omega
        · rw [p_si_ne (show (2 : Nat) ≠ o by omega), p_si_ne (show (2 : Nat) ≠ o + 3 by omega), FF.1 2 3 (by unfold W456; omega)]
          exact h3
        · rw [p_si_ne (by decide), f14, e14]
          exact E0
end
