/-! PURE: the close of a clause -/
section
variable {t : Nat → Int32} {N : Nat} {μ ν : z_M} {o p : Nat}
def cl_c (c : Option (Int32 × z_M)) : Option z_M := z_b2 c fun r53 μ54 => if r53 = 0 then some μ54 else f_X1_readClose μ54
def cl_r (r : Option (Int32 × z_M)) : Option (Int32 × z_M) := z_b2 r fun x m => g_X5_takeClause_97 x m
/-- what a clause does on both sides -/
def Co (t : Nat → Int32) (N o : Nat) (μ ν : z_M) (p : Nat) (c : Option z_M) (r : Option (Int32 × z_M)) : Prop := ∃ μ' ν' f, c = some μ' ∧ r = some (nI f, ν') ∧ gF (Wc o) μ μ' ∧ hF Vm ν ν' ∧ ((f = 0 ∧ ∃ p', p ≤ p' ∧ Rl t N o μ' ν' p') ∨ Fl t N f μ' ν')
theorem c97 {f : Nat} (h1 : 1 ≤ f) (h3 : f ≤ 3) (ν : z_M) : g_X5_takeClause_97 (nI f) ν = some (nI f, ν) := by
  unfold g_X5_takeClause_97
  rw [if_neg (show ¬ nI f ≤ 0 from nI_nle (by omega) (by omega))]
theorem rc1 {μ2 : z_M} (hq : μ2.1 2 5 = nI p) (hp : p < 240) (e : f_X1_nextToken μ = some μ2) (h : ¬ (μ2.1 2 4 = 3 ∧ μ2.1 3 p = 59)) {μ3 : z_M} (hr : f_X1_refuse 1 μ2 = some (0, μ3)) : f_X1_readClose μ = some μ3 := by
  unfold f_X1_readClose g_X1_readClose_26
  rw [e, z_b1_s, hq, p_g hp (by decide), nI_clamp (by omega), hr, z_b2_s]
  by_cases z : μ2.1 2 4 = 3
  · rw [if_pos z, if_neg (fun w => h ⟨z, w⟩)]
  · rw [if_neg z]
theorem rc2 {μ2 : z_M} (e : f_X1_nextToken μ = some μ2) (h : ¬ μ2.1 2 4 = 3) {μ3 : z_M} (hr : f_X1_refuse 1 μ2 = some (0, μ3)) : f_X1_readClose μ = some μ3 := by
  unfold f_X1_readClose g_X1_readClose_26
  rw [e, z_b1_s, if_neg h, hr, z_b2_s]
theorem p_close (ho : 51 ≤ o) {c r : Option (Int32 × z_M)} (h : Bo t N o μ ν p c r ∨ La t N o μ ν c r) : Co t N o μ ν p (cl_c c) (cl_r r) := by
  unfold cl_c cl_r
  rcases h with ⟨μ1, ν1, f, hr, F, G, ⟨hf, hc, p1, hp1, T, D, h3, h14⟩ | ⟨hc, fl⟩⟩ | ⟨μ1, ν1, p1, hc, hr, F, G, x1, x2, x3, x4, x5⟩
  · rw [hc, hr, hf, z_b2_s, z_b2_s, if_neg (show ¬ (1 : Int32) = 0 by decide)]
    obtain ⟨h1, h2, hp, h6, ⟨p2, hp2, h15, hw⟩, h22⟩ := T
    have h240 := h1.1
    obtain ⟨μ2, e1, F1, a5, a4, a6, -, -⟩ := p_word h1 hp h6
    obtain ⟨ν2, g1, G1, b15, -⟩ := p_here h2 hp2 h15
    change f_X5_here ν1 = some (hV t N (wq t N p2), ν2) at g1
    change ν2.1 98 15 = nI (wq t N p2) at b15
    rw [hw] at g1 b15
    have hq := wq_in t hp
    have hT := tkE_in t hq.2
    generalize wq t N p1 = q at *
    have R : g_X5_takeClause_97 (nI 0) ν1 = if hV t N q = 59 then some (0, z_si ν2 98 15 (nI (q + 1))) else some (1, z_si ν2 98 14 (nI q)) := by
      unfold g_X5_takeClause_97 f_X5_fails
      rw [if_pos (show nI 0 ≤ 0 by decide), g1, z_b2_s, b15, z_st_s, z_st_s, z_b2_s, nI_1]
    have k4 : tkK t N q < 4 := by
      unfold tkK
      repeat' split
      all_goals decide
    have tx2 := h1.of F1
    have GG := G.tr ((G1.mono W15_V).mono V1_m)
    rw [R]
    by_cases z : q < N ∧ t q = 59
    · have k1 : tkK t N q = 3 := by
        unfold tkK
        rw [if_neg (by omega), z.2, if_neg (by decide), if_neg (by decide)]
      have k2 : tkE t N q = q + 1 := by
        unfold tkE
        rw [if_neg (by omega), z.2, if_neg (by decide), if_neg (by decide)]
      rw [k1] at a4
      rw [k2] at a6
      have C : f_X1_readClose μ1 = some μ2 := by
        unfold f_X1_readClose
        rw [e1, z_b1_s, a4, if_pos (show nI 3 = 3 from rfl), a5, p_g (show q < 240 by omega) (by decide), nI_clamp (by omega), tx2.2.2 q z.1, if_pos z.2]
      have hv : hV t N q = 59 := by
        unfold hV
        rw [if_neg (by omega)]
        exact z.2
      rw [if_pos hv]
      refine ⟨μ2, _, 0, C, rfl, F.tr (F1.mono (W456_c o)), GG.si (Or.inl (by decide)) _, Or.inl ⟨rfl, q + 1, by omega, ⟨tx2, h2.of (G1.si ⟨rfl, Or.inl rfl⟩ _), by omega, a6, ⟨_, by omega, p_si_at _ _ _ _, rfl⟩, ?_⟩, ?_, ?_, ?_⟩⟩
      · rw [F1.1 2 2 (by unfold W456; omega)]
        exact h22
      · refine dr.u7 ho D (fun a j hd _ => F1.1 a j (by unfold W456; unfold dC at hd; omega)) (fun a j hd _ => ?_)
        rw [p_si, if_neg (by unfold dM at hd; omega)]
        exact G1.1 a j (by unfold W15; unfold dM at hd; omega)
      · rw [F1.1 2 3 (by unfold W456; omega)]
        exact h3
      · rw [p_si_nk (by decide), G1.1 98 14 (by unfold W15; omega)]
        exact h14
    · have hv : ¬ hV t N q = 59 := by
        unfold hV
        by_cases y : N ≤ q
        · rw [if_pos y]
          decide
        · rw [if_neg y]
          exact fun w => z ⟨by omega, w⟩
      obtain ⟨μ3, s1, s2, s3⟩ := p_refuse (f := 1) tx2 a5 hT.2 a6 (by decide)
      rw [if_neg hv]
      refine ⟨μ3, z_si ν2 98 14 (nI q), 1, ?_, rfl, (F.tr (F1.mono (W456_c o))).tr (s2.mono (W2_c o)), GG.si (Or.inl (by decide)) _, Or.inr (s3 _ (p_si_at _ _ _ _))⟩
      by_cases y : q < N
      · exact rc1 a5 (by omega) e1 (fun w => z ⟨y, by rw [← tx2.2.2 q y]; exact w.2⟩) s1
      · refine rc2 e1 ?_ s1
        rw [a4]
        unfold tkK
        rw [if_pos (by omega)]
        decide
  · rw [hc, hr, z_b2_s, z_b2_s, if_pos rfl, c97 fl.1 fl.2.1]
    exact ⟨μ1, ν1, f, rfl, rfl, F, G, Or.inr fl⟩
  · rw [hc, hr, z_b2_s, z_b2_s, if_neg (show ¬ (1 : Int32) = 0 by decide), show (1 : Int32) = nI 1 from rfl, c97 (by decide) (by decide)]
    obtain ⟨μ2, e1, F1, a5, a4, a6, -, -⟩ := p_word x1 x2 x3
    have hT := tkE_in t (wq_in t x2).2
    obtain ⟨μ3, s1, s2, s3⟩ := p_refuse (f := 1) (x1.of F1) a5 hT.2 a6 (by decide)
    refine ⟨μ3, ν1, 1, rc2 e1 ?_ s1, rfl, (F.tr (F1.mono (W456_c o))).tr (s2.mono (W2_c o)), G, Or.inr (s3 _ x5)⟩
    rw [a4, x4]
    decide
end
