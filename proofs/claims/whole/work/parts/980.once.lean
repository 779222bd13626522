/-! PURE: clauses told once: later, within, sale, costs -/
section
variable {t : Nat → Int32} {N : Nat} {μ ν : z_M} {o p : Nat}
/-- the reference's clause told once, past its check -/
def ro (x1 : Int32) (ν : z_M) : Option (Int32 × z_M) := if x1 = (4 : Int32) then (if z_in (0 : Int32) 5 then (z_st (z_si ν 110 (0 : Int32).toNatClampNeg (1 : Int32)) fun μ50 => (g_X5_takeOnce_43 (x1) μ50)) else none) else (g_X5_takeOnce_43 (x1) ν)
theorem b_later (ho : 51 ≤ o) (h : Rl t N o μ ν p) : Bo t N o μ ν p (some (1, z_si μ o 11 1)) (ro 4 ν) := by
  obtain ⟨T, D, h3, h14⟩ := h
  obtain ⟨g0, g1, g2, g3, g4, g5, g6, g7, g8, g9⟩ := D.2.2.2.2.2.1
  refine ⟨z_si μ o 11 1, z_si ν 110 0 1, 0, ?_, (gF.rf _ μ).si (Or.inr (Or.inl ⟨rfl, by decide⟩)) _, (hF.rf _ ν).si (Or.inr (by decide)) _, Or.inl ⟨rfl, rfl, p, by omega, (T.c (Or.inl ho)).m (Or.inl (by decide)), ?_, ?_, ?_⟩⟩
  · unfold ro g_X5_takeOnce_43 g_X5_takeOnce_56
    rw [if_pos rfl, if_pos (show z_in (0 : Int32) 5 by decide), z_st_s, if_neg (show ¬ (4 : Int32) = 8 by decide), if_neg (show ¬ (4 : Int32) = 9 by decide), if_neg (show ¬ (4 : Int32) = 5 by decide)]
    rfl
  · refine dr.u5 ho D (fun a i hd hn => ?_) (fun a i hd hn => ?_) ?_
    · rw [p_si, if_neg (by omega)]
    · rw [p_si, if_neg (by omega)]
    · unfold d5
      rw [p_si_at, p_si_at, p_si_nk (show 9 ≠ 11 by decide), p_si_nk (show 12 ≠ 11 by decide), p_si_nk (show 10 ≠ 11 by decide), p_si_nk (show 8 ≠ 11 by decide), p_si_nk (show 1 ≠ 0 by decide), p_si_nk (show 2 ≠ 0 by decide), p_si_nk (show 3 ≠ 0 by decide), p_si_nk (show 4 ≠ 0 by decide)]
      exact ⟨rfl, g1, g2, g3, g4, Or.inr rfl, g6, g7, g8, g9⟩
  · rw [p_si_ne (show (2 : Nat) ≠ o by omega)]
    exact h3
  · rw [p_si_ne (by decide)]
    exact h14
theorem b_sale (ho : 51 ≤ o) (h : Rl t N o μ ν p) : Bo t N o μ ν p (some (1, z_si μ o 12 1)) (ro 8 ν) := by
  obtain ⟨T, D, h3, h14⟩ := h
  obtain ⟨g0, g1, g2, g3, g4, g5, g6, g7, g8, g9⟩ := D.2.2.2.2.2.1
  refine ⟨z_si μ o 12 1, z_si ν 110 2 1, 0, ?_, (gF.rf _ μ).si (Or.inr (Or.inl ⟨rfl, by decide⟩)) _, (hF.rf _ ν).si (Or.inr (by decide)) _, Or.inl ⟨rfl, rfl, p, by omega, (T.c (Or.inl ho)).m (Or.inl (by decide)), ?_, ?_, ?_⟩⟩
  · unfold ro g_X5_takeOnce_43 g_X5_takeOnce_56
    rw [if_neg (show ¬ (8 : Int32) = 4 by decide), if_pos rfl, if_pos (show z_in (2 : Int32) 5 by decide), z_st_s, if_neg (show ¬ (8 : Int32) = 9 by decide), if_neg (show ¬ (8 : Int32) = 5 by decide)]
    rfl
  · refine dr.u5 ho D (fun a i hd hn => ?_) (fun a i hd hn => ?_) ?_
    · rw [p_si, if_neg (by omega)]
    · rw [p_si, if_neg (by omega)]
    · unfold d5
      rw [p_si_at, p_si_at, p_si_nk (show 9 ≠ 12 by decide), p_si_nk (show 11 ≠ 12 by decide), p_si_nk (show 10 ≠ 12 by decide), p_si_nk (show 8 ≠ 12 by decide), p_si_nk (show 1 ≠ 2 by decide), p_si_nk (show 0 ≠ 2 by decide), p_si_nk (show 3 ≠ 2 by decide), p_si_nk (show 4 ≠ 2 by decide)]
      exact ⟨g0, g1, rfl, g3, g4, g5, g6, Or.inr rfl, g8, g9⟩
  · rw [p_si_ne (show (2 : Nat) ≠ o by omega)]
    exact h3
  · rw [p_si_ne (by decide)]
    exact h14
theorem b_costs (ho : 51 ≤ o) (h : Rl t N o μ ν p) : Bo t N o μ ν p (f_X1_readCosts o μ) (ro 9 ν) := by
  obtain ⟨T, D, h3, h14⟩ := h
  obtain ⟨g0, g1, g2, g3, g4, g5, g6, g7, g8, g9⟩ := D.2.2.2.2.2.1
  have R : ro 9 ν = z_b2 (f_X5_takeNumber 0 999 ν) (fun r18 μ19 => some (r18, z_si μ19 110 3 (μ19.1 98 18))) := by
    unfold ro g_X5_takeOnce_43 g_X5_takeOnce_56
    rw [if_neg (show ¬ (9 : Int32) = 4 by decide), if_neg (show ¬ (9 : Int32) = 8 by decide), if_pos rfl]
    simp only [if_pos (show z_in (3 : Int32) 5 by decide), z_st_s]
    rfl
  rw [R]
  obtain ⟨ν2, G2, ⟨μ2, f, n1, F2, n2, fl⟩ | ⟨v, p2, μ2, hv1, hv2, hp2, n1, F2, n2, n18, T2, n14⟩⟩ := p_nums (lo := 0) (by decide) T
  · change f_X5_takeNumber 0 999 ν = some (nI f, ν2) at n2
    change f_X1_readNumber 0 μ = some (-1, μ2) at n1
    refine ⟨μ2, z_si ν2 110 3 (ν2.1 98 18), f, by rw [n2, z_b2_s], F2.mono (W2_c o), (G2.mono V1_m).si (Or.inr (by decide)) _, Or.inr ⟨?_, ?_⟩⟩
    · unfold f_X1_readCosts
      rw [n1, z_b2_s, if_pos rfl]
    · obtain ⟨a1, a2, a3, a4, a5, a6⟩ := fl
      refine ⟨a1, a2, a3, a4, a5, ?_⟩
      rw [p_si_ne (by decide)]
      exact a6
  · change f_X5_takeNumber 0 999 ν = some (0, ν2) at n2
    change f_X1_readNumber 0 μ = some (nI v, μ2) at n1
    have n3 : ¬ nI v = -1 := by
      intro w
      have := congrArg Int32.toInt w
      rw [nI_toInt (by omega)] at this
      have e0 : (-1 : Int32).toInt = -1 := by decide
      omega
    refine ⟨z_si μ2 o 10 (nI v), z_si ν2 110 3 (ν2.1 98 18), 0, by rw [n2, z_b2_s]; rfl, (F2.mono (W456_c o)).si (Or.inr (Or.inl ⟨rfl, by decide⟩)) _, (G2.mono V1_m).si (Or.inr (by decide)) _, Or.inl ⟨rfl, ?_, p2, by omega, (T2.c (Or.inl ho)).m (Or.inl (by decide)), ?_, ?_, ?_⟩⟩
    · unfold f_X1_readCosts
      rw [n1, z_b2_s, if_neg n3, z_st_s]
    · have m3 : ∀ a i, dC o a i → μ2.1 a i = μ.1 a i := fun a i hd => F2.1 a i (by unfold W456; unfold dC at hd; omega)
      have k3 : ∀ a i, dM a i → ν2.1 a i = ν.1 a i := fun a i hd => G2.1 a i (by unfold V1; unfold dM at hd; omega)
      refine dr.u5 ho D (fun a i hd hn => ?_) (fun a i hd hn => ?_) ?_
      · rw [p_si, if_neg (by omega)]
        exact m3 a i hd
      · rw [p_si, if_neg (by omega)]
        exact k3 a i hd
      · have u : ∀ i, ¬ i = 10 → (z_si μ2 o 10 (nI v)).1 o i = μ.1 o i := fun i hi => by
          rw [p_si_nk hi]
          exact m3 o i (by unfold dC; omega)
        have w : ∀ i, ¬ i = 3 → (z_si ν2 110 3 (ν2.1 98 18)).1 110 i = ν.1 110 i := fun i hi => by
          rw [p_si_nk hi]
          exact k3 110 i (by unfold dM; omega)
        unfold d5
        rw [u 11 (by decide), u 9 (by decide), u 12 (by decide), u 8 (by decide), p_si_at, w 0 (by decide), w 1 (by decide), w 2 (by decide), w 4 (by decide), p_si_at, n18]
        exact ⟨g0, g1, g2, rfl, g4, g5, g6, g7, ⟨by rw [nI_toInt (by omega)]; omega, by rw [nI_toInt (by omega)]; omega⟩, g9⟩
    · rw [p_si_ne (show (2 : Nat) ≠ o by omega), F2.1 2 3 (by unfold W456; omega)]
      exact h3
    · rw [p_si_ne (by decide), n14]
      exact h14
theorem b_within (ho : 51 ≤ o) (ht : ∀ i, i < N → p_in (t i) 0 255) (h : Rl t N o μ ν p) : Bo t N o μ ν p (f_X1_readWithin o μ) (ro 5 ν) := by
  obtain ⟨⟨h1, h2, hp, h6, ⟨p2, hp2, h15, hw⟩, h22⟩, D, h3, h14⟩ := h
  obtain ⟨g0, g1, g2, g3, g4, g5, g6, g7, g8, g9⟩ := D.2.2.2.2.2.1
  have h240 := h1.1
  obtain ⟨μ1, e1, F1, a5, a4, a6, aw, ae⟩ := p_word h1 hp h6
  obtain ⟨ν1, i1, G1, b15, b17, bw⟩ := p_readWord h2 ht hp2 h15
  have hq := wq_in t hp
  have he := we_in t hp
  have hT := tkE_in t hq.2
  have bv : wv t N p < 2 ^ 62 := by
    have := sv_b ht (wq t N p) (we t N p - wq t N p) (by omega)
    unfold wv
    omega
  change ν1.1 98 15 = nI (wq t N p2) at b15
  change ν1.1 98 17 = nI (xR1 cLe t N (wq t N p2)) at b17
  change ν1.2.1 98 16 = lN (sv t (wq t N p2) (xR1 cLe t N (wq t N p2) - wq t N p2)) at bw
  rw [hw] at b15 b17 bw
  change ν1.1 98 17 = nI (we t N p) at b17
  change ν1.2.1 98 16 = lN (wv t N p) at bw
  have kE := p_withinOf bw bv
  have R : ro 5 ν = if 0 ≤ ki (wcs 3) 0 (wv t N p) then some (0, z_si (z_si ν1 110 1 (ki (wcs 3) 0 (wv t N p))) 98 15 (nI (we t N p))) else some (1, z_si ν1 98 14 (nI (wq t N p))) := by
    unfold ro g_X5_takeOnce_43 g_X5_takeOnce_56 f_X5_fails
    rw [if_neg (show ¬ (5 : Int32) = 4 by decide), if_neg (show ¬ (5 : Int32) = 8 by decide), if_neg (show ¬ (5 : Int32) = 9 by decide), if_pos rfl, i1, z_b1_s, kE, z_b2_s, kE, z_b2_s, if_pos (show z_in (1 : Int32) 5 by decide), z_st_s, z_st_s, z_st_s, z_b2_s, b15, show (1 : Int32).toNatClampNeg = 1 from rfl, p_si_ne (show (98 : Nat) ≠ 110 by decide), b17]
  have C : f_X1_readWithin o μ = if ki (wcs 3) 0 (wv t N p) = -1 then z_b2 (f_X1_refuse 1 μ1) (fun r17 μ18 => if r17 = 0 ∨ r17 = 1 then some (r17, μ18) else none) else some (1, z_si μ1 o 9 (ki (wcs 3) 0 (wv t N p))) := by
    unfold f_X1_readWithin
    rw [e1, z_b1_s, aw 3 (by decide), z_b2_s, z_st_s]
  rw [R, C]
  rcases ki_rg (wcs 3) 0 (wv t N p) with z | ⟨k, hk, z⟩
  · obtain ⟨μ2, r1, r2, r3⟩ := p_refuse (f := 1) (h1.of F1) a5 hT.2 a6 (by decide)
    refine ⟨μ2, z_si ν1 98 14 (nI (wq t N p)), 1, ?_, (F1.mono (W456_c o)).tr (r2.mono (W2_c o)), ((G1.mono W15_V).mono V1_m).si (Or.inl (by decide)) _, Or.inr ⟨?_, r3 _ (p_si_at _ _ _ _)⟩⟩
    · rw [z, if_neg (by decide)]
      rfl
    · rw [if_pos z, show (1 : Int32) = nI 1 from rfl, r1, z_b2_s, if_pos (Or.inl rfl)]
  · have hk3 : k < 3 := hk
    rw [Nat.zero_add] at z
    have zn : ¬ ki (wcs 3) 0 (wv t N p) = -1 := by
      rw [z]
      exact nI_n1 k (by omega)
    obtain ⟨t1, t2⟩ := ae 3 (by decide) zn
    rw [if_neg zn, z, if_pos (nI_pos' (by omega))]
    have m3 : ∀ a i, dC o a i → μ1.1 a i = μ.1 a i := fun a i hd => F1.1 a i (by unfold W456; unfold dC at hd; omega)
    have k3 : ∀ a i, dM a i → ν1.1 a i = ν.1 a i := fun a i hd => G1.1 a i (by unfold W15; unfold dM at hd; omega)
    refine ⟨z_si μ1 o 9 (nI k), z_si (z_si ν1 110 1 (nI k)) 98 15 (nI (we t N p)), 0, rfl, (F1.mono (W456_c o)).si (Or.inr (Or.inl ⟨rfl, by decide⟩)) _, (((G1.mono W15_V).mono V1_m).si (Or.inr (by decide)) _).si (Or.inl (by decide)) _, Or.inl ⟨rfl, rfl, we t N p, by omega, ?_, ?_, ?_, ?_⟩⟩
    · have TT : Tl t N μ1 (z_si ν1 98 15 (nI (we t N p))) (we t N p) := by
        refine ⟨h1.of F1, h2.of (G1.si ⟨rfl, Or.inl rfl⟩ _), he.2, by rw [a6, t1], ⟨_, he.2, p_si_at _ _ _ _, rfl⟩, ?_⟩
        rw [F1.1 2 2 (by unfold W456; omega)]
        exact h22
      obtain ⟨q1, ⟨q2, q3, q4⟩, q5, q6, ⟨q7, q8, q9, q10⟩, q11⟩ := TT.c (a := o) (k := 9) (x := nI k) (Or.inl ho)
      refine ⟨q1, ⟨q2, ?_, fun j hj => ?_⟩, q5, q6, ⟨_, he.2, p_si_at _ _ _ _, rfl⟩, q11⟩
      · rw [p_si_nk (by decide), p_si_ne (by decide)]
        rw [p_si_nk (by decide)] at q3
        exact q3
      · rw [p_si_ne (by decide), p_si_ne (by decide)]
        have := q4 j hj
        rw [p_si_ne (by decide)] at this
        exact this
    · refine dr.u5 ho D (fun a i hd hn => ?_) (fun a i hd hn => ?_) ?_
      · rw [p_si, if_neg (by omega)]
        exact m3 a i hd
      · rw [p_si, if_neg (by unfold dM at hd; omega), p_si, if_neg (by omega)]
        exact k3 a i hd
      · have u : ∀ i, ¬ i = 9 → (z_si μ1 o 9 (nI k)).1 o i = μ.1 o i := fun i hi => by
          rw [p_si_nk hi]
          exact m3 o i (by unfold dC; omega)
        have w : ∀ i, ¬ i = 1 → (z_si (z_si ν1 110 1 (nI k)) 98 15 (nI (we t N p))).1 110 i = ν.1 110 i := fun i hi => by
          rw [p_si_ne (by decide), p_si_nk hi]
          exact k3 110 i (by unfold dM; omega)
        have w1 : (z_si (z_si ν1 110 1 (nI k)) 98 15 (nI (we t N p))).1 110 1 = nI k := by
          rw [p_si_ne (by decide), p_si_at]
        unfold d5
        rw [u 11 (by decide), p_si_at, u 12 (by decide), u 8 (by decide), u 10 (by decide), w 0 (by decide), w1, w 2 (by decide), w 4 (by decide), w 3 (by decide)]
        exact ⟨g0, rfl, g2, g3, g4, g5, ⟨by rw [nI_toInt (by omega)]; omega, by rw [nI_toInt (by omega)]; omega⟩, g7, g8, g9⟩
    · rw [p_si_ne (show (2 : Nat) ≠ o by omega), F1.1 2 3 (by unfold W456; omega)]
      exact h3
    · rw [p_si_nk (by decide), p_si_ne (by decide), G1.1 98 14 (by unfold W15; omega)]
      exact h14
end
