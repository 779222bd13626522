/-! PURE: the two readers -/
section
variable {t : Nat → Int32} {N : Nat} {μ0 μ ν : z_M} {o p : Nat}
theorem p_clause (ho : 51 ≤ o) (ht : ∀ i, i < N → p_in (t i) 0 255) (h : Rl t N o μ0 ν p) (hn : f_X1_nextToken μ0 = some μ) : ∃ μ' ν' f, cC o μ = some μ' ∧ f_X5_takeClause ν = some (nI f, ν') ∧ gF (Wc o) μ0 μ' ∧ hF Vm ν ν' ∧ ((f = 0 ∧ ∃ p', p < p' ∧ Rl t N o μ' ν' p') ∨ Fl t N f μ' ν') := by
  obtain ⟨⟨h1, h2, hp, h6, ⟨p2, hp2, h15, hw⟩, h22⟩, D, h3, h14⟩ := h
  have h240 := h1.1
  obtain ⟨μ', e1, F1, a5, a4, a6, aw, ae⟩ := p_word h1 hp h6
  obtain rfl : μ = μ' := Option.some.inj (hn.symm.trans e1)
  obtain ⟨ν1, i1, G1, b15, b17, bw⟩ := p_readWord h2 ht hp2 h15
  have hq := wq_in t hp
  have he := we_in t hp
  have hT := tkE_in t hq.2
  have bv : wv t N p < 2 ^ 62 := by
    have := sv_b ht (wq t N p) (we t N p - wq t N p) (by omega)
    unfold wv
    omega
  change ν1.1 98 15 = nI (wq t N p2) at b15
  change ν1.1 98 17 = nI (xR1 cLe t N (wq t N p2)) at b17
  change ν1.2.1 98 16 = lN (sv t (wq t N p2) (xR1 cLe t N (wq t N p2) - wq t N p2)) at bw
  rw [hw] at b15 b17 bw
  change ν1.1 98 17 = nI (we t N p) at b17
  change ν1.2.1 98 16 = lN (wv t N p) at bw
  have kE := p_clauseOf bw bv
  have aw0 := aw 0 (by decide)
  have TC : f_X5_takeClause ν = if 0 ≤ ki (wcs 0) 0 (wv t N p) then (if ki (wcs 0) 0 (wv t N p) = 0 then cl_r (f_X5_takeRides (z_si ν1 98 15 (nI (we t N p)))) else if ki (wcs 0) 0 (wv t N p) = 1 then cl_r (f_X5_takeAhead (nI (wq t N p)) (z_si ν1 98 15 (nI (we t N p)))) else if (if ki (wcs 0) 0 (wv t N p) = 4 then (1 : Int32) else if ki (wcs 0) 0 (wv t N p) = 5 then 1 else if ki (wcs 0) 0 (wv t N p) ≤ 7 then 0 else 1) = 0 then cl_r (f_X5_takeOfKind (ki (wcs 0) 0 (wv t N p)) (z_si ν1 98 15 (nI (we t N p)))) else cl_r (f_X5_takeOnce (ki (wcs 0) 0 (wv t N p)) (nI (wq t N p)) (z_si ν1 98 15 (nI (we t N p))))) else some (1, z_si ν1 98 14 (nI (wq t N p))) := by
    unfold f_X5_takeClause f_X5_fails
    rw [i1, z_b1_s, kE, z_b2_s, z_lt_s, z_st_s, z_lt_s, z_st_s, z_b2_s, b15, b17]
    rfl
  have tx1 := h1.of F1
  rcases ki_rg (wcs 0) 0 (wv t N p) with z | ⟨c, hc, z⟩
  · obtain ⟨μ3, s1, s2, s3⟩ := p_refuse (f := 1) tx1 a5 hT.2 a6 (by decide)
    refine ⟨μ3, z_si ν1 98 14 (nI (wq t N p)), 1, ?_, ?_, (F1.mono (W456_c o)).tr (s2.mono (W2_c o)), ((G1.mono W15_V).mono V1_m).si (Or.inl (by decide)) _, Or.inr (s3 _ (p_si_at _ _ _ _))⟩
    · unfold cC f_X1_beginClause
      rw [aw0, z_b2_s, if_pos z, show (1 : Int32) = nI 1 from rfl, s1, z_b2_s, z_b2_s, if_pos rfl]
    · rw [TC, z, if_neg (by decide)]
      rfl
  · have hc10 : c < 10 := hc
    rw [Nat.zero_add] at z
    have zn : ¬ ki (wcs 0) 0 (wv t N p) = -1 := by
      rw [z]
      have : ∀ c, c < 10 → ¬ nI c = -1 := by decide
      exact this c hc10
    obtain ⟨t1, t2⟩ := ae 0 (by decide) zn
    rw [z] at aw0 TC
    rw [t1] at a6
    rw [if_pos (nI_pos' (by omega))] at TC
    have R : Rl t N o μ (z_si ν1 98 15 (nI (we t N p))) (we t N p) := by
      refine ⟨⟨tx1, h2.of (G1.si ⟨rfl, Or.inl rfl⟩ _), he.2, a6, ⟨_, he.2, p_si_at _ _ _ _, rfl⟩, ?_⟩, ?_, ?_, ?_⟩
      · rw [F1.1 2 2 (by unfold W456; omega)]
        exact h22
      · refine dr.u7 ho D (fun a j hd _ => F1.1 a j (by unfold W456; unfold dC at hd; omega)) (fun a j hd _ => ?_)
        rw [p_si, if_neg (by unfold dM at hd; omega)]
        exact G1.1 a j (by unfold W15; unfold dM at hd; omega)
      · rw [F1.1 2 3 (by unfold W456; omega)]
        exact h3
      · rw [p_si_nk (by decide), G1.1 98 14 (by unfold W15; omega)]
        exact h14
    obtain ⟨μ', ν', f, x1, x2, x3, x4, x5⟩ := p_past ho ht R hc10 aw0 a5
    refine ⟨μ', ν', f, x1, TC.trans x2, (F1.mono (W456_c o)).tr x3, (((G1.mono W15_V).mono V1_m).si (Or.inl (by decide)) _).tr x4, ?_⟩
    rcases x5 with ⟨y1, p', y2, y3⟩ | y
    · exact Or.inl ⟨y1, p', by omega, y3⟩
    · exact Or.inr y
def Wi (o : Nat) : Nat → Nat → Prop := fun a k => Wc o a k ∨ (a = 2 ∧ k = 1)
theorem Wc_i (o : Nat) : ∀ a k, Wc o a k → Wi o a k := fun _ _ h => Or.inl h
theorem g35_u (o fu : Nat) (c : Int32) (μ : z_M) (h4 : ¬ μ.1 2 4 = 0) (h2 : μ.1 2 2 = 0) (hc : ¬ (240 : Int32) ≤ c) {μ' μ'' : z_M} (h : cC o μ = some μ') (h' : f_X1_nextToken μ' = some μ'') : g_X1_readInto_35 o (fu + 1) c μ = g_X1_readInto_35 o fu (c + 1) μ'' := by
  rw [g_X1_readInto_35]
  rw [if_neg h4, if_pos h2, if_neg hc]
  unfold cC cl_c at h
  rcases e1 : f_X1_beginClause o μ with _ | ⟨r, m⟩
  · rw [e1] at h
    cases h
  · rw [e1, z_b2_s] at h
    rw [z_b2_s]
    unfold g_X1_readInto_80
    by_cases z : r = -1
    · rw [if_pos z] at h
      rw [if_pos z, Option.some.inj h, h', z_b1_s]
    · rw [if_neg z] at h
      rw [if_neg z]
      rcases e2 : f_X1_readBody r o m with _ | ⟨r2, m2⟩
      · rw [e2] at h
        cases h
      · rw [e2, z_b2_s] at h
        rw [z_b2_s]
        by_cases y : r2 = 0
        · rw [if_pos y] at h
          rw [if_pos y, Option.some.inj h, h', z_b1_s]
        · rw [if_neg y] at h
          rw [if_neg y, h, z_b1_s, h', z_b1_s]
theorem g35_e (o fu : Nat) (c : Int32) (μ : z_M) (h : μ.1 2 4 = 0 ∨ ¬ μ.1 2 2 = 0) : g_X1_readInto_35 o (fu + 1) c μ = some (c, z_si μ 2 1 0) := by
  rw [g_X1_readInto_35]
  by_cases z : μ.1 2 4 = 0
  · rw [if_pos z, z_st_s]
  · rw [if_neg z, if_neg (h.resolve_left z), z_st_s]
/-- the readers side by side -/
theorem p_into (ho : 51 ≤ o) (ht : ∀ i, i < N → p_in (t i) 0 255) {μB νB : z_M} {n : Nat} : ∀ d p c fu fv μ0 μ ν, p + d = N → d + 1 < fu → d + 1 < fv → c ≤ p → Rl t N o μ0 ν p → f_X1_nextToken μ0 = some μ → gF (Wi o) μB μ0 → hF Vm νB ν → ∃ μ' c' f ν', g_X1_readInto_35 o fu (nI c) μ = some (nI c', μ') ∧ g_X5_law_34 fv (nI n) (nI c) 0 ν = g_X5_law_56 (nI n) (nI c') (nI f) ν' ∧ gF (Wi o) μB μ' ∧ hF Vm νB ν' ∧ μ'.1 2 1 = 0 ∧ ((f = 0 ∧ μ'.1 2 2 = 0 ∧ dr μ' ν' o ∧ μ'.1 2 3 = -1 ∧ ν'.1 98 14 = -1) ∨ (1 ≤ f ∧ f ≤ 3 ∧ μ'.1 2 2 = nI f ∧ μ'.1 2 3 = ν'.1 98 14)) := by
  intro d
  induction d using Nat.strongRecOn with
  | ind d ih =>
    intro p c fu fv μ0 μ ν hd hf hv hcp h hn FB GB
    obtain ⟨fu, rfl⟩ : ∃ q, fu = q + 2 := ⟨fu - 2, by omega⟩
    obtain ⟨fv, rfl⟩ : ∃ q, fv = q + 2 := ⟨fv - 2, by omega⟩
    have h0 := h
    obtain ⟨⟨h1, h2, hp, h6, ⟨p2, hp2, h15, hw⟩, h22⟩, D, h3, h14⟩ := h
    have h240 := h1.1
    obtain ⟨μ', e1, F1, a5, a4, a6, -, -⟩ := p_word h1 hp h6
    obtain rfl : μ = μ' := Option.some.inj (hn.symm.trans e1)
    obtain ⟨ν1, g1, G1, b15, b2⟩ := p_here h2 hp2 h15
    change f_X5_here ν = some (hV t N (wq t N p2), ν1) at g1
    change ν1.1 98 15 = nI (wq t N p2) at b15
    rw [hw] at g1 b15
    have hq := wq_in t hp
    have GB1 := GB.tr ((G1.mono W15_V).mono V1_m)
    have L : g_X5_law_34 (fv + 2) (nI n) (nI c) 0 ν = if hV t N (wq t N p) < 0 then g_X5_law_56 (nI n) (nI c) 0 ν1 else z_b2 (f_X5_takeClause ν1) fun r39 μ40 => g_X5_law_34 (fv + 1) (nI n) (nI (c + 1)) r39 μ40 := by
      rw [g_X5_law_34]
      rw [if_pos rfl, g1, z_b2_s, nI_1]
    have R1 : Rl t N o μ0 ν1 p := by
      refine ⟨⟨h1, h2.of G1, hp, h6, ⟨_, hq.2, b15, wq_wq t hp⟩, h22⟩, ?_, h3, ?_⟩
      · exact dr.u7 ho D (fun a j hd _ => rfl) (fun a j hd _ => G1.1 a j (by unfold W15; unfold dM at hd; omega))
      · rw [G1.1 98 14 (by unfold W15; omega)]
        exact h14
    by_cases z : N ≤ wq t N p
    · have k0 : tkK t N (wq t N p) = 0 := by
        unfold tkK
        rw [if_pos z]
      rw [k0] at a4
      have hv0 : hV t N (wq t N p) < 0 := by
        unfold hV
        rw [if_pos z]
        decide
      rw [if_pos hv0] at L
      refine ⟨z_si μ 2 1 0, c, 0, ν1, g35_e o _ _ _ (Or.inl a4), L, (FB.tr ((F1.mono (W456_c o)).mono (Wc_i o))).si (Or.inr ⟨rfl, rfl⟩) _, GB1, p_si_at _ _ _ _, Or.inl ⟨rfl, ?_, ?_, ?_, R1.2.2.2⟩⟩
      · rw [p_si_nk (by decide), F1.1 2 2 (by unfold W456; omega)]
        exact h22
      · refine dr.u7 ho R1.2.1 (fun a j hd _ => ?_) (fun a j hd _ => rfl)
        rw [p_si, if_neg (by unfold dC at hd; omega)]
        exact F1.1 a j (by unfold W456; unfold dC at hd; omega)
      · rw [p_si_nk (by decide), F1.1 2 3 (by unfold W456; omega)]
        exact h3
    · have hv0 : ¬ hV t N (wq t N p) < 0 := by
        unfold hV
        rw [if_neg z, Int32.lt_iff_toInt_lt]
        have := (ht (wq t N p) (by omega)).1
        have e0 : (0 : Int32).toInt = 0 := by decide
        omega
      have k0 : ¬ μ.1 2 4 = 0 := by
        rw [a4]
        unfold tkK
        rw [if_neg z]
        split
        · decide
        · split <;> decide
      have u22 : μ.1 2 2 = 0 := by
        rw [F1.1 2 2 (by unfold W456; omega)]
        exact h22
      have c240 : ¬ (240 : Int32) ≤ nI c := nI_ge (b := 240) (by omega) (by decide)
      rw [if_neg hv0] at L
      obtain ⟨μ2, ν2, f, x1, x2, x3, x4, x5⟩ := p_clause ho ht R1 hn
      rw [x2, z_b2_s] at L
      have FB2 := FB.tr (x3.mono (Wc_i o))
      have GB2 := GB1.tr x4
      rcases x5 with ⟨y1, p', y2, y3⟩ | ⟨y1, y2, y3, ⟨p', hp', y4⟩, y5, y6⟩
      · obtain ⟨μ3, w1, w2, -⟩ := p_nT y3.1.1 y3.1.2.2.1 y3.1.2.2.2.1
        have hp'N := y3.1.2.2.1
        rw [y1, show nI 0 = 0 from rfl] at L
        obtain ⟨μ', c', f', ν', v1, v2, v3⟩ := ih (N - p') (by omega) p' (c + 1) (fu + 1) (fv + 1) μ2 μ3 ν2 (by omega) (by omega) (by omega) (by omega) y3 w1 FB2 GB2
        refine ⟨μ', c', f', ν', ?_, L.trans v2, v3⟩
        rw [g35_u o _ _ _ k0 u22 c240 x1 w1, nI_1]
        exact v1
      · obtain ⟨μ3, w1, w2, -⟩ := p_nT y3 hp' y4
        have m22 : μ3.1 2 2 = nI f := by
          rw [w2.1 2 2 (by unfold W456; omega)]
          exact y5
        have mn : ¬ nI f = 0 := nI_ne0 (by omega) (by omega)
        refine ⟨z_si μ3 2 1 0, c + 1, f, ν2, ?_, ?_, (FB2.tr ((w2.mono (W456_c o)).mono (Wc_i o))).si (Or.inr ⟨rfl, rfl⟩) _, GB2, p_si_at _ _ _ _, Or.inr ⟨y1, y2, ?_, ?_⟩⟩
        · rw [g35_u o _ _ _ k0 u22 c240 x1 w1, nI_1]
          exact g35_e o _ _ _ (Or.inr (by rw [m22]; exact mn))
        · rw [L, g_X5_law_34]
          rw [if_neg mn]
        · rw [p_si_nk (by decide)]
          exact m22
        · rw [p_si_nk (by decide), w2.1 2 3 (by unfold W456; omega)]
          exact y6
end
