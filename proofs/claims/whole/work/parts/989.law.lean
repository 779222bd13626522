/-! PURE: law -/
theorem z_RL_no : ∀ q ∈ z_RL, q.1 ≠ 1 ∧ ¬ (q.1 = 0 ∧ q.2.1 = 9) := by decide +kernel
/-- the references past law's swap -/
theorem p_swap_ok {μ : z_M} {n a b : Nat} (h : z_ok z_SH μ.2.2) (ha : a ∈ z_LAWS) (hb : b ∈ z_LAWS) : z_ok z_SH (z_sr (z_sr μ 1 n (some a)) 0 9 (some b)).2.2 := by
  obtain ⟨h1, h2, h3, h4, h5, h6⟩ := h
  refine ⟨h1, fun q hq => ?_, fun r hr => ?_, fun k r hr => ?_, fun k r hr => ?_, fun k r hr => ?_⟩
  · obtain ⟨q1, q2⟩ := z_RL_no q hq
    have h2q := h2 q hq
    by_cases h0 : q.1 = 0
    · rw [h0] at h2q ⊢
      rw [z_sr_at, if_neg (fun w => q2 ⟨h0, w⟩), z_sr_ne (by decide)]
      exact h2q
    · rw [z_sr_ne h0, z_sr_ne q1]
      exact h2q
  · rw [z_sr_at, if_pos rfl] at hr
    cases hr
    exact hb
  · rw [z_sr_ne (by decide), z_sr_at] at hr
    by_cases hk : k = n
    · rw [if_pos hk] at hr
      cases hr
      exact ha
    · rw [if_neg hk] at hr
      exact h4 k r hr
  · rw [z_sr_ne (by decide), z_sr_ne (by decide)] at hr
    exact h5 k r hr
  · rw [z_sr_ne (by decide), z_sr_ne (by decide)] at hr
    exact h6 k r hr
/-- the steps told, as a relation -/
def sg (μ : z_M) (o : Nat) (a b : Nat) : Bool := decide (a < 8 ∧ b < 8 ∧ p_bit (μ.1 (o + 3) a) b = 1)
theorem sg_lt (μ : z_M) (o : Nat) : ∀ a b, sg μ o a b = true → a < 8 ∧ b < 8 := fun a b h => by
  have := of_decide_eq_true h
  exact ⟨this.1, this.2.1⟩
theorem sg_rb (μ : z_M) (o : Nat) : rb μ o (sg μ o) := fun a b ha hb => by
  unfold sg
  rcases p_bit_01 (μ.1 (o + 3) a) (k := b) (by omega) with w | w
  · rw [w, if_neg]
    simp
  · rw [w, if_pos]
    simp [ha, hb]
theorem sg_ir {μ ν : z_M} {o : Nat} (h : dr μ ν o) : ∀ a, ¬ sg μ o a a = true := fun a w => by
  have w' := of_decide_eq_true w
  have h4 := h.2.2.2.2.1
  have := (h4.1 a a w'.1 w'.1).1
  rw [h4.2 a w'.1, w'.2.2] at this
  exact absurd this (by decide)
theorem sg_109 {μ ν : z_M} {o : Nat} (h : dr μ ν o) : ∀ a b, a < 8 → b < 8 → (ν.1 109 (8 * a + b) &&& 1) = if sg μ o a b = true then 1 else 0 := fun a b ha hb => by
  have h4 := (h.2.2.2.2.1.1 a b ha hb)
  rw [← sg_rb μ o a b ha hb, h4.1]
  rcases h4.2 with w | w <;> rw [w] <;> decide
theorem k_tab_c {μ μ' ν : z_M} {o : Nat} (h : dr μ ν o) (hu : z_un [o, o + 3, o + 4] μ μ') (hi : ∀ i, i ≠ 7 → μ'.1 o i = μ.1 o i) (hb : rb μ' o (cl (sg μ o) 8)) (hr : rk μ' o (hH (cl (sg μ o) 8))) (h7 : μ'.1 o 7 = rgv (cl (sg μ o) 8) 8) : c_law μ' o (k_tab (ν.1 105) (ν.1 106) (ν.1 107) (ν.1 108) (ν.1 110) (cl (sg μ o) 8)) := by
  have hg := sg_ir h
  obtain ⟨h0, h1, h2, h3, h4, h5, h6⟩ := h
  obtain ⟨r0, r1, r2, r3, r4, -⟩ := h5
  refine ⟨fun k hk => ⟨?_, ?_, ?_, ?_, ?_⟩, fun a b ha hb' => ?_, ?_, ?_, ?_, ?_, ?_, ?_⟩
  · rw [hu.1 (o + 1) (by simp)]
    exact (h0 k hk).2.1
  · rw [hi 4 (by decide), hi 5 (by decide), (h1 k hk).1, (h1 k hk).2.1]
    show _ = ν.1 106 k
    rcases (h1 k hk).2.2 with w | w | w <;> rw [w] <;> decide
  · rw [hu.1 (o + 2) (by simp)]
    exact (h2 k hk).1
  · rw [hi 6 (by decide), (h3 k hk).1]
    show _ = (ν.1 108 k &&& 1)
    rcases (h3 k hk).2 with w | w <;> rw [w] <;> decide
  · exact hr k hk
  · show _ = cT (cl (sg μ o) 8) (8 * a + b)
    rw [cT_at _ hb']
    exact hb a b ha hb'
  · rw [hi 11 (by decide)]
    exact r0.symm
  · rw [hi 9 (by decide)]
    exact r1.symm
  · rw [hi 12 (by decide)]
    exact r2.symm
  · rw [hi 10 (by decide)]
    exact r3.symm
  · rw [hi 8 (by decide)]
    exact r4.symm
  · rw [h7]
    exact p_ringEq (sg_lt μ o) hg
theorem k_tab_w {μ ν : z_M} {o : Nat} (h : dr μ ν o) : w_law (k_tab (ν.1 105) (ν.1 106) (ν.1 107) (ν.1 108) (ν.1 110) (cl (sg μ o) 8)) := by
  obtain ⟨h0, h1, h2, h3, h4, h5, h6⟩ := h
  obtain ⟨r0, r1, r2, r3, r4, b0, b1, b2, b3, b4⟩ := h5
  have tr : ∀ a b c, cl (sg μ o) 8 a b = true → cl (sg μ o) 8 b c = true → cl (sg μ o) 8 a c = true := fun a b c q1 q2 => k_tr (sg_lt μ o) q1 q2
  refine ⟨fun k hk => ⟨?_, ?_, (h2 k hk).2, ?_, ?_⟩, fun k hk => ?_, ?_, ?_, ?_, ?_, ?_, rfl⟩
  · show p_in (if ν.1 105 k = 0 then 1 else ν.1 105 k) 1 7
    obtain ⟨⟨q1, q2⟩, -⟩ := h0 k hk
    by_cases w : ν.1 105 k = 0
    · rw [if_pos w]
      decide
    · rw [if_neg w]
      refine ⟨?_, q2⟩
      have : (ν.1 105 k).toInt ≠ 0 := fun e => w (Int32.toInt_inj.mp (e.trans (by decide)))
      omega
  · show p_in (ν.1 106 k) (-1) 1
    rcases (h1 k hk).2.2 with w | w | w <;> rw [w] <;> decide
  · show (ν.1 108 k &&& 1) = 0 ∨ (ν.1 108 k &&& 1) = 1
    rcases (h3 k hk).2 with w | w <;> rw [w] <;> decide
  · show p_in (nI (hH (cl (sg μ o) 8) k)) 0 7
    have := h_7 tr hk
    refine ⟨?_, ?_⟩ <;> rw [nI_toInt (by omega)] <;> omega
  · show cT (cl (sg μ o) 8) k = 0 ∨ cT (cl (sg μ o) 8) k = 1
    unfold cT
    split
    · exact Or.inr rfl
    · exact Or.inl rfl
  · show ν.1 110 0 = 0 ∨ ν.1 110 0 = 1
    rw [r0]
    exact b0
  · show p_in (ν.1 110 1) 0 2
    rw [r1]
    exact b1
  · show ν.1 110 2 = 0 ∨ ν.1 110 2 = 1
    rw [r2]
    exact b2
  · show p_in (ν.1 110 3) 0 999
    rw [r3]
    exact b3
  · show p_in (ν.1 110 4) 0 12
    rw [r4]
    exact b4
theorem m_law.kF {n m : Nat} {ν ν' : z_M} {l : a_T} (h : m_law ν m l) (hk : kF n ν ν') (hn : n ≠ m) : m_law ν' m l := by
  obtain ⟨h1, h2, h3⟩ := h
  refine ⟨fun k hk8 => ?_, fun k hk64 => ?_, fun k hk5 => ?_⟩
  · rw [hk.1 99 _ (by unfold kW; omega), hk.1 100 _ (by unfold kW; omega), hk.1 101 _ (by unfold kW; omega), hk.1 102 _ (by unfold kW; omega), hk.1 113 _ (by unfold kW; omega)]
    exact h1 k hk8
  · rw [hk.1 103 _ (by unfold kW; omega)]
    exact h2 k hk64
  · rw [hk.1 104 _ (by unfold kW; omega)]
    exact h3 k hk5
theorem m_law.cg {m : Nat} {ν ν' : z_M} {l : a_T} (h : m_law ν m l) (hh : ∀ i, (99 ≤ i ∧ i ≤ 104) ∨ i = 113 → ν'.1 i = ν.1 i) : m_law ν' m l := by
  unfold m_law at h ⊢
  simp only [hh 99 (by omega), hh 100 (by omega), hh 101 (by omega), hh 102 (by omega), hh 103 (by omega), hh 104 (by omega), hh 113 (by omega)]
  exact h
theorem s_1 : zs_1 Inv0 := by
  rintro μ ⟨A, hw, hC, hM⟩ x
  by_cases hx : p_in x 0 3
  case neg =>
    refine p_look hw hC hM (r := -1001) ?_ (fun ν hν => ?_)
    · unfold f_X4_law
      rw [p_isLand4, z_b2_s, if_pos (p_b_0.mpr hx)]
    · unfold f_X5_law
      rw [p_isLand5, z_b2_s, if_pos (p_b_0.mpr hx)]
  obtain ⟨n, rfl, hn3, hn31⟩ := p_nat hx
  have hn : n < 4 := by omega
  have hlen : A.2.2.2.1.length ≤ 240 := hw.2.2.1
  obtain ⟨lp, l1, l2, l3, l4⟩ := hC.2.2.2.2.2.1
  have ho := z_LAWS_ge _ (l1 4 (by omega))
  have htx : tx μ (fun k => A.2.2.2.1.getD k 0) A.2.2.2.1.length := ⟨hlen, hC.2.2.1, hC.2.2.2.1⟩
  have hmy : ∀ ν : z_M, (∀ i, 98 ≤ i → ν.1 i = μ.1 i) → my ν (fun k => A.2.2.2.1.getD k 0) A.2.2.2.1.length := fun ν hν => by
    refine ⟨hlen, ?_, ?_⟩
    · rw [hν 98 (by omega)]
      exact hM.2.2.2.1
    · rw [hν 111 (by omega)]
      exact hM.2.2.2.2.1
  have ht : ∀ i, i < A.2.2.2.1.length → p_in (A.2.2.2.1.getD i 0) 0 255 := fun i hi => by
    refine hw.2.2.2.1 _ ?_
    rw [List.getD_eq_getElem?_getD, List.getElem?_eq_getElem hi]
    exact List.getElem_mem hi
  obtain ⟨μ1, c, f0, ν0, e1, -, F1, -, z21, z4, z7, cs⟩ := p_readers (n := n) ho.1 ht htx (hmy μ (fun _ _ => rfl)) hn
  have key : ∀ ν : z_M, (∀ i, 98 ≤ i → ν.1 i = μ.1 i) → ∃ f ν', f_X5_law (nI n) ν = g_X5_law_56 (nI n) (nI c) (nI f) ν' ∧ hF Vm ν ν' ∧ ((f = 0 ∧ μ1.1 2 2 = 0 ∧ dr μ1 ν' (lp 4) ∧ μ1.1 2 3 = -1 ∧ ν'.1 98 14 = -1) ∨ (1 ≤ f ∧ f ≤ 3 ∧ μ1.1 2 2 = nI f ∧ μ1.1 2 3 = ν'.1 98 14)) := fun ν hν => by
    obtain ⟨μ2, c2, f, ν', e2, e3, -, G, -, -, -, cs⟩ := p_readers (n := n) ho.1 ht htx (hmy ν hν) hn
    have e4 := Option.some.inj (e1.symm.trans e2)
    have e5 := congrArg Prod.fst e4
    have e6 := congrArg Prod.snd e4
    change nI c = nI c2 at e5
    change μ1 = μ2 at e6
    subst e6
    rw [← e5] at e3
    exact ⟨f, ν', e3, G, cs⟩
  have o1 : ∀ i, i ≠ 2 → ¬ (lp 4 ≤ i ∧ i ≤ lp 4 + 4) → μ1.1 i = μ.1 i := fun i h1 h2 => funext fun k => F1.1 i k (by unfold Wj; omega)
  have hL4 : f_X4_law (nI n) μ = if μ1.1 2 2 = 0 then ((μ1.2.2 0 9).bind fun r18 => (z_b1 (f_X0_settle (r18) μ1) fun μ22 => (if z_in (nI n) 4 then ((μ22.2.2 1 (nI n).toNatClampNeg).bind fun r27 => ((μ22.2.2 0 9).bind fun r30 => (if z_in (nI n) 4 then (z_st (z_sr μ22 1 (nI n).toNatClampNeg (some r30)) fun μ33 => (z_st (z_sr μ33 0 9 (some r27)) fun μ35 => (some (nI c, μ35)))) else none))) else none))) else some ((-10 : Int32) - μ1.1 2 2, μ1) := by
    unfold f_X4_law
    rw [p_isLand4, z_b2_s, if_neg (fun w => p_b_0.mp w hx), l4]
    rw [Option.bind_some]
    rw [e1, z_b2_s]
  by_cases z : μ1.1 2 2 = 0
  case neg =>
    rw [if_neg z] at hL4
    obtain ⟨f, ν', k1, G, k2⟩ := key μ1 (fun i hi => o1 i (by omega) (by omega))
    rcases k2 with ⟨-, w, -⟩ | ⟨f1, f3, w22, w23⟩
    · exact absurd w z
    have C' : InvC (a_lw A (μ1.1 2 3) A.2.2.2.2.2) μ1 := by
      refine hC.lw ho o1 z21 rfl ⟨lp, l1, l2, fun m hm => ⟨?_, ((l3 m hm).2).cg (fun i hi1 hi2 => ?_)⟩, ?_⟩ ?_ ?_ ?_
      · rw [F1.2]
        exact (l3 m hm).1
      · have d1 := z_LAWS_dj _ (l1 m (by omega)) _ (l1 4 (by omega)) (fun w => by have := l2 m 4 (by omega) (by omega) w; omega)
        have d2 := z_LAWS_ge _ (l1 m (by omega))
        exact o1 i (by omega) (by omega)
      · rw [F1.2]
        exact l4
      · rw [F1.2]
      · rw [F1.2]
      · rw [F1.2]
        exact hC.ok
    have hM1 : InvM A μ1 := hM.hi (fun i hi => o1 i (by omega) (by omega))
    have V : ∀ i, ¬ i = 98 → ¬ (105 ≤ i ∧ i ≤ 110) → (z_si ν' 98 13 0).1 i = μ1.1 i := fun i h1 h2 => by
      rw [p_si_ne h1]
      exact funext fun k => G.1 i k (by unfold Vm; omega)
    refine ⟨-10 - μ1.1 2 2, μ1, z_si ν' 98 13 0, hL4, C'.ok, ?_, a_lw A (μ1.1 2 3) A.2.2.2.2.2, w_lw hw _ hw.2.2.2.2, C'.lo ⟨fun i hi => V i (by omega) (by omega), G.2⟩, hM1.lw (fun i hi => V i (by omega) (by omega)) ?_ ?_ (p_si_at _ _ _ _) ?_ (fun m hm => (hM1.2.2.2.2.2.2 m hm).cg (fun i hi => V i (by omega) (by omega)))⟩
    · rw [k1]
      unfold g_X5_law_56
      rw [z_st_s, if_neg (show ¬ nI f ≤ 0 from nI_nle (by omega) (by omega)), w22]
    · rw [p_si_nk (by decide)]
      exact G.1 98 24 (by unfold Vm; omega)
    · rw [p_si_nk (by decide)]
      exact G.1 98 27 (by unfold Vm; omega)
    · rw [p_si_nk (by decide)]
      exact w23.symm
  case pos =>
    rw [if_pos z] at hL4
    have f23 : μ1.1 2 3 = -1 := by
      rcases cs with ⟨-, -, -, w, -⟩ | ⟨q1, q3, w, -⟩
      · exact w
      · rw [z] at w
        have := congrArg Int32.toInt w
        rw [nI_toInt (by omega)] at this
        have e0 : (0 : Int32).toInt = 0 := by decide
        omega
    obtain ⟨μ2, s1, s2, s3, s4, s5, s6⟩ := p_settle (o := lp 4) (μ := μ1) (sg_lt μ1 (lp 4)) (sg_rb μ1 (lp 4)) (fun k hk => (z4 k hk).trans nI_0.symm) z7
    have R2 : μ2.2.2 = μ.2.2 := by rw [s2.2, F1.2]
    have o2 : ∀ i, i ≠ 2 → ¬ (lp 4 ≤ i ∧ i ≤ lp 4 + 4) → μ2.1 i = μ.1 i := fun i h1 h2 => (s2.1 i (by simp; omega)).trans (o1 i h1 h2)
    have e4 : f_X4_law (nI n) μ = some (nI c, z_sr (z_sr μ2 1 n (some (lp 4))) 0 9 (some (lp n))) := by
      rw [hL4, F1.2, l4, Option.bind_some, s1, z_b1_s]
      simp only [if_pos (p_zn hn (show 4 < 2 ^ 31 by decide))]
      rw [nI_clamp (by omega), R2, (l3 n hn).1, Option.bind_some, l4, Option.bind_some, z_st_s, z_st_s]
    have c4 : (z_sr (z_sr μ2 1 n (some (lp 4))) 0 9 (some (lp n))).1 = μ2.1 := rfl
    have k4 : z_ok z_SH (z_sr (z_sr μ2 1 n (some (lp 4))) 0 9 (some (lp n))).2.2 := p_swap_ok (by rw [R2]; exact hC.ok) (l1 4 (by omega)) (l1 n (by omega))
    have a4 : ∀ j, (z_sr (z_sr μ2 1 n (some (lp 4))) 0 9 (some (lp n))).2.2 1 j = if j = n then some (lp 4) else μ.2.2 1 j := fun j => by
      rw [z_sr_ne (by decide), z_sr_at, R2]
    have b4 : (z_sr (z_sr μ2 1 n (some (lp 4))) 0 9 (some (lp n))).2.2 0 9 = some (lp n) := by
      rw [z_sr_at, if_pos rfl]
    have d4 : ∀ a, a ≠ 0 → a ≠ 1 → (z_sr (z_sr μ2 1 n (some (lp 4))) 0 9 (some (lp n))).2.2 a = μ.2.2 a := fun a h1 h2 => by
      rw [z_sr_ne h1, z_sr_ne h2, R2]
    generalize z_sr (z_sr μ2 1 n (some (lp 4))) 0 9 (some (lp n)) = μ4 at *
    obtain ⟨f, ν', k1, G, k2⟩ := key μ4 (fun i hi => by rw [c4]; exact o2 i (by omega) (by omega))
    rcases k2 with ⟨f0', -, D, -, w14⟩ | ⟨q1, q3, w, -⟩
    case inr =>
      rw [z] at w
      have := congrArg Int32.toInt w
      rw [nI_toInt (by omega)] at this
      have e0 : (0 : Int32).toInt = 0 := by decide
      omega
    obtain ⟨ν2, m1, m2, m3⟩ := p_keepLaw (n := n) (s := sg μ1 (lp 4)) (ν := z_si ν' 98 13 0) hn (sg_lt μ1 (lp 4)) (fun a b ha hb => by rw [p_si_ne (by decide)]; exact sg_109 D a b ha hb)
    rw [p_si_ne (by decide), p_si_ne (by decide), p_si_ne (by decide), p_si_ne (by decide), p_si_ne (by decide)] at m3
    have T1 := k_tab_c D s2 s3 s4 s5 s6
    have T2 := k_tab_w D
    generalize k_tab (ν'.1 105) (ν'.1 106) (ν'.1 107) (ν'.1 108) (ν'.1 110) (cl (sg μ1 (lp 4)) 8) = T at *
    have V : ∀ i, ¬ i = 98 → ¬ (105 ≤ i ∧ i ≤ 110) → (z_si ν' 98 13 0).1 i = μ4.1 i := fun i h1 h2 => by
      rw [p_si_ne h1]
      exact funext fun k => G.1 i k (by unfold Vm; omega)
    have V2 : ∀ i, i < 98 ∨ 113 < i → ν2.1 i = μ4.1 i := fun i h => by
      rw [← V i (by omega) (by omega)]
      exact funext fun k => m2.read i k (by omega)
    have L0 : ∀ m, m < 4 → (if m = n then lp 4 else lp m) ∈ z_LAWS := fun m hm => by
      split
      · exact l1 4 (by omega)
      · exact l1 m (by omega)
    have hl : c_laws μ4 (fun m => if m = n then T else A.2.2.2.2.2 m) := by
      refine ⟨fun i => if i = n then lp 4 else if i = 4 then lp n else lp i, fun i hi => ?_, fun i j hi hj e => ?_, fun m hm => ⟨?_, ?_⟩, ?_⟩
      · show (if i = n then lp 4 else if i = 4 then lp n else lp i) ∈ z_LAWS
        split
        · exact l1 4 (by omega)
        · split
          · exact l1 n (by omega)
          · exact l1 i hi
      · change (if i = n then lp 4 else if i = 4 then lp n else lp i) = (if j = n then lp 4 else if j = 4 then lp n else lp j) at e
        have e' : lp (if i = n then 4 else if i = 4 then n else i) = lp (if j = n then 4 else if j = 4 then n else j) := by
          rw [apply_ite lp, apply_ite lp, apply_ite lp, apply_ite lp]
          exact e
        have pm : ∀ i, i < 5 → (if i = n then 4 else if i = 4 then n else i) < 5 := fun i hi => by
          split
          · decide
          · split <;> omega
        have := l2 _ _ (pm i hi) (pm j hj) e'
        by_cases p1 : i = n
        · rw [if_pos p1] at this
          by_cases p2 : j = n
          · omega
          · rw [if_neg p2] at this
            split at this <;> omega
        · rw [if_neg p1] at this
          by_cases p2 : j = n
          · rw [if_pos p2] at this
            split at this <;> omega
          · rw [if_neg p2] at this
            split at this <;> split at this <;> omega
      · show μ4.2.2 1 m = some (if m = n then lp 4 else if m = 4 then lp n else lp m)
        rw [a4]
        by_cases w : m = n
        · rw [if_pos w, if_pos w]
        · rw [if_neg w, if_neg w, if_neg (by omega)]
          exact (l3 m hm).1
      · show c_law μ4 (if m = n then lp 4 else if m = 4 then lp n else lp m) (if m = n then T else A.2.2.2.2.2 m)
        by_cases w : m = n
        · rw [if_pos w, if_pos w]
          exact T1.cg (fun i _ _ => by rw [c4])
        · rw [if_neg w, if_neg w, if_neg (by omega)]
          refine ((l3 m hm).2).cg (fun i hi1 hi2 => ?_)
          have d1 := z_LAWS_dj _ (l1 m (by omega)) _ (l1 4 (by omega)) (fun w => by have := l2 m 4 (by omega) (by omega) w; omega)
          have d2 := z_LAWS_ge _ (l1 m (by omega))
          rw [c4]
          exact o2 i (by omega) (by omega)
      · show μ4.2.2 0 9 = some (if 4 = n then lp 4 else if 4 = 4 then lp n else lp 4)
        rw [b4, if_neg (by omega), if_pos rfl]
    have C' : InvC (a_lw A (μ1.1 2 3) (fun m => if m = n then T else A.2.2.2.2.2 m)) μ4 := by
      have e2 : μ4.1 2 = μ1.1 2 := by
        rw [c4]
        exact s2.1 2 (by simp; omega)
      exact hC.lw ho (fun i h1 h2 => by rw [c4]; exact o2 i h1 h2) (by rw [e2]; exact z21) (by rw [e2]) hl (d4 26 (by decide) (by decide)) (d4 39 (by decide) (by decide)) k4
    have hM4 : InvM A μ4 := hM.hi (fun i hi => by rw [c4]; exact o2 i (by omega) (by omega))
    have lo : z_lo μ4 ν2 := ⟨fun i hi => V2 i (Or.inl hi), (congrArg Prod.snd m2.2).trans G.2⟩
    refine ⟨nI c, μ4, ν2, e4, k4, ?_, a_lw A (μ1.1 2 3) (fun m => if m = n then T else A.2.2.2.2.2 m), w_lw hw _ (fun m hm => ?_), C'.lo lo, hM4.lw (fun i hi => V2 i (by omega)) ?_ ?_ ?_ ?_ (fun m hm => ?_)⟩
    · rw [k1]
      unfold g_X5_law_56
      subst f0'
      rw [z_st_s, if_pos (show nI 0 ≤ 0 by decide), m1, z_b1_s]
    · show w_law (if m = n then T else A.2.2.2.2.2 m)
      split
      · exact T2
      · exact hw.2.2.2.2 m hm
    · rw [m2.read 98 24 (by omega), p_si_nk (by decide)]
      exact G.1 98 24 (by unfold Vm; omega)
    · rw [m2.read 98 27 (by omega), p_si_nk (by decide)]
      exact G.1 98 27 (by unfold Vm; omega)
    · rw [m2.read 98 13 (by omega), p_si_at]
    · rw [m2.read 98 14 (by omega), p_si_nk (by decide), w14, f23]
    · show m_law ν2 m (if m = n then T else A.2.2.2.2.2 m)
      by_cases w : m = n
      · rw [if_pos w, w]
        exact m3
      · rw [if_neg w]
        exact ((hM4.2.2.2.2.2.2 m hm).cg (fun i hi => V i (by omega) (by omega))).kF m2 (fun e => w e.symm)
