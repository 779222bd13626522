/-! PURE: clauses of one kind: first, behind, leave, dies -/
section
variable {t : Nat → Int32} {N : Nat} {μ ν : z_M} {o p : Nat}
theorem nI_n1 : ∀ k, k < 8 → ¬ nI k = -1 := by decide
theorem b_first (ho : 51 ≤ o) (ht : ∀ i, i < N → p_in (t i) 0 255) (h : Rl t N o μ ν p) : Bo t N o μ ν p (f_X1_readFirst o μ) (f_X5_takeOfKind 2 ν) := by
  obtain ⟨T, D, h3, h14⟩ := h
  have Dk := D.2.1
  obtain ⟨ν', G, ⟨μ', r, F, tk, fl⟩ | ⟨k, hk, q, p', hp', tk, k19, k20, bad, good, e14⟩⟩ := p_kinds ht T
  · refine ⟨μ', ν', 1, ?_, F.mono (W2_c o), G.mono V1_m, Or.inr ⟨?_, fl⟩⟩
    · unfold f_X5_takeOfKind
      rw [tk, z_b2_s, if_neg (show ¬ (1 : Int32) ≤ 0 by decide)]
      rfl
    · unfold f_X1_readFirst
      rw [r, z_b2_s, if_pos rfl]
  · have e1 : ν'.1 106 = ν.1 106 := funext fun j => G.1 106 j (by unfold V1; omega)
    have zk : z_in (nI k) 8 := p_zn hk (by decide)
    have R : f_X5_takeOfKind 2 ν = if ν.1 106 k = 0 then some (0, z_si ν' 106 k (1)) else some (3, z_si ν' 98 14 (nI q)) := by
      unfold f_X5_takeOfKind f_X5_fails
      rw [tk, z_b2_s, if_pos (show (0 : Int32) ≤ 0 by decide), z_lt_s, k19, if_pos ⟨fun _ _ => zk, fun _ _ => zk, fun _ => zk⟩, z_lt_s]
      simp only [nI_clamp (show k < 2 ^ 31 by omega), e1, if_pos zk, z_st_s, z_b2_s, k20]
      by_cases z : ν.1 106 k = 0
      · simp [z]
      · simp [z]
    have hb := Dk k hk
    by_cases z : ν.1 106 k = 0
    · have hm : ¬ p_bit (μ.1 o 4 ||| μ.1 o 5) k = 1 := by
        rw [pb_oo _ _ (by omega), hb.1, hb.2.1, z]
        decide
      obtain ⟨μ', r, F, T'⟩ := good _ hm
      have ef : ∀ j, μ'.1 o j = μ.1 o j := fun j => F.1 o j (by unfold W456; omega)
      refine ⟨z_si μ' o 4 (μ'.1 o 4 ||| ((1 : Int32) <<< (nI k &&& 31))), z_si ν' 106 k (1), 0, ?_, (F.mono (W456_c o)).si (Or.inr (Or.inl ⟨rfl, by decide⟩)) _, (G.mono V1_m).si (Or.inr (by decide)) _, Or.inl ⟨rfl, ?_, p', by omega, (T'.c (Or.inl ho)).m (Or.inl (by decide)), ?_, ?_, ?_⟩⟩
      · rw [R, if_pos z]
        rfl
      · unfold f_X1_readFirst
        rw [r, z_b2_s, if_neg (nI_n1 k hk), z_st_s]
      · refine dr.u1 ho D (fun a j hc hn => ?_) (fun a j hc hn => ?_) (fun j hj => ?_)
        · rw [p_si, if_neg (by omega)]
          exact F.1 a j (by unfold W456; unfold dC at hc; omega)
        · rw [p_si, if_neg (by omega)]
          exact G.1 a j (by unfold V1; unfold dM at hc; omega)
        · have hj8 := Dk j hj
          rw [p_si ν' 106 k 106 j, p_si μ' o 4 o 4, if_pos (show o = o ∧ 4 = 4 from ⟨rfl, rfl⟩), p_si μ' o 4 o 5, if_neg (show ¬ (o = o ∧ 5 = 4) by omega), ef, ef, p_bit_or _ (by omega) (by omega)]
          by_cases y : j = k
          · rw [if_pos y, if_pos (show 106 = 106 ∧ j = k from ⟨rfl, y⟩), hj8.2.1, y, z]
            decide
          · rw [if_neg y, if_neg (show ¬ (106 = 106 ∧ j = k) from fun w => y w.2), e1]
            exact hj8
      · rw [p_si_ne (show (2 : Nat) ≠ o by omega), F.1 2 3 (by unfold W456; omega)]
        exact h3
      · rw [p_si_ne (by decide), e14]
        exact h14
    · have hm : p_bit (μ.1 o 4 ||| μ.1 o 5) k = 1 := by
        rw [pb_oo _ _ (by omega), hb.1, hb.2.1]
        rcases hb.2.2 with y | y | y
        · exact absurd y z
        · rw [y]
          decide
        · rw [y]
          decide
      obtain ⟨μ', r, F, fl⟩ := bad _ hm
      refine ⟨μ', z_si ν' 98 14 (nI q), 3, ?_, F.mono (W2_c o), (G.mono V1_m).si (Or.inl (by decide)) _, Or.inr ⟨?_, fl _ (p_si_at _ _ _ _)⟩⟩
      · rw [R, if_neg z]
        rfl
      · unfold f_X1_readFirst
        rw [r, z_b2_s, if_pos rfl]
theorem b_behind (ho : 51 ≤ o) (ht : ∀ i, i < N → p_in (t i) 0 255) (h : Rl t N o μ ν p) : Bo t N o μ ν p (f_X1_readBehind o μ) (f_X5_takeOfKind 3 ν) := by
  obtain ⟨T, D, h3, h14⟩ := h
  have Dk := D.2.1
  obtain ⟨ν', G, ⟨μ', r, F, tk, fl⟩ | ⟨k, hk, q, p', hp', tk, k19, k20, bad, good, e14⟩⟩ := p_kinds ht T
  · refine ⟨μ', ν', 1, ?_, F.mono (W2_c o), G.mono V1_m, Or.inr ⟨?_, fl⟩⟩
    · unfold f_X5_takeOfKind
      rw [tk, z_b2_s, if_neg (show ¬ (1 : Int32) ≤ 0 by decide)]
      rfl
    · unfold f_X1_readBehind
      rw [r, z_b2_s, if_pos rfl]
  · have e1 : ν'.1 106 = ν.1 106 := funext fun j => G.1 106 j (by unfold V1; omega)
    have zk : z_in (nI k) 8 := p_zn hk (by decide)
    have R : f_X5_takeOfKind 3 ν = if ν.1 106 k = 0 then some (0, z_si ν' 106 k (-1)) else some (3, z_si ν' 98 14 (nI q)) := by
      unfold f_X5_takeOfKind f_X5_fails
      rw [tk, z_b2_s, if_pos (show (0 : Int32) ≤ 0 by decide), z_lt_s, k19, if_pos ⟨fun _ _ => zk, fun _ _ => zk, fun _ => zk⟩, z_lt_s]
      simp only [nI_clamp (show k < 2 ^ 31 by omega), e1, if_pos zk, z_st_s, z_b2_s, k20]
      by_cases z : ν.1 106 k = 0
      · simp [z]
      · simp [z]
    have hb := Dk k hk
    by_cases z : ν.1 106 k = 0
    · have hm : ¬ p_bit (μ.1 o 4 ||| μ.1 o 5) k = 1 := by
        rw [pb_oo _ _ (by omega), hb.1, hb.2.1, z]
        decide
      obtain ⟨μ', r, F, T'⟩ := good _ hm
      have ef : ∀ j, μ'.1 o j = μ.1 o j := fun j => F.1 o j (by unfold W456; omega)
      refine ⟨z_si μ' o 5 (μ'.1 o 5 ||| ((1 : Int32) <<< (nI k &&& 31))), z_si ν' 106 k (-1), 0, ?_, (F.mono (W456_c o)).si (Or.inr (Or.inl ⟨rfl, by decide⟩)) _, (G.mono V1_m).si (Or.inr (by decide)) _, Or.inl ⟨rfl, ?_, p', by omega, (T'.c (Or.inl ho)).m (Or.inl (by decide)), ?_, ?_, ?_⟩⟩
      · rw [R, if_pos z]
        rfl
      · unfold f_X1_readBehind
        rw [r, z_b2_s, if_neg (nI_n1 k hk), z_st_s]
      · refine dr.u1 ho D (fun a j hc hn => ?_) (fun a j hc hn => ?_) (fun j hj => ?_)
        · rw [p_si, if_neg (by omega)]
          exact F.1 a j (by unfold W456; unfold dC at hc; omega)
        · rw [p_si, if_neg (by omega)]
          exact G.1 a j (by unfold V1; unfold dM at hc; omega)
        · have hj8 := Dk j hj
          rw [p_si ν' 106 k 106 j, p_si μ' o 5 o 5, if_pos (show o = o ∧ 5 = 5 from ⟨rfl, rfl⟩), p_si μ' o 5 o 4, if_neg (show ¬ (o = o ∧ 4 = 5) by omega), ef, ef, p_bit_or _ (by omega) (by omega)]
          by_cases y : j = k
          · rw [if_pos y, if_pos (show 106 = 106 ∧ j = k from ⟨rfl, y⟩), hj8.1, y, z]
            decide
          · rw [if_neg y, if_neg (show ¬ (106 = 106 ∧ j = k) from fun w => y w.2), e1]
            exact hj8
      · rw [p_si_ne (show (2 : Nat) ≠ o by omega), F.1 2 3 (by unfold W456; omega)]
        exact h3
      · rw [p_si_ne (by decide), e14]
        exact h14
    · have hm : p_bit (μ.1 o 4 ||| μ.1 o 5) k = 1 := by
        rw [pb_oo _ _ (by omega), hb.1, hb.2.1]
        rcases hb.2.2 with y | y | y
        · exact absurd y z
        · rw [y]
          decide
        · rw [y]
          decide
      obtain ⟨μ', r, F, fl⟩ := bad _ hm
      refine ⟨μ', z_si ν' 98 14 (nI q), 3, ?_, F.mono (W2_c o), (G.mono V1_m).si (Or.inl (by decide)) _, Or.inr ⟨?_, fl _ (p_si_at _ _ _ _)⟩⟩
      · rw [R, if_neg z]
        rfl
      · unfold f_X1_readBehind
        rw [r, z_b2_s, if_pos rfl]
theorem b_leave (ho : 51 ≤ o) (ht : ∀ i, i < N → p_in (t i) 0 255) (h : Rl t N o μ ν p) : Bo t N o μ ν p (f_X1_readLeave o μ) (f_X5_takeOfKind 7 ν) := by
  obtain ⟨T, D, h3, h14⟩ := h
  have Dk := D.2.2.2.1
  obtain ⟨ν', G, ⟨μ', r, F, tk, fl⟩ | ⟨k, hk, q, p', hp', tk, k19, k20, bad, good, e14⟩⟩ := p_kinds ht T
  · refine ⟨μ', ν', 1, ?_, F.mono (W2_c o), G.mono V1_m, Or.inr ⟨?_, fl⟩⟩
    · unfold f_X5_takeOfKind
      rw [tk, z_b2_s, if_neg (show ¬ (1 : Int32) ≤ 0 by decide)]
      rfl
    · unfold f_X1_readLeave
      rw [r, z_b2_s, if_pos rfl]
  · have e1 : ν'.1 108 = ν.1 108 := funext fun j => G.1 108 j (by unfold V1; omega)
    have zk : z_in (nI k) 8 := p_zn hk (by decide)
    have R : f_X5_takeOfKind 7 ν = if ν.1 108 k = 0 then some (0, z_si ν' 108 k (1)) else some (3, z_si ν' 98 14 (nI q)) := by
      unfold f_X5_takeOfKind f_X5_fails
      rw [tk, z_b2_s, if_pos (show (0 : Int32) ≤ 0 by decide), z_lt_s, k19, if_pos ⟨fun _ _ => zk, fun _ _ => zk, fun _ => zk⟩, z_lt_s]
      simp only [nI_clamp (show k < 2 ^ 31 by omega), e1, if_pos zk, z_st_s, z_b2_s, k20]
      by_cases z : ν.1 108 k = 0
      · simp [z]
      · simp [z]
    have hb := Dk k hk
    by_cases z : ν.1 108 k = 0
    · have hm : ¬ p_bit (μ.1 o 6) k = 1 := by
        rw [hb.1, z]
        decide
      obtain ⟨μ', r, F, T'⟩ := good _ hm
      have ef : ∀ j, μ'.1 o j = μ.1 o j := fun j => F.1 o j (by unfold W456; omega)
      refine ⟨z_si μ' o 6 (μ'.1 o 6 ||| ((1 : Int32) <<< (nI k &&& 31))), z_si ν' 108 k (1), 0, ?_, (F.mono (W456_c o)).si (Or.inr (Or.inl ⟨rfl, by decide⟩)) _, (G.mono V1_m).si (Or.inr (by decide)) _, Or.inl ⟨rfl, ?_, p', by omega, (T'.c (Or.inl ho)).m (Or.inl (by decide)), ?_, ?_, ?_⟩⟩
      · rw [R, if_pos z]
        rfl
      · unfold f_X1_readLeave
        rw [r, z_b2_s, if_neg (nI_n1 k hk), z_st_s]
      · refine dr.u3 ho D (fun a j hc hn => ?_) (fun a j hc hn => ?_) (fun j hj => ?_)
        · rw [p_si, if_neg (by omega)]
          exact F.1 a j (by unfold W456; unfold dC at hc; omega)
        · rw [p_si, if_neg (by omega)]
          exact G.1 a j (by unfold V1; unfold dM at hc; omega)
        · have hj8 := Dk j hj
          rw [p_si ν' 108 k 108 j, p_si_at, ef, p_bit_or _ (by omega) (by omega)]
          by_cases y : j = k
          · rw [if_pos y, if_pos (show 108 = 108 ∧ j = k from ⟨rfl, y⟩)]
            decide
          · rw [if_neg y, if_neg (show ¬ (108 = 108 ∧ j = k) from fun w => y w.2), e1]
            exact hj8
      · rw [p_si_ne (show (2 : Nat) ≠ o by omega), F.1 2 3 (by unfold W456; omega)]
        exact h3
      · rw [p_si_ne (by decide), e14]
        exact h14
    · have hm : p_bit (μ.1 o 6) k = 1 := by
        rw [hb.1]
        exact hb.2.resolve_left z
      obtain ⟨μ', r, F, fl⟩ := bad _ hm
      refine ⟨μ', z_si ν' 98 14 (nI q), 3, ?_, F.mono (W2_c o), (G.mono V1_m).si (Or.inl (by decide)) _, Or.inr ⟨?_, fl _ (p_si_at _ _ _ _)⟩⟩
      · rw [R, if_neg z]
        rfl
      · unfold f_X1_readLeave
        rw [r, z_b2_s, if_pos rfl]
theorem p_ktd {μ : z_M} {o : Nat} {s : Nat → Int32} (h : d2 (μ.1 (o + 2)) s) : ∀ d j fu x, j + d = 8 → d < fu → (∀ k, k < 8 → (p_bit x k = 1 ↔ k < j ∧ ¬ s k = 0)) → ∃ x', g_X1_kindsThatDie_4 o fu x (nI j) μ = some (x', μ) ∧ ∀ k, k < 8 → (p_bit x' k = 1 ↔ ¬ s k = 0) := by
  intro d
  induction d with
  | zero =>
    intro j fu x hj hf hx
    obtain ⟨fu, rfl⟩ : ∃ q, fu = q + 1 := ⟨fu - 1, by omega⟩
    refine ⟨x, ?_, fun k hk => ?_⟩
    · rw [g_X1_kindsThatDie_4]
      rw [if_pos (show (8 : Int32) ≤ nI j from nI_le (a := 8) (by omega) (by omega))]
    · rw [hx k hk]
      exact ⟨fun w => w.2, fun w => ⟨by omega, w⟩⟩
  | succ d ih =>
    intro j fu x hj hf hx
    obtain ⟨fu, rfl⟩ : ∃ q, fu = q + 1 := ⟨fu - 1, by omega⟩
    have hs := (h j (by omega)).1
    rw [g_X1_kindsThatDie_4]
    rw [if_neg (show ¬ (8 : Int32) ≤ nI j from nI_ge (b := 8) (by omega) (by decide)), p_g (show j < 8 by omega) (by decide), nI_clamp (by omega), hs, nI_1, z_lt_s]
    by_cases z : s j = 0
    · rw [if_pos z]
      refine ih (j + 1) fu x (by omega) (by omega) (fun k hk => ?_)
      rw [hx k hk]
      constructor
      · exact fun w => ⟨by omega, w.2⟩
      · intro w
        refine ⟨?_, w.2⟩
        by_cases y : k = j
        · exact absurd (by rw [y]; exact z) w.2
        · omega
    · rw [if_neg z]
      refine ih (j + 1) fu _ (by omega) (by omega) (fun k hk => ?_)
      rw [p_bit_or _ (by omega) (by omega)]
      by_cases y : k = j
      · rw [if_pos y]
        exact ⟨fun _ => ⟨by omega, by rw [y]; exact z⟩, fun _ => rfl⟩
      · rw [if_neg y, hx k hk]
        exact ⟨fun w => ⟨by omega, w.2⟩, fun w => ⟨by omega, w.2⟩⟩
theorem p_0bit : ∀ k, k < 32 → p_bit 0 k = 0 := by decide +kernel
theorem b_dies (ho : 51 ≤ o) (ht : ∀ i, i < N → p_in (t i) 0 255) (h : Rl t N o μ ν p) : Bo t N o μ ν p (f_X1_readDies o μ) (f_X5_takeOfKind 6 ν) := by
  obtain ⟨T, D, h3, h14⟩ := h
  have Dk := D.2.2.1
  have hN : z_N = 5000 := rfl
  obtain ⟨x, hx1, hx2⟩ := p_ktd Dk 8 0 z_N 0 (by omega) (by omega) (fun k hk => by rw [p_0bit k (by omega)]; exact ⟨fun w => absurd w (by decide), fun w => absurd w.1 (by omega)⟩)
  rw [nI_0] at hx1
  obtain ⟨ν', G, ⟨μ', r, F, tk, fl⟩ | ⟨k, hk, q, p', hp', tk, k19, k20, bad, good, e14⟩⟩ := p_kinds ht T
  · refine ⟨μ', ν', 1, ?_, F.mono (W2_c o), G.mono V1_m, Or.inr ⟨?_, fl⟩⟩
    · unfold f_X5_takeOfKind
      rw [tk, z_b2_s, if_neg (show ¬ (1 : Int32) ≤ 0 by decide)]
      rfl
    · unfold f_X1_readDies f_X1_kindsThatDie
      rw [hx1, z_b2_s, r, z_b2_s, if_pos rfl]
  · have e1 : ν'.1 107 = ν.1 107 := funext fun j => G.1 107 j (by unfold V1; omega)
    have zk : z_in (nI k) 8 := p_zn hk (by decide)
    have hb := Dk k hk
    have hle : ν.1 107 k ≤ 0 ↔ ν.1 107 k = 0 := by
      have := hb.2.1
      rw [Int32.le_iff_toInt_le, ← Int32.toInt_inj]
      have e0 : (0 : Int32).toInt = 0 := by decide
      omega
    have R : f_X5_takeOfKind 6 ν = if ν.1 107 k = 0 then z_b2 (f_X5_takeNumber 1 999 ν') (fun r18 μ19 => some (r18, z_si μ19 107 k (μ19.1 98 18))) else some (3, z_si ν' 98 14 (nI q)) := by
      unfold f_X5_takeOfKind f_X5_fails
      rw [tk, z_b2_s, if_pos (show (0 : Int32) ≤ 0 by decide), z_lt_s, k19, if_pos ⟨fun _ _ => zk, fun _ _ => zk, fun _ => zk⟩, z_lt_s]
      simp only [nI_clamp (show k < 2 ^ 31 by omega), e1, if_pos zk, z_st_s, z_b2_s, k20, hle]
      by_cases z : ν.1 107 k = 0
      · simp [z]
      · simp [z]
    by_cases z : ν.1 107 k = 0
    · obtain ⟨μ1, r, F, T1⟩ := good x (fun w => (hx2 k hk).mp w z)
      rw [R, if_pos z]
      obtain ⟨ν2, G2, ⟨μ2, f, n1, F2, n2, fl⟩ | ⟨v, p2, μ2, hv1, hv2, hp2, n1, F2, n2, n18, T2, n14⟩⟩ := p_nums (lo := 1) (by decide) T1
      · change f_X5_takeNumber 1 999 ν' = some (nI f, ν2) at n2
        change f_X1_readNumber 1 μ1 = some (-1, μ2) at n1
        refine ⟨μ2, z_si ν2 107 k (ν2.1 98 18), f, by rw [n2, z_b2_s], (F.mono (W456_c o)).tr (F2.mono (W2_c o)), ((G.mono V1_m).tr (G2.mono V1_m)).si (Or.inr (by decide)) _, Or.inr ⟨?_, ?_⟩⟩
        · unfold f_X1_readDies f_X1_kindsThatDie
          rw [hx1, z_b2_s, r, z_b2_s, if_neg (nI_n1 k hk), n1, z_b2_s, if_pos rfl]
        · obtain ⟨a1, a2, a3, a4, a5, a6⟩ := fl
          refine ⟨a1, a2, a3, a4, a5, ?_⟩
          rw [p_si_ne (by decide)]
          exact a6
      · change f_X5_takeNumber 1 999 ν' = some (0, ν2) at n2
        change f_X1_readNumber 1 μ1 = some (nI v, μ2) at n1
        have n3 : ¬ nI v = -1 := by
          intro w
          have := congrArg Int32.toInt w
          rw [nI_toInt (by omega)] at this
          have e0 : (-1 : Int32).toInt = -1 := by decide
          omega
        have e2 : ν2.1 107 = ν.1 107 := (funext fun j => G2.1 107 j (by unfold V1; omega)).trans e1
        refine ⟨z_si μ2 (o + 2) k (nI v), z_si ν2 107 k (ν2.1 98 18), 0, by rw [n2, z_b2_s]; rfl, ((F.mono (W456_c o)).tr (F2.mono (W456_c o))).si (Or.inr (Or.inr (Or.inr (Or.inl rfl)))) _, ((G.mono V1_m).tr (G2.mono V1_m)).si (Or.inr (by decide)) _, Or.inl ⟨rfl, ?_, p2, by omega, (T2.c (Or.inl (by omega))).m (Or.inl (by decide)), ?_, ?_, ?_⟩⟩
        · unfold f_X1_readDies f_X1_kindsThatDie
          rw [hx1, z_b2_s, r, z_b2_s, if_neg (nI_n1 k hk), n1, z_b2_s, if_neg n3, if_pos zk, z_st_s, nI_clamp (by omega)]
        · refine dr.u2 ho D (fun a j hc hn => ?_) (fun a j hc hn => ?_) (fun j hj => ?_)
          · rw [p_si, if_neg (by omega)]
            exact (F.tr F2).1 a j (by unfold W456; unfold dC at hc; omega)
          · rw [p_si, if_neg (by omega)]
            exact (G.tr G2).1 a j (by unfold V1; unfold dM at hc; omega)
          · rw [p_si, p_si, n18]
            by_cases y : j = k
            · rw [if_pos ⟨rfl, y⟩, if_pos ⟨rfl, y⟩]
              exact ⟨rfl, by rw [nI_toInt (by omega)]; omega, by rw [nI_toInt (by omega)]; omega⟩
            · rw [if_neg (fun w => y w.2), if_neg (fun w => y w.2), e2, show μ2.1 (o + 2) j = μ.1 (o + 2) j from (F.tr F2).1 _ j (by unfold W456; omega)]
              exact Dk j hj
        · rw [p_si_ne (show (2 : Nat) ≠ o + 2 by omega), (F.tr F2).1 2 3 (by unfold W456; omega)]
          exact h3
        · rw [p_si_ne (by decide), n14, e14]
          exact h14
    · obtain ⟨μ', r, F, fl⟩ := bad x ((hx2 k hk).mpr z)
      refine ⟨μ', z_si ν' 98 14 (nI q), 3, ?_, F.mono (W2_c o), (G.mono V1_m).si (Or.inl (by decide)) _, Or.inr ⟨?_, fl _ (p_si_at _ _ _ _)⟩⟩
      · rw [R, if_neg z]
        rfl
      · unfold f_X1_readDies f_X1_kindsThatDie
        rw [hx1, z_b2_s, r, z_b2_s, if_pos rfl]
end
