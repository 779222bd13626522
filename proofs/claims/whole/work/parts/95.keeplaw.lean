/-! PURE: the reference's keepLaw -/
/-- the places that hold the law of land n -/
def kW (n a k : Nat) : Prop := ((a = 99 ∨ a = 100 ∨ a = 101 ∨ a = 102 ∨ a = 113) ∧ 8 * n ≤ k ∧ k < 8 * n + 8) ∨ ((a = 103 ∨ a = 112) ∧ 64 * n ≤ k ∧ k < 64 * n + 64) ∨ (a = 104 ∧ 5 * n ≤ k ∧ k < 5 * n + 5)
def kF (n : Nat) (ν ν' : z_M) : Prop := (∀ a k, ¬ kW n a k → ν'.1 a k = ν.1 a k) ∧ ν'.2 = ν.2
theorem kF.rf (n : Nat) (ν : z_M) : kF n ν ν := ⟨fun _ _ _ => rfl, rfl⟩
theorem kF.tr {n : Nat} {a b c : z_M} (h : kF n a b) (g : kF n b c) : kF n a c := ⟨fun i k q => (g.1 i k q).trans (h.1 i k q), g.2.trans h.2⟩
theorem kF.si {n : Nat} {ν ν' : z_M} (h : kF n ν ν') {a k : Nat} (hW : kW n a k) (x : Int32) : kF n ν (z_si ν' a k x) := by
  refine ⟨fun b j q => ?_, h.2⟩
  rw [p_si, if_neg (fun z => q (by rw [z.1, z.2]; exact hW))]
  exact h.1 b j q
theorem kF.of {n : Nat} {ν ν' : z_M} {X : List Nat} (h : z_un X ν ν') (hX : ∀ a ∈ X, ∀ k, kW n a k ∨ ν'.1 a k = ν.1 a k) : kF n ν ν' := by
  refine ⟨fun a k q => ?_, h.2⟩
  rcases Classical.em (a ∈ X) with z | z
  · exact (hX a z k).resolve_left q
  · rw [h.1 a z]
theorem kF.read {n : Nat} {ν ν' : z_M} (h : kF n ν ν') (a k : Nat) (ha : a < 99 ∨ (104 < a ∧ a < 112) ∨ 113 < a) : ν'.1 a k = ν.1 a k := h.1 a k (by unfold kW; omega)
section
variable {n : Nat} {ν : z_M}
/-- the rows that are copied -/
theorem p_kl2 (hn : n < 4) (K : z_M → Prop) (hK : ∀ ν', kF n ν ν' → (∀ k, k < 8 → ν'.1 99 (8 * n + k) = (if ν.1 105 k = 0 then 1 else ν.1 105 k) ∧ ν'.1 100 (8 * n + k) = ν.1 106 k ∧ ν'.1 101 (8 * n + k) = ν.1 107 k ∧ ν'.1 102 (8 * n + k) = (ν.1 108 k &&& 1)) → K ν') : ∀ c k fu ν1, k + c = 8 → c < fu → kF n ν ν1 → (∀ j, j < k → ν1.1 99 (8 * n + j) = (if ν.1 105 j = 0 then 1 else ν.1 105 j) ∧ ν1.1 100 (8 * n + j) = ν.1 106 j ∧ ν1.1 101 (8 * n + j) = ν.1 107 j ∧ ν1.1 102 (8 * n + j) = (ν.1 108 j &&& 1)) → ∃ ν', K ν' ∧ g_X5_keepLaw_2 fu (nI n) (nI k) ν1 = g_X5_keepLaw_97 z_N (nI n) 0 ν' := by
  intro c
  induction c with
  | zero =>
    intro k fu ν1 hk hf hF hc
    obtain ⟨fu, rfl⟩ : ∃ q, fu = q + 1 := ⟨fu - 1, by omega⟩
    have ek : k = 8 := by omega
    subst ek
    refine ⟨ν1, hK ν1 hF hc, ?_⟩
    rw [g_X5_keepLaw_2]
    rw [if_pos (show (8 : Int32) ≤ nI 8 by decide)]
  | succ c ih =>
    intro k fu ν1 hk hf hF hc
    obtain ⟨fu, rfl⟩ : ∃ q, fu = q + 1 := ⟨fu - 1, by omega⟩
    have hz : z_in (nI k) 8 := p_zn (by omega) (by decide)
    have hz2 : z_in (nI (8 * n + k)) 32 := p_zn (by omega) (by decide)
    have e8 : (8 : Int32) * nI n + nI k = nI (8 * n + k) := p_ix 8 n k
    have w : ∀ a, (a = 99 ∨ a = 100 ∨ a = 101 ∨ a = 102) → kW n a (8 * n + k) := fun a ha => Or.inl ⟨by omega, by omega, by omega⟩
    have r5 : ν1.1 105 k = ν.1 105 k := hF.read 105 k (by omega)
    have r6 : ν1.1 106 k = ν.1 106 k := hF.read 106 k (by omega)
    have r7 : ν1.1 107 k = ν.1 107 k := hF.read 107 k (by omega)
    have r8 : ν1.1 108 k = ν.1 108 k := hF.read 108 k (by omega)
    rw [g_X5_keepLaw_2]
    rw [if_neg (show ¬ (8 : Int32) ≤ nI k from p_nle (a := 8) (by omega) (by decide)), if_pos hz, if_pos (fun _ => hz), e8]
    simp only [if_pos hz, if_pos hz2, z_st_s, nI_clamp (show k < 2 ^ 31 by omega), nI_clamp (show 8 * n + k < 2 ^ 31 by omega), r5, nI_1]
    rw [p_si_ne (show (106 : Nat) ≠ 99 by decide), r6, p_si_ne (show (107 : Nat) ≠ 100 by decide), p_si_ne (show (107 : Nat) ≠ 99 by decide), r7, p_si_ne (show (108 : Nat) ≠ 101 by decide), p_si_ne (show (108 : Nat) ≠ 100 by decide), p_si_ne (show (108 : Nat) ≠ 99 by decide), r8]
    refine ih (k + 1) fu _ (by omega) (by omega) ((((hF.si (w 99 (by omega)) _).si (w 100 (by omega)) _).si (w 101 (by omega)) _).si (w 102 (by omega)) _) (fun j hj => ?_)
    by_cases e : j = k
    · subst e
      refine ⟨?_, ?_, ?_, p_si_at _ _ _ _⟩
      · rw [p_si_ne (by decide), p_si_ne (by decide), p_si_ne (by decide), p_si_at]
      · rw [p_si_ne (by decide), p_si_ne (by decide), p_si_at]
      · rw [p_si_ne (by decide), p_si_at]
    · have hne : 8 * n + j ≠ 8 * n + k := by omega
      obtain ⟨q1, q2, q3, q4⟩ := hc j (by omega)
      refine ⟨?_, ?_, ?_, ?_⟩
      · rw [p_si_ne (by decide), p_si_ne (by decide), p_si_ne (by decide), p_si_nk hne, q1]
      · rw [p_si_ne (by decide), p_si_ne (by decide), p_si_nk hne, p_si_ne (by decide), q2]
      · rw [p_si_ne (by decide), p_si_nk hne, p_si_ne (by decide), p_si_ne (by decide), q3]
      · rw [p_si_nk hne, p_si_ne (by decide), p_si_ne (by decide), p_si_ne (by decide), q4]
theorem p_kl97 (hn : n < 4) : ∀ c k fu ν1, k + c = 64 → c < fu → kF n ν ν1 → z_un [103] ν ν1 → (∀ j, j < k → ν1.1 103 (64 * n + j) = (ν.1 109 j &&& 1)) → ∃ ν', kF n ν ν' ∧ z_un [103] ν ν' ∧ (∀ j, j < 64 → ν'.1 103 (64 * n + j) = (ν.1 109 j &&& 1)) ∧ g_X5_keepLaw_97 fu (nI n) (nI k) ν1 = g_X5_keepLaw_128 z_N (nI n) 0 ν' := by
  intro c
  induction c with
  | zero =>
    intro k fu ν1 hk hf hF hu hc
    obtain ⟨fu, rfl⟩ : ∃ q, fu = q + 1 := ⟨fu - 1, by omega⟩
    have ek : k = 64 := by omega
    subst ek
    refine ⟨ν1, hF, hu, hc, ?_⟩
    rw [g_X5_keepLaw_97]
    rw [if_pos (show (64 : Int32) ≤ nI 64 by decide)]
  | succ c ih =>
    intro k fu ν1 hk hf hF hu hc
    obtain ⟨fu, rfl⟩ : ∃ q, fu = q + 1 := ⟨fu - 1, by omega⟩
    have e8 : (64 : Int32) * nI n + nI k = nI (64 * n + k) := p_ix 64 n k
    rw [g_X5_keepLaw_97]
    rw [if_neg (show ¬ (64 : Int32) ≤ nI k from p_nle (a := 64) (by omega) (by decide)), p_g (show k < 64 by omega) (by decide), e8, p_g (show 64 * n + k < 256 by omega) (by decide), z_st_s, nI_clamp (by omega), nI_clamp (by omega), hF.read 109 k (by omega), nI_1]
    refine ih (k + 1) fu _ (by omega) (by omega) (hF.si (Or.inr (Or.inl ⟨by omega, by omega, by omega⟩)) _) (hu.si (by simp) _ _) (fun j hj => ?_)
    by_cases e : j = k
    · rw [e, p_si_at]
    · rw [p_si_nk (by omega)]
      exact hc j (by omega)
theorem p_kl128 (hn : n < 4) : ∀ c k fu ν1, k + c = 5 → c < fu → kF n ν ν1 → z_un [104] ν ν1 → (∀ j, j < k → ν1.1 104 (5 * n + j) = ν.1 110 j) → ∃ ν', kF n ν ν' ∧ z_un [104] ν ν' ∧ (∀ j, j < 5 → ν'.1 104 (5 * n + j) = ν.1 110 j) ∧ g_X5_keepLaw_128 fu (nI n) (nI k) ν1 = g_X5_keepLaw_157 z_N (nI n) 0 ν' := by
  intro c
  induction c with
  | zero =>
    intro k fu ν1 hk hf hF hu hc
    obtain ⟨fu, rfl⟩ : ∃ q, fu = q + 1 := ⟨fu - 1, by omega⟩
    have ek : k = 5 := by omega
    subst ek
    refine ⟨ν1, hF, hu, hc, ?_⟩
    rw [g_X5_keepLaw_128]
    rw [if_pos (show (5 : Int32) ≤ nI 5 by decide)]
  | succ c ih =>
    intro k fu ν1 hk hf hF hu hc
    obtain ⟨fu, rfl⟩ : ∃ q, fu = q + 1 := ⟨fu - 1, by omega⟩
    have e8 : (5 : Int32) * nI n + nI k = nI (5 * n + k) := p_ix 5 n k
    rw [g_X5_keepLaw_128]
    rw [if_neg (show ¬ (5 : Int32) ≤ nI k from p_nle (a := 5) (by omega) (by decide)), p_g (show k < 5 by omega) (by decide), e8, p_g (show 5 * n + k < 20 by omega) (by decide), z_st_s, nI_clamp (by omega), nI_clamp (by omega), hF.read 110 k (by omega), nI_1]
    refine ih (k + 1) fu _ (by omega) (by omega) (hF.si (Or.inr (Or.inr ⟨by omega, by omega, by omega⟩)) _) (hu.si (by simp) _ _) (fun j hj => ?_)
    by_cases e : j = k
    · rw [e, p_si_at]
    · rw [p_si_nk (by omega)]
      exact hc j (by omega)
def mb (ν : z_M) (n : Nat) (g : Nat → Nat → Bool) : Prop := ∀ a b, a < 8 → b < 8 → ν.1 103 (64 * n + (8 * a + b)) = if g a b = true then 1 else 0
theorem p_kl174 (hn : n < 4) {m a : Nat} {G : Nat → Nat → Bool} (hm : m < 8) (ha : a < 8) (K : Int32 → Int32 → Int32 → z_M → Option z_M) : ∀ c b fu ν1, b + c = 8 → c < fu → z_un [103] ν ν1 → kF n ν ν1 → mb ν1 n (fun i j => if i < a ∨ (i = a ∧ j < b) then cl_st m G i j else G i j) → ∃ ν', z_un [103] ν ν' ∧ kF n ν ν' ∧ mb ν' n (fun i j => if i < a + 1 then cl_st m G i j else G i j) ∧ g_X5_keepLaw_174 K fu (nI n) (nI m) (nI a) (nI b) ν1 = K (nI n) (nI m) (nI (a + 1)) ν' := by
  intro c
  induction c with
  | zero =>
    intro b fu ν1 hb hf hu hF hM
    obtain ⟨fu, rfl⟩ : ∃ q, fu = q + 1 := ⟨fu - 1, by omega⟩
    have hM : ∀ i j, i < 8 → j < 8 → ν1.1 103 (64 * n + (8 * i + j)) = if (if i < a ∨ (i = a ∧ j < b) then cl_st m G i j else G i j) = true then 1 else 0 := fun i j hi hj => hM i j hi hj
    have eb : b = 8 := by omega
    subst eb
    refine ⟨ν1, hu, hF, fun i j hi hj => ?_, ?_⟩
    · show _ = if (if i < a + 1 then cl_st m G i j else G i j) = true then 1 else 0
      rw [hM i j hi hj]
      by_cases q : i < a + 1
      · rw [if_pos (show i < a ∨ (i = a ∧ j < 8) by omega), if_pos q]
      · rw [if_neg (show ¬ (i < a ∨ (i = a ∧ j < 8)) by omega), if_neg q]
    · rw [g_X5_keepLaw_174]
      rw [if_pos (show (8 : Int32) ≤ nI 8 by decide), nI_1]
  | succ c ih =>
    intro b fu ν1 hb hf hu hF hM
    obtain ⟨fu, rfl⟩ : ∃ q, fu = q + 1 := ⟨fu - 1, by omega⟩
    have hM : ∀ i j, i < 8 → j < 8 → ν1.1 103 (64 * n + (8 * i + j)) = if (if i < a ∨ (i = a ∧ j < b) then cl_st m G i j else G i j) = true then 1 else 0 := fun i j hi hj => hM i j hi hj
    have hb8 : b < 8 := by omega
    have v1 : ν1.1 103 (64 * n + (8 * a + m)) = if G a m = true then 1 else 0 := by
      rw [hM a m ha hm]
      split
      · unfold cl_st
        cases G a m <;> cases G m m <;> rfl
      · rfl
    have v2 : ν1.1 103 (64 * n + (8 * m + b)) = if G m b = true then 1 else 0 := by
      rw [hM m b hm hb8]
      split
      · unfold cl_st
        cases G m b <;> cases G m m <;> rfl
      · rfl
    have v3 : ν1.1 103 (64 * n + (8 * a + b)) = if G a b = true then 1 else 0 := by
      rw [hM a b ha hb8, if_neg (show ¬ (a < a ∨ (a = a ∧ b < b)) by omega)]
    have val : ((if (if G a b = true then (1 : Int32) else 0) = 0 then (if (if (if G a m = true then (1 : Int32) else 0) = 0 then (0 : Int32) else (if (if G m b = true then (1 : Int32) else 0) = 0 then (0 : Int32) else (1 : Int32))) = 0 then (0 : Int32) else (1 : Int32)) else (1 : Int32)) &&& 1) = if cl_st m G a b = true then 1 else 0 := by
      unfold cl_st
      cases G a b <;> cases G a m <;> cases G m b <;> decide
    rw [g_X5_keepLaw_174]
    rw [if_neg (show ¬ (8 : Int32) ≤ nI b from p_nle (a := 8) hb8 (by decide)), p_ix3, p_ix3, p_ix3, p_g (show 64 * n + (8 * a + m) < 256 by omega) (by decide), if_pos (fun _ => p_zn (n := 64 * n + (8 * m + b)) (N := 256) (by omega) (by decide)), z_lt_s, p_g (show 64 * n + (8 * a + b) < 256 by omega) (by decide), p_g (show 64 * n + (8 * a + b) < 256 by omega) (by decide), z_st_s]
    simp only [nI_clamp (show 64 * n + (8 * a + m) < 2 ^ 31 by omega), nI_clamp (show 64 * n + (8 * m + b) < 2 ^ 31 by omega), nI_clamp (show 64 * n + (8 * a + b) < 2 ^ 31 by omega), v1, v2, v3, val, nI_1]
    refine ih (b + 1) fu _ (by omega) (by omega) (hu.si (by simp) _ _) (hF.si (Or.inr (Or.inl ⟨by omega, by omega, by omega⟩)) _) (fun i j hi hj => ?_)
    show _ = if (if i < a ∨ (i = a ∧ j < b + 1) then cl_st m G i j else G i j) = true then 1 else 0
    by_cases e : i = a ∧ j = b
    · rw [e.1, e.2, p_si_at, if_pos (show a < a ∨ (a = a ∧ b < b + 1) by omega)]
    · rw [p_si_nk (by omega), hM i j hi hj]
      by_cases z : i < a ∨ (i = a ∧ j < b)
      · rw [if_pos z, if_pos (show i < a ∨ (i = a ∧ j < b + 1) by omega)]
      · rw [if_neg z, if_neg (show ¬ (i < a ∨ (i = a ∧ j < b + 1)) by omega)]
theorem p_kl165 (hn : n < 4) {m : Nat} {G : Nat → Nat → Bool} (hm : m < 8) (K : Int32 → Int32 → z_M → Option z_M) : ∀ c a fu ν1, a + c = 8 → c < fu → z_un [103] ν ν1 → kF n ν ν1 → mb ν1 n (fun i j => if i < a then cl_st m G i j else G i j) → ∃ ν', z_un [103] ν ν' ∧ kF n ν ν' ∧ mb ν' n (cl_st m G) ∧ g_X5_keepLaw_165 K fu (nI n) (nI m) (nI a) ν1 = K (nI n) (nI (m + 1)) ν' := by
  have hN : z_N = 5000 := rfl
  intro c
  induction c with
  | zero =>
    intro a fu ν1 ha hf hu hF hM
    obtain ⟨fu, rfl⟩ : ∃ q, fu = q + 1 := ⟨fu - 1, by omega⟩
    have hM : ∀ i j, i < 8 → j < 8 → ν1.1 103 (64 * n + (8 * i + j)) = if (if i < a then cl_st m G i j else G i j) = true then 1 else 0 := fun i j hi hj => hM i j hi hj
    have ea : a = 8 := by omega
    subst ea
    refine ⟨ν1, hu, hF, fun i j hi hj => ?_, ?_⟩
    · rw [hM i j hi hj, if_pos hi]
    · rw [g_X5_keepLaw_165]
      rw [if_pos (show (8 : Int32) ≤ nI 8 by decide), nI_1]
  | succ c ih =>
    intro a fu ν1 ha hf hu hF hM
    obtain ⟨fu, rfl⟩ : ∃ q, fu = q + 1 := ⟨fu - 1, by omega⟩
    have hM : ∀ i j, i < 8 → j < 8 → ν1.1 103 (64 * n + (8 * i + j)) = if (if i < a then cl_st m G i j else G i j) = true then 1 else 0 := fun i j hi hj => hM i j hi hj
    obtain ⟨ν2, u2, F2, M2, e2⟩ := p_kl174 (ν := ν) hn (G := G) hm (show a < 8 by omega) (fun (y14 : Int32) (y15 : Int32) (y16 : Int32) (μ12 : z_M) => (g_X5_keepLaw_165 K fu (y14) (y15) (y16) μ12)) 8 0 z_N ν1 (by omega) (by omega) hu hF (fun i j hi hj => by
      show _ = if (if i < a ∨ (i = a ∧ j < 0) then cl_st m G i j else G i j) = true then 1 else 0
      rw [hM i j hi hj]
      by_cases z : i < a
      · rw [if_pos z, if_pos (show i < a ∨ (i = a ∧ j < 0) by omega)]
      · rw [if_neg z, if_neg (show ¬ (i < a ∨ (i = a ∧ j < 0)) by omega)])
    obtain ⟨ν', y1, y2, y3, y4⟩ := ih (a + 1) fu ν2 (by omega) (by omega) u2 F2 M2
    refine ⟨ν', y1, y2, y3, ?_⟩
    rw [g_X5_keepLaw_165]
    rw [if_neg (show ¬ (8 : Int32) ≤ nI a from p_nle (a := 8) (by omega) (by decide))]
    rw [nI_0] at e2
    exact e2.trans y4
theorem p_kl157 (hn : n < 4) {s : Nat → Nat → Bool} : ∀ c m fu ν1, m + c = 8 → c < fu → z_un [103] ν ν1 → kF n ν ν1 → mb ν1 n (cl s m) → ∃ ν', z_un [103] ν ν' ∧ kF n ν ν' ∧ mb ν' n (cl s 8) ∧ g_X5_keepLaw_157 fu (nI n) (nI m) ν1 = z_b1 (f_X5_findRanks (nI n) ν') (fun μ2 => some μ2) := by
  have hN : z_N = 5000 := rfl
  intro c
  induction c with
  | zero =>
    intro m fu ν1 hm hf hu hF hM
    obtain ⟨fu, rfl⟩ : ∃ q, fu = q + 1 := ⟨fu - 1, by omega⟩
    have em : m = 8 := by omega
    subst em
    refine ⟨ν1, hu, hF, hM, ?_⟩
    rw [g_X5_keepLaw_157]
    rw [if_pos (show (8 : Int32) ≤ nI 8 by decide)]
  | succ c ih =>
    intro m fu ν1 hm hf hu hF hM
    obtain ⟨fu, rfl⟩ : ∃ q, fu = q + 1 := ⟨fu - 1, by omega⟩
    obtain ⟨ν2, u2, F2, M2, e2⟩ := p_kl165 (ν := ν) hn (G := cl s m) (show m < 8 by omega) (fun (y19 : Int32) (y20 : Int32) (μ17 : z_M) => (g_X5_keepLaw_157 fu (y19) (y20) μ17)) 8 0 z_N ν1 (by omega) (by omega) hu hF (fun i j hi hj => by
      show _ = if (if i < 0 then cl_st m (cl s m) i j else cl s m i j) = true then 1 else 0
      rw [hM i j hi hj, if_neg (show ¬ i < 0 by omega)])
    obtain ⟨ν', y1, y2, y3, y4⟩ := ih (m + 1) fu ν2 (by omega) (by omega) u2 F2 M2
    refine ⟨ν', y1, y2, y3, ?_⟩
    rw [g_X5_keepLaw_157]
    rw [if_neg (show ¬ (8 : Int32) ≤ nI m from p_nle (a := 8) (by omega) (by decide))]
    rw [nI_0] at e2
    exact e2.trans y4
end
