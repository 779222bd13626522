/-! PURE: count -/
theorem p_nle {a b : Nat} (h : b < a) (ha : a < 2 ^ 31) : ¬ nI a ≤ nI b := by
  rw [Int32.le_iff_toInt_le, nI_toInt (by omega), nI_toInt (by omega)]
  omega
def a_sum (f : Nat → Int32) : Nat → Int32
  | 0 => 0
  | k + 1 => a_sum f k + f k
theorem a_sum_congr {f g : Nat → Int32} : ∀ K, (∀ k, k < K → f k = g k) → a_sum f K = a_sum g K
  | 0, _ => rfl
  | K + 1, h => by
    show a_sum f K + f K = a_sum g K + g K
    rw [a_sum_congr K (fun k hk => h k (by omega)), h K (by omega)]
theorem p_sumOf_l (a0 n0 K : Nat) (μ : z_M) (hn : n0 < 2 ^ 31) (hK : K ≤ n0) : ∀ m i n, i + m = K → m < n → g_X4_sumOf_4 a0 n0 n (nI K) (a_sum (μ.1 a0) i) (nI i) μ = some (a_sum (μ.1 a0) K, μ) := by
  intro m
  induction m with
  | zero =>
    intro i n hi hm
    obtain ⟨n, rfl⟩ : ∃ q, n = q + 1 := ⟨n - 1, by omega⟩
    have e : i = K := by omega
    subst e
    unfold g_X4_sumOf_4
    rw [if_pos (nI_le (by omega) (by omega))]
  | succ m ih =>
    intro i n hi hm
    obtain ⟨n, rfl⟩ : ∃ q, n = q + 1 := ⟨n - 1, by omega⟩
    unfold g_X4_sumOf_4
    rw [if_neg (p_nle (by omega) (by omega)), show Int32.ofNat n0 = nI n0 from rfl, if_neg (p_nle (by omega) (by omega)), if_pos (p_zn (by omega) hn), nI_clamp (by omega)]
    show g_X4_sumOf_4 a0 n0 n (nI K) (a_sum (μ.1 a0) (i + 1)) (nI i + 1) μ = _
    rw [nI_1]
    exact ih (i + 1) n (by omega) (by omega)
theorem p_sumOf (a0 n0 K : Nat) (μ : z_M) (hn : n0 < 2 ^ 31) (hK : K ≤ n0) (h5 : K < 5000) : f_X4_sumOf a0 n0 (nI K) μ = some (a_sum (μ.1 a0) K, μ) := p_sumOf_l a0 n0 K μ hn hK K 0 z_N (by omega) h5
def a_cnt (x : Int32) (a b c d e : Int32) : Int32 := if x = 0 then a else if x = 1 then b else if x = 2 then c else if x = 3 then d else if x = 4 then e else -1002
theorem p_cnt35 (x1 x2 : Int32) (μ : z_M) : ∀ m i n, i + m = 5 → m < n → g_X5_count_35 n x1 x2 (a_sum (μ.1 124) i) (nI i) μ = some (a_cnt x1 (μ.1 98 24) (μ.1 98 27) (μ.1 98 13) x2 (a_sum (μ.1 124) 5), μ) := by
  intro m
  induction m with
  | zero =>
    intro i n hi hm
    obtain ⟨n, rfl⟩ : ∃ q, n = q + 1 := ⟨n - 1, by omega⟩
    have e : i = 5 := by omega
    subst e
    unfold g_X5_count_35 a_cnt
    rw [if_pos (by decide)]
    repeat' split
    all_goals rfl
  | succ m ih =>
    intro i n hi hm
    obtain ⟨n, rfl⟩ : ∃ q, n = q + 1 := ⟨n - 1, by omega⟩
    unfold g_X5_count_35
    rw [if_neg (show ¬ (5 : Int32) ≤ nI i from p_nle (a := 5) (by omega) (by decide)), if_pos (p_zn (by omega) (by decide)), nI_clamp (by omega)]
    show g_X5_count_35 n x1 x2 (a_sum (μ.1 124) (i + 1)) (nI i + 1) μ = _
    rw [nI_1]
    exact ih (i + 1) n (by omega) (by omega)
theorem p_cnt7 (x1 : Int32) (μ : z_M) {K : Nat} (hK : K ≤ 14) (e : μ.1 98 27 = nI K) : ∀ m i n, i + m = K → m < n → g_X5_count_7 n x1 (a_sum (μ.1 119) i) 0 (nI i) μ = some (a_cnt x1 (μ.1 98 24) (μ.1 98 27) (μ.1 98 13) (a_sum (μ.1 119) K) (a_sum (μ.1 124) 5), μ) := by
  intro m
  induction m with
  | zero =>
    intro i n hi hm
    obtain ⟨n, rfl⟩ : ∃ q, n = q + 1 := ⟨n - 1, by omega⟩
    have ei : i = K := by omega
    subst ei
    unfold g_X5_count_7
    rw [if_pos (by rw [e]; exact nI_le (by omega) (by omega))]
    exact p_cnt35 x1 _ μ 5 0 z_N (by omega) (by decide)
  | succ m ih =>
    intro i n hi hm
    obtain ⟨n, rfl⟩ : ∃ q, n = q + 1 := ⟨n - 1, by omega⟩
    unfold g_X5_count_7
    rw [if_neg (by rw [e]; exact p_nle (by omega) (by omega)), if_pos (p_zn (by omega) (by decide)), nI_clamp (by omega)]
    show g_X5_count_7 n x1 (a_sum (μ.1 119) (i + 1)) 0 (nI i + 1) μ = _
    rw [nI_1]
    exact ih (i + 1) n (by omega) (by omega)
theorem s_13 : zs_13 Inv0 := by
  rintro μ ⟨A, hw, hC, hM⟩ x
  have h14 : A.1.2.1 ≤ 14 := hw.1.2.1
  refine p_look hw hC hM (r := a_cnt x (nI A.1.1) (nI A.1.2.1) (nI A.2.2.2.1.length) (a_sum (A.1.2.2 6) A.1.2.1) (a_sum (A.1.2.2 10) 5)) ?_ (fun ν hν => ?_)
  · have e1 : a_sum (μ.1 (4 + 6)) A.1.2.1 = a_sum (A.1.2.2 6) A.1.2.1 := a_sum_congr _ (fun k hk => (hC.1.2.2.2.1 k hk).2.2.2.1)
    have e2 : a_sum (μ.1 (4 + 9)) 5 = a_sum (A.1.2.2 10) 5 := a_sum_congr _ (fun k hk => hC.1.2.2.2.2.1 k hk)
    unfold f_X4_count a_cnt
    rw [hC.1.1, hC.1.2.1, hC.2.2.1, p_sumOf (4 + 6) 14 A.1.2.1 μ (by decide) h14 (by omega), show (5 : Int32) = nI 5 from rfl, p_sumOf (4 + 9) 5 5 μ (by decide) (by decide) (by decide), e1, e2, z_b2_s, z_b2_s]
    repeat' split
    all_goals rfl
  · have e1 : a_sum (ν.1 119) A.1.2.1 = a_sum (A.1.2.2 6) A.1.2.1 := a_sum_congr _ (fun k hk => (hν.1.2.2.2.1 k hk).2.2.2.1)
    have e2 : a_sum (ν.1 124) 5 = a_sum (A.1.2.2 10) 5 := a_sum_congr _ (fun k hk => hν.1.2.2.2.2.1 k hk)
    unfold f_X5_count
    have q := p_cnt7 x ν h14 hν.1.2.1 A.1.2.1 0 z_N (by omega) (Nat.lt_of_le_of_lt h14 (by decide))
    rw [e1, e2, hν.1.1, hν.1.2.1, hν.2.2.2.1] at q
    exact q
