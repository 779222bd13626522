/-! PURE: a number on both sides -/
def nv (t : Nat → Int32) (q : Nat) : Nat → Nat
  | 0 => 0
  | k + 1 => 10 * nv t q k + ((t (q + k)).toNatClampNeg - 48)
def rv (t : Nat → Int32) (q : Nat) : Nat → Nat
  | 0 => 0
  | k + 1 => if rv t q k ≤ 10000 then 10 * rv t q k + ((t (q + k)).toNatClampNeg - 48) else rv t q k
theorem fi_d {x : Int32} (h : cFi x = true) : x = nI x.toNatClampNeg ∧ 48 ≤ x.toNatClampNeg ∧ x.toNatClampNeg ≤ 57 := by
  have h1 := of_decide_eq_true h
  have h2 := p_cl (x := x) (b := 57) ⟨by have := h1.1; omega, h1.2⟩
  have := h1.1
  have := h1.2
  exact ⟨h2.1, by omega, by omega⟩
theorem nv_b {t : Nat → Int32} {q : Nat} : ∀ k, (∀ i, i < k → cFi (t (q + i)) = true) → nv t q k < 10 ^ k
  | 0, _ => by
    rw [nv]
    decide
  | k + 1, h => by
    have h1 := nv_b k (fun i hi => h i (by omega))
    have h2 := fi_d (h k (by omega))
    rw [nv, Nat.pow_succ]
    omega
theorem rv_nv {t : Nat → Int32} {q : Nat} : ∀ k, k ≤ 3 → (∀ i, i < k → cFi (t (q + i)) = true) → rv t q k = nv t q k
  | 0, _, _ => rfl
  | k + 1, hk, h => by
    have h1 := rv_nv k (by omega) (fun i hi => h i (by omega))
    have h2 := nv_b k (fun i hi => h i (by omega))
    have h3 : 10 ^ k ≤ 10 ^ 2 := Nat.pow_le_pow_right (by decide) (by omega)
    rw [rv, nv, h1, if_pos (by omega)]
theorem rv_b {t : Nat → Int32} {q : Nat} : ∀ k, (∀ i, i < k → cFi (t (q + i)) = true) → rv t q k ≤ 100009
  | 0, _ => by rw [rv]; omega
  | k + 1, h => by
    have h1 := rv_b k (fun i hi => h i (by omega))
    have h2 := fi_d (h k (by omega))
    rw [rv]
    split <;> omega
section
variable {t : Nat → Int32} {N : Nat} {μ ν : z_M}
theorem p_rn27 (h : tx μ t N) {q e lo : Nat} (hq : e ≤ N) (hqe : q ≤ e) (h5 : μ.1 2 5 = nI q) (h6 : μ.1 2 6 = nI e) (hd : ∀ i, q ≤ i → i < e → cFi (t i) = true) : ∀ d k fu, q + k + d = e → k ≤ 3 → d < fu → g_X1_readNumber_27 fu (nI lo) (nI (nv t q k)) (nI (q + k)) μ = g_X1_readNumber_66 (nI lo) (nI (nv t q (if e - q ≤ 3 then e - q else 3))) μ := by
  have h240 := h.1
  intro d
  induction d with
  | zero =>
    intro k fu hk h3 hf
    obtain ⟨fu, rfl⟩ : ∃ q, fu = q + 1 := ⟨fu - 1, by omega⟩
    rw [g_X1_readNumber_27]
    rw [h6, if_pos (nI_le (by omega) (by omega)), if_pos (by omega), show e - q = k by omega]
  | succ d ih =>
    intro k fu hk h3 hf
    obtain ⟨fu, rfl⟩ : ∃ q, fu = q + 1 := ⟨fu - 1, by omega⟩
    rw [g_X1_readNumber_27]
    rw [h6, if_neg (nI_ge (by omega) (by omega)), h5, show nI q + 3 = nI (q + 3) from nI_add q 3]
    by_cases z : k = 3
    · rw [if_pos (nI_le (by omega) (by omega)), if_neg (by omega), z]
    · have h7 := fi_d (hd (q + k) (by omega) (by omega))
      rw [if_neg (nI_ge (by omega) (by omega)), p_g (show q + k < 240 by omega) (by decide), z_lt_s, nI_clamp (by omega), h.2.2 _ (show q + k < N by omega), nI_1]
      have e1 : nI (nv t q k) * 10 + t (q + k) - 48 = nI (nv t q (k + 1)) := by
        rw [nv]
        have h8 := h7.1
        generalize t (q + k) = x at *
        rw [h8, show (10 : Int32) = nI 10 from rfl, show (48 : Int32) = nI 48 from rfl, nI_mul, nI_add, pk_sub (by omega), nI_clamp (by omega)]
        congr 1
        omega
      rw [e1]
      exact ih (k + 1) fu (by omega) (by omega) (by omega)
theorem p_tn40 (h : my ν t N) {q e : Nat} (he : e ≤ N) (hqe : q ≤ e) (hd : ∀ i, q ≤ i → i < e → cFi (t i) = true) (hE : e < N → ¬ cFi (t e) = true) (x1 x2 : Int32) : ∀ d k fu ν1, q + k + d = e → d < fu → hF W15 ν ν1 → ν1.1 98 15 = nI (q + k) → ν1.1 98 18 = nI (rv t q k) → ∃ ν', hF W15 ν ν' ∧ ν'.1 98 15 = nI e ∧ ν'.1 98 18 = nI (rv t q (e - q)) ∧ g_X5_takeNumber_40 fu x1 x2 (nI q) ν1 = g_X5_takeNumber_127 x1 x2 (nI q) ν' := by
  have h240 := h.1
  intro d
  induction d with
  | zero =>
    intro k fu ν1 hk hf hF h15 h18
    obtain ⟨fu, rfl⟩ : ∃ q, fu = q + 1 := ⟨fu - 1, by omega⟩
    have e13 := (h.of hF).2.1
    obtain rfl : e = q + k := by omega
    refine ⟨ν1, hF, h15, by rw [show q + k - q = k by omega]; exact h18, ?_⟩
    rw [g_X5_takeNumber_40]
    rw [e13, h15]
    by_cases z : q + k < N
    · have e3 := (h.of hF).2.2 (q + k) z
      have zz : ¬ p_in (t (q + k)) (Int64.toInt 48) (Int64.toInt 57) := fun w => hE z (decide_eq_true w)
      rw [if_neg (nI_ge z (by omega)), p_g (show q + k < 240 by omega) (by decide), nI_clamp (by omega), e3, p_in5, z_b2_s, if_pos (p_b_0.mpr zz)]
    · rw [if_pos (nI_le (by omega) (by omega))]
  | succ d ih =>
    intro k fu ν1 hk hf hF h15 h18
    obtain ⟨fu, rfl⟩ : ∃ q, fu = q + 1 := ⟨fu - 1, by omega⟩
    have e13 := (h.of hF).2.1
    have e3 := (h.of hF).2.2 (q + k) (by omega)
    have hc := hd (q + k) (by omega) (by omega)
    have h7 := fi_d hc
    have hb := rv_b (t := t) (q := q) k (fun i hi => hd _ (by omega) (by omega))
    have zz : p_in (t (q + k)) (Int64.toInt 48) (Int64.toInt 57) := of_decide_eq_true hc
    have e1 : (if nI (rv t q k) ≤ 10000 then 10 * nI (rv t q k) + t (q + k) - 48 else nI (rv t q k)) = nI (rv t q (k + 1)) := by
      rw [rv]
      have h8 := h7.1
      generalize t (q + k) = x at *
      by_cases y : rv t q k ≤ 10000
      · rw [if_pos y, if_pos (show nI (rv t q k) ≤ 10000 from nI_le (b := 10000) y (by decide)), h8, show (10 : Int32) = nI 10 from rfl, show (48 : Int32) = nI 48 from rfl, nI_mul, nI_add, pk_sub (by omega), nI_clamp (by omega)]
        congr 1
        omega
      · rw [if_neg y, if_neg (show ¬ nI (rv t q k) ≤ 10000 from nI_ge (a := 10000) (by omega) (by omega))]
    have U : g_X5_takeNumber_40 (fu + 1) x1 x2 (nI q) ν1 = g_X5_takeNumber_40 fu x1 x2 (nI q) (z_si (z_si ν1 98 18 (nI (rv t q (k + 1)))) 98 15 (nI (q + (k + 1)))) := by
      rw [g_X5_takeNumber_40]
      rw [e13, h15, if_neg (nI_ge (by omega) (by omega)), p_g (show q + k < 240 by omega) (by decide), nI_clamp (by omega), e3, p_in5, z_b2_s, if_neg (show ¬ p_b (p_in (t (q + k)) (Int64.toInt 48) (Int64.toInt 57)) = 0 from fun w => p_b_0.mp w zz), if_pos (show ν1.1 98 18 ≤ 10000 → z_in (ν1.1 98 15) 240 from fun _ => by rw [h15]; exact p_zn (show q + k < 240 by omega) (by decide)), z_st_s, z_st_s, h15, nI_clamp (by omega), e3, h18, e1, show (z_si ν1 98 18 (nI (rv t q (k + 1)))).1 98 15 = nI (q + k) by rw [p_si_nk (by decide)]; exact h15, nI_1, Nat.add_assoc]
    rw [U]
    refine ih (k + 1) fu _ (by omega) (by omega) ((hF.si ⟨rfl, Or.inr (Or.inr rfl)⟩ _).si ⟨rfl, Or.inl rfl⟩ _) (p_si_at _ _ _ _) ?_
    rw [p_si_nk (by decide), p_si_at]
/-- a number -/
theorem p_nums {p lo : Nat} (hlo : lo ≤ 1) (h : Tl t N μ ν p) : ∃ ν', hF V1 ν ν' ∧ ((∃ μ' f, f_X1_readNumber (nI lo) μ = some (-1, μ') ∧ gF W2 μ μ' ∧ f_X5_takeNumber (nI lo) 999 ν = some (nI f, ν') ∧ Fl t N f μ' ν') ∨ ∃ v p' μ', lo ≤ v ∧ v ≤ 999 ∧ p < p' ∧ f_X1_readNumber (nI lo) μ = some (nI v, μ') ∧ gF W456 μ μ' ∧ f_X5_takeNumber (nI lo) 999 ν = some (0, ν') ∧ ν'.1 98 18 = nI v ∧ Tl t N μ' ν' p' ∧ ν'.1 98 14 = ν.1 98 14) := by
  have hZ : z_N = 5000 := rfl
  obtain ⟨h1, h2, hp, h6, ⟨p2, hp2, h15, hw⟩, h22⟩ := h
  have h240 := h1.1
  obtain ⟨μ1, e1, F1, a5, a4, a6, -, -⟩ := p_word h1 hp h6
  obtain ⟨ν1, g1, G1, b15, b2⟩ := p_here h2 hp2 h15
  have hq := wq_in t hp
  have hT := tkE_in t hq.2
  change f_X5_here ν = some (hV t N (wq t N p2), ν1) at g1
  change ν1.1 98 15 = nI (wq t N p2) at b15
  rw [hw] at g1 b15
  clear hw
  generalize wq t N p = q at *
  have tx1 := h1.of F1
  by_cases z : q < N ∧ cFi (t q) = true
  · have zl : ¬ cLe (t q) = true := by
      intro w
      have y1 := of_decide_eq_true w
      have y2 := of_decide_eq_true z.2
      have := y1.1
      have := y2.2
      omega
    have k1 : tkK t N q = 2 := by
      unfold tkK
      rw [if_neg (by omega), if_neg zl, if_pos z.2]
    have k2 : tkE t N q = xR1 cFi t N q := by
      unfold tkE
      rw [if_neg (by omega), if_neg zl, if_pos z.2]
    obtain ⟨c1, c2, c3, c4⟩ := xR1_in (P := cFi) (t := t) (N := N) (N - q) q (by omega)
    have c5 : q < xR1 cFi t N q := by
      rw [xR1_lt z.1, if_pos z.2]
      have := (xR1_in (P := cFi) (t := t) (N := N) (N - (q + 1)) (q + 1) (by omega)).1
      omega
    rw [k1] at a4
    rw [k2] at a6
    generalize xR1 cFi t N q = e at *
    have vf : hV t N q = t q := by
      unfold hV
      rw [if_neg (by omega)]
    have zz : p_in (t q) (Int64.toInt 48) (Int64.toInt 57) := of_decide_eq_true z.2
    have G2 : hF W15 ν (z_si ν1 98 18 0) := G1.si ⟨rfl, Or.inr (Or.inr rfl)⟩ _
    obtain ⟨ν2, G3, d15, d18, gE⟩ := p_tn40 (h2.of G2) c2 c1 c4 c3 (nI lo) 999 (e - q) 0 z_N (z_si ν1 98 18 0) (by omega) (by omega) (hF.rf _ _) (by rw [p_si_nk (by decide)]; exact b15) (p_si_at _ _ _ _)
    have T : f_X5_takeNumber (nI lo) 999 ν = g_X5_takeNumber_127 (nI lo) 999 (nI q) ν2 := by
      unfold f_X5_takeNumber
      rw [g1, z_b2_s, vf, p_in5, z_b2_s, if_neg (show ¬ p_b (p_in (t q) (Int64.toInt 48) (Int64.toInt 57)) = 0 from fun w => p_b_0.mp w zz), z_lt_s, z_st_s, b15]
      exact gE
    have R : f_X1_readNumber (nI lo) μ = g_X1_readNumber_66 (nI lo) (nI (nv t q (if e - q ≤ 3 then e - q else 3))) μ1 := by
      unfold f_X1_readNumber
      rw [e1, z_b1_s, a4, if_pos (show nI 2 = 2 from rfl), z_lt_s, a5]
      have := p_rn27 tx1 (lo := lo) c2 c1 a5 a6 c4 (e - q) 0 z_N (by omega) (by omega) (by omega)
      rw [nv, Nat.add_zero, nI_0] at this
      exact this
    have G4 : hF V1 ν ν2 := (G2.tr G3).mono W15_V
    unfold g_X1_readNumber_66 g_X1_readNumber_84 at R
    unfold g_X5_takeNumber_127 g_X5_takeNumber_153 f_X5_fails at T
    rw [a6, a5, pk_sub c1] at R
    rw [d15, pk_sub c1, d18] at T
    obtain ⟨μ2, r1, r2, r3⟩ := p_refuse (f := 2) tx1 a5 c2 a6 (by decide)
    have FA : f_X1_readNumber (nI lo) μ = some (-1, μ2) → f_X5_takeNumber (nI lo) 999 ν = some (2, z_si ν2 98 14 (nI q)) → ∃ ν', hF V1 ν ν' ∧ ((∃ μ' f, f_X1_readNumber (nI lo) μ = some (-1, μ') ∧ gF W2 μ μ' ∧ f_X5_takeNumber (nI lo) 999 ν = some (nI f, ν') ∧ Fl t N f μ' ν') ∨ ∃ v p' μ', lo ≤ v ∧ v ≤ 999 ∧ p < p' ∧ f_X1_readNumber (nI lo) μ = some (nI v, μ') ∧ gF W456 μ μ' ∧ f_X5_takeNumber (nI lo) 999 ν = some (0, ν') ∧ ν'.1 98 18 = nI v ∧ Tl t N μ' ν' p' ∧ ν'.1 98 14 = ν.1 98 14) := fun y1 y2 => ⟨_, G4.si (a := 98) (k := 14) ⟨rfl, by decide, by decide⟩ _, Or.inl ⟨μ2, 2, y1, (F1.mono W456_2).tr r2, y2, r3 _ (p_si_at _ _ _ _)⟩⟩
    by_cases y : e - q ≤ 3
    · have hvv := rv_nv (t := t) (q := q) (e - q) y (fun i hi => c4 _ (by omega) (by omega))
      have hvb := nv_b (t := t) (q := q) (e - q) (fun i hi => c4 _ (by omega) (by omega))
      have hvc : 10 ^ (e - q) ≤ 10 ^ 3 := Nat.pow_le_pow_right (by decide) y
      rw [if_neg (show ¬ 3 < nI (e - q) from nI_nlt (a := 3) (b := e - q) y (by decide)), if_pos y] at R
      rw [if_neg (show ¬ 3 < nI (e - q) from nI_nlt (a := 3) (b := e - q) y (by decide)), p_in5, z_b2_s, hvv] at T
      rw [hvv] at d18
      generalize nv t q (e - q) = v at *
      have i1 : (Int32.toInt64 (nI lo)).toInt = (lo : Int) := by
        rw [Int32.toInt_toInt64, nI_toInt (by omega)]
      have i2 : (nI v).toInt = (v : Int) := nI_toInt (by omega)
      have i3 : (Int32.toInt64 999).toInt = 999 := by decide
      by_cases w : lo ≤ v
      · rw [if_pos (nI_le w (by omega))] at R
        rw [if_neg (fun u => p_b_0.mp u ⟨by rw [i1, i2]; omega, by rw [i2, i3]; omega⟩)] at T
        refine ⟨ν2, G4, Or.inr ⟨v, e, μ1, w, by omega, by omega, R, F1, T, d18, ⟨tx1, h2.of2 G4, c2, a6, ⟨e, c2, d15, rfl⟩, ?_⟩, (G2.tr G3).1 98 14 (by unfold W15; omega)⟩⟩
        rw [F1.1 2 2 (by unfold W456; omega)]
        exact h22
      · rw [if_neg (nI_ge (by omega) (by omega)), show (2 : Int32) = nI 2 from rfl, r1, z_b2_s] at R
        rw [if_pos (p_b_0.mpr (fun u => by have := u.1; rw [i1, i2] at this; omega)), z_st_s, z_b2_s] at T
        exact FA R T
    · rw [if_pos (show 3 < nI (e - q) from nI_lt (a := 3) (by omega) (by omega)), show (2 : Int32) = nI 2 from rfl, r1, z_b2_s] at R
      rw [if_pos (show 3 < nI (e - q) from nI_lt (a := 3) (by omega) (by omega)), z_st_s, z_b2_s] at T
      exact FA R T
  · have k1 : ¬ tkK t N q = 2 := by
      unfold tkK
      split
      · decide
      · split
        · decide
        · rw [if_neg (fun y => z ⟨by omega, y⟩)]
          decide
    have k4 : tkK t N q < 4 := by
      unfold tkK
      repeat' split
      all_goals decide
    obtain ⟨μ2, r1, r2, r3⟩ := p_refuse (f := 1) tx1 a5 hT.2 a6 (by decide)
    have zz : ¬ p_in (hV t N q) (Int64.toInt 48) (Int64.toInt 57) := by
      unfold hV
      by_cases y : N ≤ q
      · rw [if_pos y]
        decide
      · rw [if_neg y]
        exact fun w => z ⟨by omega, decide_eq_true w⟩
    refine ⟨_, (G1.mono W15_V).si (a := 98) (k := 14) ⟨rfl, by decide, by decide⟩ (nI q), Or.inl ⟨μ2, 1, ?_, (F1.mono W456_2).tr r2, ?_, r3 _ (p_si_at _ _ _ _)⟩⟩
    · unfold f_X1_readNumber
      rw [e1, z_b1_s, a4, if_neg (show ¬ nI (tkK t N q) = 2 from fun y => k1 ((nI_eq (b := 2) (by omega) (by decide)).mp y)), show (1 : Int32) = nI 1 from rfl, r1, z_b2_s]
    · unfold f_X5_takeNumber f_X5_fails
      rw [g1, z_b2_s, p_in5, z_b2_s, if_pos (p_b_0.mpr zz), z_st_s, z_b2_s, b15]
      rfl
end
