/-! PURE: PayOut.share -/
def z_un (X : List Nat) (μ μ' : z_M) : Prop := (∀ a, a ∉ X → μ'.1 a = μ.1 a) ∧ μ'.2 = μ.2
theorem z_un.rf (X : List Nat) (μ : z_M) : z_un X μ μ := ⟨fun _ _ => rfl, rfl⟩
theorem z_un.tr {X : List Nat} {μ μ1 μ2 : z_M} (h : z_un X μ μ1) (g : z_un X μ1 μ2) : z_un X μ μ2 := ⟨fun a q => (g.1 a q).trans (h.1 a q), g.2.trans h.2⟩
theorem z_un.si {X : List Nat} {μ μ' : z_M} (h : z_un X μ μ') {i : Nat} (hi : i ∈ X) (k : Nat) (x : Int32) : z_un X μ (z_si μ' i k x) := ⟨fun a q => (p_si_ne (fun e => q (by rw [e]; exact hi))).trans (h.1 a q), h.2⟩
theorem z_un.mono {X Y : List Nat} {μ μ' : z_M} (h : z_un X μ μ') (hX : ∀ a ∈ X, a ∈ Y) : z_un Y μ μ' := ⟨fun a q => h.1 a (fun w => q (hX a w)), h.2⟩
theorem nI_lt0 {n : Nat} (h : n < 2 ^ 31) : nI n ≤ 0 ↔ n = 0 := by
  rw [← nI_0, nI_leI h (by decide)]
  omega
section
variable {a1 n1 a2 n2 a n r : Nat} {U : Nat → Nat} {μ : z_M}
theorem p_sh112 (h12 : a1 ≠ a2) (hn1 : a + n ≤ n1) (hn2 : a + n ≤ n2) (h1l : n1 < 2 ^ 30) (h2l : n2 < 2 ^ 30) {Q : Nat → Nat} {o : Nat} (ho : o < 2 ^ 30) (hu : ∀ j, j < n → μ.1 a1 (a + j) = nI (U j)) (hU : ∀ j, j < n → U j < 2 ^ 30) : ∀ m j fu μ', j + m = n → m < fu → z_un [a2] μ μ' → (∀ i, i < n → μ'.1 a2 (a + i) = nI (Q i + (if i < j ∧ 0 < U i ∧ sm i (sh_1 U) < o then 1 else 0))) → ∃ μ'', g_X2_share_112 a1 n1 a2 n2 fu (nI (a + n)) (nI (o - sm j (sh_1 U))) (nI (a + j)) μ' = some (0, μ'') ∧ z_un [a2] μ μ'' ∧ ∀ i, i < n → μ''.1 a2 (a + i) = nI (Q i + (if 0 < U i ∧ sm i (sh_1 U) < o then 1 else 0)) := by
  intro m
  induction m with
  | zero =>
    intro j fu μ' hj hf hun hc
    obtain ⟨fu, rfl⟩ : ∃ q, fu = q + 1 := ⟨fu - 1, by omega⟩
    have ej : j = n := by omega
    subst ej
    refine ⟨μ', ?_, hun, fun i hi => ?_⟩
    · unfold g_X2_share_112
      rw [if_pos (nI_le (Nat.le_refl _) (by omega))]
    · rw [hc i hi]
      congr 2
      by_cases q : 0 < U i ∧ sm i (sh_1 U) < o
      · rw [if_pos ⟨hi, q⟩, if_pos q]
      · rw [if_neg (fun w => q w.2), if_neg q]
  | succ m ih =>
    intro j fu μ' hj hf hun hc
    obtain ⟨fu, rfl⟩ : ∃ q, fu = q + 1 := ⟨fu - 1, by omega⟩
    unfold g_X2_share_112
    rw [if_neg (nI_ge (by omega) (by omega))]
    by_cases hz : o - sm j (sh_1 U) = 0
    · refine ⟨μ', ?_, hun, fun i hi => ?_⟩
      · rw [if_pos ((nI_lt0 (by omega)).mpr hz)]
      · rw [hc i hi]
        congr 2
        by_cases q : 0 < U i ∧ sm i (sh_1 U) < o
        · have hij : i < j := by
            rcases Nat.lt_or_ge i j with w | w
            · exact w
            · exfalso
              have : sm j (sh_1 U) ≤ sm i (sh_1 U) := sm_mono _ w
              omega
          rw [if_pos ⟨hij, q⟩, if_pos q]
        · rw [if_neg (fun w => q w.2), if_neg q]
    · rw [if_neg (fun q => hz ((nI_lt0 (by omega)).mp q)), p_g (show a + j < n1 by omega) (by omega)]
      simp only [nI_clamp (show a + j < 2 ^ 31 by omega), hun.1 a1 (by simpa using h12), hu j (show j < n by omega)]
      by_cases hp : 0 < U j
      · rw [if_neg (show ¬ nI (U j) ≤ 0 from fun q => by have := (nI_lt0 (by have := hU j (by omega); omega)).mp q; omega), p_g (show a + j < n2 by omega) (by omega), p_g (show a + j < n2 by omega) (by omega), z_st_s]
        have e1 : sm (j + 1) (sh_1 U) = sm j (sh_1 U) + 1 := by
          rw [sm]
          show _ + (if 0 < U j then 1 else 0) = _
          rw [if_pos hp]
        obtain ⟨μ'', h1, h2, h3⟩ := ih (j + 1) fu (z_si μ' a2 (a + j) (μ'.1 a2 (a + j) + 1)) (by omega) (by omega) (hun.si (by simp) _ _) (fun i hi => by
          by_cases e : i = j
          · subst e
            rw [p_si_at, hc i hi, if_neg (fun w => by omega), if_pos ⟨by omega, hp, by omega⟩]
            exact nI_1 _
          · rw [p_si_nk (by omega), hc i hi]
            congr 2
            by_cases q : i < j
            · by_cases q2 : 0 < U i ∧ sm i (sh_1 U) < o
              · rw [if_pos ⟨q, q2⟩, if_pos ⟨by omega, q2⟩]
              · rw [if_neg (fun w => q2 w.2), if_neg (fun w => q2 w.2)]
            · rw [if_neg (fun w => q w.1), if_neg (fun w => by omega)])
        refine ⟨μ'', ?_, h2, h3⟩
        rw [show o - sm (j + 1) (sh_1 U) = o - sm j (sh_1 U) - 1 by omega] at h1
        rw [sb_m1 (by omega), nI_1]
        exact h1
      · rw [if_pos ((nI_lt0 (by have := hU j (by omega); omega)).mpr (by omega))]
        have e1 : sm (j + 1) (sh_1 U) = sm j (sh_1 U) := by
          rw [sm]
          show _ + (if 0 < U j then 1 else 0) = _
          rw [if_neg hp]
          rfl
        obtain ⟨μ'', h1, h2, h3⟩ := ih (j + 1) fu μ' (by omega) (by omega) hun (fun i hi => by
          rw [hc i hi]
          congr 2
          by_cases q2 : 0 < U i ∧ sm i (sh_1 U) < o
          · by_cases e : i < j
            · rw [if_pos ⟨e, q2⟩, if_pos ⟨by omega, q2⟩]
            · rw [if_neg (fun w => e w.1), if_neg (fun w => by
                have : i = j := by omega
                subst this
                exact hp q2.1)]
          · rw [if_neg (fun w => q2 w.2), if_neg (fun w => q2 w.2)])
        refine ⟨μ'', ?_, h2, h3⟩
        rw [e1] at h1
        rw [nI_1]
        exact h1
theorem p_sh69 (h12 : a1 ≠ a2) (hn1 : a + n ≤ n1) (hn2 : a + n ≤ n2) (h1l : n1 < 2 ^ 30) (h2l : n2 < 2 ^ 30) (hr : r < 100000) (hu : ∀ j, j < n → μ.1 a1 (a + j) = nI (U j)) (hU : ∀ j, j < n → U j ≤ 10000) (hW : r < sm n U) (hWl : sm n U < 2 ^ 30) : ∀ m j fu μ', j + m = n → m < fu → n < z_N → z_un [a2] μ μ' → (∀ i, i < j → μ'.1 a2 (a + i) = nI (sh_q r (sm n U) U i)) → ∃ μ'', g_X2_share_69 a1 n1 a2 n2 fu (nI r) (nI a) (nI (a + n)) (nI (sm n U)) (nI (r - sm j (sh_q r (sm n U) U))) (nI (a + j)) μ' = some (0, μ'') ∧ z_un [a2] μ μ'' ∧ ∀ i, i < n → μ''.1 a2 (a + i) = nI (sh r n U i) := by
  have hoq := sh_oq hW
  have hmono : ∀ j, j ≤ n → sm j (sh_q r (sm n U) U) ≤ sm n (sh_q r (sm n U) U) := fun j hj => sm_mono _ hj
  intro m
  induction m with
  | zero =>
    intro j fu μ' hj hf hN hun hc
    obtain ⟨fu, rfl⟩ : ∃ q, fu = q + 1 := ⟨fu - 1, by omega⟩
    have ej : j = n := by omega
    subst ej
    unfold g_X2_share_69
    rw [if_pos (nI_le (Nat.le_refl _) (by omega))]
    have ho : r - sm j (sh_q r (sm j U) U) = sh_o r j U := rfl
    rw [ho]
    obtain ⟨μ'', h1, h2, h3⟩ := p_sh112 (μ := μ) (U := U) h12 hn1 hn2 h1l h2l (Q := sh_q r (sm j U) U) (o := sh_o r j U) (by omega) hu (fun i hi => by have := hU i hi; omega) j 0 z_N μ' (by omega) hN hun (fun i hi => by
      rw [hc i hi, if_neg (fun w => by omega)]
      rfl)
    refine ⟨μ'', h1, h2, fun i hi => ?_⟩
    rw [h3 i hi]
    unfold sh
    rw [if_neg (show ¬ sm j U ≤ r by omega)]
  | succ m ih =>
    intro j fu μ' hj hf hN hun hc
    obtain ⟨fu, rfl⟩ : ∃ q, fu = q + 1 := ⟨fu - 1, by omega⟩
    have hUj := hU j (by omega)
    have hmul : r * U j < 2 ^ 31 := by
      have := Nat.mul_le_mul (show r ≤ 100000 by omega) hUj
      omega
    unfold g_X2_share_69
    rw [if_neg (nI_ge (by omega) (by omega)), if_neg (show ¬ nI (sm n U) ≤ 0 from fun q => by have := (nI_lt0 (by omega)).mp q; omega), p_g (show a + j < n1 by omega) (by omega), if_pos (show ¬ nI (sm n U) = 0 from fun q => by rw [← nI_0, nI_eq (by omega) (by decide)] at q; omega), p_g (show a + j < n2 by omega) (by omega), z_st_s, p_g (show a + j < n2 by omega) (by omega), z_lt_s, nI_clamp (by omega), hun.1 a1 (by simpa using h12), hu j (by omega), pk_mul, pk_div hmul (by omega) (by omega)]
    have hs := hmono (j + 1) (by omega)
    rw [sm] at hs
    have hqj : r * U j / sm n U = sh_q r (sm n U) U j := rfl
    rw [hqj]
    obtain ⟨μ'', h1, h2, h3⟩ := ih (j + 1) fu (z_si μ' a2 (a + j) (nI (sh_q r (sm n U) U j))) (by omega) (by omega) hN (hun.si (by simp) _ _) (fun i hi => by
      by_cases e : i = j
      · subst e
        rw [p_si_at]
      · rw [p_si_nk (by omega), hc i (by omega)])
    refine ⟨μ'', ?_, h2, h3⟩
    rw [p_si_at, pk_sub (by omega), nI_1]
    rw [sm] at h1
    rw [Nat.sub_sub]
    exact h1
theorem p_sh37 (h12 : a1 ≠ a2) (hn1 : a + n ≤ n1) (hn2 : a + n ≤ n2) (h1l : n1 < 2 ^ 30) (h2l : n2 < 2 ^ 30) (hu : ∀ j, j < n → μ.1 a1 (a + j) = nI (U j)) (hW : sm n U ≤ r) : ∀ m j fu μ', j + m = n → m < fu → z_un [a2] μ μ' → (∀ i, i < j → μ'.1 a2 (a + i) = nI (U i)) → ∃ μ'', g_X2_share_37 a1 n1 a2 n2 fu (nI r) (nI (a + n)) (nI (sm n U)) (nI (a + j)) μ' = some (nI (r - sm n U), μ'') ∧ z_un [a2] μ μ'' ∧ ∀ i, i < n → μ''.1 a2 (a + i) = nI (U i) := by
  intro m
  induction m with
  | zero =>
    intro j fu μ' hj hf hun hc
    obtain ⟨fu, rfl⟩ : ∃ q, fu = q + 1 := ⟨fu - 1, by omega⟩
    have ej : j = n := by omega
    subst ej
    refine ⟨μ', ?_, hun, hc⟩
    unfold g_X2_share_37
    rw [if_pos (nI_le (Nat.le_refl _) (by omega)), pk_sub hW]
  | succ m ih =>
    intro j fu μ' hj hf hun hc
    obtain ⟨fu, rfl⟩ : ∃ q, fu = q + 1 := ⟨fu - 1, by omega⟩
    unfold g_X2_share_37
    rw [if_neg (nI_ge (by omega) (by omega)), p_g (show a + j < n1 by omega) (by omega), p_g (show a + j < n2 by omega) (by omega), nI_clamp (by omega), hun.1 a1 (by simpa using h12), hu j (by omega), nI_1]
    exact ih (j + 1) fu (z_si μ' a2 (a + j) (nI (U j))) (by omega) (by omega) (hun.si (by simp) _ _) (fun i hi => by
      by_cases e : i = j
      · subst e
        rw [p_si_at]
      · rw [p_si_nk (by omega), hc i (by omega)])
theorem p_share (h12 : a1 ≠ a2) (hn1 : a + n ≤ n1) (hn2 : a + n ≤ n2) (h1l : n1 < 4000) (h2l : n2 < 4000) (hr : r < 100000) (hu : ∀ j, j < n → μ.1 a1 (a + j) = nI (U j)) (hU : ∀ j, j < n → U j ≤ 10000) (hWl : sm n U < 2 ^ 30) : ∃ μ'', f_X2_share (nI r) a1 n1 a2 n2 (nI a) (nI (a + n)) μ = some (nI (sh_r r n U), μ'') ∧ z_un [a2] μ μ'' ∧ ∀ i, i < n → μ''.1 a2 (a + i) = nI (sh r n U i) := by
  have hN : z_N = 5000 := rfl
  have key : ∀ m j fu, j + m = n → m < fu → g_X2_share_6 a1 n1 a2 n2 fu (nI r) (nI a) (nI (a + n)) (nI (sm j U)) (nI (a + j)) μ = if r < sm n U then g_X2_share_69 a1 n1 a2 n2 z_N (nI r) (nI a) (nI (a + n)) (nI (sm n U)) (nI r) (nI a) μ else g_X2_share_37 a1 n1 a2 n2 z_N (nI r) (nI (a + n)) (nI (sm n U)) (nI a) μ := by
    intro m
    induction m with
    | zero =>
      intro j fu hj hf
      obtain ⟨fu, rfl⟩ : ∃ q, fu = q + 1 := ⟨fu - 1, by omega⟩
      have ej : j = n := by omega
      subst ej
      unfold g_X2_share_6
      rw [if_pos (nI_le (Nat.le_refl _) (by omega))]
      by_cases q : r < sm j U
      · rw [if_pos q, if_pos (nI_lt q (by omega))]
      · rw [if_neg q, if_neg (nI_nlt (by omega) (by omega))]
    | succ m ih =>
      intro j fu hj hf
      obtain ⟨fu, rfl⟩ : ∃ q, fu = q + 1 := ⟨fu - 1, by omega⟩
      have h := ih (j + 1) fu (by omega) (by omega)
      unfold g_X2_share_6
      rw [if_neg (nI_ge (by omega) (by omega)), p_g (show a + j < n1 by omega) (by omega), nI_clamp (by omega), hu j (by omega), nI_add, nI_1]
      exact h
  have h0 := key n 0 z_N (by omega) (by omega)
  unfold f_X2_share
  rw [show nI (sm 0 U) = 0 from rfl, Nat.add_zero] at h0
  rw [h0]
  by_cases hW : r < sm n U
  · rw [if_pos hW]
    have h := p_sh69 (μ := μ) (U := U) h12 hn1 hn2 (by omega) (by omega) hr hu hU hW hWl n 0 z_N μ (by omega) (by omega) (by omega) (z_un.rf _ _) (fun i hi => by omega)
    rw [show r - sm 0 (sh_q r (sm n U) U) = r from rfl, Nat.add_zero] at h
    obtain ⟨μ'', h1, h2, h3⟩ := h
    refine ⟨μ'', ?_, h2, h3⟩
    rw [h1]
    unfold sh_r
    rw [if_neg (by omega)]
    rfl
  · rw [if_neg hW]
    have h := p_sh37 (μ := μ) (U := U) (r := r) h12 hn1 hn2 (by omega) (by omega) hu (by omega) n 0 z_N μ (by omega) (by omega) (z_un.rf _ _) (fun i hi => by omega)
    rw [Nat.add_zero] at h
    obtain ⟨μ'', h1, h2, h3⟩ := h
    refine ⟨μ'', ?_, h2, fun i hi => ?_⟩
    · rw [h1]
      unfold sh_r
      rw [if_pos (by omega)]
    · rw [h3 i hi]
      unfold sh
      rw [if_pos (by omega)]
end
