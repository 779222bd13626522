/-! PURE: the reference's payOut -/
def sn (k : Nat) : Nat → Nat
  | 0 => 0
  | u + 1 => sn k u ||| 2 ^ dg k (4 - u)
theorem sn_or : ∀ a, a < 32 → ∀ e, e < 5 → nI a ||| nI (2 ^ e) = nI (a ||| 2 ^ e) ∧ (a ||| 2 ^ e) < 32 := by decide +kernel
theorem dg_lt (k i : Nat) : dg k i < 5 := Nat.mod_lt _ (by decide)
theorem sn_lt (k : Nat) : ∀ u, sn k u < 32
  | 0 => by rw [sn]; decide
  | u + 1 => (sn_or (sn k u) (sn_lt k u) _ (dg_lt k _)).2
theorem sn_isP (k : Nat) : isP k = (sn k 5 == 31) := by
  unfold isP
  simp only [sn, Nat.zero_or]
def xO : List Nat := [126, 127, 128, 129, 130, 131]
section
variable {n : Nat} {l : a_T} {s : a_S} {g : Nat → Bool} {d : Int32}
theorem p_62 {ν : z_M} {k : Nat} (hk : k < 3125) (K : Int32 → Int32 → Int32 → Int32 → Int32 → z_M → Option z_M) (x1 x2 x3 x4 x5 : Int32) : ∀ m u fu ν1, u + m = 5 → m < fu → z_un [128] ν ν1 → (∀ j, m ≤ j → j < 5 → ν1.1 128 j = nI (dg k j)) → ∃ ν', z_un [128] ν ν' ∧ (∀ j, j < 5 → ν'.1 128 j = nI (dg k j)) ∧ g_X5_payOut_62 K fu x1 x2 x3 x4 x5 (nI (sn k u)) (nI (k / 5 ^ u)) (nI m + (-1)) ν1 = if isP k = true then z_b2 (f_X5_payAll x1 x2 ν') (fun r28 μ29 => g_X5_payOut_121 K x1 x2 x3 x4 x5 r28 μ29) else g_X5_payOut_121 K x1 x2 x3 x4 x5 (-1) ν' := by
  intro m
  induction m with
  | zero =>
    intro u fu ν1 hu hf hun hc
    obtain ⟨fu, rfl⟩ : ∃ q, fu = q + 1 := ⟨fu - 1, by omega⟩
    have eu : u = 5 := by omega
    subst eu
    refine ⟨ν1, hun, fun j hj => hc j (by omega) hj, ?_⟩
    have hl := sn_lt k 5
    rw [g_X5_payOut_62]
    rw [if_pos (show nI 0 + (-1) < 0 by decide), sn_isP]
    by_cases q : sn k 5 = 31
    · rw [if_pos (show nI (sn k 5) = 31 by rw [q]; rfl), if_pos (by rw [q]; rfl)]
    · rw [if_neg (show ¬ nI (sn k 5) = 31 from fun w => q ((nI_eq (b := 31) (by omega) (by decide)).mp w)), if_neg (fun w => q (eq_of_beq w))]
  | succ m ih =>
    intro u fu ν1 hu hf hun hc
    obtain ⟨fu, rfl⟩ : ∃ q, fu = q + 1 := ⟨fu - 1, by omega⟩
    have hm : m = 4 - u := by omega
    have hkd : k / 5 ^ u ≤ k := Nat.div_le_self _ _
    have hdig : nI (k / 5 ^ u) - nI (k / 5 ^ u) / 5 * 5 = nI (dg k m) := by
      have h := pk_rem (a := k / 5 ^ u) (d := 5) (by omega) (by decide) (by decide)
      have e : k / 5 ^ u % 5 = dg k m := by
        unfold dg
        rw [hm, show 4 - (4 - u) = u by omega]
      rw [e] at h
      exact h
    have hdiv : nI (k / 5 ^ u) / 5 = nI (k / 5 ^ (u + 1)) := by
      have h := pk_div (a := k / 5 ^ u) (d := 5) (by omega) (by decide) (by decide)
      rw [Nat.div_div_eq_div_mul, ← Nat.pow_succ] at h
      exact h
    have hor : nI (sn k u) ||| ((1 : Int32) <<< (nI (dg k m) &&& 31)) = nI (sn k (u + 1)) := by
      rw [p_sh1 _ (by have := dg_lt k m; omega), (sn_or _ (sn_lt k u) _ (dg_lt k m)).1, sn, hm]
    obtain ⟨ν', y1, y2, y3⟩ := ih (u + 1) fu (z_si ν1 128 m (nI (dg k m))) (by omega) (by omega) (hun.si (by simp) _ _) (fun j h1 h2 => by
      by_cases e : j = m
      · rw [e, p_si_at]
      · rw [p_si_nk e]
        exact hc j (by omega) h2)
    refine ⟨ν', y1, y2, ?_⟩
    rw [g_X5_payOut_62]
    rw [pk_m1, if_neg (nI_pos (by omega)), if_pos (show ¬ (5 : Int32) = 0 by decide), p_g (show m < 5 by omega) (by decide), z_st_s, p_g (show m < 5 by omega) (by decide), nI_clamp (by omega), p_si_at, hdig, z_lt_s, if_pos (show ¬ (5 : Int32) = 0 by decide), hdiv, z_lt_s, hor]
    exact y3
theorem p_137 {ν : z_M} (K : Int32 → Int32 → Int32 → Int32 → Int32 → z_M → Option z_M) (x1 x2 x3 x4 x5 : Int32) : ∀ m i fu ν1, i + m = 5 → m < fu → z_un [131] ν ν1 → (∀ j, j < i → ν1.1 131 j = ν.1 128 j) → ∃ ν', z_un [131] ν ν' ∧ (∀ j, j < 5 → ν'.1 131 j = ν.1 128 j) ∧ g_X5_payOut_137 K fu x1 x2 x3 x4 x5 (nI i) ν1 = K x1 x2 x3 x4 (x5 + 1) ν' := by
  intro m
  induction m with
  | zero =>
    intro i fu ν1 hi hf hun hc
    obtain ⟨fu, rfl⟩ : ∃ q, fu = q + 1 := ⟨fu - 1, by omega⟩
    have ei : i = 5 := by omega
    subst ei
    refine ⟨ν1, hun, hc, ?_⟩
    rw [g_X5_payOut_137]
    rw [if_pos (by decide)]
  | succ m ih =>
    intro i fu ν1 hi hf hun hc
    obtain ⟨fu, rfl⟩ : ∃ q, fu = q + 1 := ⟨fu - 1, by omega⟩
    obtain ⟨ν', y1, y2, y3⟩ := ih (i + 1) fu (z_si ν1 131 i (ν.1 128 i)) (by omega) (by omega) (hun.si (by simp) _ _) (fun j hj => by
      by_cases e : j = i
      · rw [e, p_si_at]
      · rw [p_si_nk e]
        exact hc j (by omega))
    refine ⟨ν', y1, y2, ?_⟩
    rw [g_X5_payOut_137]
    rw [if_neg (show ¬ (5 : Int32) ≤ nI i from p_nle (a := 5) (by omega) (by decide)), p_g (show i < 5 by omega) (by decide), p_g (show i < 5 by omega) (by decide), nI_clamp (by omega), z_st_s, hun.1 128 (by decide), nI_1]
    exact y3
theorem p_172 (hs : w_ship s) (hl : w_law l) (hn : n < 4) {ν : z_M} (hm : m_ctx ν n l s g) {b : Nat} (hb : b ∈ od) (h131 : ∀ j, j < 5 → ν.1 131 j = nI (dg b j)) : ∀ m i fu ν1, i + m = 5 → m < fu → z_un [128] ν ν1 → (∀ j, j < i → ν1.1 128 j = nI (dg b j)) → ∃ ν', g_X5_payOut_172 fu (nI n) d (nI i) ν1 = some ν' ∧ z_un xO ν ν' ∧ m_at ν' (y_p (y_og l s d g)) (dg b) 5 ∧ (∀ j, j < 5 → ν'.1 128 j = nI (dg b j)) := by
  intro m
  induction m with
  | zero =>
    intro i fu ν1 hi hf hun hc
    obtain ⟨fu, rfl⟩ : ∃ q, fu = q + 1 := ⟨fu - 1, by omega⟩
    have ei : i = 5 := by omega
    subst ei
    obtain ⟨ν2, e2, u2, a2⟩ := p_payAll5 (d := d) hs hl hn (isO_od hb) (hm.un hun (fun a _ _ => by simp; omega)) hc
    refine ⟨ν2, ?_, (hun.mono (by decide)).tr (u2.mono (by decide)), a2, fun j hj => by rw [u2.1 128 (by decide)]; exact hc j hj⟩
    rw [g_X5_payOut_172]
    rw [if_pos (by decide), e2, z_b2_s]
  | succ m ih =>
    intro i fu ν1 hi hf hun hc
    obtain ⟨fu, rfl⟩ : ∃ q, fu = q + 1 := ⟨fu - 1, by omega⟩
    rw [g_X5_payOut_172]
    rw [if_neg (show ¬ (5 : Int32) ≤ nI i from p_nle (a := 5) (by omega) (by decide)), p_g (show i < 5 by omega) (by decide), p_g (show i < 5 by omega) (by decide), nI_clamp (by omega), z_st_s, hun.1 131 (by decide), h131 i (by omega), nI_1]
    exact ih (i + 1) fu _ (by omega) (by omega) (hun.si (by simp) _ _) (fun j hj => by
      by_cases e : j = i
      · rw [e, p_si_at]
      · rw [p_si_nk e]
        exact hc j (by omega))
noncomputable def m_bI (P : y_P) (b : Option Nat) : Int32 := match b with
  | none => -1
  | some j => nI (y_T P (dg j))
theorem p_39 (hs : w_ship s) (hl : w_law l) (hn : n < 4) {ν : z_M} (hm : m_ctx ν n l s g) : ∀ m k fu b ν1, k + m = 3125 → m < fu → z_un xO ν ν1 → ((List.range k).filter isP).foldl (y_st (y_p (y_og l s d g))) none = b → (∀ j, b = some j → j ∈ od) → (∀ j, j < 5 → ν1.1 131 j = nI (dg (b.getD 194) j)) → ∃ ν', g_X5_payOut_39 fu (nI n) d 1 (m_bI (y_p (y_og l s d g)) b) (nI k) ν1 = some ν' ∧ z_un xO ν ν' ∧ m_at ν' (y_p (y_og l s d g)) (dg (y_code (y_p (y_og l s d g)) 1)) 5 ∧ (∀ j, j < 5 → ν'.1 128 j = nI (dg (y_code (y_p (y_og l s d g)) 1) j)) := by
  have hN : z_N = 5000 := rfl
  have hQ := w_og hs hl d g
  have hTl : ∀ o, y_T (y_p (y_og l s d g)) o ≤ 14 * 999 := fun o => y_pa_bd hQ o 5
  have hX : ∀ a, 98 ≤ a → a ≤ 125 → a ∉ xO := by
    intro a h1 h2
    unfold xO
    simp
    omega
  have h194 : 194 ∈ od := by decide +kernel
  intro m
  induction m with
  | zero =>
    intro k fu b ν1 hk hf hun hb hbo hc
    obtain ⟨fu, rfl⟩ : ∃ q, fu = q + 1 := ⟨fu - 1, by omega⟩
    have ek : k = 3125 := by omega
    subst ek
    have hcode : y_code (y_p (y_og l s d g)) 1 = b.getD 194 := by
      unfold y_code
      rw [if_pos rfl, ← od_is, hb]
    have hmem : b.getD 194 ∈ od := by
      cases b with
      | none => exact h194
      | some j => exact hbo j rfl
    rw [hcode]
    rw [g_X5_payOut_39]
    rw [if_pos (show (3125 : Int32) ≤ nI 3125 by decide)]
    obtain ⟨ν', y1, y2, y3, y4⟩ := p_172 (d := d) hs hl hn (hm.un hun hX) hmem hc 5 0 z_N ν1 (by omega) (by omega) (z_un.rf _ _) (fun j hj => by omega)
    exact ⟨ν', y1, hun.tr y2, y3, y4⟩
  | succ m ih =>
    intro k fu b ν1 hk hf hun hb hbo hc
    obtain ⟨fu, rfl⟩ : ∃ q, fu = q + 1 := ⟨fu - 1, by omega⟩
    have hk' : k < 3125 := by omega
    obtain ⟨ν2, u2, d2, e2⟩ := p_62 (ν := ν1) hk' (fun (y51 : Int32) (y52 : Int32) (y53 : Int32) (y54 : Int32) (y55 : Int32) (μ49 : z_M) => (g_X5_payOut_39 fu (y51) (y52) (y53) (y54) (y55) μ49)) (nI n) d 1 (m_bI (y_p (y_og l s d g)) b) (nI k) 5 0 z_N ν1 (by omega) (by omega) (z_un.rf _ _) (fun j h1 h2 => by omega)
    have u12 : z_un xO ν ν2 := hun.tr (u2.mono (by decide))
    have hrange : (List.range (k + 1)).filter isP = (List.range k).filter isP ++ (if isP k = true then [k] else []) := by
      rw [List.range_succ, List.filter_append]
      congr 1
      by_cases q : isP k = true
      · rw [if_pos q]
        simp [q]
      · rw [if_neg q]
        simp [q]
    have start : g_X5_payOut_39 (fu + 1) (nI n) d 1 (m_bI (y_p (y_og l s d g)) b) (nI k) ν1 = if isP k = true then z_b2 (f_X5_payAll (nI n) d ν2) (fun r28 μ29 => g_X5_payOut_121 (fun (y51 : Int32) (y52 : Int32) (y53 : Int32) (y54 : Int32) (y55 : Int32) (μ49 : z_M) => (g_X5_payOut_39 fu (y51) (y52) (y53) (y54) (y55) μ49)) (nI n) d 1 (m_bI (y_p (y_og l s d g)) b) (nI k) r28 μ29) else g_X5_payOut_121 (fun (y51 : Int32) (y52 : Int32) (y53 : Int32) (y54 : Int32) (y55 : Int32) (μ49 : z_M) => (g_X5_payOut_39 fu (y51) (y52) (y53) (y54) (y55) μ49)) (nI n) d 1 (m_bI (y_p (y_og l s d g)) b) (nI k) (-1) ν2 := by
      rw [g_X5_payOut_39]
      rw [if_neg (show ¬ (3125 : Int32) ≤ nI k from p_nle (a := 3125) hk' (by decide)), if_pos (show (1 : Int32) = 1 from rfl)]
      have e4 : nI 5 + (-1) = (4 : Int32) := by decide
      have e0 : nI (sn k 0) = (0 : Int32) := rfl
      rw [e4, e0, Nat.pow_zero, Nat.div_one] at e2
      exact e2
    rw [start]
    by_cases hP : isP k = true
    · have hkod : k ∈ od := by
        rw [← od_is]
        exact List.mem_filter.mpr ⟨List.mem_range.mpr hk', hP⟩
      rw [if_pos hP] at hrange ⊢
      obtain ⟨ν3, e3, u3, a3⟩ := p_payAll5 (d := d) hs hl hn (isO_od hkod) (hm.un u12 hX) d2
      have u13 : z_un xO ν ν3 := u12.tr (u3.mono (by decide))
      rw [e3, z_b2_s]
      unfold g_X5_payOut_121
      have hTk := hTl (dg k)
      by_cases hle : nI (y_T (y_p (y_og l s d g)) (dg k)) ≤ m_bI (y_p (y_og l s d g)) b
      · rw [if_pos hle, nI_1]
        cases b with
        | none =>
          exfalso
          have : nI (y_T (y_p (y_og l s d g)) (dg k)) ≤ -1 := hle
          rw [p_le, nI_toInt (by omega), p_zm1] at this
          omega
        | some j =>
          have hTj := hTl (dg j)
          have hle' : y_T (y_p (y_og l s d g)) (dg k) ≤ y_T (y_p (y_og l s d g)) (dg j) := (nI_leI (by omega) (by omega)).mp hle
          refine ih (k + 1) fu (some j) ν3 (by omega) (by omega) u13 ?_ hbo (fun i hi => by rw [u3.1 131 (by decide), u2.1 131 (by decide)]; exact hc i hi)
          rw [hrange, List.foldl_append, hb]
          show (if y_T (y_p (y_og l s d g)) (dg j) < y_T (y_p (y_og l s d g)) (dg k) then some k else some j) = some j
          rw [if_neg (by omega)]
      · rw [if_neg hle]
        obtain ⟨ν4, u4, d4, e4⟩ := p_137 (ν := ν3) (fun (y16 : Int32) (y17 : Int32) (y18 : Int32) (y19 : Int32) (y20 : Int32) (μ14 : z_M) => (g_X5_payOut_39 fu (y16) (y17) (y18) (y19) (y20) μ14)) (nI n) d 1 (nI (y_T (y_p (y_og l s d g)) (dg k))) (nI k) 5 0 z_N ν3 (by omega) (by omega) (z_un.rf _ _) (fun j hj => by omega)
        obtain ⟨ν5, y1, y2, y3, y4⟩ := ih (k + 1) fu (some k) ν4 (by omega) (by omega) (u13.tr (u4.mono (by decide))) (by
          rw [hrange, List.foldl_append, hb]
          show y_st (y_p (y_og l s d g)) b k = some k
          cases b with
          | none => rfl
          | some j =>
            have hTj := hTl (dg j)
            show (if y_T (y_p (y_og l s d g)) (dg j) < y_T (y_p (y_og l s d g)) (dg k) then some k else some j) = some k
            rw [if_pos]
            rcases Nat.lt_or_ge (y_T (y_p (y_og l s d g)) (dg j)) (y_T (y_p (y_og l s d g)) (dg k)) with q | q
            · exact q
            · exact absurd (show nI (y_T (y_p (y_og l s d g)) (dg k)) ≤ nI (y_T (y_p (y_og l s d g)) (dg j)) from nI_le q (by omega)) hle) (fun j hj => by cases hj; exact hkod) (fun i hi => by rw [d4 i hi, u3.1 128 (by decide)]; exact d2 i hi)
        refine ⟨ν5, ?_, y2, y3, y4⟩
        rw [nI_1] at e4
        exact e4.trans y1
    · rw [if_neg hP] at hrange ⊢
      rw [List.append_nil] at hrange
      unfold g_X5_payOut_121
      have hle : (-1 : Int32) ≤ m_bI (y_p (y_og l s d g)) b := by
        cases b with
        | none => exact Int32.le_refl _
        | some j =>
          have hTj := hTl (dg j)
          show (-1 : Int32) ≤ nI (y_T (y_p (y_og l s d g)) (dg j))
          rw [p_le, nI_toInt (by omega), p_zm1]
          omega
      rw [if_pos hle, nI_1]
      exact ih (k + 1) fu b ν2 (by omega) (by omega) u12 (by rw [hrange]; exact hb) hbo (fun i hi => by rw [u2.1 131 (by decide)]; exact hc i hi)
/-- PAID OUT, on the reference's side -/
theorem p_payOut (hs : w_ship s) (hl : w_law l) (hn : n < 4) {ν : z_M} (hm : m_ctx ν n l s g) {way : Nat} (hway : way < 2) : ∃ ν', f_X5_payOut (nI n) d (nI way) ν = some ν' ∧ z_un xO ν ν' ∧ m_at ν' (y_p (y_og l s d g)) (dg (y_code (y_p (y_og l s d g)) way)) 5 ∧ (∀ j, j < 5 → ν'.1 128 j = nI (dg (y_code (y_p (y_og l s d g)) way) j)) := by
  have hN : z_N = 5000 := rfl
  have hX : ∀ a, 98 ≤ a → a ≤ 125 → a ∉ xO := by
    intro a h1 h2
    unfold xO
    simp
    omega
  have d194 : ∀ j, j < 5 → dg 194 j = j := by decide +kernel
  have key : ∀ m i fu ν1, i + m = 5 → m < fu → z_un xO ν ν1 → (∀ j, j < i → ν1.1 131 j = nI j) → ∃ ν', g_X5_payOut_3 fu (nI n) d (nI way) (nI i) ν1 = some ν' ∧ z_un xO ν ν' ∧ m_at ν' (y_p (y_og l s d g)) (dg (y_code (y_p (y_og l s d g)) way)) 5 ∧ (∀ j, j < 5 → ν'.1 128 j = nI (dg (y_code (y_p (y_og l s d g)) way) j)) := by
    intro m
    induction m with
    | zero =>
      intro i fu ν1 hi hf hun hc
      obtain ⟨fu, rfl⟩ : ∃ q, fu = q + 1 := ⟨fu - 1, by omega⟩
      have ei : i = 5 := by omega
      subst ei
      rw [g_X5_payOut_3]
      rw [if_pos (by decide)]
      by_cases e : way = 1
      · subst e
        obtain ⟨ν', y1, y2, y3, y4⟩ := p_39 (d := d) hs hl hn (hm.un hun hX) 3125 0 z_N none ν1 (by omega) (by omega) (z_un.rf _ _) rfl (fun j hj => by cases hj) (fun j hj => by
          show ν1.1 131 j = nI (dg 194 j)
          rw [d194 j hj]
          exact hc j hj)
        exact ⟨ν', y1, hun.tr y2, y3, y4⟩
      · have : way = 0 := by omega
        subst this
        obtain ⟨z, hz⟩ : ∃ z, z_N = z + 1 := ⟨4999, rfl⟩
        obtain ⟨ν', y1, y2, y3, y4⟩ := p_172 (d := d) (b := 194) hs hl hn (hm.un hun hX) (by decide +kernel) (fun j hj => by rw [d194 j hj]; exact hc j hj) 5 0 z_N ν1 (by omega) (by omega) (z_un.rf _ _) (fun j hj => by omega)
        refine ⟨ν', ?_, hun.tr y2, y3, y4⟩
        have e39 : g_X5_payOut_39 (z + 1) (nI n) d (nI 0) (-1) 0 ν1 = g_X5_payOut_172 z_N (nI n) d 0 ν1 := by
          rw [g_X5_payOut_39]
          rw [if_neg (show ¬ (3125 : Int32) ≤ 0 by decide), if_neg (show ¬ nI 0 = 1 by decide)]
        rw [hz, e39]
        exact y1
    | succ m ih =>
      intro i fu ν1 hi hf hun hc
      obtain ⟨fu, rfl⟩ : ∃ q, fu = q + 1 := ⟨fu - 1, by omega⟩
      rw [g_X5_payOut_3]
      rw [if_neg (show ¬ (5 : Int32) ≤ nI i from p_nle (a := 5) (by omega) (by decide)), p_g (show i < 5 by omega) (by decide), z_st_s, p_g (show i < 5 by omega) (by decide), z_st_s, nI_clamp (by omega), nI_1]
      exact ih (i + 1) fu _ (by omega) (by omega) ((hun.si (by decide) _ _).si (by decide) _ _) (fun j hj => by
        by_cases e : j = i
        · rw [e, p_si_at]
        · rw [p_si_nk e, p_si_ne (by decide)]
          exact hc j (by omega))
  unfold f_X5_payOut
  exact key 5 0 z_N ν (by omega) (by omega) (z_un.rf _ _) (fun j hj => by omega)
end
