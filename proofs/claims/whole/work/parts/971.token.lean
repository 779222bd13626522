/-! PURE: LawText's tokens and words -/
def gF (W : Nat → Nat → Prop) (μ μ' : z_M) : Prop := (∀ a k, ¬ W a k → μ'.1 a k = μ.1 a k) ∧ μ'.2 = μ.2
theorem gF.rf (W : Nat → Nat → Prop) (μ : z_M) : gF W μ μ := ⟨fun _ _ _ => rfl, rfl⟩
theorem gF.tr {W : Nat → Nat → Prop} {a b c : z_M} (h : gF W a b) (g : gF W b c) : gF W a c := ⟨fun i k q => (g.1 i k q).trans (h.1 i k q), g.2.trans h.2⟩
theorem gF.si {W : Nat → Nat → Prop} {μ μ' : z_M} (h : gF W μ μ') {a k : Nat} (hW : W a k) (x : Int32) : gF W μ (z_si μ' a k x) := by
  refine ⟨fun b j q => ?_, h.2⟩
  rw [p_si, if_neg (fun z => q (by rw [z.1, z.2]; exact hW))]
  exact h.1 b j q
theorem gF.mono {W V : Nat → Nat → Prop} {μ μ' : z_M} (h : gF W μ μ') (hV : ∀ a k, W a k → V a k) : gF V μ μ' := ⟨fun a k q => h.1 a k (fun w => q (hV a k w)), h.2⟩
def tx (μ : z_M) (t : Nat → Int32) (N : Nat) : Prop := N ≤ 240 ∧ μ.1 2 1 = nI N ∧ ∀ k, k < N → μ.1 3 k = t k
def W6 : Nat → Nat → Prop := fun a k => a = 2 ∧ k = 6
def W456 : Nat → Nat → Prop := fun a k => a = 2 ∧ (k = 4 ∨ k = 5 ∨ k = 6)
theorem tx.of {μ μ' : z_M} {t : Nat → Int32} {N : Nat} (h : tx μ t N) (hF : gF W456 μ μ') : tx μ' t N := by
  refine ⟨h.1, ?_, fun k hk => ?_⟩
  · rw [hF.1 2 1 (by unfold W456; omega)]
    exact h.2.1
  · rw [hF.1 3 k (by unfold W456; omega)]
    exact h.2.2 k hk
theorem W6_456 : ∀ a k, W6 a k → W456 a k := fun a k h => ⟨h.1, Or.inr (Or.inr h.2)⟩
theorem p_let (x : Int32) (μ : z_M) : f_X1_isLetter x μ = some (if cLe x = true then 1 else 0, μ) := by
  unfold f_X1_isLetter
  rw [p_rA 97 122 (by decide) (by decide)]
  unfold cLe
  congr 2
  by_cases q : p_in x 97 122
  · rw [if_pos q, if_pos (decide_eq_true q)]
  · rw [if_neg q, if_neg (fun z => q (of_decide_eq_true z))]
theorem p_fig (x : Int32) (μ : z_M) : f_X1_isFigure x μ = some (if cFi x = true then 1 else 0, μ) := by
  unfold f_X1_isFigure
  rw [p_rA 48 57 (by decide) (by decide)]
  unfold cFi
  congr 2
  by_cases q : p_in x 48 57
  · rw [if_pos q, if_pos (decide_eq_true q)]
  · rw [if_neg q, if_neg (fun z => q (of_decide_eq_true z))]
section
variable {t : Nat → Int32} {N : Nat} {μ : z_M}
theorem p_nt0 (h : tx μ t N) : ∀ d p fu μ1, p + d = N → d < fu → gF W6 μ μ1 → μ1.1 2 6 = nI p → ∃ μ', gF W6 μ μ' ∧ μ'.1 2 6 = nI (xR1 cSp t N p) ∧ g_X1_nextToken_0 fu μ1 = g_X1_nextToken_38 μ' := by
  obtain ⟨h1, h2, h3⟩ := h
  intro d
  induction d with
  | zero =>
    intro p fu μ1 hp hf hF h6
    obtain ⟨fu, rfl⟩ : ∃ q, fu = q + 1 := ⟨fu - 1, by omega⟩
    refine ⟨μ1, hF, by rw [h6, xR1_ge (by omega)], ?_⟩
    rw [g_X1_nextToken_0]
    rw [hF.1 2 1 (by unfold W6; omega), h2, h6, if_pos (nI_le (by omega) (by omega))]
  | succ d ih =>
    intro p fu μ1 hp hf hF h6
    obtain ⟨fu, rfl⟩ : ∃ q, fu = q + 1 := ⟨fu - 1, by omega⟩
    have e3 : μ1.1 3 p = t p := by rw [hF.1 3 p (by unfold W6; omega)]; exact h3 p (by omega)
    have U : g_X1_nextToken_0 (fu + 1) μ1 = if t p = 32 then g_X1_nextToken_0 fu (z_si μ1 2 6 (nI (p + 1))) else g_X1_nextToken_38 μ1 := by
      rw [g_X1_nextToken_0]
      rw [hF.1 2 1 (by unfold W6; omega), h2, h6, if_neg (nI_ge (by omega) (by omega)), p_g (show p < 240 by omega) (by decide), z_st_s, nI_1]
      simp only [nI_clamp (show p < 2 ^ 31 by omega), e3]
    rw [U, xR1_lt (show p < N by omega)]
    by_cases q : t p = 32
    · rw [if_pos q, if_pos (show cSp (t p) = true from decide_eq_true q)]
      exact ih (p + 1) fu _ (by omega) (by omega) (hF.si ⟨rfl, rfl⟩ _) (p_si_at _ _ _ _)
    · rw [if_neg q, if_neg (show ¬ cSp (t p) = true from fun z => q (of_decide_eq_true z))]
      exact ⟨μ1, hF, h6, rfl⟩
theorem p_nt85 (h : tx μ t N) : ∀ d p fu μ1, p + d = N → d < fu → gF W6 μ μ1 → μ1.1 2 6 = nI p → ∃ μ', gF W6 μ μ' ∧ μ'.1 2 6 = nI (xR1 cLe t N p) ∧ g_X1_nextToken_85 fu μ1 = some μ' := by
  obtain ⟨h1, h2, h3⟩ := h
  intro d
  induction d with
  | zero =>
    intro p fu μ1 hp hf hF h6
    obtain ⟨fu, rfl⟩ : ∃ q, fu = q + 1 := ⟨fu - 1, by omega⟩
    refine ⟨μ1, hF, by rw [h6, xR1_ge (by omega)], ?_⟩
    rw [g_X1_nextToken_85]
    rw [hF.1 2 1 (by unfold W6; omega), h2, h6, if_pos (nI_le (by omega) (by omega))]
  | succ d ih =>
    intro p fu μ1 hp hf hF h6
    obtain ⟨fu, rfl⟩ : ∃ q, fu = q + 1 := ⟨fu - 1, by omega⟩
    have e3 : μ1.1 3 p = t p := by rw [hF.1 3 p (by unfold W6; omega)]; exact h3 p (by omega)
    have U : g_X1_nextToken_85 (fu + 1) μ1 = if cLe (t p) = true then g_X1_nextToken_85 fu (z_si μ1 2 6 (nI (p + 1))) else some μ1 := by
      rw [g_X1_nextToken_85]
      rw [hF.1 2 1 (by unfold W6; omega), h2, h6, if_neg (nI_ge (by omega) (by omega)), p_g (show p < 240 by omega) (by decide), nI_clamp (by omega), e3, p_let, z_b2_s, z_st_s, h6, nI_1]
      by_cases q : cLe (t p) = true
      · rw [if_pos q, if_pos q, if_neg (show ¬ (1 : Int32) = 0 by decide)]
      · rw [if_neg q, if_neg q, if_pos rfl]
    rw [U, xR1_lt (show p < N by omega)]
    by_cases q : cLe (t p) = true
    · rw [if_pos q, if_pos q]
      exact ih (p + 1) fu _ (by omega) (by omega) (hF.si ⟨rfl, rfl⟩ _) (p_si_at _ _ _ _)
    · rw [if_neg q, if_neg q]
      exact ⟨μ1, hF, h6, rfl⟩
theorem p_nt144 (h : tx μ t N) : ∀ d p fu μ1, p + d = N → d < fu → gF W6 μ μ1 → μ1.1 2 6 = nI p → ∃ μ', gF W6 μ μ' ∧ μ'.1 2 6 = nI (xR1 cFi t N p) ∧ g_X1_nextToken_144 fu μ1 = some μ' := by
  obtain ⟨h1, h2, h3⟩ := h
  intro d
  induction d with
  | zero =>
    intro p fu μ1 hp hf hF h6
    obtain ⟨fu, rfl⟩ : ∃ q, fu = q + 1 := ⟨fu - 1, by omega⟩
    refine ⟨μ1, hF, by rw [h6, xR1_ge (by omega)], ?_⟩
    rw [g_X1_nextToken_144]
    rw [hF.1 2 1 (by unfold W6; omega), h2, h6, if_pos (nI_le (by omega) (by omega))]
  | succ d ih =>
    intro p fu μ1 hp hf hF h6
    obtain ⟨fu, rfl⟩ : ∃ q, fu = q + 1 := ⟨fu - 1, by omega⟩
    have e3 : μ1.1 3 p = t p := by rw [hF.1 3 p (by unfold W6; omega)]; exact h3 p (by omega)
    have U : g_X1_nextToken_144 (fu + 1) μ1 = if cFi (t p) = true then g_X1_nextToken_144 fu (z_si μ1 2 6 (nI (p + 1))) else some μ1 := by
      rw [g_X1_nextToken_144]
      rw [hF.1 2 1 (by unfold W6; omega), h2, h6, if_neg (nI_ge (by omega) (by omega)), p_g (show p < 240 by omega) (by decide), nI_clamp (by omega), e3, p_fig, z_b2_s, z_st_s, h6, nI_1]
      by_cases q : cFi (t p) = true
      · rw [if_pos q, if_pos q, if_neg (show ¬ (1 : Int32) = 0 by decide)]
      · rw [if_neg q, if_neg q, if_pos rfl]
    rw [U, xR1_lt (show p < N by omega)]
    by_cases q : cFi (t p) = true
    · rw [if_pos q, if_pos q]
      exact ih (p + 1) fu _ (by omega) (by omega) (hF.si ⟨rfl, rfl⟩ _) (p_si_at _ _ _ _)
    · rw [if_neg q, if_neg q]
      exact ⟨μ1, hF, h6, rfl⟩
/-- the token at q: its sort, its end -/
def tkK (t : Nat → Int32) (N q : Nat) : Nat := if N ≤ q then 0 else if cLe (t q) = true then 1 else if cFi (t q) = true then 2 else 3
def tkE (t : Nat → Int32) (N q : Nat) : Nat := if N ≤ q then q else if cLe (t q) = true then xR1 cLe t N q else if cFi (t q) = true then xR1 cFi t N q else q + 1
theorem p_nT (h : tx μ t N) {p : Nat} (hp : p ≤ N) (h6 : μ.1 2 6 = nI p) : ∃ μ', f_X1_nextToken μ = some μ' ∧ gF W456 μ μ' ∧ μ'.1 2 5 = nI (xR1 cSp t N p) ∧ μ'.1 2 4 = nI (tkK t N (xR1 cSp t N p)) ∧ μ'.1 2 6 = nI (tkE t N (xR1 cSp t N p)) := by
  have hN : z_N = 5000 := rfl
  have hN2 := h.1
  obtain ⟨q1, q2, q3, q4⟩ := xR1_in (P := cSp) (t := t) (N := N) (N - p) p (by omega)
  obtain ⟨μ1, F1, g6, e1⟩ := p_nt0 h (N - p) p z_N μ (by omega) (by omega) (gF.rf _ μ) h6
  generalize xR1 cSp t N p = q at *
  have F2 : gF W456 μ (z_si μ1 2 5 (nI q)) := (F1.mono W6_456).si ⟨rfl, Or.inr (Or.inl rfl)⟩ _
  have s6 : (z_si μ1 2 5 (nI q)).1 2 6 = nI q := by rw [p_si_nk (by decide)]; exact g6
  have s1 : (z_si μ1 2 5 (nI q)).1 2 1 = nI N := (h.of F2).2.1
  have s5 : (z_si μ1 2 5 (nI q)).1 2 5 = nI q := p_si_at _ _ _ _
  unfold f_X1_nextToken
  rw [e1]
  unfold g_X1_nextToken_38 tkK tkE
  rw [z_st_s, g6]
  generalize z_si μ1 2 5 (nI q) = μ2 at *
  rw [s6, s1]
  by_cases z : N ≤ q
  · rw [if_neg (nI_nlt z (by omega)), z_st_s, if_pos z, if_pos z]
    refine ⟨_, rfl, F2.si ⟨rfl, Or.inl rfl⟩ _, ?_, ?_, ?_⟩
    · rw [p_si_nk (by decide)]
      exact s5
    · rw [p_si_at]
      rfl
    · rw [p_si_nk (by decide)]
      exact s6
  · have e3 : μ2.1 3 q = t q := (h.of F2).2.2 q (by omega)
    rw [if_pos (nI_lt (by omega) (by omega)), p_g (show q < 240 by omega) (by decide), nI_clamp (by omega), e3, p_let, z_b2_s, s6, p_g (show q < 240 by omega) (by decide), nI_clamp (by omega), e3, p_fig, z_b2_s, if_neg z, if_neg z]
    have tl : ∀ x : Int32, tx (z_si μ2 2 4 x) t N := fun x => h.of (F2.si ⟨rfl, Or.inl rfl⟩ _)
    have t6 : ∀ x : Int32, (z_si μ2 2 4 x).1 2 6 = nI q := fun x => by rw [p_si_nk (by decide)]; exact s6
    have t5 : ∀ x : Int32, (z_si μ2 2 4 x).1 2 5 = nI q := fun x => by rw [p_si_nk (by decide)]; exact s5
    by_cases zl : cLe (t q) = true
    · rw [if_pos zl, if_neg (show ¬ (1 : Int32) = 0 by decide), z_st_s, if_pos zl, if_pos zl]
      obtain ⟨μ3, F3, g3, e4⟩ := p_nt85 (tl 1) (N - q) q z_N (z_si μ2 2 4 1) (by omega) (by omega) (gF.rf _ _) (t6 1)
      refine ⟨μ3, e4, (F2.si ⟨rfl, Or.inl rfl⟩ _).tr (F3.mono W6_456), ?_, ?_, g3⟩
      · rw [F3.1 2 5 (by unfold W6; omega)]
        exact t5 1
      · rw [F3.1 2 4 (by unfold W6; omega), p_si_at]
        rfl
    · rw [if_neg zl, if_pos rfl, if_neg zl, if_neg zl]
      by_cases zf : cFi (t q) = true
      · rw [if_pos zf, if_neg (show ¬ (1 : Int32) = 0 by decide), z_st_s, if_pos zf, if_pos zf]
        obtain ⟨μ3, F3, g3, e4⟩ := p_nt144 (tl 2) (N - q) q z_N (z_si μ2 2 4 2) (by omega) (by omega) (gF.rf _ _) (t6 2)
        refine ⟨μ3, e4, (F2.si ⟨rfl, Or.inl rfl⟩ _).tr (F3.mono W6_456), ?_, ?_, g3⟩
        · rw [F3.1 2 5 (by unfold W6; omega)]
          exact t5 2
        · rw [F3.1 2 4 (by unfold W6; omega), p_si_at]
          rfl
      · rw [if_neg zf, if_pos rfl, z_st_s, z_st_s, if_neg zf, if_neg zf, t6 3, nI_1]
        refine ⟨_, rfl, (F2.si ⟨rfl, Or.inl rfl⟩ _).si ⟨rfl, Or.inr (Or.inr rfl)⟩ _, ?_, ?_, p_si_at _ _ _ _⟩
        · rw [p_si_nk (by decide)]
          exact t5 3
        · rw [p_si_nk (by decide), p_si_at]
          rfl
end
