/-! PURE: the reference's reading -/
def hF (W : Nat → Nat → Prop) (μ μ' : z_M) : Prop := (∀ a k, ¬ W a k → μ'.1 a k = μ.1 a k) ∧ μ'.2.2 = μ.2.2
theorem hF.rf (W : Nat → Nat → Prop) (μ : z_M) : hF W μ μ := ⟨fun _ _ _ => rfl, rfl⟩
theorem hF.tr {W : Nat → Nat → Prop} {a b c : z_M} (h : hF W a b) (g : hF W b c) : hF W a c := ⟨fun i k q => (g.1 i k q).trans (h.1 i k q), g.2.trans h.2⟩
theorem hF.si {W : Nat → Nat → Prop} {μ μ' : z_M} (h : hF W μ μ') {a k : Nat} (hW : W a k) (x : Int32) : hF W μ (z_si μ' a k x) := by
  refine ⟨fun b j q => ?_, h.2⟩
  rw [p_si, if_neg (fun z => q (by rw [z.1, z.2]; exact hW))]
  exact h.1 b j q
theorem hF.sl {W : Nat → Nat → Prop} {μ μ' : z_M} (h : hF W μ μ') (a k : Nat) (x : Int64) : hF W μ (z_sl μ' a k x) := ⟨h.1, h.2⟩
theorem hF.mono {W V : Nat → Nat → Prop} {μ μ' : z_M} (h : hF W μ μ') (hV : ∀ a k, W a k → V a k) : hF V μ μ' := ⟨fun a k q => h.1 a k (fun w => q (hV a k w)), h.2⟩
/-- the reference's text -/
def my (ν : z_M) (t : Nat → Int32) (N : Nat) : Prop := N ≤ 240 ∧ ν.1 98 13 = nI N ∧ ∀ k, k < N → ν.1 111 k = t k
/-- the reference's places -/
def W15 : Nat → Nat → Prop := fun a k => a = 98 ∧ (k = 15 ∨ k = 17 ∨ k = 18)
theorem my.of {ν ν' : z_M} {t : Nat → Int32} {N : Nat} (h : my ν t N) (hF : hF W15 ν ν') : my ν' t N := by
  refine ⟨h.1, ?_, fun k hk => ?_⟩
  · rw [hF.1 98 13 (by unfold W15; omega)]
    exact h.2.1
  · rw [hF.1 111 k (by unfold W15; omega)]
    exact h.2.2 k hk
/-- the byte at q, or no byte -/
def hV (t : Nat → Int32) (N q : Nat) : Int32 := if N ≤ q then -1 else t q
section
variable {t : Nat → Int32} {N : Nat} {ν : z_M}
theorem p_he0 (h : my ν t N) : ∀ d p fu ν1, p + d = N → d < fu → hF W15 ν ν1 → ν1.1 98 15 = nI p → ν1.2 = ν.2 → ∃ ν', g_X5_here_0 fu ν1 = some (hV t N (xR1 cSp t N p), ν') ∧ hF W15 ν ν' ∧ ν'.1 98 15 = nI (xR1 cSp t N p) ∧ ν'.2 = ν.2 := by
  intro d
  induction d with
  | zero =>
    intro p fu ν1 hp hf hF h6 h2
    obtain ⟨fu, rfl⟩ : ∃ q, fu = q + 1 := ⟨fu - 1, by omega⟩
    have e13 := (h.of hF).2.1
    have hN := h.1
    rw [xR1_ge (by omega)]
    refine ⟨ν1, ?_, hF, h6, h2⟩
    unfold hV
    rw [g_X5_here_0]
    unfold g_X5_here_38
    rw [e13, h6, if_pos (nI_le (by omega) (by omega)), if_pos (fun z => absurd (nI_le (by omega) (by omega)) z), if_pos (nI_le (by omega) (by omega)), if_pos (by omega)]
  | succ d ih =>
    intro p fu ν1 hp hf hF h6 h2
    obtain ⟨fu, rfl⟩ : ∃ q, fu = q + 1 := ⟨fu - 1, by omega⟩
    have e13 := (h.of hF).2.1
    have hN := h.1
    have e3 := (h.of hF).2.2 p (by omega)
    have U : g_X5_here_0 (fu + 1) ν1 = if t p = 32 then g_X5_here_0 fu (z_si ν1 98 15 (nI (p + 1))) else g_X5_here_38 ν1 := by
      rw [g_X5_here_0]
      rw [e13, h6, if_neg (nI_ge (by omega) (by omega)), p_g (show p < 240 by omega) (by decide), z_st_s, nI_1]
      simp only [nI_clamp (show p < 2 ^ 31 by omega), e3]
    rw [U, xR1_lt (show p < N by omega)]
    by_cases q : t p = 32
    · rw [if_pos q, if_pos (show cSp (t p) = true from decide_eq_true q)]
      exact ih (p + 1) fu _ (by omega) (by omega) (hF.si ⟨rfl, Or.inl rfl⟩ _) (p_si_at _ _ _ _) h2
    · rw [if_neg q, if_neg (show ¬ cSp (t p) = true from fun z => q (of_decide_eq_true z))]
      refine ⟨ν1, ?_, hF, h6, h2⟩
      unfold hV g_X5_here_38
      rw [e13, h6, if_pos (fun _ => p_zn (show p < 240 by omega) (by decide)), if_neg (nI_ge (by omega) (by omega)), if_neg (by omega), nI_clamp (by omega), e3]
theorem p_here (h : my ν t N) {p : Nat} (hp : p ≤ N) (h6 : ν.1 98 15 = nI p) : ∃ ν', f_X5_here ν = some (hV t N (xR1 cSp t N p), ν') ∧ hF W15 ν ν' ∧ ν'.1 98 15 = nI (xR1 cSp t N p) ∧ ν'.2 = ν.2 := by
  have hN : z_N = 5000 := rfl
  have := h.1
  unfold f_X5_here
  exact p_he0 h (N - p) p z_N ν (by omega) (by omega) (hF.rf _ ν) h6 rfl
theorem sv_b (ht : ∀ i, i < N → p_in (t i) 0 255) (q : Nat) : ∀ k, q + k ≤ N → sv t q k ≤ 27000000001000
  | 0, _ => by rw [sv]; omega
  | k + 1, h => by
    have h1 := ht (q + k) (by omega)
    have h2 := (p_cl h1).2
    have h3 := h1.2
    rw [sv]
    split <;> omega
theorem p_rw18 (h : my ν t N) (ht : ∀ i, i < N → p_in (t i) 0 255) {q : Nat} (hq : q ≤ N) : ∀ d k fu ν1, q + k + d = N → d < fu → hF W15 ν ν1 → ν1.1 98 15 = nI q → ν1.1 98 17 = nI (q + k) → ν1.2.1 98 16 = lN (sv t q k) → xR1 cLe t N q = xR1 cLe t N (q + k) → ∃ ν', g_X5_readWord_18 fu ν1 = some ν' ∧ hF W15 ν ν' ∧ ν'.1 98 15 = nI q ∧ ν'.1 98 17 = nI (xR1 cLe t N q) ∧ ν'.2.1 98 16 = lN (sv t q (xR1 cLe t N q - q)) := by
  intro d
  induction d with
  | zero =>
    intro k fu ν1 hp hf hF h5 h7 hw hx
    obtain ⟨fu, rfl⟩ : ∃ q, fu = q + 1 := ⟨fu - 1, by omega⟩
    have e13 := (h.of hF).2.1
    have hN := h.1
    rw [hx, xR1_ge (by omega), show q + k - q = k by omega]
    refine ⟨ν1, ?_, hF, h5, h7, hw⟩
    rw [g_X5_readWord_18]
    rw [e13, h7, if_pos (nI_le (by omega) (by omega))]
  | succ d ih =>
    intro k fu ν1 hp hf hF h5 h7 hw hx
    obtain ⟨fu, rfl⟩ : ∃ q, fu = q + 1 := ⟨fu - 1, by omega⟩
    have e13 := (h.of hF).2.1
    have hN := h.1
    have e3 := (h.of hF).2.2 (q + k) (by omega)
    have hb := sv_b ht q k (by omega)
    have U : g_X5_readWord_18 (fu + 1) ν1 = if cLe (t (q + k)) = true then g_X5_readWord_18 fu (z_si (z_sl ν1 98 16 (lN (sv t q (k + 1)))) 98 17 (nI (q + k + 1))) else some ν1 := by
      rw [g_X5_readWord_18]
      rw [e13, h7, if_neg (nI_ge (by omega) (by omega)), p_g (show q + k < 240 by omega) (by decide), nI_clamp (by omega), e3, p_in5, z_b2_s]
      by_cases z : p_in (t (q + k)) 97 122
      · have z1 : cLe (t (q + k)) = true := decide_eq_true z
        have z2 := p_cl (x := t (q + k)) (b := 122) ⟨by have := z.1; omega, z.2⟩
        have z3 := z.1
        have e5 : (if lg_cmp (ν1.2.1 98 16) 1000000000000 ≤ 0 then 27 * ν1.2.1 98 16 + (t (q + k)).toInt64 - 96 else (2000000000000 : Int64)) = lN (sv t q (k + 1)) := by
          rw [hw, sv]
          have e6 := lgL (v := sv t q k) (c := 1000000000000) (by omega) (by decide)
          by_cases y : sv t q k ≤ 1000000000000
          · rw [if_pos y, if_pos (show lg_cmp (lN (sv t q k)) 1000000000000 ≤ 0 from e6.mpr y)]
            have e7 : (t (q + k)).toInt64 = lN (t (q + k)).toNatClampNeg := by
              have := nI_l (n := (t (q + k)).toNatClampNeg) (by have := z.2; omega)
              rwa [← z2.1] at this
            rw [e7, show (27 : Int64) = lN 27 from rfl, show (96 : Int64) = lN 96 from rfl, lN_mul, lN_add, lN_sub (by omega)]
            congr 1
            omega
          · rw [if_neg y, if_neg (show ¬ lg_cmp (lN (sv t q k)) 1000000000000 ≤ 0 from fun w => y (e6.mp w))]
            rfl
        rw [if_pos z1, if_neg (show ¬ p_b (p_in (t (q + k)) (Int64.toInt 97) (Int64.toInt 122)) = 0 from fun w => p_b_0.mp w z), if_pos (show lg_cmp (ν1.2.1 98 16) 1000000000000 ≤ 0 → z_in (ν1.1 98 17) 240 from fun _ => by rw [h7]; exact p_zn (show q + k < 240 by omega) (by decide)), z_st_s, z_st_s, h7, nI_clamp (by omega), e3, e5, show (z_sl ν1 98 16 (lN (sv t q (k + 1)))).1 98 17 = nI (q + k) from h7, nI_1]
      · have z1 : ¬ cLe (t (q + k)) = true := fun w => z (of_decide_eq_true w)
        rw [if_neg z1, if_pos (show p_b (p_in (t (q + k)) (Int64.toInt 97) (Int64.toInt 122)) = 0 from p_b_0.mpr z)]
    rw [U]
    have hx2 := xR1_lt (P := cLe) (t := t) (show q + k < N by omega)
    by_cases z : cLe (t (q + k)) = true
    · rw [if_pos z]
      rw [if_pos z] at hx2
      refine ih (k + 1) fu _ (by omega) (by omega) ((hF.sl 98 16 _).si ⟨rfl, Or.inr (Or.inl rfl)⟩ _) ?_ (p_si_at _ _ _ _) ?_ (hx.trans hx2)
      · rw [p_si_nk (by decide)]
        exact h5
      · show (z_sl ν1 98 16 (lN (sv t q (k + 1)))).2.1 98 16 = _
        simp [z_sl, vp_updL]
    · rw [if_neg z]
      rw [if_neg z] at hx2
      rw [hx, hx2, show q + k - q = k by omega]
      exact ⟨ν1, rfl, hF, h5, h7, hw⟩
/-- a word of the reference -/
theorem p_readWord (h : my ν t N) (ht : ∀ i, i < N → p_in (t i) 0 255) {p : Nat} (hp : p ≤ N) (h6 : ν.1 98 15 = nI p) : ∃ ν', f_X5_readWord ν = some ν' ∧ hF W15 ν ν' ∧ ν'.1 98 15 = nI (xR1 cSp t N p) ∧ ν'.1 98 17 = nI (xR1 cLe t N (xR1 cSp t N p)) ∧ ν'.2.1 98 16 = lN (sv t (xR1 cSp t N p) (xR1 cLe t N (xR1 cSp t N p) - xR1 cSp t N p)) := by
  have hN : z_N = 5000 := rfl
  have hN2 := h.1
  obtain ⟨q1, q2, q3, q4⟩ := xR1_in (P := cSp) (t := t) (N := N) (N - p) p (by omega)
  obtain ⟨ν1, e1, F1, g15, g2⟩ := p_here h hp h6
  unfold f_X5_readWord
  rw [e1, z_b2_s, z_st_s, z_st_s, show (z_sl ν1 98 16 0).1 98 15 = nI (xR1 cSp t N p) from g15]
  generalize xR1 cSp t N p = q at *
  obtain ⟨ν2, e2, F2, a1, a2, a3⟩ := p_rw18 (ν := z_si (z_sl ν1 98 16 0) 98 17 (nI q)) (t := t) (N := N) (h.of ((F1.sl 98 16 0).si ⟨rfl, Or.inr (Or.inl rfl)⟩ _)) ht q2 (N - q) 0 z_N (z_si (z_sl ν1 98 16 0) 98 17 (nI q)) (by omega) (by omega) (hF.rf _ _) (by rw [p_si_nk (by decide)]; exact g15) (p_si_at _ _ _ _) (by show (z_sl ν1 98 16 0).2.1 98 16 = _; simp [z_sl, vp_updL]; rfl) rfl
  exact ⟨ν2, e2, ((F1.sl 98 16 0).si ⟨rfl, Or.inr (Or.inl rfl)⟩ _).tr F2, a1, a2, a3⟩
end
