/-! PURE: bounds, the small tests of both sides, reading behind writing -/
abbrev p_in (x : Int32) (a b : Int) : Prop := a ≤ x.toInt ∧ x.toInt ≤ b
def p_b (c : Prop) [Decidable c] : Int32 := if c then 1 else 0
theorem p_b_01 (c : Prop) [Decidable c] : p_b c = 0 ∨ p_b c = 1 := by
  unfold p_b
  split
  · exact Or.inr rfl
  · exact Or.inl rfl
theorem p_b_0 {c : Prop} [Decidable c] : p_b c = 0 ↔ ¬ c := by
  unfold p_b
  by_cases h : c <;> simp [h]
theorem p_b_1 {c : Prop} [Decidable c] : p_b c = 1 ↔ c := by
  unfold p_b
  by_cases h : c <;> simp [h]
theorem z_b2_s {α β : Type} (b : β) (m : z_M) (f : β → z_M → Option α) : z_b2 (some (b, m)) f = f b m := rfl
theorem z_b1_s {α : Type} (m : z_M) (f : z_M → Option α) : z_b1 (some m) f = f m := rfl
theorem p_rngL (x K : Int32) : (if x < 0 then (0 : Int32) else (if K ≤ x then (0 : Int32) else (1 : Int32))) = p_b (p_in x 0 (K.toInt - 1)) := by
  have h0 : (0 : Int32).toInt = 0 := by decide
  unfold p_b p_in
  simp only [Int32.lt_iff_toInt_lt, Int32.le_iff_toInt_le, h0]
  by_cases h1 : x.toInt < 0
  · rw [if_pos h1, if_neg (by omega)]
  · rw [if_neg h1]
    by_cases h2 : K.toInt ≤ x.toInt
    · rw [if_pos h2, if_neg (by omega)]
    · rw [if_neg h2, if_pos (by omega)]
theorem p_rngT (x K : Int32) : (if x < 0 then (0 : Int32) else (if K < x then (0 : Int32) else (1 : Int32))) = p_b (p_in x 0 K.toInt) := by
  have h0 : (0 : Int32).toInt = 0 := by decide
  unfold p_b p_in
  simp only [Int32.lt_iff_toInt_lt, h0]
  by_cases h1 : x.toInt < 0
  · rw [if_pos h1, if_neg (by omega)]
  · rw [if_neg h1]
    by_cases h2 : K.toInt < x.toInt
    · rw [if_pos h2, if_neg (by omega)]
    · rw [if_neg h2, if_pos (by omega)]
theorem p_isLand4 (x : Int32) (μ : z_M) : f_X4_isLand x μ = some (p_b (p_in x 0 3), μ) := by unfold f_X4_isLand; rw [p_rngL]; rfl
theorem p_isKind4 (x : Int32) (μ : z_M) : f_X4_isKind x μ = some (p_b (p_in x 0 7), μ) := by unfold f_X4_isKind; rw [p_rngL]; rfl
theorem p_isDay4 (x : Int32) (μ : z_M) : f_X4_isDay x μ = some (p_b (p_in x 0 999), μ) := by unfold f_X4_isDay; rw [p_rngT]; rfl
theorem p_isHolder4 (x : Int32) (μ : z_M) : f_X4_isHolder x μ = some (p_b (p_in x 0 5), μ) := by unfold f_X4_isHolder; rw [p_rngL]; rfl
theorem p_isFund4 (x : Int32) (μ : z_M) : f_X4_isFund x μ = some (p_b (p_in x 0 4), μ) := by unfold f_X4_isFund; rw [p_rngL]; rfl
theorem p_isCargo4 (x : Int32) (μ : z_M) : f_X4_isCargo x μ = some (p_b (p_in x 0 2), μ) := by unfold f_X4_isCargo; rw [p_rngL]; rfl
theorem p_isWay4 (x : Int32) (μ : z_M) : f_X4_isWay x μ = some (p_b (p_in x 0 1), μ) := by unfold f_X4_isWay; rw [p_rngL]; rfl
theorem p_isImage4 (x : Int32) (μ : z_M) : f_X4_isImage x μ = some (p_b (p_in x 0 1), μ) := by unfold f_X4_isImage; rw [p_rngL]; rfl
theorem p_isClaim4 (x : Int32) (μ : z_M) : f_X4_isClaim x μ = some (p_b (p_in x 0 ((μ.1 4 1).toInt - 1)), μ) := by unfold f_X4_isClaim; rw [p_rngL]
theorem p_lg_lt (a b : Int64) : lg_cmp a b < 0 ↔ a.toInt < b.toInt := by
  unfold lg_cmp
  simp only [gt_iff_lt, Int64.lt_iff_toInt_lt, ← Int64.toInt_inj]
  by_cases h1 : b.toInt < a.toInt
  · rw [if_pos h1]
    exact ⟨fun h => absurd h (by decide), fun h => by omega⟩
  · rw [if_neg h1]
    by_cases h2 : a.toInt = b.toInt
    · rw [if_pos h2]
      exact ⟨fun h => absurd h (by decide), fun h => by omega⟩
    · rw [if_neg h2]
      exact ⟨fun _ => by omega, fun _ => by decide⟩
theorem p_lg_gt (a b : Int64) : 0 < lg_cmp a b ↔ b.toInt < a.toInt := by
  unfold lg_cmp
  simp only [gt_iff_lt, Int64.lt_iff_toInt_lt, ← Int64.toInt_inj]
  by_cases h1 : b.toInt < a.toInt
  · rw [if_pos h1]
    exact ⟨fun _ => h1, fun _ => by decide⟩
  · rw [if_neg h1]
    by_cases h2 : a.toInt = b.toInt
    · rw [if_pos h2]
      exact ⟨fun h => absurd h (by decide), fun h => by omega⟩
    · rw [if_neg h2]
      exact ⟨fun h => absurd h (by decide), fun h => by omega⟩
theorem p_in5 (x : Int32) (a b : Int64) (μ : z_M) : f_X5_in x.toInt64 a b μ = some (p_b (p_in x a.toInt b.toInt), μ) := by
  unfold f_X5_in p_b p_in
  simp only [p_lg_lt, p_lg_gt, Int32.toInt_toInt64]
  by_cases h1 : x.toInt < a.toInt
  · rw [if_pos h1, if_neg (by omega)]
  · rw [if_neg h1]
    by_cases h2 : b.toInt < x.toInt
    · rw [if_pos h2, if_neg (by omega)]
    · rw [if_neg h2, if_pos (by omega)]
theorem p_z01 {α : Type} (c : Prop) [Decidable c] (a : Option α) : (if p_b c = 0 ∨ p_b c = 1 then a else none) = a := if_pos (p_b_01 c)
theorem p_isLand5 (x : Int32) (μ : z_M) : f_X5_isLand x μ = some (p_b (p_in x 0 3), μ) := by unfold f_X5_isLand; rw [p_in5, z_b2_s, p_z01]; rfl
theorem p_isKind5 (x : Int32) (μ : z_M) : f_X5_isKind x μ = some (p_b (p_in x 0 7), μ) := by unfold f_X5_isKind; rw [p_in5, z_b2_s, p_z01]; rfl
theorem p_isDay5 (x : Int32) (μ : z_M) : f_X5_isDay x μ = some (p_b (p_in x 0 999), μ) := by unfold f_X5_isDay; rw [p_in5, z_b2_s, p_z01]; rfl
theorem p_isHolder5 (x : Int32) (μ : z_M) : f_X5_isHolder x μ = some (p_b (p_in x 0 5), μ) := by unfold f_X5_isHolder; rw [p_in5, z_b2_s, p_z01]; rfl
theorem p_isFund5 (x : Int32) (μ : z_M) : f_X5_isFund x μ = some (p_b (p_in x 0 4), μ) := by unfold f_X5_isFund; rw [p_in5, z_b2_s, p_z01]; rfl
theorem p_isCargo5 (x : Int32) (μ : z_M) : f_X5_isCargo x μ = some (p_b (p_in x 0 2), μ) := by unfold f_X5_isCargo; rw [p_in5, z_b2_s, p_z01]; rfl
theorem p_isImage5 (x : Int32) (μ : z_M) : f_X5_isImage x μ = some (p_b (p_in x 0 1), μ) := by unfold f_X5_isImage; rw [p_in5, z_b2_s, p_z01]; rfl
theorem p_isClaim5 (x : Int32) (μ : z_M) : f_X5_isClaim x μ = some (p_b (p_in x 0 (μ.1 98 27 - 1).toInt), μ) := by unfold f_X5_isClaim; rw [p_in5, z_b2_s, p_z01, Int32.toInt_toInt64]; rfl
theorem p_isGood5 (d w : Int32) (μ : z_M) : f_X5_isGood d w μ = some (p_b (p_in d 0 999 ∧ p_in w 0 1), μ) := by
  unfold f_X5_isGood
  rw [p_isDay5, z_b2_s]
  by_cases h1 : p_in d 0 999
  · rw [if_neg (fun h => (p_b_0.mp h) h1), p_in5, z_b2_s]
    by_cases h2 : p_in w (0 : Int64).toInt (1 : Int64).toInt
    · rw [if_neg (fun h => (p_b_0.mp h) h2), p_b_1.mpr ⟨h1, h2⟩]
    · rw [if_pos (p_b_0.mpr h2), p_b_0.mpr (fun h => h2 h.2)]
  · rw [if_pos (p_b_0.mpr h1), p_b_0.mpr (fun h => h1 h.1)]
/-! reading behind writing -/
theorem p_si (μ : z_M) (i k a b : Nat) (x : Int32) : (z_si μ i k x).1 a b = if a = i ∧ b = k then x else μ.1 a b := by
  by_cases h1 : a = i
  · subst h1
    by_cases h2 : b = k <;> simp [z_si, upd, h2]
  · simp [z_si, h1]
theorem p_si_ne {μ : z_M} {i k a : Nat} {x : Int32} (h : a ≠ i) : (z_si μ i k x).1 a = μ.1 a := if_neg h
theorem p_si_2 (μ : z_M) (i k : Nat) (x : Int32) : (z_si μ i k x).2 = μ.2 := rfl
theorem p_zin {n : Nat} {x : Int32} (hn : n < 2 ^ 31) : z_in x n ↔ p_in x 0 ((n : Int) - 1) := by
  have h := vp_in_iff (x := x) (n := n)
  unfold p_in
  constructor
  · intro q
    have := h.mp q
    omega
  · intro q
    exact h.mpr (by omega)
theorem p_cl {x : Int32} {b : Int} (h : p_in x 0 b) : x = nI x.toNatClampNeg ∧ (x.toNatClampNeg : Int) = x.toInt := by
  have h0 : ¬ x < 0 := by
    intro q
    have := Int32.lt_iff_toInt_lt.mp q
    have h1 : (0 : Int32).toInt = 0 := by decide
    omega
  obtain ⟨j, hj, e⟩ := nI_of h0
  rw [e, nI_clamp hj, nI_toInt hj]
  exact ⟨rfl, rfl⟩
