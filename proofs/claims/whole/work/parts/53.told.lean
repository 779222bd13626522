/-! PURE: voyage of a claim; told -/
def a_voyF (b : Nat → Int32) (d : Int32) : Nat → Int32
  | 0 => -1
  | n + 1 => if d < b n then a_voyF b d n else nI n
/-- the voyage of claim j -/
def a_voy (s : a_S) (j : Nat) : Int32 := a_voyF (s.2.2 1) (s.2.2 5 j) s.1
theorem p_voy4L {μ : z_M} {o : Nat} {s : a_S} (hw : w_ship s) (hs : c_ship μ o s) {c : Int32} {j : Nat} (ec : c.toNatClampNeg = j) (hj : j < s.2.1) (hz : z_in c 14) : ∀ (n i : Nat), i ≤ s.1 → s.1 < i + n → g_X3_voyageOf_4 o n c (a_voyF (s.2.2 1) (s.2.2 5 j) i) (nI i) μ = some (a_voy s j, μ) := by
  have h6 : s.1 ≤ 6 := hw.1
  intro n
  induction n with
  | zero => intro i h1 h2; omega
  | succ n ih =>
    intro i h1 h2
    rw [g_X3_voyageOf_4, hs.1]
    by_cases hi : i = s.1
    · rw [if_pos (nI_le (by omega) (by omega)), hi]
      rfl
    · have hlt : i < s.1 := by omega
      rw [if_neg (nI_ge hlt (by omega)), if_pos ((p_zin (by decide)).mpr ⟨by rw [nI_toInt (by omega)]; omega, by rw [nI_toInt (by omega)]; omega⟩), if_pos hz, ec, nI_clamp (by omega), (hs.2.2.2.1 j hj).2.2.1, (hs.2.2.1 i hlt).1]
      by_cases hd : s.2.2 5 j < s.2.2 1 i
      · rw [if_pos hd, nI_1]
        have e : a_voyF (s.2.2 1) (s.2.2 5 j) (i + 1) = a_voyF (s.2.2 1) (s.2.2 5 j) i := if_pos hd
        rw [← e]
        exact ih (i + 1) hlt (by omega)
      · rw [if_neg hd, nI_1]
        have e : a_voyF (s.2.2 1) (s.2.2 5 j) (i + 1) = nI i := if_neg hd
        rw [← e]
        exact ih (i + 1) hlt (by omega)
theorem p_voy4 {μ : z_M} {o : Nat} {s : a_S} (hw : w_ship s) (hs : c_ship μ o s) {c : Int32} {j : Nat} (ec : c.toNatClampNeg = j) (hj : j < s.2.1) (hz : z_in c 14) : f_X3_voyageOf o c μ = some (a_voy s j, μ) := by
  have h6 : s.1 ≤ 6 := hw.1
  have hN : z_N = 5000 := rfl
  exact p_voy4L hw hs ec hj hz z_N 0 (Nat.zero_le _) (by omega)
theorem p_voy5L {μ : z_M} {s : a_S} (hw : w_ship s) (hs : m_ship μ s) {c : Int32} {j : Nat} (ec : c.toNatClampNeg = j) (hj : j < s.2.1) (hz : z_in c 15) : ∀ (n i : Nat), i ≤ s.1 → s.1 < i + n → g_X5_voyageOf_4 n c (a_voyF (s.2.2 1) (s.2.2 5 j) i) (nI i) μ = some (a_voy s j, μ) := by
  have h6 : s.1 ≤ 6 := hw.1
  intro n
  induction n with
  | zero => intro i h1 h2; omega
  | succ n ih =>
    intro i h1 h2
    rw [g_X5_voyageOf_4, hs.1]
    by_cases hi : i = s.1
    · rw [if_pos (nI_le (by omega) (by omega)), hi]
      rfl
    · have hlt : i < s.1 := by omega
      rw [if_neg (nI_ge hlt (by omega)), if_pos ((p_zin (by decide)).mpr ⟨by rw [nI_toInt (by omega)]; omega, by rw [nI_toInt (by omega)]; omega⟩), if_pos hz, ec, nI_clamp (by omega), (hs.2.2.2.1 j hj).2.2.1, (hs.2.2.1 i hlt).1, nI_1]
      exact ih (i + 1) hlt (by omega)
theorem p_voy5 {μ : z_M} {s : a_S} (hw : w_ship s) (hs : m_ship μ s) {c : Int32} {j : Nat} (ec : c.toNatClampNeg = j) (hj : j < s.2.1) (hz : z_in c 15) : f_X5_voyageOf c μ = some (a_voy s j, μ) := by
  have h6 : s.1 ≤ 6 := hw.1
  have hN : z_N = 5000 := rfl
  exact p_voy5L hw hs ec hj hz z_N 0 (Nat.zero_le _) (by omega)
theorem s_12 : zs_12 Inv0 := by
  rintro μ ⟨A, hw, hC, hM⟩ c x
  by_cases h1 : p_in c 0 ((A.1.2.1 : Int) - 1)
  · obtain ⟨ec, hj, hj14, hz4, hz5⟩ := p_claim hw h1
    have q4 := hC.1.2.2.2.1 _ hj
    have v4 := p_voy4 hw.1 hC.1 rfl hj hz4
    have eb : (μ.1 4 2 >>> (c &&& 31)) &&& 1 = A.1.2.2 7 c.toNatClampNeg := by
      have := q4.2.2.2.2.1
      unfold p_bit at this
      rw [← ec] at this
      exact this
    have w7 := (hw.1.2.2.2.1 _ hj).2.2.2.2.1
    refine p_look hw hC hM (r := if x = 0 then A.1.2.2 3 c.toNatClampNeg else if x = 1 then A.1.2.2 4 c.toNatClampNeg else if x = 2 then A.1.2.2 5 c.toNatClampNeg else if x = 3 then A.1.2.2 6 c.toNatClampNeg else if x = 4 then A.1.2.2 7 c.toNatClampNeg else if x = 5 then A.1.2.2 8 c.toNatClampNeg else if x = 6 then A.1.2.2 9 c.toNatClampNeg else if x = 7 then a_voy A.1 c.toNatClampNeg else -1002) ?_ (fun ν hν => ?_)
    · unfold f_X4_told
      rw [p_isClaimC hw hC, z_b2_s, if_neg (fun h => p_b_0.mp h h1)]
      simp only [if_pos hz4, q4.1, q4.2.1, q4.2.2.1, q4.2.2.2.1, q4.2.2.2.2.2.1, q4.2.2.2.2.2.2, v4, z_b2_s, f_X4_bit, eb]
      repeat' split
      all_goals rfl
    · have q5 := hν.1.2.2.2.1 _ hj
      have v5 := p_voy5 hw.1 hν.1 rfl hj hz5
      have e7 : (if A.1.2.2 7 c.toNatClampNeg = 0 then (0 : Int32) else 1) = A.1.2.2 7 c.toNatClampNeg := by
        rcases w7 with h | h <;> rw [h] <;> rfl
      unfold f_X5_told
      rw [p_isClaimM hw hν, z_b2_s, if_neg (fun h => p_b_0.mp h h1)]
      simp only [if_pos hz5, q5.1, q5.2.1, q5.2.2.1, q5.2.2.2.1, q5.2.2.2.2.1, q5.2.2.2.2.2.1, q5.2.2.2.2.2.2, v5, z_b2_s, e7]
      repeat' split
      all_goals rfl
  · refine p_look hw hC hM (r := -1001) ?_ (fun ν hν => ?_)
    · unfold f_X4_told
      rw [p_isClaimC hw hC, z_b2_s, if_pos (p_b_0.mpr h1)]
    · unfold f_X5_told
      rw [p_isClaimM hw hν, z_b2_s, if_pos (p_b_0.mpr h1)]
