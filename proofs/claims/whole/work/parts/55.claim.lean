/-! PURE: claim -/
def a_cl (t : a_T) (n : Nat) (x1 x2 x3 x4 x5 x6 : Int32) : a_T := fun f k => if k = n then (if f = 3 then x1 else if f = 4 then x2 else if f = 5 then x3 else if f = 6 then x4 else if f = 7 then x5 else if f = 8 then x6 else if f = 9 then -1 else t f k) else t f k
def z_addC (μ : z_M) (o n : Nat) (x1 x2 x3 x4 x5 x6 : Int32) : z_M := z_si (z_si (z_si (z_si (z_si (z_si (z_si (z_si μ (o + 3) n x1) (o + 4) n x2) (o + 5) n x3) (o + 6) n x4) o 2 (if x5 = 0 then (μ.1 o 2 &&& (((1 : Int32) <<< (nI n &&& 31)) ^^^ (-1))) else (μ.1 o 2 ||| ((1 : Int32) <<< (nI n &&& 31))))) (o + 7) n x6) (o + 8) n (-1)) o 1 (nI (n + 1))
theorem c_ship_cl {μ : z_M} {o : Nat} {s : a_S} (hw : w_ship s) (x1 x2 x3 x4 x5 x6 : Int32) (h5 : x5 = 0 ∨ x5 = 1) (hn : s.2.1 < 14) (h : c_ship μ o s) : c_ship (z_addC μ o s.2.1 x1 x2 x3 x4 x5 x6) o (s.1, s.2.1 + 1, a_cl s.2.2 s.2.1 x1 x2 x3 x4 x5 x6) := by
  obtain ⟨h1, h2, h3, h4, h5', h6⟩ := h
  have e2 : (z_addC μ o s.2.1 x1 x2 x3 x4 x5 x6).1 o 2 = (if x5 = 0 then (μ.1 o 2 &&& (((1 : Int32) <<< (nI s.2.1 &&& 31)) ^^^ (-1))) else (μ.1 o 2 ||| ((1 : Int32) <<< (nI s.2.1 &&& 31)))) := by
    unfold z_addC
    rw [p_si_nk (by decide), p_si_ne (by omega), p_si_ne (by omega), p_si_at]
  have hb : ∀ k, k < 14 → p_bit ((z_addC μ o s.2.1 x1 x2 x3 x4 x5 x6).1 o 2) k = if k = s.2.1 then x5 else p_bit (μ.1 o 2) k := by
    intro k hk
    rw [e2]
    rcases h5 with rfl | rfl
    · rw [if_pos rfl, p_bit_clr _ (by omega) (by omega)]
    · rw [if_neg (by decide), p_bit_or _ (by omega) (by omega)]
  have hv : s.1 ≤ 6 := hw.1
  refine ⟨by simpa [z_addC, p_si] using h1, by simp [z_addC, p_si], fun k hk => ?_, fun k hk => ?_, fun k hk => ?_, fun k hk => ?_⟩
  · have q := h3 k hk
    by_cases e : k = s.2.1
    · simpa [z_addC, p_si, a_cl, e] using (e ▸ q)
    · simpa [z_addC, p_si, a_cl, e] using q
  · have hk : k < s.2.1 + 1 := hk
    rw [hb k (by omega)]
    by_cases e : k = s.2.1
    · simp [z_addC, p_si, a_cl, e]
    · have q := h4 k (by omega)
      simpa [z_addC, p_si, a_cl, e] using q
  · have q := h5' k hk
    by_cases e : k = s.2.1
    · simpa [z_addC, p_si, a_cl, e] using (e ▸ q)
    · simpa [z_addC, p_si, a_cl, e] using q
  · have q := h6 k hk
    by_cases e : k = s.2.1
    · simpa [z_addC, p_si, a_cl, e] using (e ▸ q)
    · simpa [z_addC, p_si, a_cl, e] using q
theorem p_addC4 {μ : z_M} {o : Nat} {s : a_S} (hw : w_ship s) (hs : c_ship μ o s) (x1 x2 x3 x4 x5 x6 : Int32) : f_X3_addClaim o x1 x2 x3 x4 x5 x6 μ = if s.2.1 < 14 then some (nI s.2.1, z_addC μ o s.2.1 x1 x2 x3 x4 x5 x6) else some (-1004, μ) := by
  have h14 : s.2.1 ≤ 14 := hw.2.1
  unfold f_X3_addClaim
  rw [hs.2.1]
  by_cases h : s.2.1 < 14
  · have hz : z_in (nI s.2.1) 14 := p_zn h (by decide)
    have hlt : nI s.2.1 < 14 := nI_lt (a := s.2.1) (b := 14) h (by decide)
    have hc : (nI s.2.1).toNatClampNeg = s.2.1 := nI_clamp (by omega)
    have e0 : μ.1 o 1 = nI s.2.1 := hs.2.1
    rw [if_pos hlt, if_pos hz, if_pos h]
    simp only [z_st, hc, p_si, Nat.left_eq_add, OfNat.ofNat_ne_zero, false_and, if_false, e0, if_pos hz, true_and, show (1 : Nat) = 2 ↔ False by decide]
    simp only [z_addC, nI_1, nI_m1, if_true]
    simp [p_si, e0, nI_1, nI_m1]
  · have hlt : ¬ nI s.2.1 < 14 := nI_nlt (a := s.2.1) (b := 14) (by omega) (by omega)
    rw [if_neg hlt, if_neg h]
