/-! PURE: claim -/
def a_cl (t : a_T) (n : Nat) (x1 x2 x3 x4 x5 x6 : Int32) : a_T := fun f k => if k = n then (if f = 3 then x1 else if f = 4 then x2 else if f = 5 then x3 else if f = 6 then x4 else if f = 7 then x5 else if f = 8 then x6 else if f = 9 then -1 else t f k) else t f k
def z_addC (μ : z_M) (o n : Nat) (x1 x2 x3 x4 x5 x6 : Int32) : z_M := z_si (z_si (z_si (z_si (z_si (z_si (z_si (z_si μ (o + 3) n x1) (o + 4) n x2) (o + 5) n x3) (o + 6) n x4) o 2 (if x5 = 0 then (μ.1 o 2 &&& (((1 : Int32) <<< (nI n &&& 31)) ^^^ (-1))) else (μ.1 o 2 ||| ((1 : Int32) <<< (nI n &&& 31))))) (o + 7) n x6) (o + 8) n (-1)) o 1 (nI (n + 1))
theorem c_ship_cl {μ : z_M} {o : Nat} {s : a_S} (hw : w_ship s) (x1 x2 x3 x4 x5 x6 : Int32) (h5 : x5 = 0 ∨ x5 = 1) (hn : s.2.1 < 14) (h : c_ship μ o s) : c_ship (z_addC μ o s.2.1 x1 x2 x3 x4 x5 x6) o (s.1, s.2.1 + 1, a_cl s.2.2 s.2.1 x1 x2 x3 x4 x5 x6) := by
  obtain ⟨h1, h2, h3, h4, h5', h6⟩ := h
  have e2 : (z_addC μ o s.2.1 x1 x2 x3 x4 x5 x6).1 o 2 = (if x5 = 0 then (μ.1 o 2 &&& (((1 : Int32) <<< (nI s.2.1 &&& 31)) ^^^ (-1))) else (μ.1 o 2 ||| ((1 : Int32) <<< (nI s.2.1 &&& 31)))) := by
    unfold z_addC
    rw [p_si_nk (by decide), p_si_ne (by omega), p_si_ne (by omega), p_si_at]
  have hb : ∀ k, k < 14 → p_bit ((z_addC μ o s.2.1 x1 x2 x3 x4 x5 x6).1 o 2) k = if k = s.2.1 then x5 else p_bit (μ.1 o 2) k := by
    intro k hk
    rw [e2]
    rcases h5 with rfl | rfl
    · rw [if_pos rfl, p_bit_clr _ (by omega) (by omega)]
    · rw [if_neg (by decide), p_bit_or _ (by omega) (by omega)]
  have hv : s.1 ≤ 6 := hw.1
  refine ⟨by simpa [z_addC, p_si] using h1, by simp [z_addC, p_si], fun k hk => ?_, fun k hk => ?_, fun k hk => ?_, fun k hk => ?_⟩
  · have q := h3 k hk
    by_cases e : k = s.2.1
    · simpa [z_addC, p_si, a_cl, e] using (e ▸ q)
    · simpa [z_addC, p_si, a_cl, e] using q
  · have hk : k < s.2.1 + 1 := hk
    rw [hb k (by omega)]
    by_cases e : k = s.2.1
    · simp [z_addC, p_si, a_cl, e]
    · have q := h4 k (by omega)
      simpa [z_addC, p_si, a_cl, e] using q
  · have q := h5' k hk
    by_cases e : k = s.2.1
    · simpa [z_addC, p_si, a_cl, e] using (e ▸ q)
    · simpa [z_addC, p_si, a_cl, e] using q
  · have q := h6 k hk
    by_cases e : k = s.2.1
    · simpa [z_addC, p_si, a_cl, e] using (e ▸ q)
    · simpa [z_addC, p_si, a_cl, e] using q
theorem p_wr {α : Type} {μ : z_M} {a b c n N : Nat} {x : Int32} {f : z_M → Option α} (e : μ.1 a b = nI n) (h : n < N) (hN : N < 2 ^ 31) : (if z_in (μ.1 a b) N then z_st (z_si μ c (μ.1 a b).toNatClampNeg x) f else none) = f (z_si μ c n x) := by
  rw [e, if_pos (p_zn h hN), nI_clamp (by omega)]
  rfl
theorem p_wr1 {α : Type} {μ : z_M} {f : z_M → Option α} : z_st μ f = f μ := rfl
theorem p_addC4 {μ : z_M} {o : Nat} {s : a_S} (hw : w_ship s) (hs : c_ship μ o s) (x1 x2 x3 x4 x5 x6 : Int32) : f_X3_addClaim o x1 x2 x3 x4 x5 x6 μ = if s.2.1 < 14 then some (nI s.2.1, z_addC μ o s.2.1 x1 x2 x3 x4 x5 x6) else some (-1004, μ) := by
  have h14 : s.2.1 ≤ 14 := hw.2.1
  unfold f_X3_addClaim
  have e0 : μ.1 o 1 = nI s.2.1 := hs.2.1
  by_cases h : s.2.1 < 14
  · have hlt : μ.1 o 1 < 14 := by rw [e0]; exact nI_lt (a := s.2.1) (b := 14) h (by decide)
    have e1 : (z_si μ (o + 3) s.2.1 x1).1 o = μ.1 o := p_si_ne (by omega)
    have e2 : (z_si (z_si μ (o + 3) s.2.1 x1) (o + 4) s.2.1 x2).1 o = μ.1 o := by rw [p_si_ne (by omega), e1]
    have e3 : (z_si (z_si (z_si μ (o + 3) s.2.1 x1) (o + 4) s.2.1 x2) (o + 5) s.2.1 x3).1 o = μ.1 o := by rw [p_si_ne (by omega), e2]
    have e4 : (z_si (z_si (z_si (z_si μ (o + 3) s.2.1 x1) (o + 4) s.2.1 x2) (o + 5) s.2.1 x3) (o + 6) s.2.1 x4).1 o = μ.1 o := by rw [p_si_ne (by omega), e3]
    rw [if_pos hlt, if_pos h, p_wr e0 h (by decide), p_wr ((congrFun e1 1).trans e0) h (by decide), p_wr ((congrFun e2 1).trans e0) h (by decide), p_wr ((congrFun e3 1).trans e0) h (by decide), p_wr1, e4, e0]
    rw [p_wr (n := s.2.1) (by rw [p_si_nk (by decide), e4, e0]) h (by decide), p_wr (n := s.2.1) (by rw [p_si_ne (by omega), p_si_nk (by decide), e4, e0]) h (by decide), p_wr1]
    rw [p_si_at, p_si_ne (by omega), p_si_ne (by omega), p_si_nk (by decide), e4, e0, nI_1, nI_m1]
    rfl
  · have hlt : ¬ μ.1 o 1 < 14 := by rw [e0]; exact nI_nlt (a := s.2.1) (b := 14) (by omega) (by omega)
    rw [if_neg hlt, if_neg h]
/-- the model's new claim -/
def z_putC (μ : z_M) (n : Nat) (x1 x2 x3 x4 x5 x6 : Int32) : z_M := z_si (z_si (z_si (z_si (z_si (z_si (z_si (z_si (z_si μ 116 n x1) 117 n x2) 118 n x3) 119 n x4) 120 n (x5 &&& 1)) 121 n x6) 122 n (-1)) 123 n (0 &&& 1)) 98 27 (nI (n + 1))
theorem p_putC {μ : z_M} {n : Nat} (hn : n ≤ 14) (e0 : μ.1 98 27 = nI n) (x1 x2 x3 x4 x5 x6 : Int32) : f_X5_putClaim x1 x2 x3 x4 x5 x6 μ = some (z_putC μ n x1 x2 x3 x4 x5 x6) := by
  have h : n < 15 := by omega
  unfold f_X5_putClaim
  have e1 : (z_si μ 116 n x1).1 98 = μ.1 98 := p_si_ne (by decide)
  have e2 : (z_si (z_si μ 116 n x1) 117 n x2).1 98 = μ.1 98 := by rw [p_si_ne (by decide), e1]
  have e3 : (z_si (z_si (z_si μ 116 n x1) 117 n x2) 118 n x3).1 98 = μ.1 98 := by rw [p_si_ne (by decide), e2]
  have e4 : (z_si (z_si (z_si (z_si μ 116 n x1) 117 n x2) 118 n x3) 119 n x4).1 98 = μ.1 98 := by rw [p_si_ne (by decide), e3]
  have e5 : (z_si (z_si (z_si (z_si (z_si μ 116 n x1) 117 n x2) 118 n x3) 119 n x4) 120 n (x5 &&& 1)).1 98 = μ.1 98 := by rw [p_si_ne (by decide), e4]
  have e6 : (z_si (z_si (z_si (z_si (z_si (z_si μ 116 n x1) 117 n x2) 118 n x3) 119 n x4) 120 n (x5 &&& 1)) 121 n x6).1 98 = μ.1 98 := by rw [p_si_ne (by decide), e5]
  have e7 : (z_si (z_si (z_si (z_si (z_si (z_si (z_si μ 116 n x1) 117 n x2) 118 n x3) 119 n x4) 120 n (x5 &&& 1)) 121 n x6) 122 n (-1)).1 98 = μ.1 98 := by rw [p_si_ne (by decide), e6]
  have e8 : (z_si (z_si (z_si (z_si (z_si (z_si (z_si (z_si μ 116 n x1) 117 n x2) 118 n x3) 119 n x4) 120 n (x5 &&& 1)) 121 n x6) 122 n (-1)) 123 n (0 &&& 1)).1 98 = μ.1 98 := by rw [p_si_ne (by decide), e7]
  rw [p_wr e0 h (by decide), p_wr ((congrFun e1 27).trans e0) h (by decide), p_wr ((congrFun e2 27).trans e0) h (by decide), p_wr ((congrFun e3 27).trans e0) h (by decide), p_wr ((congrFun e4 27).trans e0) h (by decide), p_wr ((congrFun e5 27).trans e0) h (by decide), p_wr ((congrFun e6 27).trans e0) h (by decide), p_wr ((congrFun e7 27).trans e0) h (by decide), p_wr1, e8, e0, nI_1]
  rfl
theorem m_ship_cl {μ : z_M} {s : a_S} (x1 x2 x3 x4 x5 x6 : Int32) (h5 : x5 = 0 ∨ x5 = 1) (h : m_ship μ s) : m_ship (z_putC μ s.2.1 x1 x2 x3 x4 x5 x6) (s.1, s.2.1 + 1, a_cl s.2.2 s.2.1 x1 x2 x3 x4 x5 x6) := by
  obtain ⟨h1, h2, h3, h4, h5', h6⟩ := h
  have e5 : x5 &&& 1 = x5 := by rcases h5 with rfl | rfl <;> decide
  refine ⟨by simpa [z_putC, p_si] using h1, by simp [z_putC, p_si], fun k hk => ?_, fun k hk => ?_, fun k hk => ?_, fun k hk => ?_⟩
  · have q := h3 k hk
    by_cases e : k = s.2.1
    · simpa [z_putC, p_si, a_cl, e] using (e ▸ q)
    · simpa [z_putC, p_si, a_cl, e] using q
  · have hk : k < s.2.1 + 1 := hk
    by_cases e : k = s.2.1
    · simp [z_putC, p_si, a_cl, e, e5]
    · have q := h4 k (by omega)
      simpa [z_putC, p_si, a_cl, e] using q
  · have q := h5' k hk
    by_cases e : k = s.2.1
    · simpa [z_putC, p_si, a_cl, e] using (e ▸ q)
    · simpa [z_putC, p_si, a_cl, e] using q
  · have q := h6 k hk
    by_cases e : k = s.2.1
    · simpa [z_putC, p_si, a_cl, e] using (e ▸ q)
    · simpa [z_putC, p_si, a_cl, e] using q
theorem p_rng87 {α : Type} (x : Int32) (a b : α) : (if x < 0 then a else (if x < (8 : Int32) then b else a)) = if p_in x 0 7 then b else a := by
  have e8 : (8 : Int32).toInt = 8 := by decide
  have h1 := p_i0 x
  have h2 : x < 8 ↔ x.toInt < 8 := by rw [Int32.lt_iff_toInt_lt, e8]
  by_cases h : p_in x 0 7
  · rw [if_neg (fun c => by have := h1.mp c; have := h.1; omega), if_pos (h2.mpr (by have := h.2; omega)), if_pos h]
  · rw [if_neg h]
    split
    · rfl
    · rename_i hx
      have hx' := mt h1.mpr hx
      rw [if_neg]
      intro c
      apply h
      exact ⟨by omega, by have := h2.mp c; omega⟩
theorem p_rng19 {α : Type} (x : Int32) (a b : α) : (if x < (1 : Int32) then a else (if x ≤ (999 : Int32) then b else a)) = if p_in x 1 999 then b else a := by
  have e1 : (1 : Int32).toInt = 1 := by decide
  have e9 : (999 : Int32).toInt = 999 := by decide
  have h1 : x < 1 ↔ x.toInt < 1 := by rw [Int32.lt_iff_toInt_lt, e1]
  have h2 : x ≤ 999 ↔ x.toInt ≤ 999 := by rw [Int32.le_iff_toInt_le, e9]
  by_cases h : p_in x 1 999
  · rw [if_neg (fun c => by have := h1.mp c; have := h.1; omega), if_pos (h2.mpr (by have := h.2; omega)), if_pos h]
  · rw [if_neg h]
    split
    · rfl
    · rename_i hx
      have hx' := mt h1.mpr hx
      rw [if_neg]
      intro c
      apply h
      exact ⟨by omega, by have := h2.mp c; omega⟩
theorem p_if0 {α : Type} (c : Prop) [Decidable c] (a b : α) : (if p_b c = 0 then a else b) = if c then b else a := by
  by_cases h : c
  · rw [if_pos h, if_neg (fun e => p_b_0.mp e h)]
  · rw [if_neg h, if_pos (p_b_0.mpr h)]
theorem s_7 : zs_7 Inv0 := by
  rintro μ ⟨A, hw, hC, hM⟩ x1 x2 x3 x4 x5 x6 h5
  have h14 : A.1.2.1 ≤ 14 := hw.1.2.1
  have F4 : ∀ μ, f_X4_claim x1 x2 x3 x4 x5 x6 μ = if p_in x1 0 7 then (if p_in x2 0 5 then (if p_in x6 0 7 then (if p_in x3 0 999 then (if p_in x4 1 999 then f_X3_addClaim 4 x1 x2 x3 x4 x5 x6 μ else some (-1002, μ)) else some (-1002, μ)) else some (-1001, μ)) else some (-1001, μ)) else some (-1001, μ) := by
    intro μ
    unfold f_X4_claim
    rw [p_isKind4, z_b2_s, p_if0, p_isHolder4, z_b2_s, p_if0, p_rng87, p_isDay4, z_b2_s, p_if0, p_rng19]
    cases f_X3_addClaim 4 x1 x2 x3 x4 x5 x6 μ <;> rfl
  have F5 : ∀ μ, f_X5_claim x1 x2 x3 x4 x5 x6 μ = if p_in x1 0 7 then (if p_in x2 0 5 then (if p_in x6 0 7 then (if p_in x3 0 999 then (if p_in x4 1 999 then (if (μ.1 98 27) = (14 : Int32) then (some ((-1004 : Int32), μ)) else (z_b1 (f_X5_putClaim (x1) (x2) (x3) (x4) (x5) (x6) μ) fun μ37 => (some (((μ37.1 98 27) - (1 : Int32)), μ37)))) else some (-1002, μ)) else some (-1002, μ)) else some (-1001, μ)) else some (-1001, μ)) else some (-1001, μ) := by
    intro μ
    unfold f_X5_claim
    rw [p_isKind5, z_b2_s, p_if0, p_isHolder5, z_b2_s, p_if0, p_in5k 0 7 (by decide) (by decide), z_b2_s, p_if0, p_isDay5, z_b2_s, p_if0, p_in5k 1 999 (by decide) (by decide), z_b2_s, p_if0]
  have no : ∀ r : Int32, (∀ μ, f_X4_claim x1 x2 x3 x4 x5 x6 μ = some (r, μ)) → (∀ μ, f_X5_claim x1 x2 x3 x4 x5 x6 μ = some (r, μ)) → ∃ (r : Int32) (μ1 μ2 : z_M), f_X4_claim x1 x2 x3 x4 x5 x6 μ = some (r, μ1) ∧ z_ok z_SH μ1.2.2 ∧ f_X5_claim x1 x2 x3 x4 x5 x6 μ1 = some (r, μ2) ∧ Inv0 μ2 := fun r a b => p_look hw hC hM (r := r) (a μ) (fun ν _ => b ν)
  by_cases c1 : p_in x1 0 7
  case neg => exact no (-1001) (fun μ => by rw [F4, if_neg c1]) (fun μ => by rw [F5, if_neg c1])
  by_cases c2 : p_in x2 0 5
  case neg => exact no (-1001) (fun μ => by rw [F4, if_pos c1, if_neg c2]) (fun μ => by rw [F5, if_pos c1, if_neg c2])
  by_cases c6 : p_in x6 0 7
  case neg => exact no (-1001) (fun μ => by rw [F4, if_pos c1, if_pos c2, if_neg c6]) (fun μ => by rw [F5, if_pos c1, if_pos c2, if_neg c6])
  by_cases c3 : p_in x3 0 999
  case neg => exact no (-1002) (fun μ => by rw [F4, if_pos c1, if_pos c2, if_pos c6, if_neg c3]) (fun μ => by rw [F5, if_pos c1, if_pos c2, if_pos c6, if_neg c3])
  by_cases c4 : p_in x4 1 999
  case neg => exact no (-1002) (fun μ => by rw [F4, if_pos c1, if_pos c2, if_pos c6, if_pos c3, if_neg c4]) (fun μ => by rw [F5, if_pos c1, if_pos c2, if_pos c6, if_pos c3, if_neg c4])
  by_cases hn : A.1.2.1 < 14
  · refine p_step (A' := ((A.1.1, A.1.2.1 + 1, a_cl A.1.2.2 A.1.2.1 x1 x2 x3 x4 x5 x6), A.2)) (r := nI A.1.2.1) hC hM ?_ ⟨z_addC μ 4 A.1.2.1 x1 x2 x3 x4 x5 x6, ?_, hC.ship (c_ship_cl hw.1 x1 x2 x3 x4 x5 x6 h5 hn hC.1) (fun i hi => ?_) rfl, fun i hi => ?_⟩ (fun ν hν => ⟨z_putC ν A.1.2.1 x1 x2 x3 x4 x5 x6, ?_, hν.ship (m_ship_cl x1 x2 x3 x4 x5 x6 h5 hν.1) (fun k hk => ?_) (fun i hi => ?_) ?_ ?_, fun i hi => ?_, rfl⟩)
    · obtain ⟨⟨a1, a2, a3, a4, a5, a6⟩, a7⟩ := hw
      refine ⟨⟨a1, hn, fun k hk => ?_, fun k hk => ?_, fun k hk => ?_, fun k hk => ?_⟩, a7⟩
      · simpa [a_cl] using a3 k hk
      · by_cases e : k = A.1.2.1
        · have c4' : p_in x4 0 999 := ⟨by have := c4.1; omega, c4.2⟩
          have c9 : p_in (-1) (-1) 999 := by decide
          simpa [a_cl, e] using ⟨c1, c2, c3, c4', h5, c6, c9⟩
        · have hk : k < A.1.2.1 + 1 := hk
          simpa [a_cl, e] using a4 k (by omega)
      · simpa [a_cl] using a5 k hk
      · simpa [a_cl] using a6 k hk
    · rw [F4, if_pos c1, if_pos c2, if_pos c6, if_pos c3, if_pos c4, p_addC4 hw.1 hC.1, if_pos hn]
    · unfold z_addC
      rw [p_si_ne (by omega), p_si_ne (by omega), p_si_ne (by omega), p_si_ne (by omega), p_si_ne (by omega), p_si_ne (by omega), p_si_ne (by omega), p_si_ne (by omega)]
    · unfold z_addC
      rw [p_si_ne (by omega), p_si_ne (by omega), p_si_ne (by omega), p_si_ne (by omega), p_si_ne (by omega), p_si_ne (by omega), p_si_ne (by omega), p_si_ne (by omega)]
    · have e27 : (z_putC ν A.1.2.1 x1 x2 x3 x4 x5 x6).1 98 27 = nI (A.1.2.1 + 1) := p_si_at _ _ _ _
      rw [F5, if_pos c1, if_pos c2, if_pos c6, if_pos c3, if_pos c4, hν.1.2.1, if_neg (fun e => by have := (nI_eq (a := A.1.2.1) (b := 14) (by omega) (by decide)).mp e; omega), p_putC h14 hν.1.2.1, z_b1_s, e27, nI_m1]
    · have q := hν.2.1 k hk
      unfold z_putC
      rw [p_si_ne (by decide), p_si]
      split
      · rfl
      · rw [p_si_ne (by decide), p_si_ne (by decide), p_si_ne (by decide), p_si_ne (by decide), p_si_ne (by decide), p_si_ne (by decide), p_si_ne (by decide), q]
    · simp only [List.mem_cons, List.not_mem_nil, or_false] at hi
      unfold z_putC
      rw [p_si_ne (by omega), p_si_ne (by omega), p_si_ne (by omega), p_si_ne (by omega), p_si_ne (by omega), p_si_ne (by omega), p_si_ne (by omega), p_si_ne (by omega), p_si_ne (by omega)]
    · simp [z_putC, p_si]
    · simp [z_putC, p_si]
    · unfold z_putC
      rw [p_si_ne (by omega), p_si_ne (by omega), p_si_ne (by omega), p_si_ne (by omega), p_si_ne (by omega), p_si_ne (by omega), p_si_ne (by omega), p_si_ne (by omega), p_si_ne (by omega)]
  · have e14 : A.1.2.1 = 14 := by omega
    refine p_look hw hC hM (r := -1004) ?_ (fun ν hν => ?_)
    · rw [F4, if_pos c1, if_pos c2, if_pos c6, if_pos c3, if_pos c4, p_addC4 hw.1 hC.1, if_neg hn]
    · rw [F5, if_pos c1, if_pos c2, if_pos c6, if_pos c3, if_pos c4, hν.1.2.1, e14, if_pos (by decide)]
