/-! PURE: one clause on both sides -/
section
variable {t : Nat → Int32} {N : Nat} {μ0 μ ν : z_M} {o p : Nat}
def cC (o : Nat) (μ : z_M) : Option z_M := z_b2 (f_X1_beginClause o μ) fun r37 μ38 => if r37 = -1 then some μ38 else cl_c (f_X1_readBody r37 o μ38)
def w01 (c : Option (Int32 × z_M)) : Option (Int32 × z_M) := z_b2 c fun r μ => if r = 0 ∨ r = 1 then some (r, μ) else none
theorem w01_b {c r : Option (Int32 × z_M)} (h : Bo t N o μ ν p c r ∨ La t N o μ ν c r) : w01 c = c := by
  unfold w01
  rcases h with ⟨μ1, ν1, f, -, -, -, ⟨-, hc, -⟩ | ⟨hc, -⟩⟩ | ⟨μ1, ν1, p1, hc, -⟩
  · rw [hc, z_b2_s, if_pos (Or.inr rfl)]
  · rw [hc, z_b2_s, if_pos (Or.inl rfl)]
  · rw [hc, z_b2_s, if_pos (Or.inr rfl)]
theorem rb_0 (o : Nat) (μ : z_M) : f_X1_readBody (nI 0) o μ = w01 (f_X1_readRides o μ) := by
  unfold f_X1_readBody w01
  rw [if_pos (show nI 0 = 0 by decide)]
theorem rb_1 (o : Nat) (μ : z_M) : f_X1_readBody (nI 1) o μ = w01 (f_X1_readAhead o μ) := by
  unfold f_X1_readBody w01
  rw [if_neg (show ¬ nI 1 = 0 by decide), if_pos (show nI 1 = 1 by decide)]
theorem rb_2 (o : Nat) (μ : z_M) : f_X1_readBody (nI 2) o μ = w01 (f_X1_readFirst o μ) := by
  unfold f_X1_readBody w01
  rw [if_neg (show ¬ nI 2 = 0 by decide), if_neg (show ¬ nI 2 = 1 by decide), if_pos (show nI 2 = 2 by decide)]
theorem rb_3 (o : Nat) (μ : z_M) : f_X1_readBody (nI 3) o μ = w01 (f_X1_readBehind o μ) := by
  unfold f_X1_readBody w01
  rw [if_neg (show ¬ nI 3 = 0 by decide), if_neg (show ¬ nI 3 = 1 by decide), if_neg (show ¬ nI 3 = 2 by decide), if_pos (show nI 3 = 3 by decide)]
theorem rb_4 (o : Nat) (μ : z_M) : f_X1_readBody (nI 4) o μ = some (1, z_si μ o 11 1) := by
  unfold f_X1_readBody
  rw [if_neg (show ¬ nI 4 = 0 by decide), if_neg (show ¬ nI 4 = 1 by decide), if_neg (show ¬ nI 4 = 2 by decide), if_neg (show ¬ nI 4 = 3 by decide), if_pos (show nI 4 = 4 by decide), z_st_s]
theorem rb_5 (o : Nat) (μ : z_M) : f_X1_readBody (nI 5) o μ = w01 (f_X1_readWithin o μ) := by
  unfold f_X1_readBody w01
  rw [if_neg (show ¬ nI 5 = 0 by decide), if_neg (show ¬ nI 5 = 1 by decide), if_neg (show ¬ nI 5 = 2 by decide), if_neg (show ¬ nI 5 = 3 by decide), if_neg (show ¬ nI 5 = 4 by decide), if_pos (show nI 5 = 5 by decide)]
theorem rb_6 (o : Nat) (μ : z_M) : f_X1_readBody (nI 6) o μ = w01 (f_X1_readDies o μ) := by
  unfold f_X1_readBody w01
  rw [if_neg (show ¬ nI 6 = 0 by decide), if_neg (show ¬ nI 6 = 1 by decide), if_neg (show ¬ nI 6 = 2 by decide), if_neg (show ¬ nI 6 = 3 by decide), if_neg (show ¬ nI 6 = 4 by decide), if_neg (show ¬ nI 6 = 5 by decide), if_pos (show nI 6 = 6 by decide)]
theorem rb_7 (o : Nat) (μ : z_M) : f_X1_readBody (nI 7) o μ = w01 (f_X1_readLeave o μ) := by
  unfold f_X1_readBody w01
  rw [if_neg (show ¬ nI 7 = 0 by decide), if_neg (show ¬ nI 7 = 1 by decide), if_neg (show ¬ nI 7 = 2 by decide), if_neg (show ¬ nI 7 = 3 by decide), if_neg (show ¬ nI 7 = 4 by decide), if_neg (show ¬ nI 7 = 5 by decide), if_neg (show ¬ nI 7 = 6 by decide), if_pos (show nI 7 = 7 by decide)]
theorem rb_8 (o : Nat) (μ : z_M) : f_X1_readBody (nI 8) o μ = some (1, z_si μ o 12 1) := by
  unfold f_X1_readBody
  rw [if_neg (show ¬ nI 8 = 0 by decide), if_neg (show ¬ nI 8 = 1 by decide), if_neg (show ¬ nI 8 = 2 by decide), if_neg (show ¬ nI 8 = 3 by decide), if_neg (show ¬ nI 8 = 4 by decide), if_neg (show ¬ nI 8 = 5 by decide), if_neg (show ¬ nI 8 = 6 by decide), if_neg (show ¬ nI 8 = 7 by decide), if_pos (show nI 8 = 8 by decide), z_st_s]
theorem rb_9 (o : Nat) (μ : z_M) : f_X1_readBody (nI 9) o μ = w01 (f_X1_readCosts o μ) := by
  unfold f_X1_readBody w01
  rw [if_neg (show ¬ nI 9 = 0 by decide), if_neg (show ¬ nI 9 = 1 by decide), if_neg (show ¬ nI 9 = 2 by decide), if_neg (show ¬ nI 9 = 3 by decide), if_neg (show ¬ nI 9 = 4 by decide), if_neg (show ¬ nI 9 = 5 by decide), if_neg (show ¬ nI 9 = 6 by decide), if_neg (show ¬ nI 9 = 7 by decide), if_neg (show ¬ nI 9 = 8 by decide), if_pos (show nI 9 = 9 by decide)]
theorem tO (x1 x2 : Int32) (ν : z_M) : f_X5_takeOnce x1 x2 ν = if ((ν.1 98 21 >>> (x1 &&& 31)) &&& 1) = 1 then some (3, z_si ν 98 14 x2) else ro x1 (z_si ν 98 21 (ν.1 98 21 ||| ((1 : Int32) <<< (x1 &&& 31)))) := by
  unfold f_X5_takeOnce f_X5_fails ro
  rw [z_st_s, z_b2_s, z_st_s]
theorem om_0 (o : Nat) (μ : z_M) : f_X1_isOneTooMany (nI 0) o μ = some (0, μ) := by
  unfold f_X1_isOneTooMany
  rw [if_neg (show ¬ nI 0 = 1 by decide), if_neg (show ¬ nI 0 = 2 by decide), if_neg (show ¬ nI 0 = 3 by decide), if_neg (show ¬ nI 0 = 4 by decide), if_neg (show ¬ nI 0 = 5 by decide), if_neg (show ¬ nI 0 = 6 by decide), if_neg (show ¬ nI 0 = 7 by decide), if_neg (show ¬ nI 0 = 8 by decide), if_neg (show ¬ nI 0 = 9 by decide)]
theorem om_1 (o : Nat) (μ : z_M) : f_X1_isOneTooMany (nI 1) o μ = some (if μ.1 o 8 < (12 : Int32) then (0 : Int32) else 1, μ) := by
  unfold f_X1_isOneTooMany
  rw [if_pos (show nI 1 = 1 by decide)]
theorem om_2 (o : Nat) (μ : z_M) : f_X1_isOneTooMany (nI 2) o μ = some (0, μ) := by
  unfold f_X1_isOneTooMany
  rw [if_neg (show ¬ nI 2 = 1 by decide), if_pos (show nI 2 = 2 by decide)]
theorem om_3 (o : Nat) (μ : z_M) : f_X1_isOneTooMany (nI 3) o μ = some (0, μ) := by
  unfold f_X1_isOneTooMany
  rw [if_neg (show ¬ nI 3 = 1 by decide), if_neg (show ¬ nI 3 = 2 by decide), if_pos (show nI 3 = 3 by decide)]
theorem om_4 (o : Nat) (μ : z_M) : f_X1_isOneTooMany (nI 4) o μ = some (if p_bit (μ.1 2 7) 4 = 1 then (1 : Int32) else 0, μ) := by
  unfold f_X1_isOneTooMany g_X1_isOneTooMany_52
  rw [if_neg (show ¬ nI 4 = 1 by decide), if_neg (show ¬ nI 4 = 2 by decide), if_neg (show ¬ nI 4 = 3 by decide), if_pos (show nI 4 = 4 by decide), p_bitE, z_b2_s]
theorem om_5 (o : Nat) (μ : z_M) : f_X1_isOneTooMany (nI 5) o μ = some (if p_bit (μ.1 2 7) 5 = 1 then (1 : Int32) else 0, μ) := by
  unfold f_X1_isOneTooMany g_X1_isOneTooMany_52
  rw [if_neg (show ¬ nI 5 = 1 by decide), if_neg (show ¬ nI 5 = 2 by decide), if_neg (show ¬ nI 5 = 3 by decide), if_neg (show ¬ nI 5 = 4 by decide), if_pos (show nI 5 = 5 by decide), p_bitE, z_b2_s]
theorem om_6 (o : Nat) (μ : z_M) : f_X1_isOneTooMany (nI 6) o μ = some (0, μ) := by
  unfold f_X1_isOneTooMany
  rw [if_neg (show ¬ nI 6 = 1 by decide), if_neg (show ¬ nI 6 = 2 by decide), if_neg (show ¬ nI 6 = 3 by decide), if_neg (show ¬ nI 6 = 4 by decide), if_neg (show ¬ nI 6 = 5 by decide), if_pos (show nI 6 = 6 by decide)]
theorem om_7 (o : Nat) (μ : z_M) : f_X1_isOneTooMany (nI 7) o μ = some (0, μ) := by
  unfold f_X1_isOneTooMany
  rw [if_neg (show ¬ nI 7 = 1 by decide), if_neg (show ¬ nI 7 = 2 by decide), if_neg (show ¬ nI 7 = 3 by decide), if_neg (show ¬ nI 7 = 4 by decide), if_neg (show ¬ nI 7 = 5 by decide), if_neg (show ¬ nI 7 = 6 by decide), if_pos (show nI 7 = 7 by decide)]
theorem om_8 (o : Nat) (μ : z_M) : f_X1_isOneTooMany (nI 8) o μ = some (if p_bit (μ.1 2 7) 8 = 1 then (1 : Int32) else 0, μ) := by
  unfold f_X1_isOneTooMany g_X1_isOneTooMany_52
  rw [if_neg (show ¬ nI 8 = 1 by decide), if_neg (show ¬ nI 8 = 2 by decide), if_neg (show ¬ nI 8 = 3 by decide), if_neg (show ¬ nI 8 = 4 by decide), if_neg (show ¬ nI 8 = 5 by decide), if_neg (show ¬ nI 8 = 6 by decide), if_neg (show ¬ nI 8 = 7 by decide), if_pos (show nI 8 = 8 by decide), p_bitE, z_b2_s]
theorem om_9 (o : Nat) (μ : z_M) : f_X1_isOneTooMany (nI 9) o μ = some (if p_bit (μ.1 2 7) 9 = 1 then (1 : Int32) else 0, μ) := by
  unfold f_X1_isOneTooMany g_X1_isOneTooMany_52
  rw [if_neg (show ¬ nI 9 = 1 by decide), if_neg (show ¬ nI 9 = 2 by decide), if_neg (show ¬ nI 9 = 3 by decide), if_neg (show ¬ nI 9 = 4 by decide), if_neg (show ¬ nI 9 = 5 by decide), if_neg (show ¬ nI 9 = 6 by decide), if_neg (show ¬ nI 9 = 7 by decide), if_neg (show ¬ nI 9 = 8 by decide), if_pos (show nI 9 = 9 by decide), p_bitE, z_b2_s]
theorem bC {c : Nat} (hc : c < 10) {b : Int32} (hw : f_X1_wordIn 0 μ = some (nI c, μ)) (hb : f_X1_isOneTooMany (nI c) o μ = some (b, μ)) : (b = 0 → cC o μ = cl_c (f_X1_readBody (nI c) o (z_si μ 2 7 (μ.1 2 7 ||| ((1 : Int32) <<< (nI c &&& 31)))))) ∧ (¬ b = 0 → ∀ μ3, f_X1_refuse 3 μ = some (0, μ3) → cC o μ = some μ3) := by
  have hn : ¬ nI c = -1 := by
    have : ∀ c, c < 10 → ¬ nI c = -1 := by decide
    exact this c hc
  unfold cC f_X1_beginClause
  rw [hw, z_b2_s, if_neg hn, hb, z_b2_s]
  refine ⟨fun h => ?_, fun h μ3 e => ?_⟩
  · rw [if_pos h, z_st_s, z_b2_s, if_neg hn]
  · rw [if_neg h, e, z_b2_s, z_b2_s, if_pos rfl]
theorem d6_or {x y : Int32} (h : d6 x y) {c : Nat} (hc : c < 10) : d6 (x ||| ((1 : Int32) <<< (nI c &&& 31))) (y ||| ((1 : Int32) <<< (nI c &&& 31))) := by
  intro j hj
  rw [p_bit_or _ (by omega) (by omega), p_bit_or _ (by omega) (by omega), h j hj]
theorem d6_no {x y : Int32} (h : d6 x y) {c : Nat} (hc : c < 10) (hn : ¬ (c = 4 ∨ c = 5 ∨ c = 8 ∨ c = 9)) : d6 (x ||| ((1 : Int32) <<< (nI c &&& 31))) y := by
  intro j hj
  rw [p_bit_or _ (by omega) (by omega), if_neg (fun w => hn (by rw [← w]; exact hj))]
  exact h j hj
theorem Rl_no (ho : 51 ≤ o) (h : Rl t N o μ ν p) {c : Nat} (hc : c < 10) (hn : ¬ (c = 4 ∨ c = 5 ∨ c = 8 ∨ c = 9)) : Rl t N o (z_si μ 2 7 (μ.1 2 7 ||| ((1 : Int32) <<< (nI c &&& 31)))) ν p := by
  obtain ⟨T, D, h3, h14⟩ := h
  refine ⟨T.c (Or.inr (by decide)), dr.u6 ho D (fun a j hd hm => ?_) (fun a j hd hm => rfl) ?_, ?_, h14⟩
  · rw [p_si, if_neg hm]
  · rw [p_si_at]
    exact d6_no D.2.2.2.2.2.2 hc hn
  · rw [p_si_nk (by decide)]
    exact h3
theorem Rl_or (ho : 51 ≤ o) (h : Rl t N o μ ν p) {c : Nat} (hc : c < 10) : Rl t N o (z_si μ 2 7 (μ.1 2 7 ||| ((1 : Int32) <<< (nI c &&& 31)))) (z_si ν 98 21 (ν.1 98 21 ||| ((1 : Int32) <<< (nI c &&& 31)))) p := by
  obtain ⟨T, D, h3, h14⟩ := h
  refine ⟨(T.c (Or.inr (by decide))).m (Or.inr (by decide)), dr.u6 ho D (fun a j hd hm => ?_) (fun a j hd hm => ?_) ?_, ?_, ?_⟩
  · rw [p_si, if_neg hm]
  · rw [p_si_ne hm]
  · rw [p_si_at, p_si_at]
    exact d6_or D.2.2.2.2.2.2 hc
  · rw [p_si_nk (by decide)]
    exact h3
  · rw [p_si_nk (by decide)]
    exact h14
/-- past the clause's word -/
theorem p_past (ho : 51 ≤ o) (ht : ∀ i, i < N → p_in (t i) 0 255) (h : Rl t N o μ ν p) {c q : Nat} (hc : c < 10) (hw : f_X1_wordIn 0 μ = some (nI c, μ)) (h5 : μ.1 2 5 = nI q) : Co t N o μ ν p (cC o μ) (if nI c = 0 then cl_r (f_X5_takeRides ν) else if nI c = 1 then cl_r (f_X5_takeAhead (nI q) ν) else if (if nI c = 4 then (1 : Int32) else if nI c = 5 then 1 else if nI c ≤ 7 then 0 else 1) = 0 then cl_r (f_X5_takeOfKind (nI c) ν) else cl_r (f_X5_takeOnce (nI c) (nI q) ν)) := by
  have T := h.1
  have D := h.2.1
  obtain ⟨μ3, s1, s2, s3⟩ := p_refuse (f := 3) T.1 h5 T.2.2.1 T.2.2.2.1 (by decide)
  have fail : cC o μ = some μ3 → ∀ r, r = some (3, z_si ν 98 14 (nI q)) → Co t N o μ ν p (cC o μ) (cl_r r) := fun e r hr => by
    refine ⟨μ3, z_si ν 98 14 (nI q), 3, e, ?_, s2.mono (W2_c o), (hF.rf Vm ν).si (Or.inl (by decide)) _, Or.inr (s3 _ (p_si_at _ _ _ _))⟩
    unfold cl_r
    rw [hr, z_b2_s]
    exact c97 (f := 3) (by decide) (by decide) _
  have go : ∀ ν2 r, hF Vm ν ν2 → Co t N o (z_si μ 2 7 (μ.1 2 7 ||| ((1 : Int32) <<< (nI c &&& 31)))) ν2 p (cl_c (f_X1_readBody (nI c) o (z_si μ 2 7 (μ.1 2 7 ||| ((1 : Int32) <<< (nI c &&& 31)))))) r → cC o μ = cl_c (f_X1_readBody (nI c) o (z_si μ 2 7 (μ.1 2 7 ||| ((1 : Int32) <<< (nI c &&& 31))))) → Co t N o μ ν p (cC o μ) r := fun ν2 r hv hC e => by
    obtain ⟨μ', ν', f, a1, a2, a3, a4, a5⟩ := hC
    exact ⟨μ', ν', f, e.trans a1, a2, ((gF.rf (Wc o) μ).si (Or.inl (by decide)) _).tr a3, hv.tr a4, a5⟩
  have hcc : c = 0 ∨ c = 1 ∨ c = 2 ∨ c = 3 ∨ c = 4 ∨ c = 5 ∨ c = 6 ∨ c = 7 ∨ c = 8 ∨ c = 9 := by omega
  rcases hcc with rfl | rfl | rfl | rfl | rfl | rfl | rfl | rfl | rfl | rfl
  · rw [if_pos (show nI 0 = 0 by decide)]
    have B := b_rides ho ht (Rl_no ho h (c := 0) (by decide) (by decide))
    refine go ν _ (hF.rf _ _) ?_ ((bC (by decide) hw (om_0 o μ)).1 rfl)
    rw [rb_0, w01_b B]
    exact p_close ho B
  · rw [if_neg (show ¬ nI 1 = 0 by decide), if_pos (show nI 1 = 1 by decide)]
    obtain ⟨g0, g1, g2, g3, g4, g5, g6, g7, g8, g9⟩ := D.2.2.2.2.2.1
    have bc := bC (by decide) hw (om_1 o μ)
    have g90 := g9.2
    have e12 : (12 : Int32).toInt = 12 := by decide
    by_cases z : ν.1 110 4 = 12
    · refine fail (bc.2 (fun w => ?_) μ3 s1) _ ?_
      · rw [if_neg (by rw [← g4, z]; decide)] at w
        exact absurd w (by decide)
      · unfold f_X5_takeAhead f_X5_fails
        rw [if_pos (show z_in (4 : Int32) 5 by decide), if_pos (show ν.1 110 (4 : Int32).toNatClampNeg = 12 from z), z_st_s, z_b2_s]
    · have z2 : μ.1 o 8 < 12 := by
        rw [Int32.lt_iff_toInt_lt, e12]
        have : ¬ (μ.1 o 8).toInt = 12 := fun w => z (by rw [g4]; exact Int32.toInt_inj.mp w)
        omega
      have B : Bo t N o _ ν p _ _ := b_ahead ho ht (nI q) (Rl_no ho h (c := 1) (by decide) (by decide)) z
      refine go ν _ (hF.rf _ _) ?_ (bc.1 (if_pos z2))
      rw [rb_1, w01_b (Or.inl B)]
      exact p_close ho (Or.inl B)
  · rw [if_neg (show ¬ nI 2 = 0 by decide), if_neg (show ¬ nI 2 = 1 by decide), if_pos (show (if nI 2 = 4 then (1 : Int32) else if nI 2 = 5 then 1 else if nI 2 ≤ 7 then 0 else 1) = 0 by decide)]
    have B : Bo t N o _ ν p _ (f_X5_takeOfKind (nI 2) ν) := b_first ho ht (Rl_no ho h (c := 2) (by decide) (by decide))
    refine go ν _ (hF.rf _ _) ?_ ((bC (by decide) hw (om_2 o μ)).1 rfl)
    rw [rb_2, w01_b (Or.inl B)]
    exact p_close ho (Or.inl B)
  · rw [if_neg (show ¬ nI 3 = 0 by decide), if_neg (show ¬ nI 3 = 1 by decide), if_pos (show (if nI 3 = 4 then (1 : Int32) else if nI 3 = 5 then 1 else if nI 3 ≤ 7 then 0 else 1) = 0 by decide)]
    have B : Bo t N o _ ν p _ (f_X5_takeOfKind (nI 3) ν) := b_behind ho ht (Rl_no ho h (c := 3) (by decide) (by decide))
    refine go ν _ (hF.rf _ _) ?_ ((bC (by decide) hw (om_3 o μ)).1 rfl)
    rw [rb_3, w01_b (Or.inl B)]
    exact p_close ho (Or.inl B)
  · rw [if_neg (show ¬ nI 4 = 0 by decide), if_neg (show ¬ nI 4 = 1 by decide), if_neg (show ¬ (if nI 4 = 4 then (1 : Int32) else if nI 4 = 5 then 1 else if nI 4 ≤ 7 then 0 else 1) = 0 by decide)]
    have bc := bC (by decide) hw (om_4 o μ)
    have b6 : p_bit (μ.1 2 7) 4 = p_bit (ν.1 98 21) 4 := D.2.2.2.2.2.2 4 (by decide)
    have tO2 := tO (nI 4) (nI q) ν
    by_cases z : p_bit (ν.1 98 21) 4 = 1
    · rw [if_pos (show ((ν.1 98 21 >>> (nI 4 &&& 31)) &&& 1) = 1 from z)] at tO2
      refine fail (bc.2 (fun w => ?_) μ3 s1) _ tO2
      rw [if_pos (by rw [b6]; exact z)] at w
      exact absurd w (by decide)
    · rw [if_neg (show ¬ ((ν.1 98 21 >>> (nI 4 &&& 31)) &&& 1) = 1 from z)] at tO2
      rw [tO2]
      have B : Bo t N o _ _ p _ (ro (nI 4) _) := b_later ho (Rl_or ho h (c := 4) (by decide))
      refine go _ _ ((hF.rf Vm ν).si (a := 98) (k := 21) (Or.inl (by decide)) (ν.1 98 21 ||| ((1 : Int32) <<< (nI 4 &&& 31)))) ?_ (bc.1 (if_neg (by rw [b6]; exact z)))
      rw [rb_4]
      exact p_close ho (Or.inl B)
  · rw [if_neg (show ¬ nI 5 = 0 by decide), if_neg (show ¬ nI 5 = 1 by decide), if_neg (show ¬ (if nI 5 = 4 then (1 : Int32) else if nI 5 = 5 then 1 else if nI 5 ≤ 7 then 0 else 1) = 0 by decide)]
    have bc := bC (by decide) hw (om_5 o μ)
    have b6 : p_bit (μ.1 2 7) 5 = p_bit (ν.1 98 21) 5 := D.2.2.2.2.2.2 5 (by decide)
    have tO2 := tO (nI 5) (nI q) ν
    by_cases z : p_bit (ν.1 98 21) 5 = 1
    · rw [if_pos (show ((ν.1 98 21 >>> (nI 5 &&& 31)) &&& 1) = 1 from z)] at tO2
      refine fail (bc.2 (fun w => ?_) μ3 s1) _ tO2
      rw [if_pos (by rw [b6]; exact z)] at w
      exact absurd w (by decide)
    · rw [if_neg (show ¬ ((ν.1 98 21 >>> (nI 5 &&& 31)) &&& 1) = 1 from z)] at tO2
      rw [tO2]
      have B : Bo t N o _ _ p _ (ro (nI 5) _) := b_within ho ht (Rl_or ho h (c := 5) (by decide))
      refine go _ _ ((hF.rf Vm ν).si (a := 98) (k := 21) (Or.inl (by decide)) (ν.1 98 21 ||| ((1 : Int32) <<< (nI 5 &&& 31)))) ?_ (bc.1 (if_neg (by rw [b6]; exact z)))
      rw [rb_5, w01_b (Or.inl B)]
      exact p_close ho (Or.inl B)
  · rw [if_neg (show ¬ nI 6 = 0 by decide), if_neg (show ¬ nI 6 = 1 by decide), if_pos (show (if nI 6 = 4 then (1 : Int32) else if nI 6 = 5 then 1 else if nI 6 ≤ 7 then 0 else 1) = 0 by decide)]
    have B : Bo t N o _ ν p _ (f_X5_takeOfKind (nI 6) ν) := b_dies ho ht (Rl_no ho h (c := 6) (by decide) (by decide))
    refine go ν _ (hF.rf _ _) ?_ ((bC (by decide) hw (om_6 o μ)).1 rfl)
    rw [rb_6, w01_b (Or.inl B)]
    exact p_close ho (Or.inl B)
  · rw [if_neg (show ¬ nI 7 = 0 by decide), if_neg (show ¬ nI 7 = 1 by decide), if_pos (show (if nI 7 = 4 then (1 : Int32) else if nI 7 = 5 then 1 else if nI 7 ≤ 7 then 0 else 1) = 0 by decide)]
    have B : Bo t N o _ ν p _ (f_X5_takeOfKind (nI 7) ν) := b_leave ho ht (Rl_no ho h (c := 7) (by decide) (by decide))
    refine go ν _ (hF.rf _ _) ?_ ((bC (by decide) hw (om_7 o μ)).1 rfl)
    rw [rb_7, w01_b (Or.inl B)]
    exact p_close ho (Or.inl B)
  · rw [if_neg (show ¬ nI 8 = 0 by decide), if_neg (show ¬ nI 8 = 1 by decide), if_neg (show ¬ (if nI 8 = 4 then (1 : Int32) else if nI 8 = 5 then 1 else if nI 8 ≤ 7 then 0 else 1) = 0 by decide)]
    have bc := bC (by decide) hw (om_8 o μ)
    have b6 : p_bit (μ.1 2 7) 8 = p_bit (ν.1 98 21) 8 := D.2.2.2.2.2.2 8 (by decide)
    have tO2 := tO (nI 8) (nI q) ν
    by_cases z : p_bit (ν.1 98 21) 8 = 1
    · rw [if_pos (show ((ν.1 98 21 >>> (nI 8 &&& 31)) &&& 1) = 1 from z)] at tO2
      refine fail (bc.2 (fun w => ?_) μ3 s1) _ tO2
      rw [if_pos (by rw [b6]; exact z)] at w
      exact absurd w (by decide)
    · rw [if_neg (show ¬ ((ν.1 98 21 >>> (nI 8 &&& 31)) &&& 1) = 1 from z)] at tO2
      rw [tO2]
      have B : Bo t N o _ _ p _ (ro (nI 8) _) := b_sale ho (Rl_or ho h (c := 8) (by decide))
      refine go _ _ ((hF.rf Vm ν).si (a := 98) (k := 21) (Or.inl (by decide)) (ν.1 98 21 ||| ((1 : Int32) <<< (nI 8 &&& 31)))) ?_ (bc.1 (if_neg (by rw [b6]; exact z)))
      rw [rb_8]
      exact p_close ho (Or.inl B)
  · rw [if_neg (show ¬ nI 9 = 0 by decide), if_neg (show ¬ nI 9 = 1 by decide), if_neg (show ¬ (if nI 9 = 4 then (1 : Int32) else if nI 9 = 5 then 1 else if nI 9 ≤ 7 then 0 else 1) = 0 by decide)]
    have bc := bC (by decide) hw (om_9 o μ)
    have b6 : p_bit (μ.1 2 7) 9 = p_bit (ν.1 98 21) 9 := D.2.2.2.2.2.2 9 (by decide)
    have tO2 := tO (nI 9) (nI q) ν
    by_cases z : p_bit (ν.1 98 21) 9 = 1
    · rw [if_pos (show ((ν.1 98 21 >>> (nI 9 &&& 31)) &&& 1) = 1 from z)] at tO2
      refine fail (bc.2 (fun w => ?_) μ3 s1) _ tO2
      rw [if_pos (by rw [b6]; exact z)] at w
      exact absurd w (by decide)
    · rw [if_neg (show ¬ ((ν.1 98 21 >>> (nI 9 &&& 31)) &&& 1) = 1 from z)] at tO2
      rw [tO2]
      have B : Bo t N o _ _ p _ (ro (nI 9) _) := b_costs ho (Rl_or ho h (c := 9) (by decide))
      refine go _ _ ((hF.rf Vm ν).si (a := 98) (k := 21) (Or.inl (by decide)) (ν.1 98 21 ||| ((1 : Int32) <<< (nI 9 &&& 31)))) ?_ (bc.1 (if_neg (by rw [b6]; exact z)))
      rw [rb_9, w01_b (Or.inl B)]
      exact p_close ho (Or.inl B)
end
