/-! PURE: LawText's wordIn -/
theorem wl_pt {t u : Nat → Int32} {q p : Nat} : ∀ k, (∀ i, i < k → cLe (t (q + i)) = true) → (∀ i, i < k → cLe (u (p + i)) = true) → wl t q k = wl u p k → ∀ i, i < k → t (q + i) = u (p + i)
  | 0, _, _, _, i, hi => by omega
  | k + 1, h1, h2, h, i, hi => by
    rw [wl, wl] at h
    have e := List.cons.inj h
    by_cases z : i = k
    · rw [z]
      have a1 := of_decide_eq_true (h1 k (by omega))
      have a2 := of_decide_eq_true (h2 k (by omega))
      have b1 := p_cl (x := t (q + k)) (b := 122) ⟨by have := a1.1; omega, a1.2⟩
      have b2 := p_cl (x := u (p + k)) (b := 122) ⟨by have := a2.1; omega, a2.2⟩
      have e1 := e.1
      have c1 := a1.1
      have c2 := a2.1
      apply Int32.toInt_inj.mp
      omega
    · exact wl_pt k (fun j hj => h1 j (by omega)) (fun j hj => h2 j (by omega)) e.2 i (by omega)
/-- the word at place b of the table is the token's -/
def wM (tb b : Nat) (t : Nat → Int32) (q k : Nat) : Prop := (∀ i, i < k → z_ch tb (b + i) = t (q + i)) ∧ z_ch tb (b + k) = 32
theorem wM_iff {tb i : Nat} (htb : tb < 4) (hi : i < (wcs tb).length) {t : Nat → Int32} {q k : Nat} (hl : ∀ j, j < k → cLe (t (q + j)) = true) : wM tb (8 * i) t q k ↔ vr (wl t q k) = (wcs tb).getD i 0 := by
  obtain ⟨m, h1, h2, h3, h4⟩ := (tb_ok tb htb).2 i hi
  constructor
  · rintro ⟨g1, g2⟩
    have e : k = m := by
      by_cases z : k < m
      · have := h2 k z
        rw [g2] at this
        exact absurd this (by decide)
      · by_cases y : m < k
        · have h5 := hl m y
          rw [← g1 m y, h3] at h5
          exact absurd h5 (by decide)
        · omega
    rw [← h4, ← e, wl_cg k (fun j hj => (g1 j hj).symm)]
  · intro h
    have h5 : wl t q k = wl (z_ch tb) (8 * i) m := by
      refine vr_inj ?_ ?_ (h.trans h4.symm)
      · refine wl_in k (fun j a b => ?_)
        have := hl (j - q) (by omega)
        rwa [show q + (j - q) = j by omega] at this
      · refine wl_in m (fun j a b => ?_)
        have := h2 (j - 8 * i) (by omega)
        rwa [show 8 * i + (j - 8 * i) = j by omega] at this
    have e : k = m := by
      have := congrArg List.length h5
      rwa [wl_len, wl_len] at this
    subst e
    exact ⟨fun j hj => (wl_pt k hl h2 h5 j hj).symm, h3⟩
section
variable {t : Nat → Int32} {N : Nat} {μ : z_M}
theorem p_iw13 (h : tx μ t N) {tb b q k : Nat} (hb : b + 8 ≤ z_len.getD tb 0) (hL : z_len.getD tb 0 < 2 ^ 31) (hk : k < 8) (hq : q + k ≤ N) (h5 : μ.1 2 5 = nI q) : ∀ d j fu, j + d = k → d < fu → (∀ i, i < j → z_ch tb (b + i) = t (q + i)) → (wM tb b t q k → g_X1_isWordAt_13 tb fu (nI b) (nI k) (nI j) μ = some (1, μ)) ∧ (¬ wM tb b t q k → g_X1_isWordAt_13 tb fu (nI b) (nI k) (nI j) μ = some (0, μ)) := by
  obtain ⟨h1, h2, h3⟩ := h
  intro d
  induction d with
  | zero =>
    intro j fu hj hf hi
    obtain ⟨fu, rfl⟩ : ∃ q, fu = q + 1 := ⟨fu - 1, by omega⟩
    obtain rfl : j = k := by omega
    have U : g_X1_isWordAt_13 tb (fu + 1) (nI b) (nI j) (nI j) μ = some (if z_ch tb (b + j) = 32 then 1 else 0, μ) := by
      rw [g_X1_isWordAt_13]
      rw [if_pos (nI_le (by omega) (by omega)), nI_add, p_g (show b + j < z_len.getD tb 0 by omega) hL, nI_clamp (by omega)]
    rw [U]
    refine ⟨fun w => by rw [if_pos w.2], fun w => by rw [if_neg (fun z => w ⟨hi, z⟩)]⟩
  | succ d ih =>
    intro j fu hj hf hi
    obtain ⟨fu, rfl⟩ : ∃ q, fu = q + 1 := ⟨fu - 1, by omega⟩
    have U : g_X1_isWordAt_13 tb (fu + 1) (nI b) (nI k) (nI j) μ = if z_ch tb (b + j) = t (q + j) then g_X1_isWordAt_13 tb fu (nI b) (nI k) (nI (j + 1)) μ else some (0, μ) := by
      rw [g_X1_isWordAt_13]
      rw [if_neg (nI_ge (by omega) (by omega)), h5, nI_add, nI_add, p_g (show b + j < z_len.getD tb 0 by omega) hL, p_g (show q + j < 240 by omega) (by decide), nI_1]
      simp only [nI_clamp (show b + j < 2 ^ 31 by omega), nI_clamp (show q + j < 2 ^ 31 by omega), h3 _ (show q + j < N by omega)]
    rw [U]
    by_cases z : z_ch tb (b + j) = t (q + j)
    · rw [if_pos z]
      refine ih (j + 1) fu (by omega) (by omega) (fun i hi2 => ?_)
      by_cases y : i = j
      · rw [y]
        exact z
      · exact hi i (by omega)
    · rw [if_neg z]
      exact ⟨fun w => absurd (w.1 j (by omega)) z, fun _ => rfl⟩
theorem p_wi26 (h : tx μ t N) {tb q k : Nat} (htb : tb < 4) (hk : k < 8) (hq : q + k ≤ N) (h5 : μ.1 2 5 = nI q) (h6 : μ.1 2 6 = nI (q + k)) (hl : ∀ j, j < k → cLe (t (q + j)) = true) : ∀ d i fu, i + d = (wcs tb).length → d < fu → g_X1_wordIn_26 tb fu (nI (8 * i)) μ = some (ki ((wcs tb).drop i) i (vr (wl t q k)), μ) := by
  have hN : z_N = 5000 := rfl
  have h1 := h.1
  have hT := (tb_ok tb htb).1
  have hT2 : (wcs tb).length ≤ 10 := by
    have : ∀ tb, tb < 4 → (wcs tb).length ≤ 10 := by decide
    exact this tb htb
  intro d
  induction d with
  | zero =>
    intro i fu hi hf
    obtain ⟨fu, rfl⟩ : ∃ q, fu = q + 1 := ⟨fu - 1, by omega⟩
    rw [g_X1_wordIn_26]
    rw [show nI (8 * i) + 8 = nI (8 * i + 8) from nI_add (8 * i) 8, if_pos (show Int32.ofNat (z_len.getD tb 0) < nI (8 * i + 8) from nI_lt (by omega) (by omega)), List.drop_of_length_le (by omega)]
    rfl
  | succ d ih =>
    intro i fu hi hf
    obtain ⟨fu, rfl⟩ : ∃ q, fu = q + 1 := ⟨fu - 1, by omega⟩
    have hW := p_iw13 h (tb := tb) (b := 8 * i) (q := q) (k := k) (by omega) (by omega) hk hq h5 k 0 z_N (by omega) (by omega) (fun j hj => by omega)
    have hM := wM_iff htb (show i < (wcs tb).length by omega) hl
    have hD : (wcs tb).drop i = (wcs tb).getD i 0 :: (wcs tb).drop (i + 1) := by
      rw [List.drop_eq_getElem_cons (show i < (wcs tb).length by omega), List.getD_eq_getElem?_getD, List.getElem?_eq_getElem (by omega)]
      rfl
    rw [g_X1_wordIn_26]
    unfold f_X1_isWordAt
    rw [show nI (8 * i) + 8 = nI (8 * (i + 1)) by rw [show (8 : Int32) = nI 8 from rfl, nI_add, Nat.mul_add], if_neg (show ¬ Int32.ofNat (z_len.getD tb 0) < nI (8 * (i + 1)) from nI_nlt (by omega) (by omega)), z_lt_s, h5, h6, pk_sub (by omega), show q + k - q = k by omega, ← nI_0, hD, ki]
    by_cases z : wM tb (8 * i) t q k
    · rw [hW.1 z, z_b2_s, if_pos (hM.mp z), if_neg (show ¬ (1 : Int32) = nI 0 by decide), if_pos (show ¬ (8 : Int32) = nI 0 by decide)]
      congr 2
      have : ∀ i, i < 10 → nI (8 * i) / 8 = nI i := by decide
      exact this i (by omega)
    · rw [hW.2 z, z_b2_s, if_neg (fun y => z (hM.mpr y)), if_pos (show (0 : Int32) = nI 0 by decide)]
      exact ih (i + 1) fu (by omega) (by omega)
theorem ki_no : ∀ (l : List Nat) (i v : Nat), (∀ c ∈ l, c < v) → ki l i v = -1
  | [], _, _, _ => rfl
  | c :: l, i, v, h => by
    have := h c List.mem_cons_self
    rw [ki, if_neg (by omega)]
    exact ki_no l (i + 1) v (fun x hx => h x (List.mem_cons_of_mem _ hx))
/-- the class's word -/
theorem p_wIn (h : tx μ t N) {tb q k : Nat} (htb : tb < 4) (hq : q + k ≤ N) (h4 : μ.1 2 4 = 1) (h5 : μ.1 2 5 = nI q) (h6 : μ.1 2 6 = nI (q + k)) (hl : ∀ j, j < k → cLe (t (q + j)) = true) : f_X1_wordIn tb μ = some (ki (wcs tb) 0 (sv t q k), μ) := by
  have hN : z_N = 5000 := rfl
  have h1 := h.1
  have hT2 : (wcs tb).length ≤ 10 := by
    have : ∀ tb, tb < 4 → (wcs tb).length ≤ 10 := by decide
    exact this tb htb
  have hl2 : ∀ i, q ≤ i → i < q + k → cLe (t i) = true := fun i a b => by
    have := hl (i - q) (by omega)
    rwa [show q + (i - q) = i by omega] at this
  unfold f_X1_wordIn
  rw [if_pos h4, h5, h6, pk_sub (by omega), show q + k - q = k by omega]
  by_cases z : k < 8
  · rw [if_pos (show nI k < 8 from nI_lt (b := 8) z (by decide)), sv_vr k (by omega) hl2]
    have := p_wi26 h htb z hq h5 h6 hl (wcs tb).length 0 z_N (by omega) (by omega)
    rw [show 8 * 0 = 0 from rfl, nI_0, List.drop_zero] at this
    exact this
  · rw [if_neg (show ¬ nI k < 8 from nI_nlt (b := 8) (by omega) (by omega)), ki_no _ _ _ (fun c hc => Nat.lt_of_lt_of_le (tb_small tb htb c hc) (sv_big k (by omega) hl2))]
theorem p_wNo {tb : Nat} (h4 : ¬ μ.1 2 4 = 1) : f_X1_wordIn tb μ = some (-1, μ) := by
  unfold f_X1_wordIn
  rw [if_neg h4]
end
