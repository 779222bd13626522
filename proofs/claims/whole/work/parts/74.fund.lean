/-! PURE: PayOut.payFund -/
theorem p_pf195 {μ : z_M} {a n2 f r F : Nat} (hf : f < 5) (h35 : μ.1 35 f = nI F) : g_X2_payFund_195 a n2 (nI f) (nI r) μ = some (nI F - nI r, z_si μ 36 f (nI r)) := by
  unfold g_X2_payFund_195
  rw [p_g hf (by decide), z_st_s, p_g hf (by decide), nI_clamp (by omega)]
  show some ((z_si μ 36 f (nI r)).1 35 f - nI r, z_si μ 36 f (nI r)) = _
  rw [p_si_ne (by decide), h35]
section
variable {Q : y_Q} {L : Nat → Nat} {ln a f fr : Nat} {μ : z_M}
theorem p_pf29 (hw : w_Q Q) (hp : c_pay μ Q Q.1 L ln) (hfr : fr < ln) {n2 r : Nat} (k : Int32 → Int32 → Int32 → z_M → Option (Int32 × z_M)) : ∀ m t fu, t + m = ln → m < fu → fr < t → (∀ i, fr ≤ i → i < t → Q.2.2.1 (L i) = Q.2.2.1 (L fr)) → ∃ t', fr < t' ∧ t' ≤ ln ∧ (∀ i, fr ≤ i → i < t' → Q.2.2.1 (L i) = Q.2.2.1 (L fr)) ∧ (t' < ln → Q.2.2.1 (L t') ≠ Q.2.2.1 (L fr)) ∧ g_X2_payFund_29 a n2 k fu (nI f) (nI r) (nI fr) (nI t) μ = g_X2_payFund_75 a n2 k z_N (nI f) (nI r) (nI fr) (nI t') (nI fr) μ := by
  obtain ⟨p1, p2, p3, p4, q1, q2, q3, q4⟩ := hp
  have h14 := hw.1
  intro m
  induction m with
  | zero =>
    intro t fu ht hf' hlt hs
    obtain ⟨fu, rfl⟩ : ∃ q, fu = q + 1 := ⟨fu - 1, by omega⟩
    refine ⟨t, hlt, by omega, hs, fun q => by omega, ?_⟩
    rw [g_X2_payFund_29]
    rw [p1, if_pos (nI_le (by omega) (by omega))]
  | succ m ih =>
    intro t fu ht hf' hlt hs
    obtain ⟨fu, rfl⟩ : ∃ q, fu = q + 1 := ⟨fu - 1, by omega⟩
    have Lt := (q2 t (by omega)).1
    have Lf := (q2 fr hfr).1
    have St := (hw.2.1 _ Lt).2
    have Sf := (hw.2.1 _ Lf).2
    have U : g_X2_payFund_29 a n2 k (fu + 1) (nI f) (nI r) (nI fr) (nI t) μ = if Q.2.2.1 (L t) = Q.2.2.1 (L fr) then g_X2_payFund_29 a n2 k fu (nI f) (nI r) (nI fr) (nI (t + 1)) μ else g_X2_payFund_75 a n2 k z_N (nI f) (nI r) (nI fr) (nI t) (nI fr) μ := by
      rw [g_X2_payFund_29]
      rw [p1, if_neg (nI_ge (by omega) (by omega)), p_g (show t < 14 by omega) (by decide), nI_clamp (show t < 2 ^ 31 by omega), p3 t (by omega), p_g (show L t < 14 by omega) (by decide), p_g (show fr < 14 by omega) (by decide), nI_clamp (show fr < 2 ^ 31 by omega), p3 fr hfr, p_g (show L fr < 14 by omega) (by decide), nI_clamp (show L t < 2 ^ 31 by omega), nI_clamp (show L fr < 2 ^ 31 by omega), (p4 _ Lt).1, (p4 _ Lf).1, nI_1]
      by_cases q : Q.2.2.1 (L t) = Q.2.2.1 (L fr)
      · rw [if_pos q, if_pos (by rw [q])]
      · rw [if_neg q, if_neg (fun w => q ((nI_eq (by omega) (by omega)).mp w))]
    rw [U]
    by_cases q : Q.2.2.1 (L t) = Q.2.2.1 (L fr)
    · rw [if_pos q]
      refine ih (t + 1) fu (by omega) (by omega) (by omega) (fun i h1 h2 => ?_)
      by_cases e : i = t
      · rw [e, q]
      · exact hs i h1 (by omega)
    · rw [if_neg q]
      exact ⟨t, hlt, by omega, hs, fun _ => q, rfl⟩
theorem p_pf75 (hw : w_Q Q) (hp : c_pay μ Q Q.1 L ln) (hf : f < 5) (ha : 40 ≤ a ∧ a ≤ 45) {v r n : Nat} {p : Nat → Nat} (hn : fr + n ≤ ln) (hv : ∀ i, fr ≤ i → i < fr + n → Q.2.2.1 (L i) = v) (hrow : ∀ c, c < Q.1 → μ.1 a c = nI (p c)) (hpa : ∀ c, p c ≤ Q.2.1 c) (k : Int32 → Int32 → Int32 → z_M → Option (Int32 × z_M)) : ∀ m j fu μ', j + m = n → m < fu → z_un [33] μ μ' → (∀ i, i < j → μ'.1 33 (fr + i) = nI (y_w (y_p Q) f v p (L (fr + i)))) → ∃ μ'', z_un [33] μ μ'' ∧ (∀ i, i < n → μ''.1 33 (fr + i) = nI (y_w (y_p Q) f v p (L (fr + i)))) ∧ g_X2_payFund_75 a 14 k fu (nI f) (nI r) (nI fr) (nI (fr + n)) (nI (fr + j)) μ' = z_b2 (f_X2_share (nI r) 33 14 34 14 (nI fr) (nI (fr + n)) μ'') (fun r8 μ9 => g_X2_payFund_156 a 14 k z_N (nI f) r8 (nI (fr + n)) (nI fr) μ9) := by
  obtain ⟨p1, p2, p3, p4, q1, q2, q3, q4⟩ := hp
  have h14 := hw.1
  intro m
  induction m with
  | zero =>
    intro j fu μ' hj hf' hun hc
    obtain ⟨fu, rfl⟩ : ∃ q, fu = q + 1 := ⟨fu - 1, by omega⟩
    have ej : j = n := by omega
    subst ej
    refine ⟨μ', hun, hc, ?_⟩
    rw [g_X2_payFund_75]
    rw [if_pos (nI_le (Nat.le_refl _) (by omega))]
  | succ m ih =>
    intro j fu μ' hj hf' hun hc
    obtain ⟨fu, rfl⟩ : ∃ q, fu = q + 1 := ⟨fu - 1, by omega⟩
    obtain ⟨hL, hal⟩ := q2 (fr + j) (by omega)
    obtain ⟨M, hM, eM, bM⟩ := (p4 _ hL).2.1
    have hz : z_in (nI (L (fr + j))) 14 := p_zn (by omega) (by decide)
    have ev : (if (if M.testBit f = true then (1 : Int32) else 0) = 1 then nI (Q.2.1 (L (fr + j))) - nI (p (L (fr + j))) else (0 : Int32)) = nI (y_w (y_p Q) f v p (L (fr + j))) := by
      rw [bM f hf]
      unfold y_w
      have e0 : (y_p Q).2.2.2.1 f (L (fr + j)) = Q.2.2.2.2.1 f (L (fr + j)) := by
        show (Q.2.2.2.1 (L (fr + j)) && Q.2.2.2.2.1 f (L (fr + j))) = _
        rw [hal]
        rfl
      rw [e0]
      by_cases q : Q.2.2.2.2.1 f (L (fr + j)) = true
      · rw [if_pos q, if_pos rfl, if_pos ⟨hL, q, hv _ (by omega) (by omega)⟩, pk_sub (hpa _)]
        rfl
      · rw [if_neg q, if_neg (by decide), if_neg (fun w => q w.2.1)]
        rfl
    rw [g_X2_payFund_75]
    rw [if_neg (nI_ge (by omega) (by omega))]
    simp only [if_pos (p_zn (n := fr + j) (N := 14) (by omega) (by decide)), nI_clamp (show fr + j < 2 ^ 31 by omega), hun.1 29 (by decide), p3 (fr + j) (by omega), z_lt_s, z_st_s, if_pos hz, nI_clamp (show L (fr + j) < 2 ^ 31 by omega), hun.1 31 (by decide), eM, p_bitE, p_bitN M hM f hf, z_b2_s, hun.1 32 (by decide), hun.1 a (by simp; omega), (p4 _ hL).2.2, hrow _ hL]
    rw [if_pos ⟨fun _ => hz, fun _ => hz⟩, ev, nI_1]
    exact ih (j + 1) fu (z_si μ' 33 (fr + j) (nI (y_w (y_p Q) f v p (L (fr + j))))) (by omega) (by omega) (hun.si (by simp) _ _) (fun i hi => by
      by_cases e : i = j
      · rw [e, p_si_at]
      · rw [p_si_nk (by omega), hc i (by omega)])
theorem p_pf156 (hw : w_Q Q) (hF : l_F Q.2.2.2.1 Q.2.2.1 Q.1 L ln) (ha : 40 ≤ a ∧ a ≤ 45) {n : Nat} {r : Int32} {G p : Nat → Nat} (hn : fr + n ≤ ln) (h29 : ∀ i, i < ln → μ.1 29 i = nI (L i)) (hg : ∀ i, i < n → μ.1 34 (fr + i) = nI (G i)) (hrow : ∀ i, i < n → μ.1 a (L (fr + i)) = nI (p (L (fr + i)))) (k : Int32 → Int32 → Int32 → z_M → Option (Int32 × z_M)) : ∀ m j fu μ', j + m = n → m < fu → z_un [a] μ μ' → (∀ i, i < j → μ'.1 a (L (fr + i)) = nI (p (L (fr + i)) + G i)) → (∀ c, (∀ i, i < j → L (fr + i) ≠ c) → μ'.1 a c = μ.1 a c) → ∃ μ'', z_un [a] μ μ'' ∧ (∀ i, i < n → μ''.1 a (L (fr + i)) = nI (p (L (fr + i)) + G i)) ∧ (∀ c, (∀ i, i < n → L (fr + i) ≠ c) → μ''.1 a c = μ.1 a c) ∧ g_X2_payFund_156 a 14 k fu (nI f) r (nI (fr + n)) (nI (fr + j)) μ' = k (nI f) r (nI (fr + n)) μ'' := by
  obtain ⟨q1, q2, q3, q4⟩ := hF
  have h14 := hw.1
  have inj : ∀ i j, i < ln → j < ln → L i = L j → i = j := by
    intro i j hi hj e
    rcases Nat.lt_trichotomy i j with q | q | q
    · have := q4 i j q hj
      rw [e] at this
      omega
    · exact q
    · have := q4 j i q hi
      rw [e] at this
      omega
  intro m
  induction m with
  | zero =>
    intro j fu μ' hj hf' hun c1 c2
    obtain ⟨fu, rfl⟩ : ∃ q, fu = q + 1 := ⟨fu - 1, by omega⟩
    have ej : j = n := by omega
    subst ej
    refine ⟨μ', hun, c1, c2, ?_⟩
    rw [g_X2_payFund_156]
    rw [if_pos (nI_le (Nat.le_refl _) (by omega))]
  | succ m ih =>
    intro j fu μ' hj hf' hun c1 c2
    obtain ⟨fu, rfl⟩ : ∃ q, fu = q + 1 := ⟨fu - 1, by omega⟩
    have hL := (q2 (fr + j) (by omega)).1
    have e29 : μ'.1 29 = μ.1 29 := hun.1 29 (by simp; omega)
    have e34 : μ'.1 34 = μ.1 34 := hun.1 34 (by simp; omega)
    have ea : μ'.1 a (L (fr + j)) = nI (p (L (fr + j))) := by
      rw [c2 _ (fun i hi e => by have := inj _ _ (by omega) (by omega) e; omega), hrow j (by omega)]
    rw [g_X2_payFund_156]
    rw [if_neg (nI_ge (by omega) (by omega)), p_g (show fr + j < 14 by omega) (by decide), p_g (show fr + j < 14 by omega) (by decide), nI_clamp (show fr + j < 2 ^ 31 by omega), e29, h29 _ (by omega), p_g (show L (fr + j) < 14 by omega) (by decide), p_g (show L (fr + j) < 14 by omega) (by decide), nI_clamp (show L (fr + j) < 2 ^ 31 by omega), ea, e34, hg j (by omega), nI_add, nI_1]
    exact ih (j + 1) fu (z_si μ' a (L (fr + j)) (nI (p (L (fr + j)) + G j))) (by omega) (by omega) (hun.si (by simp) _ _) (fun i hi => by
      by_cases e : i = j
      · rw [e, p_si_at]
      · rw [p_si_nk (fun w => by have := inj _ _ (by omega) (by omega) w; omega), c1 i (by omega)]) (fun c hc => by
      rw [p_si_nk (fun w => hc j (by omega) w.symm), c2 c (fun i hi => hc i (by omega))])
theorem p_grp (hF : l_F Q.2.2.2.1 Q.2.2.1 Q.1 L ln) {t v : Nat} (p : Nat → Nat) (h1 : fr < t) (h2 : t ≤ ln) (h3 : ∀ i, fr ≤ i → i < t → Q.2.2.1 (L i) = v) (h4 : t < ln → Q.2.2.1 (L t) ≠ v) (h5 : fr = 0 ∨ Q.2.2.1 (L (fr - 1)) < v) : (∀ i, fr ≤ i → i + 1 < t → L i < L (i + 1)) ∧ (∀ i, fr ≤ i → i < t → L i < Q.1) ∧ (∀ c, c < Q.1 → y_w (y_p Q) f v p c ≠ 0 → ∃ i, fr ≤ i ∧ i < t ∧ L i = c) := by
  obtain ⟨q1, q2, q3, q4⟩ := hF
  refine ⟨fun i g1 g2 => ?_, fun i g1 g2 => (q2 i (by omega)).1, fun c hc hne => ?_⟩
  · have := q4 i (i + 1) (by omega) (by omega)
    have := h3 i g1 (by omega)
    have := h3 (i + 1) (by omega) g2
    omega
  · unfold y_w at hne
    split at hne
    · next w =>
      obtain ⟨w1, w2, w3⟩ := w
      have hal : Q.2.2.2.1 c = true := by
        have : (Q.2.2.2.1 c && Q.2.2.2.2.1 f c) = true := w2
        cases hh : Q.2.2.2.1 c with
        | true => rfl
        | false => rw [hh] at this; cases this
      have w3 : Q.2.2.1 c = v := w3
      obtain ⟨i, hi, ei⟩ := q3 c hc hal
      refine ⟨i, ?_, ?_, ei⟩
      · rcases Nat.lt_or_ge i fr with q | q
        · exfalso
          rcases h5 with e | e
          · omega
          · by_cases e2 : i = fr - 1
            · rw [← e2, ei] at e
              omega
            · have := q4 i (fr - 1) (by omega) (by omega)
              rw [ei] at this
              omega
        · exact q
      · rcases Nat.lt_or_ge i t with q | q
        · exact q
        · exfalso
          have g1 := h4 (by omega)
          have g2 := q4 fr t h1 (by omega)
          rw [h3 fr (by omega) h1] at g2
          by_cases e2 : i = t
          · rw [← e2, ei] at g1
            exact g1 w3
          · have := q4 t i (by omega) hi
            rw [ei] at this
            omega
    · exact absurd rfl hne
/-- a share by the line is the share by numbers -/
theorem p_shl {N t r : Nat} {w : Nat → Nat} (h1 : fr < t) (g1 : ∀ i, fr ≤ i → i + 1 < t → L i < L (i + 1)) (g2 : ∀ i, fr ≤ i → i < t → L i < N) (g3 : ∀ c, c < N → w c ≠ 0 → ∃ i, fr ≤ i ∧ i < t ∧ L i = c) : sm (t - fr) (fun i => w (L (fr + i))) = sm N w ∧ sh_r r (t - fr) (fun i => w (L (fr + i))) = sh_r r N w ∧ ∀ i, i < t - fr → sh r (t - fr) (fun i => w (L (fr + i))) i = sh r N w (L (fr + i)) := by
  have e1 : sm (t - fr) (fun i => w (L (fr + i))) = sm N w := sm_riseN h1 L w g1 g2 g3
  have e2 : ∀ i, i < t - fr → sm i (sh_1 (fun i => w (L (fr + i)))) = sm (L (fr + i)) (sh_1 w) := by
    intro i hi
    exact sm_rise (N := N) L (sh_1 w) g1 g2 (fun c hc hq => g3 c hc (by
      intro e
      apply hq
      unfold sh_1
      rw [e]
      rfl)) i (by omega)
  have e3 : ∀ W, sm (t - fr) (sh_q r W (fun i => w (L (fr + i)))) = sm N (sh_q r W w) := by
    intro W
    exact sm_riseN h1 L (sh_q r W w) g1 g2 (fun c hc hq => g3 c hc (by
      intro e
      apply hq
      unfold sh_q
      rw [e, Nat.mul_zero, Nat.zero_div]))
  refine ⟨e1, ?_, fun i hi => ?_⟩
  · unfold sh_r
    rw [e1]
  · unfold sh sh_o
    rw [e1, e3, e2 i hi]
    rfl
end
/-- a fund's run from a place in the line on -/
theorem p_pf10 {Q : y_Q} {L : Nat → Nat} {ln a f : Nat} (hw : w_Q Q) (hf : f < 5) (ha : 40 ≤ a ∧ a ≤ 45) : ∀ m fr fu p r μ, fr + m = ln → m < fu → c_pay μ Q Q.1 L ln → μ.1 35 f = nI (Q.2.2.2.2.2 f) → (∀ c, c < Q.1 → μ.1 a c = nI (p c)) → (∀ c, p c ≤ Q.2.1 c) → r ≤ 9999 → (fr < ln → fr = 0 ∨ Q.2.2.1 (L (fr - 1)) < Q.2.2.1 (L fr)) → ∃ μ', g_X2_payFund_10 a 14 fu (nI f) (nI r) (nI fr) μ = some (nI (Q.2.2.2.2.2 f) - nI (y_f (y_p Q) f (if fr < ln then Q.2.2.1 (L fr) else y_M) (p, r)).2, μ') ∧ z_un [33, 34, 36, a] μ μ' ∧ (∀ c, c < Q.1 → μ'.1 a c = nI ((y_f (y_p Q) f (if fr < ln then Q.2.2.1 (L fr) else y_M) (p, r)).1 c)) ∧ (∀ c, Q.1 ≤ c → μ'.1 a c = μ.1 a c) ∧ μ'.1 36 f = nI (y_f (y_p Q) f (if fr < ln then Q.2.2.1 (L fr) else y_M) (p, r)).2 ∧ (∀ g, g ≠ f → μ'.1 36 g = μ.1 36 g) := by
  have h14 := hw.1
  have hN : z_N = 5000 := rfl
  have stop : ∀ (fr r : Nat) (p : Nat → Nat) (μ : z_M) (st : y_S), μ.1 35 f = nI (Q.2.2.2.2.2 f) → (∀ c, c < Q.1 → μ.1 a c = nI (p c)) → st = (p, r) → ∃ μ', g_X2_payFund_195 a 14 (nI f) (nI r) μ = some (nI (Q.2.2.2.2.2 f) - nI st.2, μ') ∧ z_un [33, 34, 36, a] μ μ' ∧ (∀ c, c < Q.1 → μ'.1 a c = nI (st.1 c)) ∧ (∀ c, Q.1 ≤ c → μ'.1 a c = μ.1 a c) ∧ μ'.1 36 f = nI st.2 ∧ (∀ g, g ≠ f → μ'.1 36 g = μ.1 36 g) := by
    intro fr r p μ st h35 hrow est
    subst est
    refine ⟨_, p_pf195 hf h35, (z_un.rf _ _).si (by simp) _ _, fun c hc => ?_, fun c hc => ?_, p_si_at _ _ _ _, fun g hg => p_si_nk hg⟩
    · rw [p_si_ne (by omega)]
      exact hrow c hc
    · rw [p_si_ne (by omega)]
  intro m
  induction m using Nat.strongRecOn with
  | _ m ih =>
    intro fr fu p r μ hm hfu hp h35 hrow hpa hr hst
    obtain ⟨fu, rfl⟩ : ∃ q, fu = q + 1 := ⟨fu - 1, by omega⟩
    obtain ⟨q1, q2, q3, q4⟩ := hp.2.2.2.2
    by_cases h1 : fr = ln
    · rw [if_neg (show ¬ fr < ln by omega)]
      rw [g_X2_payFund_10]
      rw [hp.1, if_pos (nI_le (by omega) (by omega))]
      exact stop fr r p μ _ h35 hrow (y_f_end (Nat.le_refl _) (fun c hc _ _ => hw.S hc))
    · have hlt : fr < ln := by omega
      rw [if_pos hlt]
      by_cases h2 : r = 0
      · rw [g_X2_payFund_10]
        rw [hp.1, if_neg (nI_ge (by omega) (by omega)), if_pos ((nI_lt0 (by omega)).mpr h2)]
        exact stop fr r p μ _ h35 hrow (y_f_r0 h2)
      · have hU : g_X2_payFund_10 a 14 (fu + 1) (nI f) (nI r) (nI fr) μ = g_X2_payFund_29 a 14 (fun (y47 : Int32) (y48 : Int32) (y49 : Int32) (μ45 : z_M) => (g_X2_payFund_10 a 14 fu (y47) (y48) (y49) μ45)) z_N (nI f) (nI r) (nI fr) (nI (fr + 1)) μ := by
          rw [g_X2_payFund_10]
          rw [hp.1, if_neg (nI_ge (by omega) (by omega)), if_neg (fun q => h2 ((nI_lt0 (by omega)).mp q)), nI_1]
          rfl
        rw [hU]
        obtain ⟨t, t1, t2, t3, t4, t5⟩ := p_pf29 (a := a) (f := f) (r := r) (n2 := 14) hw hp hlt (fun (y47 : Int32) (y48 : Int32) (y49 : Int32) (μ45 : z_M) => (g_X2_payFund_10 a 14 fu (y47) (y48) (y49) μ45)) (ln - (fr + 1)) (fr + 1) z_N (by omega) (by omega) (by omega) (fun i g1 g2 => by rw [show i = fr by omega])
        rw [t5]
        have hv : Q.2.2.1 (L fr) < y_M := hw.S (q2 fr hlt).1
        generalize hvv : Q.2.2.1 (L fr) = v at *
        obtain ⟨n, rfl⟩ : ∃ n, t = fr + n := ⟨t - fr, by omega⟩
        obtain ⟨μ1, w1, w2, w3⟩ := p_pf75 (a := a) (f := f) (fr := fr) (r := r) (v := v) (p := p) (n := n) hw hp hf ha (by omega) t3 hrow hpa (fun (y47 : Int32) (y48 : Int32) (y49 : Int32) (μ45 : z_M) => (g_X2_payFund_10 a 14 fu (y47) (y48) (y49) μ45)) n 0 z_N μ (by omega) (by omega) (z_un.rf _ _) (fun i hi => by omega)
        rw [Nat.add_zero] at w3
        rw [w3]
        obtain ⟨g1, g2, g3⟩ := p_grp (f := f) hp.2.2.2.2 p t1 t2 t3 t4 (by
          rcases hst hlt with e | e
          · exact Or.inl e
          · exact Or.inr e)
        obtain ⟨s1, s2, s3⟩ := p_shl (r := r) (N := Q.1) (w := y_w (y_p Q) f v p) t1 g1 g2 g3
        rw [show fr + n - fr = n by omega] at s1 s2 s3
        have hwl : ∀ c, y_w (y_p Q) f v p c ≤ 999 := by
          intro c
          unfold y_w
          split
          · next w =>
            have := (hw.2.1 c w.1).1
            show Q.2.1 c - p c ≤ 999
            omega
          · omega
        have hsum : sm n (fun i => y_w (y_p Q) f v p (L (fr + i))) ≤ n * 999 := by
          have : ∀ n, sm n (fun i => y_w (y_p Q) f v p (L (fr + i))) ≤ n * 999 := by
            intro n
            induction n with
            | zero => exact Nat.le_refl _
            | succ n ih2 =>
              have := hwl (L (fr + n))
              rw [sm]
              omega
          exact this n
        obtain ⟨μ2, v1, v2, v3⟩ := p_share (a1 := 33) (n1 := 14) (a2 := 34) (n2 := 14) (a := fr) (n := n) (r := r) (U := fun i => y_w (y_p Q) f v p (L (fr + i))) (μ := μ1) (by decide) (by omega) (by omega) (by decide) (by decide) (by omega) w2 (fun j _ => by have := hwl (L (fr + j)); omega) (by omega)
        rw [v1, z_b2_s, s2]
        have u12 : z_un [33, 34] μ μ2 := (w1.mono (by simp)).tr (v2.mono (by simp))
        have e29 : ∀ i, i < ln → μ2.1 29 i = nI (L i) := fun i hi => by rw [u12.1 29 (by decide)]; exact hp.2.2.1 i hi
        have erow : ∀ c, μ2.1 a c = μ.1 a c := fun c => by rw [u12.1 a (by simp; omega)]
        obtain ⟨μ3, x1, x2, x3, x4⟩ := p_pf156 (a := a) (f := f) (fr := fr) (n := n) (p := p) (G := fun i => sh r Q.1 (y_w (y_p Q) f v p) (L (fr + i))) (r := nI (sh_r r Q.1 (y_w (y_p Q) f v p))) hw hp.2.2.2.2 ha (by omega) e29 (fun i hi => by rw [v3 i hi, s3 i hi]) (fun i hi => by rw [erow]; exact hrow _ (g2 _ (by omega) (by omega))) (fun (y47 : Int32) (y48 : Int32) (y49 : Int32) (μ45 : z_M) => (g_X2_payFund_10 a 14 fu (y47) (y48) (y49) μ45)) n 0 z_N μ2 (by omega) (by omega) (z_un.rf _ _) (fun i hi => by omega) (fun c _ => rfl)
        rw [Nat.add_zero] at x4
        rw [x4]
        have u3 : z_un [33, 34, 36, a] μ μ3 := (u12.mono (by simp)).tr (x1.mono (by simp))
        have hp3 : c_pay μ3 Q Q.1 L ln := by
          obtain ⟨b1, b2, b3, b4, b5⟩ := hp
          refine ⟨?_, ?_, ?_, ?_, b5⟩
          · rw [u3.1 28 (by simp; omega)]; exact b1
          · rw [u3.1 28 (by simp; omega)]; exact b2
          · rw [u3.1 29 (by simp; omega)]; exact b3
          · rw [u3.1 30 (by simp; omega), u3.1 31 (by simp; omega), u3.1 32 (by simp; omega)]; exact b4
        have hrow3 : ∀ c, c < Q.1 → μ3.1 a c = nI ((y_l (y_p Q) f v (p, r)).1 c) := by
          intro c hc
          show μ3.1 a c = nI (p c + sh r Q.1 (y_w (y_p Q) f v p) c)
          by_cases e : ∃ i, i < n ∧ L (fr + i) = c
          · obtain ⟨i, hi, ei⟩ := e
            rw [← ei]
            exact x2 i hi
          · rw [x3 c (fun i hi w => e ⟨i, hi, w⟩), erow, hrow c hc, sh_z]
            · rfl
            · rcases Nat.eq_zero_or_pos (y_w (y_p Q) f v p c) with z | z
              · exact z
              · obtain ⟨i, i1, i2, i3⟩ := g3 c hc (by omega)
                exact absurd ⟨i - fr, by omega, by rw [show fr + (i - fr) = i by omega]; exact i3⟩ e
        have hfin : y_f (y_p Q) f v (p, r) = y_f (y_p Q) f (if fr + n < ln then Q.2.2.1 (L (fr + n)) else y_M) (y_l (y_p Q) f v (p, r)) := by
          rw [y_f_step (show v < y_M from hv)]
          by_cases e0 : (y_l (y_p Q) f v (p, r)).2 = 0
          · rw [y_f_r0 e0, y_f_r0 e0]
          · have full := y_l_full (P := y_p Q) (f := f) (v := v) (st := (p, r)) (by omega)
            have hvt : fr + n < ln → v < Q.2.2.1 (L (fr + n)) := by
              intro hq
              have a1 := t4 hq
              have a2 := q4 fr (fr + n) (by omega) hq
              rw [hvv] at a2
              omega
            refine y_f_skip ?_ ?_ (fun c hc hth hlt' => ?_)
            · split
              · next hq => have := hvt hq; omega
              · exact hv
            · split
              · next hq => exact Nat.le_of_lt (hw.S (q2 _ hq).1)
              · exact Nat.le_refl _
            · have hal : Q.2.2.2.1 c = true := by
                have : (Q.2.2.2.1 c && Q.2.2.2.2.1 f c) = true := hth
                cases hh : Q.2.2.2.1 c with
                | true => rfl
                | false => rw [hh] at this; cases this
              obtain ⟨i, hi, ei⟩ := q3 c hc hal
              show Q.2.2.1 c < v + 1 ∨ _
              have hne : Q.2.2.1 c ≠ v := fun e => by
                have := full c hc hth e
                omega
              rcases Nat.lt_or_ge i (fr + n) with q | q
              · left
                rcases Nat.lt_or_ge i fr with q' | q'
                · have := q4 i fr q' hlt
                  rw [hvv, ei] at this
                  omega
                · have := t3 i q' q
                  rw [ei] at this
                  omega
              · right
                rw [if_pos (by omega)]
                by_cases e2 : i = fr + n
                · rw [← e2, ei]
                  exact Nat.le_refl _
                · have := q4 (fr + n) i (by omega) hi
                  rw [ei] at this
                  show Q.2.2.1 (L (fr + n)) ≤ Q.2.2.1 c
                  omega
        have hr' : (y_l (y_p Q) f v (p, r)).2 = sh_r r Q.1 (y_w (y_p Q) f v p) := rfl
        have hstart : fr + n < ln → fr + n = 0 ∨ Q.2.2.1 (L (fr + n - 1)) < Q.2.2.1 (L (fr + n)) := by
          intro hq
          right
          have a1 := t4 hq
          have a2 := q4 (fr + n - 1) (fr + n) (by omega) hq
          have a3 := t3 (fr + n - 1) (by omega) (by omega)
          omega
        obtain ⟨μ', y1, y2, y3, y4, y5, y6⟩ := ih (ln - (fr + n)) (by omega) (fr + n) fu (y_l (y_p Q) f v (p, r)).1 (y_l (y_p Q) f v (p, r)).2 μ3 (by omega) (by omega) hp3 (by rw [u3.1 35 (by simp; omega)]; exact h35) hrow3 (fun c => (y_l_R (y_p Q) f v (p, r)).2.1 c (hpa c)) (by rw [hr']; have := sh_r_le r Q.1 (y_w (y_p Q) f v p); omega) hstart
        rw [hr'] at y1
        rw [hfin]
        refine ⟨μ', y1, u3.tr y2, y3, fun c hc => ?_, y5, fun g hg => ?_⟩
        · rw [y4 c hc, x3 c (fun i hi w => by have := g2 (fr + i) (by omega) (by omega); omega), erow]
        · rw [y6 g hg, x1.1 36 (by simp; omega), u12.1 36 (by decide)]
theorem p_payFund {Q : y_Q} {L : Nat → Nat} {ln a f : Nat} {p : Nat → Nat} {μ : z_M} (hw : w_Q Q) (hf : f < 5) (ha : 40 ≤ a ∧ a ≤ 45) (hp : c_pay μ Q Q.1 L ln) (h35 : μ.1 35 f = nI (Q.2.2.2.2.2 f)) (hrow : ∀ c, c < Q.1 → μ.1 a c = nI (p c)) (hpa : ∀ c, p c ≤ Q.2.1 c) : ∃ μ', f_X2_payFund (nI f) a 14 μ = some (nI (Q.2.2.2.2.2 f - (y_pf (y_p Q) f p).2), μ') ∧ z_un [33, 34, 36, a] μ μ' ∧ (∀ c, c < Q.1 → μ'.1 a c = nI ((y_pf (y_p Q) f p).1 c)) ∧ (∀ c, Q.1 ≤ c → μ'.1 a c = μ.1 a c) ∧ μ'.1 36 f = nI (y_pf (y_p Q) f p).2 ∧ (∀ g, g ≠ f → μ'.1 36 g = μ.1 36 g) := by
  have h14 := hw.1
  have hN : z_N = 5000 := rfl
  obtain ⟨q1, q2, q3, q4⟩ := hp.2.2.2.2
  obtain ⟨μ', y1, y2, y3, y4, y5, y6⟩ := p_pf10 (a := a) (f := f) hw hf ha ln 0 z_N p (Q.2.2.2.2.2 f) μ (by omega) (by omega) hp h35 hrow hpa (hw.2.2 f hf) (fun _ => Or.inl rfl)
  have e : y_pf (y_p Q) f p = y_f (y_p Q) f (if 0 < ln then Q.2.2.1 (L 0) else y_M) (p, Q.2.2.2.2.2 f) := by
    refine y_f_skip (Nat.zero_le _) ?_ (fun c hc hth _ => Or.inr ?_)
    · split
      · next hq => exact Nat.le_of_lt (hw.S (q2 _ hq).1)
      · exact Nat.le_refl _
    · have hal : Q.2.2.2.1 c = true := by
        have : (Q.2.2.2.1 c && Q.2.2.2.2.1 f c) = true := hth
        cases hh : Q.2.2.2.1 c with
        | true => rfl
        | false => rw [hh] at this; cases this
      obtain ⟨i, hi, ei⟩ := q3 c hc hal
      rw [if_pos (by omega)]
      by_cases e2 : i = 0
      · rw [← e2, ei]
        exact Nat.le_refl _
      · have := q4 0 i (by omega) hi
        rw [ei] at this
        show Q.2.2.1 (L 0) ≤ Q.2.2.1 c
        omega
  have hle : (y_pf (y_p Q) f p).2 ≤ Q.2.2.2.2.2 f := by
    have h := (y_f_R (y_p Q) f 0 (p, Q.2.2.2.2.2 f)).2.2.2.2
    have h2 := sm_le (f := p) (g := (y_pf (y_p Q) f p).1) (n := (y_p Q).1) (fun c _ => (y_f_R (y_p Q) f 0 (p, Q.2.2.2.2.2 f)).1 c)
    have h3 : sm (y_p Q).1 (y_pf (y_p Q) f p).1 + (y_pf (y_p Q) f p).2 = sm (y_p Q).1 p + Q.2.2.2.2.2 f := h
    omega
  rw [← e] at y1 y3 y5
  refine ⟨μ', ?_, y2, y3, y4, y5, y6⟩
  unfold f_X2_payFund
  rw [p_g hf (by decide), nI_clamp (by omega), h35]
  rw [pk_sub hle] at y1
  exact y1
