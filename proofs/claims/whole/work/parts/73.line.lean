/-! PURE: the line of those that live (PayOut.lineUp) -/
/-- N, amounts, standings, lives, rides (fund, claim), sums -/
abbrev y_Q : Type := Nat × (Nat → Nat) × (Nat → Nat) × (Nat → Bool) × (Nat → Nat → Bool) × (Nat → Nat)
def y_p (Q : y_Q) : y_P := (Q.1, Q.2.1, Q.2.2.1, fun f c => Q.2.2.2.1 c && Q.2.2.2.2.1 f c, Q.2.2.2.2.2, Q.2.2.2.2.1 0)
def l_F (al : Nat → Bool) (S : Nat → Nat) (n : Nat) (L : Nat → Nat) (ln : Nat) : Prop := ln ≤ n ∧ (∀ i, i < ln → L i < n ∧ al (L i) = true) ∧ (∀ c, c < n → al c = true → ∃ i, i < ln ∧ L i = c) ∧ (∀ i j, i < j → j < ln → S (L i) < S (L j) ∨ (S (L i) = S (L j) ∧ L i < L j))
theorem l_F.no {al : Nat → Bool} {S : Nat → Nat} {n : Nat} {L : Nat → Nat} {ln : Nat} (h : l_F al S n L ln) (ha : ¬ al n = true) : l_F al S (n + 1) L ln := by
  obtain ⟨h1, h2, h3, h4⟩ := h
  refine ⟨by omega, fun i hi => ⟨by have := (h2 i hi).1; omega, (h2 i hi).2⟩, fun c hc hl => ?_, h4⟩
  by_cases e : c = n
  · rw [e] at hl
    exact absurd hl ha
  · exact h3 c (by omega) hl
theorem l_F.yes {al : Nat → Bool} {S : Nat → Nat} {n : Nat} {L : Nat → Nat} {ln : Nat} (h : l_F al S n L ln) (ha : al n = true) {j : Nat} (hj : j ≤ ln) (g1 : ∀ i, j ≤ i → i < ln → S n < S (L i)) (g2 : j = 0 ∨ S (L (j - 1)) ≤ S n) : l_F al S (n + 1) (fun i => if i < j then L i else if i = j then n else L (i - 1)) (ln + 1) := by
  obtain ⟨h1, h2, h3, h4⟩ := h
  have lo : ∀ i, i < j → S (L i) ≤ S n := by
    intro i hi
    rcases g2 with q | q
    · omega
    · by_cases e : i = j - 1
      · rw [e]
        exact q
      · have := h4 i (j - 1) (by omega) (by omega)
        omega
  refine ⟨by omega, fun i hi => ?_, fun c hc hl => ?_, fun i k hik hk => ?_⟩
  · show (if i < j then L i else if i = j then n else L (i - 1)) < n + 1 ∧ al (if i < j then L i else if i = j then n else L (i - 1)) = true
    by_cases q : i < j
    · rw [if_pos q]
      have := h2 i (by omega)
      exact ⟨by omega, this.2⟩
    · rw [if_neg q]
      by_cases q2 : i = j
      · rw [if_pos q2]
        exact ⟨by omega, ha⟩
      · rw [if_neg q2]
        have := h2 (i - 1) (by omega)
        exact ⟨by omega, this.2⟩
  · by_cases e : c = n
    · refine ⟨j, by omega, ?_⟩
      show (if j < j then L j else if j = j then n else L (j - 1)) = c
      rw [if_neg (by omega), if_pos rfl, e]
    · obtain ⟨i, hi, ei⟩ := h3 c (by omega) hl
      by_cases q : i < j
      · refine ⟨i, by omega, ?_⟩
        show (if i < j then L i else if i = j then n else L (i - 1)) = c
        rw [if_pos q, ei]
      · refine ⟨i + 1, by omega, ?_⟩
        show (if i + 1 < j then L (i + 1) else if i + 1 = j then n else L (i + 1 - 1)) = c
        rw [if_neg (by omega), if_neg (by omega), Nat.add_sub_cancel, ei]
  · show S (if i < j then L i else if i = j then n else L (i - 1)) < S (if k < j then L k else if k = j then n else L (k - 1)) ∨ (S (if i < j then L i else if i = j then n else L (i - 1)) = S (if k < j then L k else if k = j then n else L (k - 1)) ∧ (if i < j then L i else if i = j then n else L (i - 1)) < (if k < j then L k else if k = j then n else L (k - 1)))
    by_cases q : i < j
    · rw [if_pos q]
      by_cases r : k < j
      · rw [if_pos r]
        exact h4 i k hik (by omega)
      · rw [if_neg r]
        by_cases r2 : k = j
        · rw [if_pos r2]
          have := lo i q
          have := (h2 i (by omega)).1
          omega
        · rw [if_neg r2]
          exact h4 i (k - 1) (by omega) (by omega)
    · rw [if_neg q, if_neg (show ¬ k < j by omega), if_neg (show ¬ k = j by omega)]
      by_cases q2 : i = j
      · rw [if_pos q2]
        exact Or.inl (g1 (k - 1) (by omega) (by omega))
      · rw [if_neg q2]
        exact h4 (i - 1) (k - 1) (by omega) (by omega)
theorem p_join51 {μ' : z_M} {n j : Nat} (hj : j < 14) : g_X2_joinLine_51 (nI n) (nI j) μ' = some (z_si (z_si μ' 29 j (nI n)) 28 1 ((z_si μ' 29 j (nI n)).1 28 1 + 1)) := by
  unfold g_X2_joinLine_51
  rw [p_g hj (by decide), nI_clamp (by omega)]
  rfl
theorem p_join5 {al : Nat → Bool} {S : Nat → Nat} {n : Nat} {L : Nat → Nat} {ln : Nat} (hF : l_F al S n L ln) (hn : n < 14) (hS : ∀ c, c ≤ n → S c < 2 ^ 30) {μ : z_M} (hs : ∀ c, c ≤ n → μ.1 30 c = nI (S c)) : ∀ j fu μ', j < fu → j ≤ ln → z_un [29] μ μ' → (∀ i, i < j → μ'.1 29 i = nI (L i)) → (∀ i, j < i → i ≤ ln → μ'.1 29 i = nI (L (i - 1))) → (∀ i, j ≤ i → i < ln → S n < S (L i)) → ∃ j' μ'', j' ≤ ln ∧ (∀ i, j' ≤ i → i < ln → S n < S (L i)) ∧ (j' = 0 ∨ S (L (j' - 1)) ≤ S n) ∧ g_X2_joinLine_5 fu (nI n) (nI j) μ' = some (z_si μ'' 28 1 (μ''.1 28 1 + 1)) ∧ z_un [29] μ μ'' ∧ (∀ i, i < ln + 1 → μ''.1 29 i = nI (if i < j' then L i else if i = j' then n else L (i - 1))) := by
  have hln := hF.1
  have fin : ∀ j μ', j ≤ ln → z_un [29] μ μ' → (∀ i, i < j → μ'.1 29 i = nI (L i)) → (∀ i, j < i → i ≤ ln → μ'.1 29 i = nI (L (i - 1))) → z_un [29] μ (z_si μ' 29 j (nI n)) ∧ (∀ i, i < ln + 1 → (z_si μ' 29 j (nI n)).1 29 i = nI (if i < j then L i else if i = j then n else L (i - 1))) := by
    intro j μ' hj hun c1 c2
    refine ⟨hun.si (by simp) _ _, fun i hi => ?_⟩
    by_cases q : i < j
    · rw [if_pos q, p_si_nk (by omega), c1 i q]
    · rw [if_neg q]
      by_cases q2 : i = j
      · rw [if_pos q2, q2, p_si_at]
      · rw [if_neg q2, p_si_nk q2, c2 i (by omega) (by omega)]
  intro j
  induction j with
  | zero =>
    intro fu μ' hf hj hun c1 c2 hgt
    obtain ⟨fu, rfl⟩ : ∃ q, fu = q + 1 := ⟨fu - 1, by omega⟩
    obtain ⟨h1, h2⟩ := fin 0 μ' hj hun c1 c2
    refine ⟨0, _, hj, hgt, Or.inl rfl, ?_, h1, h2⟩
    unfold g_X2_joinLine_5
    rw [if_pos (by decide), p_join51 (by omega)]
  | succ j ih =>
    intro fu μ' hf hj hun c1 c2 hgt
    obtain ⟨fu, rfl⟩ : ∃ q, fu = q + 1 := ⟨fu - 1, by omega⟩
    have hLj := (hF.2.1 j (by omega)).1
    have e30 : μ'.1 30 = μ.1 30 := hun.1 30 (by decide)
    have S1 := hS (L j) (by omega)
    have S2 := hS n (by omega)
    have U : g_X2_joinLine_5 (fu + 1) (nI n) (nI (j + 1)) μ' = if S (L j) ≤ S n then g_X2_joinLine_51 (nI n) (nI (j + 1)) μ' else g_X2_joinLine_5 fu (nI n) (nI j) (z_si μ' 29 (j + 1) (nI (L j))) := by
      rw [g_X2_joinLine_5]
      rw [if_neg (nI_nle (by omega) (by omega)), nI_m1]
      simp only [if_pos (p_zn (n := j) (N := 14) (by omega) (by decide)), nI_clamp (show j < 2 ^ 31 by omega), c1 j (by omega), if_pos (p_zn (n := L j) (N := 14) (by omega) (by decide)), if_pos (p_zn (n := n) (N := 14) hn (by decide)), nI_clamp (show L j < 2 ^ 31 by omega), nI_clamp (show n < 2 ^ 31 by omega), e30, hs (L j) (by omega), hs n (Nat.le_refl n), if_pos (p_zn (n := j + 1) (N := 14) (by omega) (by decide)), nI_clamp (show j + 1 < 2 ^ 31 by omega), pk_m1, z_st_s]
      by_cases q : S (L j) ≤ S n
      · rw [if_pos q, if_pos (nI_le q (by omega))]
      · rw [if_neg q, if_neg (nI_ge (by omega) (by omega))]
    rw [U]
    by_cases q : S (L j) ≤ S n
    · obtain ⟨h1, h2⟩ := fin (j + 1) μ' hj hun c1 c2
      refine ⟨j + 1, _, hj, hgt, Or.inr (by rw [Nat.add_sub_cancel]; exact q), ?_, h1, h2⟩
      rw [if_pos q, p_join51 (by omega)]
    · rw [if_neg q]
      refine ih fu _ (by omega) (by omega) (hun.si (by simp) _ _) (fun i hi => ?_) (fun i h1 h2 => ?_) (fun i h1 h2 => ?_)
      · rw [p_si_nk (by omega), c1 i (by omega)]
      · by_cases e : i = j + 1
        · rw [e, p_si_at, Nat.add_sub_cancel]
        · rw [p_si_nk e, c2 i (by omega) h2]
      · by_cases e : i = j
        · rw [e]
          omega
        · exact hgt i (by omega) h2
theorem p_join {al : Nat → Bool} {S : Nat → Nat} {n : Nat} {L : Nat → Nat} {ln : Nat} (hF : l_F al S n L ln) (hn : n < 14) (hS : ∀ c, c ≤ n → S c < 2 ^ 30) {μ : z_M} (hs : ∀ c, c ≤ n → μ.1 30 c = nI (S c)) (ha : al n = true) (h28 : μ.1 28 1 = nI ln) (h29 : ∀ i, i < ln → μ.1 29 i = nI (L i)) : ∃ L' μ', f_X2_joinLine (nI n) μ = some μ' ∧ l_F al S (n + 1) L' (ln + 1) ∧ μ'.1 28 1 = nI (ln + 1) ∧ μ'.1 28 2 = μ.1 28 2 ∧ (∀ i, i < ln + 1 → μ'.1 29 i = nI (L' i)) ∧ z_un [28, 29] μ μ' := by
  have hln := hF.1
  have hN : z_N = 5000 := rfl
  obtain ⟨j', μ'', h1, h2, h3, h4, h5, h6⟩ := p_join5 hF hn hS hs ln z_N μ (by omega) (Nat.le_refl _) (z_un.rf _ _) h29 (fun i _ _ => by omega) (fun i _ _ => by omega)
  refine ⟨_, z_si μ'' 28 1 (μ''.1 28 1 + 1), ?_, hF.yes ha h1 h2 h3, ?_, ?_, fun i hi => ?_, ?_⟩
  · unfold f_X2_joinLine
    rw [h28]
    exact h4
  · rw [p_si_at, h5.1 28 (by decide), h28, nI_1]
  · rw [p_si_nk (by decide), h5.1 28 (by decide)]
  · rw [p_si_ne (by decide)]
    exact h6 i hi
  · exact (h5.mono (by simp)).si (by simp) _ _
/-! what a law, a ship, a day make of it -/
def rd (l : a_T) (s : a_S) (f c : Nat) : Bool := if f < 2 then p_bit (l 0 (a_k s c)) f == 1 else (p_bit (l 0 (a_k s c)) 2 == 1 && p_bit (s.2.2 8 c) (f - 2) == 1)
def y_of (l : a_T) (s : a_S) (d : Int32) : y_Q := (s.2.1, fun c => (s.2.2 6 c).toNatClampNeg, fun c => (a_stI l s c).toNat, fun c => decide (a_why l s d c = 0), fun f c => rd l s f c, fun f => if f = 0 then (s.2.2 10 0).toNatClampNeg - (l 6 3).toNatClampNeg else (s.2.2 10 f).toNatClampNeg)
theorem a_stI_in {l : a_T} {s : a_S} (hs : w_ship s) (hl : w_law l) {c : Nat} (hc : c < s.2.1) : 0 ≤ a_stI l s c ∧ a_stI l s c < 168000 := by
  obtain ⟨ek, hk⟩ := a_k_lt hs hc
  have wc := a_w_in hs l hc
  obtain ⟨q11, q12⟩ := (hl.1 _ hk).2.1
  obtain ⟨q41, q42⟩ := (hl.1 _ hk).2.2.2.2
  obtain ⟨v1, v2⟩ : p_in (a_vof s c) (-1) 5 := a_vo_in _ _ _ hs.1
  have uc : a_stI l s c = ((((1 - (l 1 (a_k s c)).toInt) * 7 + (if l 6 0 = 0 then 0 else if (l 1 (a_k s c)).toInt = 0 then 5 - (a_vof s c).toInt else 0)) * 8 + (l 4 (a_k s c)).toInt) * 1000 + a_w l s c) := rfl
  have tc : 0 ≤ (if l 6 0 = 0 then 0 else if (l 1 (a_k s c)).toInt = 0 then 5 - (a_vof s c).toInt else 0) ∧ (if l 6 0 = 0 then 0 else if (l 1 (a_k s c)).toInt = 0 then 5 - (a_vof s c).toInt else 0) ≤ 6 := by
    repeat' split
    all_goals omega
  rw [uc]
  omega
theorem nI_tn {x : Int32} (h : 0 ≤ x.toInt) : x = nI x.toInt.toNat := by
  have q := p_cl (x := x) (b := x.toInt) ⟨h, Int.le_refl _⟩
  have : x.toInt.toNat = x.toNatClampNeg := by omega
  rw [this]
  exact q.1
theorem p_am {x : Int32} {b : Nat} (h : p_in x 0 b) : x = nI x.toNatClampNeg ∧ x.toNatClampNeg ≤ b := by
  have q := p_cl h
  exact ⟨q.1, by have := h.2; omega⟩
def w_Q (Q : y_Q) : Prop := Q.1 ≤ 14 ∧ (∀ c, c < Q.1 → Q.2.1 c ≤ 999 ∧ Q.2.2.1 c < 168000) ∧ ∀ f, f < 5 → Q.2.2.2.2.2 f ≤ 9999
theorem w_Q.S {Q : y_Q} (h : w_Q Q) {c : Nat} (hc : c < Q.1) : Q.2.2.1 c < y_M := by
  rw [y_M_is]
  exact (h.2.1 c hc).2
theorem w_of {l : a_T} {s : a_S} (hs : w_ship s) (hl : w_law l) (d : Int32) : w_Q (y_of l s d) := by
  refine ⟨hs.2.1, fun c hc => ⟨?_, ?_⟩, fun f hf => ?_⟩
  · exact (p_am (b := 999) (hs.2.2.2.1 c hc).2.2.2.1).2
  · have := a_stI_in hs hl (c := c) hc
    show (a_stI l s c).toNat < 168000
    omega
  · have h := (p_am (b := 9999) (hs.2.2.2.2.1 f hf)).2
    show (if f = 0 then (s.2.2 10 0).toNatClampNeg - (l 6 3).toNatClampNeg else (s.2.2 10 f).toNatClampNeg) ≤ 9999
    split
    · next e =>
      rw [e] at h
      omega
    · exact h
/-- the set of funds of a claim -/
def rsN (r q : Nat) : Nat := r % 4 + (if r / 4 % 2 = 1 then 4 * q else 0)
theorem rs_is : ∀ r, r < 8 → ∀ q, q < 8 → ((nI r &&& (3 : Int32)) ||| (if p_bit (nI r) 2 = 1 then (nI q <<< ((2 : Int32) &&& 31)) else 0)) = nI (rsN r q) ∧ rsN r q < 32 ∧ ∀ f, f < 5 → (rsN r q).testBit f = (if f < 2 then p_bit (nI r) f == 1 else (p_bit (nI r) 2 == 1 && p_bit (nI q) (f - 2) == 1)) := by decide +kernel
theorem p_bitN : ∀ m, m < 32 → ∀ f, f < 5 → p_bit (nI m) f = if m.testBit f = true then 1 else 0 := by decide +kernel
theorem p_funds {μ : z_M} {o1 : Nat} {s : a_S} {l : a_T} {c : Nat} (hs : w_ship s) (hl : w_law l) (cl : c_law μ o1 l) (hc : c < s.2.1) : ∃ m, m < 32 ∧ f_X0_fundsFor o1 (s.2.2 3 c) (s.2.2 8 c) μ = some (nI m, μ) ∧ ∀ f, f < 5 → m.testBit f = rd l s f c := by
  obtain ⟨ek, hk⟩ := a_k_lt hs hc
  have l1 := (cl.1 _ hk).1
  have r1 := (hl.1 _ hk).1
  have q1 := (hs.2.2.2.1 c hc).2.2.2.2.2.1
  obtain ⟨r, er, hr, _⟩ := p_nat (x := l 0 (a_k s c)) (b := 7) ⟨by have := r1.1; omega, r1.2⟩
  obtain ⟨q, eq, hq, _⟩ := p_nat (x := s.2.2 8 c) (b := 7) q1
  obtain ⟨h1, h2, h3⟩ := rs_is r (by omega) q (by omega)
  refine ⟨rsN r q, h2, ?_, fun f hf => ?_⟩
  · unfold f_X0_fundsFor
    have eb : ∀ x, f_X4_bit x 2 μ = some (p_bit x 2, μ) := fun _ => rfl
    rw [ek]
    simp only [if_pos (p_zn hk (show 8 < 2 ^ 31 by decide)), nI_clamp (show a_k s c < 2 ^ 31 by omega), eb, z_b2_s, z_lt_s, l1, er, eq]
    show some (((nI r &&& (3 : Int32)) ||| (if p_bit (nI r) 2 = 1 then (nI q <<< ((2 : Int32) &&& 31)) else 0)), μ) = _
    rw [h1]
  · rw [h3 f hf]
    unfold rd
    rw [er, eq]
/-- the class's cells of a line -/
def c_pay (μ : z_M) (Q : y_Q) (n : Nat) (L : Nat → Nat) (ln : Nat) : Prop := μ.1 28 1 = nI ln ∧ μ.1 28 2 = nI Q.1 ∧ (∀ i, i < ln → μ.1 29 i = nI (L i)) ∧ (∀ c, c < n → μ.1 30 c = nI (Q.2.2.1 c) ∧ (∃ m, m < 32 ∧ μ.1 31 c = nI m ∧ ∀ f, f < 5 → m.testBit f = Q.2.2.2.2.1 f c) ∧ μ.1 32 c = nI (Q.2.1 c)) ∧ l_F Q.2.2.2.1 Q.2.2.1 n L ln
theorem p_up16 {μ0 : z_M} {o o1 : Nat} {s : a_S} {l : a_T} (hs : w_ship s) (hl : w_law l) (cs : c_ship μ0 o s) (cl : c_law μ0 o1 l) (ho : o + 10 < 28) (ho1 : 33 ≤ o1) {d : Int32} (hd : d.toInt ≤ 999) : ∀ m n fu L ln μ, n + m = s.2.1 → m < fu → z_un [28, 29, 30, 31, 32] μ0 μ → c_pay μ (y_of l s d) n L ln → ∃ L' ln' μ', g_X2_lineUp_16 o1 o fu d (nI n) μ = some μ' ∧ z_un [28, 29, 30, 31, 32] μ0 μ' ∧ c_pay μ' (y_of l s d) s.2.1 L' ln' := by
  have h14 : s.2.1 ≤ 14 := hs.2.1
  intro m
  induction m with
  | zero =>
    intro n fu L ln μ hn hf hun hp
    obtain ⟨fu, rfl⟩ : ∃ q, fu = q + 1 := ⟨fu - 1, by omega⟩
    have en : n = s.2.1 := by omega
    subst en
    refine ⟨L, ln, μ, ?_, hun, hp⟩
    have p2 : μ.1 28 2 = nI s.2.1 := hp.2.1
    rw [g_X2_lineUp_16]
    rw [p2, if_pos (nI_le (Nat.le_refl _) (by omega))]
  | succ m ih =>
    intro n fu L ln μ hn hf hun hp
    obtain ⟨fu, rfl⟩ : ∃ q, fu = q + 1 := ⟨fu - 1, by omega⟩
    have hc : n < s.2.1 := by omega
    obtain ⟨p1, p2, p3, p4, p5⟩ := hp
    have cs' : ∀ μ', z_un [28, 29, 30, 31, 32] μ0 μ' → c_ship μ' o s := fun μ' h => cs.cg (fun i _ _ => h.1 i (by simp; omega))
    have cl' : ∀ μ', z_un [28, 29, 30, 31, 32] μ0 μ' → c_law μ' o1 l := fun μ' h => cl.cg (fun i _ _ => h.1 i (by simp; omega))
    obtain ⟨m3, m4, m5, m6, m7, m8, m9⟩ := (cs' μ hun).2.2.2.1 n hc
    have hA := p_am (b := 999) (hs.2.2.2.1 n hc).2.2.2.1
    have u1 : z_un [28, 29, 30, 31, 32] μ0 (z_si μ 32 n (s.2.2 6 n)) := hun.si (by simp) _ _
    obtain ⟨M, hM, eM, bM⟩ := p_funds hs hl (cl' _ u1) hc
    obtain ⟨k3, k4, k5, k6, k7, k8, k9⟩ := (cs' _ u1).2.2.2.1 n hc
    have u2 : z_un [28, 29, 30, 31, 32] μ0 (z_si (z_si μ 32 n (s.2.2 6 n)) 31 n (nI M)) := u1.si (by simp) _ _
    have u3 : z_un [28, 29, 30, 31, 32] μ0 (z_si (z_si (z_si μ 32 n (s.2.2 6 n)) 31 n (nI M)) 30 n (a_st l s n)) := u2.si (by simp) _ _
    have hst := a_stI_in hs hl hc
    have est : a_st l s n = nI (a_stI l s n).toNat := by
      have h := a_st_I hs hl hc
      have := nI_tn (x := a_st l s n) (by omega)
      rw [h] at this
      exact this
    have hz : z_in (nI n) 14 := p_zn (by omega) (by decide)
    have U : g_X2_lineUp_16 o1 o (fu + 1) d (nI n) μ = if a_why l s d n = 0 then z_b1 (f_X2_joinLine (nI n) (z_si (z_si (z_si μ 32 n (s.2.2 6 n)) 31 n (nI M)) 30 n (a_st l s n))) (fun μ38 => g_X2_lineUp_16 o1 o fu d (nI (n + 1)) μ38) else g_X2_lineUp_16 o1 o fu d (nI (n + 1)) (z_si (z_si (z_si μ 32 n (s.2.2 6 n)) 31 n (nI M)) 30 n (a_st l s n)) := by
      rw [g_X2_lineUp_16]
      rw [p2, if_neg (show ¬ nI (y_of l s d).1 ≤ nI n from nI_ge (show n < s.2.1 from hc) (by show s.2.1 < 2 ^ 31; omega))]
      simp only [if_pos hz, nI_clamp (show n < 2 ^ 31 by omega), m6, z_st_s, k3, k8, eM, z_b2_s, p_stand4 hs (cs' _ u2) (cl' _ u2) hc, p_why4 hs hl (cs' _ u3) (cl' _ u3) hc hd, nI_1]
    rw [U]
    have base : c_pay (z_si (z_si (z_si μ 32 n (s.2.2 6 n)) 31 n (nI M)) 30 n (a_st l s n)) (y_of l s d) n L ln := by
      refine ⟨?_, ?_, fun i hi => ?_, fun c hc' => ?_, p5⟩
      · rw [p_si_ne (by decide), p_si_ne (by decide), p_si_ne (by decide), p1]
      · rw [p_si_ne (by decide), p_si_ne (by decide), p_si_ne (by decide), p2]
      · rw [p_si_ne (by decide), p_si_ne (by decide), p_si_ne (by decide), p3 i hi]
      · obtain ⟨q1, q2, q3⟩ := p4 c hc'
        refine ⟨?_, ?_, ?_⟩
        · rw [p_si_nk (by omega), p_si_ne (by decide), p_si_ne (by decide), q1]
        · rw [p_si_ne (by decide), p_si_nk (by omega), p_si_ne (by decide)]
          exact q2
        · rw [p_si_ne (by decide), p_si_ne (by decide), p_si_nk (by omega), q3]
    have new : (z_si (z_si (z_si μ 32 n (s.2.2 6 n)) 31 n (nI M)) 30 n (a_st l s n)).1 30 n = nI ((y_of l s d).2.2.1 n) ∧ (∃ m, m < 32 ∧ (z_si (z_si (z_si μ 32 n (s.2.2 6 n)) 31 n (nI M)) 30 n (a_st l s n)).1 31 n = nI m ∧ ∀ f, f < 5 → m.testBit f = (y_of l s d).2.2.2.2.1 f n) ∧ (z_si (z_si (z_si μ 32 n (s.2.2 6 n)) 31 n (nI M)) 30 n (a_st l s n)).1 32 n = nI ((y_of l s d).2.1 n) := by
      refine ⟨?_, ⟨M, hM, ?_, bM⟩, ?_⟩
      · rw [p_si_at]
        exact est
      · rw [p_si_ne (by decide), p_si_at]
      · rw [p_si_ne (by decide), p_si_ne (by decide), p_si_at]
        exact hA.1
    generalize z_si (z_si (z_si μ 32 n (s.2.2 6 n)) 31 n (nI M)) 30 n (a_st l s n) = μ3 at *
    obtain ⟨b1, b2, b3, b4, b5⟩ := base
    have all : ∀ c, c < n + 1 → μ3.1 30 c = nI ((y_of l s d).2.2.1 c) ∧ (∃ m, m < 32 ∧ μ3.1 31 c = nI m ∧ ∀ f, f < 5 → m.testBit f = (y_of l s d).2.2.2.2.1 f c) ∧ μ3.1 32 c = nI ((y_of l s d).2.1 c) := by
      intro c hc'
      by_cases e : c = n
      · rw [e]
        exact new
      · exact b4 c (by omega)
    by_cases hw : a_why l s d n = 0
    · rw [if_pos hw]
      have ha : (y_of l s d).2.2.2.1 n = true := decide_eq_true hw
      obtain ⟨L', μ', j1, j2, j3, j4, j5, j6⟩ := p_join b5 (by omega) (fun c hc' => by have := (w_of hs hl d).2.1 c (show c < s.2.1 by omega); omega) (fun c hc' => (all c (by omega)).1) ha b1 b3
      rw [j1, z_b1_s]
      refine ih (n + 1) fu L' (ln + 1) μ' (by omega) (by omega) (u3.tr (j6.mono (by simp))) ⟨j3, by rw [j4, b2], j5, fun c hc' => ?_, j2⟩
      rw [j6.1 30 (by decide), j6.1 31 (by decide), j6.1 32 (by decide)]
      exact all c hc'
    · rw [if_neg hw]
      exact ih (n + 1) fu L ln μ3 (by omega) (by omega) u3 ⟨b1, b2, b3, all, b5.no (fun q => hw (of_decide_eq_true q))⟩
theorem p_lineUp {μ : z_M} {o o1 : Nat} {s : a_S} {l : a_T} (hs : w_ship s) (hl : w_law l) (cs : c_ship μ o s) (cl : c_law μ o1 l) (ho : o + 10 < 28) (ho1 : 33 ≤ o1) {d : Int32} (hd : d.toInt ≤ 999) : ∃ L ln μ', f_X2_lineUp o1 o d μ = some μ' ∧ z_un [28, 29, 30, 31, 32] μ μ' ∧ c_pay μ' (y_of l s d) s.2.1 L ln := by
  have h14 : s.2.1 ≤ 14 := hs.2.1
  have hN : z_N = 5000 := rfl
  have e : (z_si μ 28 1 0).1 o 1 = nI s.2.1 := by
    rw [p_si_ne (by omega)]
    exact cs.2.1
  obtain ⟨L, ln, μ', h1, h2, h3⟩ := p_up16 hs hl cs cl ho ho1 hd s.2.1 0 z_N (fun _ => 0) 0 (z_si (z_si μ 28 1 0) 28 2 (nI s.2.1)) (by omega) (by omega) (((z_un.rf _ _).si (by simp) _ _).si (by simp) _ _) ⟨by rw [p_si_nk (by decide), p_si_at]; rfl, by rw [p_si_at]; rfl, fun i hi => by omega, fun c hc => by omega, Nat.le_refl _, fun i hi => by omega, fun c hc => by omega, fun i j h1 h2 => by omega⟩
  refine ⟨L, ln, μ', ?_, h2, h3⟩
  unfold f_X2_lineUp
  show g_X2_lineUp_16 o1 o z_N d 0 (z_si (z_si μ 28 1 0) 28 2 ((z_si μ 28 1 0).1 o 1)) = _
  rw [e]
  exact h1
