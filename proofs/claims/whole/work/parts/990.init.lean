/-! PURE: the initial state -/
/-- references as a list, the last written first -/
def rfL (l : List (Nat × Nat × Nat)) (a k : Nat) : Option Nat := (l.find? (fun q => decide (q.1 = a ∧ q.2.1 = k))).map (fun q => q.2.2)
theorem rfL_sr {μ : z_M} {l : List (Nat × Nat × Nat)} (h : μ.2.2 = rfL l) (a k r : Nat) : (z_sr μ a k (some r)).2.2 = rfL ((a, k, r) :: l) := by
  funext i j
  by_cases e : i = a
  · subst e
    rw [z_sr_at, h]
    by_cases e2 : j = k
    · subst e2
      rw [if_pos rfl]
      simp [rfL]
    · rw [if_neg e2]
      have : ¬ k = j := fun w => e2 w.symm
      simp [rfL, this]
  · rw [z_sr_ne e, h]
    have : ¬ a = i := fun w => e w.symm
    simp [rfL, this]
theorem rfL_in {l : List (Nat × Nat × Nat)} {a k r : Nat} (h : rfL l a k = some r) : ∃ q ∈ l, q.1 = a ∧ q.2.2 = r := by
  unfold rfL at h
  rw [Option.map_eq_some_iff] at h
  obtain ⟨q, h1, h2⟩ := h
  have h3 := List.find?_some h1
  have h4 := of_decide_eq_true h3
  exact ⟨q, List.mem_of_find?_eq_some h1, h4.1, h2⟩
theorem rfL_all {l : List (Nat × Nat × Nat)} {a k r : Nat} {X : List Nat} (hl : ∀ q ∈ l, q.1 = a → q.2.2 ∈ X) (h : rfL l a k = some r) : r ∈ X := by
  obtain ⟨q, q1, q2, q3⟩ := rfL_in h
  rw [← q3]
  exact hl q q1 q2
theorem rfL_all2 {l : List (Nat × Nat × Nat)} {a k r : Nat} {X : List Nat} (hl : ∀ q ∈ l, q.1 = a → q.2.1 = k → q.2.2 ∈ X) (h : rfL l a k = some r) : r ∈ X := by
  unfold rfL at h
  rw [Option.map_eq_some_iff] at h
  obtain ⟨q, q1, q2⟩ := h
  have q3 := List.find?_some q1
  have q4 := of_decide_eq_true q3
  rw [← q2]
  exact hl q (List.mem_of_find?_eq_some q1) q4.1 q4.2
theorem z_sr_f (μ : z_M) (i k : Nat) (x : Option Nat) : (z_sr μ i k x).1 = μ.1 := rfl
theorem z_rows_f (μ : z_M) (n : Nat) : (z_rows μ n).1 = μ.1 := rfl
theorem rfL_rows {μ : z_M} {l : List (Nat × Nat × Nat)} (h : μ.2.2 = rfL l) (hl : ∀ q ∈ l, q.1 ≠ 39) : (z_rows μ 39).2.2 = rfL ((39, 0, 40) :: (39, 1, 41) :: (39, 2, 42) :: (39, 3, 43) :: (39, 4, 44) :: (39, 5, 45) :: l) := by
  funext i j
  show (if i = 39 then (fun k => if k < 6 then some (39 + 1 + k) else none) else μ.2.2 i) j = _
  by_cases e : i = 39
  · subst e
    rw [if_pos rfl]
    by_cases e2 : j < 6
    · match j, e2 with
      | 0, _ => rfl
      | 1, _ => rfl
      | 2, _ => rfl
      | 3, _ => rfl
      | 4, _ => rfl
      | 5, _ => rfl
    · have n0 : ¬ 0 = j := by omega
      have n1 : ¬ 1 = j := by omega
      have n2 : ¬ 2 = j := by omega
      have n3 : ¬ 3 = j := by omega
      have n4 : ¬ 4 = j := by omega
      have n5 : ¬ 5 = j := by omega
      have w : rfL l 39 j = none := by
        cases hq : rfL l 39 j with
        | none => rfl
        | some r =>
          obtain ⟨q, q1, q2, -⟩ := rfL_in hq
          exact absurd q2 (hl q q1)
      rw [if_neg e2]
      unfold rfL at w ⊢
      simp only [List.find?_cons, n0, n1, n2, n3, n4, n5, and_false, decide_false]
      exact w.symm
  · rw [if_neg e, h]
    have : ¬ 39 = i := fun w => e w.symm
    simp [rfL, this]
theorem i_X1 {μ : z_M} {l : List (Nat × Nat × Nat)} (h : μ.2.2 = rfL l) : ∃ μ', f_X1_init μ = some μ' ∧ μ'.2.2 = rfL ((2, 0, 3) :: l) ∧ (∀ i, i ≠ 2 → μ'.1 i = μ.1 i) ∧ (∀ k, k ≠ 2 → k ≠ 3 → μ'.1 2 k = μ.1 2 k) ∧ μ'.1 2 2 = 0 ∧ μ'.1 2 3 = -1 := by
  refine ⟨z_si (z_si (z_sr μ 2 0 (some 3)) 2 2 0) 2 3 (-1), ?_, rfL_sr h 2 0 3, fun i hi => ?_, fun k h1 h2 => ?_, ?_, p_si_at _ _ _ _⟩
  · unfold f_X1_init
    rw [z_st_s, z_st_s, z_st_s]
  · rw [p_si_ne hi, p_si_ne hi]
    rfl
  · rw [p_si_nk h2, p_si_nk h1]
    rfl
  · rw [p_si_nk (by decide), p_si_at]
theorem i_X3 {μ : z_M} {l : List (Nat × Nat × Nat)} (o : Nat) (h : μ.2.2 = rfL l) : ∃ μ', f_X3_init o μ = some μ' ∧ μ'.2.2 = rfL ((o, 12, o + 10) :: (o, 11, o + 9) :: (o, 10, o + 8) :: (o, 9, o + 7) :: (o, 8, o + 6) :: (o, 7, o + 5) :: (o, 6, o + 4) :: (o, 5, o + 3) :: (o, 4, o + 2) :: (o, 3, o + 1) :: l) ∧ μ'.1 = μ.1 := by
  have r := rfL_sr (rfL_sr (rfL_sr (rfL_sr (rfL_sr (rfL_sr (rfL_sr (rfL_sr (rfL_sr (rfL_sr h o 3 (o + 1)) o 4 (o + 2)) o 5 (o + 3)) o 6 (o + 4)) o 7 (o + 5)) o 8 (o + 6)) o 9 (o + 7)) o 10 (o + 8)) o 11 (o + 9)) o 12 (o + 10)
  refine ⟨_, ?_, r, by simp only [z_sr_f]⟩
  unfold f_X3_init
  simp only [z_st_s]
theorem i_X2 {μ : z_M} {l : List (Nat × Nat × Nat)} (h : μ.2.2 = rfL l) (hl : ∀ q ∈ l, q.1 ≠ 39) : ∃ μ', f_X2_init μ = some μ' ∧ μ'.2.2 = rfL ((28, 15, 48) :: (28, 14, 47) :: (28, 13, 46) :: (28, 12, 39) :: (39, 0, 40) :: (39, 1, 41) :: (39, 2, 42) :: (39, 3, 43) :: (39, 4, 44) :: (39, 5, 45) :: (28, 11, 38) :: (28, 10, 37) :: (28, 9, 36) :: (28, 8, 35) :: (28, 7, 34) :: (28, 6, 33) :: (28, 5, 32) :: (28, 4, 31) :: (28, 3, 30) :: (28, 0, 29) :: l) ∧ μ'.1 = μ.1 := by
  have r0 := rfL_sr (rfL_sr (rfL_sr (rfL_sr (rfL_sr (rfL_sr (rfL_sr (rfL_sr (rfL_sr (rfL_sr h 28 0 29) 28 3 30) 28 4 31) 28 5 32) 28 6 33) 28 7 34) 28 8 35) 28 9 36) 28 10 37) 28 11 38
  have r1 := rfL_rows r0 (fun q hq => by
    simp only [List.mem_cons] at hq
    rcases hq with rfl | rfl | rfl | rfl | rfl | rfl | rfl | rfl | rfl | rfl | hq
    · decide
    · decide
    · decide
    · decide
    · decide
    · decide
    · decide
    · decide
    · decide
    · decide
    · exact hl q hq)
  have r := rfL_sr (rfL_sr (rfL_sr (rfL_sr r1 28 12 39) 28 13 46) 28 14 47) 28 15 48
  refine ⟨_, ?_, r, by simp only [z_sr_f, z_rows_f]⟩
  unfold f_X2_init
  simp only [z_st_s]
/-- a law of which nothing is told -/
def lb (μ : z_M) (o : Nat) : Prop := (∀ k, k < 8 → μ.1 (o + 1) k = 1 ∧ μ.1 (o + 2) k = 0 ∧ μ.1 (o + 3) k = 0 ∧ μ.1 (o + 4) k = 0) ∧ ∀ i, 4 ≤ i → i ≤ 12 → μ.1 o i = 0
theorem lb.cg {μ μ' : z_M} {o : Nat} (h : lb μ o) (hh : ∀ i, o ≤ i → i ≤ o + 4 → μ'.1 i = μ.1 i) : lb μ' o := by
  unfold lb at h ⊢
  rw [hh o (by omega) (by omega), hh (o + 1) (by omega) (by omega), hh (o + 2) (by omega) (by omega), hh (o + 3) (by omega) (by omega), hh (o + 4) (by omega) (by omega)]
  exact h
theorem i_X0 {μ : z_M} {l : List (Nat × Nat × Nat)} (o : Nat) (h : μ.2.2 = rfL l) : ∃ μ', f_X0_init o μ = some μ' ∧ μ'.2.2 = rfL ((o, 3, o + 4) :: (o, 2, o + 3) :: (o, 1, o + 2) :: (o, 0, o + 1) :: l) ∧ (∀ i, i < o ∨ o + 4 < i → μ'.1 i = μ.1 i) ∧ lb μ' o := by
  have r := rfL_sr (rfL_sr (rfL_sr (rfL_sr h o 0 (o + 1)) o 1 (o + 2)) o 2 (o + 3)) o 3 (o + 4)
  obtain ⟨μ', e, F, a, b⟩ := p_tellN o (z_sr (z_sr (z_sr (z_sr μ o 0 (some (o + 1))) o 1 (some (o + 2))) o 2 (some (o + 3))) o 3 (some (o + 4)))
  refine ⟨μ', ?_, ?_, fun i hi => funext fun k => F.1 i k (by unfold Wt; omega), a, b⟩
  · unfold f_X0_init
    rw [z_st_s, z_st_s, z_st_s, z_st_s, e, z_b1_s]
  · rw [F.2]
    exact r
/-- the blank table -/
def T0 : a_T := fun f _ => if f = 0 then 1 else 0
theorem T0_w : w_law T0 := by
  unfold w_law
  decide +kernel
theorem lb.c {μ : z_M} {o : Nat} (h : lb μ o) : c_law μ o T0 := by
  obtain ⟨h1, h2⟩ := h
  refine ⟨fun k hk => ⟨(h1 k hk).1, ?_, (h1 k hk).2.1, ?_, (h1 k hk).2.2.2⟩, fun a b ha hb => ?_, h2 11 (by decide) (by decide), h2 9 (by decide) (by decide), h2 12 (by decide) (by decide), h2 10 (by decide) (by decide), h2 8 (by decide) (by decide), h2 7 (by decide) (by decide)⟩
  · rw [h2 4 (by decide) (by decide), h2 5 (by decide) (by decide), p_0bit k (by omega)]
    rfl
  · rw [h2 6 (by decide) (by decide), p_0bit k (by omega)]
    rfl
  · rw [(h1 a ha).2.2.1, p_0bit b (by omega)]
    rfl
theorem p_init4 : ∃ μ1 l, f_X4_init z_mz = some μ1 ∧ μ1.2.2 = rfL l ∧ z_okC (rfL l) ∧ (∀ i, i < 2 → rfL l 26 i = some (76 + 11 * i)) ∧ (∀ i, i < 6 → rfL l 39 i = some (40 + i)) ∧ (∀ n, n < 4 → rfL l 1 n = some (56 + 5 * n)) ∧ rfL l 0 9 = some 51 ∧ (∀ i k, i ≠ 2 → (i < 51 ∨ 75 < i) → μ1.1 i k = 0) ∧ μ1.1 2 1 = 0 ∧ μ1.1 2 3 = -1 ∧ ∀ n, n < 4 → lb μ1 (56 + 5 * n) := by
  have rz : z_mz.2.2 = rfL [] := rfl
  obtain ⟨m1, e1, r1, c1, c1b, c1c, c1d⟩ := i_X1 (rfL_sr rz 0 0 1)
  obtain ⟨m2, e2, r2, c2⟩ := i_X3 4 (rfL_sr r1 0 1 2)
  obtain ⟨m3, e3, r3, c3⟩ := i_X3 15 (rfL_sr r2 0 2 4)
  obtain ⟨m4, e4, r4, c4⟩ := i_X2 (rfL_sr (rfL_sr (rfL_sr r3 0 3 15) 0 4 26) 0 5 27) (by decide +kernel)
  obtain ⟨m5, e5, r5, c5, b5⟩ := i_X0 51 (rfL_sr (rfL_sr (rfL_sr r4 0 6 28) 0 7 49) 0 8 50)
  obtain ⟨m6, e6, r6, c6, b6⟩ := i_X0 56 (rfL_sr r5 0 9 51)
  obtain ⟨m7, e7, r7, c7, b7⟩ := i_X0 61 (rfL_sr r6 1 0 56)
  obtain ⟨m8, e8, r8, c8, b8⟩ := i_X0 66 (rfL_sr r7 1 1 61)
  obtain ⟨m9, e9, r9, c9, b9⟩ := i_X0 71 (rfL_sr r8 1 2 66)
  obtain ⟨m10, e10, r10, c10⟩ := i_X3 76 (rfL_sr r9 1 3 71)
  obtain ⟨m11, e11, r11, c11⟩ := i_X3 87 (rfL_sr r10 26 0 76)
  have r12 := rfL_sr r11 26 1 87
  have d4 : m4.1 = m1.1 := c4.trans (c3.trans c2)
  have d9 : ∀ i, i < 51 ∨ 75 < i → m9.1 i = m1.1 i := fun i hi => by
    rw [c9 i (by omega)]
    show m8.1 i = _
    rw [c8 i (by omega)]
    show m7.1 i = _
    rw [c7 i (by omega)]
    show m6.1 i = _
    rw [c6 i (by omega)]
    show m5.1 i = _
    rw [c5 i (by omega)]
    show m4.1 i = _
    rw [d4]
  have d11 : m11.1 = m9.1 := c11.trans c10
  refine ⟨_, _, ?_, r12, ?_, by decide +kernel, by decide +kernel, by decide +kernel, by decide +kernel, fun i k h1 h2 => ?_, ?_, ?_, fun n hn => ?_⟩
  · unfold f_X4_init
    rw [z_st_s, e1, z_b1_s, z_st_s, e2, z_b1_s, z_st_s, e3, z_b1_s, z_st_s, z_st_s, z_st_s, e4, z_b1_s, z_st_s, z_st_s, z_st_s, e5, z_b1_s, z_st_s, e6, z_b1_s, z_st_s, e7, z_b1_s, z_st_s, e8, z_b1_s, z_st_s, e9, z_b1_s, z_st_s, e10, z_b1_s, z_st_s, e11, z_b1_s, z_st_s]
  · refine ⟨by decide +kernel, fun r hr => ?_, fun k r hr => ?_, fun k r hr => ?_, fun k r hr => ?_⟩
    · exact rfL_all2 (by decide +kernel) hr
    · exact rfL_all (by decide +kernel) hr
    · exact rfL_all (by decide +kernel) hr
    · exact rfL_all (by decide +kernel) hr
  · show m11.1 i k = 0
    rw [d11, d9 i h2, c1 i h1]
    rfl
  · show m11.1 2 1 = 0
    rw [d11, d9 2 (by decide), c1b 1 (by decide) (by decide)]
    rfl
  · show m11.1 2 3 = -1
    rw [d11, d9 2 (by decide)]
    exact c1d
  · refine lb.cg (μ := m9) ?_ (fun i _ _ => by show m11.1 i = _; rw [d11])
    have y8 : ∀ i, i < 71 → m9.1 i = m8.1 i := fun i hi => c9 i (Or.inl hi)
    have y7 : ∀ i, i < 66 → m9.1 i = m7.1 i := fun i hi => (y8 i (by omega)).trans (c8 i (Or.inl hi))
    have y6 : ∀ i, i < 61 → m9.1 i = m6.1 i := fun i hi => (y7 i (by omega)).trans (c7 i (Or.inl hi))
    match n, hn with
    | 0, _ => exact b6.cg (fun i _ h => y6 i (by omega))
    | 1, _ => exact b7.cg (fun i _ h => y7 i (by omega))
    | 2, _ => exact b8.cg (fun i _ h => y8 i (by omega))
    | 3, _ => exact b9
theorem hH_0 : ∀ k, k < 8 → hH (cl (fun _ _ => false) 8) k = 0 := by decide +kernel
theorem cT_0 : ∀ k, k < 64 → cT (cl (fun _ _ => false) 8) k = 0 := by decide +kernel
theorem i_law {n : Nat} {ν : z_M} (hn : n < 4) (h : ∀ m, m < n → m_law ν m T0) : ∃ ν1 ν2, f_X5_bare ν = some ν1 ∧ f_X5_keepLaw (nI n) ν1 = some ν2 ∧ (∀ m, m < n + 1 → m_law ν2 m T0) ∧ (∀ i, i < 99 ∨ 113 < i → ν2.1 i = ν.1 i) ∧ ν2.2.2 = ν.2.2 := by
  obtain ⟨ν1, e1, F1, b1, b2, b3⟩ := p_bare ν
  obtain ⟨ν2, e2, F2, m2⟩ := p_keepLaw (n := n) (s := fun _ _ => false) (ν := ν1) hn (fun _ _ w => absurd w (by decide)) (fun a b ha hb => by
    rw [b2 (8 * a + b) (by omega)]
    rfl)
  refine ⟨ν1, ν2, e1, e2, fun m hm => ?_, fun i hi => funext fun k => ?_, ?_⟩
  · by_cases w : m = n
    · subst w
      obtain ⟨q1, q2, q3⟩ := m2
      refine ⟨fun k hk => ?_, fun k hk => ?_, fun k hk => ?_⟩
      · obtain ⟨y1, y2, y3, y4, y5⟩ := q1 k hk
        obtain ⟨x1, x2, x3, x4⟩ := b1 k hk
        refine ⟨y1.trans ?_, y2.trans x2, y3.trans x3, y4.trans ?_, y5.trans ?_⟩
        · show (if ν1.1 105 k = 0 then 1 else ν1.1 105 k) = 1
          rw [if_pos x1]
        · show (ν1.1 108 k &&& 1) = 0
          rw [x4]
          decide
        · show nI (hH (cl (fun _ _ => false) 8) k) = 0
          rw [hH_0 k hk]
          exact nI_0
      · exact (q2 k hk).trans (cT_0 k hk)
      · exact (q3 k hk).trans (b3 k hk)
    · exact ((h m (by omega)).cg (fun i hi => funext fun k => F1.1 i k (by unfold Wb; omega))).kF F2 (fun e => w e.symm)
  · rw [F2.read i k (by omega), F1.1 i k (by unfold Wb; omega)]
  · rw [F2.2]
    exact F1.2
theorem i_img {ν : z_M} : ∀ d j fu ν1, j + d = 300 → d < fu → (∀ a, a ≠ 134 → ν1.1 a = ν.1 a) → ν1.2.2 = ν.2.2 → ∃ ν', g_X5_beginImages_2 fu (nI j) ν1 = some ν' ∧ (∀ a, a ≠ 134 → ν'.1 a = ν.1 a) ∧ ν'.2.2 = ν.2.2 := by
  intro d
  induction d with
  | zero =>
    intro j fu ν1 hj hf h1 h2
    obtain ⟨fu, rfl⟩ : ∃ q, fu = q + 1 := ⟨fu - 1, by omega⟩
    have ej : j = 300 := by omega
    subst ej
    refine ⟨ν1, ?_, h1, h2⟩
    rw [g_X5_beginImages_2]
    rw [if_pos (show (300 : Int32) ≤ nI 300 by decide)]
  | succ d ih =>
    intro j fu ν1 hj hf h1 h2
    obtain ⟨fu, rfl⟩ : ∃ q, fu = q + 1 := ⟨fu - 1, by omega⟩
    rw [g_X5_beginImages_2]
    rw [if_neg (show ¬ (300 : Int32) ≤ nI j from p_nle (a := 300) (by omega) (by decide)), p_g (show j < 300 by omega) (by decide), z_st_s, nI_1]
    exact ih (j + 1) fu _ (by omega) (by omega) (fun a ha => by rw [p_si_ne ha]; exact h1 a ha) h2
theorem rfL_si {μ : z_M} {l : List (Nat × Nat × Nat)} (h : μ.2.2 = rfL l) (a k : Nat) (x : Int32) : (z_si μ a k x).2.2 = rfL l := h
/-- the reference's references -/
def rf5 : List (Nat × Nat × Nat) := [(98, 47, 135), (98, 46, 134), (98, 45, 133), (98, 44, 132), (98, 43, 131), (98, 42, 130), (98, 41, 129), (98, 40, 128), (98, 39, 127), (98, 38, 126), (98, 37, 125), (98, 36, 124), (98, 35, 123), (98, 34, 122), (98, 33, 121), (98, 32, 120), (98, 31, 119), (98, 30, 118), (98, 29, 117), (98, 28, 116), (98, 26, 115), (98, 25, 114), (98, 23, 113), (98, 22, 112), (98, 12, 111), (98, 11, 110), (98, 10, 109), (98, 9, 108), (98, 8, 107), (98, 7, 106), (98, 6, 105), (98, 5, 104), (98, 4, 103), (98, 3, 102), (98, 2, 101), (98, 1, 100), (98, 0, 99)]
/-- the rest of the reference's start, behind its allocations -/
def k_X5 (μ : z_M) : Option z_M := (z_b1 (f_X5_bare μ) fun μ485 => (z_b1 (f_X5_keepLaw (0 : Int32) μ485) fun μ490 => (z_b1 (f_X5_bare μ490) fun μ495 => (z_b1 (f_X5_keepLaw (1 : Int32) μ495) fun μ500 => (z_b1 (f_X5_bare μ500) fun μ505 => (z_b1 (f_X5_keepLaw (2 : Int32) μ505) fun μ510 => (z_b1 (f_X5_bare μ510) fun μ515 => (z_b1 (f_X5_keepLaw (3 : Int32) μ515) fun μ520 => (z_b1 (f_X5_beginImages μ520) fun μ525 => (some μ525))))))))))
theorem i_k5 (ν : z_M) : ∃ ν', k_X5 ν = some ν' ∧ (∀ m, m < 4 → m_law ν' m T0) ∧ (∀ i, i < 99 ∨ (113 < i ∧ i ≠ 134) → ν'.1 i = ν.1 i) ∧ ν'.2.2 = ν.2.2 := by
  have hN : z_N = 5000 := rfl
  obtain ⟨a1, a2, p1, q1, l1, f1, g1⟩ := i_law (n := 0) (ν := ν) (by decide) (fun m hm => absurd hm (Nat.not_lt_zero m))
  obtain ⟨b1, b2, p2, q2, l2, f2, g2⟩ := i_law (n := 1) (ν := a2) (by decide) l1
  obtain ⟨c1, c2, p3, q3, l3, f3, g3⟩ := i_law (n := 2) (ν := b2) (by decide) l2
  obtain ⟨d1, d2, p4, q4, l4, f4, g4⟩ := i_law (n := 3) (ν := c2) (by decide) l3
  obtain ⟨ν', e, f5, g5⟩ := i_img (ν := d2) 300 0 z_N d2 (by omega) (by omega) (fun _ _ => rfl) rfl
  refine ⟨ν', ?_, fun m hm => (l4 m hm).cg (fun i hi => f5 i (by omega)), fun i hi => ?_, ?_⟩
  · have e0 : f_X5_beginImages d2 = some ν' := by
      unfold f_X5_beginImages
      rw [nI_0] at e
      exact e
    have i0 : (0 : Int32) = nI 0 := nI_0.symm
    have i1 : (1 : Int32) = nI 1 := by decide
    have i2 : (2 : Int32) = nI 2 := by decide
    have i3 : (3 : Int32) = nI 3 := by decide
    unfold k_X5
    rw [i0, i1, i2, i3, p1, z_b1_s, q1, z_b1_s, p2, z_b1_s, q2, z_b1_s, p3, z_b1_s, q3, z_b1_s, p4, z_b1_s, q4, z_b1_s, e0, z_b1_s]
  · rw [f5 i (by omega), f4 i (by omega), f3 i (by omega), f2 i (by omega), f1 i (by omega)]
  · rw [g5, g4, g3, g2, g1]
theorem p_init5 {μ : z_M} {l : List (Nat × Nat × Nat)} (h : μ.2.2 = rfL l) : ∃ μ2, f_X5_init μ = some μ2 ∧ μ2.2.2 = rfL (rf5 ++ l) ∧ (∀ i, i < 98 ∨ (113 < i ∧ i ≠ 134) → μ2.1 i = μ.1 i) ∧ (∀ k, k ≠ 14 → μ2.1 98 k = μ.1 98 k) ∧ μ2.1 98 14 = -1 ∧ ∀ m, m < 4 → m_law μ2 m T0 := by
  have r := rfL_sr (rfL_sr (rfL_sr (rfL_sr (rfL_sr (rfL_sr (rfL_sr (rfL_sr (rfL_sr (rfL_sr (rfL_sr (rfL_sr (rfL_sr (rfL_sr (rfL_sr (rfL_sr (rfL_sr (rfL_sr (rfL_sr (rfL_sr (rfL_sr (rfL_sr (rfL_sr (rfL_sr (rfL_si (rfL_sr (rfL_sr (rfL_sr (rfL_sr (rfL_sr (rfL_sr (rfL_sr (rfL_sr (rfL_sr (rfL_sr (rfL_sr (rfL_sr (rfL_sr h 98 0 99) 98 1 100) 98 2 101) 98 3 102) 98 4 103) 98 5 104) 98 6 105) 98 7 106) 98 8 107) 98 9 108) 98 10 109) 98 11 110) 98 12 111) 98 14 (-1)) 98 22 112) 98 23 113) 98 25 114) 98 26 115) 98 28 116) 98 29 117) 98 30 118) 98 31 119) 98 32 120) 98 33 121) 98 34 122) 98 35 123) 98 36 124) 98 37 125) 98 38 126) 98 39 127) 98 40 128) 98 41 129) 98 42 130) 98 43 131) 98 44 132) 98 45 133) 98 46 134) 98 47 135
  obtain ⟨μ2, e, f1, f2, f3⟩ := i_k5 (z_sr (z_sr (z_sr (z_sr (z_sr (z_sr (z_sr (z_sr (z_sr (z_sr (z_sr (z_sr (z_sr (z_sr (z_sr (z_sr (z_sr (z_sr (z_sr (z_sr (z_sr (z_sr (z_sr (z_sr (z_si (z_sr (z_sr (z_sr (z_sr (z_sr (z_sr (z_sr (z_sr (z_sr (z_sr (z_sr (z_sr (z_sr μ 98 0 (some 99)) 98 1 (some 100)) 98 2 (some 101)) 98 3 (some 102)) 98 4 (some 103)) 98 5 (some 104)) 98 6 (some 105)) 98 7 (some 106)) 98 8 (some 107)) 98 9 (some 108)) 98 10 (some 109)) 98 11 (some 110)) 98 12 (some 111)) 98 14 (-1)) 98 22 (some 112)) 98 23 (some 113)) 98 25 (some 114)) 98 26 (some 115)) 98 28 (some 116)) 98 29 (some 117)) 98 30 (some 118)) 98 31 (some 119)) 98 32 (some 120)) 98 33 (some 121)) 98 34 (some 122)) 98 35 (some 123)) 98 36 (some 124)) 98 37 (some 125)) 98 38 (some 126)) 98 39 (some 127)) 98 40 (some 128)) 98 41 (some 129)) 98 42 (some 130)) 98 43 (some 131)) 98 44 (some 132)) 98 45 (some 133)) 98 46 (some 134)) 98 47 (some 135))
  refine ⟨μ2, ?_, f3.trans r, fun i hi => ?_, fun k hk => ?_, ?_, f1⟩
  · unfold f_X5_init
    unfold k_X5 at e
    simp only [z_st_s]
    exact e
  · rw [f2 i (by omega)]
    simp only [z_sr_f]
    rw [p_si_ne (by omega)]
    simp only [z_sr_f]
  · rw [f2 98 (by omega)]
    simp only [z_sr_f]
    rw [p_si_nk hk]
    simp only [z_sr_f]
  · rw [f2 98 (by omega)]
    simp only [z_sr_f]
    exact p_si_at _ _ _ _
/-- both refer as z_ok asks -/
theorem rf5_no : ∀ q ∈ rf5, q.1 = 98 := by decide +kernel
theorem rf5_RL : ∀ q ∈ z_RL5, rfL rf5 q.1 q.2.1 = some q.2.2 := by decide +kernel
theorem rfL_ne {l : List (Nat × Nat × Nat)} {i : Nat} (hi : i ≠ 98) : rfL (rf5 ++ l) i = rfL l i := by
  funext k
  unfold rfL
  have : rf5.find? (fun q => decide (q.1 = i ∧ q.2.1 = k)) = none := by
    rw [List.find?_eq_none]
    intro q hq w
    have w' := of_decide_eq_true w
    exact hi (w'.1.symm.trans (rf5_no q hq))
  rw [List.find?_append, this, Option.none_or]
theorem rfL_98 {l : List (Nat × Nat × Nat)} : ∀ q ∈ z_RL5, rfL (rf5 ++ l) q.1 q.2.1 = some q.2.2 := by
  intro q hq
  have := rf5_RL q hq
  unfold rfL at this ⊢
  rw [Option.map_eq_some_iff] at this
  obtain ⟨y, y1, y2⟩ := this
  rw [List.find?_append, y1, Option.some_or, Option.map_some, y2]
/-- the start's state -/
def A0 : a_A := ((0, 0, fun _ _ => 0), fun _ => 0, fun _ => (0, 0, fun _ _ => 0), [], -1, fun _ => T0)
theorem A0_s : w_ship (0, 0, fun _ _ => 0) := by
  unfold w_ship
  decide +kernel
theorem A0_w : w_A A0 := ⟨A0_s, fun _ _ => ⟨Or.inl rfl, A0_s⟩, Nat.zero_le 240, fun x hx => (List.not_mem_nil hx).elim, fun _ _ => T0_w⟩
theorem p_start : ∃ μ1 μ2, f_X4_init z_mz = some μ1 ∧ z_okC μ1.2.2 ∧ f_X5_init μ1 = some μ2 ∧ Inv0 μ2 := by
  obtain ⟨μ1, l, e1, r1, k1, k26, k39, kn, k9, z1, z21, z23, lw⟩ := p_init4
  obtain ⟨μ2, e2, r2, f1, f2, f3, f4⟩ := p_init5 r1
  have lo : ∀ i, i < 98 → μ2.1 i = μ1.1 i := fun i hi => f1 i (Or.inl hi)
  have zz : ∀ i k, i ≠ 2 → (i < 51 ∨ (75 < i ∧ i < 98) ∨ (113 < i ∧ i ≠ 134)) → μ2.1 i k = 0 := fun i k h1 h2 => by
    rw [f1 i (by omega)]
    exact z1 i k h1 (by omega)
  have z98 : ∀ k, k ≠ 14 → μ2.1 98 k = 0 := fun k hk => by
    rw [f2 k hk]
    exact z1 98 k (by decide) (by decide)
  have ok : z_ok z_SH μ2.2.2 := by
    rw [r2]
    exact z_ok_of rfl k1 (fun i hi => rfL_ne hi) rfL_98
  refine ⟨μ1, μ2, e1, by rw [r1]; exact k1, e2, A0, A0_w, ⟨?_, fun i hi => ⟨?_, fun q => absurd (show (0 : Int32) = 1 from q) (by decide)⟩, ?_, fun k hk => absurd hk (Nat.not_lt_zero k), ?_, ⟨fun i => if i = 4 then 51 else 56 + 5 * i, ?_, ?_, fun n hn => ⟨?_, ?_⟩, ?_⟩, ok, ?_, ?_, fun k _ => ?_, ?_⟩, ?_, fun k _ => ?_, fun i hi => ⟨?_, fun q => absurd (show (0 : Int32) = 1 from q) (by decide)⟩, ?_, fun k hk => absurd hk (Nat.not_lt_zero k), f3, f4⟩
  · exact ⟨zz 4 0 (by decide) (by decide), zz 4 1 (by decide) (by decide), fun k hk => absurd hk (Nat.not_lt_zero k), fun k hk => absurd hk (Nat.not_lt_zero k), fun k _ => zz 13 k (by decide) (by decide), fun k _ => zz 14 k (by decide) (by decide)⟩
  · exact zz 27 i (by decide) (by decide)
  · rw [lo 2 (by decide)]
    exact z21
  · rw [lo 2 (by decide)]
    exact z23
  · show ∀ i, i < 5 → (if i = 4 then 51 else 56 + 5 * i) ∈ z_LAWS
    decide
  · intro i j hi hj w
    change (if i = 4 then 51 else 56 + 5 * i) = (if j = 4 then 51 else 56 + 5 * j) at w
    split at w <;> split at w <;> omega
  · show μ2.2.2 1 n = some (if n = 4 then 51 else 56 + 5 * n)
    rw [r2, rfL_ne (by decide), if_neg (by omega)]
    exact kn n hn
  · show c_law μ2 (if n = 4 then 51 else 56 + 5 * n) T0
    rw [if_neg (by omega)]
    exact ((lw n hn).cg (fun i _ h => lo i (by omega))).c
  · show μ2.2.2 0 9 = some 51
    rw [r2, rfL_ne (by decide)]
    exact k9
  · rw [r2, rfL_ne (by decide)]
    exact k26
  · rw [r2, rfL_ne (by decide)]
    exact k39
  · exact zz 40 k (by decide) (by decide)
  · exact zz 46 0 (by decide) (by decide)
  · exact ⟨z98 24 (by decide), z98 27 (by decide), fun k hk => absurd hk (Nat.not_lt_zero k), fun k hk => absurd hk (Nat.not_lt_zero k), fun k _ => zz 124 k (by decide) (by decide), fun k _ => zz 125 k (by decide) (by decide)⟩
  · exact zz 123 k (by decide) (by decide)
  · exact zz 135 i (by decide) (by decide)
  · exact z98 13 (by decide)
