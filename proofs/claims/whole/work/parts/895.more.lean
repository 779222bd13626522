/-! PURE: more, both sides -/
def v_wo (ho ha : Nat → Nat) (ch : Int32) (k : Nat) : Int32 := nI (ho k) * (100 - ch) - 100 * nI (ha k)
def v_wi (ho ha : Nat → Nat) (ch : Int32) : Nat → Int32
  | 0 => 0
  | k + 1 => if v_wo ho ha ch k ≤ 0 then v_wi ho ha ch k else v_wi ho ha ch k ||| ((1 : Int32) <<< (nI k &&& 31))
noncomputable def v_hd (Q : y_Q) (w : Nat) (s : a_S) (k : Nat) : Nat := q_hd Q w s (nI k)
theorem p_m144 {A : a_A} {μ : z_M} {Q : y_Q} {w : Nat} (hw : w_A A) (hN : Q.1 = A.1.2.1) (x1 x2 x3 x4 x5 x6 x7 x8 x9 : Int32) : ∀ m k fu μ1, k + m = 6 → m < fu → InvC A μ1 → c_out μ1 Q w → z_un scC μ μ1 → (∀ j, j < k → μ1.1 50 j = nI (v_hd Q w A.1 j)) → ∃ μ', InvC A μ' ∧ z_un scC μ μ' ∧ (∀ j, j < 6 → μ'.1 50 j = nI (v_hd Q w A.1 j)) ∧ g_X4_more_144 fu x1 x2 x3 x4 x5 x6 x7 x8 x9 (nI k) μ1 = (z_b1 (f_X4_supposeVoyage (x2) (x6) (x5) (x7) (x8) μ') fun μ53 => (if z_in x1 4 then ((μ53.2.2 1 x1.toNatClampNeg).bind fun r58 => (z_b1 (f_X2_run (r58) (15) (x6) (x3) μ53) fun μ62 => (if x4 = (-1 : Int32) then (z_b2 (f_X4_wiseFor (x9) μ62) fun r74 μ75 => (some (r74, μ75))) else (z_b2 (f_X4_worthFor (x4) (x9) μ62) fun r67 μ68 => (some (r67, μ68)))))) else none)) := by
  intro m
  induction m with
  | zero =>
    intro k fu μ1 hk hf hC co hu h50
    obtain ⟨fu, rfl⟩ : ∃ q, fu = q + 1 := ⟨fu - 1, by omega⟩
    have ek : k = 6 := by omega
    subst ek
    refine ⟨μ1, hC, hu, h50, ?_⟩
    rw [g_X4_more_144]
    rw [if_pos (show (6 : Int32) ≤ nI 6 by decide)]
  | succ m ih =>
    intro k fu μ1 hk hf hC co hu h50
    obtain ⟨fu, rfl⟩ : ∃ q, fu = q + 1 := ⟨fu - 1, by omega⟩
    obtain ⟨u2, i2⟩ := k_un hC 50 k (nI (q_hd Q w A.1 (nI k))) (by decide) (by decide) rfl
    have co2 : c_out (z_si μ1 50 k (nI (q_hd Q w A.1 (nI k)))) Q w := by
      obtain ⟨o1, o2, o3, o4, o5, o6⟩ := co
      unfold c_out
      rw [p_si_ne (show (45 : Nat) ≠ 50 by decide), p_si_ne (show (36 : Nat) ≠ 50 by decide), p_si_ne (show (37 : Nat) ≠ 50 by decide), p_si_ne (show (46 : Nat) ≠ 50 by decide), p_si_ne (show (28 : Nat) ≠ 50 by decide)]
      exact ⟨o1, o2, o3, o4, o5, o6⟩
    obtain ⟨μ', y1, y2, y3, y4⟩ := ih (k + 1) fu (z_si μ1 50 k (nI (q_hd Q w A.1 (nI k)))) (by omega) (by omega) i2 co2 (hu.tr u2) (fun j hj => by
      by_cases e : j = k
      · rw [e, p_si_at]
        rfl
      · rw [p_si_nk e]
        exact h50 j (by omega))
    refine ⟨μ', y1, y2, y3, ?_⟩
    rw [g_X4_more_144]
    rw [if_neg (show ¬ (6 : Int32) ≤ nI k from p_nle (a := 6) (by omega) (by decide)), p_hold hw.1 hN co hC.1, z_b2_s, p_g (show k < 6 by omega) (by decide), z_st_s, nI_clamp (by omega), nI_1]
    exact y4
theorem p_worth4 {μ : z_M} {Q : y_Q} {w : Nat} {s : a_S} {ha : Nat → Nat} (hs : w_ship s) (hQ : Q.1 = s.2.1) (co : c_out μ Q w) (cs : c_ship μ 15 s) (h50 : ∀ j, j < 6 → μ.1 50 j = nI (ha j)) (ch : Int32) {k : Nat} (hk : k < 6) : f_X4_worthFor (nI k) ch μ = some (v_wo (v_hd Q w s) ha ch k, μ) := by
  unfold f_X4_worthFor
  rw [p_hold hs hQ co cs, z_b2_s, p_g hk (by decide), nI_clamp (by omega), h50 k hk]
  rfl
theorem p_wise4 {μ : z_M} {Q : y_Q} {w : Nat} {s : a_S} {ha : Nat → Nat} (hs : w_ship s) (hQ : Q.1 = s.2.1) (co : c_out μ Q w) (cs : c_ship μ 15 s) (h50 : ∀ j, j < 6 → μ.1 50 j = nI (ha j)) (ch : Int32) : f_X4_wiseFor ch μ = some (v_wi (v_hd Q w s) ha ch 6, μ) := by
  have hN : z_N = 5000 := rfl
  have key : ∀ m k fu, k + m = 6 → m < fu → g_X4_wiseFor_4 fu ch (v_wi (v_hd Q w s) ha ch k) (nI k) μ = some (v_wi (v_hd Q w s) ha ch 6, μ) := by
    intro m
    induction m with
    | zero =>
      intro k fu hk hf
      obtain ⟨fu, rfl⟩ : ∃ q, fu = q + 1 := ⟨fu - 1, by omega⟩
      have ek : k = 6 := by omega
      subst ek
      rw [g_X4_wiseFor_4]
      rw [if_pos (show (6 : Int32) ≤ nI 6 by decide)]
    | succ m ih =>
      intro k fu hk hf
      obtain ⟨fu, rfl⟩ : ∃ q, fu = q + 1 := ⟨fu - 1, by omega⟩
      have y1 := ih (k + 1) fu (by omega) (by omega)
      rw [g_X4_wiseFor_4]
      rw [if_neg (show ¬ (6 : Int32) ≤ nI k from p_nle (a := 6) (by omega) (by decide)), p_worth4 hs hQ co cs h50 ch (by omega), z_b2_s, z_lt_s, nI_1]
      rw [v_wi] at y1
      by_cases q : v_wo (v_hd Q w s) ha ch k ≤ 0
      · rw [if_pos q]
        rw [if_pos q] at y1
        exact y1
      · rw [if_neg q]
        rw [if_neg q] at y1
        exact y1
  unfold f_X4_wiseFor
  have y := key 6 0 z_N (by omega) (by omega)
  rw [v_wi, nI_0] at y
  exact y
/-! the reference -/
theorem p_m181 {A : a_A} {ν : z_M} {Q : y_Q} {w : Nat} (hw : w_A A) (hN : Q.1 = A.1.2.1) (x1 x2 x3 x4 x5 x6 x7 x8 x9 : Int32) : ∀ m k fu ν1, k + m = 6 → m < fu → InvM A ν1 → m_out ν1 Q w → z_un scM ν ν1 → (∀ j, j < k → ν1.1 132 j = nI (v_hd Q w A.1 j)) → ∃ ν', InvM A ν' ∧ z_un scM ν ν' ∧ (∀ j, j < 6 → ν'.1 132 j = nI (v_hd Q w A.1 j)) ∧ g_X5_more_181 fu x1 x2 x3 x4 x5 x6 x7 x8 x9 (nI k) ν1 = g_X5_more_181 1 x1 x2 x3 x4 x5 x6 x7 x8 x9 6 ν' := by
  intro m
  induction m with
  | zero =>
    intro k fu ν1 hk hf hC co hu h50
    obtain ⟨fu, rfl⟩ : ∃ q, fu = q + 1 := ⟨fu - 1, by omega⟩
    have ek : k = 6 := by omega
    subst ek
    refine ⟨ν1, hC, hu, h50, ?_⟩
    rw [g_X5_more_181, g_X5_more_181]
    rw [if_pos (show (6 : Int32) ≤ nI 6 by decide), if_pos (show (6 : Int32) ≤ 6 by decide)]
  | succ m ih =>
    intro k fu ν1 hk hf hC co hu h50
    obtain ⟨fu, rfl⟩ : ∃ q, fu = q + 1 := ⟨fu - 1, by omega⟩
    have u2 : z_un scM ν1 (z_si ν1 132 k (nI (q_hd Q w A.1 (nI k)))) := (z_un.rf _ _).si (by decide) _ _
    have co2 : m_out (z_si ν1 132 k (nI (q_hd Q w A.1 (nI k)))) Q w := by
      obtain ⟨o1, o2, o3, o4⟩ := co
      unfold m_out
      rw [p_si_ne (show (126 : Nat) ≠ 132 by decide), p_si_ne (show (127 : Nat) ≠ 132 by decide), p_si_ne (show (128 : Nat) ≠ 132 by decide), p_si_ne (show (129 : Nat) ≠ 132 by decide)]
      exact ⟨o1, o2, o3, o4⟩
    have hk1 : nI k ≠ -1 := by
      intro e
      have := congrArg Int32.toInt e
      rw [nI_toInt (by omega), p_zm1] at this
      omega
    obtain ⟨ν', y1, y2, y3, y4⟩ := ih (k + 1) fu (z_si ν1 132 k (nI (q_hd Q w A.1 (nI k)))) (by omega) (by omega) (hC.scr u2) co2 (hu.tr u2) (fun j hj => by
      by_cases e : j = k
      · rw [e, p_si_at]
        rfl
      · rw [p_si_nk e]
        exact h50 j (by omega))
    refine ⟨ν', y1, y2, y3, ?_⟩
    rw [g_X5_more_181]
    rw [if_neg (show ¬ (6 : Int32) ≤ nI k from p_nle (a := 6) (by omega) (by decide)), p_hav hw.1 hN co hC.1, if_neg hk1, z_b2_s, p_g (show k < 6 by omega) (by decide), z_st_s, nI_clamp (by omega), nI_1]
    exact y4
def v_wp (ho ha : Nat → Nat) (ch p : Int32) : Nat → Int32
  | 0 => 0
  | k + 1 => if nI k = p then v_wo ho ha ch k else v_wp ho ha ch p k
theorem p_m294 {ν : z_M} {Q : y_Q} {w : Nat} {s : a_S} {ha : Nat → Nat} (hs : w_ship s) (hQ : Q.1 = s.2.1) (co : m_out ν Q w) (ms : m_ship ν s) (h132 : ∀ j, j < 6 → ν.1 132 j = nI (ha j)) (p f ch : Int32) : ∀ m k fu, k + m = 6 → m < fu → g_X5_more_294 fu p f ch (v_wi (v_hd Q w s) ha ch k) (v_wp (v_hd Q w s) ha ch p k) (nI k) ν = some (if p = -1 then v_wi (v_hd Q w s) ha ch 6 else v_wp (v_hd Q w s) ha ch p 6, z_si (z_si (z_si ν 124 1 (ν.1 124 1 - f)) 98 27 ((z_si ν 124 1 (ν.1 124 1 - f)).1 98 27 - 1)) 98 24 ((z_si (z_si ν 124 1 (ν.1 124 1 - f)) 98 27 ((z_si ν 124 1 (ν.1 124 1 - f)).1 98 27 - 1)).1 98 24 - 1)) := by
  intro m
  induction m with
  | zero =>
    intro k fu hk hf
    obtain ⟨fu, rfl⟩ : ∃ q, fu = q + 1 := ⟨fu - 1, by omega⟩
    have ek : k = 6 := by omega
    subst ek
    have c1 : (1 : Int32).toNatClampNeg = 1 := by decide
    rw [g_X5_more_294]
    rw [if_pos (show (6 : Int32) ≤ nI 6 by decide), if_pos (show z_in (1 : Int32) 5 by decide), if_pos (show z_in (1 : Int32) 5 by decide), z_st_s, z_st_s, z_st_s, c1]
  | succ m ih =>
    intro k fu hk hf
    obtain ⟨fu, rfl⟩ : ∃ q, fu = q + 1 := ⟨fu - 1, by omega⟩
    have y1 := ih (k + 1) fu (by omega) (by omega)
    have hk1 : nI k ≠ -1 := by
      intro e
      have := congrArg Int32.toInt e
      rw [nI_toInt (by omega), p_zm1] at this
      omega
    have e1 : nI (q_hd Q w s (nI k)) * (100 - ch) - 100 * nI (ha k) = v_wo (v_hd Q w s) ha ch k := rfl
    rw [g_X5_more_294]
    rw [if_neg (show ¬ (6 : Int32) ≤ nI k from p_nle (a := 6) (by omega) (by decide)), p_hav hs hQ co ms, if_neg hk1, z_b2_s, p_g (show k < 6 by omega) (by decide), z_lt_s, z_lt_s, z_lt_s, nI_clamp (by omega), h132 k (by omega), e1, nI_1]
    rw [v_wi, v_wp] at y1
    by_cases q : v_wo (v_hd Q w s) ha ch k ≤ 0
    · rw [if_pos q, Int32.or_zero]
      rw [if_pos q] at y1
      exact y1
    · rw [if_neg q]
      rw [if_neg q] at y1
      exact y1
theorem v_wp_at (ho ha : Nat → Nat) (ch : Int32) {p : Nat} (hp : p < 6) : ∀ k, k ≤ 6 → p < k → v_wp ho ha ch (nI p) k = v_wo ho ha ch p
  | 0, _, h => by omega
  | k + 1, h6, h => by
    rw [v_wp]
    by_cases e : k = p
    · rw [e, if_pos rfl]
    · rw [if_neg (fun z => e ((nI_eq (by omega) (by omega)).mp z)), v_wp_at ho ha ch hp k (by omega) (by omega)]
/-- what more leaves behind in the reference's rows -/
theorem InvM.mo {A : a_A} {ν ν' : z_M} (h : InvM A ν) (hw : w_A A) (he : ∀ a k, a ∉ scM → ¬ (a = 114 ∧ k = A.1.1) → ¬ (a = 115 ∧ k = A.1.1) → ¬ (116 ≤ a ∧ a ≤ 123 ∧ k = A.1.2.1) → ν'.1 a k = ν.1 a k) (h123 : ν'.1 123 A.1.2.1 = 0) : InvM A ν' := by
  have h14 : A.1.2.1 ≤ 14 := hw.1.2.1
  obtain ⟨⟨a1, a2, a3, a4, a5, a6⟩, i2, i3, i4, i5, i6, i7⟩ := h
  have e0 : ∀ a k, (a < 114 ∨ 124 ≤ a) → a ∉ scM → ν'.1 a k = ν.1 a k := fun a k ha hm => he a k hm (by omega) (by omega) (by omega)
  refine ⟨⟨?_, ?_, fun k hk => ?_, fun k hk => ?_, fun k hk => ?_, fun k hk => ?_⟩, fun k hk => ?_, fun i hi => ⟨?_, fun q => ?_⟩, ?_, fun k hk => ?_, ?_, fun n hn => ?_⟩
  · rw [e0 98 24 (by omega) (by decide)]
    exact a1
  · rw [e0 98 27 (by omega) (by decide)]
    exact a2
  · rw [he 114 k (by decide) (by omega) (by omega) (by omega), he 115 k (by decide) (by omega) (by omega) (by omega)]
    exact a3 k hk
  · rw [he 116 k (by decide) (by omega) (by omega) (by omega), he 117 k (by decide) (by omega) (by omega) (by omega), he 118 k (by decide) (by omega) (by omega) (by omega), he 119 k (by decide) (by omega) (by omega) (by omega), he 120 k (by decide) (by omega) (by omega) (by omega), he 121 k (by decide) (by omega) (by omega) (by omega), he 122 k (by decide) (by omega) (by omega) (by omega)]
    exact a4 k hk
  · rw [e0 124 k (by omega) (by decide)]
    exact a5 k hk
  · rw [e0 125 k (by omega) (by decide)]
    exact a6 k hk
  · by_cases e : k = A.1.2.1
    · rw [e]
      exact h123
    · rw [he 123 k (by decide) (by omega) (by omega) (by omega)]
      exact i2 k hk
  · rw [e0 135 i (by omega) (by decide)]
    exact (i3 i hi).1
  · have e134 : ν'.1 134 = ν.1 134 := funext fun k => e0 134 k (by omega) (by decide)
    have := (i3 i hi).2 q
    unfold m_img at this ⊢
    rw [e134]
    exact this
  · rw [e0 98 13 (by omega) (by decide)]
    exact i4
  · rw [e0 111 k (by omega) (by decide)]
    exact i5 k hk
  · rw [e0 98 14 (by omega) (by decide)]
    exact i6
  · have ee : ∀ a, a < 114 → a ∉ scM → ν'.1 a = ν.1 a := fun a ha hm => funext fun k => e0 a k (by omega) hm
    have := i7 n hn
    unfold m_law at this ⊢
    rw [ee 99 (by decide) (by decide), ee 100 (by decide) (by decide), ee 101 (by decide) (by decide), ee 102 (by decide) (by decide), ee 103 (by decide) (by decide), ee 104 (by decide) (by decide), ee 113 (by decide) (by decide)]
    exact this
