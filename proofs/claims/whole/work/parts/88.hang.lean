/-! PURE: hang on the reference's side, and hang -/
theorem a_up_same {t : a_T} {f j : Nat} {x : Int32} (h : t f j = x) : a_up t f j x = t := by
  funext a b
  by_cases e : a = f ∧ b = j
  · rw [e.1, e.2, a_up_at, h]
  · rw [a_up_ne e]
/-- four writes at one place, taken back -/
theorem z_un.re4 {X : List Nat} {ν ν' : z_M} {k : Nat} {x1 x2 x3 x4 : Int32} (h : z_un X (z_si (z_si (z_si (z_si ν 123 k x1) 120 k x2) 118 k x3) 122 k x4) ν') (h1 : 123 ∉ X) (h2 : 120 ∉ X) (h3 : 118 ∉ X) (h4 : 122 ∉ X) : z_un X ν (z_si (z_si (z_si (z_si ν' 123 k (ν.1 123 k)) 120 k (ν.1 120 k)) 118 k (ν.1 118 k)) 122 k (ν.1 122 k)) := by
  refine ⟨fun b hb => ?_, h.2⟩
  by_cases b4 : b = 122
  · subst b4
    funext i
    by_cases q : i = k
    · rw [q, p_si_at]
    · rw [p_si_nk q, p_si_ne (by decide), p_si_ne (by decide), p_si_ne (by decide), h.1 122 h4, p_si_nk q, p_si_ne (by decide), p_si_ne (by decide), p_si_ne (by decide)]
  · rw [p_si_ne b4]
    by_cases b3 : b = 118
    · subst b3
      funext i
      by_cases q : i = k
      · rw [q, p_si_at]
      · rw [p_si_nk q, p_si_ne (by decide), p_si_ne (by decide), h.1 118 h3, p_si_ne (by decide), p_si_nk q, p_si_ne (by decide), p_si_ne (by decide)]
    · rw [p_si_ne b3]
      by_cases b2 : b = 120
      · subst b2
        funext i
        by_cases q : i = k
        · rw [q, p_si_at]
        · rw [p_si_nk q, p_si_ne (by decide), h.1 120 h2, p_si_ne (by decide), p_si_ne (by decide), p_si_nk q, p_si_ne (by decide)]
      · rw [p_si_ne b2]
        by_cases b1 : b = 123
        · subst b1
          funext i
          by_cases q : i = k
          · rw [q, p_si_at]
          · rw [p_si_nk q, h.1 123 h1, p_si_ne (by decide), p_si_ne (by decide), p_si_ne (by decide), p_si_nk q]
        · rw [p_si_ne b1, h.1 b hb, p_si_ne b4, p_si_ne b3, p_si_ne b2, p_si_ne b1]
theorem m_ctx.gone {ν : z_M} {n : Nat} {l : a_T} {s : a_S} {g g' : Nat → Bool} (h : m_ctx ν n l s g) {c : Nat} {x : Int32} (hg : ∀ k, k < s.2.1 → (if k = c then x else ν.1 123 k) = if g' k = true then 1 else 0) : m_ctx (z_si ν 123 c x) n l s g' := by
  refine ⟨?_, ?_, fun k hk => ?_⟩
  · have h1 := h.1
    unfold m_ship at h1 ⊢
    rw [p_si_ne (show (98 : Nat) ≠ 123 by decide), p_si_ne (show (114 : Nat) ≠ 123 by decide), p_si_ne (show (115 : Nat) ≠ 123 by decide), p_si_ne (show (116 : Nat) ≠ 123 by decide), p_si_ne (show (117 : Nat) ≠ 123 by decide), p_si_ne (show (118 : Nat) ≠ 123 by decide), p_si_ne (show (119 : Nat) ≠ 123 by decide), p_si_ne (show (120 : Nat) ≠ 123 by decide), p_si_ne (show (121 : Nat) ≠ 123 by decide), p_si_ne (show (122 : Nat) ≠ 123 by decide), p_si_ne (show (124 : Nat) ≠ 123 by decide), p_si_ne (show (125 : Nat) ≠ 123 by decide)]
    exact h1
  · have h2 := h.2.1
    unfold m_law at h2 ⊢
    rw [p_si_ne (show (99 : Nat) ≠ 123 by decide), p_si_ne (show (100 : Nat) ≠ 123 by decide), p_si_ne (show (101 : Nat) ≠ 123 by decide), p_si_ne (show (102 : Nat) ≠ 123 by decide), p_si_ne (show (113 : Nat) ≠ 123 by decide), p_si_ne (show (103 : Nat) ≠ 123 by decide), p_si_ne (show (104 : Nat) ≠ 123 by decide)]
    exact h2
  · rw [← hg k hk]
    by_cases e : k = c
    · rw [e, p_si_at, if_pos rfl]
    · rw [p_si_nk e, if_neg e]
def h_lv (s : a_S) (c wh : Nat) : Int32 := if wh = 1 then (if s.2.2 7 c = 0 then 1 else 0) else s.2.2 7 c
def h_dy (s : a_S) (c wh : Nat) : Int32 := if wh = 2 then (if (999 : Int32) ≤ s.2.2 5 c then s.2.2 5 c else s.2.2 5 c + 1) else s.2.2 5 c
def h_as (s : a_S) (d : Int32) (c wh : Nat) : Int32 := if wh = 3 then d else s.2.2 9 c
def h_t (s : a_S) (d : Int32) (c wh : Nat) : a_S := (s.1, s.2.1, a_up (a_up (a_up s.2.2 7 c (h_lv s c wh)) 5 c (h_dy s c wh)) 9 c (h_as s d c wh))
theorem h_t_is (l : a_T) (s : a_S) (d : Int32) {c wh : Nat} (hwh : wh < 4) : y_og l (h_t s d c wh) d (fun k => decide (wh = 0 ∧ k = c)) = y_of l (a_hg s d c wh) d := by
  have hw4 : wh = 0 ∨ wh = 1 ∨ wh = 2 ∨ wh = 3 := by omega
  rcases hw4 with rfl | rfl | rfl | rfl
  · have e1 : h_t s d c 0 = s := by
      unfold h_t h_lv h_dy h_as
      rw [if_neg (by decide), if_neg (by decide), if_neg (by decide), a_up_same (t := s.2.2) rfl, a_up_same rfl, a_up_same rfl]
    have e2 : (fun k => decide ((0 : Nat) = 0 ∧ k = c)) = (fun k => decide (k = c)) := funext fun k => by simp
    rw [e1, e2, y_og_c]
    rfl
  · have e1 : h_t s d c 1 = a_hg s d c 1 := by
      have l1 : h_lv s c 1 = (if s.2.2 7 c = 0 then 1 else 0) := rfl
      have l2 : h_dy s c 1 = s.2.2 5 c := rfl
      have l3 : h_as s d c 1 = s.2.2 9 c := rfl
      show (s.1, s.2.1, a_up (a_up (a_up s.2.2 7 c (h_lv s c 1)) 5 c (h_dy s c 1)) 9 c (h_as s d c 1)) = (s.1, s.2.1, a_up s.2.2 7 c (if s.2.2 7 c = 0 then 1 else 0))
      rw [l1, l2, l3, a_up_same (f := 5) (a_up_ne (fun q => absurd q.1 (by decide))), a_up_same (f := 9) (a_up_ne (fun q => absurd q.1 (by decide)))]
    have e2 : (fun k => decide ((1 : Nat) = 0 ∧ k = c)) = (fun _ => false) := funext fun k => by simp
    rw [e1, e2, y_og_0]
  · have e1 : h_t s d c 2 = a_hg s d c 2 := by
      have l1 : h_lv s c 2 = s.2.2 7 c := rfl
      have l2 : h_dy s c 2 = (if (999 : Int32) ≤ s.2.2 5 c then s.2.2 5 c else s.2.2 5 c + 1) := rfl
      have l3 : h_as s d c 2 = s.2.2 9 c := rfl
      show (s.1, s.2.1, a_up (a_up (a_up s.2.2 7 c (h_lv s c 2)) 5 c (h_dy s c 2)) 9 c (h_as s d c 2)) = (s.1, s.2.1, a_up s.2.2 5 c (if (999 : Int32) ≤ s.2.2 5 c then s.2.2 5 c else s.2.2 5 c + 1))
      rw [l1, l2, l3, a_up_same (t := s.2.2) (f := 7) rfl, a_up_same (f := 9) (a_up_ne (fun q => absurd q.1 (by decide)))]
    have e2 : (fun k => decide ((2 : Nat) = 0 ∧ k = c)) = (fun _ => false) := funext fun k => by simp
    rw [e1, e2, y_og_0]
  · have e1 : h_t s d c 3 = a_hg s d c 3 := by
      unfold h_t h_lv h_dy h_as a_hg
      rw [if_neg (by decide), if_neg (by decide), if_pos rfl, if_neg (by decide), if_neg (by decide), if_neg (by decide), a_up_same (t := s.2.2) rfl, a_up_same rfl]
    have e2 : (fun k => decide ((3 : Nat) = 0 ∧ k = c)) = (fun _ => false) := funext fun k => by simp
    rw [e1, e2, y_og_0]
theorem w_ht {s : a_S} (hs : w_ship s) {d : Int32} (hd : p_in d 0 999) {c : Nat} (hc : c < s.2.1) (wh : Nat) : w_ship (h_t s d c wh) := by
  obtain ⟨c3, c4, c5, c6, c7, c8, c9⟩ := hs.2.2.2.1 c hc
  have h1 : w_ship (s.1, s.2.1, a_up s.2.2 7 c (h_lv s c wh)) := w_up hs (Or.inr (Or.inr (Or.inl ⟨rfl, by
    unfold h_lv
    split
    · split
      · exact Or.inr rfl
      · exact Or.inl rfl
    · exact c7⟩)))
  have h2 : w_ship (s.1, s.2.1, a_up (a_up s.2.2 7 c (h_lv s c wh)) 5 c (h_dy s c wh)) := w_up h1 (Or.inl ⟨rfl, by
    unfold h_dy
    split
    · exact (p_day1 c5).2
    · exact c5⟩)
  exact w_up h2 (Or.inr (Or.inr (Or.inr ⟨rfl, by
    unfold h_as
    split
    · exact ⟨by have := hd.1; omega, hd.2⟩
    · exact c9⟩)))
theorem p_hgL5 {A : a_A} {ν : z_M} {Q : y_Q} {w : Nat} {p : Nat → Nat} (hw : w_A A) (hN : Q.1 = A.1.2.1) (hM : InvM A ν) (co : ∀ k, k < Q.1 → ν.1 126 k = nI (q_pd Q w k)) (h133 : ∀ k, k < A.1.2.1 → ν.1 133 k = nI (p k)) {c : Nat} (hc : c < A.1.2.1) : ∀ m k fu, k + m = A.1.2.1 → m < fu → g_X5_hanging_169 fu (nI c) (q_ch p (q_pd Q w) c k) (nI k) ν = some (q_ch p (q_pd Q w) c A.1.2.1, ν) := by
  have h14 : A.1.2.1 ≤ 14 := hw.1.2.1
  intro m
  induction m with
  | zero =>
    intro k fu hk hf
    obtain ⟨fu, rfl⟩ : ∃ q, fu = q + 1 := ⟨fu - 1, by omega⟩
    have ek : k = A.1.2.1 := by omega
    subst ek
    rw [g_X5_hanging_169]
    rw [hM.1.2.1, if_pos (nI_le (Nat.le_refl _) (by omega))]
  | succ m ih =>
    intro k fu hk hf
    obtain ⟨fu, rfl⟩ : ∃ q, fu = q + 1 := ⟨fu - 1, by omega⟩
    have y1 := ih (k + 1) fu (by omega) (by omega)
    have hz : z_in (nI k) 15 := p_zn (by omega) (by decide)
    rw [g_X5_hanging_169]
    rw [hM.1.2.1, if_neg (nI_ge (by omega) (by omega)), if_pos ⟨fun _ => hz, fun _ => hz⟩, z_lt_s, z_lt_s, nI_clamp (by omega), co k (by omega), h133 k (by omega), nI_1]
    by_cases e : k = c
    · rw [if_pos (show nI k = nI c by rw [e]), if_pos (show (0 : Int32) ≤ 0 by decide), Int32.add_zero]
      rw [q_ch, if_pos e] at y1
      exact y1
    · rw [if_neg (show ¬ nI k = nI c from fun z => e ((nI_eq (by omega) (by omega)).mp z))]
      rw [q_ch, if_neg e] at y1
      exact y1
theorem p_hg5 {A : a_A} {ν : z_M} (hw : w_A A) (hM : InvM A ν) {n : Nat} (hn : n < 4) {d : Int32} (hd : p_in d 0 999) {w : Nat} (hway : w < 2) {p : Nat → Nat} (h133 : ∀ k, k < A.1.2.1 → ν.1 133 k = nI (p k)) {c wh : Nat} (hc : c < A.1.2.1) (hwh : wh < 4) : ∃ ν', f_X5_hanging (nI n) d (nI w) (nI c) (nI wh) ν = some (q_ch p (q_pd (y_of (A.2.2.2.2.2 n) (a_hg A.1 d c wh) d) w) c A.1.2.1, ν') ∧ z_un xO ν ν' ∧ InvM A ν' := by
  have h14 : A.1.2.1 ≤ 14 := hw.1.2.1
  have hN : z_N = 5000 := rfl
  have hz : z_in (nI c) 15 := p_zn (by omega) (by decide)
  obtain ⟨m3, m4, m5, m6, m7, m8, m9⟩ := hM.1.2.2.2.1 c hc
  obtain ⟨w3, w4, w5, w6, w7, w8, w9⟩ := hw.1.2.2.2.1 c hc
  have e123 : ν.1 123 c = 0 := hM.2.1 c (by omega)
  have hc0 : m_ctx (z_si ν 123 c (if wh = 0 then 1 else 0)) n (A.2.2.2.2.2 n) A.1 (fun k => decide (wh = 0 ∧ k = c)) := (hM.ctx hw hn).gone (fun k hk => by
    by_cases e : k = c
    · rw [if_pos e]
      by_cases z : wh = 0
      · rw [if_pos z, if_pos (decide_eq_true ⟨z, e⟩)]
      · rw [if_neg z, if_neg (fun y => z (of_decide_eq_true y).1)]
    · rw [if_neg e, hM.2.1 k (by omega), if_neg (fun y => e (of_decide_eq_true y).2)])
  have hc3 := ((hc0.up 120 7 (by omega) c (h_lv A.1 c wh)).up 118 5 (by omega) c (h_dy A.1 c wh)).up 122 9 (by omega) c (h_as A.1 d c wh)
  obtain ⟨ν', e5, u5, o5⟩ := k_out (w_ht hw.1 hd hc wh) (hw.2.2.2.2 n hn) hn hc3 d hway
  have o5 : m_out ν' (y_of (A.2.2.2.2.2 n) (a_hg A.1 d c wh) d) w := by
    rw [← h_t_is (A.2.2.2.2.2 n) A.1 d hwh]
    exact o5
  have u6 := u5.re4 (by decide) (by decide) (by decide) (by decide)
  rw [e123, m7, m5, m9] at u6
  have i6 := hM.scr (u6.mono xO_sc)
  refine ⟨_, ?_, u6, i6⟩
  have y1 := p_hgL5 (p := p) (Q := y_of (A.2.2.2.2.2 n) (a_hg A.1 d c wh) d) (w := w) hw (a_hg_N A.1 d c wh) i6 (fun k hk => by
    rw [p_si_ne (by decide), p_si_ne (by decide), p_si_ne (by decide), p_si_ne (by decide)]
    exact o5.1 k hk) (fun k hk => by rw [u6.1 133 (by decide)]; exact h133 k hk) hc A.1.2.1 0 z_N (by omega) (by omega)
  rw [q_ch, nI_0] at y1
  have v1 : ((if nI wh = 0 then (1 : Int32) else 0) &&& 1) = (if wh = 0 then 1 else 0) := by
    have hw4 : wh = 0 ∨ wh = 1 ∨ wh = 2 ∨ wh = 3 := by omega
    rcases hw4 with rfl | rfl | rfl | rfl <;> decide
  have v2 : ((if nI wh = 1 then (if A.1.2.2 7 c = 0 then (1 : Int32) else 0) else A.1.2.2 7 c) &&& 1) = h_lv A.1 c wh := by
    unfold h_lv
    have hw4 : wh = 0 ∨ wh = 1 ∨ wh = 2 ∨ wh = 3 := by omega
    rcases w7 with z | z <;> rw [z] <;> rcases hw4 with rfl | rfl | rfl | rfl <;> decide
  have v3 : (if nI wh = 2 then (if (999 : Int32) ≤ A.1.2.2 5 c then A.1.2.2 5 c else A.1.2.2 5 c + 1) else A.1.2.2 5 c) = h_dy A.1 c wh := by
    unfold h_dy
    by_cases z : wh = 2
    · rw [if_pos z, if_pos (by rw [z]; rfl)]
    · rw [if_neg z, if_neg (show ¬ nI wh = 2 from fun y => z ((nI_eq (b := 2) (by omega) (by decide)).mp y))]
  have v4 : (if nI wh = 3 then d else A.1.2.2 9 c) = h_as A.1 d c wh := by
    unfold h_as
    by_cases z : wh = 3
    · rw [if_pos z, if_pos (by rw [z]; rfl)]
    · rw [if_neg z, if_neg (show ¬ nI wh = 3 from fun y => z ((nI_eq (b := 3) (by omega) (by decide)).mp y))]
  have v5 : A.1.2.2 7 c &&& 1 = A.1.2.2 7 c := by
    rcases w7 with z | z <;> rw [z] <;> decide
  have v6 : (0 : Int32) &&& 1 = 0 := by decide
  unfold f_X5_hanging
  simp only [if_pos hz, z_lt_s, z_st_s, nI_clamp (show c < 2 ^ 31 by omega), m7, m5, m9, v1, v2, v3, v4, e5, z_b1_s, v5, v6]
  exact y1
theorem p_hang4a {A : a_A} {μ : z_M} {Q : y_Q} {w : Nat} (hw : w_A A) (hQ : w_Q Q) (hN : Q.1 = A.1.2.1) (x1 x2 x3 x4 x5 : Int32) : ∀ m k fu μ1, k + m = A.1.2.1 → m < fu → InvC A μ1 → c_out μ1 Q w → z_un scC μ μ1 → (∀ j, j < k → μ1.1 49 j = nI (q_pd Q w j)) → ∃ μ', InvC A μ' ∧ z_un scC μ μ' ∧ (∀ j, j < A.1.2.1 → μ'.1 49 j = nI (q_pd Q w j)) ∧ g_X4_hang_77 fu x1 x2 x3 x4 x5 (nI k) μ1 = (if x4 = -1 then (g_X4_hang_138 z_N x1 x2 x3 x5 (-1) 0 0 μ') else (z_b2 (f_X4_hangsOn x1 x2 x3 x4 x5 μ') fun r38 μ39 => (some (r38, μ39)))) := by
  have h14 : A.1.2.1 ≤ 14 := hw.1.2.1
  intro m
  induction m with
  | zero =>
    intro k fu μ1 hk hf hC co hu h49
    obtain ⟨fu, rfl⟩ : ∃ q, fu = q + 1 := ⟨fu - 1, by omega⟩
    have ek : k = A.1.2.1 := by omega
    subst ek
    refine ⟨μ1, hC, hu, h49, ?_⟩
    rw [g_X4_hang_77]
    rw [hC.1.2.1, if_pos (nI_le (Nat.le_refl _) (by omega))]
  | succ m ih =>
    intro k fu μ1 hk hf hC co hu h49
    obtain ⟨fu, rfl⟩ : ∃ q, fu = q + 1 := ⟨fu - 1, by omega⟩
    obtain ⟨u2, i2⟩ := k_un hC 49 k (nI (q_pd Q w k)) (by decide) (by decide) rfl
    have co2 : c_out (z_si μ1 49 k (nI (q_pd Q w k))) Q w := by
      obtain ⟨o1, o2, o3, o4, o5, o6⟩ := co
      unfold c_out
      rw [p_si_ne (show (45 : Nat) ≠ 49 by decide), p_si_ne (show (36 : Nat) ≠ 49 by decide), p_si_ne (show (37 : Nat) ≠ 49 by decide), p_si_ne (show (46 : Nat) ≠ 49 by decide), p_si_ne (show (28 : Nat) ≠ 49 by decide)]
      exact ⟨o1, o2, o3, o4, o5, o6⟩
    obtain ⟨μ', y1, y2, y3, y4⟩ := ih (k + 1) fu (z_si μ1 49 k (nI (q_pd Q w k))) (by omega) (by omega) i2 co2 (hu.tr u2) (fun j hj => by
      by_cases e : j = k
      · rw [e, p_si_at]
      · rw [p_si_nk e]
        exact h49 j (by omega))
    refine ⟨μ', y1, y2, y3, ?_⟩
    rw [g_X4_hang_77]
    rw [hC.1.2.1, if_neg (nI_ge (by omega) (by omega)), p_paidTo hQ co (by omega), z_b2_s, p_g (show k < 14 by omega) (by decide), z_st_s, nI_clamp (by omega), nI_1]
    exact y4
theorem p_hang5a {A : a_A} {ν : z_M} {Q : y_Q} {w : Nat} (hw : w_A A) (hN : Q.1 = A.1.2.1) (x1 x2 x3 x4 x5 : Int32) : ∀ m k fu ν1, k + m = A.1.2.1 → m < fu → InvM A ν1 → m_out ν1 Q w → z_un scM ν ν1 → (∀ j, j < k → ν1.1 133 j = nI (q_pd Q w j)) → ∃ ν', InvM A ν' ∧ z_un scM ν ν' ∧ (∀ j, j < A.1.2.1 → ν'.1 133 j = nI (q_pd Q w j)) ∧ g_X5_hang_61 fu x1 x2 x3 x4 x5 (nI k) ν1 = (if x4 = -1 then (g_X5_hang_117 z_N x1 x2 x3 x5 (-1) 0 0 ν') else (z_b2 (f_X5_hanging x1 x2 x3 x4 x5 ν') fun r39 μ40 => (some (r39, μ40)))) := by
  have h14 : A.1.2.1 ≤ 14 := hw.1.2.1
  intro m
  induction m with
  | zero =>
    intro k fu ν1 hk hf hC co hu h49
    obtain ⟨fu, rfl⟩ : ∃ q, fu = q + 1 := ⟨fu - 1, by omega⟩
    have ek : k = A.1.2.1 := by omega
    subst ek
    refine ⟨ν1, hC, hu, h49, ?_⟩
    rw [g_X5_hang_61]
    rw [hC.1.2.1, if_pos (nI_le (Nat.le_refl _) (by omega))]
  | succ m ih =>
    intro k fu ν1 hk hf hC co hu h49
    obtain ⟨fu, rfl⟩ : ∃ q, fu = q + 1 := ⟨fu - 1, by omega⟩
    have u2 : z_un scM ν1 (z_si ν1 133 k (nI (q_pd Q w k))) := (z_un.rf _ _).si (by decide) _ _
    have co2 : m_out (z_si ν1 133 k (nI (q_pd Q w k))) Q w := by
      obtain ⟨o1, o2, o3, o4⟩ := co
      unfold m_out
      rw [p_si_ne (show (126 : Nat) ≠ 133 by decide), p_si_ne (show (127 : Nat) ≠ 133 by decide), p_si_ne (show (128 : Nat) ≠ 133 by decide), p_si_ne (show (129 : Nat) ≠ 133 by decide)]
      exact ⟨o1, o2, o3, o4⟩
    obtain ⟨ν', y1, y2, y3, y4⟩ := ih (k + 1) fu (z_si ν1 133 k (nI (q_pd Q w k))) (by omega) (by omega) (hC.scr u2) co2 (hu.tr u2) (fun j hj => by
      by_cases e : j = k
      · rw [e, p_si_at]
      · rw [p_si_nk e]
        exact h49 j (by omega))
    refine ⟨ν', y1, y2, y3, ?_⟩
    rw [g_X5_hang_61]
    rw [hC.1.2.1, if_neg (nI_ge (by omega) (by omega)), p_g (show k < 15 by omega) (by decide), p_g (show k < 15 by omega) (by decide), z_st_s, nI_clamp (by omega), co.1 k (by omega), nI_1]
    exact y4
noncomputable def q_gh (l : a_T) (s : a_S) (d : Int32) (w wh c : Nat) : Int32 := q_ch (q_pd (y_of l s d) w) (q_pd (y_of l (a_hg s d c wh) d) w) c s.2.1
theorem p_hang4b {A : a_A} {μ : z_M} (hw : w_A A) {n : Nat} (hn : n < 4) {d : Int32} (hd : p_in d 0 999) {w : Nat} (hway : w < 2) {wh : Nat} (hwh : wh < 4) : ∀ m i fu μ1, i + m = A.1.2.1 → m < fu → InvC A μ1 → z_un scC μ μ1 → (∀ j, j < A.1.2.1 → μ1.1 49 j = nI (q_pd (y_of (A.2.2.2.2.2 n) A.1 d) w j)) → ∃ μ', g_X4_hang_138 fu (nI n) d (nI w) (nI wh) (q_mx (fun _ => false) (q_gh (A.2.2.2.2.2 n) A.1 d w wh) i).1 (q_mx (fun _ => false) (q_gh (A.2.2.2.2.2 n) A.1 d w wh) i).2 (nI i) μ1 = some ((q_mx (fun _ => false) (q_gh (A.2.2.2.2.2 n) A.1 d w wh) A.1.2.1).1, μ') ∧ InvC A μ' ∧ z_un scC μ μ' := by
  have h14 : A.1.2.1 ≤ 14 := hw.1.2.1
  intro m
  induction m with
  | zero =>
    intro i fu μ1 hi hf hC hu h49
    obtain ⟨fu, rfl⟩ : ∃ q, fu = q + 1 := ⟨fu - 1, by omega⟩
    have ei : i = A.1.2.1 := by omega
    subst ei
    refine ⟨μ1, ?_, hC, hu⟩
    rw [g_X4_hang_138]
    rw [hC.1.2.1, if_pos (nI_le (Nat.le_refl _) (by omega))]
  | succ m ih =>
    intro i fu μ1 hi hf hC hu h49
    obtain ⟨fu, rfl⟩ : ∃ q, fu = q + 1 := ⟨fu - 1, by omega⟩
    obtain ⟨μ2, e2, u2, i2⟩ := p_hg4 hw hC hn hd hway h49 (c := i) (by omega) hwh
    obtain ⟨μ', y1, y2, y3⟩ := ih (i + 1) fu μ2 (by omega) (by omega) i2 (hu.tr (u2.mono sc1_sc)) (fun j hj => by rw [u2.1 49 (by decide)]; exact h49 j hj)
    refine ⟨μ', ?_, y2, y3⟩
    rw [g_X4_hang_138]
    rw [hC.1.2.1, if_neg (nI_ge (by omega) (by omega)), e2, z_b2_s, nI_1]
    rw [q_mx, if_neg (show ¬ false = true by decide)] at y1
    have eg : q_ch (q_pd (y_of (A.2.2.2.2.2 n) A.1 d) w) (q_pd (y_of (A.2.2.2.2.2 n) (a_hg A.1 d i wh) d) w) i A.1.2.1 = q_gh (A.2.2.2.2.2 n) A.1 d w wh i := rfl
    rw [eg]
    by_cases q2 : q_gh (A.2.2.2.2.2 n) A.1 d w wh i ≤ (q_mx (fun _ => false) (q_gh (A.2.2.2.2.2 n) A.1 d w wh) i).2
    · rw [if_pos q2]
      rw [if_pos q2] at y1
      exact y1
    · rw [if_neg q2]
      rw [if_neg q2] at y1
      exact y1
theorem p_hang5b {A : a_A} {ν : z_M} (hw : w_A A) {n : Nat} (hn : n < 4) {d : Int32} (hd : p_in d 0 999) {w : Nat} (hway : w < 2) {wh : Nat} (hwh : wh < 4) : ∀ m i fu ν1, i + m = A.1.2.1 → m < fu → InvM A ν1 → z_un scM ν ν1 → (∀ j, j < A.1.2.1 → ν1.1 133 j = nI (q_pd (y_of (A.2.2.2.2.2 n) A.1 d) w j)) → ∃ ν', g_X5_hang_117 fu (nI n) d (nI w) (nI wh) (q_mx (fun _ => false) (q_gh (A.2.2.2.2.2 n) A.1 d w wh) i).1 (q_mx (fun _ => false) (q_gh (A.2.2.2.2.2 n) A.1 d w wh) i).2 (nI i) ν1 = some ((q_mx (fun _ => false) (q_gh (A.2.2.2.2.2 n) A.1 d w wh) A.1.2.1).1, ν') ∧ InvM A ν' ∧ z_un scM ν ν' := by
  have h14 : A.1.2.1 ≤ 14 := hw.1.2.1
  intro m
  induction m with
  | zero =>
    intro i fu μ1 hi hf hC hu h49
    obtain ⟨fu, rfl⟩ : ∃ q, fu = q + 1 := ⟨fu - 1, by omega⟩
    have ei : i = A.1.2.1 := by omega
    subst ei
    refine ⟨μ1, ?_, hC, hu⟩
    rw [g_X5_hang_117]
    rw [hC.1.2.1, if_pos (nI_le (Nat.le_refl _) (by omega))]
  | succ m ih =>
    intro i fu μ1 hi hf hC hu h49
    obtain ⟨fu, rfl⟩ : ∃ q, fu = q + 1 := ⟨fu - 1, by omega⟩
    obtain ⟨μ2, e2, u2, i2⟩ := p_hg5 hw hC hn hd hway h49 (c := i) (by omega) hwh
    obtain ⟨μ', y1, y2, y3⟩ := ih (i + 1) fu μ2 (by omega) (by omega) i2 (hu.tr (u2.mono xO_sc)) (fun j hj => by rw [u2.1 133 (by decide)]; exact h49 j hj)
    refine ⟨μ', ?_, y2, y3⟩
    rw [g_X5_hang_117]
    rw [hC.1.2.1, if_neg (nI_ge (by omega) (by omega)), e2, z_b2_s, z_lt_s, z_lt_s, nI_1]
    rw [q_mx, if_neg (show ¬ false = true by decide)] at y1
    have eg : q_ch (q_pd (y_of (A.2.2.2.2.2 n) A.1 d) w) (q_pd (y_of (A.2.2.2.2.2 n) (a_hg A.1 d i wh) d) w) i A.1.2.1 = q_gh (A.2.2.2.2.2 n) A.1 d w wh i := rfl
    rw [eg]
    by_cases q2 : q_gh (A.2.2.2.2.2 n) A.1 d w wh i ≤ (q_mx (fun _ => false) (q_gh (A.2.2.2.2.2 n) A.1 d w wh) i).2
    · rw [if_pos q2, if_pos q2]
      rw [if_pos q2] at y1
      exact y1
    · rw [if_neg q2, if_neg q2]
      rw [if_neg q2] at y1
      exact y1
theorem s_28 : zs_28 Inv0 := by
  rintro μ ⟨A, hw, hC, hM⟩ x d w c y
  by_cases h1 : p_in x 0 3
  case neg => exact p_look hw hC hM (r := -1001) (by unfold f_X4_hang; rw [p_isLand4, z_b2_s, p_if0, if_neg h1]) (fun ν hν => by unfold f_X5_hang; rw [p_isLand5, z_b2_s, p_if0, if_neg h1])
  have F4 : f_X4_hang x d w c y μ = if c = -1 ∨ p_in c 0 ((A.1.2.1 : Int) - 1) then g_X4_hang_26 x d w c y μ else some (-1001, μ) := by
    unfold f_X4_hang
    rw [p_isLand4, z_b2_s, p_if0, if_pos h1, p_isClaimC hw hC, z_b2_s, p_if0]
    by_cases q : c = -1
    · rw [if_pos q, if_pos (Or.inl q)]
    · rw [if_neg q]
      by_cases q2 : p_in c 0 ((A.1.2.1 : Int) - 1)
      · rw [if_pos q2, if_pos (Or.inr q2)]
      · rw [if_neg q2, if_neg (fun z => z.elim q q2)]
  have F5 : ∀ ν, InvM A ν → f_X5_hang x d w c y ν = if c = -1 ∨ p_in c 0 ((A.1.2.1 : Int) - 1) then g_X5_hang_26 x d w c y ν else some (-1001, ν) := by
    intro ν hν
    unfold f_X5_hang
    rw [p_isLand5, z_b2_s, p_if0, if_pos h1, p_isClaimM hw hν, z_b2_s, p_if0]
    by_cases q : c = -1
    · rw [if_pos q, if_pos (Or.inl q)]
    · rw [if_neg q]
      by_cases q2 : p_in c 0 ((A.1.2.1 : Int) - 1)
      · rw [if_pos q2, if_pos (Or.inr q2)]
      · rw [if_neg q2, if_neg (fun z => z.elim q q2)]
  by_cases h2 : c = -1 ∨ p_in c 0 ((A.1.2.1 : Int) - 1)
  case neg => exact p_look hw hC hM (r := -1001) (by rw [F4, if_neg h2]) (fun ν hν => by rw [F5 ν hν, if_neg h2])
  by_cases h3 : p_in d 0 999
  case neg => exact p_look hw hC hM (r := -1002) (by rw [F4, if_pos h2]; unfold g_X4_hang_26; rw [p_isDay4, z_b2_s, p_if0, if_neg h3]) (fun ν hν => by rw [F5 ν hν, if_pos h2]; unfold g_X5_hang_26; rw [p_isGood5, z_b2_s, p_if0, if_neg (fun z => h3 z.1)])
  by_cases h4 : p_in w 0 1
  case neg => exact p_look hw hC hM (r := -1002) (by rw [F4, if_pos h2]; unfold g_X4_hang_26; rw [p_isDay4, z_b2_s, p_if0, if_pos h3, p_isWay4, z_b2_s, p_if0, if_neg h4]) (fun ν hν => by rw [F5 ν hν, if_pos h2]; unfold g_X5_hang_26; rw [p_isGood5, z_b2_s, p_if0, if_neg (fun z => h4 z.2)])
  by_cases h5 : p_in y 0 3
  case neg => exact p_look hw hC hM (r := -1002) (by rw [F4, if_pos h2]; unfold g_X4_hang_26; rw [p_isDay4, z_b2_s, p_if0, if_pos h3, p_isWay4, z_b2_s, p_if0, if_pos h4, p_rB 0 3 (by decide) (by decide), if_neg h5]) (fun ν hν => by rw [F5 ν hν, if_pos h2]; unfold g_X5_hang_26; rw [p_isGood5, z_b2_s, p_if0, if_pos ⟨h3, h4⟩, p_in5k 0 3 (by decide) (by decide), z_b2_s, p_if0, if_neg h5])
  obtain ⟨n, rfl, hn, hn'⟩ := p_nat h1
  have hn4 : n < 4 := by omega
  have wl := hw.2.2.2.2 n hn4
  obtain ⟨w, rfl, hw2, hw2'⟩ := p_nat h4
  have hway : w < 2 := by omega
  obtain ⟨wh, rfl, hw3, hw3'⟩ := p_nat h5
  have hwh : wh < 4 := by omega
  have hN : z_N = 5000 := rfl
  have h14 : A.1.2.1 ≤ 14 := hw.1.2.1
  have e0 : q_mx (fun _ => false) (q_gh (A.2.2.2.2.2 n) A.1 d w wh) 0 = (-1, 0) := by rw [q_mx]
  obtain ⟨o1, L, ln, μ1, e1, e2, c2, u2, i2⟩ := k_run hw hC hn4 h3 hway (Or.inl rfl) hw.1 hC.1
  obtain ⟨μ2, i3, u3, g3, e3⟩ := p_hang4a (μ := μ1) hw (w_of hw.1 wl d) rfl (nI n) d (nI w) c (nI wh) A.1.2.1 0 z_N μ1 (by omega) (by omega) i2 c2.out (z_un.rf _ _) (fun j hj => by omega)
  have E4 : f_X4_hang (nI n) d (nI w) c (nI wh) μ = (if c = -1 then (g_X4_hang_138 z_N (nI n) d (nI w) (nI wh) (-1) 0 0 μ2) else (z_b2 (f_X4_hangsOn (nI n) d (nI w) c (nI wh) μ2) fun r38 μ39 => (some (r38, μ39)))) := by
    rw [F4, if_pos h2]
    unfold g_X4_hang_26
    rw [p_isDay4, z_b2_s, p_if0, if_pos h3, p_isWay4, z_b2_s, p_if0, if_pos h4, p_rB 0 3 (by decide) (by decide), if_pos h5, p_g hn4 (by decide), nI_clamp hn', e1, Option.bind_some, e2, z_b1_s]
    rw [nI_0] at e3
    exact e3
  have G5 : ∀ ν, InvM A ν → ∃ ν2, InvM A ν2 ∧ z_un scM ν ν2 ∧ (∀ j, j < A.1.2.1 → ν2.1 133 j = nI (q_pd (y_of (A.2.2.2.2.2 n) A.1 d) w j)) ∧ f_X5_hang (nI n) d (nI w) c (nI wh) ν = (if c = -1 then (g_X5_hang_117 z_N (nI n) d (nI w) (nI wh) (-1) 0 0 ν2) else (z_b2 (f_X5_hanging (nI n) d (nI w) c (nI wh) ν2) fun r39 μ40 => (some (r39, μ40)))) := by
    intro ν hν
    obtain ⟨ν1, e5, u5, m5⟩ := k_out hw.1 wl hn4 (hν.ctx hw hn4) d hway
    rw [y_og_0] at m5
    obtain ⟨ν2, i6, u6, g6, e6⟩ := p_hang5a (ν := ν1) hw rfl (nI n) d (nI w) c (nI wh) A.1.2.1 0 z_N ν1 (by omega) (by omega) (hν.scr (u5.mono xO_sc)) m5 (z_un.rf _ _) (fun j hj => by omega)
    refine ⟨ν2, i6, (u5.mono xO_sc).tr u6, g6, ?_⟩
    rw [F5 ν hν, if_pos h2]
    unfold g_X5_hang_26
    rw [p_isGood5, z_b2_s, p_if0, if_pos ⟨h3, h4⟩, p_in5k 0 3 (by decide) (by decide), z_b2_s, p_if0, if_pos h5, e5, z_b1_s]
    rw [nI_0] at e6
    exact e6
  by_cases hc1 : c = -1
  · refine p_step hC hM hw (r := (q_mx (fun _ => false) (q_gh (A.2.2.2.2.2 n) A.1 d w wh) A.1.2.1).1) ?_ (fun ν hν => ?_)
    · obtain ⟨μ3, y1, y2, y3⟩ := p_hang4b (μ := μ2) hw hn4 h3 hway hwh A.1.2.1 0 z_N μ2 (by omega) (by omega) i3 (z_un.rf _ _) g3
      rw [e0, nI_0] at y1
      exact ⟨μ3, by rw [E4, if_pos hc1]; exact y1, y2, z_hi_un (((u2.mono xR_sc).tr u3).tr y3)⟩
    · obtain ⟨ν2, i6, u6, g6, e6⟩ := G5 ν hν
      obtain ⟨ν3, y1, y2, y3⟩ := p_hang5b (ν := ν2) hw hn4 h3 hway hwh A.1.2.1 0 z_N ν2 (by omega) (by omega) i6 (z_un.rf _ _) g6
      rw [e0, nI_0] at y1
      exact ⟨ν3, by rw [e6, if_pos hc1]; exact y1, y2, z_lo_un (u6.tr y3)⟩
  · have h2' : p_in c 0 ((A.1.2.1 : Int) - 1) := h2.resolve_left hc1
    obtain ⟨k, rfl, hk, hk'⟩ := p_nat h2'
    have hkc : k < A.1.2.1 := by omega
    refine p_step hC hM hw (r := q_gh (A.2.2.2.2.2 n) A.1 d w wh k) ?_ (fun ν hν => ?_)
    · obtain ⟨μ3, y1, y2, y3⟩ := p_hg4 hw i3 hn4 h3 hway g3 hkc hwh
      exact ⟨μ3, by rw [E4, if_neg hc1, y1, z_b2_s]; rfl, y3, z_hi_un (((u2.mono xR_sc).tr u3).tr (y2.mono sc1_sc))⟩
    · obtain ⟨ν2, i6, u6, g6, e6⟩ := G5 ν hν
      obtain ⟨ν3, y1, y2, y3⟩ := p_hg5 hw i6 hn4 h3 hway g6 hkc hwh
      exact ⟨ν3, by rw [e6, if_neg hc1, y1, z_b2_s]; rfl, y3, z_lo_un (u6.tr (y2.mono xO_sc))⟩
