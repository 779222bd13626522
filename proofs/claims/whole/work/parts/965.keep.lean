/-! PURE: the reference's findRanks, keepLaw, whole -/
theorem p_findRanks {n : Nat} {s : Nat → Nat → Bool} {ν : z_M} (hn : n < 4) (hs : ∀ a b, s a b = true → a < 8 ∧ b < 8) (hM : mb ν n (cl s 8)) (h109 : ∀ a b, a < 8 → b < 8 → (ν.1 109 (8 * a + b) &&& 1) = if s a b = true then 1 else 0) : ∃ ν', f_X5_findRanks (nI n) ν = some ν' ∧ z_un [112, 113] ν ν' ∧ kF n ν ν' ∧ mr ν' n (hH (cl s 8)) := by
  have hN : z_N = 5000 := rfl
  have tr : ∀ a b c, cl s 8 a b = true → cl s 8 b c = true → cl s 8 a c = true := fun a b c h1 h2 => k_tr hs h1 h2
  have h7 : ∀ k, k < 8 → hH (cl s 8) k ≤ 7 := fun k hk => h_7 tr hk
  have hDs : ∀ j k, s j k = true ∧ ¬ k_al (cl s 8) j k → k_D (cl s 8) j k := fun j k h => ⟨cl_up8 (m := 0) (by omega) h.1, fun z => h.2 (Or.inr ⟨cl_up8 (m := 0) (by omega) h.1, z⟩)⟩
  have alt : ∀ a b c, k_al (cl s 8) a b → k_al (cl s 8) b c → k_al (cl s 8) a c := by
    intro a b c h1 h2
    rcases h1 with e | e
    · rw [e]
      exact h2
    · rcases h2 with e2 | e2
      · rw [← e2]
        exact Or.inr e
      · exact Or.inr ⟨tr _ _ _ e.1 e2.1, tr _ _ _ e2.2 e.2⟩
  -- the rounds
  have c59 : ∀ c t fu ν1 r, t + c = 8 → c < fu → mb ν1 n (cl s 8) → sb1 ν1 n s → mr ν1 n r → (∀ k, k < 8 → min (hH (cl s 8) k) t ≤ r k ∧ r k ≤ hH (cl s 8) k) → ∃ ν', g_X5_findRanks_59 fu (nI n) (nI t) ν1 = some ν' ∧ z_un [113] ν1 ν' ∧ kF n ν1 ν' ∧ mr ν' n (hH (cl s 8)) := by
    intro c
    induction c with
    | zero =>
      intro t fu ν1 r ht hf hM1 hS1 hr hle
      obtain ⟨fu, rfl⟩ : ∃ q, fu = q + 1 := ⟨fu - 1, by omega⟩
      have et : t = 8 := by omega
      subst et
      refine ⟨ν1, ?_, z_un.rf _ _, kF.rf n ν1, fun k hk => ?_⟩
      · rw [g_X5_findRanks_59]
        rw [if_pos (show (8 : Int32) ≤ nI 8 by decide)]
      · rw [hr k hk]
        have := hle k hk
        have := h7 k hk
        congr 1
        omega
    | succ c ih =>
      intro t fu ν1 r ht hf hM1 hS1 hr hle
      obtain ⟨fu, rfl⟩ : ∃ q, fu = q + 1 := ⟨fu - 1, by omega⟩
      obtain ⟨ν2, r1, r2, u2, F2, k2, l2, p2, q2, e2⟩ := p_fr67 (ν := ν1) (r0 := r) hn hM1 hS1 h7 (fun j k hj hk hD => h_1 tr hj hk (hDs j k hD)) (fun j k hj hk hal => h_al tr hj hk hal) hr (fun i hi => (hle i hi).2) t (fun (y24 : Int32) (y25 : Int32) (μ22 : z_M) => (g_X5_findRanks_59 fu (y24) (y25) μ22))
      obtain ⟨ν', y1, y2, y3, y4⟩ := ih (t + 1) fu ν2 r2 (by omega) (by omega) (fun i j hi hj => by rw [u2.1 103 (by decide)]; exact hM1 i j hi hj) (fun i j hi hj => by rw [u2.1 112 (by decide)]; exact hS1 i j hi hj) k2 (fun k hk => by
        have w1 := l2 k hk
        have w2 := hle k hk
        refine ⟨?_, w1.2.2⟩
        rcases h_2 tr hk with z | ⟨j, hj, z1, z2⟩
        · omega
        · obtain ⟨x, y, x1, x2, x3, x4⟩ := k_cross hs z1
          have hx := (hs x y x1).1
          have hy := (hs x y x1).2
          have nal : ¬ k_al (cl s 8) x y := fun z => x3 (alt x y k z x4)
          have w3 := p2 x y hx hy ⟨x1, nal⟩
          have w4 := q2 y k hy hk x4
          have w5 := (hle x hx).1
          have w6 : hH (cl s 8) j ≤ hH (cl s 8) x := by
            rcases x2 with e | e
            · rw [e]
              exact Nat.le_refl _
            · rcases Classical.em (cl s 8 x j = true) with e2 | e2
              · exact h_al tr hj hx (Or.inr ⟨e, e2⟩)
              · have := h_1 tr hj hx ⟨e, e2⟩
                omega
          omega)
      refine ⟨ν', ?_, u2.tr y2, F2.tr y3, y4⟩
      rw [g_X5_findRanks_59]
      rw [if_neg (show ¬ (8 : Int32) ≤ nI t from p_nle (a := 8) (by omega) (by decide))]
      exact e2.trans y1
  have c33 : ∀ c k fu ν1, k + c = 8 → c < fu → z_un [112, 113] ν ν1 → kF n ν ν1 → sb1 ν1 n s → (∀ j, j < k → ν1.1 113 (8 * n + j) = 0) → ∃ ν', g_X5_findRanks_33 fu (nI n) (nI k) ν1 = some ν' ∧ z_un [112, 113] ν ν' ∧ kF n ν ν' ∧ mr ν' n (hH (cl s 8)) := by
    intro c
    induction c with
    | zero =>
      intro k fu ν1 hk hf hu hF hS1 hc
      obtain ⟨fu, rfl⟩ : ∃ q, fu = q + 1 := ⟨fu - 1, by omega⟩
      have ek : k = 8 := by omega
      subst ek
      obtain ⟨ν', y1, y2, y3, y4⟩ := c59 8 0 z_N ν1 (fun _ => 0) (by omega) (by omega) (fun i j hi hj => by rw [hu.1 103 (by decide)]; exact hM i j hi hj) hS1 (fun k hk => hc k hk) (fun k hk => ⟨by omega, Nat.zero_le _⟩)
      refine ⟨ν', ?_, hu.tr (y2.mono (by simp)), hF.tr y3, y4⟩
      rw [g_X5_findRanks_33]
      rw [if_pos (show (8 : Int32) ≤ nI 8 by decide)]
      rw [nI_0] at y1
      exact y1
    | succ c ih =>
      intro k fu ν1 hk hf hu hF hS1 hc
      obtain ⟨fu, rfl⟩ : ∃ q, fu = q + 1 := ⟨fu - 1, by omega⟩
      have e8 : (8 : Int32) * nI n + nI k = nI (8 * n + k) := p_ix 8 n k
      rw [g_X5_findRanks_33]
      rw [if_neg (show ¬ (8 : Int32) ≤ nI k from p_nle (a := 8) (by omega) (by decide)), e8, p_g (show 8 * n + k < 32 by omega) (by decide), nI_clamp (by omega), z_st_s, nI_1]
      exact ih (k + 1) fu _ (by omega) (by omega) (hu.si (by simp) _ _) (hF.si (Or.inl ⟨by omega, by omega, by omega⟩) _) (fun i j hi hj => by rw [p_si_ne (by decide)]; exact hS1 i j hi hj) (fun j hj => by
        by_cases e : j = k
        · rw [e, p_si_at]
        · rw [p_si_nk (by omega)]
          exact hc j (by omega))
  have c2 : ∀ c k fu ν1, k + c = 64 → c < fu → z_un [112, 113] ν ν1 → kF n ν ν1 → (∀ j, j < k → ν1.1 112 (64 * n + j) = (ν.1 109 j &&& 1)) → ∃ ν', g_X5_findRanks_2 fu (nI n) (nI k) ν1 = some ν' ∧ z_un [112, 113] ν ν' ∧ kF n ν ν' ∧ mr ν' n (hH (cl s 8)) := by
    intro c
    induction c with
    | zero =>
      intro k fu ν1 hk hf hu hF hc
      obtain ⟨fu, rfl⟩ : ∃ q, fu = q + 1 := ⟨fu - 1, by omega⟩
      have ek : k = 64 := by omega
      subst ek
      obtain ⟨ν', y1, y2, y3, y4⟩ := c33 8 0 z_N ν1 (by omega) (by omega) hu hF (fun i j hi hj => by rw [hc (8 * i + j) (by omega)]; exact h109 i j hi hj) (fun j hj => by omega)
      refine ⟨ν', ?_, y2, y3, y4⟩
      rw [g_X5_findRanks_2]
      rw [if_pos (show (64 : Int32) ≤ nI 64 by decide)]
      rw [nI_0] at y1
      exact y1
    | succ c ih =>
      intro k fu ν1 hk hf hu hF hc
      obtain ⟨fu, rfl⟩ : ∃ q, fu = q + 1 := ⟨fu - 1, by omega⟩
      have e8 : (64 : Int32) * nI n + nI k = nI (64 * n + k) := p_ix 64 n k
      rw [g_X5_findRanks_2]
      rw [if_neg (show ¬ (64 : Int32) ≤ nI k from p_nle (a := 64) (by omega) (by decide)), p_g (show k < 64 by omega) (by decide), e8, p_g (show 64 * n + k < 256 by omega) (by decide), nI_clamp (by omega), nI_clamp (by omega), z_st_s, hF.read 109 k (by omega), nI_1]
      exact ih (k + 1) fu _ (by omega) (by omega) (hu.si (by simp) _ _) (hF.si (Or.inr (Or.inl ⟨by omega, by omega, by omega⟩)) _) (fun j hj => by
        by_cases e : j = k
        · rw [e, p_si_at]
        · rw [p_si_nk (by omega)]
          exact hc j (by omega))
  unfold f_X5_findRanks
  exact c2 64 0 z_N ν (by omega) (by omega) (z_un.rf _ _) (kF.rf n ν) (fun j hj => by omega)
/-- the law that was read, as a table -/
def k_tab (rr rs rd rl ru : Nat → Int32) (C : Nat → Nat → Bool) : a_T := fun f k => if f = 0 then (if rr k = 0 then 1 else rr k) else if f = 1 then rs k else if f = 2 then rd k else if f = 3 then (rl k &&& 1) else if f = 4 then nI (hH C k) else if f = 5 then cT C k else if f = 6 then ru k else a_ring (cT C)
theorem p_keepLaw {n : Nat} {s : Nat → Nat → Bool} {ν : z_M} (hn : n < 4) (hs : ∀ a b, s a b = true → a < 8 ∧ b < 8) (h109 : ∀ a b, a < 8 → b < 8 → (ν.1 109 (8 * a + b) &&& 1) = if s a b = true then 1 else 0) : ∃ ν', f_X5_keepLaw (nI n) ν = some ν' ∧ kF n ν ν' ∧ m_law ν' n (k_tab (ν.1 105) (ν.1 106) (ν.1 107) (ν.1 108) (ν.1 110) (cl s 8)) := by
  have hN : z_N = 5000 := rfl
  obtain ⟨ν1, ⟨F1, g1⟩, e1⟩ := p_kl2 (ν := ν) hn (fun ν' => kF n ν ν' ∧ ∀ k, k < 8 → ν'.1 99 (8 * n + k) = (if ν.1 105 k = 0 then 1 else ν.1 105 k) ∧ ν'.1 100 (8 * n + k) = ν.1 106 k ∧ ν'.1 101 (8 * n + k) = ν.1 107 k ∧ ν'.1 102 (8 * n + k) = (ν.1 108 k &&& 1)) (fun ν' h1 h2 => ⟨h1, h2⟩) 8 0 z_N ν (by omega) (by omega) (kF.rf n ν) (fun j hj => by omega)
  obtain ⟨ν2, F2, u2, g2, e2⟩ := p_kl97 (ν := ν1) hn 64 0 z_N ν1 (by omega) (by omega) (kF.rf n ν1) (z_un.rf _ _) (fun j hj => by omega)
  obtain ⟨ν3, F3, u3, g3, e3⟩ := p_kl128 (ν := ν2) hn 5 0 z_N ν2 (by omega) (by omega) (kF.rf n ν2) (z_un.rf _ _) (fun j hj => by omega)
  have M3 : mb ν3 n (cl s 0) := fun a b ha hb => by
    rw [u3.1 103 (by decide), g2 (8 * a + b) (by omega), F1.read 109 _ (by omega)]
    exact h109 a b ha hb
  obtain ⟨ν4, u4, F4, M4, e4⟩ := p_kl157 (ν := ν3) hn (s := s) 8 0 z_N ν3 (by omega) (by omega) (z_un.rf _ _) (kF.rf n ν3) M3
  have F14 : kF n ν ν4 := ((F1.tr F2).tr F3).tr F4
  obtain ⟨ν5, e5, u5, F5, k5⟩ := p_findRanks (ν := ν4) hn hs M4 (fun a b ha hb => by rw [F14.read 109 _ (by omega)]; exact h109 a b ha hb)
  refine ⟨ν5, ?_, F14.tr F5, ⟨fun k hk => ?_, fun k hk => ?_, fun k hk => ?_⟩⟩
  · unfold f_X5_keepLaw
    rw [nI_0] at e1 e2 e3 e4
    rw [e1, e2, e3, e4, e5, z_b1_s]
  · obtain ⟨q1, q2, q3, q4⟩ := g1 k hk
    have c : ∀ a, a ≠ 103 → a ≠ 104 → a ≠ 112 → a ≠ 113 → ν5.1 a = ν1.1 a := fun a n1 n2 n3 n4 => by
      rw [u5.1 a (by simp; omega), u4.1 a (by simp; omega), u3.1 a (by simp; omega), u2.1 a (by simp; omega)]
    rw [c 99 (by decide) (by decide) (by decide) (by decide), c 100 (by decide) (by decide) (by decide) (by decide), c 101 (by decide) (by decide) (by decide) (by decide), c 102 (by decide) (by decide) (by decide) (by decide)]
    exact ⟨q1, q2, q3, q4, k5 k hk⟩
  · rw [u5.1 103 (by decide)]
    have := M4 (k / 8) (k % 8) (by omega) (by omega)
    rw [show 8 * (k / 8) + k % 8 = k by omega] at this
    exact this
  · rw [u5.1 104 (by decide), u4.1 104 (by decide), g3 k hk, u2.1 110 (by decide), F1.read 110 k (by omega)]
    rfl
