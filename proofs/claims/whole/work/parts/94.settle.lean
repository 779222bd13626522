/-! PURE: Law.settle, whole -/
def rgv (C : Nat → Nat → Bool) : Nat → Int32
  | 0 => 0
  | k + 1 => rgv C k ||| ((if C k k = true then (1 : Int32) else 0) <<< (nI k &&& 31))
theorem p_settle {o : Nat} {s : Nat → Nat → Bool} {μ : z_M} (hs : ∀ a b, s a b = true → a < 8 ∧ b < 8) (hb : rb μ o s) (hr : rk μ o (fun _ => 0)) (h7 : μ.1 o 7 = 0) : ∃ μ', f_X0_settle o μ = some μ' ∧ z_un [o, o + 3, o + 4] μ μ' ∧ (∀ i, i ≠ 7 → μ'.1 o i = μ.1 o i) ∧ rb μ' o (cl s 8) ∧ rk μ' o (hH (cl s 8)) ∧ μ'.1 o 7 = rgv (cl s 8) 8 := by
  have hN : z_N = 5000 := rfl
  have tr : ∀ a b c, cl s 8 a b = true → cl s 8 b c = true → cl s 8 a c = true := fun a b c h1 h2 => k_tr hs h1 h2
  obtain ⟨μ1, e1, u1, b1⟩ := p_fo hb
  have o1 : μ1.1 o = μ.1 o := u1.1 o (by simp)
  have r1 : μ1.1 (o + 4) = μ.1 (o + 4) := u1.1 (o + 4) (by simp)
  have c41 : ∀ c t fu μ2 r, t + c = 8 → c < fu → z_un [o + 4] μ1 μ2 ∨ True → rb μ2 o (cl s 8) → rk μ2 o r → (∀ k, k < 8 → min (hH (cl s 8) k) t ≤ r k ∧ r k ≤ hH (cl s 8) k) → ∃ μ', g_X0_settle_41 o fu (nI t) μ2 = some μ' ∧ z_un [o + 4] μ2 μ' ∧ rk μ' o (hH (cl s 8)) := by
    intro c
    induction c with
    | zero =>
      intro t fu μ2 r ht hf _ hb2 hr2 hle
      obtain ⟨fu, rfl⟩ : ∃ q, fu = q + 1 := ⟨fu - 1, by omega⟩
      have et : t = 8 := by omega
      subst et
      refine ⟨μ2, ?_, z_un.rf _ _, fun k hk => ?_⟩
      · rw [g_X0_settle_41]
        rw [if_pos (show (8 : Int32) ≤ nI 8 by decide)]
      · rw [hr2 k hk]
        have := hle k hk
        have := h_7 tr hk
        congr 1
        omega
    | succ c ih =>
      intro t fu μ2 r ht hf _ hb2 hr2 hle
      obtain ⟨fu, rfl⟩ : ∃ q, fu = q + 1 := ⟨fu - 1, by omega⟩
      obtain ⟨μ3, r3, e3, u3, k3, l3, p3⟩ := p_ra (μ := μ2) (r0 := r) hb2 (fun k hk => h_7 tr hk) (fun j k hj hk hD => h_1 tr hj hk hD) hr2 (fun i hi => (hle i hi).2)
      have hb3 : rb μ3 o (cl s 8) := fun a b ha hb' => by rw [u3.1 (o + 3) (by simp)]; exact hb2 a b ha hb'
      obtain ⟨μ', y1, y2, y3⟩ := ih (t + 1) fu μ3 r3 (by omega) (by omega) (Or.inr trivial) hb3 k3 (fun k hk => by
        have q1 := l3 k hk
        have q2 := hle k hk
        refine ⟨?_, q1.2⟩
        rcases h_2 tr hk with z | ⟨j, hj, z1, z2⟩
        · omega
        · have q3 := p3 j k hj hk z1
          have q4 := (hle j hj).1
          omega)
      refine ⟨μ', ?_, u3.tr y2, y3⟩
      rw [g_X0_settle_41]
      rw [if_neg (show ¬ (8 : Int32) ≤ nI t from p_nle (a := 8) (by omega) (by decide)), e3, z_b1_s, nI_1]
      exact y1
  have c6 : ∀ c k fu μ2, k + c = 8 → c < fu → z_un [o] μ1 μ2 → (∀ i, i ≠ 7 → μ2.1 o i = μ1.1 o i) → μ2.1 o 7 = rgv (cl s 8) k → ∃ μ', g_X0_settle_6 o fu (nI k) μ2 = some μ' ∧ z_un [o, o + 4] μ1 μ' ∧ (∀ i, i ≠ 7 → μ'.1 o i = μ1.1 o i) ∧ μ'.1 o 7 = rgv (cl s 8) 8 ∧ rk μ' o (hH (cl s 8)) := by
    intro c
    induction c with
    | zero =>
      intro k fu μ2 hk hf hu hi h7'
      obtain ⟨fu, rfl⟩ : ∃ q, fu = q + 1 := ⟨fu - 1, by omega⟩
      have ek : k = 8 := by omega
      subst ek
      obtain ⟨μ', y1, y2, y3⟩ := c41 8 0 z_N μ2 (fun _ => 0) (by omega) (by omega) (Or.inr trivial) (fun a b ha hb' => by rw [hu.1 (o + 3) (by simp)]; exact b1 a b ha hb') (fun k hk => by rw [hu.1 (o + 4) (by simp), r1]; exact hr k hk) (fun k hk => ⟨by omega, Nat.zero_le _⟩)
      refine ⟨μ', ?_, (hu.mono (by simp)).tr (y2.mono (by simp)), fun i hi' => by rw [y2.1 o (by simp)]; exact hi i hi', by rw [y2.1 o (by simp)]; exact h7', y3⟩
      rw [g_X0_settle_6]
      rw [if_pos (show (8 : Int32) ≤ nI 8 by decide)]
      rw [nI_0] at y1
      exact y1
    | succ c ih =>
      intro k fu μ2 hk hf hu hi h7'
      obtain ⟨fu, rfl⟩ : ∃ q, fu = q + 1 := ⟨fu - 1, by omega⟩
      have hk8 : k < 8 := by omega
      have e3 : μ2.1 (o + 3) = μ1.1 (o + 3) := hu.1 (o + 3) (by simp)
      rw [g_X0_settle_6]
      rw [if_neg (show ¬ (8 : Int32) ≤ nI k from p_nle (a := 8) hk8 (by decide)), p_g hk8 (by decide), nI_clamp (by omega), p_bitE, z_b2_s, e3, b1 k k hk8 hk8, z_st_s, h7', nI_1]
      exact ih (k + 1) fu _ (by omega) (by omega) (hu.si (by simp) _ _) (fun i hi' => by rw [p_si_nk hi']; exact hi i hi') (by rw [p_si_at, rgv])
  obtain ⟨μ', y1, y2, y3, y4, y5⟩ := c6 8 0 z_N μ1 (by omega) (by omega) (z_un.rf _ _) (fun _ _ => rfl) (by rw [o1, h7, rgv])
  refine ⟨μ', ?_, (u1.mono (by simp)).tr (y2.mono (by simp)), fun i hi => by rw [y3 i hi, o1], fun a b ha hb' => by rw [y2.1 (o + 3) (by simp)]; exact b1 a b ha hb', y5, y4⟩
  unfold f_X0_settle
  rw [e1, z_b1_s]
  rw [nI_0] at y1
  exact y1
/-! the ring of the class is that of the reference -/
theorem bt_rgv (C : Nat → Nat → Bool) : ∀ k, k ≤ 8 → ∀ i, i < 32 → bt (rgv C k) i = (decide (i < k) && C i i)
  | 0, _, i, hi => by
    rw [rgv, b_0]
    simp
  | k + 1, hk, i, hi => by
    rw [rgv, b_or, bt_rgv C k (by omega) i hi]
    have h1 : bt ((if C k k = true then (1 : Int32) else 0) <<< (nI k &&& 31)) i = (decide (i = k) && C k k) := by
      by_cases q : C k k = true
      · rw [if_pos q, b_one k (by omega) hi, q, Bool.and_true]
      · rw [if_neg q, b_shl k (by omega) _ hi, b_0, Bool.and_false, show C k k = false by simpa using q, Bool.and_false]
    rw [h1]
    by_cases e : i = k
    · rw [e]
      simp
    · have e1 : decide (i = k) = false := decide_eq_false e
      rw [e1, Bool.false_and, Bool.or_false]
      congr 1
      by_cases z : i < k
      · rw [decide_eq_true z, decide_eq_true (show i < k + 1 by omega)]
      · rw [decide_eq_false z, decide_eq_false (show ¬ i < k + 1 by omega)]
theorem p_2pow : ∀ a, a < 8 → ∀ i, i < 32 → bt (nI (2 ^ a)) i = decide (i = a) := by decide +kernel
def cT (C : Nat → Nat → Bool) (k : Nat) : Int32 := if C (k / 8) (k % 8) = true then 1 else 0
theorem cT_at (C : Nat → Nat → Bool) {a b : Nat} (hb : b < 8) : cT C (8 * a + b) = if C a b = true then 1 else 0 := by
  unfold cT
  rw [show (8 * a + b) / 8 = a by omega, show (8 * a + b) % 8 = b by omega]
theorem bt_ri (C : Nat → Nat → Bool) {a : Nat} (ha : a < 8) (x : Int32) : ∀ m, m ≤ 8 → ∀ i, i < 32 → bt (a_ri (cT C) a x m) i = (bt x i || (decide (i = a) && (List.range m).any (fun b => decide (a ≠ b) && C a b && C b a)))
  | 0, _, i, hi => by
    show bt x i = _
    simp
  | m + 1, hm, i, hi => by
    rw [a_ri_s, b_or, bt_ri C ha x m (by omega) i hi, cT_at C (show m < 8 by omega), cT_at C ha, List.range_succ, List.any_append]
    have h1 : bt (if a ≠ m ∧ (if C a m = true then (1 : Int32) else 0) = 1 ∧ (if C m a = true then (1 : Int32) else 0) = 1 then nI (2 ^ a) else 0) i = (decide (i = a) && (decide (a ≠ m) && C a m && C m a)) := by
      by_cases q : a ≠ m ∧ (if C a m = true then (1 : Int32) else 0) = 1 ∧ (if C m a = true then (1 : Int32) else 0) = 1
      · rw [if_pos q, p_2pow a ha i hi, decide_eq_true q.1, b01.mp q.2.1, b01.mp q.2.2]
        simp
      · rw [if_neg q, b_0]
        cases h2 : (decide (a ≠ m) && C a m && C m a) with
        | false => simp
        | true =>
          rw [Bool.and_eq_true, Bool.and_eq_true] at h2
          exact absurd ⟨of_decide_eq_true h2.1.1, b01.mpr h2.1.2, b01.mpr h2.2⟩ q
    rw [h1]
    simp only [List.any_cons, List.any_nil, Bool.or_false]
    cases bt x i <;> cases decide (i = a) <;> simp
theorem bt_ro (C : Nat → Nat → Bool) : ∀ m, m ≤ 8 → ∀ i, i < 32 → bt (a_ro (cT C) m) i = (decide (i < m) && (List.range 8).any (fun b => decide (i ≠ b) && C i b && C b i))
  | 0, _, i, hi => by
    show bt 0 i = _
    rw [b_0]
    simp
  | m + 1, hm, i, hi => by
    rw [a_ro_s, bt_ri C (show m < 8 by omega) _ 8 (Nat.le_refl _) i hi, bt_ro C m (by omega) i hi]
    by_cases e : i = m
    · subst e
      simp
    · rw [decide_eq_false e, Bool.false_and, Bool.or_false]
      congr 1
      by_cases z : i < m
      · rw [decide_eq_true z, decide_eq_true (show i < m + 1 by omega)]
      · rw [decide_eq_false z, decide_eq_false (show ¬ i < m + 1 by omega)]
theorem p_ringEq {s : Nat → Nat → Bool} (hs : ∀ a b, s a b = true → a < 8 ∧ b < 8) (hn : ∀ a, ¬ s a a = true) : rgv (cl s 8) 8 = a_ring (cT (cl s 8)) := by
  apply b_ext
  intro i hi
  have e1 : a_ring (cT (cl s 8)) = a_ro (cT (cl s 8)) 8 := rfl
  rw [e1, bt_rgv _ 8 (Nat.le_refl _) i hi, bt_ro _ 8 (Nat.le_refl _) i hi]
  congr 1
  rw [Bool.eq_iff_iff, k_ring hs hn, List.any_eq_true]
  constructor
  · rintro ⟨b, h1, h2, h3, h4⟩
    refine ⟨b, List.mem_range.mpr h1, ?_⟩
    rw [decide_eq_true h2, h3, h4]
    rfl
  · rintro ⟨b, h1, h2⟩
    rw [Bool.and_eq_true, Bool.and_eq_true] at h2
    exact ⟨b, List.mem_range.mp h1, of_decide_eq_true h2.1.1, h2.1.2, h2.2⟩
