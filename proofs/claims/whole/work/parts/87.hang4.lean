/-! PURE: hang -/
def a_hg (s : a_S) (d : Int32) (c wh : Nat) : a_S := if wh = 0 then a_gone s c else if wh = 1 then (s.1, s.2.1, a_up s.2.2 7 c (if s.2.2 7 c = 0 then 1 else 0)) else if wh = 2 then (s.1, s.2.1, a_up s.2.2 5 c (if (999 : Int32) ≤ s.2.2 5 c then s.2.2 5 c else s.2.2 5 c + 1)) else (s.1, s.2.1, a_up s.2.2 9 c d)
theorem p_day1 {x : Int32} (h : p_in x 0 999) : (if x + 1 < (999 : Int32) then x + 1 else (999 : Int32)) = (if (999 : Int32) ≤ x then x else x + 1) ∧ p_in (if (999 : Int32) ≤ x then x else x + 1) 0 999 := by
  obtain ⟨n, rfl, hn, hn'⟩ := p_nat h
  rw [nI_1]
  by_cases q : 999 ≤ n
  · have e : n = 999 := by omega
    subst e
    decide
  · rw [if_neg (show ¬ (999 : Int32) ≤ nI n from nI_ge (b := 999) (by omega) (by decide))]
    refine ⟨?_, ?_⟩
    · by_cases q2 : n + 1 < 999
      · rw [if_pos (show nI (n + 1) < 999 from nI_lt (b := 999) q2 (by decide))]
      · rw [if_neg (show ¬ nI (n + 1) < 999 from nI_nlt (b := 999) (by omega) (by omega)), show n + 1 = 999 by omega]
        rfl
    · unfold p_in
      rw [nI_toInt (by omega)]
      omega
theorem w_hg {s : a_S} (hs : w_ship s) {d : Int32} (hd : p_in d 0 999) {c : Nat} (hc : c < s.2.1) (wh : Nat) : w_ship (a_hg s d c wh) := by
  unfold a_hg
  split
  · exact w_gone hs c
  · split
    · exact w_up hs (Or.inr (Or.inr (Or.inl ⟨rfl, by split; exact Or.inr rfl; exact Or.inl rfl⟩)))
    · split
      · exact w_up hs (Or.inl ⟨rfl, (p_day1 (hs.2.2.2.1 c hc).2.2.1).2⟩)
      · exact w_up hs (Or.inr (Or.inr (Or.inr ⟨rfl, by have := hd.1; omega, hd.2⟩)))
theorem a_hg_N (s : a_S) (d : Int32) (c wh : Nat) : (a_hg s d c wh).2.1 = s.2.1 := by
  unfold a_hg
  repeat' split
  all_goals rfl
def sc1 : List Nat := [15, 16, 17, 18, 19, 20, 21, 22, 23, 24, 25, 28, 29, 30, 31, 32, 33, 34, 35, 36, 37, 38, 41, 42, 43, 44, 45, 46]
theorem sc1_sc : ∀ a ∈ sc1, a ∈ scC := by decide
theorem xR_sc1 : ∀ a ∈ xR, a ∈ sc1 := by decide
theorem k_bec1 {A : a_A} {μ : z_M} (hw : w_A A) (hC : InvC A μ) : ∃ μ', f_X3_become 15 4 μ = some μ' ∧ c_ship μ' 15 A.1 ∧ z_un sc1 μ μ' ∧ InvC A μ' := by
  obtain ⟨μ', e, b⟩ := p_become (μ := μ) (o := 15) (o1 := 4) (by omega)
  have hsc : ∀ a, a < 26 → 15 ≤ a → a ∈ sc1 := by decide
  have u : z_un sc1 μ μ' := ⟨fun a ha => b.2.2.1 a (by
    rcases Nat.lt_or_ge a 15 with q | q
    · exact Or.inl q
    · rcases Nat.lt_or_ge 25 a with q2 | q2
      · exact Or.inr q2
      · exact absurd (hsc a (by omega) q) ha), b.2.2.2⟩
  refine ⟨μ', e, b.ship hw.1 hC.1, u, hC.scr (u.mono sc1_sc) ?_⟩
  rw [b.2.2.1 46 (by omega)]
  exact hC.2.2.2.2.2.2.2.2.2.2
theorem c_ship_lv {μ : z_M} {o : Nat} {s : a_S} (hs : w_ship s) (h : c_ship μ o s) {c : Nat} (hc : c < s.2.1) : c_ship (z_si μ o 2 (μ.1 o 2 ^^^ ((1 : Int32) <<< (nI c &&& 31)))) o (s.1, s.2.1, a_up s.2.2 7 c (if s.2.2 7 c = 0 then 1 else 0)) := by
  have h14 : s.2.1 ≤ 14 := hs.2.1
  obtain ⟨c1, c2, c3, c4, c5, c6⟩ := h
  have ne : ∀ f k, f ≠ 7 → a_up s.2.2 7 c (if s.2.2 7 c = 0 then 1 else 0) f k = s.2.2 f k := fun f k hf => a_up_ne (fun q => hf q.1)
  have nc : ∀ i, 1 ≤ i → (z_si μ o 2 (μ.1 o 2 ^^^ ((1 : Int32) <<< (nI c &&& 31)))).1 (o + i) = μ.1 (o + i) := fun i hi => p_si_ne (by omega)
  refine ⟨?_, ?_, fun k hk => ?_, fun k hk => ?_, fun k hk => ?_, fun k hk => ?_⟩
  · rw [p_si_nk (by decide)]
    exact c1
  · rw [p_si_nk (by decide)]
    exact c2
  · show _ = a_up s.2.2 7 c (if s.2.2 7 c = 0 then 1 else 0) 1 k ∧ _ = a_up s.2.2 7 c (if s.2.2 7 c = 0 then 1 else 0) 2 k
    rw [ne 1 k (by decide), ne 2 k (by decide), nc 1 (by decide), nc 2 (by decide)]
    exact c3 k hk
  · obtain ⟨d1, d2, d3, d4, d5, d6, d7⟩ := c4 k hk
    have w7 := (hs.2.2.2.1 k hk).2.2.2.2.1
    have hk' : k < s.2.1 := hk
    show _ = a_up s.2.2 7 c (if s.2.2 7 c = 0 then 1 else 0) 3 k ∧ _ = a_up s.2.2 7 c (if s.2.2 7 c = 0 then 1 else 0) 4 k ∧ _ = a_up s.2.2 7 c (if s.2.2 7 c = 0 then 1 else 0) 5 k ∧ _ = a_up s.2.2 7 c (if s.2.2 7 c = 0 then 1 else 0) 6 k ∧ _ = a_up s.2.2 7 c (if s.2.2 7 c = 0 then 1 else 0) 7 k ∧ _ = a_up s.2.2 7 c (if s.2.2 7 c = 0 then 1 else 0) 8 k ∧ _ = a_up s.2.2 7 c (if s.2.2 7 c = 0 then 1 else 0) 9 k
    rw [ne 3 k (by decide), ne 4 k (by decide), ne 5 k (by decide), ne 6 k (by decide), ne 8 k (by decide), ne 9 k (by decide), nc 3 (by decide), nc 4 (by decide), nc 5 (by decide), nc 6 (by decide), nc 7 (by decide), nc 8 (by decide)]
    refine ⟨d1, d2, d3, d4, ?_, d6, d7⟩
    rw [p_si_at, p_bit_xor _ (by omega) (by omega), d5]
    by_cases e : k = c
    · rw [if_pos e, e, a_up_at]
      rw [e] at w7
      rcases w7 with z | z <;> rw [z] <;> decide
    · rw [if_neg e, a_up_ne (fun q => e q.2)]
  · show _ = a_up s.2.2 7 c (if s.2.2 7 c = 0 then 1 else 0) 10 k
    rw [ne 10 k (by decide), nc 9 (by decide)]
    exact c5 k hk
  · show _ = a_up s.2.2 7 c (if s.2.2 7 c = 0 then 1 else 0) 11 k
    rw [ne 11 k (by decide), nc 10 (by decide)]
    exact c6 k hk
theorem k_hg {A : a_A} {μ : z_M} (hw : w_A A) (hC : InvC A μ) (x1 : Int32) {d : Int32} (x3 : Int32) {c wh : Nat} (hc : c < A.1.2.1) (hwh : wh < 4) : ∃ μ2, f_X4_hangsOn x1 d x3 (nI c) (nI wh) μ = g_X4_hangsOn_113 x1 d x3 (nI c) μ2 ∧ c_ship μ2 15 (a_hg A.1 d c wh) ∧ z_un sc1 μ μ2 ∧ InvC A μ2 := by
  have h14 : A.1.2.1 ≤ 14 := hw.1.2.1
  obtain ⟨μ1, e1, c1, u1, i1⟩ := k_bec1 hw hC
  have hz : z_in (nI c) 14 := p_zn (by omega) (by decide)
  have st : ∀ a k x, a ∈ sc1 → a ≠ 46 → z_un sc1 μ (z_si μ1 a k x) ∧ InvC A (z_si μ1 a k x) := fun a k x ha hb => ⟨u1.si ha _ _, (k_un i1 a k x (sc1_sc a ha) hb rfl).2⟩
  have hw4 : wh = 0 ∨ wh = 1 ∨ wh = 2 ∨ wh = 3 := by omega
  unfold f_X4_hangsOn
  rw [e1, z_b1_s]
  rcases hw4 with rfl | rfl | rfl | rfl
  · refine ⟨z_si μ1 21 c 0, ?_, c_ship_upd c 0 6 6 (by decide) c1, st 21 c 0 (by decide) (by decide)⟩
    unfold f_X3_takeAway
    rw [if_pos (show nI 0 = 0 from rfl), if_pos hz, z_st_s, nI_clamp (by omega), z_b1_s]
  · refine ⟨z_si μ1 15 2 (μ1.1 15 2 ^^^ ((1 : Int32) <<< (nI c &&& 31))), ?_, c_ship_lv hw.1 c1 hc, st 15 2 _ (by decide) (by decide)⟩
    rw [if_neg (show ¬ nI 1 = 0 by decide), if_pos (show nI 1 = 1 from rfl), z_st_s]
  · have e5 : μ1.1 20 c = A.1.2.2 5 c := (c1.2.2.2.1 c hc).2.2.1
    refine ⟨z_si μ1 20 c (if (999 : Int32) ≤ A.1.2.2 5 c then A.1.2.2 5 c else A.1.2.2 5 c + 1), ?_, c_ship_upd c _ 5 5 (by decide) c1, st 20 c _ (by decide) (by decide)⟩
    rw [if_neg (show ¬ nI 2 = 0 by decide), if_neg (show ¬ nI 2 = 1 by decide), if_pos (show nI 2 = 2 from rfl), if_pos hz, if_pos hz, z_st_s, nI_clamp (by omega), e5, (p_day1 (hw.1.2.2.2.1 c hc).2.2.1).1]
  · refine ⟨z_si μ1 23 c d, ?_, c_ship_upd c d 8 9 (by decide) c1, st 23 c d (by decide) (by decide)⟩
    rw [if_neg (show ¬ nI 3 = 0 by decide), if_neg (show ¬ nI 3 = 1 by decide), if_neg (show ¬ nI 3 = 2 by decide), if_pos hz, z_st_s, nI_clamp (by omega)]
/-- how far the others' pay goes away -/
def q_ab (x : Int32) : Int32 := if 0 ≤ x then x else -x
def q_ch (p p' : Nat → Nat) (c : Nat) : Nat → Int32
  | 0 => 0
  | k + 1 => if k = c then q_ch p p' c k else q_ch p p' c k + q_ab (nI (p' k) - nI (p k))
theorem p_hgL4 {A : a_A} {μ : z_M} {Q : y_Q} {w : Nat} {p : Nat → Nat} (hw : w_A A) (hQ : w_Q Q) (hN : Q.1 = A.1.2.1) (hC : InvC A μ) (co : c_out μ Q w) (h49 : ∀ k, k < A.1.2.1 → μ.1 49 k = nI (p k)) {c : Nat} (hc : c < A.1.2.1) : ∀ m k fu, k + m = A.1.2.1 → m < fu → g_X4_hangsOn_138 fu (nI c) (q_ch p (q_pd Q w) c k) (nI k) μ = some (q_ch p (q_pd Q w) c A.1.2.1, μ) := by
  have h14 : A.1.2.1 ≤ 14 := hw.1.2.1
  intro m
  induction m with
  | zero =>
    intro k fu hk hf
    obtain ⟨fu, rfl⟩ : ∃ q, fu = q + 1 := ⟨fu - 1, by omega⟩
    have ek : k = A.1.2.1 := by omega
    subst ek
    rw [g_X4_hangsOn_138]
    rw [hC.1.2.1, if_pos (nI_le (Nat.le_refl _) (by omega))]
  | succ m ih =>
    intro k fu hk hf
    obtain ⟨fu, rfl⟩ : ∃ q, fu = q + 1 := ⟨fu - 1, by omega⟩
    have y1 := ih (k + 1) fu (by omega) (by omega)
    rw [g_X4_hangsOn_138]
    rw [hC.1.2.1, if_neg (nI_ge (by omega) (by omega)), nI_1]
    by_cases e : k = c
    · rw [if_pos (by rw [e])]
      rw [q_ch, if_pos e] at y1
      exact y1
    · rw [if_neg (fun z => e ((nI_eq (by omega) (by omega)).mp z)), p_paidTo hQ co (by omega), z_b2_s, p_g (show k < 14 by omega) (by decide), nI_clamp (by omega), h49 k (by omega), z_lt_s]
      rw [q_ch, if_neg e] at y1
      unfold q_ab at y1
      rw [← Int32.zero_sub] at y1
      exact y1
theorem p_hg4 {A : a_A} {μ : z_M} (hw : w_A A) (hC : InvC A μ) {n : Nat} (hn : n < 4) {d : Int32} (hd : p_in d 0 999) {w : Nat} (hway : w < 2) {p : Nat → Nat} (h49 : ∀ k, k < A.1.2.1 → μ.1 49 k = nI (p k)) {c wh : Nat} (hc : c < A.1.2.1) (hwh : wh < 4) : ∃ μ', f_X4_hangsOn (nI n) d (nI w) (nI c) (nI wh) μ = some (q_ch p (q_pd (y_of (A.2.2.2.2.2 n) (a_hg A.1 d c wh) d) w) c A.1.2.1, μ') ∧ z_un sc1 μ μ' ∧ InvC A μ' := by
  have h14 : A.1.2.1 ≤ 14 := hw.1.2.1
  have hN : z_N = 5000 := rfl
  obtain ⟨μ2, e2, c2, u2, i2⟩ := k_hg (d := d) hw hC (nI n) (nI w) hc hwh
  have hs' := w_hg hw.1 hd hc wh
  obtain ⟨o1, L, ln, μ3, e3, e4, c4, u4, i4⟩ := k_run hw i2 hn hd hway (Or.inr rfl) hs' c2
  have ut : z_un sc1 μ μ3 := u2.tr (u4.mono xR_sc1)
  refine ⟨μ3, ?_, ut, i4⟩
  have y1 := p_hgL4 (p := p) hw (w_of hs' (hw.2.2.2.2 n hn) d) (a_hg_N A.1 d c wh) i4 c4.out (fun k hk => by rw [ut.1 49 (by decide)]; exact h49 k hk) hc A.1.2.1 0 z_N (by omega) (by omega)
  rw [e2]
  unfold g_X4_hangsOn_113
  rw [p_g hn (by decide), nI_clamp (by omega), e3, Option.bind_some, e4, z_b1_s]
  rw [q_ch, nI_0] at y1
  exact y1
