/-! PURE: more -/
def v_t (s : a_S) (d1 e h wg f : Int32) : a_T := a_up (a_up (a_cl (a_up (a_up s.2.2 1 s.1 d1) 2 s.1 e) s.2.1 0 h e wg 1 0) 9 s.2.1 e) 10 1 (s.2.2 10 1 + f)
def v_s (s : a_S) (d1 e h wg f : Int32) : a_S := (s.1 + 1, s.2.1 + 1, v_t s d1 e h wg f)
theorem v_10 (s : a_S) (d1 e h wg : Int32) : a_up (a_cl (a_up (a_up s.2.2 1 s.1 d1) 2 s.1 e) s.2.1 0 h e wg 1 0) 9 s.2.1 e 10 1 = s.2.2 10 1 := by
  simp [a_up, a_cl]
theorem w_v {s : a_S} (hs : w_ship s) {d1 e h wg f : Int32} (h1 : s.1 < 6) (h2 : s.2.1 < 14) (hd : p_in d1 0 999) (he : p_in e 0 999) (hh : p_in h 0 5) (hg : p_in wg 1 999) (hf : p_in (s.2.2 10 1 + f) 0 9999) : w_ship (v_s s d1 e h wg f) := by
  obtain ⟨w1, w2, w3, w4, w5, w6⟩ := hs
  refine ⟨by show s.1 + 1 ≤ 6; omega, by show s.2.1 + 1 ≤ 14; omega, fun k hk => ?_, fun k hk => ?_, fun k hk => ?_, fun k hk => ?_⟩
  · have hk : k < s.1 + 1 := hk
    show p_in (v_t s d1 e h wg f 1 k) 0 999 ∧ p_in (v_t s d1 e h wg f 2 k) 0 999
    by_cases q : k = s.1
    · have e1 : v_t s d1 e h wg f 1 k = d1 := by simp [v_t, a_up, a_cl, q]
      have e2 : v_t s d1 e h wg f 2 k = e := by simp [v_t, a_up, a_cl, q]
      rw [e1, e2]
      exact ⟨hd, he⟩
    · have e1 : v_t s d1 e h wg f 1 k = s.2.2 1 k := by simp [v_t, a_up, a_cl, q]
      have e2 : v_t s d1 e h wg f 2 k = s.2.2 2 k := by simp [v_t, a_up, a_cl, q]
      rw [e1, e2]
      exact w3 k (by omega)
  · have hk : k < s.2.1 + 1 := hk
    show p_in (v_t s d1 e h wg f 3 k) 0 7 ∧ p_in (v_t s d1 e h wg f 4 k) 0 5 ∧ p_in (v_t s d1 e h wg f 5 k) 0 999 ∧ p_in (v_t s d1 e h wg f 6 k) 0 999 ∧ (v_t s d1 e h wg f 7 k = 0 ∨ v_t s d1 e h wg f 7 k = 1) ∧ p_in (v_t s d1 e h wg f 8 k) 0 7 ∧ p_in (v_t s d1 e h wg f 9 k) (-1) 999
    by_cases q : k = s.2.1
    · have e3 : v_t s d1 e h wg f 3 k = 0 := by simp [v_t, a_up, a_cl, q]
      have e4 : v_t s d1 e h wg f 4 k = h := by simp [v_t, a_up, a_cl, q]
      have e5 : v_t s d1 e h wg f 5 k = e := by simp [v_t, a_up, a_cl, q]
      have e6 : v_t s d1 e h wg f 6 k = wg := by simp [v_t, a_up, a_cl, q]
      have e7 : v_t s d1 e h wg f 7 k = 1 := by simp [v_t, a_up, a_cl, q]
      have e8 : v_t s d1 e h wg f 8 k = 0 := by simp [v_t, a_up, a_cl, q]
      have e9 : v_t s d1 e h wg f 9 k = e := by simp [v_t, a_up, a_cl, q]
      rw [e3, e4, e5, e6, e7, e8, e9]
      exact ⟨by decide, hh, he, ⟨by have := hg.1; omega, hg.2⟩, Or.inr rfl, by decide, ⟨by have := he.1; omega, he.2⟩⟩
    · have ea : ∀ a, 3 ≤ a → a ≤ 9 → v_t s d1 e h wg f a k = s.2.2 a k := by
        intro a ha hb
        have n1 : a ≠ 10 := by omega
        have n2 : a ≠ 1 := by omega
        have n3 : a ≠ 2 := by omega
        simp [v_t, a_up, a_cl, q, n1, n2, n3]
      rw [ea 3 (by decide) (by decide), ea 4 (by decide) (by decide), ea 5 (by decide) (by decide), ea 6 (by decide) (by decide), ea 7 (by decide) (by decide), ea 8 (by decide) (by decide), ea 9 (by decide) (by decide)]
      exact w4 k (by omega)
  · show p_in (v_t s d1 e h wg f 10 k) 0 9999
    by_cases q : k = 1
    · have e1 : v_t s d1 e h wg f 10 k = s.2.2 10 1 + f := by simp [v_t, a_up, q]
      rw [e1]
      exact hf
    · have e1 : v_t s d1 e h wg f 10 k = s.2.2 10 k := by simp [v_t, a_up, a_cl, q]
      rw [e1]
      exact w5 k hk
  · have e1 : v_t s d1 e h wg f 11 k = s.2.2 11 k := by simp [v_t, a_up, a_cl]
    show p_in (v_t s d1 e h wg f 11 k) 0 5
    rw [e1]
    exact w6 k hk
abbrev v_can (s : a_S) (d f : Int32) : Prop := ¬ d < a_last s ∧ s.1 < 6 ∧ s.2.1 < 14 ∧ ¬ (9999 : Int32) < s.2.2 10 1 + f
theorem p_can4 {A : a_A} {μ : z_M} (hw : w_A A) (hC : InvC A μ) (d f : Int32) : f_X4_canSailAgain d f μ = some (p_b (v_can A.1 d f), μ) := by
  have h6 : A.1.1 ≤ 6 := hw.1.1
  have h14 : A.1.2.1 ≤ 14 := hw.1.2.1
  have c1 : (1 : Int32).toNatClampNeg = 1 := by decide
  unfold f_X4_canSailAgain
  rw [p_last4 hw.1 hC.1, z_b2_s, if_pos (fun _ _ _ => show z_in (1 : Int32) 5 by decide), hC.1.1, hC.1.2.1, c1, hC.1.2.2.2.2.1 1 (by decide)]
  unfold p_b v_can
  congr 2
  by_cases q1 : d < a_last A.1
  · rw [if_pos q1, if_neg (fun z => z.1 q1)]
  · rw [if_neg q1]
    by_cases q2 : A.1.1 < 6
    · rw [if_neg (show ¬ (6 : Int32) ≤ nI A.1.1 from p_nle (a := 6) q2 (by decide))]
      by_cases q3 : A.1.2.1 < 14
      · rw [if_neg (show ¬ (14 : Int32) ≤ nI A.1.2.1 from p_nle (a := 14) q3 (by decide))]
        by_cases q4 : (9999 : Int32) < A.1.2.2 10 1 + f
        · rw [if_pos q4, if_neg (fun z => z.2.2.2 q4)]
        · rw [if_neg q4, if_pos ⟨q1, q2, q3, q4⟩]
      · rw [if_pos (show (14 : Int32) ≤ nI A.1.2.1 from nI_le (a := 14) (by omega) (by omega)), if_neg (fun z => q3 z.2.2.1)]
    · rw [if_pos (show (6 : Int32) ≤ nI A.1.1 from nI_le (a := 6) (by omega) (by omega)), if_neg (fun z => q2 z.2.1)]
def sS : List Nat := [15, 16, 17, 18, 19, 20, 21, 22, 23, 24, 25]
theorem InvC.scS {A : a_A} {μ μ' : z_M} (h : InvC A μ) (hu : z_un sS μ μ') : InvC A μ' := h.scr (hu.mono (by decide)) (by rw [hu.1 46 (by decide)]; exact h.2.2.2.2.2.2.2.2.2.2)
theorem k_becS {A : a_A} {μ : z_M} (hw : w_A A) (hC : InvC A μ) : ∃ μ', f_X3_become 15 4 μ = some μ' ∧ c_ship μ' 15 A.1 ∧ z_un sS μ μ' := by
  obtain ⟨μ', e, b⟩ := p_become (μ := μ) (o := 15) (o1 := 4) (by omega)
  have hsc : ∀ a, a < 26 → 15 ≤ a → a ∈ sS := by decide
  exact ⟨μ', e, b.ship hw.1 hC.1, ⟨fun a ha => b.2.2.1 a (by
    rcases Nat.lt_or_ge a 15 with q | q
    · exact Or.inl q
    · rcases Nat.lt_or_ge 25 a with q2 | q2
      · exact Or.inr q2
      · exact absurd (hsc a (by omega) q) ha), b.2.2.2⟩⟩
theorem w_voy {s : a_S} (hs : w_ship s) (h1 : s.1 < 6) {x y : Int32} (hx : p_in x 0 999) (hy : p_in y 0 999) : w_ship (s.1 + 1, s.2.1, a_up (a_up s.2.2 1 s.1 x) 2 s.1 y) := by
  obtain ⟨w1, w2, w3, w4, w5, w6⟩ := hs
  have ne : ∀ a k, a ≠ 1 → a ≠ 2 → a_up (a_up s.2.2 1 s.1 x) 2 s.1 y a k = s.2.2 a k := fun a k n1 n2 => by rw [a_up_ne (fun q => n2 q.1), a_up_ne (fun q => n1 q.1)]
  refine ⟨by show s.1 + 1 ≤ 6; omega, w2, fun k hk => ?_, fun k hk => ?_, fun k hk => ?_, fun k hk => ?_⟩
  · have hk : k < s.1 + 1 := hk
    show p_in (a_up (a_up s.2.2 1 s.1 x) 2 s.1 y 1 k) 0 999 ∧ p_in (a_up (a_up s.2.2 1 s.1 x) 2 s.1 y 2 k) 0 999
    by_cases q : k = s.1
    · have e1 : a_up (a_up s.2.2 1 s.1 x) 2 s.1 y 1 k = x := by simp [a_up, q]
      have e2 : a_up (a_up s.2.2 1 s.1 x) 2 s.1 y 2 k = y := by simp [a_up, q]
      rw [e1, e2]
      exact ⟨hx, hy⟩
    · have e1 : a_up (a_up s.2.2 1 s.1 x) 2 s.1 y 1 k = s.2.2 1 k := by simp [a_up, q]
      have e2 : a_up (a_up s.2.2 1 s.1 x) 2 s.1 y 2 k = s.2.2 2 k := by simp [a_up, q]
      rw [e1, e2]
      exact w3 k (by omega)
  · show p_in (a_up (a_up s.2.2 1 s.1 x) 2 s.1 y 3 k) 0 7 ∧ p_in (a_up (a_up s.2.2 1 s.1 x) 2 s.1 y 4 k) 0 5 ∧ p_in (a_up (a_up s.2.2 1 s.1 x) 2 s.1 y 5 k) 0 999 ∧ p_in (a_up (a_up s.2.2 1 s.1 x) 2 s.1 y 6 k) 0 999 ∧ (a_up (a_up s.2.2 1 s.1 x) 2 s.1 y 7 k = 0 ∨ a_up (a_up s.2.2 1 s.1 x) 2 s.1 y 7 k = 1) ∧ p_in (a_up (a_up s.2.2 1 s.1 x) 2 s.1 y 8 k) 0 7 ∧ p_in (a_up (a_up s.2.2 1 s.1 x) 2 s.1 y 9 k) (-1) 999
    rw [ne 3 k (by decide) (by decide), ne 4 k (by decide) (by decide), ne 5 k (by decide) (by decide), ne 6 k (by decide) (by decide), ne 7 k (by decide) (by decide), ne 8 k (by decide) (by decide), ne 9 k (by decide) (by decide)]
    exact w4 k hk
  · show p_in (a_up (a_up s.2.2 1 s.1 x) 2 s.1 y 10 k) 0 9999
    rw [ne 10 k (by decide) (by decide)]
    exact w5 k hk
  · show p_in (a_up (a_up s.2.2 1 s.1 x) 2 s.1 y 11 k) 0 5
    rw [ne 11 k (by decide) (by decide)]
    exact w6 k hk
theorem p_supp {A : a_A} {μ : z_M} (hw : w_A A) (hC : InvC A μ) {d e : Int32} (h wg f : Int32) (hd : p_in (d + 1) 0 999) (he : p_in e 0 999) (h1 : A.1.1 < 6) (h2 : A.1.2.1 < 14) : ∃ μ', f_X4_supposeVoyage d e h wg f μ = some μ' ∧ c_ship μ' 15 (v_s A.1 (d + 1) e h wg f) ∧ z_un sS μ μ' ∧ InvC A μ' := by
  obtain ⟨μ1, e1, c1, u1⟩ := k_becS hw hC
  have c2 := c_ship_voy (d + 1) e c1
  have ea := p_add4 hw.1 c1 (d + 1) e
  rw [if_pos h1] at ea
  have u2 : z_un sS μ (z_si (z_si (z_si μ1 (15 + 1) A.1.1 (d + 1)) (15 + 2) A.1.1 e) 15 0 (nI (A.1.1 + 1))) := ((u1.si (by decide) _ _).si (by decide) _ _).si (by decide) _ _
  generalize z_si (z_si (z_si μ1 (15 + 1) A.1.1 (d + 1)) (15 + 2) A.1.1 e) 15 0 (nI (A.1.1 + 1)) = μ2 at *
  have w1 := w_voy hw.1 h1 hd he
  have eb := p_addC4 w1 c2 0 h e wg 1 0
  rw [if_pos (show (A.1.1 + 1, A.1.2.1, a_up (a_up A.1.2.2 1 A.1.1 (d + 1)) 2 A.1.1 e).2.1 < 14 from h2)] at eb
  have c3 := c_ship_cl w1 0 h e wg 1 0 (Or.inr rfl) h2 c2
  have u3 : z_un sS μ (z_addC μ2 15 A.1.2.1 0 h e wg 1 0) := by
    unfold z_addC
    exact (((((((u2.si (by decide) _ _).si (by decide) _ _).si (by decide) _ _).si (by decide) _ _).si (by decide) _ _).si (by decide) _ _).si (by decide) _ _).si (by decide) _ _
  have eb : f_X3_addClaim 15 0 h e wg 1 0 μ2 = some (nI A.1.2.1, z_addC μ2 15 A.1.2.1 0 h e wg 1 0) := eb
  have c3 : c_ship (z_addC μ2 15 A.1.2.1 0 h e wg 1 0) 15 (A.1.1 + 1, A.1.2.1 + 1, a_cl (a_up (a_up A.1.2.2 1 A.1.1 (d + 1)) 2 A.1.1 e) A.1.2.1 0 h e wg 1 0) := c3
  generalize z_addC μ2 15 A.1.2.1 0 h e wg 1 0 = μ3 at *
  have c4 : c_ship (z_si μ3 23 A.1.2.1 e) 15 (A.1.1 + 1, A.1.2.1 + 1, a_up (a_cl (a_up (a_up A.1.2.2 1 A.1.1 (d + 1)) 2 A.1.1 e) A.1.2.1 0 h e wg 1 0) 9 A.1.2.1 e) := c_ship_upd A.1.2.1 e 8 9 (by decide) c3
  have e24 : (z_si μ3 23 A.1.2.1 e).1 24 1 = A.1.2.2 10 1 := (c4.2.2.2.2.1 1 (by decide)).trans (v_10 A.1 (d + 1) e h wg)
  have c5 : c_ship (z_si (z_si μ3 23 A.1.2.1 e) 24 1 (A.1.2.2 10 1 + f)) 15 (v_s A.1 (d + 1) e h wg f) := c_ship_upd 1 (A.1.2.2 10 1 + f) 9 10 (by decide) c4
  have u5 : z_un sS μ (z_si (z_si μ3 23 A.1.2.1 e) 24 1 (A.1.2.2 10 1 + f)) := (u3.si (by decide) _ _).si (by decide) _ _
  refine ⟨_, ?_, c5, u5, hC.scS u5⟩
  have c1' : (1 : Int32).toNatClampNeg = 1 := by decide
  unfold f_X4_supposeVoyage g_X4_supposeVoyage_62
  rw [e1, z_b1_s, ea, z_b2_s, eb, z_b2_s, if_neg (nI_pos (by omega)), if_neg (show ¬ (14 : Int32) ≤ nI A.1.2.1 from p_nle (a := 14) h2 (by decide)), p_g h2 (by decide), z_st_s, nI_clamp (by omega)]
  simp only [if_pos (show z_in (1 : Int32) 5 by decide), c1', z_st_s, e24]
