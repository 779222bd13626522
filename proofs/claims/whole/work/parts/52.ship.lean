/-! PURE: the ship's simple calls: fund, owner, pass, ask -/
def a_up (t : a_T) (f j : Nat) (x : Int32) : a_T := fun a b => if a = f ∧ b = j then x else t a b
theorem a_up_at (t : a_T) (f j : Nat) (x : Int32) : a_up t f j x f j = x := by simp [a_up]
theorem a_up_ne {t : a_T} {f j a b : Nat} {x : Int32} (h : ¬ (a = f ∧ b = j)) : a_up t f j x a b = t a b := if_neg h
theorem p_si_at (μ : z_M) (i k : Nat) (x : Int32) : (z_si μ i k x).1 i k = x := by simp [z_si, upd]
theorem p_si_nk {μ : z_M} {i k b : Nat} {x : Int32} (h : b ≠ k) : (z_si μ i k x).1 i b = μ.1 i b := by simp [z_si, upd, h]
theorem c_ship_upd {μ : z_M} {o : Nat} {s : a_S} (j : Nat) (x : Int32) (c f : Nat) (hcf : (c, f) ∈ [(1, 1), (2, 2), (3, 3), (4, 4), (5, 5), (6, 6), (7, 8), (8, 9), (9, 10), (10, 11)]) (h : c_ship μ o s) : c_ship (z_si μ (o + c) j x) o (s.1, s.2.1, a_up s.2.2 f j x) := by
  obtain ⟨h1, h2, h3, h4, h5, h6⟩ := h
  simp only [List.mem_cons, Prod.mk.injEq, List.not_mem_nil, or_false] at hcf
  rcases hcf with ⟨rfl, rfl⟩ | ⟨rfl, rfl⟩ | ⟨rfl, rfl⟩ | ⟨rfl, rfl⟩ | ⟨rfl, rfl⟩ | ⟨rfl, rfl⟩ | ⟨rfl, rfl⟩ | ⟨rfl, rfl⟩ | ⟨rfl, rfl⟩ | ⟨rfl, rfl⟩ <;>
  · refine ⟨by simpa [p_si] using h1, by simpa [p_si] using h2, fun k hk => ?_, fun k hk => ?_, fun k hk => ?_, fun k hk => ?_⟩
    · have q := h3 k hk
      by_cases hj : k = j <;> simp [p_si, a_up, hj] at q ⊢ <;> simp_all
    · have q := h4 k hk
      by_cases hj : k = j <;> simp [p_si, a_up, hj] at q ⊢ <;> simp_all
    · have q := h5 k hk
      by_cases hj : k = j <;> simp [p_si, a_up, hj] at q ⊢ <;> simp_all
    · have q := h6 k hk
      by_cases hj : k = j <;> simp [p_si, a_up, hj] at q ⊢ <;> simp_all
theorem m_ship_upd {μ : z_M} {s : a_S} (j : Nat) (x : Int32) (c f : Nat) (hcf : (c, f) ∈ [(114, 1), (115, 2), (116, 3), (117, 4), (118, 5), (119, 6), (120, 7), (121, 8), (122, 9), (124, 10), (125, 11)]) (h : m_ship μ s) : m_ship (z_si μ c j x) (s.1, s.2.1, a_up s.2.2 f j x) := by
  obtain ⟨h1, h2, h3, h4, h5, h6⟩ := h
  simp only [List.mem_cons, Prod.mk.injEq, List.not_mem_nil, or_false] at hcf
  rcases hcf with ⟨rfl, rfl⟩ | ⟨rfl, rfl⟩ | ⟨rfl, rfl⟩ | ⟨rfl, rfl⟩ | ⟨rfl, rfl⟩ | ⟨rfl, rfl⟩ | ⟨rfl, rfl⟩ | ⟨rfl, rfl⟩ | ⟨rfl, rfl⟩ | ⟨rfl, rfl⟩ | ⟨rfl, rfl⟩ <;>
  · refine ⟨by simpa [p_si] using h1, by simpa [p_si] using h2, fun k hk => ?_, fun k hk => ?_, fun k hk => ?_, fun k hk => ?_⟩
    · have q := h3 k hk
      by_cases hj : k = j <;> simp [p_si, a_up, hj] at q ⊢ <;> simp_all
    · have q := h4 k hk
      by_cases hj : k = j <;> simp [p_si, a_up, hj] at q ⊢ <;> simp_all
    · have q := h5 k hk
      by_cases hj : k = j <;> simp [p_si, a_up, hj] at q ⊢ <;> simp_all
    · have q := h6 k hk
      by_cases hj : k = j <;> simp [p_si, a_up, hj] at q ⊢ <;> simp_all
/-- the class's ship changed, nothing else -/
theorem InvC.ship {A : a_A} {μ μ' : z_M} {s : a_S} (h : InvC A μ) (hs : c_ship μ' 4 s) (ho : ∀ i, i < 4 ∨ 15 ≤ i → μ'.1 i = μ.1 i) (h2 : μ'.2.2 = μ.2.2) : InvC (s, A.2) μ' := by
  obtain ⟨-, g2, g3, g4, g5, ⟨lp, l1, l2, l3, l4⟩, ⟨r1, r2, r3, r4, r5⟩⟩ := h
  have hL : ∀ o ∈ z_LAWS, 15 ≤ o := by decide
  refine ⟨hs, fun i hi => ⟨by rw [ho 27 (by decide)]; exact (g2 i hi).1, fun q => ?_⟩, by rw [ho 2 (by decide)]; exact g3, by rw [ho 3 (by decide)]; exact g4, by rw [ho 2 (by decide)]; exact g5, ⟨lp, l1, l2, fun n hn => ⟨by rw [h2]; exact (l3 n hn).1, ?_⟩, by rw [h2]; exact l4⟩, by rw [h2]; exact r1, by rw [h2]; exact r2, by rw [h2]; exact r3, by rw [ho 40 (by decide)]; exact r4, by rw [ho 46 (by decide)]; exact r5⟩
  · have q2 := (g2 i hi).2 q
    unfold c_ship at q2 ⊢
    simp only [ho (76 + 11 * i) (by omega), ho (76 + 11 * i + 1) (by omega), ho (76 + 11 * i + 2) (by omega), ho (76 + 11 * i + 3) (by omega), ho (76 + 11 * i + 4) (by omega), ho (76 + 11 * i + 5) (by omega), ho (76 + 11 * i + 6) (by omega), ho (76 + 11 * i + 7) (by omega), ho (76 + 11 * i + 8) (by omega), ho (76 + 11 * i + 9) (by omega), ho (76 + 11 * i + 10) (by omega)]
    exact q2
  · have q2 := (l3 n hn).2
    have q3 := hL _ (l1 n (by omega))
    unfold c_law at q2 ⊢
    simp only [ho (lp n) (by omega), ho (lp n + 1) (by omega), ho (lp n + 2) (by omega), ho (lp n + 3) (by omega), ho (lp n + 4) (by omega)]
    exact q2
/-- the reference's ship changed, nothing else that counts -/
theorem InvM.ship {A : a_A} {μ μ' : z_M} {s : a_S} (h : InvM A μ) (hs : m_ship μ' s) (h123 : ∀ k, k < 15 → μ'.1 123 k = 0) (ho : ∀ i, i ∈ [99, 100, 101, 102, 103, 104, 111, 113, 134, 135] → μ'.1 i = μ.1 i) (h13 : μ'.1 98 13 = μ.1 98 13) (h14 : μ'.1 98 14 = μ.1 98 14) : InvM (s, A.2) μ' := by
  obtain ⟨-, -, g3, g4, g5, g6, g7⟩ := h
  have e99 := ho 99 (by decide); have e100 := ho 100 (by decide); have e101 := ho 101 (by decide); have e102 := ho 102 (by decide); have e103 := ho 103 (by decide); have e104 := ho 104 (by decide); have e111 := ho 111 (by decide); have e113 := ho 113 (by decide); have e134 := ho 134 (by decide); have e135 := ho 135 (by decide)
  refine ⟨hs, h123, ?_, by rw [h13]; exact g4, by rw [e111]; exact g5, by rw [h14]; exact g6, ?_⟩
  · unfold m_img at g3 ⊢
    simp only [e134, e135]
    exact g3
  · unfold m_law at g7 ⊢
    simp only [e99, e100, e101, e102, e103, e104, e113]
    exact g7
/-- one number of the ship is set, on both sides -/
theorem p_set1 {A : a_A} {μ : z_M} {x old : Int32} {j c4 c5 f : Nat} (hC : InvC A μ) (h4 : (c4, f) ∈ [(1, 1), (2, 2), (3, 3), (4, 4), (5, 5), (6, 6), (7, 8), (8, 9), (9, 10), (10, 11)]) : InvC ((A.1.1, A.1.2.1, a_up A.1.2.2 f j x), A.2) (z_si μ (4 + c4) j x) ∧ z_hi μ (z_si μ (4 + c4) j x) := by
  have hb : 1 ≤ c4 ∧ c4 ≤ 10 := by
    simp only [List.mem_cons, Prod.mk.injEq, List.not_mem_nil, or_false] at h4
    omega
  exact ⟨hC.ship (c_ship_upd j x c4 f h4 hC.1) (fun i hi => p_si_ne (by omega)) rfl, fun i hi => p_si_ne (by omega)⟩
theorem p_set1M {A : a_A} {ν : z_M} {x : Int32} {j c5 f : Nat} (hM : InvM A ν) (h5 : (c5, f) ∈ [(114, 1), (115, 2), (116, 3), (117, 4), (118, 5), (119, 6), (120, 7), (121, 8), (122, 9), (124, 10), (125, 11)]) : InvM ((A.1.1, A.1.2.1, a_up A.1.2.2 f j x), A.2) (z_si ν c5 j x) ∧ z_lo ν (z_si ν c5 j x) := by
  have hb : 114 ≤ c5 ∧ c5 ≤ 125 ∧ c5 ≠ 123 := by
    simp only [List.mem_cons, Prod.mk.injEq, List.not_mem_nil, or_false] at h5
    omega
  refine ⟨hM.ship (m_ship_upd j x c5 f h5 hM.1) (fun k hk => by rw [p_si_ne (by omega)]; exact hM.2.1 k hk) (fun i hi => ?_) (by rw [p_si_ne (by omega)]) (by rw [p_si_ne (by omega)]), fun i hi => p_si_ne (by omega), rfl⟩
  simp only [List.mem_cons, List.not_mem_nil, or_false] at hi
  exact p_si_ne (by omega)
theorem p_in5k {a b : Int64} (m n : Int) (ha : a.toInt = m) (hb : b.toInt = n) (x : Int32) (μ : z_M) : f_X5_in x.toInt64 a b μ = some (p_b (p_in x m n), μ) := by
  subst ha
  subst hb
  exact p_in5 x a b μ
theorem p_i0 (x : Int32) : x < 0 ↔ x.toInt < 0 := by
  rw [Int32.lt_iff_toInt_lt]
  rfl
theorem s_9 : zs_9 Inv0 := by
  rintro μ ⟨A, hw, hC, hM⟩ f v
  by_cases h1 : p_in f 0 4
  · by_cases h2 : p_in v 0 9999
    · obtain ⟨ef, hf⟩ := p_cl h1
      have hj : f.toNatClampNeg < 5 := by omega
      have hz : z_in f 5 := (p_zin (by decide)).mpr h1
      refine p_step (A' := ((A.1.1, A.1.2.1, a_up A.1.2.2 10 f.toNatClampNeg v), A.2)) (r := A.1.2.2 10 f.toNatClampNeg) hC hM ?_ ⟨z_si μ (4 + 9) f.toNatClampNeg v, ?_, p_set1 (old := 0) (c5 := 0) hC (by decide)⟩ (fun ν hν => ⟨z_si ν 124 f.toNatClampNeg v, ?_, p_set1M hν (by decide)⟩)
      · obtain ⟨⟨a1, a2, a3, a4, a5, a6⟩, a7⟩ := hw
        refine ⟨⟨a1, a2, fun k hk => ?_, fun k hk => ?_, fun k hk => ?_, fun k hk => ?_⟩, a7⟩
        · simpa [a_up] using a3 k hk
        · simpa [a_up] using a4 k hk
        · by_cases e : k = f.toNatClampNeg
          · simpa [a_up, e] using h2
          · simpa [a_up, e] using a5 k hk
        · simpa [a_up] using a6 k hk
      · unfold f_X4_fund
        rw [p_isFund4, z_b2_s, if_neg (fun h => p_b_0.mp h h1), if_neg (by rw [p_i0]; omega), if_pos (by rw [Int32.le_iff_toInt_le]; exact h2.2), if_pos hz]
        simp only [z_lt, z_st]
        rw [if_pos hz, hC.1.2.2.2.2.1 _ hj]
      · unfold f_X5_fund
        rw [p_isFund5, z_b2_s, if_neg (fun h => p_b_0.mp h h1), p_in5k 0 9999 (by decide) (by decide), z_b2_s, if_neg (fun h => p_b_0.mp h h2), if_pos hz]
        simp only [z_lt, z_st]
        rw [if_pos hz, hν.1.2.2.2.2.1 _ hj]
    · refine p_look hw hC hM (r := -1002) ?_ (fun ν hν => ?_)
      · unfold f_X4_fund
        rw [p_isFund4, z_b2_s, if_neg (fun h => p_b_0.mp h h1)]
        by_cases h3 : v < 0
        · rw [if_pos h3]
        · rw [if_neg h3, if_neg]
          intro h4
          have h5 : v.toInt ≤ 9999 := Int32.le_iff_toInt_le.mp h4
          rw [p_i0] at h3
          exact h2 ⟨by omega, h5⟩
      · unfold f_X5_fund
        rw [p_isFund5, z_b2_s, if_neg (fun h => p_b_0.mp h h1), p_in5k 0 9999 (by decide) (by decide), z_b2_s, if_pos (p_b_0.mpr h2)]
  · refine p_look hw hC hM (r := -1001) ?_ (fun ν hν => ?_)
    · unfold f_X4_fund
      rw [p_isFund4, z_b2_s, if_pos (p_b_0.mpr h1)]
    · unfold f_X5_fund
      rw [p_isFund5, z_b2_s, if_pos (p_b_0.mpr h1)]
theorem s_10 : zs_10 Inv0 := by
  rintro μ ⟨A, hw, hC, hM⟩ g h
  by_cases h1 : p_in g 0 2
  · by_cases h2 : p_in h 0 5
    · obtain ⟨ef, hf⟩ := p_cl h1
      have hj : g.toNatClampNeg < 3 := by omega
      have hz : z_in g 3 := (p_zin (by decide)).mpr h1
      refine p_step (A' := ((A.1.1, A.1.2.1, a_up A.1.2.2 11 g.toNatClampNeg h), A.2)) (r := A.1.2.2 11 g.toNatClampNeg) hC hM ?_ ⟨z_si μ (4 + 10) g.toNatClampNeg h, ?_, p_set1 (old := 0) (c5 := 0) hC (by decide)⟩ (fun ν hν => ⟨z_si ν 125 g.toNatClampNeg h, ?_, p_set1M hν (by decide)⟩)
      · obtain ⟨⟨a1, a2, a3, a4, a5, a6⟩, a7⟩ := hw
        refine ⟨⟨a1, a2, fun k hk => ?_, fun k hk => ?_, fun k hk => ?_, fun k hk => ?_⟩, a7⟩
        · simpa [a_up] using a3 k hk
        · simpa [a_up] using a4 k hk
        · simpa [a_up] using a5 k hk
        · by_cases e : k = g.toNatClampNeg
          · simpa [a_up, e] using h2
          · simpa [a_up, e] using a6 k hk
      · unfold f_X4_owner
        rw [p_isCargo4, z_b2_s, if_neg (fun h => p_b_0.mp h h1), p_isHolder4, z_b2_s, if_neg (fun h => p_b_0.mp h h2), if_pos hz]
        simp only [z_lt, z_st]
        rw [if_pos hz, hC.1.2.2.2.2.2 _ hj]
      · unfold f_X5_owner
        rw [p_isCargo5, z_b2_s, if_neg (fun h => p_b_0.mp h h1), p_isHolder5, z_b2_s, if_neg (fun h => p_b_0.mp h h2), if_pos hz]
        simp only [z_lt, z_st]
        rw [if_pos hz, hν.1.2.2.2.2.2 _ hj]
    · refine p_look hw hC hM (r := -1001) ?_ (fun ν hν => ?_)
      · unfold f_X4_owner
        rw [p_isCargo4, z_b2_s, if_neg (fun h => p_b_0.mp h h1), p_isHolder4, z_b2_s, if_pos (p_b_0.mpr h2)]
      · unfold f_X5_owner
        rw [p_isCargo5, z_b2_s, if_neg (fun h => p_b_0.mp h h1), p_isHolder5, z_b2_s, if_pos (p_b_0.mpr h2)]
  · refine p_look hw hC hM (r := -1001) ?_ (fun ν hν => ?_)
    · unfold f_X4_owner
      rw [p_isCargo4, z_b2_s, if_pos (p_b_0.mpr h1)]
    · unfold f_X5_owner
      rw [p_isCargo5, z_b2_s, if_pos (p_b_0.mpr h1)]
theorem p_isClaimC {A : a_A} {μ : z_M} (hw : w_A A) (hC : InvC A μ) (x : Int32) : f_X4_isClaim x μ = some (p_b (p_in x 0 ((A.1.2.1 : Int) - 1)), μ) := by
  have h14 : A.1.2.1 ≤ 14 := hw.1.2.1
  rw [p_isClaim4, hC.1.2.1, nI_toInt (by omega)]
theorem p_isClaimM {A : a_A} {μ : z_M} (hw : w_A A) (hM : InvM A μ) (x : Int32) : f_X5_isClaim x μ = some (p_b (p_in x 0 ((A.1.2.1 : Int) - 1)), μ) := by
  have h14 : A.1.2.1 ≤ 14 := hw.1.2.1
  have e : (nI A.1.2.1 - 1).toInt = (A.1.2.1 : Int) - 1 := by
    have e1 : (1 : Int32) = nI 1 := by decide
    rw [e1]
    exact pk_sub_toInt (by omega) (by omega)
  rw [p_isClaim5, hM.1.2.1, e]
/-- a claim's number: its place, in both rows -/
theorem p_claim {A : a_A} (hw : w_A A) {x : Int32} (h : p_in x 0 ((A.1.2.1 : Int) - 1)) : x = nI x.toNatClampNeg ∧ x.toNatClampNeg < A.1.2.1 ∧ x.toNatClampNeg < 14 ∧ z_in x 14 ∧ z_in x 15 := by
  have h14 : A.1.2.1 ≤ 14 := hw.1.2.1
  obtain ⟨e1, e2⟩ := p_cl h
  refine ⟨e1, by omega, by omega, (p_zin (by decide)).mpr ⟨h.1, by omega⟩, (p_zin (by decide)).mpr ⟨h.1, by omega⟩⟩
theorem s_11 : zs_11 Inv0 := by
  rintro μ ⟨A, hw, hC, hM⟩ c h
  by_cases h1 : p_in c 0 ((A.1.2.1 : Int) - 1)
  · by_cases h2 : p_in h 0 5
    · obtain ⟨ec, hj, hj14, hz4, hz5⟩ := p_claim hw h1
      refine p_step (A' := ((A.1.1, A.1.2.1, a_up A.1.2.2 4 c.toNatClampNeg h), A.2)) (r := A.1.2.2 4 c.toNatClampNeg) hC hM ?_ ⟨z_si μ (4 + 4) c.toNatClampNeg h, ?_, p_set1 (old := 0) (c5 := 0) hC (by decide)⟩ (fun ν hν => ⟨z_si ν 117 c.toNatClampNeg h, ?_, p_set1M hν (by decide)⟩)
      · obtain ⟨⟨a1, a2, a3, a4, a5, a6⟩, a7⟩ := hw
        refine ⟨⟨a1, a2, fun k hk => ?_, fun k hk => ?_, fun k hk => ?_, fun k hk => ?_⟩, a7⟩
        · simpa [a_up] using a3 k hk
        · have q := a4 k hk
          by_cases e : k = c.toNatClampNeg
          · refine ⟨by simpa [a_up] using q.1, by simpa [a_up, e] using h2, by simpa [a_up] using q.2.2.1, by simpa [a_up] using q.2.2.2.1, by simpa [a_up] using q.2.2.2.2.1, by simpa [a_up] using q.2.2.2.2.2.1, by simpa [a_up] using q.2.2.2.2.2.2⟩
          · simpa [a_up, e] using q
        · simpa [a_up] using a5 k hk
        · simpa [a_up] using a6 k hk
      · unfold f_X4_pass
        rw [p_isClaimC hw hC, z_b2_s, if_neg (fun h => p_b_0.mp h h1), p_isHolder4, z_b2_s, if_neg (fun h => p_b_0.mp h h2), if_pos hz4]
        simp only [z_lt, z_st]
        rw [if_pos hz4, (hC.1.2.2.2.1 _ hj).2.1]
      · unfold f_X5_pass
        rw [p_isClaimM hw hν, z_b2_s, if_neg (fun h => p_b_0.mp h h1), p_isHolder5, z_b2_s, if_neg (fun h => p_b_0.mp h h2), if_pos hz5]
        simp only [z_lt, z_st]
        rw [if_pos hz5, (hν.1.2.2.2.1 _ hj).2.1]
    · refine p_look hw hC hM (r := -1001) ?_ (fun ν hν => ?_)
      · unfold f_X4_pass
        rw [p_isClaimC hw hC, z_b2_s, if_neg (fun h => p_b_0.mp h h1), p_isHolder4, z_b2_s, if_pos (p_b_0.mpr h2)]
      · unfold f_X5_pass
        rw [p_isClaimM hw hν, z_b2_s, if_neg (fun h => p_b_0.mp h h1), p_isHolder5, z_b2_s, if_pos (p_b_0.mpr h2)]
  · refine p_look hw hC hM (r := -1001) ?_ (fun ν hν => ?_)
    · unfold f_X4_pass
      rw [p_isClaimC hw hC, z_b2_s, if_pos (p_b_0.mpr h1)]
    · unfold f_X5_pass
      rw [p_isClaimM hw hν, z_b2_s, if_pos (p_b_0.mpr h1)]
theorem s_8 : zs_8 Inv0 := by
  rintro μ ⟨A, hw, hC, hM⟩ c d
  by_cases h1 : p_in c 0 ((A.1.2.1 : Int) - 1)
  · have hm1 : (-1 : Int32).toInt = -1 := by decide
    by_cases h2 : p_in d (-1) 999
    · obtain ⟨ec, hj, hj14, hz4, hz5⟩ := p_claim hw h1
      have h28 : g_X4_ask_28 c d μ = some (A.1.2.2 9 c.toNatClampNeg, z_si μ (4 + 8) c.toNatClampNeg d) := by
        unfold g_X4_ask_28
        rw [if_pos hz4]
        simp only [z_lt, z_st]
        rw [if_pos hz4, (hC.1.2.2.2.1 _ hj).2.2.2.2.2.2]
      refine p_step (A' := ((A.1.1, A.1.2.1, a_up A.1.2.2 9 c.toNatClampNeg d), A.2)) (r := A.1.2.2 9 c.toNatClampNeg) hC hM ?_ ⟨z_si μ (4 + 8) c.toNatClampNeg d, ?_, p_set1 (old := 0) (c5 := 0) hC (by decide)⟩ (fun ν hν => ⟨z_si ν 122 c.toNatClampNeg d, ?_, p_set1M hν (by decide)⟩)
      · obtain ⟨⟨a1, a2, a3, a4, a5, a6⟩, a7⟩ := hw
        refine ⟨⟨a1, a2, fun k hk => ?_, fun k hk => ?_, fun k hk => ?_, fun k hk => ?_⟩, a7⟩
        · simpa [a_up] using a3 k hk
        · have q := a4 k hk
          by_cases e : k = c.toNatClampNeg
          · refine ⟨by simpa [a_up] using q.1, by simpa [a_up] using q.2.1, by simpa [a_up] using q.2.2.1, by simpa [a_up] using q.2.2.2.1, by simpa [a_up] using q.2.2.2.2.1, by simpa [a_up] using q.2.2.2.2.2.1, by simpa [a_up, e] using h2⟩
          · simpa [a_up, e] using q
        · simpa [a_up] using a5 k hk
        · simpa [a_up] using a6 k hk
      · unfold f_X4_ask
        rw [p_isClaimC hw hC, z_b2_s, if_neg (fun h => p_b_0.mp h h1)]
        by_cases h3 : d = -1
        · rw [if_pos h3, h28]
        · rw [if_neg h3, p_isDay4, z_b2_s, if_neg, h28]
          intro h4
          refine p_b_0.mp h4 ⟨?_, h2.2⟩
          have h5 : d.toInt ≠ -1 := fun q => h3 (Int32.toInt_inj.mp (by rw [q, hm1]))
          have := h2.1
          omega
      · unfold f_X5_ask
        rw [p_isClaimM hw hν, z_b2_s, if_neg (fun h => p_b_0.mp h h1), p_in5k (-1) 999 (by decide) (by decide), z_b2_s, if_neg (fun h => p_b_0.mp h h2), if_pos hz5]
        simp only [z_lt, z_st]
        rw [if_pos hz5, (hν.1.2.2.2.1 _ hj).2.2.2.2.2.2]
    · refine p_look hw hC hM (r := -1002) ?_ (fun ν hν => ?_)
      · unfold f_X4_ask
        rw [p_isClaimC hw hC, z_b2_s, if_neg (fun h => p_b_0.mp h h1), if_neg (fun e => h2 (by rw [e]; exact ⟨by decide, by decide⟩)), p_isDay4, z_b2_s, if_pos (p_b_0.mpr (fun q => h2 ⟨by have := q.1; omega, q.2⟩))]
      · unfold f_X5_ask
        rw [p_isClaimM hw hν, z_b2_s, if_neg (fun h => p_b_0.mp h h1), p_in5k (-1) 999 (by decide) (by decide), z_b2_s, if_pos (p_b_0.mpr h2)]
  · refine p_look hw hC hM (r := -1001) ?_ (fun ν hν => ?_)
    · unfold f_X4_ask
      rw [p_isClaimC hw hC, z_b2_s, if_pos (p_b_0.mpr h1)]
    · unfold f_X5_ask
      rw [p_isClaimM hw hν, z_b2_s, if_pos (p_b_0.mpr h1)]
