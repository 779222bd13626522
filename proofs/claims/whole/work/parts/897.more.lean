/-! PURE: more, the reference's end; more -/
theorem p_m5end {A : a_A} {ν : z_M} (hw : w_A A) (hM : InvM A ν) {n : Nat} (hn : n < 4) {w : Nat} (hway : w < 2) {d e h wg f : Int32} (ch p : Int32) (h1 : A.1.1 < 6) (h2 : A.1.2.1 < 14) (hd : p_in (d + 1) 0 999) (he : p_in e 0 999) (hh : p_in h 0 5) (hg : p_in wg 1 999) (hf : p_in (A.1.2.2 10 1 + f) 0 9999) {ha : Nat → Nat} (h132 : ∀ j, j < 6 → ν.1 132 j = nI (ha j)) : ∃ ν', g_X5_more_181 1 (nI n) d (nI w) p h e wg f ch 6 ν = some (if p = -1 then v_wi (v_hd (y_of (A.2.2.2.2.2 n) (v_s A.1 (d + 1) e h wg f) e) w (v_s A.1 (d + 1) e h wg f)) ha ch 6 else v_wp (v_hd (y_of (A.2.2.2.2.2 n) (v_s A.1 (d + 1) e h wg f) e) w (v_s A.1 (d + 1) e h wg f)) ha ch p 6, ν') ∧ InvM A ν' ∧ z_lo ν ν' := by
  have hN : z_N = 5000 := rfl
  have hs' := w_v hw.1 h1 h2 hd he hh hg hf
  have eV : ν.1 98 24 = nI A.1.1 := hM.1.1
  have m1 := m_ship_voy (d + 1) e hM.1
  have g1 : (z_si ν 114 A.1.1 (d + 1)).1 98 24 = nI A.1.1 := by rw [p_si_ne (by decide)]; exact eV
  have g2 : (z_si (z_si ν 114 A.1.1 (d + 1)) 115 A.1.1 e).1 98 24 = nI A.1.1 := by rw [p_si_ne (by decide)]; exact g1
  have g3 : (z_si (z_si (z_si ν 114 A.1.1 (d + 1)) 115 A.1.1 e) 98 24 (nI (A.1.1 + 1))).1 98 27 = nI A.1.2.1 := m1.2.1
  have m2 := m_ship_cl 0 h e wg 1 0 (Or.inr rfl) m1
  have ep := p_putC (μ := z_si (z_si (z_si ν 114 A.1.1 (d + 1)) 115 A.1.1 e) 98 24 (nI (A.1.1 + 1))) (n := A.1.2.1) (by omega) g3 0 h e wg 1 0
  have V2 : ∀ a k, ¬ (a = 114 ∧ k = A.1.1) → ¬ (a = 115 ∧ k = A.1.1) → ¬ (116 ≤ a ∧ a ≤ 123 ∧ k = A.1.2.1) → ¬ (a = 98 ∧ k = 24) → ¬ (a = 98 ∧ k = 27) → (z_putC (z_si (z_si (z_si ν 114 A.1.1 (d + 1)) 115 A.1.1 e) 98 24 (nI (A.1.1 + 1))) A.1.2.1 0 h e wg 1 0).1 a k = ν.1 a k := by
    intro a k n1 n2 n3 n4 n5
    unfold z_putC
    rw [p_si, if_neg n5, p_si, if_neg (show ¬ (a = 123 ∧ k = A.1.2.1) by omega), p_si, if_neg (show ¬ (a = 122 ∧ k = A.1.2.1) by omega), p_si, if_neg (show ¬ (a = 121 ∧ k = A.1.2.1) by omega), p_si, if_neg (show ¬ (a = 120 ∧ k = A.1.2.1) by omega), p_si, if_neg (show ¬ (a = 119 ∧ k = A.1.2.1) by omega), p_si, if_neg (show ¬ (a = 118 ∧ k = A.1.2.1) by omega), p_si, if_neg (show ¬ (a = 117 ∧ k = A.1.2.1) by omega), p_si, if_neg (show ¬ (a = 116 ∧ k = A.1.2.1) by omega), p_si, if_neg n4, p_si, if_neg n2, p_si, if_neg n1]
  have V123 : (z_putC (z_si (z_si (z_si ν 114 A.1.1 (d + 1)) 115 A.1.1 e) 98 24 (nI (A.1.1 + 1))) A.1.2.1 0 h e wg 1 0).1 123 A.1.2.1 = 0 := by
    unfold z_putC
    rw [p_si_ne (by decide), p_si_at]
    decide
  have V22 : (z_putC (z_si (z_si (z_si ν 114 A.1.1 (d + 1)) 115 A.1.1 e) 98 24 (nI (A.1.1 + 1))) A.1.2.1 0 h e wg 1 0).2 = ν.2 := rfl
  have m2 : m_ship (z_putC (z_si (z_si (z_si ν 114 A.1.1 (d + 1)) 115 A.1.1 e) 98 24 (nI (A.1.1 + 1))) A.1.2.1 0 h e wg 1 0) (A.1.1 + 1, A.1.2.1 + 1, a_cl (a_up (a_up A.1.2.2 1 A.1.1 (d + 1)) 2 A.1.1 e) A.1.2.1 0 h e wg 1 0) := m2
  generalize z_putC (z_si (z_si (z_si ν 114 A.1.1 (d + 1)) 115 A.1.1 e) 98 24 (nI (A.1.1 + 1))) A.1.2.1 0 h e wg 1 0 = ν2 at *
  have e27 : ν2.1 98 27 = nI (A.1.2.1 + 1) := m2.2.1
  have m3 := m_ship_upd A.1.2.1 e 122 9 (by decide) m2
  have e124 : (z_si ν2 122 A.1.2.1 e).1 124 1 = A.1.2.2 10 1 := (m3.2.2.2.2.1 1 (by decide)).trans (v_10 A.1 (d + 1) e h wg)
  have m4 : m_ship (z_si (z_si ν2 122 A.1.2.1 e) 124 1 (A.1.2.2 10 1 + f)) (v_s A.1 (d + 1) e h wg f) := m_ship_upd 1 (A.1.2.2 10 1 + f) 124 10 (by decide) m3
  have V4 : ∀ a k, ¬ (a = 114 ∧ k = A.1.1) → ¬ (a = 115 ∧ k = A.1.1) → ¬ (116 ≤ a ∧ a ≤ 123 ∧ k = A.1.2.1) → ¬ (a = 98 ∧ k = 24) → ¬ (a = 98 ∧ k = 27) → ¬ (a = 124 ∧ k = 1) → (z_si (z_si ν2 122 A.1.2.1 e) 124 1 (A.1.2.2 10 1 + f)).1 a k = ν.1 a k := by
    intro a k n1 n2 n3 n4 n5 n6
    rw [p_si, if_neg n6, p_si, if_neg (show ¬ (a = 122 ∧ k = A.1.2.1) by omega)]
    exact V2 a k n1 n2 n3 n4 n5
  have V4123 : (z_si (z_si ν2 122 A.1.2.1 e) 124 1 (A.1.2.2 10 1 + f)).1 123 A.1.2.1 = 0 := by
    rw [p_si_ne (by decide), p_si_ne (by decide)]
    exact V123
  have V42 : (z_si (z_si ν2 122 A.1.2.1 e) 124 1 (A.1.2.2 10 1 + f)).2 = ν.2 := V22
  generalize hν4 : z_si (z_si ν2 122 A.1.2.1 e) 124 1 (A.1.2.2 10 1 + f) = ν4 at *
  have hctx : m_ctx ν4 n (A.2.2.2.2.2 n) (v_s A.1 (d + 1) e h wg f) (fun _ => false) := by
    refine ⟨m4, ?_, fun c hc => ?_⟩
    · have hl := hM.2.2.2.2.2.2 n hn
      have ee : ∀ a, a < 114 → a ≠ 98 → ν4.1 a = ν.1 a := fun a q1 q2 => funext fun k => V4 a k (by omega) (by omega) (by omega) (by omega) (by omega) (by omega)
      unfold m_law at hl ⊢
      rw [ee 99 (by decide) (by decide), ee 100 (by decide) (by decide), ee 101 (by decide) (by decide), ee 102 (by decide) (by decide), ee 103 (by decide) (by decide), ee 104 (by decide) (by decide), ee 113 (by decide) (by decide)]
      exact hl
    · have hc : c < A.1.2.1 + 1 := hc
      rw [if_neg (show ¬ ((fun _ => false) c = true) from fun q => absurd q (by simp))]
      by_cases q : c = A.1.2.1
      · rw [q]
        exact V4123
      · rw [V4 123 c (by omega) (by omega) (by omega) (by omega) (by omega) (by omega)]
        exact hM.2.1 c (by omega)
  obtain ⟨ν5, e5, u5, m5⟩ := k_out hs' (hw.2.2.2.2 n hn) hn hctx e hway
  rw [y_og_0] at m5
  have ms5 := (hctx.un u5 (fun a q1 q2 => by unfold xO; simp; omega)).1
  have x24 : ν5.1 98 24 = nI (A.1.1 + 1) := ms5.1
  have x27 : ν5.1 98 27 = nI (A.1.2.1 + 1) := ms5.2.1
  have x124 : ν5.1 124 1 = A.1.2.2 10 1 + f := by
    rw [u5.1 124 (by decide), ← hν4, p_si_at]
  have y1 := p_m294 (ha := ha) hs' rfl m5 ms5 (fun j hj => by
    rw [u5.1 132 (by decide), V4 132 j (by omega) (by omega) (by omega) (by omega) (by omega) (by omega)]
    exact h132 j hj) p f ch 6 0 z_N (by omega) (by omega)
  rw [v_wi, v_wp, nI_0] at y1
  have v24 : (z_si (z_si ν5 124 1 (ν5.1 124 1 - f)) 98 27 ((z_si ν5 124 1 (ν5.1 124 1 - f)).1 98 27 - 1)).1 98 24 - 1 = nI A.1.1 := by
    rw [p_si_nk (by decide), p_si_ne (by decide), x24, nI_m1]
  have v27 : (z_si ν5 124 1 (ν5.1 124 1 - f)).1 98 27 - 1 = nI A.1.2.1 := by
    rw [p_si_ne (by decide), x27, nI_m1]
  have v124 : ν5.1 124 1 - f = A.1.2.2 10 1 := by
    rw [x124, Int32.add_sub_cancel]
  rw [v24, v27, v124] at y1
  have back : ∀ a k, a ∉ scM → ¬ (a = 114 ∧ k = A.1.1) → ¬ (a = 115 ∧ k = A.1.1) → ¬ (116 ≤ a ∧ a ≤ 123 ∧ k = A.1.2.1) → (z_si (z_si (z_si ν5 124 1 (A.1.2.2 10 1)) 98 27 (nI A.1.2.1)) 98 24 (nI A.1.1)).1 a k = ν.1 a k := by
    intro a k hm n1 n2 n3
    rw [p_si]
    by_cases q1 : a = 98 ∧ k = 24
    · rw [if_pos q1, q1.1, q1.2, eV]
    · rw [if_neg q1, p_si]
      by_cases q2 : a = 98 ∧ k = 27
      · rw [if_pos q2, q2.1, q2.2]
        exact hM.1.2.1.symm
      · rw [if_neg q2, p_si]
        by_cases q3 : a = 124 ∧ k = 1
        · rw [if_pos q3, q3.1, q3.2]
          exact (hM.1.2.2.2.2.1 1 (by decide)).symm
        · rw [if_neg q3, u5.1 a (fun z => hm (xO_sc a z))]
          exact V4 a k n1 n2 n3 q1 q2 q3
  have b123 : (z_si (z_si (z_si ν5 124 1 (A.1.2.2 10 1)) 98 27 (nI A.1.2.1)) 98 24 (nI A.1.1)).1 123 A.1.2.1 = 0 := by
    rw [p_si_ne (by decide), p_si_ne (by decide), p_si_ne (by decide), u5.1 123 (by decide)]
    exact V4123
  refine ⟨_, ?_, hM.mo hw back b123, ⟨fun i hi => funext fun k => back i k (scM_no (by omega)) (by omega) (by omega) (by omega), ?_⟩⟩
  · have c1 : (1 : Int32).toNatClampNeg = 1 := by decide
    rw [g_X5_more_181]
    rw [if_pos (show (6 : Int32) ≤ 6 by decide), p_wr eV (by omega) (by decide), p_wr g1 (by omega) (by decide), z_st_s, g2, nI_1, ep, z_b1_s, e27, nI_m1, p_g (show A.1.2.1 < 15 by omega) (by decide), z_st_s, nI_clamp (by omega)]
    simp only [if_pos (show z_in (1 : Int32) 5 by decide), c1, z_st_s, e124, hν4, e5, z_b1_s]
    exact y1
  · show ν5.2.2 = ν.2.2
    rw [u5.2, V42]
theorem p_can5 {A : a_A} (hw : w_A A) {ν : z_M} (hM : InvM A ν) {d f : Int32} (hd : p_in d 0 999) (K : Option (Int32 × z_M)) : (if (¬ ((ν.1 98 24) ≤ 0) → z_in ((ν.1 98 24) - (1 : Int32)) 7) then (z_lt (if (ν.1 98 24) ≤ 0 then (0 : Int32) else (if (ν.1 115 ((ν.1 98 24) - (1 : Int32)).toNatClampNeg) ≤ d then (0 : Int32) else (1 : Int32))) fun x_50 => (if x_50 = 0 then (if (ν.1 98 24) = (6 : Int32) then (some ((-1003 : Int32), ν)) else (if (ν.1 98 27) = (14 : Int32) then (some ((-1003 : Int32), ν)) else (if z_in (1 : Int32) 5 then (if ((ν.1 124 (1 : Int32).toNatClampNeg) + f) ≤ (9999 : Int32) then K else (some ((-1003 : Int32), ν))) else none))) else (some ((-1003 : Int32), ν)))) else none) = if v_can A.1 d f then K else some (-1003, ν) := by
  have h6 : A.1.1 ≤ 6 := hw.1.1
  have h14 : A.1.2.1 ≤ 14 := hw.1.2.1
  have c1 : (1 : Int32).toNatClampNeg = 1 := by decide
  have hV : ν.1 98 24 = nI A.1.1 := hM.1.1
  have hcond : (¬ (nI A.1.1 ≤ 0) → z_in (nI A.1.1 - 1) 7) := by
    intro q
    have : A.1.1 ≠ 0 := fun z => q ((nI_lt0 (by omega)).mpr z)
    obtain ⟨v, hv⟩ : ∃ v, A.1.1 = v + 1 := ⟨A.1.1 - 1, by omega⟩
    rw [hv, nI_m1]
    exact p_zn (by omega) (by decide)
  have late : (if nI A.1.1 ≤ 0 then (0 : Int32) else (if (ν.1 115 (nI A.1.1 - 1).toNatClampNeg) ≤ d then (0 : Int32) else (1 : Int32))) = if d < a_last A.1 then 1 else 0 := by
    unfold a_last
    by_cases q : A.1.1 = 0
    · rw [if_pos ((nI_lt0 (by omega)).mpr q), if_pos q, if_neg (show ¬ d < -1 from fun z => by rw [p_lt, p_zm1] at z; have := hd.1; omega)]
    · obtain ⟨v, hv⟩ : ∃ v, A.1.1 = v + 1 := ⟨A.1.1 - 1, by omega⟩
      have m2 := (hM.1.2.2.1 v (by omega)).2
      rw [if_neg (fun z => q ((nI_lt0 (by omega)).mp z)), if_neg q, hv, nI_m1, nI_clamp (by omega), Nat.add_sub_cancel, m2]
      by_cases z : A.1.2.2 2 v ≤ d
      · rw [if_pos z, if_neg (show ¬ d < A.1.2.2 2 v from fun y => by rw [p_lt] at y; rw [p_le] at z; omega)]
      · rw [if_neg z, if_pos (show d < A.1.2.2 2 v by rw [p_lt]; rw [p_le] at z; omega)]
  rw [hV, if_pos hcond, z_lt_s, late, hM.1.2.1, if_pos (show z_in (1 : Int32) 5 by decide), c1, hM.1.2.2.2.2.1 1 (by decide)]
  unfold v_can
  by_cases q1 : d < a_last A.1
  · rw [if_pos q1, if_neg (show ¬ (1 : Int32) = 0 by decide), if_neg (fun z => z.1 q1)]
  · rw [if_neg q1, if_pos rfl]
    by_cases q2 : A.1.1 < 6
    · rw [if_neg (show ¬ nI A.1.1 = 6 from fun z => by have := (nI_eq (b := 6) (by omega) (by decide)).mp z; omega)]
      by_cases q3 : A.1.2.1 < 14
      · rw [if_neg (show ¬ nI A.1.2.1 = 14 from fun z => by have := (nI_eq (b := 14) (by omega) (by decide)).mp z; omega)]
        by_cases q4 : (9999 : Int32) < A.1.2.2 10 1 + f
        · rw [if_neg (show ¬ A.1.2.2 10 1 + f ≤ 9999 from fun z => by rw [p_lt] at q4; rw [p_le] at z; omega), if_neg (fun z => z.2.2.2 q4)]
        · rw [if_pos (show A.1.2.2 10 1 + f ≤ 9999 by rw [p_lt] at q4; rw [p_le]; omega), if_pos ⟨q1, q2, q3, q4⟩]
      · rw [if_pos (show nI A.1.2.1 = 14 by rw [show A.1.2.1 = 14 by omega]; rfl), if_neg (fun z => q3 z.2.2.1)]
    · rw [if_pos (show nI A.1.1 = 6 by rw [show A.1.1 = 6 by omega]; rfl), if_neg (fun z => q2 z.2.1)]
