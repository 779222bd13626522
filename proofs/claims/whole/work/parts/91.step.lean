/-! PURE: the reference's step; step -/
section
variable {ν : z_M} {n : Nat} {l : a_T} {s : a_S}
theorem p_th0 (hs : w_ship s) (hl : w_law l) (hm : m_ctx ν n l s (fun _ => false)) (hn : n < 4) (d : Int32) {c f : Nat} (hc : c < s.2.1) (hf : f < 5) : f_X5_isThere (nI n) d (nI f) (nI c) ν = some (p_b ((y_p (y_of l s d)).2.2.2.1 f c = true), ν) := by
  rw [p_isThere hs hl hm hn d hc hf, y_og_0]
  unfold p_b
  congr 2
  by_cases q : (y_p (y_of l s d)).2.2.2.1 f c = true
  · rw [if_pos q, if_pos ⟨rfl, q⟩]
  · rw [if_neg q, if_neg (fun z => q z.2)]
theorem p_102 (hs : w_ship s) (hl : w_law l) (hm : m_ctx ν n l s (fun _ => false)) (hn : n < 4) (d : Int32) {f e : Nat} (hf : f < 5) (he : e < s.2.1) (x4 : Int32) (a : Nat) (K : Int32 → Int32 → Int32 → Int32 → Int32 → Int32 → z_M → Option (Int32 × z_M)) (is : Bool) : ∀ m k fu, k + m = e → m < fu → g_X5_step_102 K fu (nI n) d (nI f) x4 (nI a) (nI e) (if (is && t_fs (y_p (y_of l s d)) f e k) = true then 1 else 0) (nI k) ν = K (nI n) d (nI f) x4 (nI (a + (if (is && t_fs (y_p (y_of l s d)) f e e) = true then 1 else 0))) (nI (e + 1)) ν := by
  have h14 : s.2.1 ≤ 14 := hs.2.1
  intro m
  induction m with
  | zero =>
    intro k fu hk hfu
    obtain ⟨fu, rfl⟩ : ∃ q, fu = q + 1 := ⟨fu - 1, by omega⟩
    have ek : k = e := by omega
    subst ek
    rw [g_X5_step_102]
    rw [if_pos (nI_le (Nat.le_refl _) (by omega)), z_lt_s, nI_1]
    by_cases q : (is && t_fs (y_p (y_of l s d)) f k k) = true
    · rw [if_pos q, if_pos q, if_neg (show ¬ (1 : Int32) = 0 by decide), nI_1]
    · rw [if_neg q, if_neg q, if_pos rfl, Int32.add_zero]
      rfl
  | succ m ih =>
    intro k fu hk hfu
    obtain ⟨fu, rfl⟩ : ∃ q, fu = q + 1 := ⟨fu - 1, by omega⟩
    have y1 := ih (k + 1) fu (by omega) (by omega)
    rw [t_fs_s, ← Bool.and_assoc] at y1
    rw [g_X5_step_102]
    rw [if_neg (nI_ge (by omega) (by omega)), p_th0 hs hl hm hn d (show k < s.2.1 by omega) hf, z_b2_s, p_if0, p_ordS hs hl hm hn d (g := fun _ => false) (show k < s.2.1 by omega) he, z_b2_s, y_og_0]
    unfold g_X5_step_138
    simp only [nI_1]
    by_cases q : (is && t_fs (y_p (y_of l s d)) f e k) = true
    · rw [if_pos q, if_neg (show ¬ (1 : Int32) = 0 by decide)]
      rw [q, Bool.true_and] at y1
      by_cases q2 : (y_p (y_of l s d)).2.2.2.1 f k = true
      · rw [if_pos q2]
        rw [q2, Bool.true_and] at y1
        by_cases q3 : (y_of l s d).2.2.1 k = (y_of l s d).2.2.1 e
        · rw [if_pos (a_sg_z.mpr (by omega))]
          rw [show decide ((y_p (y_of l s d)).2.2.1 k = (y_p (y_of l s d)).2.2.1 e) = true from decide_eq_true q3, if_neg (by decide)] at y1
          exact y1
        · rw [if_neg (fun z => q3 (by have := a_sg_z.mp z; omega))]
          rw [show decide ((y_p (y_of l s d)).2.2.1 k = (y_p (y_of l s d)).2.2.1 e) = false from decide_eq_false q3, if_pos (by decide)] at y1
          exact y1
      · rw [if_neg q2]
        rw [show (y_p (y_of l s d)).2.2.2.1 f k = false by simpa using q2, Bool.false_and, if_pos (by decide)] at y1
        exact y1
    · rw [if_neg q, if_pos rfl]
      rw [show (is && t_fs (y_p (y_of l s d)) f e k) = false by simpa using q, Bool.false_and, if_neg (by decide)] at y1
      exact y1
theorem p_58 (hs : w_ship s) (hl : w_law l) (hm : m_ctx ν n l s (fun _ => false)) (hn : n < 4) (d : Int32) {f c : Nat} (hf : f < 5) (hc : c < s.2.1) : ∀ m e fu, e + m = s.2.1 → m < fu → g_X5_step_58 fu (nI n) d (nI f) (nI c) (nI (sm e (t_g (y_p (y_of l s d)) f ((y_of l s d).2.2.1 c)))) (nI e) ν = some (nI (t_G (y_p (y_of l s d)) f ((y_of l s d).2.2.1 c)), ν) := by
  have h14 : s.2.1 ≤ 14 := hs.2.1
  have hN : z_N = 5000 := rfl
  intro m
  induction m with
  | zero =>
    intro e fu he hfu
    obtain ⟨fu, rfl⟩ : ∃ q, fu = q + 1 := ⟨fu - 1, by omega⟩
    have ee : e = s.2.1 := by omega
    subst ee
    rw [g_X5_step_58]
    rw [hm.1.2.1, if_pos (nI_le (Nat.le_refl _) (by omega))]
    rfl
  | succ m ih =>
    intro e fu he hfu
    obtain ⟨fu, rfl⟩ : ∃ q, fu = q + 1 := ⟨fu - 1, by omega⟩
    have hes : e < s.2.1 := by omega
    have y1 := ih (e + 1) fu (by omega) (by omega)
    rw [sm] at y1
    have inner := fun is => p_102 hs hl hm hn d (e := e) hf hes (nI c) (sm e (t_g (y_p (y_of l s d)) f ((y_of l s d).2.2.1 c))) (fun (y81 : Int32) (y82 : Int32) (y83 : Int32) (y84 : Int32) (y85 : Int32) (y86 : Int32) (μ79 : z_M) => (g_X5_step_58 fu (y81) (y82) (y83) (y84) (y85) (y86) μ79)) is e 0 z_N (by omega) (by omega)
    have t0 : t_fs (y_p (y_of l s d)) f e 0 = true := rfl
    rw [g_X5_step_58]
    rw [hm.1.2.1, if_neg (nI_ge hes (by omega)), p_th0 hs hl hm hn d hes hf, z_b2_s, p_if0, p_ordS hs hl hm hn d (g := fun _ => false) hes hc, z_b2_s, y_og_0]
    unfold t_g at y1
    by_cases q : (y_p (y_of l s d)).2.2.2.1 f e = true
    · rw [if_pos q]
      rw [q, Bool.true_and] at y1
      by_cases q2 : (y_of l s d).2.2.1 e < (y_of l s d).2.2.1 c
      · rw [if_pos (a_sg_1.mpr (by omega))]
        rw [show decide ((y_p (y_of l s d)).2.2.1 e < (y_of l s d).2.2.1 c) = true from decide_eq_true q2] at y1
        have i1 := inner true
        rw [t0, if_pos (by decide), nI_0] at i1
        exact i1.trans y1
      · rw [if_neg (fun z => q2 (by have := a_sg_1.mp z; omega))]
        rw [show decide ((y_p (y_of l s d)).2.2.1 e < (y_of l s d).2.2.1 c) = false from decide_eq_false q2] at y1
        have i1 := inner false
        rw [t0, if_neg (by decide), nI_0] at i1
        exact i1.trans y1
    · rw [if_neg q]
      rw [show (y_p (y_of l s d)).2.2.2.1 f e = false by simpa using q, Bool.false_and] at y1
      have i1 := inner false
      rw [t0, if_neg (by decide), nI_0] at i1
      exact i1.trans y1
end
theorem s_17 : zs_17 Inv0 := by
  rintro μ ⟨A, hw, hC, hM⟩ x d f c
  by_cases h1 : p_in x 0 3
  case neg => exact p_look hw hC hM (r := -1001) (by unfold f_X4_step; rw [p_isLand4, z_b2_s, p_if0, if_neg h1]) (fun ν hν => by unfold f_X5_step; rw [p_isLand5, z_b2_s, p_if0, if_neg h1])
  by_cases h2 : p_in f 0 4
  case neg => exact p_look hw hC hM (r := -1001) (by unfold f_X4_step; rw [p_isLand4, z_b2_s, p_if0, if_pos h1, p_isFund4, z_b2_s, p_if0, if_neg h2]) (fun ν hν => by unfold f_X5_step; rw [p_isLand5, z_b2_s, p_if0, if_pos h1, p_isFund5, z_b2_s, p_if0, if_neg h2])
  by_cases h3 : p_in c 0 ((A.1.2.1 : Int) - 1)
  case neg => exact p_look hw hC hM (r := -1001) (by unfold f_X4_step; rw [p_isLand4, z_b2_s, p_if0, if_pos h1, p_isFund4, z_b2_s, p_if0, if_pos h2, p_isClaimC hw hC, z_b2_s, p_if0, if_neg h3]) (fun ν hν => by unfold f_X5_step; rw [p_isLand5, z_b2_s, p_if0, if_pos h1, p_isFund5, z_b2_s, p_if0, if_pos h2, p_isClaimM hw hν, z_b2_s, p_if0, if_neg h3])
  by_cases h4 : p_in d 0 999
  case neg => exact p_look hw hC hM (r := -1002) (by unfold f_X4_step; rw [p_isLand4, z_b2_s, p_if0, if_pos h1, p_isFund4, z_b2_s, p_if0, if_pos h2, p_isClaimC hw hC, z_b2_s, p_if0, if_pos h3, p_isDay4, z_b2_s, p_if0, if_neg h4]) (fun ν hν => by unfold f_X5_step; rw [p_isLand5, z_b2_s, p_if0, if_pos h1, p_isFund5, z_b2_s, p_if0, if_pos h2, p_isClaimM hw hν, z_b2_s, p_if0, if_pos h3, p_isDay5, z_b2_s, p_if0, if_neg h4])
  obtain ⟨n, rfl, hn, hn'⟩ := p_nat h1
  have hn4 : n < 4 := by omega
  have wl := hw.2.2.2.2 n hn4
  obtain ⟨f, rfl, hf, hf'⟩ := p_nat h2
  have hf5 : f < 5 := by omega
  obtain ⟨c, rfl, hc, hc'⟩ := p_nat h3
  have hcc : c < A.1.2.1 := by omega
  have h14 : A.1.2.1 ≤ 14 := hw.1.2.1
  have hN : z_N = 5000 := rfl
  obtain ⟨lp, l1, l2, l3, l4⟩ := hC.2.2.2.2.2.1
  have hlp := z_LAWS_ge _ (l1 n (by omega))
  obtain ⟨L, ln, μ1, e1, u1, c1⟩ := p_lineUp hw.1 wl hC.1 (l3 n hn4).2 (by omega) (by omega) h4.2
  have uu : z_un scC μ μ1 := u1.mono (by decide)
  have i1 : InvC A μ1 := hC.scr uu (by rw [u1.1 46 (by decide)]; exact hC.2.2.2.2.2.2.2.2.2.2)
  refine p_step hC hM hw (r := if (y_p (y_of (A.2.2.2.2.2 n) A.1 d)).2.2.2.1 f c = true then nI (t_G (y_p (y_of (A.2.2.2.2.2 n) A.1 d)) f ((y_of (A.2.2.2.2.2 n) A.1 d).2.2.1 c)) else -1) ⟨μ1, ?_, i1, z_hi_un uu⟩ (fun ν hν => ⟨ν, ?_, hν, z_lo.rf ν⟩)
  · unfold f_X4_step
    rw [p_isLand4, z_b2_s, p_if0, if_pos h1, p_isFund4, z_b2_s, p_if0, if_pos h2, p_isClaimC hw hC, z_b2_s, p_if0, if_pos h3, p_isDay4, z_b2_s, p_if0, if_pos h4]
    rw [p_g hn4 (by decide), nI_clamp hn', (l3 n hn4).1, Option.bind_some, e1, z_b1_s, p_stepOf (w_of hw.1 wl d) c1 hf5 hcc, z_b2_s]
  · have hm := hν.ctx hw hn4
    unfold f_X5_step
    rw [p_isLand5, z_b2_s, p_if0, if_pos h1, p_isFund5, z_b2_s, p_if0, if_pos h2, p_isClaimM hw hν, z_b2_s, p_if0, if_pos h3, p_isDay5, z_b2_s, p_if0, if_pos h4]
    rw [p_th0 hw.1 wl hm hn4 d hcc hf5, z_b2_s, p_if0]
    by_cases q : (y_p (y_of (A.2.2.2.2.2 n) A.1 d)).2.2.2.1 f c = true
    · rw [if_pos q, if_pos q]
      have y1 := p_58 hw.1 wl hm hn4 d hf5 hcc A.1.2.1 0 z_N (by omega) (by omega)
      rw [sm, nI_0] at y1
      exact y1
    · rw [if_neg q, if_neg q]
