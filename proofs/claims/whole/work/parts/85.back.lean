/-! PURE: back -/
theorem p_pfs {μ : z_M} {Q : y_Q} {L : Nat → Nat} {ln a1 a2 : Nat} {p1 p2 : Nat → Nat} (hw : w_Q Q) (hp : c_pay μ Q Q.1 L ln) (h1 : ∀ c, c < Q.1 → μ.1 a1 c = nI (p1 c)) (h2 : ∀ c, c < Q.1 → μ.1 a2 c = nI (p2 c)) (hle : ∀ c, p1 c ≤ p2 c) : f_X2_paidForShip a1 14 a2 14 μ = some (nI (sm Q.1 (fun c => if Q.2.2.2.2.1 0 c = true then p2 c - p1 c else 0)), μ) := by
  have h14 := hw.1
  have hN : z_N = 5000 := rfl
  have eb : ∀ x, f_X4_bit x 0 μ = some (p_bit x 0, μ) := fun _ => rfl
  have key : ∀ m c fu, c + m = Q.1 → m < fu → g_X2_paidForShip_5 a1 14 a2 14 fu (nI (sm c (fun c => if Q.2.2.2.2.1 0 c = true then p2 c - p1 c else 0))) (nI c) μ = some (nI (sm Q.1 (fun c => if Q.2.2.2.2.1 0 c = true then p2 c - p1 c else 0)), μ) := by
    intro m
    induction m with
    | zero =>
      intro c fu hc hf
      obtain ⟨fu, rfl⟩ : ∃ q, fu = q + 1 := ⟨fu - 1, by omega⟩
      have ec : c = Q.1 := by omega
      subst ec
      rw [g_X2_paidForShip_5]
      rw [hp.2.1, if_pos (nI_le (Nat.le_refl _) (by omega))]
    | succ m ih =>
      intro c fu hc hf
      obtain ⟨fu, rfl⟩ : ∃ q, fu = q + 1 := ⟨fu - 1, by omega⟩
      have hcc : c < Q.1 := by omega
      have y1 := ih (c + 1) fu (by omega) (by omega)
      rw [sm] at y1
      obtain ⟨M, hM, eM, bM⟩ := (hp.2.2.2.1 c hcc).2.1
      rw [g_X2_paidForShip_5]
      rw [hp.2.1, if_neg (nI_ge hcc (by omega))]
      simp only [if_pos (p_zn (n := c) (N := 14) (by omega) (by decide)), nI_clamp (show c < 2 ^ 31 by omega), eM, eb, p_bitN M hM 0 (by decide), bM 0 (by decide), z_b2_s, h1 c hcc, h2 c hcc, pk_sub (hle c), nI_add, nI_1, z_lt_s]
      by_cases q : Q.2.2.2.2.1 0 c = true
      · rw [if_pos q, if_pos rfl]
        rw [if_pos q] at y1
        exact y1
      · rw [if_neg q, if_neg (by decide)]
        rw [if_neg q, Nat.add_zero] at y1
        exact y1
  unfold f_X2_paidForShip
  exact key Q.1 0 z_N (by omega) (by omega)
theorem y_le_bd {Q : y_Q} (hw : w_Q Q) {o : Nat → Nat} (ho : isO o) (k : Nat) : ∀ i, i ≤ 5 → y_le (y_p Q) o i k ≤ 9999
  | 0, _ => by rw [y_le]; omega
  | i + 1, h => by
    have ih := y_le_bd hw ho k i (by omega)
    rw [y_le]
    split
    · have hR := y_pa_R (y_p Q) o i
      have hF := hw.2.2 (o i) (ho.1 i (by omega))
      have h1 := y_pa_sum (y_p Q) o i
      have h2 : sm Q.1 (fun c => y_pa (y_p Q) o i c + (y_pa (y_p Q) o (i + 1) c - y_pa (y_p Q) o i c)) = sm Q.1 (y_pa (y_p Q) o (i + 1)) := sm_cg (fun c _ => by
        have : y_pa (y_p Q) o i c ≤ y_pa (y_p Q) o (i + 1) c := hR.1 c
        show y_pa (y_p Q) o i c + (y_pa (y_p Q) o (i + 1) c - y_pa (y_p Q) o i c) = y_pa (y_p Q) o (i + 1) c
        omega)
      rw [sm_add] at h2
      have h3 : sm Q.1 (fun c => if (y_p Q).2.2.2.2.2 c = true then y_pa (y_p Q) o (i + 1) c - y_pa (y_p Q) o i c else 0) ≤ sm Q.1 (fun c => y_pa (y_p Q) o (i + 1) c - y_pa (y_p Q) o i c) := sm_le (fun c _ => by
        show (if (y_p Q).2.2.2.2.2 c = true then y_pa (y_p Q) o (i + 1) c - y_pa (y_p Q) o i c else 0) ≤ y_pa (y_p Q) o (i + 1) c - y_pa (y_p Q) o i c
        split
        · exact Nat.le_refl _
        · exact Nat.zero_le _)
      have h1 : sm Q.1 (y_pa (y_p Q) o (i + 1)) + y_re (y_p Q) o i = sm Q.1 (y_pa (y_p Q) o i) + Q.2.2.2.2.2 (o i) := h1
      refine Nat.le_trans h3 ?_
      generalize sm Q.1 (fun c => y_pa (y_p Q) o (i + 1) c - y_pa (y_p Q) o i c) = D at *
      generalize sm Q.1 (fun c => y_pa (y_p Q) o i c) = E at *
      generalize sm Q.1 (y_pa (y_p Q) o (i + 1)) = F at *
      have h4 : E + D = F := h2
      generalize y_re (y_p Q) o i = r at *
      have h5 : F + r = E + Q.2.2.2.2.2 (o i) := h1
      omega
    · exact ih
theorem p_back4 {μ : z_M} {Q : y_Q} {L : Nat → Nat} {ln w : Nat} (hw : w_Q Q) (h : c_all μ Q L ln (q_o Q w) 5) : ∃ μ', f_X2_giveBack μ = some μ' ∧ z_un [47, 48] μ μ' ∧ (∀ k, k < 3 → μ'.1 47 k = nI (y_le (y_p Q) (q_o Q w) 5 k)) ∧ (∀ k, k < 3 → μ'.1 48 k = nI (sh (q_lf Q w 0) 3 (y_le (y_p Q) (q_o Q w) 5) k)) := by
  have hN : z_N = 5000 := rfl
  have ho := q_isO Q w
  have co := h.out
  have hr := q_lf_le hw w (f := 0) (by decide)
  have key : ∀ m i fu μ1, i + m = 5 → m < fu → z_un [47] μ μ1 → (∀ k, k < 3 → (∃ j, j < i ∧ q_o Q w j = k + 2) → μ1.1 47 k = nI (y_le (y_p Q) (q_o Q w) i k)) → ∃ μ', g_X2_giveBack_2 fu (nI i) μ1 = some μ' ∧ z_un [47, 48] μ μ' ∧ (∀ k, k < 3 → μ'.1 47 k = nI (y_le (y_p Q) (q_o Q w) 5 k)) ∧ (∀ k, k < 3 → μ'.1 48 k = nI (sh (q_lf Q w 0) 3 (y_le (y_p Q) (q_o Q w) 5) k)) := by
    intro m
    induction m with
    | zero =>
      intro i fu μ1 hi hf hu hc
      obtain ⟨fu, rfl⟩ : ∃ q, fu = q + 1 := ⟨fu - 1, by omega⟩
      have ei : i = 5 := by omega
      subst ei
      have c47 : ∀ k, k < 3 → μ1.1 47 k = nI (y_le (y_p Q) (q_o Q w) 5 k) := fun k hk => hc k hk (ho.2.2 (k + 2) (by omega))
      have c0 : (0 : Int32).toNatClampNeg = 0 := by decide
      have hbd := y_le_bd hw ho
      have hsum : sm 3 (y_le (y_p Q) (q_o Q w) 5) ≤ 3 * 9999 := sm_bd (fun k _ => hbd k 5 (Nat.le_refl _))
      obtain ⟨μ2, e2, u2, g2⟩ := p_share (a1 := 47) (n1 := 3) (a2 := 48) (n2 := 3) (a := 0) (n := 3) (r := q_lf Q w 0) (U := y_le (y_p Q) (q_o Q w) 5) (μ := μ1) (by decide) (by decide) (by decide) (by decide) (by decide) (by omega) (fun k hk => by rw [Nat.zero_add]; exact c47 k hk) (fun k hk => by have := hbd k 5 (Nat.le_refl _); omega) (by omega)
      refine ⟨μ2, ?_, (hu.mono (by simp)).tr (u2.mono (by simp)), fun k hk => by rw [u2.1 47 (by decide)]; exact c47 k hk, fun k hk => by have := g2 k hk; rw [Nat.zero_add] at this; exact this⟩
      have e2' : f_X2_share (nI (q_lf Q w 0)) 47 3 48 3 0 3 μ1 = some (nI (sh_r (q_lf Q w 0) 3 (y_le (y_p Q) (q_o Q w) 5)), μ2) := e2
      rw [g_X2_giveBack_2]
      rw [if_pos (show (5 : Int32) ≤ nI 5 by decide), if_pos (show z_in (0 : Int32) 5 by decide), c0, hu.1 36 (by decide), co.2.1 0 (by decide), e2', z_b2_s]
    | succ m ih =>
      intro i fu μ1 hi hf hu hc
      obtain ⟨fu, rfl⟩ : ∃ q, fu = q + 1 := ⟨fu - 1, by omega⟩
      have hi5 : i < 5 := by omega
      have hf5 := ho.1 i hi5
      have e37 : μ1.1 37 i = nI (q_o Q w i) := by rw [hu.1 37 (by decide)]; exact h.2.2.2.1 i hi5
      have keepC : ∀ k, k < 3 → q_o Q w i ≠ k + 2 → (∃ j, j < i + 1 ∧ q_o Q w j = k + 2) → μ1.1 47 k = nI (y_le (y_p Q) (q_o Q w) (i + 1) k) := by
        rintro k hk hne ⟨j, hj, ej⟩
        rw [y_le, if_neg hne]
        refine hc k hk ⟨j, ?_, ej⟩
        by_cases q : j = i
        · rw [q] at ej
          exact absurd ej hne
        · omega
      rw [g_X2_giveBack_2]
      rw [if_neg (show ¬ (5 : Int32) ≤ nI i from p_nle (a := 5) (by omega) (by decide))]
      simp only [if_pos (p_zn (n := i) (N := 5) hi5 (by decide)), if_pos (p_zn (n := i) (N := 6) (by omega) (by decide)), nI_1, if_pos (p_zn (n := i + 1) (N := 6) (by omega) (by decide)), nI_clamp (show i < 2 ^ 31 by omega), nI_clamp (show i + 1 < 2 ^ 31 by omega), e37]
      by_cases q : q_o Q w i < 2
      · rw [if_pos (show nI (q_o Q w i) < 2 from nI_lt (b := 2) q (by decide))]
        exact ih (i + 1) fu μ1 (by omega) (by omega) hu (fun k hk hj => keepC k hk (by omega) hj)
      · have e2 : nI (q_o Q w i) - 2 = nI (q_o Q w i - 2) := pk_sub (a := q_o Q w i) (b := 2) (by omega)
        have r1 : μ1.2.2 39 i = some (40 + i) := by rw [hu.2]; exact h.2.2.1 i (by omega)
        have r2 : μ1.2.2 39 (i + 1) = some (40 + (i + 1)) := by rw [hu.2]; exact h.2.2.1 (i + 1) (by omega)
        have hrow : ∀ j, j ≤ 5 → ∀ c, c < Q.1 → μ1.1 (40 + j) c = nI (y_pa (y_p Q) (q_o Q w) j c) := fun j hj c hcc => by
          rw [hu.1 (40 + j) (by simp; omega)]
          exact (h.2.2.2.2.1 j hj).1 c hcc
        have e3 := p_pfs (a1 := 40 + i) (a2 := 40 + (i + 1)) hw (h.1.un hu (fun a _ _ => by simp; omega)) (hrow i (by omega)) (hrow (i + 1) (by omega)) (fun c => (y_pa_R (y_p Q) (q_o Q w) i).1 c)
        rw [if_neg (show ¬ nI (q_o Q w i) < 2 from nI_nlt (b := 2) (by omega) (by omega)), r1, Option.bind_some, r2, Option.bind_some, e3, z_b2_s, e2, p_g (show q_o Q w i - 2 < 3 by omega) (by decide), nI_clamp (by omega), z_st_s]
        refine ih (i + 1) fu _ (by omega) (by omega) (hu.si (by simp) _ _) (fun k hk hj => ?_)
        by_cases e : q_o Q w i = k + 2
        · rw [show k = q_o Q w i - 2 by omega, p_si_at, y_le, if_pos (by omega)]
          rfl
        · rw [p_si_nk (by omega)]
          exact keepC k hk e hj
  unfold f_X2_giveBack
  exact key 5 0 z_N μ (by omega) (by omega) (z_un.rf _ _) (fun k hk hj => by obtain ⟨j, hj, _⟩ := hj; omega)
theorem p_back5 {ν : z_M} {r c : Nat} {le : Nat → Nat} (hc : c < 3) (hr : r ≤ 9999) (hle : ∀ k, le k ≤ 9999) (h127 : ν.1 127 0 = nI r) (h129 : ∀ k, k < 3 → ν.1 129 k = nI (le k)) (hlt : r < sm 3 le) : g_X5_back_109 z_N (nI c) (nI (sm 3 le)) (nI r) 0 0 ν = some (nI (sh r 3 le c), ν) := by
  have hN : z_N = 5000 := rfl
  have c0 : (0 : Int32).toNatClampNeg = 0 := by decide
  have hsum : sm 3 le ≤ 3 * 9999 := sm_bd (fun k _ => hle k)
  have hoq := sh_oq hlt
  have hmul : ∀ k, r * le k < 2 ^ 31 := fun k => by
    have := Nat.mul_le_mul hr (hle k)
    omega
  have hne : ¬ nI (sm 3 le) = 0 := fun q => by
    have := (nI_eq (b := 0) (by omega) (by decide)).mp q
    omega
  have hs1 : ∀ k, (if nI (le k) ≤ 0 then (0 : Int32) else 1) = nI (sh_1 le k) := by
    intro k
    have := hle k
    unfold sh_1
    by_cases q : 0 < le k
    · rw [if_pos q, if_neg (fun z => by have := (nI_lt0 (by omega)).mp z; omega)]
      rfl
    · rw [if_neg q, if_pos ((nI_lt0 (by omega)).mpr (by omega))]
      rfl
  have hcnt : ∀ k, sm k (sh_1 le) ≤ k * 1 := fun k => sm_bd (fun e _ => by unfold sh_1; split <;> omega)
  have key : ∀ m k fu, k + m = 3 → m < fu → g_X5_back_109 fu (nI c) (nI (sm 3 le)) (nI (r - sm k (sh_q r (sm 3 le) le))) (nI (sm (min k c) (sh_1 le))) (nI k) ν = some (nI (sh r 3 le c), ν) := by
    intro m
    induction m with
    | zero =>
      intro k fu hk hf
      obtain ⟨fu, rfl⟩ : ∃ q, fu = q + 1 := ⟨fu - 1, by omega⟩
      have ek : k = 3 := by omega
      subst ek
      have ho : r - sm 3 (sh_q r (sm 3 le) le) = sh_o r 3 le := rfl
      rw [g_X5_back_109]
      rw [if_pos (show (3 : Int32) ≤ nI 3 by decide), if_pos (show z_in (0 : Int32) 5 by decide), p_g hc (by decide), if_pos hne, p_g hc (by decide), nI_clamp (by omega), c0, h127, h129 c hc, pk_mul, pk_div (hmul c) (by omega) (by omega), ho, Nat.min_eq_right (by omega)]
      congr 2
      unfold sh
      rw [if_neg (show ¬ sm 3 le ≤ r by omega)]
      have hq : r * le c / sm 3 le = sh_q r (sm 3 le) le c := rfl
      rw [hq]
      have h1 := hcnt c
      have h2 := hle c
      by_cases q : 0 < le c
      · rw [if_neg (show ¬ nI (le c) ≤ 0 from fun z => by have := (nI_lt0 (by omega)).mp z; omega)]
        by_cases q2 : sm c (sh_1 le) < sh_o r 3 le
        · rw [if_neg (nI_ge q2 (by omega)), if_pos ⟨q, q2⟩]
          exact nI_1 _
        · rw [if_pos (nI_le (by omega) (by omega)), if_neg (fun z => q2 z.2)]
          exact Int32.add_zero _
      · rw [if_pos ((nI_lt0 (by omega)).mpr (by omega)), if_neg (fun z => q z.1)]
        exact Int32.add_zero _
    | succ m ih =>
      intro k fu hk hf
      obtain ⟨fu, rfl⟩ : ∃ q, fu = q + 1 := ⟨fu - 1, by omega⟩
      have y1 := ih (k + 1) fu (by omega) (by omega)
      have hm := sm_mono (sh_q r (sm 3 le) le) (a := k + 1) (b := 3) (by omega)
      rw [sm] at hm y1
      have hq : r * le k / sm 3 le = sh_q r (sm 3 le) le k := rfl
      rw [g_X5_back_109]
      rw [if_neg (show ¬ (3 : Int32) ≤ nI k from p_nle (a := 3) (by omega) (by decide)), if_pos (show z_in (0 : Int32) 5 by decide), p_g (show k < 3 by omega) (by decide), if_pos hne, z_lt_s, if_pos (fun _ => p_zn (n := k) (N := 3) (by omega) (by decide))]
      simp only [nI_clamp (show k < 2 ^ 31 by omega), c0, h127, h129 k (by omega), pk_mul, pk_div (hmul k) (show 0 < sm 3 le by omega) (show sm 3 le < 2 ^ 31 by omega), hq, z_lt_s, nI_1, hs1]
      rw [pk_sub (by omega), Nat.sub_sub]
      by_cases q : c ≤ k
      · rw [if_pos (nI_le q (by omega)), Int32.add_zero]
        rw [show min (k + 1) c = min k c by omega] at y1
        exact y1
      · rw [if_neg (nI_ge (by omega) (by omega)), nI_add]
        rw [show min (k + 1) c = k + 1 by omega, sm] at y1
        rw [show min k c = k by omega]
        exact y1
  have := key 3 0 z_N (by omega) (by omega)
  rw [Nat.zero_min] at this
  exact this
theorem s_22 : zs_22 Inv0 := by
  rintro μ ⟨A, hw, hC, hM⟩ x d w k y
  by_cases h1 : p_in x 0 3
  case neg => exact p_look hw hC hM (r := -1001) (by unfold f_X4_back; rw [p_isLand4, z_b2_s, p_if0, if_neg h1]) (fun ν hν => by unfold f_X5_back; rw [p_isLand5, z_b2_s, p_if0, if_neg h1])
  by_cases h2 : p_in k 0 2
  case neg => exact p_look hw hC hM (r := -1001) (by unfold f_X4_back; rw [p_isLand4, z_b2_s, p_if0, if_pos h1, p_isCargo4, z_b2_s, p_if0, if_neg h2]) (fun ν hν => by unfold f_X5_back; rw [p_isLand5, z_b2_s, p_if0, if_pos h1, p_isCargo5, z_b2_s, p_if0, if_neg h2])
  by_cases h3 : p_in d 0 999
  case neg => exact p_look hw hC hM (r := -1002) (by unfold f_X4_back; rw [p_isLand4, z_b2_s, p_if0, if_pos h1, p_isCargo4, z_b2_s, p_if0, if_pos h2, p_isDay4, z_b2_s, p_if0, if_neg h3]) (fun ν hν => by unfold f_X5_back; rw [p_isLand5, z_b2_s, p_if0, if_pos h1, p_isCargo5, z_b2_s, p_if0, if_pos h2, p_isGood5, z_b2_s, p_if0, if_neg (fun h => h3 h.1)])
  by_cases h4 : p_in w 0 1
  case neg => exact p_look hw hC hM (r := -1002) (by unfold f_X4_back; rw [p_isLand4, z_b2_s, p_if0, if_pos h1, p_isCargo4, z_b2_s, p_if0, if_pos h2, p_isDay4, z_b2_s, p_if0, if_pos h3, p_isWay4, z_b2_s, p_if0, if_neg h4]) (fun ν hν => by unfold f_X5_back; rw [p_isLand5, z_b2_s, p_if0, if_pos h1, p_isCargo5, z_b2_s, p_if0, if_pos h2, p_isGood5, z_b2_s, p_if0, if_neg (fun h => h4 h.2)])
  by_cases h5 : p_in y 0 1
  case neg => exact p_look hw hC hM (r := -1002) (by unfold f_X4_back; rw [p_isLand4, z_b2_s, p_if0, if_pos h1, p_isCargo4, z_b2_s, p_if0, if_pos h2, p_isDay4, z_b2_s, p_if0, if_pos h3, p_isWay4, z_b2_s, p_if0, if_pos h4, p_rB 0 1 (by decide) (by decide), if_neg h5]) (fun ν hν => by unfold f_X5_back; rw [p_isLand5, z_b2_s, p_if0, if_pos h1, p_isCargo5, z_b2_s, p_if0, if_pos h2, p_isGood5, z_b2_s, p_if0, if_pos ⟨h3, h4⟩, p_in5k 0 1 (by decide) (by decide), z_b2_s, p_if0, if_neg h5])
  obtain ⟨n, rfl, hn, hn'⟩ := p_nat h1
  have hn4 : n < 4 := by omega
  have wl := hw.2.2.2.2 n hn4
  obtain ⟨k, rfl, hk, hk'⟩ := p_nat h2
  have hk3 : k < 3 := by omega
  obtain ⟨w, rfl, hw2, hw2'⟩ := p_nat h4
  have hway : w < 2 := by omega
  obtain ⟨o1, L, ln, μ', e1, e2, c2, u2, i2⟩ := k_run hw hC hn4 h3 hway (Or.inl rfl) hw.1 hC.1
  obtain ⟨μ2, e3, u3, g1, g2⟩ := p_back4 (w_of hw.1 wl d) c2
  have ut : z_un scC μ μ2 := (u2.mono xR_sc).tr (u3.mono (by decide))
  have i3 : InvC A μ2 := i2.scr (u3.mono (by decide)) (by rw [u3.1 46 (by decide)]; exact i2.2.2.2.2.2.2.2.2.2.2)
  refine p_step hC hM hw (r := if y = 0 then nI ((y_le (y_p (y_of (A.2.2.2.2.2 n) A.1 d)) (q_o (y_of (A.2.2.2.2.2 n) A.1 d) w) 5) k) else nI (sh (q_lf (y_of (A.2.2.2.2.2 n) A.1 d) w 0) 3 (y_le (y_p (y_of (A.2.2.2.2.2 n) A.1 d)) (q_o (y_of (A.2.2.2.2.2 n) A.1 d) w) 5) k)) ⟨μ2, ?_, i3, z_hi_un ut⟩ (fun ν hν => ?_)
  · have hz : z_in (nI k) 3 := p_zn hk3 (by decide)
    unfold f_X4_back
    rw [p_isLand4, z_b2_s, p_if0, if_pos h1, p_isCargo4, z_b2_s, p_if0, if_pos h2, p_isDay4, z_b2_s, p_if0, if_pos h3, p_isWay4, z_b2_s, p_if0, if_pos h4, p_rB 0 1 (by decide) (by decide), if_pos h5]
    rw [p_g hn4 (by decide), nI_clamp hn', e1, Option.bind_some, e2, z_b1_s, e3, z_b1_s, if_pos ⟨fun _ => hz, fun _ => hz⟩, nI_clamp hk', g1 k hk3, g2 k hk3]
  · obtain ⟨ν', e4, u4, m4⟩ := k_out hw.1 wl hn4 (hν.ctx hw hn4) d hway
    rw [y_og_0] at m4
    refine ⟨ν', ?_, hν.scr (u4.mono xO_sc), z_lo_un (u4.mono xO_sc)⟩
    have hbd := fun k => y_le_bd (w_of hw.1 wl d) (q_isO (y_of (A.2.2.2.2.2 n) A.1 d) w) k 5 (Nat.le_refl _)
    have hr := q_lf_le (w_of hw.1 wl d) w (f := 0) (by decide)
    have hsum : sm 3 (y_le (y_p (y_of (A.2.2.2.2.2 n) A.1 d)) (q_o (y_of (A.2.2.2.2.2 n) A.1 d) w) 5) ≤ 3 * 9999 := sm_bd (fun k _ => hbd k)
    have c0 : (0 : Int32).toNatClampNeg = 0 := by decide
    have c1 : (1 : Int32).toNatClampNeg = 1 := by decide
    have c2 : (2 : Int32).toNatClampNeg = 2 := by decide
    have es : nI ((y_le (y_p (y_of (A.2.2.2.2.2 n) A.1 d)) (q_o (y_of (A.2.2.2.2.2 n) A.1 d) w) 5) 0) + nI ((y_le (y_p (y_of (A.2.2.2.2.2 n) A.1 d)) (q_o (y_of (A.2.2.2.2.2 n) A.1 d) w) 5) 1) + nI ((y_le (y_p (y_of (A.2.2.2.2.2 n) A.1 d)) (q_o (y_of (A.2.2.2.2.2 n) A.1 d) w) 5) 2) = nI (sm 3 (y_le (y_p (y_of (A.2.2.2.2.2 n) A.1 d)) (q_o (y_of (A.2.2.2.2.2 n) A.1 d) w) 5)) := by
      rw [nI_add, nI_add, sm, sm, sm, sm, Nat.zero_add]
    unfold f_X5_back
    rw [p_isLand5, z_b2_s, p_if0, if_pos h1, p_isCargo5, z_b2_s, p_if0, if_pos h2, p_isGood5, z_b2_s, p_if0, if_pos ⟨h3, h4⟩, p_in5k 0 1 (by decide) (by decide), z_b2_s, p_if0, if_pos h5]
    rw [e4, z_b1_s]
    simp only [if_pos (show z_in (0 : Int32) 3 by decide), if_pos (show z_in (1 : Int32) 3 by decide), if_pos (show z_in (2 : Int32) 3 by decide), if_pos (show z_in (0 : Int32) 5 by decide), if_pos (p_zn (n := k) (N := 3) hk3 (by decide)), c0, c1, c2, nI_clamp hk', m4.2.2.2 0 (by decide), m4.2.2.2 1 (by decide), m4.2.2.2 2 (by decide), m4.2.2.2 k hk3, m4.2.1 0 (by decide), es, z_lt_s]
    by_cases q : y = 0
    · rw [if_pos q, if_pos q]
    · rw [if_neg q, if_neg q]
      by_cases q2 : q_lf (y_of (A.2.2.2.2.2 n) A.1 d) w 0 < sm 3 (y_le (y_p (y_of (A.2.2.2.2.2 n) A.1 d)) (q_o (y_of (A.2.2.2.2.2 n) A.1 d) w) 5)
      · rw [if_pos (nI_lt q2 (by omega))]
        exact p_back5 hk3 hr hbd (m4.2.1 0 (by decide)) m4.2.2.2 q2
      · rw [if_neg (nI_nlt (by omega) (by omega))]
        unfold sh
        rw [if_pos (by omega)]
