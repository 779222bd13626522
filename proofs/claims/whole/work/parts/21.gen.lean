/-! functions and contracts, written by wip/whole/dec.py -/
def g_X5_findStep_118  (k_119 : Int32 → Int32 → Int32 → Int32 → Int32 → Int32 → Int32 → Int32 → z_M → Option (Int32 × z_M)) (x1 : Int32) (x2 : Int32) (x3 : Int32) (x4 : Int32) (x5 : Int32) (x6 : Int32) (xs0 : Int32) (μ : z_M) : Option (Int32 × z_M) :=
  (k_119 (x1) (x2) (x3) (x4) (x5) (x6) ((0 : Int32)) (xs0) μ)
def g_X5_findStep_119  (k_70 : Int32 → Int32 → Int32 → Int32 → Int32 → Int32 → z_M → Option (Int32 × z_M)) (x1 : Int32) (x2 : Int32) (x3 : Int32) (x4 : Int32) (x5 : Int32) (x6 : Int32) (xs0 : Int32) (xs1 : Int32) (μ : z_M) : Option (Int32 × z_M) :=
  (if z_in xs1 15 then (z_st (z_si μ 130 xs1.toNatClampNeg (xs0 &&& 1)) fun μ11 => (if z_in x6 15 then (if (μ11.1 130 x6.toNatClampNeg) = 0 then (z_lt (x5 + (0 : Int32)) fun x_14 => (k_70 (x1) (x2) (x3) (x4) (x_14) ((x6 + (1 : Int32))) μ11)) else (z_b2 (f_X5_wants (x6) μ11) fun r16 μ17 => (z_lt (x5 + r16) fun x_23 => (k_70 (x1) (x2) (x3) (x4) (x_23) ((x6 + (1 : Int32))) μ17)))) else none)) else none)
def g_X5_findStep_70   : Nat → Int32 → Int32 → Int32 → Int32 → Int32 → Int32 → z_M → Option (Int32 × z_M)
  | 0, _, _, _, _, _, _, _ => none
  | n + 1, x1, x2, x3, x4, x5, x6, μ => (if (μ.1 98 27) ≤ x6 then (some (x5, μ)) else (if x4 < 0 then (g_X5_findStep_118  (fun (y3 : Int32) (y4 : Int32) (y5 : Int32) (y6 : Int32) (y7 : Int32) (y8 : Int32) (y9 : Int32) (y10 : Int32) (μ1 : z_M) => (g_X5_findStep_119  (fun (y27 : Int32) (y28 : Int32) (y29 : Int32) (y30 : Int32) (y31 : Int32) (y32 : Int32) (μ25 : z_M) => (g_X5_findStep_70   n (y27) (y28) (y29) (y30) (y31) (y32) μ25)) (y3) (y4) (y5) (y6) (y7) (y8) (y9) (y10) μ1)) (x1) (x2) (x3) (x4) (x5) (x6) (x6) μ) else (z_b2 (f_X5_isWanting (x1) (x2) (x3) (x6) μ) fun r33 μ34 => (if r33 = 0 then (g_X5_findStep_118  (fun (y42 : Int32) (y43 : Int32) (y44 : Int32) (y45 : Int32) (y46 : Int32) (y47 : Int32) (y48 : Int32) (y49 : Int32) (μ40 : z_M) => (g_X5_findStep_119  (fun (y52 : Int32) (y53 : Int32) (y54 : Int32) (y55 : Int32) (y56 : Int32) (y57 : Int32) (μ50 : z_M) => (g_X5_findStep_70   n (y52) (y53) (y54) (y55) (y56) (y57) μ50)) (y42) (y43) (y44) (y45) (y46) (y47) (y48) (y49) μ40)) (x1) (x2) (x3) (x4) (x5) (x6) (x6) μ34) else (z_b2 (f_X5_order2 (x1) (x6) (x4) μ34) fun r58 μ59 => (if r58 = 0 then (g_X5_findStep_119  (fun (y85 : Int32) (y86 : Int32) (y87 : Int32) (y88 : Int32) (y89 : Int32) (y90 : Int32) (μ83 : z_M) => (g_X5_findStep_70   n (y85) (y86) (y87) (y88) (y89) (y90) μ83)) (x1) (x2) (x3) (x4) (x5) (x6) ((1 : Int32)) (x6) μ59) else (g_X5_findStep_118  (fun (y67 : Int32) (y68 : Int32) (y69 : Int32) (y70 : Int32) (y71 : Int32) (y72 : Int32) (y73 : Int32) (y74 : Int32) (μ65 : z_M) => (g_X5_findStep_119  (fun (y77 : Int32) (y78 : Int32) (y79 : Int32) (y80 : Int32) (y81 : Int32) (y82 : Int32) (μ75 : z_M) => (g_X5_findStep_70   n (y77) (y78) (y79) (y80) (y81) (y82) μ75)) (y67) (y68) (y69) (y70) (y71) (y72) (y73) (y74) μ65)) (x1) (x2) (x3) (x4) (x5) (x6) (x6) μ59)))))))
def g_X5_findStep_49  (k_6 : Int32 → Int32 → Int32 → Int32 → Int32 → z_M → Option (Int32 × z_M)) (x1 : Int32) (x2 : Int32) (x3 : Int32) (x5 : Int32) (μ : z_M) : Option (Int32 × z_M) :=
  (k_6 (x1) (x2) (x3) (x5) ((x5 + (1 : Int32))) μ)
def g_X5_findStep_6   : Nat → Int32 → Int32 → Int32 → Int32 → Int32 → z_M → Option (Int32 × z_M)
  | 0, _, _, _, _, _, _ => none
  | n + 1, x1, x2, x3, x4, x5, μ => (if (μ.1 98 27) ≤ x5 then (g_X5_findStep_70   z_N (x1) (x2) (x3) (x4) ((0 : Int32)) ((0 : Int32)) μ) else (z_b2 (f_X5_isWanting (x1) (x2) (x3) (x5) μ) fun r91 μ92 => (if r91 = 0 then (g_X5_findStep_6   n (x1) (x2) (x3) (x4) ((x5 + (1 : Int32))) μ92) else (if x4 < 0 then (g_X5_findStep_49  (fun (y100 : Int32) (y101 : Int32) (y102 : Int32) (y103 : Int32) (y104 : Int32) (μ98 : z_M) => (g_X5_findStep_6   n (y100) (y101) (y102) (y103) (y104) μ98)) (x1) (x2) (x3) (x5) μ92) else (z_b2 (f_X5_order2 (x1) (x5) (x4) μ92) fun r105 μ106 => (if r105 = (1 : Int32) then (g_X5_findStep_49  (fun (y114 : Int32) (y115 : Int32) (y116 : Int32) (y117 : Int32) (y118 : Int32) (μ112 : z_M) => (g_X5_findStep_6   n (y114) (y115) (y116) (y117) (y118) μ112)) (x1) (x2) (x3) (x5) μ106) else (g_X5_findStep_6   n (x1) (x2) (x3) (x4) ((x5 + (1 : Int32))) μ106)))))))
def f_X5_findStep (x1 : Int32) (x2 : Int32) (x3 : Int32) (μ : z_M) : Option (Int32 × z_M) :=
  (g_X5_findStep_6   z_N (x1) (x2) (x3) ((-1 : Int32)) ((0 : Int32)) μ)
set_option maxHeartbeats 4000000 in
set_option maxRecDepth 100000 in
theorem u_X5_findStep_118 {E : z_E} {ρ : Nat → Nat → Option Nat} {r : Int32} {μr : z_M} (F : z_F E RX5 cX5_findStep 7 3) (Rt : z_R E (some .int) (fun v μ1 => μ1.2.2 = ρ ∧ ∃ r1, v = some (.int r1) ∧ r = r1 ∧ μr = μ1))  (hk : z_ok (z_sh E.1) ρ) {k_119 : Int32 → Int32 → Int32 → Int32 → Int32 → Int32 → Int32 → Int32 → z_M → Option (Int32 × z_M)} (hc_119 : ∀ (y1 : Int32) (y2 : Int32) (y3 : Int32) (y4 : Int32) (y5 : Int32) (y6 : Int32) (ys0 : Int32) (ys1 : Int32) (μ1 : z_M), μ1.2.2 = ρ → k_119 y1 y2 y3 y4 y5 y6 ys0 ys1 μ1 = some (r, μr) → z_J E 7 119 [some (.ref 98), some (.int y1), some (.int y2), some (.int y3), some (.int y4), some (.int y5), some (.int y6)] [.int ys0, .int ys1, .ref 130] μ1) : ∀ (x1 : Int32) (x2 : Int32) (x3 : Int32) (x4 : Int32) (x5 : Int32) (x6 : Int32) (xs0 : Int32) (μ : z_M), μ.2.2 = ρ → g_X5_findStep_118  k_119 x1 x2 x3 x4 x5 x6 xs0 μ = some (r, μr) → z_J E 7 118 [some (.ref 98), some (.int x1), some (.int x2), some (.int x3), some (.int x4), some (.int x5), some (.int x6)] [.int xs0, .ref 130] μ := by
  intro x1 x2 x3 x4 x5 x6 xs0 μ hρ h
  unfold g_X5_findStep_118 at h
  refine j_iconst F (pc := 118) (n := 0) (v := 0) (by decide +kernel) (by decide +kernel) ?_
  exact hc_119 _ _ _ _ _ _ _ _ _ hρ h
set_option maxHeartbeats 4000000 in
set_option maxRecDepth 100000 in
theorem u_X5_findStep_119 {E : z_E} {ρ : Nat → Nat → Option Nat} {r : Int32} {μr : z_M} (F : z_F E RX5 cX5_findStep 7 3) (Rt : z_R E (some .int) (fun v μ1 => μ1.2.2 = ρ ∧ ∃ r1, v = some (.int r1) ∧ r = r1 ∧ μr = μ1))  (hk : z_ok (z_sh E.1) ρ) {k_70 : Int32 → Int32 → Int32 → Int32 → Int32 → Int32 → z_M → Option (Int32 × z_M)} (hc_70 : ∀ (y1 : Int32) (y2 : Int32) (y3 : Int32) (y4 : Int32) (y5 : Int32) (y6 : Int32) (μ1 : z_M), μ1.2.2 = ρ → k_70 y1 y2 y3 y4 y5 y6 μ1 = some (r, μr) → z_J E 7 70 [some (.ref 98), some (.int y1), some (.int y2), some (.int y3), some (.int y4), some (.int y5), some (.int y6)] [] μ1) : ∀ (x1 : Int32) (x2 : Int32) (x3 : Int32) (x4 : Int32) (x5 : Int32) (x6 : Int32) (xs0 : Int32) (xs1 : Int32) (μ : z_M), μ.2.2 = ρ → g_X5_findStep_119  k_70 x1 x2 x3 x4 x5 x6 xs0 xs1 μ = some (r, μr) → z_J E 7 119 [some (.ref 98), some (.int x1), some (.int x2), some (.int x3), some (.int x4), some (.int x5), some (.int x6)] [.int xs0, .int xs1, .ref 130] μ := by
  intro x1 x2 x3 x4 x5 x6 xs0 xs1 μ hρ h
  unfold g_X5_findStep_119 at h
  obtain ⟨hg, h⟩ := z_ifs h
  refine j_zast F (pc := 119) (hk.s c_130) hg (by decide +kernel) ?_
  obtain ⟨μ11, e13, h⟩ := z_st_some h
  rw [← e13]
  have hρ12 : μ11.2.2 = ρ := by rw [e13]; exact hρ
  refine j_iload F (pc := 120) (i := 5) (by decide +kernel) rfl ?_
  refine j_aload_n F (pc := 122) (q := 0) (by decide +kernel) rfl ?_
  refine j_getR F (pc := 123) (hk.r hρ12 r_98_42) fl_X5_108 (hk.s c_98) rfl (by decide +kernel) ?_
  refine j_iload F (pc := 126) (i := 6) (by decide +kernel) rfl ?_
  obtain ⟨hg, h⟩ := z_ifs h
  refine j_zald F (pc := 128) (hk.s c_130) hg (by decide +kernel) ?_
  refine j_if_eq F (pc := 129) (off := 12) (tgt := 141) (by decide +kernel) (by decide) (fun c => ?_) (fun c => ?_)
  · rw [if_pos c] at h
    refine j_iconst F (pc := 141) (n := 0) (v := 0) (by decide +kernel) (by decide +kernel) ?_
    refine j_iadd F (pc := 142) (by decide +kernel) ?_
    obtain ⟨x_14, e15, h⟩ := z_lt_some h
    rw [← e15]
    refine j_istore F (pc := 143) (i := 5) (L' := [some (.ref 98), some (.int x1), some (.int x2), some (.int x3), some (.int x4), some (.int x_14), some (.int x6)]) (by decide +kernel) (by decide) rfl rfl ?_
    refine j_iinc F (pc := 145) (i := 6) (n := 1) (v := 1) (L' := [some (.ref 98), some (.int x1), some (.int x2), some (.int x3), some (.int x4), some (.int x_14), some (.int (x6 + (1 : Int32)))]) (by decide +kernel) rfl (by decide +kernel) (by decide) rfl rfl ?_
    refine j_goto F (pc := 148) (off := -78) (tgt := 70) (by decide +kernel) (by decide) ?_
    exact hc_70 _ _ _ _ _ _ _ hρ12 h
  · rw [if_neg c] at h
    refine j_aload_n F (pc := 132) (q := 0) (by decide +kernel) rfl ?_
    refine j_iload F (pc := 133) (i := 6) (by decide +kernel) rfl ?_
    obtain ⟨r16, μ17, hc19, h⟩ := z_b2_some h
    refine j_callVi F (pc := 135) (idx := 316) (As := [.int x6]) (st := [.int x5]) (t_X5_wants (G := E.1) hρ12 hk hc19) q_X5_wants v_X5_wants m_1272 (hk.s c_98) rfl rfl (by decide) (Nat.le_of_ble_eq_true rfl) rfl (by decide +kernel) (fun s22 ν20 hq21 hp => ?_)
    obtain ⟨rfl, rfl⟩ := hp
    have hρ18 : μ17.2.2 = ρ := hq21.trans hρ12
    refine j_goto F (pc := 138) (off := 4) (tgt := 142) (by decide +kernel) (by decide) ?_
    refine j_iadd F (pc := 142) (by decide +kernel) ?_
    obtain ⟨x_23, e24, h⟩ := z_lt_some h
    rw [← e24]
    refine j_istore F (pc := 143) (i := 5) (L' := [some (.ref 98), some (.int x1), some (.int x2), some (.int x3), some (.int x4), some (.int x_23), some (.int x6)]) (by decide +kernel) (by decide) rfl rfl ?_
    refine j_iinc F (pc := 145) (i := 6) (n := 1) (v := 1) (L' := [some (.ref 98), some (.int x1), some (.int x2), some (.int x3), some (.int x4), some (.int x_23), some (.int (x6 + (1 : Int32)))]) (by decide +kernel) rfl (by decide +kernel) (by decide) rfl rfl ?_
    refine j_goto F (pc := 148) (off := -78) (tgt := 70) (by decide +kernel) (by decide) ?_
    exact hc_70 _ _ _ _ _ _ _ hρ18 h
set_option maxHeartbeats 4000000 in
set_option maxRecDepth 100000 in
theorem u_X5_findStep_70 {E : z_E} {ρ : Nat → Nat → Option Nat} {r : Int32} {μr : z_M} (F : z_F E RX5 cX5_findStep 7 3) (Rt : z_R E (some .int) (fun v μ1 => μ1.2.2 = ρ ∧ ∃ r1, v = some (.int r1) ∧ r = r1 ∧ μr = μ1))  (hk : z_ok (z_sh E.1) ρ) : ∀ (n : Nat) (x1 : Int32) (x2 : Int32) (x3 : Int32) (x4 : Int32) (x5 : Int32) (x6 : Int32) (μ : z_M), μ.2.2 = ρ → g_X5_findStep_70   n x1 x2 x3 x4 x5 x6 μ = some (r, μr) → z_J E 7 70 [some (.ref 98), some (.int x1), some (.int x2), some (.int x3), some (.int x4), some (.int x5), some (.int x6)] [] μ := by
  intro n
  induction n with
  | zero =>
    intro x1 x2 x3 x4 x5 x6 μ hρ h
    rw [g_X5_findStep_70] at h
    cases h
  | succ n ih =>
    intro x1 x2 x3 x4 x5 x6 μ hρ h
    rw [g_X5_findStep_70] at h
    refine j_iload F (pc := 70) (i := 6) (by decide +kernel) rfl ?_
    refine j_aload_n F (pc := 72) (q := 0) (by decide +kernel) rfl ?_
    refine j_getI F (pc := 73) fl_X5_268 (hk.s c_98) rfl (by decide +kernel) ?_
    refine j_icmp_ge F (pc := 76) (off := 75) (tgt := 151) (by decide +kernel) (by decide) (fun c => ?_) (fun c => ?_)
    · rw [if_pos c] at h
      refine j_iload F (pc := 151) (i := 5) (by decide +kernel) rfl ?_
      exact j_iret (st := []) F Rt rfl (by decide +kernel) ⟨hρ, _, rfl, (congrArg Prod.fst (Option.some.inj h)).symm, (congrArg Prod.snd (Option.some.inj h)).symm⟩
    · rw [if_neg c] at h
      refine j_aload_n F (pc := 79) (q := 0) (by decide +kernel) rfl ?_
      refine j_getR F (pc := 80) (hk.r hρ r_98_42) fl_X5_108 (hk.s c_98) rfl (by decide +kernel) ?_
      refine j_iload F (pc := 83) (i := 6) (by decide +kernel) rfl ?_
      refine j_iload F (pc := 85) (i := 4) (by decide +kernel) rfl ?_
      refine j_if_lt F (pc := 87) (off := 31) (tgt := 118) (by decide +kernel) (by decide) (fun c => ?_) (fun c => ?_)
      · rw [if_pos c] at h
        refine u_X5_findStep_118 F Rt hk (fun y3 y4 y5 y6 y7 y8 y9 y10 μ1 hρ2 h => ?_) _ _ _ _ _ _ _ _ hρ h
        refine u_X5_findStep_119 F Rt hk (fun y27 y28 y29 y30 y31 y32 μ25 hρ26 h => ?_) _ _ _ _ _ _ _ _ _ hρ2 h
        exact ih _ _ _ _ _ _ _ hρ26 h
      · rw [if_neg c] at h
        refine j_aload_n F (pc := 90) (q := 0) (by decide +kernel) rfl ?_
        refine j_iload_n F (pc := 91) (q := 1) (by decide +kernel) rfl ?_
        refine j_iload_n F (pc := 92) (q := 2) (by decide +kernel) rfl ?_
        refine j_iload_n F (pc := 93) (q := 3) (by decide +kernel) rfl ?_
        refine j_iload F (pc := 94) (i := 6) (by decide +kernel) rfl ?_
        obtain ⟨r33, μ34, hc36, h⟩ := z_b2_some h
        refine j_callVi F (pc := 96) (idx := 319) (As := [.int x1, .int x2, .int x3, .int x6]) (st := [.int x6, .ref 130]) (t_X5_isWanting (G := E.1) hρ hk hc36) q_X5_isWanting v_X5_isWanting m_1268 (hk.s c_98) rfl rfl (by decide) (Nat.le_of_ble_eq_true rfl) rfl (by decide +kernel) (fun s39 ν37 hq38 hp => ?_)
        obtain ⟨rfl, rfl⟩ := hp
        have hρ35 : μ34.2.2 = ρ := hq38.trans hρ
        refine j_if_eq F (pc := 99) (off := 19) (tgt := 118) (by decide +kernel) (by decide) (fun c => ?_) (fun c => ?_)
        · rw [if_pos c] at h
          refine u_X5_findStep_118 F Rt hk (fun y42 y43 y44 y45 y46 y47 y48 y49 μ40 hρ41 h => ?_) _ _ _ _ _ _ _ _ hρ35 h
          refine u_X5_findStep_119 F Rt hk (fun y52 y53 y54 y55 y56 y57 μ50 hρ51 h => ?_) _ _ _ _ _ _ _ _ _ hρ41 h
          exact ih _ _ _ _ _ _ _ hρ51 h
        · rw [if_neg c] at h
          refine j_aload_n F (pc := 102) (q := 0) (by decide +kernel) rfl ?_
          refine j_iload_n F (pc := 103) (q := 1) (by decide +kernel) rfl ?_
          refine j_iload F (pc := 104) (i := 6) (by decide +kernel) rfl ?_
          refine j_iload F (pc := 106) (i := 4) (by decide +kernel) rfl ?_
          obtain ⟨r58, μ59, hc61, h⟩ := z_b2_some h
          refine j_callVi F (pc := 108) (idx := 306) (As := [.int x1, .int x6, .int x4]) (st := [.int x6, .ref 130]) (t_X5_order2 (G := E.1) hρ35 hk hc61) q_X5_order2 v_X5_order2 m_1233 (hk.s c_98) rfl rfl (by decide) (Nat.le_of_ble_eq_true rfl) rfl (by decide +kernel) (fun s64 ν62 hq63 hp => ?_)
          obtain ⟨rfl, rfl⟩ := hp
          have hρ60 : μ59.2.2 = ρ := hq63.trans hρ35
          refine j_if_ne F (pc := 111) (off := 7) (tgt := 118) (by decide +kernel) (by decide) (fun c => ?_) (fun c => ?_)
          · rw [if_neg c] at h
            refine u_X5_findStep_118 F Rt hk (fun y67 y68 y69 y70 y71 y72 y73 y74 μ65 hρ66 h => ?_) _ _ _ _ _ _ _ _ hρ60 h
            refine u_X5_findStep_119 F Rt hk (fun y77 y78 y79 y80 y81 y82 μ75 hρ76 h => ?_) _ _ _ _ _ _ _ _ _ hρ66 h
            exact ih _ _ _ _ _ _ _ hρ76 h
          · rw [if_pos c] at h
            refine j_iconst F (pc := 114) (n := 1) (v := 1) (by decide +kernel) (by decide +kernel) ?_
            refine j_goto F (pc := 115) (off := 4) (tgt := 119) (by decide +kernel) (by decide) ?_
            refine u_X5_findStep_119 F Rt hk (fun y85 y86 y87 y88 y89 y90 μ83 hρ84 h => ?_) _ _ _ _ _ _ _ _ _ hρ60 h
            exact ih _ _ _ _ _ _ _ hρ84 h
set_option maxHeartbeats 4000000 in
set_option maxRecDepth 100000 in
theorem u_X5_findStep_49 {E : z_E} {ρ : Nat → Nat → Option Nat} {r : Int32} {μr : z_M} (F : z_F E RX5 cX5_findStep 7 3) (Rt : z_R E (some .int) (fun v μ1 => μ1.2.2 = ρ ∧ ∃ r1, v = some (.int r1) ∧ r = r1 ∧ μr = μ1))  (hk : z_ok (z_sh E.1) ρ) {k_6 : Int32 → Int32 → Int32 → Int32 → Int32 → z_M → Option (Int32 × z_M)} (hc_6 : ∀ (y1 : Int32) (y2 : Int32) (y3 : Int32) (y4 : Int32) (y5 : Int32) (μ1 : z_M), μ1.2.2 = ρ → k_6 y1 y2 y3 y4 y5 μ1 = some (r, μr) → z_J E 7 6 [some (.ref 98), some (.int y1), some (.int y2), some (.int y3), some (.int y4), some (.int y5), none] [] μ1) : ∀ (x1 : Int32) (x2 : Int32) (x3 : Int32) (x5 : Int32) (μ : z_M), μ.2.2 = ρ → g_X5_findStep_49  k_6 x1 x2 x3 x5 μ = some (r, μr) → z_J E 7 49 [some (.ref 98), some (.int x1), some (.int x2), some (.int x3), none, some (.int x5), none] [] μ := by
  intro x1 x2 x3 x5 μ hρ h
  unfold g_X5_findStep_49 at h
  refine j_iload F (pc := 49) (i := 5) (by decide +kernel) rfl ?_
  refine j_goto F (pc := 51) (off := 5) (tgt := 56) (by decide +kernel) (by decide) ?_
  refine j_istore F (pc := 56) (i := 4) (L' := [some (.ref 98), some (.int x1), some (.int x2), some (.int x3), some (.int x5), some (.int x5), none]) (by decide +kernel) (by decide) rfl rfl ?_
  refine j_iinc F (pc := 58) (i := 5) (n := 1) (v := 1) (L' := [some (.ref 98), some (.int x1), some (.int x2), some (.int x3), some (.int x5), some (.int (x5 + (1 : Int32))), none]) (by decide +kernel) rfl (by decide +kernel) (by decide) rfl rfl ?_
  refine j_goto F (pc := 61) (off := -55) (tgt := 6) (by decide +kernel) (by decide) ?_
  exact hc_6 _ _ _ _ _ _ hρ h
set_option maxHeartbeats 4000000 in
set_option maxRecDepth 100000 in
theorem u_X5_findStep_6 {E : z_E} {ρ : Nat → Nat → Option Nat} {r : Int32} {μr : z_M} (F : z_F E RX5 cX5_findStep 7 3) (Rt : z_R E (some .int) (fun v μ1 => μ1.2.2 = ρ ∧ ∃ r1, v = some (.int r1) ∧ r = r1 ∧ μr = μ1))  (hk : z_ok (z_sh E.1) ρ) : ∀ (n : Nat) (x1 : Int32) (x2 : Int32) (x3 : Int32) (x4 : Int32) (x5 : Int32) (μ : z_M), μ.2.2 = ρ → g_X5_findStep_6   n x1 x2 x3 x4 x5 μ = some (r, μr) → z_J E 7 6 [some (.ref 98), some (.int x1), some (.int x2), some (.int x3), some (.int x4), some (.int x5), none] [] μ := by
  intro n
  induction n with
  | zero =>
    intro x1 x2 x3 x4 x5 μ hρ h
    rw [g_X5_findStep_6] at h
    cases h
  | succ n ih =>
    intro x1 x2 x3 x4 x5 μ hρ h
    rw [g_X5_findStep_6] at h
    refine j_iload F (pc := 6) (i := 5) (by decide +kernel) rfl ?_
    refine j_aload_n F (pc := 8) (q := 0) (by decide +kernel) rfl ?_
    refine j_getI F (pc := 9) fl_X5_268 (hk.s c_98) rfl (by decide +kernel) ?_
    refine j_icmp_ge F (pc := 12) (off := 52) (tgt := 64) (by decide +kernel) (by decide) (fun c => ?_) (fun c => ?_)
    · rw [if_pos c] at h
      refine j_iconst F (pc := 64) (n := 0) (v := 0) (by decide +kernel) (by decide +kernel) ?_
      refine j_istore F (pc := 65) (i := 5) (L' := [some (.ref 98), some (.int x1), some (.int x2), some (.int x3), some (.int x4), some (.int (0 : Int32)), none]) (by decide +kernel) (by decide) rfl rfl ?_
      refine j_iconst F (pc := 67) (n := 0) (v := 0) (by decide +kernel) (by decide +kernel) ?_
      refine j_istore F (pc := 68) (i := 6) (L' := [some (.ref 98), some (.int x1), some (.int x2), some (.int x3), some (.int x4), some (.int (0 : Int32)), some (.int (0 : Int32))]) (by decide +kernel) (by decide) rfl rfl ?_
      refine u_X5_findStep_70 F Rt hk  z_N _ _ _ _ _ _ _ hρ h
    · rw [if_neg c] at h
      refine j_aload_n F (pc := 15) (q := 0) (by decide +kernel) rfl ?_
      refine j_iload_n F (pc := 16) (q := 1) (by decide +kernel) rfl ?_
      refine j_iload_n F (pc := 17) (q := 2) (by decide +kernel) rfl ?_
      refine j_iload_n F (pc := 18) (q := 3) (by decide +kernel) rfl ?_
      refine j_iload F (pc := 19) (i := 5) (by decide +kernel) rfl ?_
      obtain ⟨r91, μ92, hc94, h⟩ := z_b2_some h
      refine j_callVi F (pc := 21) (idx := 319) (As := [.int x1, .int x2, .int x3, .int x5]) (st := []) (t_X5_isWanting (G := E.1) hρ hk hc94) q_X5_isWanting v_X5_isWanting m_1268 (hk.s c_98) rfl rfl (by decide) (Nat.le_of_ble_eq_true rfl) rfl (by decide +kernel) (fun s97 ν95 hq96 hp => ?_)
      obtain ⟨rfl, rfl⟩ := hp
      have hρ93 : μ92.2.2 = ρ := hq96.trans hρ
      refine j_istore F (pc := 24) (i := 6) (L' := [some (.ref 98), some (.int x1), some (.int x2), some (.int x3), some (.int x4), some (.int x5), some (.int r91)]) (by decide +kernel) (by decide) rfl rfl ?_
      refine j_iload F (pc := 26) (i := 6) (by decide +kernel) rfl ?_
      refine j_if_eq F (pc := 28) (off := 26) (tgt := 54) (by decide +kernel) (by decide) (fun c => ?_) (fun c => ?_)
      · rw [if_pos c] at h
        refine j_iload F (pc := 54) (i := 4) (by decide +kernel) rfl ?_
        refine j_istore F (pc := 56) (i := 4) (L' := [some (.ref 98), some (.int x1), some (.int x2), some (.int x3), some (.int x4), some (.int x5), some (.int r91)]) (by decide +kernel) (by decide) rfl rfl ?_
        refine j_iinc F (pc := 58) (i := 5) (n := 1) (v := 1) (L' := [some (.ref 98), some (.int x1), some (.int x2), some (.int x3), some (.int x4), some (.int (x5 + (1 : Int32))), some (.int r91)]) (by decide +kernel) rfl (by decide +kernel) (by decide) rfl rfl ?_
        refine j_goto F (pc := 61) (off := -55) (tgt := 6) (by decide +kernel) (by decide) ?_
        refine j_mk F [true, true, true, true, true, true, false] (L' := [some (.ref 98), some (.int x1), some (.int x2), some (.int x3), some (.int x4), some (.int (x5 + (1 : Int32))), none]) rfl ?_
        exact ih _ _ _ _ _ _ hρ93 h
      · rw [if_neg c] at h
        refine j_iload F (pc := 31) (i := 4) (by decide +kernel) rfl ?_
        refine j_if_lt F (pc := 33) (off := 16) (tgt := 49) (by decide +kernel) (by decide) (fun c => ?_) (fun c => ?_)
        · rw [if_pos c] at h
          refine j_mk F [true, true, true, true, false, true, false] (L' := [some (.ref 98), some (.int x1), some (.int x2), some (.int x3), none, some (.int x5), none]) rfl ?_
          refine u_X5_findStep_49 F Rt hk (fun y100 y101 y102 y103 y104 μ98 hρ99 h => ?_) _ _ _ _ _ hρ93 h
          exact ih _ _ _ _ _ _ hρ99 h
        · rw [if_neg c] at h
          refine j_aload_n F (pc := 36) (q := 0) (by decide +kernel) rfl ?_
          refine j_iload_n F (pc := 37) (q := 1) (by decide +kernel) rfl ?_
          refine j_iload F (pc := 38) (i := 5) (by decide +kernel) rfl ?_
          refine j_iload F (pc := 40) (i := 4) (by decide +kernel) rfl ?_
          obtain ⟨r105, μ106, hc108, h⟩ := z_b2_some h
          refine j_callVi F (pc := 42) (idx := 306) (As := [.int x1, .int x5, .int x4]) (st := []) (t_X5_order2 (G := E.1) hρ93 hk hc108) q_X5_order2 v_X5_order2 m_1233 (hk.s c_98) rfl rfl (by decide) (Nat.le_of_ble_eq_true rfl) rfl (by decide +kernel) (fun s111 ν109 hq110 hp => ?_)
          obtain ⟨rfl, rfl⟩ := hp
          have hρ107 : μ106.2.2 = ρ := hq110.trans hρ93
          refine j_iconst F (pc := 45) (n := 1) (v := 1) (by decide +kernel) (by decide +kernel) ?_
          refine j_icmp_ne F (pc := 46) (off := 8) (tgt := 54) (by decide +kernel) (by decide) (fun c => ?_) (fun c => ?_)
          · rw [if_neg c] at h
            refine j_iload F (pc := 54) (i := 4) (by decide +kernel) rfl ?_
            refine j_istore F (pc := 56) (i := 4) (L' := [some (.ref 98), some (.int x1), some (.int x2), some (.int x3), some (.int x4), some (.int x5), some (.int r91)]) (by decide +kernel) (by decide) rfl rfl ?_
            refine j_iinc F (pc := 58) (i := 5) (n := 1) (v := 1) (L' := [some (.ref 98), some (.int x1), some (.int x2), some (.int x3), some (.int x4), some (.int (x5 + (1 : Int32))), some (.int r91)]) (by decide +kernel) rfl (by decide +kernel) (by decide) rfl rfl ?_
            refine j_goto F (pc := 61) (off := -55) (tgt := 6) (by decide +kernel) (by decide) ?_
            refine j_mk F [true, true, true, true, true, true, false] (L' := [some (.ref 98), some (.int x1), some (.int x2), some (.int x3), some (.int x4), some (.int (x5 + (1 : Int32))), none]) rfl ?_
            exact ih _ _ _ _ _ _ hρ107 h
          · rw [if_pos c] at h
            refine j_mk F [true, true, true, true, false, true, false] (L' := [some (.ref 98), some (.int x1), some (.int x2), some (.int x3), none, some (.int x5), none]) rfl ?_
            refine u_X5_findStep_49 F Rt hk (fun y114 y115 y116 y117 y118 μ112 hρ113 h => ?_) _ _ _ _ _ hρ107 h
            exact ih _ _ _ _ _ _ hρ113 h
set_option maxHeartbeats 4000000 in
set_option maxRecDepth 100000 in
theorem t_X5_findStep {G : z_Gl} {ρ : Nat → Nat → Option Nat} {μ : z_M} {r : Int32} {μr : z_M} {x1 : Int32} {x2 : Int32} {x3 : Int32} (hρ : μ.2.2 = ρ) (hk : z_ok (z_sh G) ρ) (h : f_X5_findStep x1 x2 x3 μ = some (r, μr)) : z_Ci G yX5_findStep cX5_findStep 7 (some .int) 3 [.ref 98, .int x1, .int x2, .int x3] μ (fun r1 μ1 => r = r1 ∧ μr = μ1) := by
  unfold z_Ci
  refine z_intro (by decide +kernel) (Nat.le_of_ble_eq_true rfl) (fun E hE F Rt => ?_)
  subst hE
  have F : z_F E RX5 cX5_findStep 7 3 := F
  rw [hρ] at Rt
  unfold f_X5_findStep at h
  show z_J E 7 0 [some (.ref 98), some (.int x1), some (.int x2), some (.int x3), none, none, none] [] μ
  refine j_iconst F (pc := 0) (n := -1) (v := -1) (by decide +kernel) (by decide +kernel) ?_
  refine j_istore F (pc := 1) (i := 4) (L' := [some (.ref 98), some (.int x1), some (.int x2), some (.int x3), some (.int (-1 : Int32)), none, none]) (by decide +kernel) (by decide) rfl rfl ?_
  refine j_iconst F (pc := 3) (n := 0) (v := 0) (by decide +kernel) (by decide +kernel) ?_
  refine j_istore F (pc := 4) (i := 5) (L' := [some (.ref 98), some (.int x1), some (.int x2), some (.int x3), some (.int (-1 : Int32)), some (.int (0 : Int32)), none]) (by decide +kernel) (by decide) rfl rfl ?_
  refine u_X5_findStep_6 F Rt hk  z_N _ _ _ _ _ _ hρ h
/-- LastLentModel.pay -/
def f_X5_pay (x1 : Int32) (x2 : Int32) (x3 : Int32) (x4 : Int32) (μ : z_M) : Option z_M :=
  (if z_in x3 15 then (if z_in x3 15 then (z_st (z_si μ 126 x3.toNatClampNeg ((μ.1 126 x3.toNatClampNeg) + x4)) fun μ1 => (if z_in x2 5 then (if z_in x2 5 then (z_st (z_si μ1 127 x2.toNatClampNeg ((μ1.1 127 x2.toNatClampNeg) - x4)) fun μ4 => (if x2 ≤ (1 : Int32) then (some μ4) else (z_b2 (f_X5_isOn (x1) ((0 : Int32)) (x3) μ4) fun r7 μ8 => (if r7 = 0 then (some μ8) else (if z_in (x2 - (2 : Int32)) 3 then (if z_in (x2 - (2 : Int32)) 3 then (z_st (z_si μ8 129 (x2 - (2 : Int32)).toNatClampNeg ((μ8.1 129 (x2 - (2 : Int32)).toNatClampNeg) + x4)) fun μ14 => (some μ14)) else none) else none))))) else none) else none)) else none) else none)
set_option maxHeartbeats 4000000 in
set_option maxRecDepth 100000 in
theorem t_X5_pay {G : z_Gl} {ρ : Nat → Nat → Option Nat} {μ : z_M} {μr : z_M} {x1 : Int32} {x2 : Int32} {x3 : Int32} {x4 : Int32} (hρ : μ.2.2 = ρ) (hk : z_ok (z_sh G) ρ) (h : f_X5_pay x1 x2 x3 x4 μ = some μr) : z_Cv G yX5_pay cX5_pay 5 none 1 [.ref 98, .int x1, .int x2, .int x3, .int x4] μ (fun μ1 => μr = μ1) := by
  unfold z_Cv
  refine z_intro (by decide +kernel) (Nat.le_of_ble_eq_true rfl) (fun E hE F Rt => ?_)
  subst hE
  have F : z_F E RX5 cX5_pay 5 1 := F
  rw [hρ] at Rt
  unfold f_X5_pay at h
  show z_J E 5 0 [some (.ref 98), some (.int x1), some (.int x2), some (.int x3), some (.int x4)] [] μ
  refine j_aload_n F (pc := 0) (q := 0) (by decide +kernel) rfl ?_
  refine j_getR F (pc := 1) (hk.r hρ r_98_38) fl_X5_96 (hk.s c_98) rfl (by decide +kernel) ?_
  refine j_iload_n F (pc := 4) (q := 3) (by decide +kernel) rfl ?_
  refine j_dup2 F (pc := 5) (by decide +kernel) rfl rfl ?_
  obtain ⟨hg, h⟩ := z_ifs h
  refine j_iald F (pc := 6) (hk.s c_126) hg (by decide +kernel) ?_
  refine j_iload F (pc := 7) (i := 4) (by decide +kernel) rfl ?_
  refine j_iadd F (pc := 9) (by decide +kernel) ?_
  obtain ⟨hg, h⟩ := z_ifs h
  refine j_iast F (pc := 10) (hk.s c_126) hg (by decide +kernel) ?_
  obtain ⟨μ1, e3, h⟩ := z_st_some h
  rw [← e3]
  have hρ2 : μ1.2.2 = ρ := by rw [e3]; exact hρ
  refine j_aload_n F (pc := 11) (q := 0) (by decide +kernel) rfl ?_
  refine j_getR F (pc := 12) (hk.r hρ2 r_98_39) fl_X5_99 (hk.s c_98) rfl (by decide +kernel) ?_
  refine j_iload_n F (pc := 15) (q := 2) (by decide +kernel) rfl ?_
  refine j_dup2 F (pc := 16) (by decide +kernel) rfl rfl ?_
  obtain ⟨hg, h⟩ := z_ifs h
  refine j_iald F (pc := 17) (hk.s c_127) hg (by decide +kernel) ?_
  refine j_iload F (pc := 18) (i := 4) (by decide +kernel) rfl ?_
  refine j_isub F (pc := 20) (by decide +kernel) ?_
  obtain ⟨hg, h⟩ := z_ifs h
  refine j_iast F (pc := 21) (hk.s c_127) hg (by decide +kernel) ?_
  obtain ⟨μ4, e6, h⟩ := z_st_some h
  rw [← e6]
  have hρ5 : μ4.2.2 = ρ := by rw [e6]; exact hρ2
  refine j_iload_n F (pc := 22) (q := 2) (by decide +kernel) rfl ?_
  refine j_iconst F (pc := 23) (n := 1) (v := 1) (by decide +kernel) (by decide +kernel) ?_
  refine j_icmp_le F (pc := 24) (off := 26) (tgt := 50) (by decide +kernel) (by decide) (fun c => ?_) (fun c => ?_)
  · rw [if_pos c] at h
    exact j_vret (st := []) F Rt (by decide +kernel) ⟨hρ5, rfl, (Option.some.inj h).symm⟩
  · rw [if_neg c] at h
    refine j_aload_n F (pc := 27) (q := 0) (by decide +kernel) rfl ?_
    refine j_iload_n F (pc := 28) (q := 1) (by decide +kernel) rfl ?_
    refine j_iconst F (pc := 29) (n := 0) (v := 0) (by decide +kernel) (by decide +kernel) ?_
    refine j_iload_n F (pc := 30) (q := 3) (by decide +kernel) rfl ?_
    obtain ⟨r7, μ8, hc10, h⟩ := z_b2_some h
    refine j_callVi F (pc := 31) (idx := 309) (As := [.int x1, .int (0 : Int32), .int x3]) (st := []) (t_X5_isOn (G := E.1) hρ5 hk hc10) q_X5_isOn v_X5_isOn m_1245 (hk.s c_98) rfl rfl (by decide) (Nat.le_of_ble_eq_true rfl) rfl (by decide +kernel) (fun s13 ν11 hq12 hp => ?_)
    obtain ⟨rfl, rfl⟩ := hp
    have hρ9 : μ8.2.2 = ρ := hq12.trans hρ5
    refine j_if_eq F (pc := 34) (off := 16) (tgt := 50) (by decide +kernel) (by decide) (fun c => ?_) (fun c => ?_)
    · rw [if_pos c] at h
      exact j_vret (st := []) F Rt (by decide +kernel) ⟨hρ9, rfl, (Option.some.inj h).symm⟩
    · rw [if_neg c] at h
      refine j_aload_n F (pc := 37) (q := 0) (by decide +kernel) rfl ?_
      refine j_getR F (pc := 38) (hk.r hρ9 r_98_41) fl_X5_105 (hk.s c_98) rfl (by decide +kernel) ?_
      refine j_iload_n F (pc := 41) (q := 2) (by decide +kernel) rfl ?_
      refine j_iconst F (pc := 42) (n := 2) (v := 2) (by decide +kernel) (by decide +kernel) ?_
      refine j_isub F (pc := 43) (by decide +kernel) ?_
      refine j_dup2 F (pc := 44) (by decide +kernel) rfl rfl ?_
      obtain ⟨hg, h⟩ := z_ifs h
      refine j_iald F (pc := 45) (hk.s c_129) hg (by decide +kernel) ?_
      refine j_iload F (pc := 46) (i := 4) (by decide +kernel) rfl ?_
      refine j_iadd F (pc := 48) (by decide +kernel) ?_
      obtain ⟨hg, h⟩ := z_ifs h
      refine j_iast F (pc := 49) (hk.s c_129) hg (by decide +kernel) ?_
      obtain ⟨μ14, e16, h⟩ := z_st_some h
      rw [← e16]
      have hρ15 : μ14.2.2 = ρ := by rw [e16]; exact hρ9
      exact j_vret (st := []) F Rt (by decide +kernel) ⟨hρ15, rfl, (Option.some.inj h).symm⟩
def g_X5_payStep_88   : Nat → Int32 → Int32 → Int32 → Int32 → Int32 → Int32 → z_M → Option z_M
  | 0, _, _, _, _, _, _, _ => none
  | n + 1, x1, x2, x3, x4, x5, x6, μ => (if (μ.1 98 27) ≤ x6 then (some μ) else (if x3 ≤ x4 then (some μ) else (if z_in x6 15 then (if (μ.1 130 x6.toNatClampNeg) = 0 then (g_X5_payStep_88   n (x1) (x2) (x3) (x4) (x5) ((x6 + (1 : Int32))) μ) else (if x5 ≤ 0 then (g_X5_payStep_88   n (x1) (x2) (x3) (x4) (x5) ((x6 + (1 : Int32))) μ) else (z_b1 (f_X5_pay (x1) (x2) (x6) ((1 : Int32)) μ) fun μ4 => (g_X5_payStep_88   n (x1) (x2) (x3) (x4) ((x5 + (-1 : Int32))) ((x6 + (1 : Int32))) μ4)))) else none)))
def g_X5_payStep_60  (k_15 : Int32 → Int32 → Int32 → Int32 → Int32 → Int32 → z_M → Option z_M) (x1 : Int32) (x2 : Int32) (x3 : Int32) (x4 : Int32) (x5 : Int32) (x6 : Int32) (xs0 : Int32) (μ : z_M) : Option z_M :=
  (z_lt (x5 - xs0) fun x_16 => (z_b1 (f_X5_pay (x1) (x2) (x6) (xs0) μ) fun μ19 => (k_15 (x1) (x2) (x3) (x4) (x_16) ((x6 + (1 : Int32))) μ19)))
def g_X5_payStep_15   : Nat → Int32 → Int32 → Int32 → Int32 → Int32 → Int32 → z_M → Option z_M
  | 0, _, _, _, _, _, _, _ => none
  | n + 1, x1, x2, x3, x4, x5, x6, μ => (if (μ.1 98 27) ≤ x6 then (g_X5_payStep_88   z_N (x1) (x2) (x3) (x4) (x5) ((0 : Int32)) μ) else (if z_in x6 15 then (if (μ.1 130 x6.toNatClampNeg) = 0 then (g_X5_payStep_15   n (x1) (x2) (x3) (x4) (x5) ((x6 + (1 : Int32))) μ) else (if x4 < x3 then (z_b2 (f_X5_wants (x6) μ) fun r9 μ10 => (if ¬ x3 = 0 then (g_X5_payStep_60  (fun (y26 : Int32) (y27 : Int32) (y28 : Int32) (y29 : Int32) (y30 : Int32) (y31 : Int32) (μ24 : z_M) => (g_X5_payStep_15   n (y26) (y27) (y28) (y29) (y30) (y31) μ24)) (x1) (x2) (x3) (x4) (x5) (x6) (((x4 * r9) / x3)) μ10) else none)) else (z_b2 (f_X5_wants (x6) μ) fun r32 μ33 => (g_X5_payStep_60  (fun (y41 : Int32) (y42 : Int32) (y43 : Int32) (y44 : Int32) (y45 : Int32) (y46 : Int32) (μ39 : z_M) => (g_X5_payStep_15   n (y41) (y42) (y43) (y44) (y45) (y46) μ39)) (x1) (x2) (x3) (x4) (x5) (x6) (r32) μ33)))) else none))
def f_X5_payStep (x1 : Int32) (x2 : Int32) (x3 : Int32) (μ : z_M) : Option z_M :=
  (if z_in x2 5 then (z_lt (μ.1 127 x2.toNatClampNeg) fun x_1 => (g_X5_payStep_15   z_N (x1) (x2) (x3) (x_1) (x_1) ((0 : Int32)) μ)) else none)
set_option maxHeartbeats 4000000 in
set_option maxRecDepth 100000 in
theorem u_X5_payStep_88 {E : z_E} {ρ : Nat → Nat → Option Nat} {μr : z_M} (F : z_F E RX5 cX5_payStep 8 2) (Rt : z_R E none (fun v μ1 => μ1.2.2 = ρ ∧ v = none ∧ μr = μ1))  (hk : z_ok (z_sh E.1) ρ) : ∀ (n : Nat) (x1 : Int32) (x2 : Int32) (x3 : Int32) (x4 : Int32) (x5 : Int32) (x6 : Int32) (μ : z_M), μ.2.2 = ρ → g_X5_payStep_88   n x1 x2 x3 x4 x5 x6 μ = some μr → z_J E 8 88 [some (.ref 98), some (.int x1), some (.int x2), some (.int x3), some (.int x4), some (.int x5), some (.int x6), none] [] μ := by
  intro n
  induction n with
  | zero =>
    intro x1 x2 x3 x4 x5 x6 μ hρ h
    rw [g_X5_payStep_88] at h
    cases h
  | succ n ih =>
    intro x1 x2 x3 x4 x5 x6 μ hρ h
    rw [g_X5_payStep_88] at h
    refine j_iload F (pc := 88) (i := 6) (by decide +kernel) rfl ?_
    refine j_aload_n F (pc := 90) (q := 0) (by decide +kernel) rfl ?_
    refine j_getI F (pc := 91) fl_X5_268 (hk.s c_98) rfl (by decide +kernel) ?_
    refine j_icmp_ge F (pc := 94) (off := 42) (tgt := 136) (by decide +kernel) (by decide) (fun c => ?_) (fun c => ?_)
    · rw [if_pos c] at h
      exact j_vret (st := []) F Rt (by decide +kernel) ⟨hρ, rfl, (Option.some.inj h).symm⟩
    · rw [if_neg c] at h
      refine j_iload_n F (pc := 97) (q := 3) (by decide +kernel) rfl ?_
      refine j_iload F (pc := 98) (i := 4) (by decide +kernel) rfl ?_
      refine j_icmp_le F (pc := 100) (off := 36) (tgt := 136) (by decide +kernel) (by decide) (fun c => ?_) (fun c => ?_)
      · rw [if_pos c] at h
        exact j_vret (st := []) F Rt (by decide +kernel) ⟨hρ, rfl, (Option.some.inj h).symm⟩
      · rw [if_neg c] at h
        refine j_aload_n F (pc := 103) (q := 0) (by decide +kernel) rfl ?_
        refine j_getR F (pc := 104) (hk.r hρ r_98_42) fl_X5_108 (hk.s c_98) rfl (by decide +kernel) ?_
        refine j_iload F (pc := 107) (i := 6) (by decide +kernel) rfl ?_
        obtain ⟨hg, h⟩ := z_ifs h
        refine j_zald F (pc := 109) (hk.s c_130) hg (by decide +kernel) ?_
        refine j_if_eq F (pc := 110) (off := 20) (tgt := 130) (by decide +kernel) (by decide) (fun c => ?_) (fun c => ?_)
        · rw [if_pos c] at h
          refine j_iinc F (pc := 130) (i := 6) (n := 1) (v := 1) (L' := [some (.ref 98), some (.int x1), some (.int x2), some (.int x3), some (.int x4), some (.int x5), some (.int (x6 + (1 : Int32))), none]) (by decide +kernel) rfl (by decide +kernel) (by decide) rfl rfl ?_
          refine j_goto F (pc := 133) (off := -45) (tgt := 88) (by decide +kernel) (by decide) ?_
          exact ih _ _ _ _ _ _ _ hρ h
        · rw [if_neg c] at h
          refine j_iload F (pc := 113) (i := 5) (by decide +kernel) rfl ?_
          refine j_if_le F (pc := 115) (off := 15) (tgt := 130) (by decide +kernel) (by decide) (fun c => ?_) (fun c => ?_)
          · rw [if_pos c] at h
            refine j_iinc F (pc := 130) (i := 6) (n := 1) (v := 1) (L' := [some (.ref 98), some (.int x1), some (.int x2), some (.int x3), some (.int x4), some (.int x5), some (.int (x6 + (1 : Int32))), none]) (by decide +kernel) rfl (by decide +kernel) (by decide) rfl rfl ?_
            refine j_goto F (pc := 133) (off := -45) (tgt := 88) (by decide +kernel) (by decide) ?_
            exact ih _ _ _ _ _ _ _ hρ h
          · rw [if_neg c] at h
            refine j_aload_n F (pc := 118) (q := 0) (by decide +kernel) rfl ?_
            refine j_iload_n F (pc := 119) (q := 1) (by decide +kernel) rfl ?_
            refine j_iload_n F (pc := 120) (q := 2) (by decide +kernel) rfl ?_
            refine j_iload F (pc := 121) (i := 6) (by decide +kernel) rfl ?_
            refine j_iconst F (pc := 123) (n := 1) (v := 1) (by decide +kernel) (by decide +kernel) ?_
            obtain ⟨μ4, hc6, h⟩ := z_b1_some h
            refine j_callVv F (pc := 124) (idx := 322) (As := [.int x1, .int x2, .int x6, .int (1 : Int32)]) (st := []) (t_X5_pay (G := E.1) hρ hk hc6) q_X5_pay v_X5_pay m_1280 (hk.s c_98) rfl rfl (by decide) (Nat.le_of_ble_eq_true rfl) rfl (by decide +kernel) (fun ν7 hq8 hp => ?_)
            subst hp
            have hρ5 : μ4.2.2 = ρ := hq8.trans hρ
            refine j_iinc F (pc := 127) (i := 5) (n := -1) (v := -1) (L' := [some (.ref 98), some (.int x1), some (.int x2), some (.int x3), some (.int x4), some (.int (x5 + (-1 : Int32))), some (.int x6), none]) (by decide +kernel) rfl (by decide +kernel) (by decide) rfl rfl ?_
            refine j_iinc F (pc := 130) (i := 6) (n := 1) (v := 1) (L' := [some (.ref 98), some (.int x1), some (.int x2), some (.int x3), some (.int x4), some (.int (x5 + (-1 : Int32))), some (.int (x6 + (1 : Int32))), none]) (by decide +kernel) rfl (by decide +kernel) (by decide) rfl rfl ?_
            refine j_goto F (pc := 133) (off := -45) (tgt := 88) (by decide +kernel) (by decide) ?_
            exact ih _ _ _ _ _ _ _ hρ5 h
set_option maxHeartbeats 4000000 in
set_option maxRecDepth 100000 in
theorem u_X5_payStep_60 {E : z_E} {ρ : Nat → Nat → Option Nat} {μr : z_M} (F : z_F E RX5 cX5_payStep 8 2) (Rt : z_R E none (fun v μ1 => μ1.2.2 = ρ ∧ v = none ∧ μr = μ1))  (hk : z_ok (z_sh E.1) ρ) {k_15 : Int32 → Int32 → Int32 → Int32 → Int32 → Int32 → z_M → Option z_M} (hc_15 : ∀ (y1 : Int32) (y2 : Int32) (y3 : Int32) (y4 : Int32) (y5 : Int32) (y6 : Int32) (μ1 : z_M), μ1.2.2 = ρ → k_15 y1 y2 y3 y4 y5 y6 μ1 = some μr → z_J E 8 15 [some (.ref 98), some (.int y1), some (.int y2), some (.int y3), some (.int y4), some (.int y5), some (.int y6), none] [] μ1) : ∀ (x1 : Int32) (x2 : Int32) (x3 : Int32) (x4 : Int32) (x5 : Int32) (x6 : Int32) (xs0 : Int32) (μ : z_M), μ.2.2 = ρ → g_X5_payStep_60  k_15 x1 x2 x3 x4 x5 x6 xs0 μ = some μr → z_J E 8 60 [some (.ref 98), some (.int x1), some (.int x2), some (.int x3), some (.int x4), some (.int x5), some (.int x6), none] [.int xs0] μ := by
  intro x1 x2 x3 x4 x5 x6 xs0 μ hρ h
  unfold g_X5_payStep_60 at h
  refine j_istore F (pc := 60) (i := 7) (L' := [some (.ref 98), some (.int x1), some (.int x2), some (.int x3), some (.int x4), some (.int x5), some (.int x6), some (.int xs0)]) (by decide +kernel) (by decide) rfl rfl ?_
  refine j_iload F (pc := 62) (i := 5) (by decide +kernel) rfl ?_
  refine j_iload F (pc := 64) (i := 7) (by decide +kernel) rfl ?_
  refine j_isub F (pc := 66) (by decide +kernel) ?_
  obtain ⟨x_16, e17, h⟩ := z_lt_some h
  rw [← e17]
  refine j_istore F (pc := 67) (i := 5) (L' := [some (.ref 98), some (.int x1), some (.int x2), some (.int x3), some (.int x4), some (.int x_16), some (.int x6), some (.int xs0)]) (by decide +kernel) (by decide) rfl rfl ?_
  refine j_aload_n F (pc := 69) (q := 0) (by decide +kernel) rfl ?_
  refine j_iload_n F (pc := 70) (q := 1) (by decide +kernel) rfl ?_
  refine j_iload_n F (pc := 71) (q := 2) (by decide +kernel) rfl ?_
  refine j_iload F (pc := 72) (i := 6) (by decide +kernel) rfl ?_
  refine j_iload F (pc := 74) (i := 7) (by decide +kernel) rfl ?_
  obtain ⟨μ19, hc21, h⟩ := z_b1_some h
  refine j_callVv F (pc := 76) (idx := 322) (As := [.int x1, .int x2, .int x6, .int xs0]) (st := []) (t_X5_pay (G := E.1) hρ hk hc21) q_X5_pay v_X5_pay m_1280 (hk.s c_98) rfl rfl (by decide) (Nat.le_of_ble_eq_true rfl) rfl (by decide +kernel) (fun ν22 hq23 hp => ?_)
  subst hp
  have hρ20 : μ19.2.2 = ρ := hq23.trans hρ
  refine j_iinc F (pc := 79) (i := 6) (n := 1) (v := 1) (L' := [some (.ref 98), some (.int x1), some (.int x2), some (.int x3), some (.int x4), some (.int x_16), some (.int (x6 + (1 : Int32))), some (.int xs0)]) (by decide +kernel) rfl (by decide +kernel) (by decide) rfl rfl ?_
  refine j_goto F (pc := 82) (off := -67) (tgt := 15) (by decide +kernel) (by decide) ?_
  refine j_mk F [true, true, true, true, true, true, true, false] (L' := [some (.ref 98), some (.int x1), some (.int x2), some (.int x3), some (.int x4), some (.int x_16), some (.int (x6 + (1 : Int32))), none]) rfl ?_
  exact hc_15 _ _ _ _ _ _ _ hρ20 h
set_option maxHeartbeats 4000000 in
set_option maxRecDepth 100000 in
theorem u_X5_payStep_15 {E : z_E} {ρ : Nat → Nat → Option Nat} {μr : z_M} (F : z_F E RX5 cX5_payStep 8 2) (Rt : z_R E none (fun v μ1 => μ1.2.2 = ρ ∧ v = none ∧ μr = μ1))  (hk : z_ok (z_sh E.1) ρ) : ∀ (n : Nat) (x1 : Int32) (x2 : Int32) (x3 : Int32) (x4 : Int32) (x5 : Int32) (x6 : Int32) (μ : z_M), μ.2.2 = ρ → g_X5_payStep_15   n x1 x2 x3 x4 x5 x6 μ = some μr → z_J E 8 15 [some (.ref 98), some (.int x1), some (.int x2), some (.int x3), some (.int x4), some (.int x5), some (.int x6), none] [] μ := by
  intro n
  induction n with
  | zero =>
    intro x1 x2 x3 x4 x5 x6 μ hρ h
    rw [g_X5_payStep_15] at h
    cases h
  | succ n ih =>
    intro x1 x2 x3 x4 x5 x6 μ hρ h
    rw [g_X5_payStep_15] at h
    refine j_iload F (pc := 15) (i := 6) (by decide +kernel) rfl ?_
    refine j_aload_n F (pc := 17) (q := 0) (by decide +kernel) rfl ?_
    refine j_getI F (pc := 18) fl_X5_268 (hk.s c_98) rfl (by decide +kernel) ?_
    refine j_icmp_ge F (pc := 21) (off := 64) (tgt := 85) (by decide +kernel) (by decide) (fun c => ?_) (fun c => ?_)
    · rw [if_pos c] at h
      refine j_iconst F (pc := 85) (n := 0) (v := 0) (by decide +kernel) (by decide +kernel) ?_
      refine j_istore F (pc := 86) (i := 6) (L' := [some (.ref 98), some (.int x1), some (.int x2), some (.int x3), some (.int x4), some (.int x5), some (.int (0 : Int32)), none]) (by decide +kernel) (by decide) rfl rfl ?_
      refine u_X5_payStep_88 F Rt hk  z_N _ _ _ _ _ _ _ hρ h
    · rw [if_neg c] at h
      refine j_aload_n F (pc := 24) (q := 0) (by decide +kernel) rfl ?_
      refine j_getR F (pc := 25) (hk.r hρ r_98_42) fl_X5_108 (hk.s c_98) rfl (by decide +kernel) ?_
      refine j_iload F (pc := 28) (i := 6) (by decide +kernel) rfl ?_
      obtain ⟨hg, h⟩ := z_ifs h
      refine j_zald F (pc := 30) (hk.s c_130) hg (by decide +kernel) ?_
      refine j_if_eq F (pc := 31) (off := 48) (tgt := 79) (by decide +kernel) (by decide) (fun c => ?_) (fun c => ?_)
      · rw [if_pos c] at h
        refine j_iinc F (pc := 79) (i := 6) (n := 1) (v := 1) (L' := [some (.ref 98), some (.int x1), some (.int x2), some (.int x3), some (.int x4), some (.int x5), some (.int (x6 + (1 : Int32))), none]) (by decide +kernel) rfl (by decide +kernel) (by decide) rfl rfl ?_
        refine j_goto F (pc := 82) (off := -67) (tgt := 15) (by decide +kernel) (by decide) ?_
        exact ih _ _ _ _ _ _ _ hρ h
      · rw [if_neg c] at h
        refine j_iload_n F (pc := 34) (q := 3) (by decide +kernel) rfl ?_
        refine j_iload F (pc := 35) (i := 4) (by decide +kernel) rfl ?_
        refine j_icmp_gt F (pc := 37) (off := 12) (tgt := 49) (by decide +kernel) (by decide) (fun c => ?_) (fun c => ?_)
        · rw [if_pos c] at h
          refine j_iload F (pc := 49) (i := 4) (by decide +kernel) rfl ?_
          refine j_aload_n F (pc := 51) (q := 0) (by decide +kernel) rfl ?_
          refine j_iload F (pc := 52) (i := 6) (by decide +kernel) rfl ?_
          obtain ⟨r9, μ10, hc12, h⟩ := z_b2_some h
          refine j_callVi F (pc := 54) (idx := 316) (As := [.int x6]) (st := [.int x4]) (t_X5_wants (G := E.1) hρ hk hc12) q_X5_wants v_X5_wants m_1272 (hk.s c_98) rfl rfl (by decide) (Nat.le_of_ble_eq_true rfl) rfl (by decide +kernel) (fun s15 ν13 hq14 hp => ?_)
          obtain ⟨rfl, rfl⟩ := hp
          have hρ11 : μ10.2.2 = ρ := hq14.trans hρ
          refine j_imul F (pc := 57) (by decide +kernel) ?_
          refine j_iload_n F (pc := 58) (q := 3) (by decide +kernel) rfl ?_
          obtain ⟨hg, h⟩ := z_ifs h
          refine j_idiv F (pc := 59) (by decide +kernel) hg ?_
          refine u_X5_payStep_60 F Rt hk (fun y26 y27 y28 y29 y30 y31 μ24 hρ25 h => ?_) _ _ _ _ _ _ _ _ hρ11 h
          exact ih _ _ _ _ _ _ _ hρ25 h
        · rw [if_neg c] at h
          refine j_aload_n F (pc := 40) (q := 0) (by decide +kernel) rfl ?_
          refine j_iload F (pc := 41) (i := 6) (by decide +kernel) rfl ?_
          obtain ⟨r32, μ33, hc35, h⟩ := z_b2_some h
          refine j_callVi F (pc := 43) (idx := 316) (As := [.int x6]) (st := []) (t_X5_wants (G := E.1) hρ hk hc35) q_X5_wants v_X5_wants m_1272 (hk.s c_98) rfl rfl (by decide) (Nat.le_of_ble_eq_true rfl) rfl (by decide +kernel) (fun s38 ν36 hq37 hp => ?_)
          obtain ⟨rfl, rfl⟩ := hp
          have hρ34 : μ33.2.2 = ρ := hq37.trans hρ
          refine j_goto F (pc := 46) (off := 14) (tgt := 60) (by decide +kernel) (by decide) ?_
          refine u_X5_payStep_60 F Rt hk (fun y41 y42 y43 y44 y45 y46 μ39 hρ40 h => ?_) _ _ _ _ _ _ _ _ hρ34 h
          exact ih _ _ _ _ _ _ _ hρ40 h
set_option maxHeartbeats 4000000 in
set_option maxRecDepth 100000 in
theorem t_X5_payStep {G : z_Gl} {ρ : Nat → Nat → Option Nat} {μ : z_M} {μr : z_M} {x1 : Int32} {x2 : Int32} {x3 : Int32} (hρ : μ.2.2 = ρ) (hk : z_ok (z_sh G) ρ) (h : f_X5_payStep x1 x2 x3 μ = some μr) : z_Cv G yX5_payStep cX5_payStep 8 none 2 [.ref 98, .int x1, .int x2, .int x3] μ (fun μ1 => μr = μ1) := by
  unfold z_Cv
  refine z_intro (by decide +kernel) (Nat.le_of_ble_eq_true rfl) (fun E hE F Rt => ?_)
  subst hE
  have F : z_F E RX5 cX5_payStep 8 2 := F
  rw [hρ] at Rt
  unfold f_X5_payStep at h
  show z_J E 8 0 [some (.ref 98), some (.int x1), some (.int x2), some (.int x3), none, none, none, none] [] μ
  refine j_aload_n F (pc := 0) (q := 0) (by decide +kernel) rfl ?_
  refine j_getR F (pc := 1) (hk.r hρ r_98_39) fl_X5_99 (hk.s c_98) rfl (by decide +kernel) ?_
  refine j_iload_n F (pc := 4) (q := 2) (by decide +kernel) rfl ?_
  obtain ⟨hg, h⟩ := z_ifs h
  refine j_iald F (pc := 5) (hk.s c_127) hg (by decide +kernel) ?_
  obtain ⟨x_1, e2, h⟩ := z_lt_some h
  rw [← e2]
  refine j_istore F (pc := 6) (i := 4) (L' := [some (.ref 98), some (.int x1), some (.int x2), some (.int x3), some (.int x_1), none, none, none]) (by decide +kernel) (by decide) rfl rfl ?_
  refine j_iload F (pc := 8) (i := 4) (by decide +kernel) rfl ?_
  refine j_istore F (pc := 10) (i := 5) (L' := [some (.ref 98), some (.int x1), some (.int x2), some (.int x3), some (.int x_1), some (.int x_1), none, none]) (by decide +kernel) (by decide) rfl rfl ?_
  refine j_iconst F (pc := 12) (n := 0) (v := 0) (by decide +kernel) (by decide +kernel) ?_
  refine j_istore F (pc := 13) (i := 6) (L' := [some (.ref 98), some (.int x1), some (.int x2), some (.int x3), some (.int x_1), some (.int x_1), some (.int (0 : Int32)), none]) (by decide +kernel) (by decide) rfl rfl ?_
  refine u_X5_payStep_15 F Rt hk  z_N _ _ _ _ _ _ _ hρ h
def g_X5_payAll_202   : Nat → Int32 → Int32 → z_M → Option (Int32 × z_M)
  | 0, _, _, _ => none
  | n + 1, x4, x5, μ => (if (μ.1 98 27) ≤ x5 then (some (x4, μ)) else (if z_in x5 15 then (z_lt (x4 + (μ.1 126 x5.toNatClampNeg)) fun x_6 => (g_X5_payAll_202   n (x_6) ((x5 + (1 : Int32))) μ)) else none))
def g_X5_payAll_149  (k_110 : Int32 → Int32 → Int32 → z_M → Option (Int32 × z_M)) : Nat → Int32 → Int32 → Int32 → Int32 → Int32 → z_M → Option (Int32 × z_M)
  | 0, _, _, _, _, _, _ => none
  | n + 1, x1, x2, x4, x5, x6, μ => (if x6 ≤ 0 then (k_110 (x1) (x2) ((x4 + (1 : Int32))) μ) else (z_b1 (f_X5_payStep (x1) (x5) (x6) μ) fun μ18 => (if z_in x5 5 then (if (μ18.1 127 x5.toNatClampNeg) = 0 then (g_X5_payAll_149  k_110 n (x1) (x2) (x4) (x5) ((0 : Int32)) μ18) else (z_b2 (f_X5_findStep (x1) (x2) (x5) μ18) fun r23 μ24 => (g_X5_payAll_149  k_110 n (x1) (x2) (x4) (x5) (r23) μ24))) else none)))
def g_X5_payAll_110   : Nat → Int32 → Int32 → Int32 → z_M → Option (Int32 × z_M)
  | 0, _, _, _, _ => none
  | n + 1, x1, x2, x4, μ => (if (5 : Int32) ≤ x4 then (g_X5_payAll_202   z_N ((0 : Int32)) ((0 : Int32)) μ) else (if z_in x4 5 then (z_lt (μ.1 128 x4.toNatClampNeg) fun x_8 => (if z_in x_8 5 then (if (μ.1 127 x_8.toNatClampNeg) = 0 then (g_X5_payAll_149  (fun (y37 : Int32) (y38 : Int32) (y39 : Int32) (μ35 : z_M) => (g_X5_payAll_110   n (y37) (y38) (y39) μ35)) z_N (x1) (x2) (x4) (x_8) ((0 : Int32)) μ) else (z_b2 (f_X5_findStep (x1) (x2) (x_8) μ) fun r10 μ11 => (g_X5_payAll_149  (fun (y32 : Int32) (y33 : Int32) (y34 : Int32) (μ30 : z_M) => (g_X5_payAll_110   n (y32) (y33) (y34) μ30)) z_N (x1) (x2) (x4) (x_8) (r10) μ11))) else none)) else none))
def g_X5_payAll_50   : Nat → Int32 → Int32 → Int32 → z_M → Option (Int32 × z_M)
  | 0, _, _, _, _ => none
  | n + 1, x1, x2, x3, μ => (if (3 : Int32) ≤ x3 then (if z_in (((5 : Int32) * x1) + (3 : Int32)) 20 then (z_lt (μ.1 104 (((5 : Int32) * x1) + (3 : Int32)).toNatClampNeg) fun x_1 => (if z_in (0 : Int32) 5 then (if (¬ ((μ.1 127 (0 : Int32).toNatClampNeg) ≤ x_1) → z_in (0 : Int32) 5) then (if z_in (0 : Int32) 5 then (z_st (z_si μ 127 (0 : Int32).toNatClampNeg (if (μ.1 127 (0 : Int32).toNatClampNeg) ≤ x_1 then (0 : Int32) else ((μ.1 127 (0 : Int32).toNatClampNeg) - x_1))) fun μ3 => (g_X5_payAll_110   z_N (x1) (x2) ((0 : Int32)) μ3)) else none) else none) else none)) else none) else (if z_in x3 3 then (z_st (z_si μ 129 x3.toNatClampNeg (0 : Int32)) fun μ40 => (g_X5_payAll_50   n (x1) (x2) ((x3 + (1 : Int32))) μ40)) else none))
def g_X5_payAll_25   : Nat → Int32 → Int32 → Int32 → z_M → Option (Int32 × z_M)
  | 0, _, _, _, _ => none
  | n + 1, x1, x2, x3, μ => (if (5 : Int32) ≤ x3 then (g_X5_payAll_50   z_N (x1) (x2) ((0 : Int32)) μ) else (if z_in x3 5 then (if z_in x3 5 then (z_st (z_si μ 127 x3.toNatClampNeg (μ.1 124 x3.toNatClampNeg)) fun μ43 => (g_X5_payAll_25   n (x1) (x2) ((x3 + (1 : Int32))) μ43)) else none) else none))
def g_X5_payAll_2   : Nat → Int32 → Int32 → Int32 → z_M → Option (Int32 × z_M)
  | 0, _, _, _, _ => none
  | n + 1, x1, x2, x3, μ => (if (μ.1 98 27) ≤ x3 then (g_X5_payAll_25   z_N (x1) (x2) ((0 : Int32)) μ) else (if z_in x3 15 then (z_st (z_si μ 126 x3.toNatClampNeg (0 : Int32)) fun μ46 => (g_X5_payAll_2   n (x1) (x2) ((x3 + (1 : Int32))) μ46)) else none))
def f_X5_payAll (x1 : Int32) (x2 : Int32) (μ : z_M) : Option (Int32 × z_M) :=
  (g_X5_payAll_2   z_N (x1) (x2) ((0 : Int32)) μ)
set_option maxHeartbeats 4000000 in
set_option maxRecDepth 100000 in
theorem u_X5_payAll_202 {E : z_E} {ρ : Nat → Nat → Option Nat} {r : Int32} {μr : z_M} (F : z_F E RX5 cX5_payAll 7 4) (Rt : z_R E (some .int) (fun v μ1 => μ1.2.2 = ρ ∧ ∃ r1, v = some (.int r1) ∧ r = r1 ∧ μr = μ1))  (hk : z_ok (z_sh E.1) ρ) : ∀ (n : Nat) (x4 : Int32) (x5 : Int32) (μ : z_M), μ.2.2 = ρ → g_X5_payAll_202   n x4 x5 μ = some (r, μr) → z_J E 7 202 [some (.ref 98), none, none, none, some (.int x4), some (.int x5), none] [] μ := by
  intro n
  induction n with
  | zero =>
    intro x4 x5 μ hρ h
    rw [g_X5_payAll_202] at h
    cases h
  | succ n ih =>
    intro x4 x5 μ hρ h
    rw [g_X5_payAll_202] at h
    refine j_iload F (pc := 202) (i := 5) (by decide +kernel) rfl ?_
    refine j_aload_n F (pc := 204) (q := 0) (by decide +kernel) rfl ?_
    refine j_getI F (pc := 205) fl_X5_268 (hk.s c_98) rfl (by decide +kernel) ?_
    refine j_icmp_ge F (pc := 208) (off := 21) (tgt := 229) (by decide +kernel) (by decide) (fun c => ?_) (fun c => ?_)
    · rw [if_pos c] at h
      refine j_iload F (pc := 229) (i := 4) (by decide +kernel) rfl ?_
      exact j_iret (st := []) F Rt rfl (by decide +kernel) ⟨hρ, _, rfl, (congrArg Prod.fst (Option.some.inj h)).symm, (congrArg Prod.snd (Option.some.inj h)).symm⟩
    · rw [if_neg c] at h
      refine j_iload F (pc := 211) (i := 4) (by decide +kernel) rfl ?_
      refine j_aload_n F (pc := 213) (q := 0) (by decide +kernel) rfl ?_
      refine j_getR F (pc := 214) (hk.r hρ r_98_38) fl_X5_96 (hk.s c_98) rfl (by decide +kernel) ?_
      refine j_iload F (pc := 217) (i := 5) (by decide +kernel) rfl ?_
      obtain ⟨hg, h⟩ := z_ifs h
      refine j_iald F (pc := 219) (hk.s c_126) hg (by decide +kernel) ?_
      refine j_iadd F (pc := 220) (by decide +kernel) ?_
      obtain ⟨x_6, e7, h⟩ := z_lt_some h
      rw [← e7]
      refine j_istore F (pc := 221) (i := 4) (L' := [some (.ref 98), none, none, none, some (.int x_6), some (.int x5), none]) (by decide +kernel) (by decide) rfl rfl ?_
      refine j_iinc F (pc := 223) (i := 5) (n := 1) (v := 1) (L' := [some (.ref 98), none, none, none, some (.int x_6), some (.int (x5 + (1 : Int32))), none]) (by decide +kernel) rfl (by decide +kernel) (by decide) rfl rfl ?_
      refine j_goto F (pc := 226) (off := -24) (tgt := 202) (by decide +kernel) (by decide) ?_
      exact ih _ _ _ hρ h
set_option maxHeartbeats 4000000 in
set_option maxRecDepth 100000 in
theorem u_X5_payAll_149 {E : z_E} {ρ : Nat → Nat → Option Nat} {r : Int32} {μr : z_M} (F : z_F E RX5 cX5_payAll 7 4) (Rt : z_R E (some .int) (fun v μ1 => μ1.2.2 = ρ ∧ ∃ r1, v = some (.int r1) ∧ r = r1 ∧ μr = μ1))  (hk : z_ok (z_sh E.1) ρ) {k_110 : Int32 → Int32 → Int32 → z_M → Option (Int32 × z_M)} (hc_110 : ∀ (y1 : Int32) (y2 : Int32) (y4 : Int32) (μ1 : z_M), μ1.2.2 = ρ → k_110 y1 y2 y4 μ1 = some (r, μr) → z_J E 7 110 [some (.ref 98), some (.int y1), some (.int y2), none, some (.int y4), none, none] [] μ1) : ∀ (n : Nat) (x1 : Int32) (x2 : Int32) (x4 : Int32) (x5 : Int32) (x6 : Int32) (μ : z_M), μ.2.2 = ρ → g_X5_payAll_149  k_110 n x1 x2 x4 x5 x6 μ = some (r, μr) → z_J E 7 149 [some (.ref 98), some (.int x1), some (.int x2), none, some (.int x4), some (.int x5), some (.int x6)] [] μ := by
  intro n
  induction n with
  | zero =>
    intro x1 x2 x4 x5 x6 μ hρ h
    rw [g_X5_payAll_149] at h
    cases h
  | succ n ih =>
    intro x1 x2 x4 x5 x6 μ hρ h
    rw [g_X5_payAll_149] at h
    refine j_iload F (pc := 149) (i := 6) (by decide +kernel) rfl ?_
    refine j_if_le F (pc := 151) (off := 39) (tgt := 190) (by decide +kernel) (by decide) (fun c => ?_) (fun c => ?_)
    · rw [if_pos c] at h
      refine j_iinc F (pc := 190) (i := 4) (n := 1) (v := 1) (L' := [some (.ref 98), some (.int x1), some (.int x2), none, some (.int (x4 + (1 : Int32))), some (.int x5), some (.int x6)]) (by decide +kernel) rfl (by decide +kernel) (by decide) rfl rfl ?_
      refine j_goto F (pc := 193) (off := -83) (tgt := 110) (by decide +kernel) (by decide) ?_
      refine j_mk F [true, true, true, false, true, false, false] (L' := [some (.ref 98), some (.int x1), some (.int x2), none, some (.int (x4 + (1 : Int32))), none, none]) rfl ?_
      exact hc_110 _ _ _ _ hρ h
    · rw [if_neg c] at h
      refine j_aload_n F (pc := 154) (q := 0) (by decide +kernel) rfl ?_
      refine j_iload_n F (pc := 155) (q := 1) (by decide +kernel) rfl ?_
      refine j_iload F (pc := 156) (i := 5) (by decide +kernel) rfl ?_
      refine j_iload F (pc := 158) (i := 6) (by decide +kernel) rfl ?_
      obtain ⟨μ18, hc20, h⟩ := z_b1_some h
      refine j_callVv F (pc := 160) (idx := 329) (As := [.int x1, .int x5, .int x6]) (st := []) (t_X5_payStep (G := E.1) hρ hk hc20) q_X5_payStep v_X5_payStep m_1276 (hk.s c_98) rfl rfl (by decide) (Nat.le_of_ble_eq_true rfl) rfl (by decide +kernel) (fun ν21 hq22 hp => ?_)
      subst hp
      have hρ19 : μ18.2.2 = ρ := hq22.trans hρ
      refine j_aload_n F (pc := 163) (q := 0) (by decide +kernel) rfl ?_
      refine j_getR F (pc := 164) (hk.r hρ19 r_98_39) fl_X5_99 (hk.s c_98) rfl (by decide +kernel) ?_
      refine j_iload F (pc := 167) (i := 5) (by decide +kernel) rfl ?_
      obtain ⟨hg, h⟩ := z_ifs h
      refine j_iald F (pc := 169) (hk.s c_127) hg (by decide +kernel) ?_
      refine j_if_ne F (pc := 170) (off := 7) (tgt := 177) (by decide +kernel) (by decide) (fun c => ?_) (fun c => ?_)
      · rw [if_neg c] at h
        refine j_aload_n F (pc := 177) (q := 0) (by decide +kernel) rfl ?_
        refine j_iload_n F (pc := 178) (q := 1) (by decide +kernel) rfl ?_
        refine j_iload_n F (pc := 179) (q := 2) (by decide +kernel) rfl ?_
        refine j_iload F (pc := 180) (i := 5) (by decide +kernel) rfl ?_
        obtain ⟨r23, μ24, hc26, h⟩ := z_b2_some h
        refine j_callVi F (pc := 182) (idx := 326) (As := [.int x1, .int x2, .int x5]) (st := []) (t_X5_findStep (G := E.1) hρ19 hk hc26) q_X5_findStep v_X5_findStep m_1264 (hk.s c_98) rfl rfl (by decide) (Nat.le_of_ble_eq_true rfl) rfl (by decide +kernel) (fun s29 ν27 hq28 hp => ?_)
        obtain ⟨rfl, rfl⟩ := hp
        have hρ25 : μ24.2.2 = ρ := hq28.trans hρ19
        refine j_istore F (pc := 185) (i := 6) (L' := [some (.ref 98), some (.int x1), some (.int x2), none, some (.int x4), some (.int x5), some (.int r23)]) (by decide +kernel) (by decide) rfl rfl ?_
        refine j_goto F (pc := 187) (off := -38) (tgt := 149) (by decide +kernel) (by decide) ?_
        exact ih _ _ _ _ _ _ hρ25 h
      · rw [if_pos c] at h
        refine j_iconst F (pc := 173) (n := 0) (v := 0) (by decide +kernel) (by decide +kernel) ?_
        refine j_goto F (pc := 174) (off := 11) (tgt := 185) (by decide +kernel) (by decide) ?_
        refine j_istore F (pc := 185) (i := 6) (L' := [some (.ref 98), some (.int x1), some (.int x2), none, some (.int x4), some (.int x5), some (.int (0 : Int32))]) (by decide +kernel) (by decide) rfl rfl ?_
        refine j_goto F (pc := 187) (off := -38) (tgt := 149) (by decide +kernel) (by decide) ?_
        exact ih _ _ _ _ _ _ hρ19 h
set_option maxHeartbeats 4000000 in
set_option maxRecDepth 100000 in
theorem u_X5_payAll_110 {E : z_E} {ρ : Nat → Nat → Option Nat} {r : Int32} {μr : z_M} (F : z_F E RX5 cX5_payAll 7 4) (Rt : z_R E (some .int) (fun v μ1 => μ1.2.2 = ρ ∧ ∃ r1, v = some (.int r1) ∧ r = r1 ∧ μr = μ1))  (hk : z_ok (z_sh E.1) ρ) : ∀ (n : Nat) (x1 : Int32) (x2 : Int32) (x4 : Int32) (μ : z_M), μ.2.2 = ρ → g_X5_payAll_110   n x1 x2 x4 μ = some (r, μr) → z_J E 7 110 [some (.ref 98), some (.int x1), some (.int x2), none, some (.int x4), none, none] [] μ := by
  intro n
  induction n with
  | zero =>
    intro x1 x2 x4 μ hρ h
    rw [g_X5_payAll_110] at h
    cases h
  | succ n ih =>
    intro x1 x2 x4 μ hρ h
    rw [g_X5_payAll_110] at h
    refine j_iload F (pc := 110) (i := 4) (by decide +kernel) rfl ?_
    refine j_iconst F (pc := 112) (n := 5) (v := 5) (by decide +kernel) (by decide +kernel) ?_
    refine j_icmp_ge F (pc := 113) (off := 83) (tgt := 196) (by decide +kernel) (by decide) (fun c => ?_) (fun c => ?_)
    · rw [if_pos c] at h
      refine j_iconst F (pc := 196) (n := 0) (v := 0) (by decide +kernel) (by decide +kernel) ?_
      refine j_istore F (pc := 197) (i := 4) (L' := [some (.ref 98), some (.int x1), some (.int x2), none, some (.int (0 : Int32)), none, none]) (by decide +kernel) (by decide) rfl rfl ?_
      refine j_iconst F (pc := 199) (n := 0) (v := 0) (by decide +kernel) (by decide +kernel) ?_
      refine j_istore F (pc := 200) (i := 5) (L' := [some (.ref 98), some (.int x1), some (.int x2), none, some (.int (0 : Int32)), some (.int (0 : Int32)), none]) (by decide +kernel) (by decide) rfl rfl ?_
      refine j_mk F [true, false, false, false, true, true, false] (L' := [some (.ref 98), none, none, none, some (.int (0 : Int32)), some (.int (0 : Int32)), none]) rfl ?_
      refine u_X5_payAll_202 F Rt hk  z_N _ _ _ hρ h
    · rw [if_neg c] at h
      refine j_aload_n F (pc := 116) (q := 0) (by decide +kernel) rfl ?_
      refine j_getR F (pc := 117) (hk.r hρ r_98_40) fl_X5_102 (hk.s c_98) rfl (by decide +kernel) ?_
      refine j_iload F (pc := 120) (i := 4) (by decide +kernel) rfl ?_
      obtain ⟨hg, h⟩ := z_ifs h
      refine j_iald F (pc := 122) (hk.s c_128) hg (by decide +kernel) ?_
      obtain ⟨x_8, e9, h⟩ := z_lt_some h
      rw [← e9]
      refine j_istore F (pc := 123) (i := 5) (L' := [some (.ref 98), some (.int x1), some (.int x2), none, some (.int x4), some (.int x_8), none]) (by decide +kernel) (by decide) rfl rfl ?_
      refine j_aload_n F (pc := 125) (q := 0) (by decide +kernel) rfl ?_
      refine j_getR F (pc := 126) (hk.r hρ r_98_39) fl_X5_99 (hk.s c_98) rfl (by decide +kernel) ?_
      refine j_iload F (pc := 129) (i := 5) (by decide +kernel) rfl ?_
      obtain ⟨hg, h⟩ := z_ifs h
      refine j_iald F (pc := 131) (hk.s c_127) hg (by decide +kernel) ?_
      refine j_if_ne F (pc := 132) (off := 7) (tgt := 139) (by decide +kernel) (by decide) (fun c => ?_) (fun c => ?_)
      · rw [if_neg c] at h
        refine j_aload_n F (pc := 139) (q := 0) (by decide +kernel) rfl ?_
        refine j_iload_n F (pc := 140) (q := 1) (by decide +kernel) rfl ?_
        refine j_iload_n F (pc := 141) (q := 2) (by decide +kernel) rfl ?_
        refine j_iload F (pc := 142) (i := 5) (by decide +kernel) rfl ?_
        obtain ⟨r10, μ11, hc13, h⟩ := z_b2_some h
        refine j_callVi F (pc := 144) (idx := 326) (As := [.int x1, .int x2, .int x_8]) (st := []) (t_X5_findStep (G := E.1) hρ hk hc13) q_X5_findStep v_X5_findStep m_1264 (hk.s c_98) rfl rfl (by decide) (Nat.le_of_ble_eq_true rfl) rfl (by decide +kernel) (fun s16 ν14 hq15 hp => ?_)
        obtain ⟨rfl, rfl⟩ := hp
        have hρ12 : μ11.2.2 = ρ := hq15.trans hρ
        refine j_istore F (pc := 147) (i := 6) (L' := [some (.ref 98), some (.int x1), some (.int x2), none, some (.int x4), some (.int x_8), some (.int r10)]) (by decide +kernel) (by decide) rfl rfl ?_
        refine u_X5_payAll_149 F Rt hk (fun y32 y33 y34 μ30 hρ31 h => ?_) z_N _ _ _ _ _ _ hρ12 h
        exact ih _ _ _ _ hρ31 h
      · rw [if_pos c] at h
        refine j_iconst F (pc := 135) (n := 0) (v := 0) (by decide +kernel) (by decide +kernel) ?_
        refine j_goto F (pc := 136) (off := 11) (tgt := 147) (by decide +kernel) (by decide) ?_
        refine j_istore F (pc := 147) (i := 6) (L' := [some (.ref 98), some (.int x1), some (.int x2), none, some (.int x4), some (.int x_8), some (.int (0 : Int32))]) (by decide +kernel) (by decide) rfl rfl ?_
        refine u_X5_payAll_149 F Rt hk (fun y37 y38 y39 μ35 hρ36 h => ?_) z_N _ _ _ _ _ _ hρ h
        exact ih _ _ _ _ hρ36 h
set_option maxHeartbeats 4000000 in
set_option maxRecDepth 100000 in
theorem u_X5_payAll_50 {E : z_E} {ρ : Nat → Nat → Option Nat} {r : Int32} {μr : z_M} (F : z_F E RX5 cX5_payAll 7 4) (Rt : z_R E (some .int) (fun v μ1 => μ1.2.2 = ρ ∧ ∃ r1, v = some (.int r1) ∧ r = r1 ∧ μr = μ1))  (hk : z_ok (z_sh E.1) ρ) : ∀ (n : Nat) (x1 : Int32) (x2 : Int32) (x3 : Int32) (μ : z_M), μ.2.2 = ρ → g_X5_payAll_50   n x1 x2 x3 μ = some (r, μr) → z_J E 7 50 [some (.ref 98), some (.int x1), some (.int x2), some (.int x3), none, none, none] [] μ := by
  intro n
  induction n with
  | zero =>
    intro x1 x2 x3 μ hρ h
    rw [g_X5_payAll_50] at h
    cases h
  | succ n ih =>
    intro x1 x2 x3 μ hρ h
    rw [g_X5_payAll_50] at h
    refine j_iload_n F (pc := 50) (q := 3) (by decide +kernel) rfl ?_
    refine j_iconst F (pc := 51) (n := 3) (v := 3) (by decide +kernel) (by decide +kernel) ?_
    refine j_icmp_ge F (pc := 52) (off := 16) (tgt := 68) (by decide +kernel) (by decide) (fun c => ?_) (fun c => ?_)
    · rw [if_pos c] at h
      refine j_aload_n F (pc := 68) (q := 0) (by decide +kernel) rfl ?_
      refine j_getR F (pc := 69) (hk.r hρ r_98_5) fl_X5_26 (hk.s c_98) rfl (by decide +kernel) ?_
      refine j_iconst F (pc := 72) (n := 5) (v := 5) (by decide +kernel) (by decide +kernel) ?_
      refine j_iload_n F (pc := 73) (q := 1) (by decide +kernel) rfl ?_
      refine j_imul F (pc := 74) (by decide +kernel) ?_
      refine j_iconst F (pc := 75) (n := 3) (v := 3) (by decide +kernel) (by decide +kernel) ?_
      refine j_iadd F (pc := 76) (by decide +kernel) ?_
      obtain ⟨hg, h⟩ := z_ifs h
      refine j_iald F (pc := 77) (hk.s c_104) hg (by decide +kernel) ?_
      obtain ⟨x_1, e2, h⟩ := z_lt_some h
      rw [← e2]
      refine j_istore_n F (pc := 78) (q := 3) (L' := [some (.ref 98), some (.int x1), some (.int x2), some (.int x_1), none, none, none]) (by decide +kernel) (by decide) rfl rfl ?_
      refine j_aload_n F (pc := 79) (q := 0) (by decide +kernel) rfl ?_
      refine j_getR F (pc := 80) (hk.r hρ r_98_39) fl_X5_99 (hk.s c_98) rfl (by decide +kernel) ?_
      refine j_iconst F (pc := 83) (n := 0) (v := 0) (by decide +kernel) (by decide +kernel) ?_
      refine j_iload_n F (pc := 84) (q := 3) (by decide +kernel) rfl ?_
      refine j_aload_n F (pc := 85) (q := 0) (by decide +kernel) rfl ?_
      refine j_getR F (pc := 86) (hk.r hρ r_98_39) fl_X5_99 (hk.s c_98) rfl (by decide +kernel) ?_
      refine j_iconst F (pc := 89) (n := 0) (v := 0) (by decide +kernel) (by decide +kernel) ?_
      obtain ⟨hg, h⟩ := z_ifs h
      refine j_iald F (pc := 90) (hk.s c_127) hg (by decide +kernel) ?_
      obtain ⟨hg, h⟩ := z_ifs h
      suffices hj : z_J E 7 106 [some (.ref 98), some (.int x1), some (.int x2), some (.int x_1), none, none, none] (.int (if (μ.1 127 (0 : Int32).toNatClampNeg) ≤ x_1 then (0 : Int32) else ((μ.1 127 (0 : Int32).toNatClampNeg) - x_1)) :: [.int (0 : Int32), .ref 127]) μ by
        refine j_icmp_ge F (pc := 91) (off := 14) (tgt := 105) (by decide +kernel) (by decide) (fun c0 => ?_) (fun c0 => ?_)
        · rw [if_pos c0] at hj
          refine j_iconst F (pc := 105) (n := 0) (v := 0) (by decide +kernel) (by decide +kernel) ?_
          exact hj
        · rw [if_neg c0] at hj
          refine j_aload_n F (pc := 94) (q := 0) (by decide +kernel) rfl ?_
          refine j_getR F (pc := 95) (hk.r hρ r_98_39) fl_X5_99 (hk.s c_98) rfl (by decide +kernel) ?_
          refine j_iconst F (pc := 98) (n := 0) (v := 0) (by decide +kernel) (by decide +kernel) ?_
          refine j_iald F (pc := 99) (hk.s c_127) (hg c0) (by decide +kernel) ?_
          refine j_iload_n F (pc := 100) (q := 3) (by decide +kernel) rfl ?_
          refine j_isub F (pc := 101) (by decide +kernel) ?_
          refine j_goto F (pc := 102) (off := 4) (tgt := 106) (by decide +kernel) (by decide) ?_
          exact hj
      obtain ⟨hg, h⟩ := z_ifs h
      refine j_iast F (pc := 106) (hk.s c_127) hg (by decide +kernel) ?_
      obtain ⟨μ3, e5, h⟩ := z_st_some h
      rw [← e5]
      have hρ4 : μ3.2.2 = ρ := by rw [e5]; exact hρ
      refine j_iconst F (pc := 107) (n := 0) (v := 0) (by decide +kernel) (by decide +kernel) ?_
      refine j_istore F (pc := 108) (i := 4) (L' := [some (.ref 98), some (.int x1), some (.int x2), some (.int x_1), some (.int (0 : Int32)), none, none]) (by decide +kernel) (by decide) rfl rfl ?_
      refine j_mk F [true, true, true, false, true, false, false] (L' := [some (.ref 98), some (.int x1), some (.int x2), none, some (.int (0 : Int32)), none, none]) rfl ?_
      refine u_X5_payAll_110 F Rt hk  z_N _ _ _ _ hρ4 h
    · rw [if_neg c] at h
      refine j_aload_n F (pc := 55) (q := 0) (by decide +kernel) rfl ?_
      refine j_getR F (pc := 56) (hk.r hρ r_98_41) fl_X5_105 (hk.s c_98) rfl (by decide +kernel) ?_
      refine j_iload_n F (pc := 59) (q := 3) (by decide +kernel) rfl ?_
      refine j_iconst F (pc := 60) (n := 0) (v := 0) (by decide +kernel) (by decide +kernel) ?_
      obtain ⟨hg, h⟩ := z_ifs h
      refine j_iast F (pc := 61) (hk.s c_129) hg (by decide +kernel) ?_
      obtain ⟨μ40, e42, h⟩ := z_st_some h
      rw [← e42]
      have hρ41 : μ40.2.2 = ρ := by rw [e42]; exact hρ
      refine j_iinc F (pc := 62) (i := 3) (n := 1) (v := 1) (L' := [some (.ref 98), some (.int x1), some (.int x2), some (.int (x3 + (1 : Int32))), none, none, none]) (by decide +kernel) rfl (by decide +kernel) (by decide) rfl rfl ?_
      refine j_goto F (pc := 65) (off := -15) (tgt := 50) (by decide +kernel) (by decide) ?_
      exact ih _ _ _ _ hρ41 h
set_option maxHeartbeats 4000000 in
set_option maxRecDepth 100000 in
theorem u_X5_payAll_25 {E : z_E} {ρ : Nat → Nat → Option Nat} {r : Int32} {μr : z_M} (F : z_F E RX5 cX5_payAll 7 4) (Rt : z_R E (some .int) (fun v μ1 => μ1.2.2 = ρ ∧ ∃ r1, v = some (.int r1) ∧ r = r1 ∧ μr = μ1))  (hk : z_ok (z_sh E.1) ρ) : ∀ (n : Nat) (x1 : Int32) (x2 : Int32) (x3 : Int32) (μ : z_M), μ.2.2 = ρ → g_X5_payAll_25   n x1 x2 x3 μ = some (r, μr) → z_J E 7 25 [some (.ref 98), some (.int x1), some (.int x2), some (.int x3), none, none, none] [] μ := by
  intro n
  induction n with
  | zero =>
    intro x1 x2 x3 μ hρ h
    rw [g_X5_payAll_25] at h
    cases h
  | succ n ih =>
    intro x1 x2 x3 μ hρ h
    rw [g_X5_payAll_25] at h
    refine j_iload_n F (pc := 25) (q := 3) (by decide +kernel) rfl ?_
    refine j_iconst F (pc := 26) (n := 5) (v := 5) (by decide +kernel) (by decide +kernel) ?_
    refine j_icmp_ge F (pc := 27) (off := 21) (tgt := 48) (by decide +kernel) (by decide) (fun c => ?_) (fun c => ?_)
    · rw [if_pos c] at h
      refine j_iconst F (pc := 48) (n := 0) (v := 0) (by decide +kernel) (by decide +kernel) ?_
      refine j_istore_n F (pc := 49) (q := 3) (L' := [some (.ref 98), some (.int x1), some (.int x2), some (.int (0 : Int32)), none, none, none]) (by decide +kernel) (by decide) rfl rfl ?_
      refine u_X5_payAll_50 F Rt hk  z_N _ _ _ _ hρ h
    · rw [if_neg c] at h
      refine j_aload_n F (pc := 30) (q := 0) (by decide +kernel) rfl ?_
      refine j_getR F (pc := 31) (hk.r hρ r_98_39) fl_X5_99 (hk.s c_98) rfl (by decide +kernel) ?_
      refine j_iload_n F (pc := 34) (q := 3) (by decide +kernel) rfl ?_
      refine j_aload_n F (pc := 35) (q := 0) (by decide +kernel) rfl ?_
      refine j_getR F (pc := 36) (hk.r hρ r_98_36) fl_X5_90 (hk.s c_98) rfl (by decide +kernel) ?_
      refine j_iload_n F (pc := 39) (q := 3) (by decide +kernel) rfl ?_
      obtain ⟨hg, h⟩ := z_ifs h
      refine j_iald F (pc := 40) (hk.s c_124) hg (by decide +kernel) ?_
      obtain ⟨hg, h⟩ := z_ifs h
      refine j_iast F (pc := 41) (hk.s c_127) hg (by decide +kernel) ?_
      obtain ⟨μ43, e45, h⟩ := z_st_some h
      rw [← e45]
      have hρ44 : μ43.2.2 = ρ := by rw [e45]; exact hρ
      refine j_iinc F (pc := 42) (i := 3) (n := 1) (v := 1) (L' := [some (.ref 98), some (.int x1), some (.int x2), some (.int (x3 + (1 : Int32))), none, none, none]) (by decide +kernel) rfl (by decide +kernel) (by decide) rfl rfl ?_
      refine j_goto F (pc := 45) (off := -20) (tgt := 25) (by decide +kernel) (by decide) ?_
      exact ih _ _ _ _ hρ44 h
set_option maxHeartbeats 4000000 in
set_option maxRecDepth 100000 in
theorem u_X5_payAll_2 {E : z_E} {ρ : Nat → Nat → Option Nat} {r : Int32} {μr : z_M} (F : z_F E RX5 cX5_payAll 7 4) (Rt : z_R E (some .int) (fun v μ1 => μ1.2.2 = ρ ∧ ∃ r1, v = some (.int r1) ∧ r = r1 ∧ μr = μ1))  (hk : z_ok (z_sh E.1) ρ) : ∀ (n : Nat) (x1 : Int32) (x2 : Int32) (x3 : Int32) (μ : z_M), μ.2.2 = ρ → g_X5_payAll_2   n x1 x2 x3 μ = some (r, μr) → z_J E 7 2 [some (.ref 98), some (.int x1), some (.int x2), some (.int x3), none, none, none] [] μ := by
  intro n
  induction n with
  | zero =>
    intro x1 x2 x3 μ hρ h
    rw [g_X5_payAll_2] at h
    cases h
  | succ n ih =>
    intro x1 x2 x3 μ hρ h
    rw [g_X5_payAll_2] at h
    refine j_iload_n F (pc := 2) (q := 3) (by decide +kernel) rfl ?_
    refine j_aload_n F (pc := 3) (q := 0) (by decide +kernel) rfl ?_
    refine j_getI F (pc := 4) fl_X5_268 (hk.s c_98) rfl (by decide +kernel) ?_
    refine j_icmp_ge F (pc := 7) (off := 16) (tgt := 23) (by decide +kernel) (by decide) (fun c => ?_) (fun c => ?_)
    · rw [if_pos c] at h
      refine j_iconst F (pc := 23) (n := 0) (v := 0) (by decide +kernel) (by decide +kernel) ?_
      refine j_istore_n F (pc := 24) (q := 3) (L' := [some (.ref 98), some (.int x1), some (.int x2), some (.int (0 : Int32)), none, none, none]) (by decide +kernel) (by decide) rfl rfl ?_
      refine u_X5_payAll_25 F Rt hk  z_N _ _ _ _ hρ h
    · rw [if_neg c] at h
      refine j_aload_n F (pc := 10) (q := 0) (by decide +kernel) rfl ?_
      refine j_getR F (pc := 11) (hk.r hρ r_98_38) fl_X5_96 (hk.s c_98) rfl (by decide +kernel) ?_
      refine j_iload_n F (pc := 14) (q := 3) (by decide +kernel) rfl ?_
      refine j_iconst F (pc := 15) (n := 0) (v := 0) (by decide +kernel) (by decide +kernel) ?_
      obtain ⟨hg, h⟩ := z_ifs h
      refine j_iast F (pc := 16) (hk.s c_126) hg (by decide +kernel) ?_
      obtain ⟨μ46, e48, h⟩ := z_st_some h
      rw [← e48]
      have hρ47 : μ46.2.2 = ρ := by rw [e48]; exact hρ
      refine j_iinc F (pc := 17) (i := 3) (n := 1) (v := 1) (L' := [some (.ref 98), some (.int x1), some (.int x2), some (.int (x3 + (1 : Int32))), none, none, none]) (by decide +kernel) rfl (by decide +kernel) (by decide) rfl rfl ?_
      refine j_goto F (pc := 20) (off := -18) (tgt := 2) (by decide +kernel) (by decide) ?_
      exact ih _ _ _ _ hρ47 h
set_option maxHeartbeats 4000000 in
set_option maxRecDepth 100000 in
theorem t_X5_payAll {G : z_Gl} {ρ : Nat → Nat → Option Nat} {μ : z_M} {r : Int32} {μr : z_M} {x1 : Int32} {x2 : Int32} (hρ : μ.2.2 = ρ) (hk : z_ok (z_sh G) ρ) (h : f_X5_payAll x1 x2 μ = some (r, μr)) : z_Ci G yX5_payAll cX5_payAll 7 (some .int) 4 [.ref 98, .int x1, .int x2] μ (fun r1 μ1 => r = r1 ∧ μr = μ1) := by
  unfold z_Ci
  refine z_intro (by decide +kernel) (Nat.le_of_ble_eq_true rfl) (fun E hE F Rt => ?_)
  subst hE
  have F : z_F E RX5 cX5_payAll 7 4 := F
  rw [hρ] at Rt
  unfold f_X5_payAll at h
  show z_J E 7 0 [some (.ref 98), some (.int x1), some (.int x2), none, none, none, none] [] μ
  refine j_iconst F (pc := 0) (n := 0) (v := 0) (by decide +kernel) (by decide +kernel) ?_
  refine j_istore_n F (pc := 1) (q := 3) (L' := [some (.ref 98), some (.int x1), some (.int x2), some (.int (0 : Int32)), none, none, none]) (by decide +kernel) (by decide) rfl rfl ?_
  refine u_X5_payAll_2 F Rt hk  z_N _ _ _ _ hρ h
def g_X5_payOut_172   : Nat → Int32 → Int32 → Int32 → z_M → Option z_M
  | 0, _, _, _, _ => none
  | n + 1, x1, x2, x5, μ => (if (5 : Int32) ≤ x5 then (z_b2 (f_X5_payAll (x1) (x2) μ) fun r1 μ2 => (some μ2)) else (if z_in x5 5 then (if z_in x5 5 then (z_st (z_si μ 128 x5.toNatClampNeg (μ.1 131 x5.toNatClampNeg)) fun μ8 => (g_X5_payOut_172   n (x1) (x2) ((x5 + (1 : Int32))) μ8)) else none) else none))
def g_X5_payOut_137  (k_39 : Int32 → Int32 → Int32 → Int32 → Int32 → z_M → Option z_M) : Nat → Int32 → Int32 → Int32 → Int32 → Int32 → Int32 → z_M → Option z_M
  | 0, _, _, _, _, _, _, _ => none
  | n + 1, x1, x2, x3, x4, x5, x9, μ => (if (5 : Int32) ≤ x9 then (k_39 (x1) (x2) (x3) (x4) ((x5 + (1 : Int32))) μ) else (if z_in x9 5 then (if z_in x9 5 then (z_st (z_si μ 131 x9.toNatClampNeg (μ.1 128 x9.toNatClampNeg)) fun μ11 => (g_X5_payOut_137  k_39 n (x1) (x2) (x3) (x4) (x5) ((x9 + (1 : Int32))) μ11)) else none) else none))
def g_X5_payOut_121  (k_39 : Int32 → Int32 → Int32 → Int32 → Int32 → z_M → Option z_M) (x1 : Int32) (x2 : Int32) (x3 : Int32) (x4 : Int32) (x5 : Int32) (xs0 : Int32) (μ : z_M) : Option z_M :=
  (if xs0 ≤ x4 then (k_39 (x1) (x2) (x3) (x4) ((x5 + (1 : Int32))) μ) else (g_X5_payOut_137  (fun (y16 : Int32) (y17 : Int32) (y18 : Int32) (y19 : Int32) (y20 : Int32) (μ14 : z_M) => (k_39 (y16) (y17) (y18) (y19) (y20) μ14)) z_N (x1) (x2) (x3) (xs0) (x5) ((0 : Int32)) μ))
def g_X5_payOut_62  (k_39 : Int32 → Int32 → Int32 → Int32 → Int32 → z_M → Option z_M) : Nat → Int32 → Int32 → Int32 → Int32 → Int32 → Int32 → Int32 → Int32 → z_M → Option z_M
  | 0, _, _, _, _, _, _, _, _, _ => none
  | n + 1, x1, x2, x3, x4, x5, x6, x7, x8, μ => (if x8 < 0 then (if x6 = (31 : Int32) then (z_b2 (f_X5_payAll (x1) (x2) μ) fun r28 μ29 => (g_X5_payOut_121  (fun (y37 : Int32) (y38 : Int32) (y39 : Int32) (y40 : Int32) (y41 : Int32) (μ35 : z_M) => (k_39 (y37) (y38) (y39) (y40) (y41) μ35)) (x1) (x2) (x3) (x4) (x5) (r28) μ29)) else (g_X5_payOut_121  (fun (y23 : Int32) (y24 : Int32) (y25 : Int32) (y26 : Int32) (y27 : Int32) (μ21 : z_M) => (k_39 (y23) (y24) (y25) (y26) (y27) μ21)) (x1) (x2) (x3) (x4) (x5) ((-1 : Int32)) μ)) else (if ¬ (5 : Int32) = 0 then (if z_in x8 5 then (z_st (z_si μ 128 x8.toNatClampNeg (x7 - x7 / (5 : Int32) * (5 : Int32))) fun μ42 => (if z_in x8 5 then (z_lt (x6 ||| ((1 : Int32) <<< ((μ42.1 128 x8.toNatClampNeg) &&& 31))) fun x_45 => (if ¬ (5 : Int32) = 0 then (z_lt (x7 / (5 : Int32)) fun x_47 => (g_X5_payOut_62  k_39 n (x1) (x2) (x3) (x4) (x5) (x_45) (x_47) ((x8 + (-1 : Int32))) μ42)) else none)) else none)) else none) else none))
def g_X5_payOut_39   : Nat → Int32 → Int32 → Int32 → Int32 → Int32 → z_M → Option z_M
  | 0, _, _, _, _, _, _ => none
  | n + 1, x1, x2, x3, x4, x5, μ => (if (3125 : Int32) ≤ x5 then (g_X5_payOut_172   z_N (x1) (x2) ((0 : Int32)) μ) else (if x3 = (1 : Int32) then (g_X5_payOut_62  (fun (y51 : Int32) (y52 : Int32) (y53 : Int32) (y54 : Int32) (y55 : Int32) (μ49 : z_M) => (g_X5_payOut_39   n (y51) (y52) (y53) (y54) (y55) μ49)) z_N (x1) (x2) (x3) (x4) (x5) ((0 : Int32)) (x5) ((4 : Int32)) μ) else (g_X5_payOut_172   z_N (x1) (x2) ((0 : Int32)) μ)))
def g_X5_payOut_3   : Nat → Int32 → Int32 → Int32 → Int32 → z_M → Option z_M
  | 0, _, _, _, _, _ => none
  | n + 1, x1, x2, x3, x4, μ => (if (5 : Int32) ≤ x4 then (g_X5_payOut_39   z_N (x1) (x2) (x3) ((-1 : Int32)) ((0 : Int32)) μ) else (if z_in x4 5 then (z_st (z_si μ 128 x4.toNatClampNeg x4) fun μ56 => (if z_in x4 5 then (z_st (z_si μ56 131 x4.toNatClampNeg x4) fun μ59 => (g_X5_payOut_3   n (x1) (x2) (x3) ((x4 + (1 : Int32))) μ59)) else none)) else none))
def f_X5_payOut (x1 : Int32) (x2 : Int32) (x3 : Int32) (μ : z_M) : Option z_M :=
  (g_X5_payOut_3   z_N (x1) (x2) (x3) ((0 : Int32)) μ)
set_option maxHeartbeats 4000000 in
set_option maxRecDepth 100000 in
theorem u_X5_payOut_172 {E : z_E} {ρ : Nat → Nat → Option Nat} {μr : z_M} (F : z_F E RX5 cX5_payOut 10 5) (Rt : z_R E none (fun v μ1 => μ1.2.2 = ρ ∧ v = none ∧ μr = μ1))  (hk : z_ok (z_sh E.1) ρ) : ∀ (n : Nat) (x1 : Int32) (x2 : Int32) (x5 : Int32) (μ : z_M), μ.2.2 = ρ → g_X5_payOut_172   n x1 x2 x5 μ = some μr → z_J E 10 172 [some (.ref 98), some (.int x1), some (.int x2), none, none, some (.int x5), none, none, none, none] [] μ := by
  intro n
  induction n with
  | zero =>
    intro x1 x2 x5 μ hρ h
    rw [g_X5_payOut_172] at h
    cases h
  | succ n ih =>
    intro x1 x2 x5 μ hρ h
    rw [g_X5_payOut_172] at h
    refine j_iload F (pc := 172) (i := 5) (by decide +kernel) rfl ?_
    refine j_iconst F (pc := 174) (n := 5) (v := 5) (by decide +kernel) (by decide +kernel) ?_
    refine j_icmp_ge F (pc := 175) (off := 23) (tgt := 198) (by decide +kernel) (by decide) (fun c => ?_) (fun c => ?_)
    · rw [if_pos c] at h
      refine j_aload_n F (pc := 198) (q := 0) (by decide +kernel) rfl ?_
      refine j_iload_n F (pc := 199) (q := 1) (by decide +kernel) rfl ?_
      refine j_iload_n F (pc := 200) (q := 2) (by decide +kernel) rfl ?_
      obtain ⟨r1, μ2, hc4, h⟩ := z_b2_some h
      refine j_callVi F (pc := 201) (idx := 333) (As := [.int x1, .int x2]) (st := []) (t_X5_payAll (G := E.1) hρ hk hc4) q_X5_payAll v_X5_payAll m_1260 (hk.s c_98) rfl rfl (by decide) (Nat.le_of_ble_eq_true rfl) rfl (by decide +kernel) (fun s7 ν5 hq6 hp => ?_)
      obtain ⟨rfl, rfl⟩ := hp
      have hρ3 : μ2.2.2 = ρ := hq6.trans hρ
      refine j_pop F (pc := 204) (by decide +kernel) rfl ?_
      exact j_vret (st := []) F Rt (by decide +kernel) ⟨hρ3, rfl, (Option.some.inj h).symm⟩
    · rw [if_neg c] at h
      refine j_aload_n F (pc := 178) (q := 0) (by decide +kernel) rfl ?_
      refine j_getR F (pc := 179) (hk.r hρ r_98_40) fl_X5_102 (hk.s c_98) rfl (by decide +kernel) ?_
      refine j_iload F (pc := 182) (i := 5) (by decide +kernel) rfl ?_
      refine j_aload_n F (pc := 184) (q := 0) (by decide +kernel) rfl ?_
      refine j_getR F (pc := 185) (hk.r hρ r_98_43) fl_X5_111 (hk.s c_98) rfl (by decide +kernel) ?_
      refine j_iload F (pc := 188) (i := 5) (by decide +kernel) rfl ?_
      obtain ⟨hg, h⟩ := z_ifs h
      refine j_iald F (pc := 190) (hk.s c_131) hg (by decide +kernel) ?_
      obtain ⟨hg, h⟩ := z_ifs h
      refine j_iast F (pc := 191) (hk.s c_128) hg (by decide +kernel) ?_
      obtain ⟨μ8, e10, h⟩ := z_st_some h
      rw [← e10]
      have hρ9 : μ8.2.2 = ρ := by rw [e10]; exact hρ
      refine j_iinc F (pc := 192) (i := 5) (n := 1) (v := 1) (L' := [some (.ref 98), some (.int x1), some (.int x2), none, none, some (.int (x5 + (1 : Int32))), none, none, none, none]) (by decide +kernel) rfl (by decide +kernel) (by decide) rfl rfl ?_
      refine j_goto F (pc := 195) (off := -23) (tgt := 172) (by decide +kernel) (by decide) ?_
      exact ih _ _ _ _ hρ9 h
set_option maxHeartbeats 4000000 in
set_option maxRecDepth 100000 in
theorem u_X5_payOut_137 {E : z_E} {ρ : Nat → Nat → Option Nat} {μr : z_M} (F : z_F E RX5 cX5_payOut 10 5) (Rt : z_R E none (fun v μ1 => μ1.2.2 = ρ ∧ v = none ∧ μr = μ1))  (hk : z_ok (z_sh E.1) ρ) {k_39 : Int32 → Int32 → Int32 → Int32 → Int32 → z_M → Option z_M} (hc_39 : ∀ (y1 : Int32) (y2 : Int32) (y3 : Int32) (y4 : Int32) (y5 : Int32) (μ1 : z_M), μ1.2.2 = ρ → k_39 y1 y2 y3 y4 y5 μ1 = some μr → z_J E 10 39 [some (.ref 98), some (.int y1), some (.int y2), some (.int y3), some (.int y4), some (.int y5), none, none, none, none] [] μ1) : ∀ (n : Nat) (x1 : Int32) (x2 : Int32) (x3 : Int32) (x4 : Int32) (x5 : Int32) (x9 : Int32) (μ : z_M), μ.2.2 = ρ → g_X5_payOut_137  k_39 n x1 x2 x3 x4 x5 x9 μ = some μr → z_J E 10 137 [some (.ref 98), some (.int x1), some (.int x2), some (.int x3), some (.int x4), some (.int x5), none, none, none, some (.int x9)] [] μ := by
  intro n
  induction n with
  | zero =>
    intro x1 x2 x3 x4 x5 x9 μ hρ h
    rw [g_X5_payOut_137] at h
    cases h
  | succ n ih =>
    intro x1 x2 x3 x4 x5 x9 μ hρ h
    rw [g_X5_payOut_137] at h
    refine j_iload F (pc := 137) (i := 9) (by decide +kernel) rfl ?_
    refine j_iconst F (pc := 139) (n := 5) (v := 5) (by decide +kernel) (by decide +kernel) ?_
    refine j_icmp_ge F (pc := 140) (off := 23) (tgt := 163) (by decide +kernel) (by decide) (fun c => ?_) (fun c => ?_)
    · rw [if_pos c] at h
      refine j_iinc F (pc := 163) (i := 5) (n := 1) (v := 1) (L' := [some (.ref 98), some (.int x1), some (.int x2), some (.int x3), some (.int x4), some (.int (x5 + (1 : Int32))), none, none, none, some (.int x9)]) (by decide +kernel) rfl (by decide +kernel) (by decide) rfl rfl ?_
      refine j_goto F (pc := 166) (off := -127) (tgt := 39) (by decide +kernel) (by decide) ?_
      refine j_mk F [true, true, true, true, true, true, false, false, false, false] (L' := [some (.ref 98), some (.int x1), some (.int x2), some (.int x3), some (.int x4), some (.int (x5 + (1 : Int32))), none, none, none, none]) rfl ?_
      exact hc_39 _ _ _ _ _ _ hρ h
    · rw [if_neg c] at h
      refine j_aload_n F (pc := 143) (q := 0) (by decide +kernel) rfl ?_
      refine j_getR F (pc := 144) (hk.r hρ r_98_43) fl_X5_111 (hk.s c_98) rfl (by decide +kernel) ?_
      refine j_iload F (pc := 147) (i := 9) (by decide +kernel) rfl ?_
      refine j_aload_n F (pc := 149) (q := 0) (by decide +kernel) rfl ?_
      refine j_getR F (pc := 150) (hk.r hρ r_98_40) fl_X5_102 (hk.s c_98) rfl (by decide +kernel) ?_
      refine j_iload F (pc := 153) (i := 9) (by decide +kernel) rfl ?_
      obtain ⟨hg, h⟩ := z_ifs h
      refine j_iald F (pc := 155) (hk.s c_128) hg (by decide +kernel) ?_
      obtain ⟨hg, h⟩ := z_ifs h
      refine j_iast F (pc := 156) (hk.s c_131) hg (by decide +kernel) ?_
      obtain ⟨μ11, e13, h⟩ := z_st_some h
      rw [← e13]
      have hρ12 : μ11.2.2 = ρ := by rw [e13]; exact hρ
      refine j_iinc F (pc := 157) (i := 9) (n := 1) (v := 1) (L' := [some (.ref 98), some (.int x1), some (.int x2), some (.int x3), some (.int x4), some (.int x5), none, none, none, some (.int (x9 + (1 : Int32)))]) (by decide +kernel) rfl (by decide +kernel) (by decide) rfl rfl ?_
      refine j_goto F (pc := 160) (off := -23) (tgt := 137) (by decide +kernel) (by decide) ?_
      exact ih _ _ _ _ _ _ _ hρ12 h
set_option maxHeartbeats 4000000 in
set_option maxRecDepth 100000 in
theorem u_X5_payOut_121 {E : z_E} {ρ : Nat → Nat → Option Nat} {μr : z_M} (F : z_F E RX5 cX5_payOut 10 5) (Rt : z_R E none (fun v μ1 => μ1.2.2 = ρ ∧ v = none ∧ μr = μ1))  (hk : z_ok (z_sh E.1) ρ) {k_39 : Int32 → Int32 → Int32 → Int32 → Int32 → z_M → Option z_M} (hc_39 : ∀ (y1 : Int32) (y2 : Int32) (y3 : Int32) (y4 : Int32) (y5 : Int32) (μ1 : z_M), μ1.2.2 = ρ → k_39 y1 y2 y3 y4 y5 μ1 = some μr → z_J E 10 39 [some (.ref 98), some (.int y1), some (.int y2), some (.int y3), some (.int y4), some (.int y5), none, none, none, none] [] μ1) : ∀ (x1 : Int32) (x2 : Int32) (x3 : Int32) (x4 : Int32) (x5 : Int32) (xs0 : Int32) (μ : z_M), μ.2.2 = ρ → g_X5_payOut_121  k_39 x1 x2 x3 x4 x5 xs0 μ = some μr → z_J E 10 121 [some (.ref 98), some (.int x1), some (.int x2), some (.int x3), some (.int x4), some (.int x5), none, none, none, none] [.int xs0] μ := by
  intro x1 x2 x3 x4 x5 xs0 μ hρ h
  unfold g_X5_payOut_121 at h
  refine j_istore F (pc := 121) (i := 8) (L' := [some (.ref 98), some (.int x1), some (.int x2), some (.int x3), some (.int x4), some (.int x5), none, none, some (.int xs0), none]) (by decide +kernel) (by decide) rfl rfl ?_
  refine j_iload F (pc := 123) (i := 8) (by decide +kernel) rfl ?_
  refine j_iload F (pc := 125) (i := 4) (by decide +kernel) rfl ?_
  refine j_icmp_le F (pc := 127) (off := 36) (tgt := 163) (by decide +kernel) (by decide) (fun c => ?_) (fun c => ?_)
  · rw [if_pos c] at h
    refine j_iinc F (pc := 163) (i := 5) (n := 1) (v := 1) (L' := [some (.ref 98), some (.int x1), some (.int x2), some (.int x3), some (.int x4), some (.int (x5 + (1 : Int32))), none, none, some (.int xs0), none]) (by decide +kernel) rfl (by decide +kernel) (by decide) rfl rfl ?_
    refine j_goto F (pc := 166) (off := -127) (tgt := 39) (by decide +kernel) (by decide) ?_
    refine j_mk F [true, true, true, true, true, true, false, false, false, false] (L' := [some (.ref 98), some (.int x1), some (.int x2), some (.int x3), some (.int x4), some (.int (x5 + (1 : Int32))), none, none, none, none]) rfl ?_
    exact hc_39 _ _ _ _ _ _ hρ h
  · rw [if_neg c] at h
    refine j_iload F (pc := 130) (i := 8) (by decide +kernel) rfl ?_
    refine j_istore F (pc := 132) (i := 4) (L' := [some (.ref 98), some (.int x1), some (.int x2), some (.int x3), some (.int xs0), some (.int x5), none, none, some (.int xs0), none]) (by decide +kernel) (by decide) rfl rfl ?_
    refine j_iconst F (pc := 134) (n := 0) (v := 0) (by decide +kernel) (by decide +kernel) ?_
    refine j_istore F (pc := 135) (i := 9) (L' := [some (.ref 98), some (.int x1), some (.int x2), some (.int x3), some (.int xs0), some (.int x5), none, none, some (.int xs0), some (.int (0 : Int32))]) (by decide +kernel) (by decide) rfl rfl ?_
    refine j_mk F [true, true, true, true, true, true, false, false, false, true] (L' := [some (.ref 98), some (.int x1), some (.int x2), some (.int x3), some (.int xs0), some (.int x5), none, none, none, some (.int (0 : Int32))]) rfl ?_
    refine u_X5_payOut_137 F Rt hk (fun y16 y17 y18 y19 y20 μ14 hρ15 h => ?_) z_N _ _ _ _ _ _ _ hρ h
    exact hc_39 _ _ _ _ _ _ hρ15 h
set_option maxHeartbeats 4000000 in
set_option maxRecDepth 100000 in
theorem u_X5_payOut_62 {E : z_E} {ρ : Nat → Nat → Option Nat} {μr : z_M} (F : z_F E RX5 cX5_payOut 10 5) (Rt : z_R E none (fun v μ1 => μ1.2.2 = ρ ∧ v = none ∧ μr = μ1))  (hk : z_ok (z_sh E.1) ρ) {k_39 : Int32 → Int32 → Int32 → Int32 → Int32 → z_M → Option z_M} (hc_39 : ∀ (y1 : Int32) (y2 : Int32) (y3 : Int32) (y4 : Int32) (y5 : Int32) (μ1 : z_M), μ1.2.2 = ρ → k_39 y1 y2 y3 y4 y5 μ1 = some μr → z_J E 10 39 [some (.ref 98), some (.int y1), some (.int y2), some (.int y3), some (.int y4), some (.int y5), none, none, none, none] [] μ1) : ∀ (n : Nat) (x1 : Int32) (x2 : Int32) (x3 : Int32) (x4 : Int32) (x5 : Int32) (x6 : Int32) (x7 : Int32) (x8 : Int32) (μ : z_M), μ.2.2 = ρ → g_X5_payOut_62  k_39 n x1 x2 x3 x4 x5 x6 x7 x8 μ = some μr → z_J E 10 62 [some (.ref 98), some (.int x1), some (.int x2), some (.int x3), some (.int x4), some (.int x5), some (.int x6), some (.int x7), some (.int x8), none] [] μ := by
  intro n
  induction n with
  | zero =>
    intro x1 x2 x3 x4 x5 x6 x7 x8 μ hρ h
    rw [g_X5_payOut_62] at h
    cases h
  | succ n ih =>
    intro x1 x2 x3 x4 x5 x6 x7 x8 μ hρ h
    rw [g_X5_payOut_62] at h
    refine j_iload F (pc := 62) (i := 8) (by decide +kernel) rfl ?_
    refine j_if_lt F (pc := 64) (off := 40) (tgt := 104) (by decide +kernel) (by decide) (fun c => ?_) (fun c => ?_)
    · rw [if_pos c] at h
      refine j_iload F (pc := 104) (i := 6) (by decide +kernel) rfl ?_
      refine j_bipush F (pc := 106) (n := 31) (v := 31) (by decide +kernel) (by decide +kernel) ?_
      refine j_icmp_ne F (pc := 108) (off := 12) (tgt := 120) (by decide +kernel) (by decide) (fun c => ?_) (fun c => ?_)
      · rw [if_neg c] at h
        refine j_iconst F (pc := 120) (n := -1) (v := -1) (by decide +kernel) (by decide +kernel) ?_
        refine j_mk F [true, true, true, true, true, true, false, false, false, false] (L' := [some (.ref 98), some (.int x1), some (.int x2), some (.int x3), some (.int x4), some (.int x5), none, none, none, none]) rfl ?_
        refine u_X5_payOut_121 F Rt hk (fun y23 y24 y25 y26 y27 μ21 hρ22 h => ?_) _ _ _ _ _ _ _ hρ h
        exact hc_39 _ _ _ _ _ _ hρ22 h
      · rw [if_pos c] at h
        refine j_aload_n F (pc := 111) (q := 0) (by decide +kernel) rfl ?_
        refine j_iload_n F (pc := 112) (q := 1) (by decide +kernel) rfl ?_
        refine j_iload_n F (pc := 113) (q := 2) (by decide +kernel) rfl ?_
        obtain ⟨r28, μ29, hc31, h⟩ := z_b2_some h
        refine j_callVi F (pc := 114) (idx := 333) (As := [.int x1, .int x2]) (st := []) (t_X5_payAll (G := E.1) hρ hk hc31) q_X5_payAll v_X5_payAll m_1260 (hk.s c_98) rfl rfl (by decide) (Nat.le_of_ble_eq_true rfl) rfl (by decide +kernel) (fun s34 ν32 hq33 hp => ?_)
        obtain ⟨rfl, rfl⟩ := hp
        have hρ30 : μ29.2.2 = ρ := hq33.trans hρ
        refine j_goto F (pc := 117) (off := 4) (tgt := 121) (by decide +kernel) (by decide) ?_
        refine j_mk F [true, true, true, true, true, true, false, false, false, false] (L' := [some (.ref 98), some (.int x1), some (.int x2), some (.int x3), some (.int x4), some (.int x5), none, none, none, none]) rfl ?_
        refine u_X5_payOut_121 F Rt hk (fun y37 y38 y39 y40 y41 μ35 hρ36 h => ?_) _ _ _ _ _ _ _ hρ30 h
        exact hc_39 _ _ _ _ _ _ hρ36 h
    · rw [if_neg c] at h
      refine j_aload_n F (pc := 67) (q := 0) (by decide +kernel) rfl ?_
      refine j_getR F (pc := 68) (hk.r hρ r_98_40) fl_X5_102 (hk.s c_98) rfl (by decide +kernel) ?_
      refine j_iload F (pc := 71) (i := 8) (by decide +kernel) rfl ?_
      refine j_iload F (pc := 73) (i := 7) (by decide +kernel) rfl ?_
      refine j_iconst F (pc := 75) (n := 5) (v := 5) (by decide +kernel) (by decide +kernel) ?_
      obtain ⟨hg, h⟩ := z_ifs h
      refine j_irem F (pc := 76) (by decide +kernel) hg ?_
      obtain ⟨hg, h⟩ := z_ifs h
      refine j_iast F (pc := 77) (hk.s c_128) hg (by decide +kernel) ?_
      obtain ⟨μ42, e44, h⟩ := z_st_some h
      rw [← e44]
      have hρ43 : μ42.2.2 = ρ := by rw [e44]; exact hρ
      refine j_iload F (pc := 78) (i := 6) (by decide +kernel) rfl ?_
      refine j_iconst F (pc := 80) (n := 1) (v := 1) (by decide +kernel) (by decide +kernel) ?_
      refine j_aload_n F (pc := 81) (q := 0) (by decide +kernel) rfl ?_
      refine j_getR F (pc := 82) (hk.r hρ43 r_98_40) fl_X5_102 (hk.s c_98) rfl (by decide +kernel) ?_
      refine j_iload F (pc := 85) (i := 8) (by decide +kernel) rfl ?_
      obtain ⟨hg, h⟩ := z_ifs h
      refine j_iald F (pc := 87) (hk.s c_128) hg (by decide +kernel) ?_
      refine j_ishl F (pc := 88) (by decide +kernel) ?_
      refine j_ior F (pc := 89) (by decide +kernel) ?_
      obtain ⟨x_45, e46, h⟩ := z_lt_some h
      rw [← e46]
      refine j_istore F (pc := 90) (i := 6) (L' := [some (.ref 98), some (.int x1), some (.int x2), some (.int x3), some (.int x4), some (.int x5), some (.int x_45), some (.int x7), some (.int x8), none]) (by decide +kernel) (by decide) rfl rfl ?_
      refine j_iload F (pc := 92) (i := 7) (by decide +kernel) rfl ?_
      refine j_iconst F (pc := 94) (n := 5) (v := 5) (by decide +kernel) (by decide +kernel) ?_
      obtain ⟨hg, h⟩ := z_ifs h
      refine j_idiv F (pc := 95) (by decide +kernel) hg ?_
      obtain ⟨x_47, e48, h⟩ := z_lt_some h
      rw [← e48]
      refine j_istore F (pc := 96) (i := 7) (L' := [some (.ref 98), some (.int x1), some (.int x2), some (.int x3), some (.int x4), some (.int x5), some (.int x_45), some (.int x_47), some (.int x8), none]) (by decide +kernel) (by decide) rfl rfl ?_
      refine j_iinc F (pc := 98) (i := 8) (n := -1) (v := -1) (L' := [some (.ref 98), some (.int x1), some (.int x2), some (.int x3), some (.int x4), some (.int x5), some (.int x_45), some (.int x_47), some (.int (x8 + (-1 : Int32))), none]) (by decide +kernel) rfl (by decide +kernel) (by decide) rfl rfl ?_
      refine j_goto F (pc := 101) (off := -39) (tgt := 62) (by decide +kernel) (by decide) ?_
      exact ih _ _ _ _ _ _ _ _ _ hρ43 h
set_option maxHeartbeats 4000000 in
set_option maxRecDepth 100000 in
theorem u_X5_payOut_39 {E : z_E} {ρ : Nat → Nat → Option Nat} {μr : z_M} (F : z_F E RX5 cX5_payOut 10 5) (Rt : z_R E none (fun v μ1 => μ1.2.2 = ρ ∧ v = none ∧ μr = μ1))  (hk : z_ok (z_sh E.1) ρ) : ∀ (n : Nat) (x1 : Int32) (x2 : Int32) (x3 : Int32) (x4 : Int32) (x5 : Int32) (μ : z_M), μ.2.2 = ρ → g_X5_payOut_39   n x1 x2 x3 x4 x5 μ = some μr → z_J E 10 39 [some (.ref 98), some (.int x1), some (.int x2), some (.int x3), some (.int x4), some (.int x5), none, none, none, none] [] μ := by
  intro n
  induction n with
  | zero =>
    intro x1 x2 x3 x4 x5 μ hρ h
    rw [g_X5_payOut_39] at h
    cases h
  | succ n ih =>
    intro x1 x2 x3 x4 x5 μ hρ h
    rw [g_X5_payOut_39] at h
    refine j_iload F (pc := 39) (i := 5) (by decide +kernel) rfl ?_
    refine j_sipush F (pc := 41) (n := 3125) (v := 3125) (by decide +kernel) (by decide +kernel) ?_
    refine j_icmp_ge F (pc := 44) (off := 125) (tgt := 169) (by decide +kernel) (by decide) (fun c => ?_) (fun c => ?_)
    · rw [if_pos c] at h
      refine j_iconst F (pc := 169) (n := 0) (v := 0) (by decide +kernel) (by decide +kernel) ?_
      refine j_istore F (pc := 170) (i := 5) (L' := [some (.ref 98), some (.int x1), some (.int x2), some (.int x3), some (.int x4), some (.int (0 : Int32)), none, none, none, none]) (by decide +kernel) (by decide) rfl rfl ?_
      refine j_mk F [true, true, true, false, false, true, false, false, false, false] (L' := [some (.ref 98), some (.int x1), some (.int x2), none, none, some (.int (0 : Int32)), none, none, none, none]) rfl ?_
      refine u_X5_payOut_172 F Rt hk  z_N _ _ _ _ hρ h
    · rw [if_neg c] at h
      refine j_iload_n F (pc := 47) (q := 3) (by decide +kernel) rfl ?_
      refine j_iconst F (pc := 48) (n := 1) (v := 1) (by decide +kernel) (by decide +kernel) ?_
      refine j_icmp_ne F (pc := 49) (off := 120) (tgt := 169) (by decide +kernel) (by decide) (fun c => ?_) (fun c => ?_)
      · rw [if_neg c] at h
        refine j_iconst F (pc := 169) (n := 0) (v := 0) (by decide +kernel) (by decide +kernel) ?_
        refine j_istore F (pc := 170) (i := 5) (L' := [some (.ref 98), some (.int x1), some (.int x2), some (.int x3), some (.int x4), some (.int (0 : Int32)), none, none, none, none]) (by decide +kernel) (by decide) rfl rfl ?_
        refine j_mk F [true, true, true, false, false, true, false, false, false, false] (L' := [some (.ref 98), some (.int x1), some (.int x2), none, none, some (.int (0 : Int32)), none, none, none, none]) rfl ?_
        refine u_X5_payOut_172 F Rt hk  z_N _ _ _ _ hρ h
      · rw [if_pos c] at h
        refine j_iconst F (pc := 52) (n := 0) (v := 0) (by decide +kernel) (by decide +kernel) ?_
        refine j_istore F (pc := 53) (i := 6) (L' := [some (.ref 98), some (.int x1), some (.int x2), some (.int x3), some (.int x4), some (.int x5), some (.int (0 : Int32)), none, none, none]) (by decide +kernel) (by decide) rfl rfl ?_
        refine j_iload F (pc := 55) (i := 5) (by decide +kernel) rfl ?_
        refine j_istore F (pc := 57) (i := 7) (L' := [some (.ref 98), some (.int x1), some (.int x2), some (.int x3), some (.int x4), some (.int x5), some (.int (0 : Int32)), some (.int x5), none, none]) (by decide +kernel) (by decide) rfl rfl ?_
        refine j_iconst F (pc := 59) (n := 4) (v := 4) (by decide +kernel) (by decide +kernel) ?_
        refine j_istore F (pc := 60) (i := 8) (L' := [some (.ref 98), some (.int x1), some (.int x2), some (.int x3), some (.int x4), some (.int x5), some (.int (0 : Int32)), some (.int x5), some (.int (4 : Int32)), none]) (by decide +kernel) (by decide) rfl rfl ?_
        refine u_X5_payOut_62 F Rt hk (fun y51 y52 y53 y54 y55 μ49 hρ50 h => ?_) z_N _ _ _ _ _ _ _ _ _ hρ h
        exact ih _ _ _ _ _ _ hρ50 h
set_option maxHeartbeats 4000000 in
set_option maxRecDepth 100000 in
theorem u_X5_payOut_3 {E : z_E} {ρ : Nat → Nat → Option Nat} {μr : z_M} (F : z_F E RX5 cX5_payOut 10 5) (Rt : z_R E none (fun v μ1 => μ1.2.2 = ρ ∧ v = none ∧ μr = μ1))  (hk : z_ok (z_sh E.1) ρ) : ∀ (n : Nat) (x1 : Int32) (x2 : Int32) (x3 : Int32) (x4 : Int32) (μ : z_M), μ.2.2 = ρ → g_X5_payOut_3   n x1 x2 x3 x4 μ = some μr → z_J E 10 3 [some (.ref 98), some (.int x1), some (.int x2), some (.int x3), some (.int x4), none, none, none, none, none] [] μ := by
  intro n
  induction n with
  | zero =>
    intro x1 x2 x3 x4 μ hρ h
    rw [g_X5_payOut_3] at h
    cases h
  | succ n ih =>
    intro x1 x2 x3 x4 μ hρ h
    rw [g_X5_payOut_3] at h
    refine j_iload F (pc := 3) (i := 4) (by decide +kernel) rfl ?_
    refine j_iconst F (pc := 5) (n := 5) (v := 5) (by decide +kernel) (by decide +kernel) ?_
    refine j_icmp_ge F (pc := 6) (off := 27) (tgt := 33) (by decide +kernel) (by decide) (fun c => ?_) (fun c => ?_)
    · rw [if_pos c] at h
      refine j_iconst F (pc := 33) (n := -1) (v := -1) (by decide +kernel) (by decide +kernel) ?_
      refine j_istore F (pc := 34) (i := 4) (L' := [some (.ref 98), some (.int x1), some (.int x2), some (.int x3), some (.int (-1 : Int32)), none, none, none, none, none]) (by decide +kernel) (by decide) rfl rfl ?_
      refine j_iconst F (pc := 36) (n := 0) (v := 0) (by decide +kernel) (by decide +kernel) ?_
      refine j_istore F (pc := 37) (i := 5) (L' := [some (.ref 98), some (.int x1), some (.int x2), some (.int x3), some (.int (-1 : Int32)), some (.int (0 : Int32)), none, none, none, none]) (by decide +kernel) (by decide) rfl rfl ?_
      refine u_X5_payOut_39 F Rt hk  z_N _ _ _ _ _ _ hρ h
    · rw [if_neg c] at h
      refine j_aload_n F (pc := 9) (q := 0) (by decide +kernel) rfl ?_
      refine j_getR F (pc := 10) (hk.r hρ r_98_40) fl_X5_102 (hk.s c_98) rfl (by decide +kernel) ?_
      refine j_iload F (pc := 13) (i := 4) (by decide +kernel) rfl ?_
      refine j_iload F (pc := 15) (i := 4) (by decide +kernel) rfl ?_
      obtain ⟨hg, h⟩ := z_ifs h
      refine j_iast F (pc := 17) (hk.s c_128) hg (by decide +kernel) ?_
      obtain ⟨μ56, e58, h⟩ := z_st_some h
      rw [← e58]
      have hρ57 : μ56.2.2 = ρ := by rw [e58]; exact hρ
      refine j_aload_n F (pc := 18) (q := 0) (by decide +kernel) rfl ?_
      refine j_getR F (pc := 19) (hk.r hρ57 r_98_43) fl_X5_111 (hk.s c_98) rfl (by decide +kernel) ?_
      refine j_iload F (pc := 22) (i := 4) (by decide +kernel) rfl ?_
      refine j_iload F (pc := 24) (i := 4) (by decide +kernel) rfl ?_
      obtain ⟨hg, h⟩ := z_ifs h
      refine j_iast F (pc := 26) (hk.s c_131) hg (by decide +kernel) ?_
      obtain ⟨μ59, e61, h⟩ := z_st_some h
      rw [← e61]
      have hρ60 : μ59.2.2 = ρ := by rw [e61]; exact hρ57
      refine j_iinc F (pc := 27) (i := 4) (n := 1) (v := 1) (L' := [some (.ref 98), some (.int x1), some (.int x2), some (.int x3), some (.int (x4 + (1 : Int32))), none, none, none, none, none]) (by decide +kernel) rfl (by decide +kernel) (by decide) rfl rfl ?_
      refine j_goto F (pc := 30) (off := -27) (tgt := 3) (by decide +kernel) (by decide) ?_
      exact ih _ _ _ _ _ hρ60 h
set_option maxHeartbeats 4000000 in
set_option maxRecDepth 100000 in
theorem t_X5_payOut {G : z_Gl} {ρ : Nat → Nat → Option Nat} {μ : z_M} {μr : z_M} {x1 : Int32} {x2 : Int32} {x3 : Int32} (hρ : μ.2.2 = ρ) (hk : z_ok (z_sh G) ρ) (h : f_X5_payOut x1 x2 x3 μ = some μr) : z_Cv G yX5_payOut cX5_payOut 10 none 5 [.ref 98, .int x1, .int x2, .int x3] μ (fun μ1 => μr = μ1) := by
  unfold z_Cv
  refine z_intro (by decide +kernel) (Nat.le_of_ble_eq_true rfl) (fun E hE F Rt => ?_)
  subst hE
  have F : z_F E RX5 cX5_payOut 10 5 := F
  rw [hρ] at Rt
  unfold f_X5_payOut at h
  show z_J E 10 0 [some (.ref 98), some (.int x1), some (.int x2), some (.int x3), none, none, none, none, none, none] [] μ
  refine j_iconst F (pc := 0) (n := 0) (v := 0) (by decide +kernel) (by decide +kernel) ?_
  refine j_istore F (pc := 1) (i := 4) (L' := [some (.ref 98), some (.int x1), some (.int x2), some (.int x3), some (.int (0 : Int32)), none, none, none, none, none]) (by decide +kernel) (by decide) rfl rfl ?_
  refine u_X5_payOut_3 F Rt hk  z_N _ _ _ _ _ hρ h
/-- LastLentModel.paid -/
def f_X5_paid (x1 : Int32) (x2 : Int32) (x3 : Int32) (x4 : Int32) (μ : z_M) : Option (Int32 × z_M) :=
  (z_b2 (f_X5_isLand (x1) μ) fun r1 μ2 => (if r1 = 0 then (some ((-1001 : Int32), μ2)) else (z_b2 (f_X5_isClaim (x4) μ2) fun r8 μ9 => (if r8 = 0 then (some ((-1001 : Int32), μ9)) else (z_b2 (f_X5_isGood (x2) (x3) μ9) fun r15 μ16 => (if r15 = 0 then (some ((-1002 : Int32), μ16)) else (z_b1 (f_X5_payOut (x1) (x2) (x3) μ16) fun μ23 => (if z_in x4 15 then (some ((μ23.1 126 x4.toNatClampNeg), μ23)) else none))))))))
set_option maxHeartbeats 4000000 in
set_option maxRecDepth 100000 in
theorem t_X5_paid {G : z_Gl} {ρ : Nat → Nat → Option Nat} {μ : z_M} {r : Int32} {μr : z_M} {x1 : Int32} {x2 : Int32} {x3 : Int32} {x4 : Int32} (hρ : μ.2.2 = ρ) (hk : z_ok (z_sh G) ρ) (h : f_X5_paid x1 x2 x3 x4 μ = some (r, μr)) : z_Ci G yX5_paid cX5_paid 5 (some .int) 6 [.ref 98, .int x1, .int x2, .int x3, .int x4] μ (fun r1 μ1 => r = r1 ∧ μr = μ1) := by
  unfold z_Ci
  refine z_intro (by decide +kernel) (Nat.le_of_ble_eq_true rfl) (fun E hE F Rt => ?_)
  subst hE
  have F : z_F E RX5 cX5_paid 5 6 := F
  rw [hρ] at Rt
  unfold f_X5_paid at h
  show z_J E 5 0 [some (.ref 98), some (.int x1), some (.int x2), some (.int x3), some (.int x4)] [] μ
  refine j_iload_n F (pc := 0) (q := 1) (by decide +kernel) rfl ?_
  obtain ⟨r1, μ2, hc4, h⟩ := z_b2_some h
  refine j_callSi F (pc := 1) (idx := 246) (As := [.int x1]) (st := []) (t_X5_isLand (G := E.1) hρ  hc4) q_X5_isLand m_1058 m_1057 rfl (by decide) (Nat.le_of_ble_eq_true rfl) rfl (by decide +kernel) (fun s7 ν5 hq6 hp => ?_)
  obtain ⟨rfl, rfl⟩ := hp
  have hρ3 : μ2.2.2 = ρ := hq6.trans hρ
  refine j_if_eq F (pc := 4) (off := 12) (tgt := 16) (by decide +kernel) (by decide) (fun c => ?_) (fun c => ?_)
  · rw [if_pos c] at h
    refine j_sipush F (pc := 16) (n := -1001) (v := -1001) (by decide +kernel) (by decide +kernel) ?_
    exact j_iret (st := []) F Rt rfl (by decide +kernel) ⟨hρ3, _, rfl, (congrArg Prod.fst (Option.some.inj h)).symm, (congrArg Prod.snd (Option.some.inj h)).symm⟩
  · rw [if_neg c] at h
    refine j_aload_n F (pc := 7) (q := 0) (by decide +kernel) rfl ?_
    refine j_iload F (pc := 8) (i := 4) (by decide +kernel) rfl ?_
    obtain ⟨r8, μ9, hc11, h⟩ := z_b2_some h
    refine j_callVi F (pc := 10) (idx := 284) (As := [.int x4]) (st := []) (t_X5_isClaim (G := E.1) hρ3 hk hc11) q_X5_isClaim v_X5_isClaim m_1180 (hk.s c_98) rfl rfl (by decide) (Nat.le_of_ble_eq_true rfl) rfl (by decide +kernel) (fun s14 ν12 hq13 hp => ?_)
    obtain ⟨rfl, rfl⟩ := hp
    have hρ10 : μ9.2.2 = ρ := hq13.trans hρ3
    refine j_if_ne F (pc := 13) (off := 7) (tgt := 20) (by decide +kernel) (by decide) (fun c => ?_) (fun c => ?_)
    · rw [if_neg c] at h
      refine j_iload_n F (pc := 20) (q := 2) (by decide +kernel) rfl ?_
      refine j_iload_n F (pc := 21) (q := 3) (by decide +kernel) rfl ?_
      obtain ⟨r15, μ16, hc18, h⟩ := z_b2_some h
      refine j_callSi F (pc := 22) (idx := 336) (As := [.int x2, .int x3]) (st := []) (t_X5_isGood (G := E.1) hρ10  hc18) q_X5_isGood m_1254 m_1253 rfl (by decide) (Nat.le_of_ble_eq_true rfl) rfl (by decide +kernel) (fun s21 ν19 hq20 hp => ?_)
      obtain ⟨rfl, rfl⟩ := hp
      have hρ17 : μ16.2.2 = ρ := hq20.trans hρ10
      refine j_if_ne F (pc := 25) (off := 7) (tgt := 32) (by decide +kernel) (by decide) (fun c => ?_) (fun c => ?_)
      · rw [if_neg c] at h
        refine j_aload_n F (pc := 32) (q := 0) (by decide +kernel) rfl ?_
        refine j_iload_n F (pc := 33) (q := 1) (by decide +kernel) rfl ?_
        refine j_iload_n F (pc := 34) (q := 2) (by decide +kernel) rfl ?_
        refine j_iload_n F (pc := 35) (q := 3) (by decide +kernel) rfl ?_
        obtain ⟨μ23, hc25, h⟩ := z_b1_some h
        refine j_callVv F (pc := 36) (idx := 340) (As := [.int x1, .int x2, .int x3]) (st := []) (t_X5_payOut (G := E.1) hρ17 hk hc25) q_X5_payOut v_X5_payOut m_1256 (hk.s c_98) rfl rfl (by decide) (Nat.le_of_ble_eq_true rfl) rfl (by decide +kernel) (fun ν26 hq27 hp => ?_)
        subst hp
        have hρ24 : μ23.2.2 = ρ := hq27.trans hρ17
        refine j_aload_n F (pc := 39) (q := 0) (by decide +kernel) rfl ?_
        refine j_getR F (pc := 40) (hk.r hρ24 r_98_38) fl_X5_96 (hk.s c_98) rfl (by decide +kernel) ?_
        refine j_iload F (pc := 43) (i := 4) (by decide +kernel) rfl ?_
        obtain ⟨hg, h⟩ := z_ifs h
        refine j_iald F (pc := 45) (hk.s c_126) hg (by decide +kernel) ?_
        exact j_iret (st := []) F Rt rfl (by decide +kernel) ⟨hρ24, _, rfl, (congrArg Prod.fst (Option.some.inj h)).symm, (congrArg Prod.snd (Option.some.inj h)).symm⟩
      · rw [if_pos c] at h
        refine j_sipush F (pc := 28) (n := -1002) (v := -1002) (by decide +kernel) (by decide +kernel) ?_
        exact j_iret (st := []) F Rt rfl (by decide +kernel) ⟨hρ17, _, rfl, (congrArg Prod.fst (Option.some.inj h)).symm, (congrArg Prod.snd (Option.some.inj h)).symm⟩
    · rw [if_pos c] at h
      refine j_sipush F (pc := 16) (n := -1001) (v := -1001) (by decide +kernel) (by decide +kernel) ?_
      exact j_iret (st := []) F Rt rfl (by decide +kernel) ⟨hρ10, _, rfl, (congrArg Prod.fst (Option.some.inj h)).symm, (congrArg Prod.snd (Option.some.inj h)).symm⟩
/-- LastLentModel.left -/
def f_X5_left (x1 : Int32) (x2 : Int32) (x3 : Int32) (x4 : Int32) (μ : z_M) : Option (Int32 × z_M) :=
  (z_b2 (f_X5_isLand (x1) μ) fun r1 μ2 => (if r1 = 0 then (some ((-1001 : Int32), μ2)) else (z_b2 (f_X5_isFund (x4) μ2) fun r8 μ9 => (if r8 = 0 then (some ((-1001 : Int32), μ9)) else (z_b2 (f_X5_isGood (x2) (x3) μ9) fun r15 μ16 => (if r15 = 0 then (some ((-1002 : Int32), μ16)) else (z_b1 (f_X5_payOut (x1) (x2) (x3) μ16) fun μ23 => (if z_in x4 5 then (some ((μ23.1 127 x4.toNatClampNeg), μ23)) else none))))))))
set_option maxHeartbeats 4000000 in
set_option maxRecDepth 100000 in
theorem t_X5_left {G : z_Gl} {ρ : Nat → Nat → Option Nat} {μ : z_M} {r : Int32} {μr : z_M} {x1 : Int32} {x2 : Int32} {x3 : Int32} {x4 : Int32} (hρ : μ.2.2 = ρ) (hk : z_ok (z_sh G) ρ) (h : f_X5_left x1 x2 x3 x4 μ = some (r, μr)) : z_Ci G yX5_left cX5_left 5 (some .int) 6 [.ref 98, .int x1, .int x2, .int x3, .int x4] μ (fun r1 μ1 => r = r1 ∧ μr = μ1) := by
  unfold z_Ci
  refine z_intro (by decide +kernel) (Nat.le_of_ble_eq_true rfl) (fun E hE F Rt => ?_)
  subst hE
  have F : z_F E RX5 cX5_left 5 6 := F
  rw [hρ] at Rt
  unfold f_X5_left at h
  show z_J E 5 0 [some (.ref 98), some (.int x1), some (.int x2), some (.int x3), some (.int x4)] [] μ
  refine j_iload_n F (pc := 0) (q := 1) (by decide +kernel) rfl ?_
  obtain ⟨r1, μ2, hc4, h⟩ := z_b2_some h
  refine j_callSi F (pc := 1) (idx := 246) (As := [.int x1]) (st := []) (t_X5_isLand (G := E.1) hρ  hc4) q_X5_isLand m_1058 m_1057 rfl (by decide) (Nat.le_of_ble_eq_true rfl) rfl (by decide +kernel) (fun s7 ν5 hq6 hp => ?_)
  obtain ⟨rfl, rfl⟩ := hp
  have hρ3 : μ2.2.2 = ρ := hq6.trans hρ
  refine j_if_eq F (pc := 4) (off := 11) (tgt := 15) (by decide +kernel) (by decide) (fun c => ?_) (fun c => ?_)
  · rw [if_pos c] at h
    refine j_sipush F (pc := 15) (n := -1001) (v := -1001) (by decide +kernel) (by decide +kernel) ?_
    exact j_iret (st := []) F Rt rfl (by decide +kernel) ⟨hρ3, _, rfl, (congrArg Prod.fst (Option.some.inj h)).symm, (congrArg Prod.snd (Option.some.inj h)).symm⟩
  · rw [if_neg c] at h
    refine j_iload F (pc := 7) (i := 4) (by decide +kernel) rfl ?_
    obtain ⟨r8, μ9, hc11, h⟩ := z_b2_some h
    refine j_callSi F (pc := 9) (idx := 289) (As := [.int x4]) (st := []) (t_X5_isFund (G := E.1) hρ3  hc11) q_X5_isFund m_1190 m_1189 rfl (by decide) (Nat.le_of_ble_eq_true rfl) rfl (by decide +kernel) (fun s14 ν12 hq13 hp => ?_)
    obtain ⟨rfl, rfl⟩ := hp
    have hρ10 : μ9.2.2 = ρ := hq13.trans hρ3
    refine j_if_ne F (pc := 12) (off := 7) (tgt := 19) (by decide +kernel) (by decide) (fun c => ?_) (fun c => ?_)
    · rw [if_neg c] at h
      refine j_iload_n F (pc := 19) (q := 2) (by decide +kernel) rfl ?_
      refine j_iload_n F (pc := 20) (q := 3) (by decide +kernel) rfl ?_
      obtain ⟨r15, μ16, hc18, h⟩ := z_b2_some h
      refine j_callSi F (pc := 21) (idx := 336) (As := [.int x2, .int x3]) (st := []) (t_X5_isGood (G := E.1) hρ10  hc18) q_X5_isGood m_1254 m_1253 rfl (by decide) (Nat.le_of_ble_eq_true rfl) rfl (by decide +kernel) (fun s21 ν19 hq20 hp => ?_)
      obtain ⟨rfl, rfl⟩ := hp
      have hρ17 : μ16.2.2 = ρ := hq20.trans hρ10
      refine j_if_ne F (pc := 24) (off := 7) (tgt := 31) (by decide +kernel) (by decide) (fun c => ?_) (fun c => ?_)
      · rw [if_neg c] at h
        refine j_aload_n F (pc := 31) (q := 0) (by decide +kernel) rfl ?_
        refine j_iload_n F (pc := 32) (q := 1) (by decide +kernel) rfl ?_
        refine j_iload_n F (pc := 33) (q := 2) (by decide +kernel) rfl ?_
        refine j_iload_n F (pc := 34) (q := 3) (by decide +kernel) rfl ?_
        obtain ⟨μ23, hc25, h⟩ := z_b1_some h
        refine j_callVv F (pc := 35) (idx := 340) (As := [.int x1, .int x2, .int x3]) (st := []) (t_X5_payOut (G := E.1) hρ17 hk hc25) q_X5_payOut v_X5_payOut m_1256 (hk.s c_98) rfl rfl (by decide) (Nat.le_of_ble_eq_true rfl) rfl (by decide +kernel) (fun ν26 hq27 hp => ?_)
        subst hp
        have hρ24 : μ23.2.2 = ρ := hq27.trans hρ17
        refine j_aload_n F (pc := 38) (q := 0) (by decide +kernel) rfl ?_
        refine j_getR F (pc := 39) (hk.r hρ24 r_98_39) fl_X5_99 (hk.s c_98) rfl (by decide +kernel) ?_
        refine j_iload F (pc := 42) (i := 4) (by decide +kernel) rfl ?_
        obtain ⟨hg, h⟩ := z_ifs h
        refine j_iald F (pc := 44) (hk.s c_127) hg (by decide +kernel) ?_
        exact j_iret (st := []) F Rt rfl (by decide +kernel) ⟨hρ24, _, rfl, (congrArg Prod.fst (Option.some.inj h)).symm, (congrArg Prod.snd (Option.some.inj h)).symm⟩
      · rw [if_pos c] at h
        refine j_sipush F (pc := 27) (n := -1002) (v := -1002) (by decide +kernel) (by decide +kernel) ?_
        exact j_iret (st := []) F Rt rfl (by decide +kernel) ⟨hρ17, _, rfl, (congrArg Prod.fst (Option.some.inj h)).symm, (congrArg Prod.snd (Option.some.inj h)).symm⟩
    · rw [if_pos c] at h
      refine j_sipush F (pc := 15) (n := -1001) (v := -1001) (by decide +kernel) (by decide +kernel) ?_
      exact j_iret (st := []) F Rt rfl (by decide +kernel) ⟨hρ10, _, rfl, (congrArg Prod.fst (Option.some.inj h)).symm, (congrArg Prod.snd (Option.some.inj h)).symm⟩
