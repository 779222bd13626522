/-! functions and contracts, written by wip/whole/dec.py -/
def g_X5_takeNumber_153   (x4 : Int32) (μ : z_M) : Option (Int32 × z_M) :=
  (z_b2 (f_X5_fails ((2 : Int32)) (x4) μ) fun r20 μ21 => (some (r20, μ21)))
def g_X5_takeNumber_127   (x1 : Int32) (x2 : Int32) (x4 : Int32) (μ : z_M) : Option (Int32 × z_M) :=
  (if (3 : Int32) < ((μ.1 98 15) - x4) then (g_X5_takeNumber_153   (x4) μ) else (z_b2 (f_X5_in (((μ.1 98 18)).toInt64) ((x1).toInt64) ((x2).toInt64) μ) fun r27 μ28 => (if r27 = 0 then (g_X5_takeNumber_153   (x4) μ28) else (some ((0 : Int32), μ28)))))
def g_X5_takeNumber_40   : Nat → Int32 → Int32 → Int32 → z_M → Option (Int32 × z_M)
  | 0, _, _, _, _ => none
  | n + 1, x1, x2, x4, μ => (if (μ.1 98 13) ≤ (μ.1 98 15) then (g_X5_takeNumber_127   (x1) (x2) (x4) μ) else (if z_in (μ.1 98 15) 240 then (z_b2 (f_X5_in (((μ.1 111 (μ.1 98 15).toNatClampNeg)).toInt64) ((48 : Int64)) ((57 : Int64)) μ) fun r34 μ35 => (if r34 = 0 then (g_X5_takeNumber_127   (x1) (x2) (x4) μ35) else (if (((μ35.1 98 18) ≤ (10000 : Int32)) → z_in (μ35.1 98 15) 240) then (z_st (z_si μ35 98 18 (if (μ35.1 98 18) ≤ (10000 : Int32) then ((((10 : Int32) * (μ35.1 98 18)) + (μ35.1 111 (μ35.1 98 15).toNatClampNeg)) - (48 : Int32)) else (μ35.1 98 18))) fun μ41 => (z_st (z_si μ41 98 15 ((μ41.1 98 15) + (1 : Int32))) fun μ44 => (g_X5_takeNumber_40   n (x1) (x2) (x4) μ44))) else none))) else none))
def f_X5_takeNumber (x1 : Int32) (x2 : Int32) (μ : z_M) : Option (Int32 × z_M) :=
  (z_b2 (f_X5_here  μ) fun r1 μ2 => (z_b2 (f_X5_in ((r1).toInt64) ((48 : Int64)) ((57 : Int64)) μ2) fun r8 μ9 => (if r8 = 0 then (z_b2 (f_X5_fails ((1 : Int32)) ((μ9.1 98 15)) μ9) fun r47 μ48 => (some (r47, μ48))) else (z_lt (μ9.1 98 15) fun x_15 => (z_st (z_si μ9 98 18 (0 : Int32)) fun μ17 => (g_X5_takeNumber_40   z_N (x1) (x2) (x_15) μ17))))))
set_option maxHeartbeats 4000000 in
set_option maxRecDepth 100000 in
theorem u_X5_takeNumber_153 {E : z_E} {ρ : Nat → Nat → Option Nat} {r : Int32} {μr : z_M} (F : z_F E RX5 cX5_takeNumber 5 1) (Rt : z_R E (some .int) (fun v μ1 => μ1.2.2 = ρ ∧ ∃ r1, v = some (.int r1) ∧ r = r1 ∧ μr = μ1))  (hk : z_ok (z_sh E.1) ρ) : ∀ (x4 : Int32) (μ : z_M), μ.2.2 = ρ → g_X5_takeNumber_153   x4 μ = some (r, μr) → z_J E 5 153 [some (.ref 98), none, none, none, some (.int x4)] [] μ := by
  intro x4 μ hρ h
  unfold g_X5_takeNumber_153 at h
  refine j_aload_n F (pc := 153) (q := 0) (by decide +kernel) rfl ?_
  refine j_iconst F (pc := 154) (n := 2) (v := 2) (by decide +kernel) (by decide +kernel) ?_
  refine j_iload F (pc := 155) (i := 4) (by decide +kernel) rfl ?_
  obtain ⟨r20, μ21, hc23, h⟩ := z_b2_some h
  refine j_callVi F (pc := 157) (idx := 196) (As := [.int (2 : Int32), .int x4]) (st := []) (t_X5_fails (G := E.1) hρ hk hc23) q_X5_fails v_X5_fails m_1089 (hk.s c_98) rfl rfl (by decide) (Nat.le_of_ble_eq_true rfl) rfl (by decide +kernel) (fun s26 ν24 hq25 hp => ?_)
  obtain ⟨rfl, rfl⟩ := hp
  have hρ22 : μ21.2.2 = ρ := hq25.trans hρ
  refine j_goto F (pc := 160) (off := 4) (tgt := 164) (by decide +kernel) (by decide) ?_
  exact j_iret (st := []) F Rt rfl (by decide +kernel) ⟨hρ22, _, rfl, (congrArg Prod.fst (Option.some.inj h)).symm, (congrArg Prod.snd (Option.some.inj h)).symm⟩
set_option maxHeartbeats 4000000 in
set_option maxRecDepth 100000 in
theorem u_X5_takeNumber_127 {E : z_E} {ρ : Nat → Nat → Option Nat} {r : Int32} {μr : z_M} (F : z_F E RX5 cX5_takeNumber 5 1) (Rt : z_R E (some .int) (fun v μ1 => μ1.2.2 = ρ ∧ ∃ r1, v = some (.int r1) ∧ r = r1 ∧ μr = μ1))  (hk : z_ok (z_sh E.1) ρ) : ∀ (x1 : Int32) (x2 : Int32) (x4 : Int32) (μ : z_M), μ.2.2 = ρ → g_X5_takeNumber_127   x1 x2 x4 μ = some (r, μr) → z_J E 5 127 [some (.ref 98), some (.int x1), some (.int x2), none, some (.int x4)] [] μ := by
  intro x1 x2 x4 μ hρ h
  unfold g_X5_takeNumber_127 at h
  refine j_aload_n F (pc := 127) (q := 0) (by decide +kernel) rfl ?_
  refine j_getI F (pc := 128) fl_X5_158 (hk.s c_98) rfl (by decide +kernel) ?_
  refine j_iload F (pc := 131) (i := 4) (by decide +kernel) rfl ?_
  refine j_isub F (pc := 133) (by decide +kernel) ?_
  refine j_iconst F (pc := 134) (n := 3) (v := 3) (by decide +kernel) (by decide +kernel) ?_
  refine j_icmp_gt F (pc := 135) (off := 18) (tgt := 153) (by decide +kernel) (by decide) (fun c => ?_) (fun c => ?_)
  · rw [if_pos c] at h
    refine j_mk F [true, false, false, false, true] (L' := [some (.ref 98), none, none, none, some (.int x4)]) rfl ?_
    refine u_X5_takeNumber_153 F Rt hk  _ _ hρ h
  · rw [if_neg c] at h
    refine j_aload_n F (pc := 138) (q := 0) (by decide +kernel) rfl ?_
    refine j_getI F (pc := 139) fl_X5_200 (hk.s c_98) rfl (by decide +kernel) ?_
    refine j_i2l F (pc := 142) (by decide +kernel) ?_
    refine j_iload_n F (pc := 143) (q := 1) (by decide +kernel) rfl ?_
    refine j_i2l F (pc := 144) (by decide +kernel) ?_
    refine j_iload_n F (pc := 145) (q := 2) (by decide +kernel) rfl ?_
    refine j_i2l F (pc := 146) (by decide +kernel) ?_
    obtain ⟨r27, μ28, hc30, h⟩ := z_b2_some h
    refine j_callSi F (pc := 147) (idx := 138) (As := [.long ((μ.1 98 18)).toInt64, .long (x1).toInt64, .long (x2).toInt64]) (st := []) (t_X5_in (G := E.1) hρ  hc30) q_X5_in m_1050 m_1049 rfl (by decide) (Nat.le_of_ble_eq_true rfl) rfl (by decide +kernel) (fun s33 ν31 hq32 hp => ?_)
    obtain ⟨rfl, rfl⟩ := hp
    have hρ29 : μ28.2.2 = ρ := hq32.trans hρ
    refine j_if_ne F (pc := 150) (off := 13) (tgt := 163) (by decide +kernel) (by decide) (fun c => ?_) (fun c => ?_)
    · rw [if_neg c] at h
      refine j_iconst F (pc := 163) (n := 0) (v := 0) (by decide +kernel) (by decide +kernel) ?_
      exact j_iret (st := []) F Rt rfl (by decide +kernel) ⟨hρ29, _, rfl, (congrArg Prod.fst (Option.some.inj h)).symm, (congrArg Prod.snd (Option.some.inj h)).symm⟩
    · rw [if_pos c] at h
      refine j_mk F [true, false, false, false, true] (L' := [some (.ref 98), none, none, none, some (.int x4)]) rfl ?_
      refine u_X5_takeNumber_153 F Rt hk  _ _ hρ29 h
set_option maxHeartbeats 4000000 in
set_option maxRecDepth 100000 in
theorem u_X5_takeNumber_40 {E : z_E} {ρ : Nat → Nat → Option Nat} {r : Int32} {μr : z_M} (F : z_F E RX5 cX5_takeNumber 5 1) (Rt : z_R E (some .int) (fun v μ1 => μ1.2.2 = ρ ∧ ∃ r1, v = some (.int r1) ∧ r = r1 ∧ μr = μ1))  (hk : z_ok (z_sh E.1) ρ) : ∀ (n : Nat) (x1 : Int32) (x2 : Int32) (x4 : Int32) (μ : z_M), μ.2.2 = ρ → g_X5_takeNumber_40   n x1 x2 x4 μ = some (r, μr) → z_J E 5 40 [some (.ref 98), some (.int x1), some (.int x2), none, some (.int x4)] [] μ := by
  intro n
  induction n with
  | zero =>
    intro x1 x2 x4 μ hρ h
    rw [g_X5_takeNumber_40] at h
    cases h
  | succ n ih =>
    intro x1 x2 x4 μ hρ h
    rw [g_X5_takeNumber_40] at h
    refine j_aload_n F (pc := 40) (q := 0) (by decide +kernel) rfl ?_
    refine j_getI F (pc := 41) fl_X5_158 (hk.s c_98) rfl (by decide +kernel) ?_
    refine j_aload_n F (pc := 44) (q := 0) (by decide +kernel) rfl ?_
    refine j_getI F (pc := 45) fl_X5_153 (hk.s c_98) rfl (by decide +kernel) ?_
    refine j_icmp_ge F (pc := 48) (off := 79) (tgt := 127) (by decide +kernel) (by decide) (fun c => ?_) (fun c => ?_)
    · rw [if_pos c] at h
      refine u_X5_takeNumber_127 F Rt hk  _ _ _ _ hρ h
    · rw [if_neg c] at h
      refine j_aload_n F (pc := 51) (q := 0) (by decide +kernel) rfl ?_
      refine j_getR F (pc := 52) (hk.r hρ r_98_12) fl_X5_47 (hk.s c_98) rfl (by decide +kernel) ?_
      refine j_aload_n F (pc := 55) (q := 0) (by decide +kernel) rfl ?_
      refine j_getI F (pc := 56) fl_X5_158 (hk.s c_98) rfl (by decide +kernel) ?_
      obtain ⟨hg, h⟩ := z_ifs h
      refine j_iald F (pc := 59) (hk.s c_111) hg (by decide +kernel) ?_
      refine j_i2l F (pc := 60) (by decide +kernel) ?_
      refine j_ldc2 F (pc := 61) m_1121 (by decide +kernel) ?_
      refine j_ldc2 F (pc := 64) m_1122 (by decide +kernel) ?_
      obtain ⟨r34, μ35, hc37, h⟩ := z_b2_some h
      refine j_callSi F (pc := 67) (idx := 138) (As := [.long ((μ.1 111 (μ.1 98 15).toNatClampNeg)).toInt64, .long (48 : Int64), .long (57 : Int64)]) (st := []) (t_X5_in (G := E.1) hρ  hc37) q_X5_in m_1050 m_1049 rfl (by decide) (Nat.le_of_ble_eq_true rfl) rfl (by decide +kernel) (fun s40 ν38 hq39 hp => ?_)
      obtain ⟨rfl, rfl⟩ := hp
      have hρ36 : μ35.2.2 = ρ := hq39.trans hρ
      refine j_if_eq F (pc := 70) (off := 57) (tgt := 127) (by decide +kernel) (by decide) (fun c => ?_) (fun c => ?_)
      · rw [if_pos c] at h
        refine u_X5_takeNumber_127 F Rt hk  _ _ _ _ hρ36 h
      · rw [if_neg c] at h
        refine j_aload_n F (pc := 73) (q := 0) (by decide +kernel) rfl ?_
        refine j_aload_n F (pc := 74) (q := 0) (by decide +kernel) rfl ?_
        refine j_getI F (pc := 75) fl_X5_200 (hk.s c_98) rfl (by decide +kernel) ?_
        refine j_sipush F (pc := 78) (n := 10000) (v := 10000) (by decide +kernel) (by decide +kernel) ?_
        obtain ⟨hg, h⟩ := z_ifs h
        suffices hj : z_J E 5 111 [some (.ref 98), some (.int x1), some (.int x2), none, some (.int x4)] (.int (if (μ35.1 98 18) ≤ (10000 : Int32) then ((((10 : Int32) * (μ35.1 98 18)) + (μ35.1 111 (μ35.1 98 15).toNatClampNeg)) - (48 : Int32)) else (μ35.1 98 18)) :: [.ref 98]) μ35 by
          refine j_icmp_le F (pc := 81) (off := 10) (tgt := 91) (by decide +kernel) (by decide) (fun c0 => ?_) (fun c0 => ?_)
          · rw [if_pos c0] at hj
            refine j_bipush F (pc := 91) (n := 10) (v := 10) (by decide +kernel) (by decide +kernel) ?_
            refine j_aload_n F (pc := 93) (q := 0) (by decide +kernel) rfl ?_
            refine j_getI F (pc := 94) fl_X5_200 (hk.s c_98) rfl (by decide +kernel) ?_
            refine j_imul F (pc := 97) (by decide +kernel) ?_
            refine j_aload_n F (pc := 98) (q := 0) (by decide +kernel) rfl ?_
            refine j_getR F (pc := 99) (hk.r hρ36 r_98_12) fl_X5_47 (hk.s c_98) rfl (by decide +kernel) ?_
            refine j_aload_n F (pc := 102) (q := 0) (by decide +kernel) rfl ?_
            refine j_getI F (pc := 103) fl_X5_158 (hk.s c_98) rfl (by decide +kernel) ?_
            refine j_iald F (pc := 106) (hk.s c_111) (hg c0) (by decide +kernel) ?_
            refine j_iadd F (pc := 107) (by decide +kernel) ?_
            refine j_bipush F (pc := 108) (n := 48) (v := 48) (by decide +kernel) (by decide +kernel) ?_
            refine j_isub F (pc := 110) (by decide +kernel) ?_
            exact hj
          · rw [if_neg c0] at hj
            refine j_aload_n F (pc := 84) (q := 0) (by decide +kernel) rfl ?_
            refine j_getI F (pc := 85) fl_X5_200 (hk.s c_98) rfl (by decide +kernel) ?_
            refine j_goto F (pc := 88) (off := 23) (tgt := 111) (by decide +kernel) (by decide) ?_
            exact hj
        refine j_putI F (pc := 111) fl_X5_200 fp_X5_18 (hk.s c_98) rfl (by decide +kernel) ?_
        obtain ⟨μ41, e43, h⟩ := z_st_some h
        rw [← e43]
        have hρ42 : μ41.2.2 = ρ := by rw [e43]; exact hρ36
        refine j_aload_n F (pc := 114) (q := 0) (by decide +kernel) rfl ?_
        refine j_dup F (pc := 115) (by decide +kernel) rfl ?_
        refine j_getI F (pc := 116) fl_X5_158 (hk.s c_98) rfl (by decide +kernel) ?_
        refine j_iconst F (pc := 119) (n := 1) (v := 1) (by decide +kernel) (by decide +kernel) ?_
        refine j_iadd F (pc := 120) (by decide +kernel) ?_
        refine j_putI F (pc := 121) fl_X5_158 fp_X5_15 (hk.s c_98) rfl (by decide +kernel) ?_
        obtain ⟨μ44, e46, h⟩ := z_st_some h
        rw [← e46]
        have hρ45 : μ44.2.2 = ρ := by rw [e46]; exact hρ42
        refine j_goto F (pc := 124) (off := -84) (tgt := 40) (by decide +kernel) (by decide) ?_
        exact ih _ _ _ _ hρ45 h
set_option maxHeartbeats 4000000 in
set_option maxRecDepth 100000 in
theorem t_X5_takeNumber {G : z_Gl} {ρ : Nat → Nat → Option Nat} {μ : z_M} {r : Int32} {μr : z_M} {x1 : Int32} {x2 : Int32} (hρ : μ.2.2 = ρ) (hk : z_ok (z_sh G) ρ) (h : f_X5_takeNumber x1 x2 μ = some (r, μr)) : z_Ci G yX5_takeNumber cX5_takeNumber 5 (some .int) 1 [.ref 98, .int x1, .int x2] μ (fun r1 μ1 => r = r1 ∧ μr = μ1) := by
  unfold z_Ci
  refine z_intro (by decide +kernel) (Nat.le_of_ble_eq_true rfl) (fun E hE F Rt => ?_)
  subst hE
  have F : z_F E RX5 cX5_takeNumber 5 1 := F
  rw [hρ] at Rt
  unfold f_X5_takeNumber at h
  show z_J E 5 0 [some (.ref 98), some (.int x1), some (.int x2), none, none] [] μ
  refine j_aload_n F (pc := 0) (q := 0) (by decide +kernel) rfl ?_
  obtain ⟨r1, μ2, hc4, h⟩ := z_b2_some h
  refine j_callVi F (pc := 1) (idx := 161) (As := []) (st := []) (t_X5_here (G := E.1) hρ hk hc4) q_X5_here v_X5_here m_1061 (hk.s c_98) rfl rfl (by decide) (Nat.le_of_ble_eq_true rfl) rfl (by decide +kernel) (fun s7 ν5 hq6 hp => ?_)
  obtain ⟨rfl, rfl⟩ := hp
  have hρ3 : μ2.2.2 = ρ := hq6.trans hρ
  refine j_istore_n F (pc := 4) (q := 3) (L' := [some (.ref 98), some (.int x1), some (.int x2), some (.int r1), none]) (by decide +kernel) (by decide) rfl rfl ?_
  refine j_iload_n F (pc := 5) (q := 3) (by decide +kernel) rfl ?_
  refine j_i2l F (pc := 6) (by decide +kernel) ?_
  refine j_ldc2 F (pc := 7) m_1121 (by decide +kernel) ?_
  refine j_ldc2 F (pc := 10) m_1122 (by decide +kernel) ?_
  obtain ⟨r8, μ9, hc11, h⟩ := z_b2_some h
  refine j_callSi F (pc := 13) (idx := 138) (As := [.long (r1).toInt64, .long (48 : Int64), .long (57 : Int64)]) (st := []) (t_X5_in (G := E.1) hρ3  hc11) q_X5_in m_1050 m_1049 rfl (by decide) (Nat.le_of_ble_eq_true rfl) rfl (by decide +kernel) (fun s14 ν12 hq13 hp => ?_)
  obtain ⟨rfl, rfl⟩ := hp
  have hρ10 : μ9.2.2 = ρ := hq13.trans hρ3
  refine j_if_ne F (pc := 16) (off := 13) (tgt := 29) (by decide +kernel) (by decide) (fun c => ?_) (fun c => ?_)
  · rw [if_neg c] at h
    refine j_aload_n F (pc := 29) (q := 0) (by decide +kernel) rfl ?_
    refine j_getI F (pc := 30) fl_X5_158 (hk.s c_98) rfl (by decide +kernel) ?_
    obtain ⟨x_15, e16, h⟩ := z_lt_some h
    rw [← e16]
    refine j_istore F (pc := 33) (i := 4) (L' := [some (.ref 98), some (.int x1), some (.int x2), some (.int r1), some (.int x_15)]) (by decide +kernel) (by decide) rfl rfl ?_
    refine j_aload_n F (pc := 35) (q := 0) (by decide +kernel) rfl ?_
    refine j_iconst F (pc := 36) (n := 0) (v := 0) (by decide +kernel) (by decide +kernel) ?_
    refine j_putI F (pc := 37) fl_X5_200 fp_X5_18 (hk.s c_98) rfl (by decide +kernel) ?_
    obtain ⟨μ17, e19, h⟩ := z_st_some h
    rw [← e19]
    have hρ18 : μ17.2.2 = ρ := by rw [e19]; exact hρ10
    refine j_mk F [true, true, true, false, true] (L' := [some (.ref 98), some (.int x1), some (.int x2), none, some (.int x_15)]) rfl ?_
    refine u_X5_takeNumber_40 F Rt hk  z_N _ _ _ _ hρ18 h
  · rw [if_pos c] at h
    refine j_aload_n F (pc := 19) (q := 0) (by decide +kernel) rfl ?_
    refine j_iconst F (pc := 20) (n := 1) (v := 1) (by decide +kernel) (by decide +kernel) ?_
    refine j_aload_n F (pc := 21) (q := 0) (by decide +kernel) rfl ?_
    refine j_getI F (pc := 22) fl_X5_158 (hk.s c_98) rfl (by decide +kernel) ?_
    obtain ⟨r47, μ48, hc50, h⟩ := z_b2_some h
    refine j_callVi F (pc := 25) (idx := 196) (As := [.int (1 : Int32), .int (μ9.1 98 15)]) (st := []) (t_X5_fails (G := E.1) hρ10 hk hc50) q_X5_fails v_X5_fails m_1089 (hk.s c_98) rfl rfl (by decide) (Nat.le_of_ble_eq_true rfl) rfl (by decide +kernel) (fun s53 ν51 hq52 hp => ?_)
    obtain ⟨rfl, rfl⟩ := hp
    have hρ49 : μ48.2.2 = ρ := hq52.trans hρ10
    exact j_iret (st := []) F Rt rfl (by decide +kernel) ⟨hρ49, _, rfl, (congrArg Prod.fst (Option.some.inj h)).symm, (congrArg Prod.snd (Option.some.inj h)).symm⟩
/-- LastLentModel.takeOfKind -/
def f_X5_takeOfKind (x1 : Int32) (μ : z_M) : Option (Int32 × z_M) :=
  (z_b2 (f_X5_takeKind  μ) fun r1 μ2 => (if r1 ≤ 0 then (z_lt (μ2.1 98 19) fun x_8 => (if (¬ (x1 = (6 : Int32)) → ¬ (x1 = (7 : Int32)) → z_in x_8 8) ∧ (¬ (x1 = (6 : Int32)) → (x1 = (7 : Int32)) → z_in x_8 8) ∧ ((x1 = (6 : Int32)) → z_in x_8 8) then (z_lt (if x1 = (6 : Int32) then (if (μ2.1 107 x_8.toNatClampNeg) ≤ 0 then (0 : Int32) else (1 : Int32)) else (if x1 = (7 : Int32) then (μ2.1 108 x_8.toNatClampNeg) else (if (μ2.1 106 x_8.toNatClampNeg) = 0 then (0 : Int32) else (1 : Int32)))) fun x_10 => (if x_10 = 0 then (if x1 = (6 : Int32) then (z_b2 (f_X5_takeNumber ((1 : Int32)) ((999 : Int32)) μ2) fun r18 μ19 => (if z_in x_8 8 then (z_st (z_si μ19 107 x_8.toNatClampNeg (μ19.1 98 18)) fun μ25 => (some (r18, μ25))) else none)) else (if x1 = (7 : Int32) then (if z_in x_8 8 then (z_st (z_si μ2 108 x_8.toNatClampNeg ((1 : Int32) &&& 1)) fun μ15 => (some (r1, μ15))) else none) else (if z_in x_8 8 then (z_st (z_si μ2 106 x_8.toNatClampNeg (if x1 = (2 : Int32) then (1 : Int32) else (-1 : Int32))) fun μ12 => (some (r1, μ12))) else none))) else (z_b2 (f_X5_fails ((3 : Int32)) ((μ2.1 98 20)) μ2) fun r28 μ29 => (some (r28, μ29))))) else none)) else (some (r1, μ2))))
set_option maxHeartbeats 4000000 in
set_option maxRecDepth 100000 in
theorem t_X5_takeOfKind {G : z_Gl} {ρ : Nat → Nat → Option Nat} {μ : z_M} {r : Int32} {μr : z_M} {x1 : Int32} (hρ : μ.2.2 = ρ) (hk : z_ok (z_sh G) ρ) (h : f_X5_takeOfKind x1 μ = some (r, μr)) : z_Ci G yX5_takeOfKind cX5_takeOfKind 5 (some .int) 3 [.ref 98, .int x1] μ (fun r1 μ1 => r = r1 ∧ μr = μ1) := by
  unfold z_Ci
  refine z_intro (by decide +kernel) (Nat.le_of_ble_eq_true rfl) (fun E hE F Rt => ?_)
  subst hE
  have F : z_F E RX5 cX5_takeOfKind 5 3 := F
  rw [hρ] at Rt
  unfold f_X5_takeOfKind at h
  show z_J E 5 0 [some (.ref 98), some (.int x1), none, none, none] [] μ
  refine j_aload_n F (pc := 0) (q := 0) (by decide +kernel) rfl ?_
  obtain ⟨r1, μ2, hc4, h⟩ := z_b2_some h
  refine j_callVi F (pc := 1) (idx := 215) (As := []) (st := []) (t_X5_takeKind (G := E.1) hρ hk hc4) q_X5_takeKind v_X5_takeKind m_1097 (hk.s c_98) rfl rfl (by decide) (Nat.le_of_ble_eq_true rfl) rfl (by decide +kernel) (fun s7 ν5 hq6 hp => ?_)
  obtain ⟨rfl, rfl⟩ := hp
  have hρ3 : μ2.2.2 = ρ := hq6.trans hρ
  refine j_istore_n F (pc := 4) (q := 2) (L' := [some (.ref 98), some (.int x1), some (.int r1), none, none]) (by decide +kernel) (by decide) rfl rfl ?_
  refine j_iload_n F (pc := 5) (q := 2) (by decide +kernel) rfl ?_
  refine j_if_le F (pc := 6) (off := 5) (tgt := 11) (by decide +kernel) (by decide) (fun c => ?_) (fun c => ?_)
  · rw [if_pos c] at h
    refine j_aload_n F (pc := 11) (q := 0) (by decide +kernel) rfl ?_
    refine j_getI F (pc := 12) fl_X5_209 (hk.s c_98) rfl (by decide +kernel) ?_
    obtain ⟨x_8, e9, h⟩ := z_lt_some h
    rw [← e9]
    refine j_istore_n F (pc := 15) (q := 3) (L' := [some (.ref 98), some (.int x1), some (.int r1), some (.int x_8), none]) (by decide +kernel) (by decide) rfl rfl ?_
    refine j_iload_n F (pc := 16) (q := 1) (by decide +kernel) rfl ?_
    refine j_bipush F (pc := 17) (n := 6) (v := 6) (by decide +kernel) (by decide +kernel) ?_
    obtain ⟨hg, h⟩ := z_ifs h
    suffices hj : z_J E 5 68 [some (.ref 98), some (.int x1), some (.int r1), some (.int x_8), none] (.int (if x1 = (6 : Int32) then (if (μ2.1 107 x_8.toNatClampNeg) ≤ 0 then (0 : Int32) else (1 : Int32)) else (if x1 = (7 : Int32) then (μ2.1 108 x_8.toNatClampNeg) else (if (μ2.1 106 x_8.toNatClampNeg) = 0 then (0 : Int32) else (1 : Int32)))) :: []) μ2 by
      refine j_icmp_ne F (pc := 19) (off := 20) (tgt := 39) (by decide +kernel) (by decide) (fun c0 => ?_) (fun c0 => ?_)
      · rw [if_neg c0] at hj
        refine j_iload_n F (pc := 39) (q := 1) (by decide +kernel) rfl ?_
        refine j_bipush F (pc := 40) (n := 7) (v := 7) (by decide +kernel) (by decide +kernel) ?_
        refine j_icmp_ne F (pc := 42) (off := 12) (tgt := 54) (by decide +kernel) (by decide) (fun c1 => ?_) (fun c1 => ?_)
        · rw [if_neg c1] at hj
          refine j_aload_n F (pc := 54) (q := 0) (by decide +kernel) rfl ?_
          refine j_getR F (pc := 55) (hk.r hρ3 r_98_7) fl_X5_32 (hk.s c_98) rfl (by decide +kernel) ?_
          refine j_iload_n F (pc := 58) (q := 3) (by decide +kernel) rfl ?_
          refine j_iald F (pc := 59) (hk.s c_106) (hg.1 c0 c1) (by decide +kernel) ?_
          refine j_if_eq F (pc := 60) (off := 7) (tgt := 67) (by decide +kernel) (by decide) (fun c2 => ?_) (fun c2 => ?_)
          · rw [if_pos c2] at hj
            refine j_iconst F (pc := 67) (n := 0) (v := 0) (by decide +kernel) (by decide +kernel) ?_
            exact hj
          · rw [if_neg c2] at hj
            refine j_iconst F (pc := 63) (n := 1) (v := 1) (by decide +kernel) (by decide +kernel) ?_
            refine j_goto F (pc := 64) (off := 4) (tgt := 68) (by decide +kernel) (by decide) ?_
            exact hj
        · rw [if_pos c1] at hj
          refine j_aload_n F (pc := 45) (q := 0) (by decide +kernel) rfl ?_
          refine j_getR F (pc := 46) (hk.r hρ3 r_98_9) fl_X5_38 (hk.s c_98) rfl (by decide +kernel) ?_
          refine j_iload_n F (pc := 49) (q := 3) (by decide +kernel) rfl ?_
          refine j_zald F (pc := 50) (hk.s c_108) (hg.2.1 c0 c1) (by decide +kernel) ?_
          refine j_goto F (pc := 51) (off := 17) (tgt := 68) (by decide +kernel) (by decide) ?_
          exact hj
      · rw [if_pos c0] at hj
        refine j_aload_n F (pc := 22) (q := 0) (by decide +kernel) rfl ?_
        refine j_getR F (pc := 23) (hk.r hρ3 r_98_8) fl_X5_35 (hk.s c_98) rfl (by decide +kernel) ?_
        refine j_iload_n F (pc := 26) (q := 3) (by decide +kernel) rfl ?_
        refine j_iald F (pc := 27) (hk.s c_107) (hg.2.2 c0) (by decide +kernel) ?_
        refine j_if_le F (pc := 28) (off := 7) (tgt := 35) (by decide +kernel) (by decide) (fun c1 => ?_) (fun c1 => ?_)
        · rw [if_pos c1] at hj
          refine j_iconst F (pc := 35) (n := 0) (v := 0) (by decide +kernel) (by decide +kernel) ?_
          refine j_goto F (pc := 36) (off := 32) (tgt := 68) (by decide +kernel) (by decide) ?_
          exact hj
        · rw [if_neg c1] at hj
          refine j_iconst F (pc := 31) (n := 1) (v := 1) (by decide +kernel) (by decide +kernel) ?_
          refine j_goto F (pc := 32) (off := 36) (tgt := 68) (by decide +kernel) (by decide) ?_
          exact hj
    obtain ⟨x_10, e11, h⟩ := z_lt_some h
    rw [← e11]
    refine j_istore F (pc := 68) (i := 4) (L' := [some (.ref 98), some (.int x1), some (.int r1), some (.int x_8), some (.int x_10)]) (by decide +kernel) (by decide) rfl rfl ?_
    refine j_iload F (pc := 70) (i := 4) (by decide +kernel) rfl ?_
    refine j_if_eq F (pc := 72) (off := 13) (tgt := 85) (by decide +kernel) (by decide) (fun c => ?_) (fun c => ?_)
    · rw [if_pos c] at h
      refine j_iload_n F (pc := 85) (q := 1) (by decide +kernel) rfl ?_
      refine j_bipush F (pc := 86) (n := 6) (v := 6) (by decide +kernel) (by decide +kernel) ?_
      refine j_icmp_ne F (pc := 88) (off := 25) (tgt := 113) (by decide +kernel) (by decide) (fun c => ?_) (fun c => ?_)
      · rw [if_neg c] at h
        refine j_iload_n F (pc := 113) (q := 1) (by decide +kernel) rfl ?_
        refine j_bipush F (pc := 114) (n := 7) (v := 7) (by decide +kernel) (by decide +kernel) ?_
        refine j_icmp_ne F (pc := 116) (off := 13) (tgt := 129) (by decide +kernel) (by decide) (fun c => ?_) (fun c => ?_)
        · rw [if_neg c] at h
          refine j_aload_n F (pc := 129) (q := 0) (by decide +kernel) rfl ?_
          refine j_getR F (pc := 130) (hk.r hρ3 r_98_7) fl_X5_32 (hk.s c_98) rfl (by decide +kernel) ?_
          refine j_iload_n F (pc := 133) (q := 3) (by decide +kernel) rfl ?_
          refine j_iload_n F (pc := 134) (q := 1) (by decide +kernel) rfl ?_
          refine j_iconst F (pc := 135) (n := 2) (v := 2) (by decide +kernel) (by decide +kernel) ?_
          suffices hj : z_J E 5 144 [some (.ref 98), some (.int x1), some (.int r1), some (.int x_8), some (.int x_10)] (.int (if x1 = (2 : Int32) then (1 : Int32) else (-1 : Int32)) :: [.int x_8, .ref 106]) μ2 by
            refine j_icmp_ne F (pc := 136) (off := 7) (tgt := 143) (by decide +kernel) (by decide) (fun c0 => ?_) (fun c0 => ?_)
            · rw [if_neg c0] at hj
              refine j_iconst F (pc := 143) (n := -1) (v := -1) (by decide +kernel) (by decide +kernel) ?_
              exact hj
            · rw [if_pos c0] at hj
              refine j_iconst F (pc := 139) (n := 1) (v := 1) (by decide +kernel) (by decide +kernel) ?_
              refine j_goto F (pc := 140) (off := 4) (tgt := 144) (by decide +kernel) (by decide) ?_
              exact hj
          obtain ⟨hg, h⟩ := z_ifs h
          refine j_iast F (pc := 144) (hk.s c_106) hg (by decide +kernel) ?_
          obtain ⟨μ12, e14, h⟩ := z_st_some h
          rw [← e14]
          have hρ13 : μ12.2.2 = ρ := by rw [e14]; exact hρ3
          refine j_iload_n F (pc := 145) (q := 2) (by decide +kernel) rfl ?_
          exact j_iret (st := []) F Rt rfl (by decide +kernel) ⟨hρ13, _, rfl, (congrArg Prod.fst (Option.some.inj h)).symm, (congrArg Prod.snd (Option.some.inj h)).symm⟩
        · rw [if_pos c] at h
          refine j_aload_n F (pc := 119) (q := 0) (by decide +kernel) rfl ?_
          refine j_getR F (pc := 120) (hk.r hρ3 r_98_9) fl_X5_38 (hk.s c_98) rfl (by decide +kernel) ?_
          refine j_iload_n F (pc := 123) (q := 3) (by decide +kernel) rfl ?_
          refine j_iconst F (pc := 124) (n := 1) (v := 1) (by decide +kernel) (by decide +kernel) ?_
          obtain ⟨hg, h⟩ := z_ifs h
          refine j_zast F (pc := 125) (hk.s c_108) hg (by decide +kernel) ?_
          obtain ⟨μ15, e17, h⟩ := z_st_some h
          rw [← e17]
          have hρ16 : μ15.2.2 = ρ := by rw [e17]; exact hρ3
          refine j_goto F (pc := 126) (off := 19) (tgt := 145) (by decide +kernel) (by decide) ?_
          refine j_iload_n F (pc := 145) (q := 2) (by decide +kernel) rfl ?_
          exact j_iret (st := []) F Rt rfl (by decide +kernel) ⟨hρ16, _, rfl, (congrArg Prod.fst (Option.some.inj h)).symm, (congrArg Prod.snd (Option.some.inj h)).symm⟩
      · rw [if_pos c] at h
        refine j_aload_n F (pc := 91) (q := 0) (by decide +kernel) rfl ?_
        refine j_iconst F (pc := 92) (n := 1) (v := 1) (by decide +kernel) (by decide +kernel) ?_
        refine j_sipush F (pc := 93) (n := 999) (v := 999) (by decide +kernel) (by decide +kernel) ?_
        obtain ⟨r18, μ19, hc21, h⟩ := z_b2_some h
        refine j_callVi F (pc := 96) (idx := 221) (As := [.int (1 : Int32), .int (999 : Int32)]) (st := []) (t_X5_takeNumber (G := E.1) hρ3 hk hc21) q_X5_takeNumber v_X5_takeNumber m_1117 (hk.s c_98) rfl rfl (by decide) (Nat.le_of_ble_eq_true rfl) rfl (by decide +kernel) (fun s24 ν22 hq23 hp => ?_)
        obtain ⟨rfl, rfl⟩ := hp
        have hρ20 : μ19.2.2 = ρ := hq23.trans hρ3
        refine j_istore_n F (pc := 99) (q := 2) (L' := [some (.ref 98), some (.int x1), some (.int r18), some (.int x_8), some (.int x_10)]) (by decide +kernel) (by decide) rfl rfl ?_
        refine j_aload_n F (pc := 100) (q := 0) (by decide +kernel) rfl ?_
        refine j_getR F (pc := 101) (hk.r hρ20 r_98_8) fl_X5_35 (hk.s c_98) rfl (by decide +kernel) ?_
        refine j_iload_n F (pc := 104) (q := 3) (by decide +kernel) rfl ?_
        refine j_aload_n F (pc := 105) (q := 0) (by decide +kernel) rfl ?_
        refine j_getI F (pc := 106) fl_X5_200 (hk.s c_98) rfl (by decide +kernel) ?_
        obtain ⟨hg, h⟩ := z_ifs h
        refine j_iast F (pc := 109) (hk.s c_107) hg (by decide +kernel) ?_
        obtain ⟨μ25, e27, h⟩ := z_st_some h
        rw [← e27]
        have hρ26 : μ25.2.2 = ρ := by rw [e27]; exact hρ20
        refine j_goto F (pc := 110) (off := 35) (tgt := 145) (by decide +kernel) (by decide) ?_
        refine j_iload_n F (pc := 145) (q := 2) (by decide +kernel) rfl ?_
        exact j_iret (st := []) F Rt rfl (by decide +kernel) ⟨hρ26, _, rfl, (congrArg Prod.fst (Option.some.inj h)).symm, (congrArg Prod.snd (Option.some.inj h)).symm⟩
    · rw [if_neg c] at h
      refine j_aload_n F (pc := 75) (q := 0) (by decide +kernel) rfl ?_
      refine j_iconst F (pc := 76) (n := 3) (v := 3) (by decide +kernel) (by decide +kernel) ?_
      refine j_aload_n F (pc := 77) (q := 0) (by decide +kernel) rfl ?_
      refine j_getI F (pc := 78) fl_X5_212 (hk.s c_98) rfl (by decide +kernel) ?_
      obtain ⟨r28, μ29, hc31, h⟩ := z_b2_some h
      refine j_callVi F (pc := 81) (idx := 196) (As := [.int (3 : Int32), .int (μ2.1 98 20)]) (st := []) (t_X5_fails (G := E.1) hρ3 hk hc31) q_X5_fails v_X5_fails m_1089 (hk.s c_98) rfl rfl (by decide) (Nat.le_of_ble_eq_true rfl) rfl (by decide +kernel) (fun s34 ν32 hq33 hp => ?_)
      obtain ⟨rfl, rfl⟩ := hp
      have hρ30 : μ29.2.2 = ρ := hq33.trans hρ3
      exact j_iret (st := []) F Rt rfl (by decide +kernel) ⟨hρ30, _, rfl, (congrArg Prod.fst (Option.some.inj h)).symm, (congrArg Prod.snd (Option.some.inj h)).symm⟩
  · rw [if_neg c] at h
    refine j_iload_n F (pc := 9) (q := 2) (by decide +kernel) rfl ?_
    exact j_iret (st := []) F Rt rfl (by decide +kernel) ⟨hρ3, _, rfl, (congrArg Prod.fst (Option.some.inj h)).symm, (congrArg Prod.snd (Option.some.inj h)).symm⟩
/-- LastLentModel.withinOf -/
def f_X5_withinOf  (μ : z_M) : Option (Int32 × z_M) :=
  (z_b2 (f_X5_code ((115 : Int32)) ((111 : Int32)) ((111 : Int32)) ((110 : Int32)) μ) fun r1 μ2 => (z_b2 (f_X5_longer (r1) ((101 : Int32)) μ2) fun r8 μ9 => (z_b2 (f_X5_longer (r8) ((114 : Int32)) μ9) fun r15 μ16 => (z_b2 (f_X5_code ((112 : Int32)) ((97 : Int32)) ((114 : Int32)) ((116 : Int32)) μ16) fun r22 μ23 => (z_b2 (f_X5_longer (r22) ((115 : Int32)) μ23) fun r29 μ30 => (if (lg_cmp (μ16.2.1 98 16) r29) = 0 then (some ((0 : Int32), μ30)) else (z_b2 (f_X5_code ((108 : Int32)) ((97 : Int32)) ((116 : Int32)) ((101 : Int32)) μ30) fun r36 μ37 => (z_b2 (f_X5_longer (r36) ((114 : Int32)) μ37) fun r43 μ44 => (if (lg_cmp (μ30.2.1 98 16) r43) = 0 then (some ((1 : Int32), μ44)) else (if (lg_cmp (μ44.2.1 98 16) r15) = 0 then (some ((2 : Int32), μ44)) else (some ((-1 : Int32), μ44))))))))))))
set_option maxHeartbeats 4000000 in
set_option maxRecDepth 100000 in
theorem t_X5_withinOf {G : z_Gl} {ρ : Nat → Nat → Option Nat} {μ : z_M} {r : Int32} {μr : z_M}  (hρ : μ.2.2 = ρ) (hk : z_ok (z_sh G) ρ) (h : f_X5_withinOf  μ = some (r, μr)) : z_Ci G yX5_withinOf cX5_withinOf 3 (some .int) 1 [.ref 98] μ (fun r1 μ1 => r = r1 ∧ μr = μ1) := by
  unfold z_Ci
  refine z_intro (by decide +kernel) (Nat.le_of_ble_eq_true rfl) (fun E hE F Rt => ?_)
  subst hE
  have F : z_F E RX5 cX5_withinOf 3 1 := F
  rw [hρ] at Rt
  unfold f_X5_withinOf at h
  show z_J E 3 0 [some (.ref 98), none, none] [] μ
  refine j_bipush F (pc := 0) (n := 115) (v := 115) (by decide +kernel) (by decide +kernel) ?_
  refine j_bipush F (pc := 2) (n := 111) (v := 111) (by decide +kernel) (by decide +kernel) ?_
  refine j_bipush F (pc := 4) (n := 111) (v := 111) (by decide +kernel) (by decide +kernel) ?_
  refine j_bipush F (pc := 6) (n := 110) (v := 110) (by decide +kernel) (by decide +kernel) ?_
  obtain ⟨r1, μ2, hc4, h⟩ := z_b2_some h
  refine j_callSl F (pc := 8) (idx := 184) (As := [.int (115 : Int32), .int (111 : Int32), .int (111 : Int32), .int (110 : Int32)]) (st := []) (t_X5_code (G := E.1) hρ  hc4) q_X5_code m_1084 m_1083 rfl (by decide) (Nat.le_of_ble_eq_true rfl) rfl (by decide +kernel) (fun s7 ν5 hq6 hp => ?_)
  obtain ⟨rfl, rfl⟩ := hp
  have hρ3 : μ2.2.2 = ρ := hq6.trans hρ
  refine j_bipush F (pc := 11) (n := 101) (v := 101) (by decide +kernel) (by decide +kernel) ?_
  obtain ⟨r8, μ9, hc11, h⟩ := z_b2_some h
  refine j_callSl F (pc := 13) (idx := 188) (As := [.long r1, .int (101 : Int32)]) (st := []) (t_X5_longer (G := E.1) hρ3  hc11) q_X5_longer m_1087 m_1086 rfl (by decide) (Nat.le_of_ble_eq_true rfl) rfl (by decide +kernel) (fun s14 ν12 hq13 hp => ?_)
  obtain ⟨rfl, rfl⟩ := hp
  have hρ10 : μ9.2.2 = ρ := hq13.trans hρ3
  refine j_bipush F (pc := 16) (n := 114) (v := 114) (by decide +kernel) (by decide +kernel) ?_
  obtain ⟨r15, μ16, hc18, h⟩ := z_b2_some h
  refine j_callSl F (pc := 18) (idx := 188) (As := [.long r8, .int (114 : Int32)]) (st := []) (t_X5_longer (G := E.1) hρ10  hc18) q_X5_longer m_1087 m_1086 rfl (by decide) (Nat.le_of_ble_eq_true rfl) rfl (by decide +kernel) (fun s21 ν19 hq20 hp => ?_)
  obtain ⟨rfl, rfl⟩ := hp
  have hρ17 : μ16.2.2 = ρ := hq20.trans hρ10
  refine j_lstore_n F (pc := 21) (q := 1) (L' := [some (.ref 98), some (.long r15), none]) (by decide +kernel) (by decide) rfl rfl ?_
  refine j_aload_n F (pc := 22) (q := 0) (by decide +kernel) rfl ?_
  refine j_getL F (pc := 23) fl_X5_165 (hk.s c_98) rfl (by decide +kernel) ?_
  refine j_bipush F (pc := 26) (n := 112) (v := 112) (by decide +kernel) (by decide +kernel) ?_
  refine j_bipush F (pc := 28) (n := 97) (v := 97) (by decide +kernel) (by decide +kernel) ?_
  refine j_bipush F (pc := 30) (n := 114) (v := 114) (by decide +kernel) (by decide +kernel) ?_
  refine j_bipush F (pc := 32) (n := 116) (v := 116) (by decide +kernel) (by decide +kernel) ?_
  obtain ⟨r22, μ23, hc25, h⟩ := z_b2_some h
  refine j_callSl F (pc := 34) (idx := 184) (As := [.int (112 : Int32), .int (97 : Int32), .int (114 : Int32), .int (116 : Int32)]) (st := [.long (μ16.2.1 98 16)]) (t_X5_code (G := E.1) hρ17  hc25) q_X5_code m_1084 m_1083 rfl (by decide) (Nat.le_of_ble_eq_true rfl) rfl (by decide +kernel) (fun s28 ν26 hq27 hp => ?_)
  obtain ⟨rfl, rfl⟩ := hp
  have hρ24 : μ23.2.2 = ρ := hq27.trans hρ17
  refine j_bipush F (pc := 37) (n := 115) (v := 115) (by decide +kernel) (by decide +kernel) ?_
  obtain ⟨r29, μ30, hc32, h⟩ := z_b2_some h
  refine j_callSl F (pc := 39) (idx := 188) (As := [.long r22, .int (115 : Int32)]) (st := [.long (μ16.2.1 98 16)]) (t_X5_longer (G := E.1) hρ24  hc32) q_X5_longer m_1087 m_1086 rfl (by decide) (Nat.le_of_ble_eq_true rfl) rfl (by decide +kernel) (fun s35 ν33 hq34 hp => ?_)
  obtain ⟨rfl, rfl⟩ := hp
  have hρ31 : μ30.2.2 = ρ := hq34.trans hρ24
  refine j_lcmp F (pc := 42) (by decide +kernel) ?_
  refine j_if_ne F (pc := 43) (off := 7) (tgt := 50) (by decide +kernel) (by decide) (fun c => ?_) (fun c => ?_)
  · rw [if_neg c] at h
    refine j_aload_n F (pc := 50) (q := 0) (by decide +kernel) rfl ?_
    refine j_getL F (pc := 51) fl_X5_165 (hk.s c_98) rfl (by decide +kernel) ?_
    refine j_bipush F (pc := 54) (n := 108) (v := 108) (by decide +kernel) (by decide +kernel) ?_
    refine j_bipush F (pc := 56) (n := 97) (v := 97) (by decide +kernel) (by decide +kernel) ?_
    refine j_bipush F (pc := 58) (n := 116) (v := 116) (by decide +kernel) (by decide +kernel) ?_
    refine j_bipush F (pc := 60) (n := 101) (v := 101) (by decide +kernel) (by decide +kernel) ?_
    obtain ⟨r36, μ37, hc39, h⟩ := z_b2_some h
    refine j_callSl F (pc := 62) (idx := 184) (As := [.int (108 : Int32), .int (97 : Int32), .int (116 : Int32), .int (101 : Int32)]) (st := [.long (μ30.2.1 98 16)]) (t_X5_code (G := E.1) hρ31  hc39) q_X5_code m_1084 m_1083 rfl (by decide) (Nat.le_of_ble_eq_true rfl) rfl (by decide +kernel) (fun s42 ν40 hq41 hp => ?_)
    obtain ⟨rfl, rfl⟩ := hp
    have hρ38 : μ37.2.2 = ρ := hq41.trans hρ31
    refine j_bipush F (pc := 65) (n := 114) (v := 114) (by decide +kernel) (by decide +kernel) ?_
    obtain ⟨r43, μ44, hc46, h⟩ := z_b2_some h
    refine j_callSl F (pc := 67) (idx := 188) (As := [.long r36, .int (114 : Int32)]) (st := [.long (μ30.2.1 98 16)]) (t_X5_longer (G := E.1) hρ38  hc46) q_X5_longer m_1087 m_1086 rfl (by decide) (Nat.le_of_ble_eq_true rfl) rfl (by decide +kernel) (fun s49 ν47 hq48 hp => ?_)
    obtain ⟨rfl, rfl⟩ := hp
    have hρ45 : μ44.2.2 = ρ := hq48.trans hρ38
    refine j_lcmp F (pc := 70) (by decide +kernel) ?_
    refine j_if_ne F (pc := 71) (off := 7) (tgt := 78) (by decide +kernel) (by decide) (fun c => ?_) (fun c => ?_)
    · rw [if_neg c] at h
      refine j_aload_n F (pc := 78) (q := 0) (by decide +kernel) rfl ?_
      refine j_getL F (pc := 79) fl_X5_165 (hk.s c_98) rfl (by decide +kernel) ?_
      refine j_lload_n F (pc := 82) (q := 1) (by decide +kernel) rfl ?_
      refine j_lcmp F (pc := 83) (by decide +kernel) ?_
      refine j_if_ne F (pc := 84) (off := 7) (tgt := 91) (by decide +kernel) (by decide) (fun c => ?_) (fun c => ?_)
      · rw [if_neg c] at h
        refine j_iconst F (pc := 91) (n := -1) (v := -1) (by decide +kernel) (by decide +kernel) ?_
        exact j_iret (st := []) F Rt rfl (by decide +kernel) ⟨hρ45, _, rfl, (congrArg Prod.fst (Option.some.inj h)).symm, (congrArg Prod.snd (Option.some.inj h)).symm⟩
      · rw [if_pos c] at h
        refine j_iconst F (pc := 87) (n := 2) (v := 2) (by decide +kernel) (by decide +kernel) ?_
        refine j_goto F (pc := 88) (off := 4) (tgt := 92) (by decide +kernel) (by decide) ?_
        exact j_iret (st := []) F Rt rfl (by decide +kernel) ⟨hρ45, _, rfl, (congrArg Prod.fst (Option.some.inj h)).symm, (congrArg Prod.snd (Option.some.inj h)).symm⟩
    · rw [if_pos c] at h
      refine j_iconst F (pc := 74) (n := 1) (v := 1) (by decide +kernel) (by decide +kernel) ?_
      refine j_goto F (pc := 75) (off := 17) (tgt := 92) (by decide +kernel) (by decide) ?_
      exact j_iret (st := []) F Rt rfl (by decide +kernel) ⟨hρ45, _, rfl, (congrArg Prod.fst (Option.some.inj h)).symm, (congrArg Prod.snd (Option.some.inj h)).symm⟩
  · rw [if_pos c] at h
    refine j_iconst F (pc := 46) (n := 0) (v := 0) (by decide +kernel) (by decide +kernel) ?_
    refine j_goto F (pc := 47) (off := 45) (tgt := 92) (by decide +kernel) (by decide) ?_
    exact j_iret (st := []) F Rt rfl (by decide +kernel) ⟨hρ31, _, rfl, (congrArg Prod.fst (Option.some.inj h)).symm, (congrArg Prod.snd (Option.some.inj h)).symm⟩
def g_X5_takeOnce_56   (x1 : Int32) (μ : z_M) : Option (Int32 × z_M) :=
  (if x1 = (9 : Int32) then (z_b2 (f_X5_takeNumber ((0 : Int32)) ((999 : Int32)) μ) fun r37 μ38 => (if z_in (3 : Int32) 5 then (z_st (z_si μ38 110 (3 : Int32).toNatClampNeg (μ38.1 98 18)) fun μ44 => (some (r37, μ44))) else none)) else (if x1 = (5 : Int32) then (z_b1 (f_X5_readWord  μ) fun μ5 => (z_b2 (f_X5_withinOf  μ5) fun r10 μ11 => (if 0 ≤ r10 then (z_b2 (f_X5_withinOf  μ11) fun r17 μ18 => (if z_in (1 : Int32) 5 then (z_st (z_si μ18 110 (1 : Int32).toNatClampNeg r17) fun μ24 => (z_st (z_si μ24 98 15 (μ24.1 98 17)) fun μ27 => (some ((0 : Int32), μ27)))) else none)) else (z_b2 (f_X5_fails ((1 : Int32)) ((μ11.1 98 15)) μ11) fun r30 μ31 => (some (r30, μ31)))))) else (some ((0 : Int32), μ))))
def g_X5_takeOnce_43   (x1 : Int32) (μ : z_M) : Option (Int32 × z_M) :=
  (if x1 = (8 : Int32) then (if z_in (2 : Int32) 5 then (z_st (z_si μ 110 (2 : Int32).toNatClampNeg (1 : Int32)) fun μ47 => (g_X5_takeOnce_56   (x1) μ47)) else none) else (g_X5_takeOnce_56   (x1) μ))
def f_X5_takeOnce (x1 : Int32) (x2 : Int32) (μ : z_M) : Option (Int32 × z_M) :=
  (if (((μ.1 98 21) >>> (x1 &&& 31)) &&& (1 : Int32)) = (1 : Int32) then (z_b2 (f_X5_fails ((3 : Int32)) (x2) μ) fun r53 μ54 => (some (r53, μ54))) else (z_st (z_si μ 98 21 ((μ.1 98 21) ||| ((1 : Int32) <<< (x1 &&& 31)))) fun μ1 => (if x1 = (4 : Int32) then (if z_in (0 : Int32) 5 then (z_st (z_si μ1 110 (0 : Int32).toNatClampNeg (1 : Int32)) fun μ50 => (g_X5_takeOnce_43   (x1) μ50)) else none) else (g_X5_takeOnce_43   (x1) μ1))))
set_option maxHeartbeats 4000000 in
set_option maxRecDepth 100000 in
theorem u_X5_takeOnce_56 {E : z_E} {ρ : Nat → Nat → Option Nat} {r : Int32} {μr : z_M} (F : z_F E RX5 cX5_takeOnce 4 2) (Rt : z_R E (some .int) (fun v μ1 => μ1.2.2 = ρ ∧ ∃ r1, v = some (.int r1) ∧ r = r1 ∧ μr = μ1))  (hk : z_ok (z_sh E.1) ρ) : ∀ (x1 : Int32) (μ : z_M), μ.2.2 = ρ → g_X5_takeOnce_56   x1 μ = some (r, μr) → z_J E 4 56 [some (.ref 98), some (.int x1), none, none] [] μ := by
  intro x1 μ hρ h
  unfold g_X5_takeOnce_56 at h
  refine j_iload_n F (pc := 56) (q := 1) (by decide +kernel) rfl ?_
  refine j_bipush F (pc := 57) (n := 9) (v := 9) (by decide +kernel) (by decide +kernel) ?_
  refine j_icmp_ne F (pc := 59) (off := 24) (tgt := 83) (by decide +kernel) (by decide) (fun c => ?_) (fun c => ?_)
  · rw [if_neg c] at h
    refine j_iload_n F (pc := 83) (q := 1) (by decide +kernel) rfl ?_
    refine j_iconst F (pc := 84) (n := 5) (v := 5) (by decide +kernel) (by decide +kernel) ?_
    refine j_icmp_ne F (pc := 85) (off := 42) (tgt := 127) (by decide +kernel) (by decide) (fun c => ?_) (fun c => ?_)
    · rw [if_neg c] at h
      refine j_iconst F (pc := 127) (n := 0) (v := 0) (by decide +kernel) (by decide +kernel) ?_
      exact j_iret (st := []) F Rt rfl (by decide +kernel) ⟨hρ, _, rfl, (congrArg Prod.fst (Option.some.inj h)).symm, (congrArg Prod.snd (Option.some.inj h)).symm⟩
    · rw [if_pos c] at h
      refine j_aload_n F (pc := 88) (q := 0) (by decide +kernel) rfl ?_
      obtain ⟨μ5, hc7, h⟩ := z_b1_some h
      refine j_callVv F (pc := 89) (idx := 203) (As := []) (st := []) (t_X5_readWord (G := E.1) hρ hk hc7) q_X5_readWord v_X5_readWord m_1069 (hk.s c_98) rfl rfl (by decide) (Nat.le_of_ble_eq_true rfl) rfl (by decide +kernel) (fun ν8 hq9 hp => ?_)
      subst hp
      have hρ6 : μ5.2.2 = ρ := hq9.trans hρ
      refine j_aload_n F (pc := 92) (q := 0) (by decide +kernel) rfl ?_
      obtain ⟨r10, μ11, hc13, h⟩ := z_b2_some h
      refine j_callVi F (pc := 93) (idx := 227) (As := []) (st := []) (t_X5_withinOf (G := E.1) hρ6 hk hc13) q_X5_withinOf v_X5_withinOf m_1123 (hk.s c_98) rfl rfl (by decide) (Nat.le_of_ble_eq_true rfl) rfl (by decide +kernel) (fun s16 ν14 hq15 hp => ?_)
      obtain ⟨rfl, rfl⟩ := hp
      have hρ12 : μ11.2.2 = ρ := hq15.trans hρ6
      refine j_if_ge F (pc := 96) (off := 13) (tgt := 109) (by decide +kernel) (by decide) (fun c => ?_) (fun c => ?_)
      · rw [if_pos c] at h
        refine j_aload_n F (pc := 109) (q := 0) (by decide +kernel) rfl ?_
        refine j_getR F (pc := 110) (hk.r hρ12 r_98_11) fl_X5_44 (hk.s c_98) rfl (by decide +kernel) ?_
        refine j_iconst F (pc := 113) (n := 1) (v := 1) (by decide +kernel) (by decide +kernel) ?_
        refine j_aload_n F (pc := 114) (q := 0) (by decide +kernel) rfl ?_
        obtain ⟨r17, μ18, hc20, h⟩ := z_b2_some h
        refine j_callVi F (pc := 115) (idx := 227) (As := []) (st := [.int (1 : Int32), .ref 110]) (t_X5_withinOf (G := E.1) hρ12 hk hc20) q_X5_withinOf v_X5_withinOf m_1123 (hk.s c_98) rfl rfl (by decide) (Nat.le_of_ble_eq_true rfl) rfl (by decide +kernel) (fun s23 ν21 hq22 hp => ?_)
        obtain ⟨rfl, rfl⟩ := hp
        have hρ19 : μ18.2.2 = ρ := hq22.trans hρ12
        obtain ⟨hg, h⟩ := z_ifs h
        refine j_iast F (pc := 118) (hk.s c_110) hg (by decide +kernel) ?_
        obtain ⟨μ24, e26, h⟩ := z_st_some h
        rw [← e26]
        have hρ25 : μ24.2.2 = ρ := by rw [e26]; exact hρ19
        refine j_aload_n F (pc := 119) (q := 0) (by decide +kernel) rfl ?_
        refine j_aload_n F (pc := 120) (q := 0) (by decide +kernel) rfl ?_
        refine j_getI F (pc := 121) fl_X5_169 (hk.s c_98) rfl (by decide +kernel) ?_
        refine j_putI F (pc := 124) fl_X5_158 fp_X5_15 (hk.s c_98) rfl (by decide +kernel) ?_
        obtain ⟨μ27, e29, h⟩ := z_st_some h
        rw [← e29]
        have hρ28 : μ27.2.2 = ρ := by rw [e29]; exact hρ25
        refine j_iconst F (pc := 127) (n := 0) (v := 0) (by decide +kernel) (by decide +kernel) ?_
        exact j_iret (st := []) F Rt rfl (by decide +kernel) ⟨hρ28, _, rfl, (congrArg Prod.fst (Option.some.inj h)).symm, (congrArg Prod.snd (Option.some.inj h)).symm⟩
      · rw [if_neg c] at h
        refine j_aload_n F (pc := 99) (q := 0) (by decide +kernel) rfl ?_
        refine j_iconst F (pc := 100) (n := 1) (v := 1) (by decide +kernel) (by decide +kernel) ?_
        refine j_aload_n F (pc := 101) (q := 0) (by decide +kernel) rfl ?_
        refine j_getI F (pc := 102) fl_X5_158 (hk.s c_98) rfl (by decide +kernel) ?_
        obtain ⟨r30, μ31, hc33, h⟩ := z_b2_some h
        refine j_callVi F (pc := 105) (idx := 196) (As := [.int (1 : Int32), .int (μ11.1 98 15)]) (st := []) (t_X5_fails (G := E.1) hρ12 hk hc33) q_X5_fails v_X5_fails m_1089 (hk.s c_98) rfl rfl (by decide) (Nat.le_of_ble_eq_true rfl) rfl (by decide +kernel) (fun s36 ν34 hq35 hp => ?_)
        obtain ⟨rfl, rfl⟩ := hp
        have hρ32 : μ31.2.2 = ρ := hq35.trans hρ12
        exact j_iret (st := []) F Rt rfl (by decide +kernel) ⟨hρ32, _, rfl, (congrArg Prod.fst (Option.some.inj h)).symm, (congrArg Prod.snd (Option.some.inj h)).symm⟩
  · rw [if_pos c] at h
    refine j_aload_n F (pc := 62) (q := 0) (by decide +kernel) rfl ?_
    refine j_iconst F (pc := 63) (n := 0) (v := 0) (by decide +kernel) (by decide +kernel) ?_
    refine j_sipush F (pc := 64) (n := 999) (v := 999) (by decide +kernel) (by decide +kernel) ?_
    obtain ⟨r37, μ38, hc40, h⟩ := z_b2_some h
    refine j_callVi F (pc := 67) (idx := 221) (As := [.int (0 : Int32), .int (999 : Int32)]) (st := []) (t_X5_takeNumber (G := E.1) hρ hk hc40) q_X5_takeNumber v_X5_takeNumber m_1117 (hk.s c_98) rfl rfl (by decide) (Nat.le_of_ble_eq_true rfl) rfl (by decide +kernel) (fun s43 ν41 hq42 hp => ?_)
    obtain ⟨rfl, rfl⟩ := hp
    have hρ39 : μ38.2.2 = ρ := hq42.trans hρ
    refine j_istore_n F (pc := 70) (q := 3) (L' := [some (.ref 98), some (.int x1), none, some (.int r37)]) (by decide +kernel) (by decide) rfl rfl ?_
    refine j_aload_n F (pc := 71) (q := 0) (by decide +kernel) rfl ?_
    refine j_getR F (pc := 72) (hk.r hρ39 r_98_11) fl_X5_44 (hk.s c_98) rfl (by decide +kernel) ?_
    refine j_iconst F (pc := 75) (n := 3) (v := 3) (by decide +kernel) (by decide +kernel) ?_
    refine j_aload_n F (pc := 76) (q := 0) (by decide +kernel) rfl ?_
    refine j_getI F (pc := 77) fl_X5_200 (hk.s c_98) rfl (by decide +kernel) ?_
    obtain ⟨hg, h⟩ := z_ifs h
    refine j_iast F (pc := 80) (hk.s c_110) hg (by decide +kernel) ?_
    obtain ⟨μ44, e46, h⟩ := z_st_some h
    rw [← e46]
    have hρ45 : μ44.2.2 = ρ := by rw [e46]; exact hρ39
    refine j_iload_n F (pc := 81) (q := 3) (by decide +kernel) rfl ?_
    exact j_iret (st := []) F Rt rfl (by decide +kernel) ⟨hρ45, _, rfl, (congrArg Prod.fst (Option.some.inj h)).symm, (congrArg Prod.snd (Option.some.inj h)).symm⟩
set_option maxHeartbeats 4000000 in
set_option maxRecDepth 100000 in
theorem u_X5_takeOnce_43 {E : z_E} {ρ : Nat → Nat → Option Nat} {r : Int32} {μr : z_M} (F : z_F E RX5 cX5_takeOnce 4 2) (Rt : z_R E (some .int) (fun v μ1 => μ1.2.2 = ρ ∧ ∃ r1, v = some (.int r1) ∧ r = r1 ∧ μr = μ1))  (hk : z_ok (z_sh E.1) ρ) : ∀ (x1 : Int32) (μ : z_M), μ.2.2 = ρ → g_X5_takeOnce_43   x1 μ = some (r, μr) → z_J E 4 43 [some (.ref 98), some (.int x1), none, none] [] μ := by
  intro x1 μ hρ h
  unfold g_X5_takeOnce_43 at h
  refine j_iload_n F (pc := 43) (q := 1) (by decide +kernel) rfl ?_
  refine j_bipush F (pc := 44) (n := 8) (v := 8) (by decide +kernel) (by decide +kernel) ?_
  refine j_icmp_ne F (pc := 46) (off := 10) (tgt := 56) (by decide +kernel) (by decide) (fun c => ?_) (fun c => ?_)
  · rw [if_neg c] at h
    refine u_X5_takeOnce_56 F Rt hk  _ _ hρ h
  · rw [if_pos c] at h
    refine j_aload_n F (pc := 49) (q := 0) (by decide +kernel) rfl ?_
    refine j_getR F (pc := 50) (hk.r hρ r_98_11) fl_X5_44 (hk.s c_98) rfl (by decide +kernel) ?_
    refine j_iconst F (pc := 53) (n := 2) (v := 2) (by decide +kernel) (by decide +kernel) ?_
    refine j_iconst F (pc := 54) (n := 1) (v := 1) (by decide +kernel) (by decide +kernel) ?_
    obtain ⟨hg, h⟩ := z_ifs h
    refine j_iast F (pc := 55) (hk.s c_110) hg (by decide +kernel) ?_
    obtain ⟨μ47, e49, h⟩ := z_st_some h
    rw [← e49]
    have hρ48 : μ47.2.2 = ρ := by rw [e49]; exact hρ
    refine u_X5_takeOnce_56 F Rt hk  _ _ hρ48 h
set_option maxHeartbeats 4000000 in
set_option maxRecDepth 100000 in
theorem t_X5_takeOnce {G : z_Gl} {ρ : Nat → Nat → Option Nat} {μ : z_M} {r : Int32} {μr : z_M} {x1 : Int32} {x2 : Int32} (hρ : μ.2.2 = ρ) (hk : z_ok (z_sh G) ρ) (h : f_X5_takeOnce x1 x2 μ = some (r, μr)) : z_Ci G yX5_takeOnce cX5_takeOnce 4 (some .int) 2 [.ref 98, .int x1, .int x2] μ (fun r1 μ1 => r = r1 ∧ μr = μ1) := by
  unfold z_Ci
  refine z_intro (by decide +kernel) (Nat.le_of_ble_eq_true rfl) (fun E hE F Rt => ?_)
  subst hE
  have F : z_F E RX5 cX5_takeOnce 4 2 := F
  rw [hρ] at Rt
  unfold f_X5_takeOnce at h
  show z_J E 4 0 [some (.ref 98), some (.int x1), some (.int x2), none] [] μ
  refine j_aload_n F (pc := 0) (q := 0) (by decide +kernel) rfl ?_
  refine j_getI F (pc := 1) fl_X5_224 (hk.s c_98) rfl (by decide +kernel) ?_
  refine j_iload_n F (pc := 4) (q := 1) (by decide +kernel) rfl ?_
  refine j_ishr F (pc := 5) (by decide +kernel) ?_
  refine j_iconst F (pc := 6) (n := 1) (v := 1) (by decide +kernel) (by decide +kernel) ?_
  refine j_iand F (pc := 7) (by decide +kernel) ?_
  refine j_iconst F (pc := 8) (n := 1) (v := 1) (by decide +kernel) (by decide +kernel) ?_
  refine j_icmp_ne F (pc := 9) (off := 10) (tgt := 19) (by decide +kernel) (by decide) (fun c => ?_) (fun c => ?_)
  · rw [if_neg c] at h
    refine j_aload_n F (pc := 19) (q := 0) (by decide +kernel) rfl ?_
    refine j_dup F (pc := 20) (by decide +kernel) rfl ?_
    refine j_getI F (pc := 21) fl_X5_224 (hk.s c_98) rfl (by decide +kernel) ?_
    refine j_iconst F (pc := 24) (n := 1) (v := 1) (by decide +kernel) (by decide +kernel) ?_
    refine j_iload_n F (pc := 25) (q := 1) (by decide +kernel) rfl ?_
    refine j_ishl F (pc := 26) (by decide +kernel) ?_
    refine j_ior F (pc := 27) (by decide +kernel) ?_
    refine j_putI F (pc := 28) fl_X5_224 fp_X5_21 (hk.s c_98) rfl (by decide +kernel) ?_
    obtain ⟨μ1, e3, h⟩ := z_st_some h
    rw [← e3]
    have hρ2 : μ1.2.2 = ρ := by rw [e3]; exact hρ
    refine j_iload_n F (pc := 31) (q := 1) (by decide +kernel) rfl ?_
    refine j_iconst F (pc := 32) (n := 4) (v := 4) (by decide +kernel) (by decide +kernel) ?_
    refine j_icmp_ne F (pc := 33) (off := 10) (tgt := 43) (by decide +kernel) (by decide) (fun c => ?_) (fun c => ?_)
    · rw [if_neg c] at h
      refine j_mk F [true, true, false, false] (L' := [some (.ref 98), some (.int x1), none, none]) rfl ?_
      refine u_X5_takeOnce_43 F Rt hk  _ _ hρ2 h
    · rw [if_pos c] at h
      refine j_aload_n F (pc := 36) (q := 0) (by decide +kernel) rfl ?_
      refine j_getR F (pc := 37) (hk.r hρ2 r_98_11) fl_X5_44 (hk.s c_98) rfl (by decide +kernel) ?_
      refine j_iconst F (pc := 40) (n := 0) (v := 0) (by decide +kernel) (by decide +kernel) ?_
      refine j_iconst F (pc := 41) (n := 1) (v := 1) (by decide +kernel) (by decide +kernel) ?_
      obtain ⟨hg, h⟩ := z_ifs h
      refine j_iast F (pc := 42) (hk.s c_110) hg (by decide +kernel) ?_
      obtain ⟨μ50, e52, h⟩ := z_st_some h
      rw [← e52]
      have hρ51 : μ50.2.2 = ρ := by rw [e52]; exact hρ2
      refine j_mk F [true, true, false, false] (L' := [some (.ref 98), some (.int x1), none, none]) rfl ?_
      refine u_X5_takeOnce_43 F Rt hk  _ _ hρ51 h
  · rw [if_pos c] at h
    refine j_aload_n F (pc := 12) (q := 0) (by decide +kernel) rfl ?_
    refine j_iconst F (pc := 13) (n := 3) (v := 3) (by decide +kernel) (by decide +kernel) ?_
    refine j_iload_n F (pc := 14) (q := 2) (by decide +kernel) rfl ?_
    obtain ⟨r53, μ54, hc56, h⟩ := z_b2_some h
    refine j_callVi F (pc := 15) (idx := 196) (As := [.int (3 : Int32), .int x2]) (st := []) (t_X5_fails (G := E.1) hρ hk hc56) q_X5_fails v_X5_fails m_1089 (hk.s c_98) rfl rfl (by decide) (Nat.le_of_ble_eq_true rfl) rfl (by decide +kernel) (fun s59 ν57 hq58 hp => ?_)
    obtain ⟨rfl, rfl⟩ := hp
    have hρ55 : μ54.2.2 = ρ := hq58.trans hρ
    exact j_iret (st := []) F Rt rfl (by decide +kernel) ⟨hρ55, _, rfl, (congrArg Prod.fst (Option.some.inj h)).symm, (congrArg Prod.snd (Option.some.inj h)).symm⟩
def g_X5_takeAhead_50   (x3 : Int32) (xs0 : Int32) (μ : z_M) : Option (Int32 × z_M) :=
  (if xs0 ≤ 0 then (if x3 = (μ.1 98 19) then (z_b2 (f_X5_fails ((3 : Int32)) ((μ.1 98 20)) μ) fun r23 μ24 => (some (r23, μ24))) else (if z_in (((8 : Int32) * x3) + (μ.1 98 19)) 64 then (z_st (z_si μ 109 (((8 : Int32) * x3) + (μ.1 98 19)).toNatClampNeg ((1 : Int32) &&& 1)) fun μ20 => (some ((0 : Int32), μ20))) else none)) else (some (xs0, μ)))
def f_X5_takeAhead (x1 : Int32) (μ : z_M) : Option (Int32 × z_M) :=
  (if z_in (4 : Int32) 5 then (if (μ.1 110 (4 : Int32).toNatClampNeg) = (12 : Int32) then (z_b2 (f_X5_fails ((3 : Int32)) (x1) μ) fun r30 μ31 => (some (r30, μ31))) else (if z_in (4 : Int32) 5 then (if z_in (4 : Int32) 5 then (z_st (z_si μ 110 (4 : Int32).toNatClampNeg ((μ.1 110 (4 : Int32).toNatClampNeg) + (1 : Int32))) fun μ1 => (z_b2 (f_X5_takeKind  μ1) fun r4 μ5 => (z_lt (μ5.1 98 19) fun x_11 => (if r4 ≤ 0 then (z_b2 (f_X5_takeKind  μ5) fun r13 μ14 => (g_X5_takeAhead_50   (x_11) (r13) μ14)) else (g_X5_takeAhead_50   (x_11) (r4) μ5))))) else none) else none)) else none)
set_option maxHeartbeats 4000000 in
set_option maxRecDepth 100000 in
theorem u_X5_takeAhead_50 {E : z_E} {ρ : Nat → Nat → Option Nat} {r : Int32} {μr : z_M} (F : z_F E RX5 cX5_takeAhead 4 3) (Rt : z_R E (some .int) (fun v μ1 => μ1.2.2 = ρ ∧ ∃ r1, v = some (.int r1) ∧ r = r1 ∧ μr = μ1))  (hk : z_ok (z_sh E.1) ρ) : ∀ (x3 : Int32) (xs0 : Int32) (μ : z_M), μ.2.2 = ρ → g_X5_takeAhead_50   x3 xs0 μ = some (r, μr) → z_J E 4 50 [some (.ref 98), none, none, some (.int x3)] [.int xs0] μ := by
  intro x3 xs0 μ hρ h
  unfold g_X5_takeAhead_50 at h
  refine j_istore_n F (pc := 50) (q := 2) (L' := [some (.ref 98), none, some (.int xs0), some (.int x3)]) (by decide +kernel) (by decide) rfl rfl ?_
  refine j_iload_n F (pc := 51) (q := 2) (by decide +kernel) rfl ?_
  refine j_if_le F (pc := 52) (off := 5) (tgt := 57) (by decide +kernel) (by decide) (fun c => ?_) (fun c => ?_)
  · rw [if_pos c] at h
    refine j_iload_n F (pc := 57) (q := 3) (by decide +kernel) rfl ?_
    refine j_aload_n F (pc := 58) (q := 0) (by decide +kernel) rfl ?_
    refine j_getI F (pc := 59) fl_X5_209 (hk.s c_98) rfl (by decide +kernel) ?_
    refine j_icmp_ne F (pc := 62) (off := 13) (tgt := 75) (by decide +kernel) (by decide) (fun c => ?_) (fun c => ?_)
    · rw [if_neg c] at h
      refine j_aload_n F (pc := 75) (q := 0) (by decide +kernel) rfl ?_
      refine j_getR F (pc := 76) (hk.r hρ r_98_10) fl_X5_41 (hk.s c_98) rfl (by decide +kernel) ?_
      refine j_bipush F (pc := 79) (n := 8) (v := 8) (by decide +kernel) (by decide +kernel) ?_
      refine j_iload_n F (pc := 81) (q := 3) (by decide +kernel) rfl ?_
      refine j_imul F (pc := 82) (by decide +kernel) ?_
      refine j_aload_n F (pc := 83) (q := 0) (by decide +kernel) rfl ?_
      refine j_getI F (pc := 84) fl_X5_209 (hk.s c_98) rfl (by decide +kernel) ?_
      refine j_iadd F (pc := 87) (by decide +kernel) ?_
      refine j_iconst F (pc := 88) (n := 1) (v := 1) (by decide +kernel) (by decide +kernel) ?_
      obtain ⟨hg, h⟩ := z_ifs h
      refine j_zast F (pc := 89) (hk.s c_109) hg (by decide +kernel) ?_
      obtain ⟨μ20, e22, h⟩ := z_st_some h
      rw [← e22]
      have hρ21 : μ20.2.2 = ρ := by rw [e22]; exact hρ
      refine j_iconst F (pc := 90) (n := 0) (v := 0) (by decide +kernel) (by decide +kernel) ?_
      exact j_iret (st := []) F Rt rfl (by decide +kernel) ⟨hρ21, _, rfl, (congrArg Prod.fst (Option.some.inj h)).symm, (congrArg Prod.snd (Option.some.inj h)).symm⟩
    · rw [if_pos c] at h
      refine j_aload_n F (pc := 65) (q := 0) (by decide +kernel) rfl ?_
      refine j_iconst F (pc := 66) (n := 3) (v := 3) (by decide +kernel) (by decide +kernel) ?_
      refine j_aload_n F (pc := 67) (q := 0) (by decide +kernel) rfl ?_
      refine j_getI F (pc := 68) fl_X5_212 (hk.s c_98) rfl (by decide +kernel) ?_
      obtain ⟨r23, μ24, hc26, h⟩ := z_b2_some h
      refine j_callVi F (pc := 71) (idx := 196) (As := [.int (3 : Int32), .int (μ.1 98 20)]) (st := []) (t_X5_fails (G := E.1) hρ hk hc26) q_X5_fails v_X5_fails m_1089 (hk.s c_98) rfl rfl (by decide) (Nat.le_of_ble_eq_true rfl) rfl (by decide +kernel) (fun s29 ν27 hq28 hp => ?_)
      obtain ⟨rfl, rfl⟩ := hp
      have hρ25 : μ24.2.2 = ρ := hq28.trans hρ
      exact j_iret (st := []) F Rt rfl (by decide +kernel) ⟨hρ25, _, rfl, (congrArg Prod.fst (Option.some.inj h)).symm, (congrArg Prod.snd (Option.some.inj h)).symm⟩
  · rw [if_neg c] at h
    refine j_iload_n F (pc := 55) (q := 2) (by decide +kernel) rfl ?_
    exact j_iret (st := []) F Rt rfl (by decide +kernel) ⟨hρ, _, rfl, (congrArg Prod.fst (Option.some.inj h)).symm, (congrArg Prod.snd (Option.some.inj h)).symm⟩
set_option maxHeartbeats 4000000 in
set_option maxRecDepth 100000 in
theorem t_X5_takeAhead {G : z_Gl} {ρ : Nat → Nat → Option Nat} {μ : z_M} {r : Int32} {μr : z_M} {x1 : Int32} (hρ : μ.2.2 = ρ) (hk : z_ok (z_sh G) ρ) (h : f_X5_takeAhead x1 μ = some (r, μr)) : z_Ci G yX5_takeAhead cX5_takeAhead 4 (some .int) 3 [.ref 98, .int x1] μ (fun r1 μ1 => r = r1 ∧ μr = μ1) := by
  unfold z_Ci
  refine z_intro (by decide +kernel) (Nat.le_of_ble_eq_true rfl) (fun E hE F Rt => ?_)
  subst hE
  have F : z_F E RX5 cX5_takeAhead 4 3 := F
  rw [hρ] at Rt
  unfold f_X5_takeAhead at h
  show z_J E 4 0 [some (.ref 98), some (.int x1), none, none] [] μ
  refine j_aload_n F (pc := 0) (q := 0) (by decide +kernel) rfl ?_
  refine j_getR F (pc := 1) (hk.r hρ r_98_11) fl_X5_44 (hk.s c_98) rfl (by decide +kernel) ?_
  refine j_iconst F (pc := 4) (n := 4) (v := 4) (by decide +kernel) (by decide +kernel) ?_
  obtain ⟨hg, h⟩ := z_ifs h
  refine j_iald F (pc := 5) (hk.s c_110) hg (by decide +kernel) ?_
  refine j_bipush F (pc := 6) (n := 12) (v := 12) (by decide +kernel) (by decide +kernel) ?_
  refine j_icmp_ne F (pc := 8) (off := 10) (tgt := 18) (by decide +kernel) (by decide) (fun c => ?_) (fun c => ?_)
  · rw [if_neg c] at h
    refine j_aload_n F (pc := 18) (q := 0) (by decide +kernel) rfl ?_
    refine j_getR F (pc := 19) (hk.r hρ r_98_11) fl_X5_44 (hk.s c_98) rfl (by decide +kernel) ?_
    refine j_iconst F (pc := 22) (n := 4) (v := 4) (by decide +kernel) (by decide +kernel) ?_
    refine j_dup2 F (pc := 23) (by decide +kernel) rfl rfl ?_
    obtain ⟨hg, h⟩ := z_ifs h
    refine j_iald F (pc := 24) (hk.s c_110) hg (by decide +kernel) ?_
    refine j_iconst F (pc := 25) (n := 1) (v := 1) (by decide +kernel) (by decide +kernel) ?_
    refine j_iadd F (pc := 26) (by decide +kernel) ?_
    obtain ⟨hg, h⟩ := z_ifs h
    refine j_iast F (pc := 27) (hk.s c_110) hg (by decide +kernel) ?_
    obtain ⟨μ1, e3, h⟩ := z_st_some h
    rw [← e3]
    have hρ2 : μ1.2.2 = ρ := by rw [e3]; exact hρ
    refine j_aload_n F (pc := 28) (q := 0) (by decide +kernel) rfl ?_
    obtain ⟨r4, μ5, hc7, h⟩ := z_b2_some h
    refine j_callVi F (pc := 29) (idx := 215) (As := []) (st := []) (t_X5_takeKind (G := E.1) hρ2 hk hc7) q_X5_takeKind v_X5_takeKind m_1097 (hk.s c_98) rfl rfl (by decide) (Nat.le_of_ble_eq_true rfl) rfl (by decide +kernel) (fun s10 ν8 hq9 hp => ?_)
    obtain ⟨rfl, rfl⟩ := hp
    have hρ6 : μ5.2.2 = ρ := hq9.trans hρ2
    refine j_istore_n F (pc := 32) (q := 2) (L' := [some (.ref 98), some (.int x1), some (.int r4), none]) (by decide +kernel) (by decide) rfl rfl ?_
    refine j_aload_n F (pc := 33) (q := 0) (by decide +kernel) rfl ?_
    refine j_getI F (pc := 34) fl_X5_209 (hk.s c_98) rfl (by decide +kernel) ?_
    obtain ⟨x_11, e12, h⟩ := z_lt_some h
    rw [← e12]
    refine j_istore_n F (pc := 37) (q := 3) (L' := [some (.ref 98), some (.int x1), some (.int r4), some (.int x_11)]) (by decide +kernel) (by decide) rfl rfl ?_
    refine j_iload_n F (pc := 38) (q := 2) (by decide +kernel) rfl ?_
    refine j_if_le F (pc := 39) (off := 7) (tgt := 46) (by decide +kernel) (by decide) (fun c => ?_) (fun c => ?_)
    · rw [if_pos c] at h
      refine j_aload_n F (pc := 46) (q := 0) (by decide +kernel) rfl ?_
      obtain ⟨r13, μ14, hc16, h⟩ := z_b2_some h
      refine j_callVi F (pc := 47) (idx := 215) (As := []) (st := []) (t_X5_takeKind (G := E.1) hρ6 hk hc16) q_X5_takeKind v_X5_takeKind m_1097 (hk.s c_98) rfl rfl (by decide) (Nat.le_of_ble_eq_true rfl) rfl (by decide +kernel) (fun s19 ν17 hq18 hp => ?_)
      obtain ⟨rfl, rfl⟩ := hp
      have hρ15 : μ14.2.2 = ρ := hq18.trans hρ6
      refine j_mk F [true, false, false, true] (L' := [some (.ref 98), none, none, some (.int x_11)]) rfl ?_
      refine u_X5_takeAhead_50 F Rt hk  _ _ _ hρ15 h
    · rw [if_neg c] at h
      refine j_iload_n F (pc := 42) (q := 2) (by decide +kernel) rfl ?_
      refine j_goto F (pc := 43) (off := 7) (tgt := 50) (by decide +kernel) (by decide) ?_
      refine j_mk F [true, false, false, true] (L' := [some (.ref 98), none, none, some (.int x_11)]) rfl ?_
      refine u_X5_takeAhead_50 F Rt hk  _ _ _ hρ6 h
  · rw [if_pos c] at h
    refine j_aload_n F (pc := 11) (q := 0) (by decide +kernel) rfl ?_
    refine j_iconst F (pc := 12) (n := 3) (v := 3) (by decide +kernel) (by decide +kernel) ?_
    refine j_iload_n F (pc := 13) (q := 1) (by decide +kernel) rfl ?_
    obtain ⟨r30, μ31, hc33, h⟩ := z_b2_some h
    refine j_callVi F (pc := 14) (idx := 196) (As := [.int (3 : Int32), .int x1]) (st := []) (t_X5_fails (G := E.1) hρ hk hc33) q_X5_fails v_X5_fails m_1089 (hk.s c_98) rfl rfl (by decide) (Nat.le_of_ble_eq_true rfl) rfl (by decide +kernel) (fun s36 ν34 hq35 hp => ?_)
    obtain ⟨rfl, rfl⟩ := hp
    have hρ32 : μ31.2.2 = ρ := hq35.trans hρ
    exact j_iret (st := []) F Rt rfl (by decide +kernel) ⟨hρ32, _, rfl, (congrArg Prod.fst (Option.some.inj h)).symm, (congrArg Prod.snd (Option.some.inj h)).symm⟩
/-- LastLentModel.fundOf -/
def f_X5_fundOf  (μ : z_M) : Option (Int32 × z_M) :=
  (z_b2 (f_X5_code ((102 : Int32)) ((114 : Int32)) ((101 : Int32)) ((105 : Int32)) μ) fun r1 μ2 => (z_b2 (f_X5_longer (r1) ((103 : Int32)) μ2) fun r8 μ9 => (z_b2 (f_X5_longer (r8) ((104 : Int32)) μ9) fun r15 μ16 => (z_b2 (f_X5_longer (r15) ((116 : Int32)) μ16) fun r22 μ23 => (z_b2 (f_X5_code ((115 : Int32)) ((104 : Int32)) ((105 : Int32)) ((112 : Int32)) μ23) fun r29 μ30 => (if (lg_cmp (μ23.2.1 98 16) r29) = 0 then (some ((0 : Int32), μ30)) else (if (lg_cmp (μ30.2.1 98 16) r22) = 0 then (some ((1 : Int32), μ30)) else (z_b2 (f_X5_code ((99 : Int32)) ((97 : Int32)) ((114 : Int32)) ((103 : Int32)) μ30) fun r36 μ37 => (z_b2 (f_X5_longer (r36) ((111 : Int32)) μ37) fun r43 μ44 => (if (lg_cmp (μ30.2.1 98 16) r43) = 0 then (some ((2 : Int32), μ44)) else (some ((-1 : Int32), μ44))))))))))))
set_option maxHeartbeats 4000000 in
set_option maxRecDepth 100000 in
theorem t_X5_fundOf {G : z_Gl} {ρ : Nat → Nat → Option Nat} {μ : z_M} {r : Int32} {μr : z_M}  (hρ : μ.2.2 = ρ) (hk : z_ok (z_sh G) ρ) (h : f_X5_fundOf  μ = some (r, μr)) : z_Ci G yX5_fundOf cX5_fundOf 3 (some .int) 1 [.ref 98] μ (fun r1 μ1 => r = r1 ∧ μr = μ1) := by
  unfold z_Ci
  refine z_intro (by decide +kernel) (Nat.le_of_ble_eq_true rfl) (fun E hE F Rt => ?_)
  subst hE
  have F : z_F E RX5 cX5_fundOf 3 1 := F
  rw [hρ] at Rt
  unfold f_X5_fundOf at h
  show z_J E 3 0 [some (.ref 98), none, none] [] μ
  refine j_bipush F (pc := 0) (n := 102) (v := 102) (by decide +kernel) (by decide +kernel) ?_
  refine j_bipush F (pc := 2) (n := 114) (v := 114) (by decide +kernel) (by decide +kernel) ?_
  refine j_bipush F (pc := 4) (n := 101) (v := 101) (by decide +kernel) (by decide +kernel) ?_
  refine j_bipush F (pc := 6) (n := 105) (v := 105) (by decide +kernel) (by decide +kernel) ?_
  obtain ⟨r1, μ2, hc4, h⟩ := z_b2_some h
  refine j_callSl F (pc := 8) (idx := 184) (As := [.int (102 : Int32), .int (114 : Int32), .int (101 : Int32), .int (105 : Int32)]) (st := []) (t_X5_code (G := E.1) hρ  hc4) q_X5_code m_1084 m_1083 rfl (by decide) (Nat.le_of_ble_eq_true rfl) rfl (by decide +kernel) (fun s7 ν5 hq6 hp => ?_)
  obtain ⟨rfl, rfl⟩ := hp
  have hρ3 : μ2.2.2 = ρ := hq6.trans hρ
  refine j_bipush F (pc := 11) (n := 103) (v := 103) (by decide +kernel) (by decide +kernel) ?_
  obtain ⟨r8, μ9, hc11, h⟩ := z_b2_some h
  refine j_callSl F (pc := 13) (idx := 188) (As := [.long r1, .int (103 : Int32)]) (st := []) (t_X5_longer (G := E.1) hρ3  hc11) q_X5_longer m_1087 m_1086 rfl (by decide) (Nat.le_of_ble_eq_true rfl) rfl (by decide +kernel) (fun s14 ν12 hq13 hp => ?_)
  obtain ⟨rfl, rfl⟩ := hp
  have hρ10 : μ9.2.2 = ρ := hq13.trans hρ3
  refine j_bipush F (pc := 16) (n := 104) (v := 104) (by decide +kernel) (by decide +kernel) ?_
  obtain ⟨r15, μ16, hc18, h⟩ := z_b2_some h
  refine j_callSl F (pc := 18) (idx := 188) (As := [.long r8, .int (104 : Int32)]) (st := []) (t_X5_longer (G := E.1) hρ10  hc18) q_X5_longer m_1087 m_1086 rfl (by decide) (Nat.le_of_ble_eq_true rfl) rfl (by decide +kernel) (fun s21 ν19 hq20 hp => ?_)
  obtain ⟨rfl, rfl⟩ := hp
  have hρ17 : μ16.2.2 = ρ := hq20.trans hρ10
  refine j_bipush F (pc := 21) (n := 116) (v := 116) (by decide +kernel) (by decide +kernel) ?_
  obtain ⟨r22, μ23, hc25, h⟩ := z_b2_some h
  refine j_callSl F (pc := 23) (idx := 188) (As := [.long r15, .int (116 : Int32)]) (st := []) (t_X5_longer (G := E.1) hρ17  hc25) q_X5_longer m_1087 m_1086 rfl (by decide) (Nat.le_of_ble_eq_true rfl) rfl (by decide +kernel) (fun s28 ν26 hq27 hp => ?_)
  obtain ⟨rfl, rfl⟩ := hp
  have hρ24 : μ23.2.2 = ρ := hq27.trans hρ17
  refine j_lstore_n F (pc := 26) (q := 1) (L' := [some (.ref 98), some (.long r22), none]) (by decide +kernel) (by decide) rfl rfl ?_
  refine j_aload_n F (pc := 27) (q := 0) (by decide +kernel) rfl ?_
  refine j_getL F (pc := 28) fl_X5_165 (hk.s c_98) rfl (by decide +kernel) ?_
  refine j_bipush F (pc := 31) (n := 115) (v := 115) (by decide +kernel) (by decide +kernel) ?_
  refine j_bipush F (pc := 33) (n := 104) (v := 104) (by decide +kernel) (by decide +kernel) ?_
  refine j_bipush F (pc := 35) (n := 105) (v := 105) (by decide +kernel) (by decide +kernel) ?_
  refine j_bipush F (pc := 37) (n := 112) (v := 112) (by decide +kernel) (by decide +kernel) ?_
  obtain ⟨r29, μ30, hc32, h⟩ := z_b2_some h
  refine j_callSl F (pc := 39) (idx := 184) (As := [.int (115 : Int32), .int (104 : Int32), .int (105 : Int32), .int (112 : Int32)]) (st := [.long (μ23.2.1 98 16)]) (t_X5_code (G := E.1) hρ24  hc32) q_X5_code m_1084 m_1083 rfl (by decide) (Nat.le_of_ble_eq_true rfl) rfl (by decide +kernel) (fun s35 ν33 hq34 hp => ?_)
  obtain ⟨rfl, rfl⟩ := hp
  have hρ31 : μ30.2.2 = ρ := hq34.trans hρ24
  refine j_lcmp F (pc := 42) (by decide +kernel) ?_
  refine j_if_ne F (pc := 43) (off := 7) (tgt := 50) (by decide +kernel) (by decide) (fun c => ?_) (fun c => ?_)
  · rw [if_neg c] at h
    refine j_aload_n F (pc := 50) (q := 0) (by decide +kernel) rfl ?_
    refine j_getL F (pc := 51) fl_X5_165 (hk.s c_98) rfl (by decide +kernel) ?_
    refine j_lload_n F (pc := 54) (q := 1) (by decide +kernel) rfl ?_
    refine j_lcmp F (pc := 55) (by decide +kernel) ?_
    refine j_if_ne F (pc := 56) (off := 7) (tgt := 63) (by decide +kernel) (by decide) (fun c => ?_) (fun c => ?_)
    · rw [if_neg c] at h
      refine j_aload_n F (pc := 63) (q := 0) (by decide +kernel) rfl ?_
      refine j_getL F (pc := 64) fl_X5_165 (hk.s c_98) rfl (by decide +kernel) ?_
      refine j_bipush F (pc := 67) (n := 99) (v := 99) (by decide +kernel) (by decide +kernel) ?_
      refine j_bipush F (pc := 69) (n := 97) (v := 97) (by decide +kernel) (by decide +kernel) ?_
      refine j_bipush F (pc := 71) (n := 114) (v := 114) (by decide +kernel) (by decide +kernel) ?_
      refine j_bipush F (pc := 73) (n := 103) (v := 103) (by decide +kernel) (by decide +kernel) ?_
      obtain ⟨r36, μ37, hc39, h⟩ := z_b2_some h
      refine j_callSl F (pc := 75) (idx := 184) (As := [.int (99 : Int32), .int (97 : Int32), .int (114 : Int32), .int (103 : Int32)]) (st := [.long (μ30.2.1 98 16)]) (t_X5_code (G := E.1) hρ31  hc39) q_X5_code m_1084 m_1083 rfl (by decide) (Nat.le_of_ble_eq_true rfl) rfl (by decide +kernel) (fun s42 ν40 hq41 hp => ?_)
      obtain ⟨rfl, rfl⟩ := hp
      have hρ38 : μ37.2.2 = ρ := hq41.trans hρ31
      refine j_bipush F (pc := 78) (n := 111) (v := 111) (by decide +kernel) (by decide +kernel) ?_
      obtain ⟨r43, μ44, hc46, h⟩ := z_b2_some h
      refine j_callSl F (pc := 80) (idx := 188) (As := [.long r36, .int (111 : Int32)]) (st := [.long (μ30.2.1 98 16)]) (t_X5_longer (G := E.1) hρ38  hc46) q_X5_longer m_1087 m_1086 rfl (by decide) (Nat.le_of_ble_eq_true rfl) rfl (by decide +kernel) (fun s49 ν47 hq48 hp => ?_)
      obtain ⟨rfl, rfl⟩ := hp
      have hρ45 : μ44.2.2 = ρ := hq48.trans hρ38
      refine j_lcmp F (pc := 83) (by decide +kernel) ?_
      refine j_if_ne F (pc := 84) (off := 7) (tgt := 91) (by decide +kernel) (by decide) (fun c => ?_) (fun c => ?_)
      · rw [if_neg c] at h
        refine j_iconst F (pc := 91) (n := -1) (v := -1) (by decide +kernel) (by decide +kernel) ?_
        exact j_iret (st := []) F Rt rfl (by decide +kernel) ⟨hρ45, _, rfl, (congrArg Prod.fst (Option.some.inj h)).symm, (congrArg Prod.snd (Option.some.inj h)).symm⟩
      · rw [if_pos c] at h
        refine j_iconst F (pc := 87) (n := 2) (v := 2) (by decide +kernel) (by decide +kernel) ?_
        refine j_goto F (pc := 88) (off := 4) (tgt := 92) (by decide +kernel) (by decide) ?_
        exact j_iret (st := []) F Rt rfl (by decide +kernel) ⟨hρ45, _, rfl, (congrArg Prod.fst (Option.some.inj h)).symm, (congrArg Prod.snd (Option.some.inj h)).symm⟩
    · rw [if_pos c] at h
      refine j_iconst F (pc := 59) (n := 1) (v := 1) (by decide +kernel) (by decide +kernel) ?_
      refine j_goto F (pc := 60) (off := 32) (tgt := 92) (by decide +kernel) (by decide) ?_
      exact j_iret (st := []) F Rt rfl (by decide +kernel) ⟨hρ31, _, rfl, (congrArg Prod.fst (Option.some.inj h)).symm, (congrArg Prod.snd (Option.some.inj h)).symm⟩
  · rw [if_pos c] at h
    refine j_iconst F (pc := 46) (n := 0) (v := 0) (by decide +kernel) (by decide +kernel) ?_
    refine j_goto F (pc := 47) (off := 45) (tgt := 92) (by decide +kernel) (by decide) ?_
    exact j_iret (st := []) F Rt rfl (by decide +kernel) ⟨hρ31, _, rfl, (congrArg Prod.fst (Option.some.inj h)).symm, (congrArg Prod.snd (Option.some.inj h)).symm⟩
def g_X5_takeRides_71   (x4 : Int32) (μ : z_M) : Option (Int32 × z_M) :=
  (z_b2 (f_X5_fails ((if 0 ≤ x4 then (3 : Int32) else (1 : Int32))) ((μ.1 98 15)) μ) fun r23 μ24 => (some (r23, μ24)))
def g_X5_takeRides_37   : Nat → Int32 → Int32 → z_M → Option (Int32 × z_M)
  | 0, _, _, _ => none
  | n + 1, x2, x3, μ => (if x3 = 0 then (some ((0 : Int32), μ)) else (z_b1 (f_X5_readWord  μ) fun μ11 => (z_b2 (f_X5_fundOf  μ11) fun r16 μ17 => (if r16 < 0 then (g_X5_takeRides_71   (r16) μ17) else (if z_in x2 8 then (if (((μ17.1 105 x2.toNatClampNeg) >>> (r16 &&& 31)) &&& (1 : Int32)) = (1 : Int32) then (g_X5_takeRides_71   (r16) μ17) else (if z_in x2 8 then (if z_in x2 8 then (z_st (z_si μ17 105 x2.toNatClampNeg ((μ17.1 105 x2.toNatClampNeg) ||| ((1 : Int32) <<< (r16 &&& 31)))) fun μ30 => (z_st (z_si μ30 98 15 (μ30.1 98 17)) fun μ33 => (z_b2 (f_X5_here  μ33) fun r36 μ37 => (z_b2 (f_X5_in ((r36).toInt64) ((97 : Int64)) ((122 : Int64)) μ37) fun r43 μ44 => (g_X5_takeRides_37   n (x2) (r43) μ44))))) else none) else none)) else none)))))
def f_X5_takeRides  (μ : z_M) : Option (Int32 × z_M) :=
  (z_b2 (f_X5_takeKind  μ) fun r1 μ2 => (if r1 ≤ 0 then (z_lt (μ2.1 98 19) fun x_8 => (if z_in x_8 8 then (if (μ2.1 105 x_8.toNatClampNeg) = 0 then (g_X5_takeRides_37   z_N (x_8) ((1 : Int32)) μ2) else (z_b2 (f_X5_fails ((3 : Int32)) ((μ2.1 98 20)) μ2) fun r50 μ51 => (some (r50, μ51)))) else none)) else (some (r1, μ2))))
set_option maxHeartbeats 4000000 in
set_option maxRecDepth 100000 in
theorem u_X5_takeRides_71 {E : z_E} {ρ : Nat → Nat → Option Nat} {r : Int32} {μr : z_M} (F : z_F E RX5 cX5_takeRides 5 3) (Rt : z_R E (some .int) (fun v μ1 => μ1.2.2 = ρ ∧ ∃ r1, v = some (.int r1) ∧ r = r1 ∧ μr = μ1))  (hk : z_ok (z_sh E.1) ρ) : ∀ (x4 : Int32) (μ : z_M), μ.2.2 = ρ → g_X5_takeRides_71   x4 μ = some (r, μr) → z_J E 5 71 [some (.ref 98), none, none, none, some (.int x4)] [] μ := by
  intro x4 μ hρ h
  unfold g_X5_takeRides_71 at h
  refine j_aload_n F (pc := 71) (q := 0) (by decide +kernel) rfl ?_
  refine j_iload F (pc := 72) (i := 4) (by decide +kernel) rfl ?_
  suffices hj : z_J E 5 82 [some (.ref 98), none, none, none, some (.int x4)] (.int (if 0 ≤ x4 then (3 : Int32) else (1 : Int32)) :: [.ref 98]) μ by
    refine j_if_ge F (pc := 74) (off := 7) (tgt := 81) (by decide +kernel) (by decide) (fun c0 => ?_) (fun c0 => ?_)
    · rw [if_pos c0] at hj
      refine j_iconst F (pc := 81) (n := 3) (v := 3) (by decide +kernel) (by decide +kernel) ?_
      exact hj
    · rw [if_neg c0] at hj
      refine j_iconst F (pc := 77) (n := 1) (v := 1) (by decide +kernel) (by decide +kernel) ?_
      refine j_goto F (pc := 78) (off := 4) (tgt := 82) (by decide +kernel) (by decide) ?_
      exact hj
  refine j_aload_n F (pc := 82) (q := 0) (by decide +kernel) rfl ?_
  refine j_getI F (pc := 83) fl_X5_158 (hk.s c_98) rfl (by decide +kernel) ?_
  obtain ⟨r23, μ24, hc26, h⟩ := z_b2_some h
  refine j_callVi F (pc := 86) (idx := 196) (As := [.int (if 0 ≤ x4 then (3 : Int32) else (1 : Int32)), .int (μ.1 98 15)]) (st := []) (t_X5_fails (G := E.1) hρ hk hc26) q_X5_fails v_X5_fails m_1089 (hk.s c_98) rfl rfl (by decide) (Nat.le_of_ble_eq_true rfl) rfl (by decide +kernel) (fun s29 ν27 hq28 hp => ?_)
  obtain ⟨rfl, rfl⟩ := hp
  have hρ25 : μ24.2.2 = ρ := hq28.trans hρ
  exact j_iret (st := []) F Rt rfl (by decide +kernel) ⟨hρ25, _, rfl, (congrArg Prod.fst (Option.some.inj h)).symm, (congrArg Prod.snd (Option.some.inj h)).symm⟩
set_option maxHeartbeats 4000000 in
set_option maxRecDepth 100000 in
theorem u_X5_takeRides_37 {E : z_E} {ρ : Nat → Nat → Option Nat} {r : Int32} {μr : z_M} (F : z_F E RX5 cX5_takeRides 5 3) (Rt : z_R E (some .int) (fun v μ1 => μ1.2.2 = ρ ∧ ∃ r1, v = some (.int r1) ∧ r = r1 ∧ μr = μ1))  (hk : z_ok (z_sh E.1) ρ) : ∀ (n : Nat) (x2 : Int32) (x3 : Int32) (μ : z_M), μ.2.2 = ρ → g_X5_takeRides_37   n x2 x3 μ = some (r, μr) → z_J E 5 37 [some (.ref 98), none, some (.int x2), some (.int x3), none] [] μ := by
  intro n
  induction n with
  | zero =>
    intro x2 x3 μ hρ h
    rw [g_X5_takeRides_37] at h
    cases h
  | succ n ih =>
    intro x2 x3 μ hρ h
    rw [g_X5_takeRides_37] at h
    refine j_iload_n F (pc := 37) (q := 3) (by decide +kernel) rfl ?_
    refine j_if_eq F (pc := 38) (off := 91) (tgt := 129) (by decide +kernel) (by decide) (fun c => ?_) (fun c => ?_)
    · rw [if_pos c] at h
      refine j_iconst F (pc := 129) (n := 0) (v := 0) (by decide +kernel) (by decide +kernel) ?_
      exact j_iret (st := []) F Rt rfl (by decide +kernel) ⟨hρ, _, rfl, (congrArg Prod.fst (Option.some.inj h)).symm, (congrArg Prod.snd (Option.some.inj h)).symm⟩
    · rw [if_neg c] at h
      refine j_aload_n F (pc := 41) (q := 0) (by decide +kernel) rfl ?_
      obtain ⟨μ11, hc13, h⟩ := z_b1_some h
      refine j_callVv F (pc := 42) (idx := 203) (As := []) (st := []) (t_X5_readWord (G := E.1) hρ hk hc13) q_X5_readWord v_X5_readWord m_1069 (hk.s c_98) rfl rfl (by decide) (Nat.le_of_ble_eq_true rfl) rfl (by decide +kernel) (fun ν14 hq15 hp => ?_)
      subst hp
      have hρ12 : μ11.2.2 = ρ := hq15.trans hρ
      refine j_aload_n F (pc := 45) (q := 0) (by decide +kernel) rfl ?_
      obtain ⟨r16, μ17, hc19, h⟩ := z_b2_some h
      refine j_callVi F (pc := 46) (idx := 218) (As := []) (st := []) (t_X5_fundOf (G := E.1) hρ12 hk hc19) q_X5_fundOf v_X5_fundOf m_1105 (hk.s c_98) rfl rfl (by decide) (Nat.le_of_ble_eq_true rfl) rfl (by decide +kernel) (fun s22 ν20 hq21 hp => ?_)
      obtain ⟨rfl, rfl⟩ := hp
      have hρ18 : μ17.2.2 = ρ := hq21.trans hρ12
      refine j_istore F (pc := 49) (i := 4) (L' := [some (.ref 98), none, some (.int x2), some (.int x3), some (.int r16)]) (by decide +kernel) (by decide) rfl rfl ?_
      refine j_iload F (pc := 51) (i := 4) (by decide +kernel) rfl ?_
      refine j_if_lt F (pc := 53) (off := 18) (tgt := 71) (by decide +kernel) (by decide) (fun c => ?_) (fun c => ?_)
      · rw [if_pos c] at h
        refine j_mk F [true, false, false, false, true] (L' := [some (.ref 98), none, none, none, some (.int r16)]) rfl ?_
        refine u_X5_takeRides_71 F Rt hk  _ _ hρ18 h
      · rw [if_neg c] at h
        refine j_aload_n F (pc := 56) (q := 0) (by decide +kernel) rfl ?_
        refine j_getR F (pc := 57) (hk.r hρ18 r_98_6) fl_X5_29 (hk.s c_98) rfl (by decide +kernel) ?_
        refine j_iload_n F (pc := 60) (q := 2) (by decide +kernel) rfl ?_
        obtain ⟨hg, h⟩ := z_ifs h
        refine j_iald F (pc := 61) (hk.s c_105) hg (by decide +kernel) ?_
        refine j_iload F (pc := 62) (i := 4) (by decide +kernel) rfl ?_
        refine j_ishr F (pc := 64) (by decide +kernel) ?_
        refine j_iconst F (pc := 65) (n := 1) (v := 1) (by decide +kernel) (by decide +kernel) ?_
        refine j_iand F (pc := 66) (by decide +kernel) ?_
        refine j_iconst F (pc := 67) (n := 1) (v := 1) (by decide +kernel) (by decide +kernel) ?_
        refine j_icmp_ne F (pc := 68) (off := 22) (tgt := 90) (by decide +kernel) (by decide) (fun c => ?_) (fun c => ?_)
        · rw [if_neg c] at h
          refine j_aload_n F (pc := 90) (q := 0) (by decide +kernel) rfl ?_
          refine j_getR F (pc := 91) (hk.r hρ18 r_98_6) fl_X5_29 (hk.s c_98) rfl (by decide +kernel) ?_
          refine j_iload_n F (pc := 94) (q := 2) (by decide +kernel) rfl ?_
          refine j_dup2 F (pc := 95) (by decide +kernel) rfl rfl ?_
          obtain ⟨hg, h⟩ := z_ifs h
          refine j_iald F (pc := 96) (hk.s c_105) hg (by decide +kernel) ?_
          refine j_iconst F (pc := 97) (n := 1) (v := 1) (by decide +kernel) (by decide +kernel) ?_
          refine j_iload F (pc := 98) (i := 4) (by decide +kernel) rfl ?_
          refine j_ishl F (pc := 100) (by decide +kernel) ?_
          refine j_ior F (pc := 101) (by decide +kernel) ?_
          obtain ⟨hg, h⟩ := z_ifs h
          refine j_iast F (pc := 102) (hk.s c_105) hg (by decide +kernel) ?_
          obtain ⟨μ30, e32, h⟩ := z_st_some h
          rw [← e32]
          have hρ31 : μ30.2.2 = ρ := by rw [e32]; exact hρ18
          refine j_aload_n F (pc := 103) (q := 0) (by decide +kernel) rfl ?_
          refine j_aload_n F (pc := 104) (q := 0) (by decide +kernel) rfl ?_
          refine j_getI F (pc := 105) fl_X5_169 (hk.s c_98) rfl (by decide +kernel) ?_
          refine j_putI F (pc := 108) fl_X5_158 fp_X5_15 (hk.s c_98) rfl (by decide +kernel) ?_
          obtain ⟨μ33, e35, h⟩ := z_st_some h
          rw [← e35]
          have hρ34 : μ33.2.2 = ρ := by rw [e35]; exact hρ31
          refine j_aload_n F (pc := 111) (q := 0) (by decide +kernel) rfl ?_
          obtain ⟨r36, μ37, hc39, h⟩ := z_b2_some h
          refine j_callVi F (pc := 112) (idx := 161) (As := []) (st := []) (t_X5_here (G := E.1) hρ34 hk hc39) q_X5_here v_X5_here m_1061 (hk.s c_98) rfl rfl (by decide) (Nat.le_of_ble_eq_true rfl) rfl (by decide +kernel) (fun s42 ν40 hq41 hp => ?_)
          obtain ⟨rfl, rfl⟩ := hp
          have hρ38 : μ37.2.2 = ρ := hq41.trans hρ34
          refine j_i2l F (pc := 115) (by decide +kernel) ?_
          refine j_ldc2 F (pc := 116) m_1073 (by decide +kernel) ?_
          refine j_ldc2 F (pc := 119) m_1074 (by decide +kernel) ?_
          obtain ⟨r43, μ44, hc46, h⟩ := z_b2_some h
          refine j_callSi F (pc := 122) (idx := 138) (As := [.long (r36).toInt64, .long (97 : Int64), .long (122 : Int64)]) (st := []) (t_X5_in (G := E.1) hρ38  hc46) q_X5_in m_1050 m_1049 rfl (by decide) (Nat.le_of_ble_eq_true rfl) rfl (by decide +kernel) (fun s49 ν47 hq48 hp => ?_)
          obtain ⟨rfl, rfl⟩ := hp
          have hρ45 : μ44.2.2 = ρ := hq48.trans hρ38
          refine j_istore_n F (pc := 125) (q := 3) (L' := [some (.ref 98), none, some (.int x2), some (.int r43), some (.int r16)]) (by decide +kernel) (by decide) rfl rfl ?_
          refine j_goto F (pc := 126) (off := -89) (tgt := 37) (by decide +kernel) (by decide) ?_
          refine j_mk F [true, false, true, true, false] (L' := [some (.ref 98), none, some (.int x2), some (.int r43), none]) rfl ?_
          exact ih _ _ _ hρ45 h
        · rw [if_pos c] at h
          refine j_mk F [true, false, false, false, true] (L' := [some (.ref 98), none, none, none, some (.int r16)]) rfl ?_
          refine u_X5_takeRides_71 F Rt hk  _ _ hρ18 h
set_option maxHeartbeats 4000000 in
set_option maxRecDepth 100000 in
theorem t_X5_takeRides {G : z_Gl} {ρ : Nat → Nat → Option Nat} {μ : z_M} {r : Int32} {μr : z_M}  (hρ : μ.2.2 = ρ) (hk : z_ok (z_sh G) ρ) (h : f_X5_takeRides  μ = some (r, μr)) : z_Ci G yX5_takeRides cX5_takeRides 5 (some .int) 3 [.ref 98] μ (fun r1 μ1 => r = r1 ∧ μr = μ1) := by
  unfold z_Ci
  refine z_intro (by decide +kernel) (Nat.le_of_ble_eq_true rfl) (fun E hE F Rt => ?_)
  subst hE
  have F : z_F E RX5 cX5_takeRides 5 3 := F
  rw [hρ] at Rt
  unfold f_X5_takeRides at h
  show z_J E 5 0 [some (.ref 98), none, none, none, none] [] μ
  refine j_aload_n F (pc := 0) (q := 0) (by decide +kernel) rfl ?_
  obtain ⟨r1, μ2, hc4, h⟩ := z_b2_some h
  refine j_callVi F (pc := 1) (idx := 215) (As := []) (st := []) (t_X5_takeKind (G := E.1) hρ hk hc4) q_X5_takeKind v_X5_takeKind m_1097 (hk.s c_98) rfl rfl (by decide) (Nat.le_of_ble_eq_true rfl) rfl (by decide +kernel) (fun s7 ν5 hq6 hp => ?_)
  obtain ⟨rfl, rfl⟩ := hp
  have hρ3 : μ2.2.2 = ρ := hq6.trans hρ
  refine j_istore_n F (pc := 4) (q := 1) (L' := [some (.ref 98), some (.int r1), none, none, none]) (by decide +kernel) (by decide) rfl rfl ?_
  refine j_iload_n F (pc := 5) (q := 1) (by decide +kernel) rfl ?_
  refine j_if_le F (pc := 6) (off := 5) (tgt := 11) (by decide +kernel) (by decide) (fun c => ?_) (fun c => ?_)
  · rw [if_pos c] at h
    refine j_aload_n F (pc := 11) (q := 0) (by decide +kernel) rfl ?_
    refine j_getI F (pc := 12) fl_X5_209 (hk.s c_98) rfl (by decide +kernel) ?_
    obtain ⟨x_8, e9, h⟩ := z_lt_some h
    rw [← e9]
    refine j_istore_n F (pc := 15) (q := 2) (L' := [some (.ref 98), some (.int r1), some (.int x_8), none, none]) (by decide +kernel) (by decide) rfl rfl ?_
    refine j_aload_n F (pc := 16) (q := 0) (by decide +kernel) rfl ?_
    refine j_getR F (pc := 17) (hk.r hρ3 r_98_6) fl_X5_29 (hk.s c_98) rfl (by decide +kernel) ?_
    refine j_iload_n F (pc := 20) (q := 2) (by decide +kernel) rfl ?_
    obtain ⟨hg, h⟩ := z_ifs h
    refine j_iald F (pc := 21) (hk.s c_105) hg (by decide +kernel) ?_
    refine j_if_eq F (pc := 22) (off := 13) (tgt := 35) (by decide +kernel) (by decide) (fun c => ?_) (fun c => ?_)
    · rw [if_pos c] at h
      refine j_iconst F (pc := 35) (n := 1) (v := 1) (by decide +kernel) (by decide +kernel) ?_
      refine j_istore_n F (pc := 36) (q := 3) (L' := [some (.ref 98), some (.int r1), some (.int x_8), some (.int (1 : Int32)), none]) (by decide +kernel) (by decide) rfl rfl ?_
      refine j_mk F [true, false, true, true, false] (L' := [some (.ref 98), none, some (.int x_8), some (.int (1 : Int32)), none]) rfl ?_
      refine u_X5_takeRides_37 F Rt hk  z_N _ _ _ hρ3 h
    · rw [if_neg c] at h
      refine j_aload_n F (pc := 25) (q := 0) (by decide +kernel) rfl ?_
      refine j_iconst F (pc := 26) (n := 3) (v := 3) (by decide +kernel) (by decide +kernel) ?_
      refine j_aload_n F (pc := 27) (q := 0) (by decide +kernel) rfl ?_
      refine j_getI F (pc := 28) fl_X5_212 (hk.s c_98) rfl (by decide +kernel) ?_
      obtain ⟨r50, μ51, hc53, h⟩ := z_b2_some h
      refine j_callVi F (pc := 31) (idx := 196) (As := [.int (3 : Int32), .int (μ2.1 98 20)]) (st := []) (t_X5_fails (G := E.1) hρ3 hk hc53) q_X5_fails v_X5_fails m_1089 (hk.s c_98) rfl rfl (by decide) (Nat.le_of_ble_eq_true rfl) rfl (by decide +kernel) (fun s56 ν54 hq55 hp => ?_)
      obtain ⟨rfl, rfl⟩ := hp
      have hρ52 : μ51.2.2 = ρ := hq55.trans hρ3
      exact j_iret (st := []) F Rt rfl (by decide +kernel) ⟨hρ52, _, rfl, (congrArg Prod.fst (Option.some.inj h)).symm, (congrArg Prod.snd (Option.some.inj h)).symm⟩
  · rw [if_neg c] at h
    refine j_iload_n F (pc := 9) (q := 1) (by decide +kernel) rfl ?_
    exact j_iret (st := []) F Rt rfl (by decide +kernel) ⟨hρ3, _, rfl, (congrArg Prod.fst (Option.some.inj h)).symm, (congrArg Prod.snd (Option.some.inj h)).symm⟩
def g_X5_takeClause_97   (xs0 : Int32) (μ : z_M) : Option (Int32 × z_M) :=
  (if xs0 ≤ 0 then (z_b2 (f_X5_here  μ) fun r28 μ29 => (if r28 = (59 : Int32) then (z_st (z_si μ29 98 15 ((μ29.1 98 15) + (1 : Int32))) fun μ35 => (some ((0 : Int32), μ35))) else (z_b2 (f_X5_fails ((1 : Int32)) ((μ29.1 98 15)) μ29) fun r38 μ39 => (some (r38, μ39))))) else (some (xs0, μ)))
def f_X5_takeClause  (μ : z_M) : Option (Int32 × z_M) :=
  (z_b1 (f_X5_readWord  μ) fun μ2 => (z_b2 (f_X5_clauseOf  μ2) fun r7 μ8 => (z_lt (μ8.1 98 15) fun x_14 => (if 0 ≤ r7 then (z_st (z_si μ8 98 15 (μ8.1 98 17)) fun μ16 => (z_lt (if r7 = (4 : Int32) then (1 : Int32) else (if r7 = (5 : Int32) then (1 : Int32) else (if r7 ≤ (7 : Int32) then (0 : Int32) else (1 : Int32)))) fun x_19 => (if r7 = 0 then (z_b2 (f_X5_takeRides  μ16) fun r59 μ60 => (g_X5_takeClause_97   (r59) μ60)) else (if r7 = (1 : Int32) then (z_b2 (f_X5_takeAhead (x_14) μ16) fun r52 μ53 => (g_X5_takeClause_97   (r52) μ53)) else (if x_19 = 0 then (z_b2 (f_X5_takeOfKind (r7) μ16) fun r21 μ22 => (g_X5_takeClause_97   (r21) μ22)) else (z_b2 (f_X5_takeOnce (r7) (x_14) μ16) fun r45 μ46 => (g_X5_takeClause_97   (r45) μ46))))))) else (z_b2 (f_X5_fails ((1 : Int32)) (x_14) μ8) fun r66 μ67 => (some (r66, μ67)))))))
set_option maxHeartbeats 4000000 in
set_option maxRecDepth 100000 in
theorem u_X5_takeClause_97 {E : z_E} {ρ : Nat → Nat → Option Nat} {r : Int32} {μr : z_M} (F : z_F E RX5 cX5_takeClause 5 4) (Rt : z_R E (some .int) (fun v μ1 => μ1.2.2 = ρ ∧ ∃ r1, v = some (.int r1) ∧ r = r1 ∧ μr = μ1))  (hk : z_ok (z_sh E.1) ρ) : ∀ (xs0 : Int32) (μ : z_M), μ.2.2 = ρ → g_X5_takeClause_97   xs0 μ = some (r, μr) → z_J E 5 97 [some (.ref 98), none, none, none, none] [.int xs0] μ := by
  intro xs0 μ hρ h
  unfold g_X5_takeClause_97 at h
  refine j_istore F (pc := 97) (i := 4) (L' := [some (.ref 98), none, none, none, some (.int xs0)]) (by decide +kernel) (by decide) rfl rfl ?_
  refine j_iload F (pc := 99) (i := 4) (by decide +kernel) rfl ?_
  refine j_if_le F (pc := 101) (off := 6) (tgt := 107) (by decide +kernel) (by decide) (fun c => ?_) (fun c => ?_)
  · rw [if_pos c] at h
    refine j_aload_n F (pc := 107) (q := 0) (by decide +kernel) rfl ?_
    obtain ⟨r28, μ29, hc31, h⟩ := z_b2_some h
    refine j_callVi F (pc := 108) (idx := 161) (As := []) (st := []) (t_X5_here (G := E.1) hρ hk hc31) q_X5_here v_X5_here m_1061 (hk.s c_98) rfl rfl (by decide) (Nat.le_of_ble_eq_true rfl) rfl (by decide +kernel) (fun s34 ν32 hq33 hp => ?_)
    obtain ⟨rfl, rfl⟩ := hp
    have hρ30 : μ29.2.2 = ρ := hq33.trans hρ
    refine j_bipush F (pc := 111) (n := 59) (v := 59) (by decide +kernel) (by decide +kernel) ?_
    refine j_icmp_eq F (pc := 113) (off := 13) (tgt := 126) (by decide +kernel) (by decide) (fun c => ?_) (fun c => ?_)
    · rw [if_pos c] at h
      refine j_aload_n F (pc := 126) (q := 0) (by decide +kernel) rfl ?_
      refine j_dup F (pc := 127) (by decide +kernel) rfl ?_
      refine j_getI F (pc := 128) fl_X5_158 (hk.s c_98) rfl (by decide +kernel) ?_
      refine j_iconst F (pc := 131) (n := 1) (v := 1) (by decide +kernel) (by decide +kernel) ?_
      refine j_iadd F (pc := 132) (by decide +kernel) ?_
      refine j_putI F (pc := 133) fl_X5_158 fp_X5_15 (hk.s c_98) rfl (by decide +kernel) ?_
      obtain ⟨μ35, e37, h⟩ := z_st_some h
      rw [← e37]
      have hρ36 : μ35.2.2 = ρ := by rw [e37]; exact hρ30
      refine j_iconst F (pc := 136) (n := 0) (v := 0) (by decide +kernel) (by decide +kernel) ?_
      exact j_iret (st := []) F Rt rfl (by decide +kernel) ⟨hρ36, _, rfl, (congrArg Prod.fst (Option.some.inj h)).symm, (congrArg Prod.snd (Option.some.inj h)).symm⟩
    · rw [if_neg c] at h
      refine j_aload_n F (pc := 116) (q := 0) (by decide +kernel) rfl ?_
      refine j_iconst F (pc := 117) (n := 1) (v := 1) (by decide +kernel) (by decide +kernel) ?_
      refine j_aload_n F (pc := 118) (q := 0) (by decide +kernel) rfl ?_
      refine j_getI F (pc := 119) fl_X5_158 (hk.s c_98) rfl (by decide +kernel) ?_
      obtain ⟨r38, μ39, hc41, h⟩ := z_b2_some h
      refine j_callVi F (pc := 122) (idx := 196) (As := [.int (1 : Int32), .int (μ29.1 98 15)]) (st := []) (t_X5_fails (G := E.1) hρ30 hk hc41) q_X5_fails v_X5_fails m_1089 (hk.s c_98) rfl rfl (by decide) (Nat.le_of_ble_eq_true rfl) rfl (by decide +kernel) (fun s44 ν42 hq43 hp => ?_)
      obtain ⟨rfl, rfl⟩ := hp
      have hρ40 : μ39.2.2 = ρ := hq43.trans hρ30
      exact j_iret (st := []) F Rt rfl (by decide +kernel) ⟨hρ40, _, rfl, (congrArg Prod.fst (Option.some.inj h)).symm, (congrArg Prod.snd (Option.some.inj h)).symm⟩
  · rw [if_neg c] at h
    refine j_iload F (pc := 104) (i := 4) (by decide +kernel) rfl ?_
    exact j_iret (st := []) F Rt rfl (by decide +kernel) ⟨hρ, _, rfl, (congrArg Prod.fst (Option.some.inj h)).symm, (congrArg Prod.snd (Option.some.inj h)).symm⟩
set_option maxHeartbeats 4000000 in
set_option maxRecDepth 100000 in
theorem t_X5_takeClause {G : z_Gl} {ρ : Nat → Nat → Option Nat} {μ : z_M} {r : Int32} {μr : z_M}  (hρ : μ.2.2 = ρ) (hk : z_ok (z_sh G) ρ) (h : f_X5_takeClause  μ = some (r, μr)) : z_Ci G yX5_takeClause cX5_takeClause 5 (some .int) 4 [.ref 98] μ (fun r1 μ1 => r = r1 ∧ μr = μ1) := by
  unfold z_Ci
  refine z_intro (by decide +kernel) (Nat.le_of_ble_eq_true rfl) (fun E hE F Rt => ?_)
  subst hE
  have F : z_F E RX5 cX5_takeClause 5 4 := F
  rw [hρ] at Rt
  unfold f_X5_takeClause at h
  show z_J E 5 0 [some (.ref 98), none, none, none, none] [] μ
  refine j_aload_n F (pc := 0) (q := 0) (by decide +kernel) rfl ?_
  obtain ⟨μ2, hc4, h⟩ := z_b1_some h
  refine j_callVv F (pc := 1) (idx := 203) (As := []) (st := []) (t_X5_readWord (G := E.1) hρ hk hc4) q_X5_readWord v_X5_readWord m_1069 (hk.s c_98) rfl rfl (by decide) (Nat.le_of_ble_eq_true rfl) rfl (by decide +kernel) (fun ν5 hq6 hp => ?_)
  subst hp
  have hρ3 : μ2.2.2 = ρ := hq6.trans hρ
  refine j_aload_n F (pc := 4) (q := 0) (by decide +kernel) rfl ?_
  obtain ⟨r7, μ8, hc10, h⟩ := z_b2_some h
  refine j_callVi F (pc := 5) (idx := 230) (As := []) (st := []) (t_X5_clauseOf (G := E.1) hρ3 hk hc10) q_X5_clauseOf v_X5_clauseOf m_1079 (hk.s c_98) rfl rfl (by decide) (Nat.le_of_ble_eq_true rfl) rfl (by decide +kernel) (fun s13 ν11 hq12 hp => ?_)
  obtain ⟨rfl, rfl⟩ := hp
  have hρ9 : μ8.2.2 = ρ := hq12.trans hρ3
  refine j_istore_n F (pc := 8) (q := 1) (L' := [some (.ref 98), some (.int r7), none, none, none]) (by decide +kernel) (by decide) rfl rfl ?_
  refine j_aload_n F (pc := 9) (q := 0) (by decide +kernel) rfl ?_
  refine j_getI F (pc := 10) fl_X5_158 (hk.s c_98) rfl (by decide +kernel) ?_
  obtain ⟨x_14, e15, h⟩ := z_lt_some h
  rw [← e15]
  refine j_istore_n F (pc := 13) (q := 2) (L' := [some (.ref 98), some (.int r7), some (.int x_14), none, none]) (by decide +kernel) (by decide) rfl rfl ?_
  refine j_iload_n F (pc := 14) (q := 1) (by decide +kernel) rfl ?_
  refine j_if_ge F (pc := 15) (off := 10) (tgt := 25) (by decide +kernel) (by decide) (fun c => ?_) (fun c => ?_)
  · rw [if_pos c] at h
    refine j_aload_n F (pc := 25) (q := 0) (by decide +kernel) rfl ?_
    refine j_aload_n F (pc := 26) (q := 0) (by decide +kernel) rfl ?_
    refine j_getI F (pc := 27) fl_X5_169 (hk.s c_98) rfl (by decide +kernel) ?_
    refine j_putI F (pc := 30) fl_X5_158 fp_X5_15 (hk.s c_98) rfl (by decide +kernel) ?_
    obtain ⟨μ16, e18, h⟩ := z_st_some h
    rw [← e18]
    have hρ17 : μ16.2.2 = ρ := by rw [e18]; exact hρ9
    refine j_iload_n F (pc := 33) (q := 1) (by decide +kernel) rfl ?_
    refine j_iconst F (pc := 34) (n := 4) (v := 4) (by decide +kernel) (by decide +kernel) ?_
    suffices hj : z_J E 5 54 [some (.ref 98), some (.int r7), some (.int x_14), none, none] (.int (if r7 = (4 : Int32) then (1 : Int32) else (if r7 = (5 : Int32) then (1 : Int32) else (if r7 ≤ (7 : Int32) then (0 : Int32) else (1 : Int32)))) :: []) μ16 by
      refine j_icmp_eq F (pc := 35) (off := 14) (tgt := 49) (by decide +kernel) (by decide) (fun c0 => ?_) (fun c0 => ?_)
      · rw [if_pos c0] at hj
        refine j_iconst F (pc := 49) (n := 1) (v := 1) (by decide +kernel) (by decide +kernel) ?_
        refine j_goto F (pc := 50) (off := 4) (tgt := 54) (by decide +kernel) (by decide) ?_
        exact hj
      · rw [if_neg c0] at hj
        refine j_iload_n F (pc := 38) (q := 1) (by decide +kernel) rfl ?_
        refine j_iconst F (pc := 39) (n := 5) (v := 5) (by decide +kernel) (by decide +kernel) ?_
        refine j_icmp_eq F (pc := 40) (off := 9) (tgt := 49) (by decide +kernel) (by decide) (fun c1 => ?_) (fun c1 => ?_)
        · rw [if_pos c1] at hj
          refine j_iconst F (pc := 49) (n := 1) (v := 1) (by decide +kernel) (by decide +kernel) ?_
          refine j_goto F (pc := 50) (off := 4) (tgt := 54) (by decide +kernel) (by decide) ?_
          exact hj
        · rw [if_neg c1] at hj
          refine j_iload_n F (pc := 43) (q := 1) (by decide +kernel) rfl ?_
          refine j_bipush F (pc := 44) (n := 7) (v := 7) (by decide +kernel) (by decide +kernel) ?_
          refine j_icmp_le F (pc := 46) (off := 7) (tgt := 53) (by decide +kernel) (by decide) (fun c2 => ?_) (fun c2 => ?_)
          · rw [if_pos c2] at hj
            refine j_iconst F (pc := 53) (n := 0) (v := 0) (by decide +kernel) (by decide +kernel) ?_
            exact hj
          · rw [if_neg c2] at hj
            refine j_iconst F (pc := 49) (n := 1) (v := 1) (by decide +kernel) (by decide +kernel) ?_
            refine j_goto F (pc := 50) (off := 4) (tgt := 54) (by decide +kernel) (by decide) ?_
            exact hj
    obtain ⟨x_19, e20, h⟩ := z_lt_some h
    rw [← e20]
    refine j_istore_n F (pc := 54) (q := 3) (L' := [some (.ref 98), some (.int r7), some (.int x_14), some (.int x_19), none]) (by decide +kernel) (by decide) rfl rfl ?_
    refine j_iload_n F (pc := 55) (q := 1) (by decide +kernel) rfl ?_
    refine j_if_ne F (pc := 56) (off := 10) (tgt := 66) (by decide +kernel) (by decide) (fun c => ?_) (fun c => ?_)
    · rw [if_neg c] at h
      refine j_iload_n F (pc := 66) (q := 1) (by decide +kernel) rfl ?_
      refine j_iconst F (pc := 67) (n := 1) (v := 1) (by decide +kernel) (by decide +kernel) ?_
      refine j_icmp_ne F (pc := 68) (off := 11) (tgt := 79) (by decide +kernel) (by decide) (fun c => ?_) (fun c => ?_)
      · rw [if_neg c] at h
        refine j_iload_n F (pc := 79) (q := 3) (by decide +kernel) rfl ?_
        refine j_if_eq F (pc := 80) (off := 12) (tgt := 92) (by decide +kernel) (by decide) (fun c => ?_) (fun c => ?_)
        · rw [if_pos c] at h
          refine j_aload_n F (pc := 92) (q := 0) (by decide +kernel) rfl ?_
          refine j_iload_n F (pc := 93) (q := 1) (by decide +kernel) rfl ?_
          obtain ⟨r21, μ22, hc24, h⟩ := z_b2_some h
          refine j_callVi F (pc := 94) (idx := 243) (As := [.int r7]) (st := []) (t_X5_takeOfKind (G := E.1) hρ17 hk hc24) q_X5_takeOfKind v_X5_takeOfKind m_1127 (hk.s c_98) rfl rfl (by decide) (Nat.le_of_ble_eq_true rfl) rfl (by decide +kernel) (fun s27 ν25 hq26 hp => ?_)
          obtain ⟨rfl, rfl⟩ := hp
          have hρ23 : μ22.2.2 = ρ := hq26.trans hρ17
          refine j_mk F [true, false, false, false, false] (L' := [some (.ref 98), none, none, none, none]) rfl ?_
          refine u_X5_takeClause_97 F Rt hk  _ _ hρ23 h
        · rw [if_neg c] at h
          refine j_aload_n F (pc := 83) (q := 0) (by decide +kernel) rfl ?_
          refine j_iload_n F (pc := 84) (q := 1) (by decide +kernel) rfl ?_
          refine j_iload_n F (pc := 85) (q := 2) (by decide +kernel) rfl ?_
          obtain ⟨r45, μ46, hc48, h⟩ := z_b2_some h
          refine j_callVi F (pc := 86) (idx := 240) (As := [.int r7, .int x_14]) (st := []) (t_X5_takeOnce (G := E.1) hρ17 hk hc48) q_X5_takeOnce v_X5_takeOnce m_1113 (hk.s c_98) rfl rfl (by decide) (Nat.le_of_ble_eq_true rfl) rfl (by decide +kernel) (fun s51 ν49 hq50 hp => ?_)
          obtain ⟨rfl, rfl⟩ := hp
          have hρ47 : μ46.2.2 = ρ := hq50.trans hρ17
          refine j_goto F (pc := 89) (off := 8) (tgt := 97) (by decide +kernel) (by decide) ?_
          refine j_mk F [true, false, false, false, false] (L' := [some (.ref 98), none, none, none, none]) rfl ?_
          refine u_X5_takeClause_97 F Rt hk  _ _ hρ47 h
      · rw [if_pos c] at h
        refine j_aload_n F (pc := 71) (q := 0) (by decide +kernel) rfl ?_
        refine j_iload_n F (pc := 72) (q := 2) (by decide +kernel) rfl ?_
        obtain ⟨r52, μ53, hc55, h⟩ := z_b2_some h
        refine j_callVi F (pc := 73) (idx := 236) (As := [.int x_14]) (st := []) (t_X5_takeAhead (G := E.1) hρ17 hk hc55) q_X5_takeAhead v_X5_takeAhead m_1109 (hk.s c_98) rfl rfl (by decide) (Nat.le_of_ble_eq_true rfl) rfl (by decide +kernel) (fun s58 ν56 hq57 hp => ?_)
        obtain ⟨rfl, rfl⟩ := hp
        have hρ54 : μ53.2.2 = ρ := hq57.trans hρ17
        refine j_goto F (pc := 76) (off := 21) (tgt := 97) (by decide +kernel) (by decide) ?_
        refine j_mk F [true, false, false, false, false] (L' := [some (.ref 98), none, none, none, none]) rfl ?_
        refine u_X5_takeClause_97 F Rt hk  _ _ hρ54 h
    · rw [if_pos c] at h
      refine j_aload_n F (pc := 59) (q := 0) (by decide +kernel) rfl ?_
      obtain ⟨r59, μ60, hc62, h⟩ := z_b2_some h
      refine j_callVi F (pc := 60) (idx := 233) (As := []) (st := []) (t_X5_takeRides (G := E.1) hρ17 hk hc62) q_X5_takeRides v_X5_takeRides m_1093 (hk.s c_98) rfl rfl (by decide) (Nat.le_of_ble_eq_true rfl) rfl (by decide +kernel) (fun s65 ν63 hq64 hp => ?_)
      obtain ⟨rfl, rfl⟩ := hp
      have hρ61 : μ60.2.2 = ρ := hq64.trans hρ17
      refine j_goto F (pc := 63) (off := 34) (tgt := 97) (by decide +kernel) (by decide) ?_
      refine j_mk F [true, false, false, false, false] (L' := [some (.ref 98), none, none, none, none]) rfl ?_
      refine u_X5_takeClause_97 F Rt hk  _ _ hρ61 h
  · rw [if_neg c] at h
    refine j_aload_n F (pc := 18) (q := 0) (by decide +kernel) rfl ?_
    refine j_iconst F (pc := 19) (n := 1) (v := 1) (by decide +kernel) (by decide +kernel) ?_
    refine j_iload_n F (pc := 20) (q := 2) (by decide +kernel) rfl ?_
    obtain ⟨r66, μ67, hc69, h⟩ := z_b2_some h
    refine j_callVi F (pc := 21) (idx := 196) (As := [.int (1 : Int32), .int x_14]) (st := []) (t_X5_fails (G := E.1) hρ9 hk hc69) q_X5_fails v_X5_fails m_1089 (hk.s c_98) rfl rfl (by decide) (Nat.le_of_ble_eq_true rfl) rfl (by decide +kernel) (fun s72 ν70 hq71 hp => ?_)
    obtain ⟨rfl, rfl⟩ := hp
    have hρ68 : μ67.2.2 = ρ := hq71.trans hρ9
    exact j_iret (st := []) F Rt rfl (by decide +kernel) ⟨hρ68, _, rfl, (congrArg Prod.fst (Option.some.inj h)).symm, (congrArg Prod.snd (Option.some.inj h)).symm⟩
def g_X5_law_56   (x1 : Int32) (x2 : Int32) (x3 : Int32) (μ : z_M) : Option (Int32 × z_M) :=
  (z_st (z_si μ 98 13 (0 : Int32)) fun μ23 => (if x3 ≤ 0 then (z_b1 (f_X5_keepLaw (x1) μ23) fun μ27 => (some (x2, μ27))) else (some (((-10 : Int32) - x3), μ23))))
def g_X5_law_34   : Nat → Int32 → Int32 → Int32 → z_M → Option (Int32 × z_M)
  | 0, _, _, _, _ => none
  | n + 1, x1, x2, x3, μ => (if x3 = 0 then (z_b2 (f_X5_here  μ) fun r32 μ33 => (if r32 < 0 then (g_X5_law_56   (x1) (x2) (x3) μ33) else (z_b2 (f_X5_takeClause  μ33) fun r39 μ40 => (g_X5_law_34   n (x1) ((x2 + (1 : Int32))) (r39) μ40)))) else (g_X5_law_56   (x1) (x2) (x3) μ))
def f_X5_law (x1 : Int32) (μ : z_M) : Option (Int32 × z_M) :=
  (z_b2 (f_X5_isLand (x1) μ) fun r1 μ2 => (if r1 = 0 then (some ((-1001 : Int32), μ2)) else (z_st (z_si μ2 98 14 (-1 : Int32)) fun μ8 => (z_st (z_si μ8 98 15 (0 : Int32)) fun μ11 => (z_st (z_si μ11 98 21 (0 : Int32)) fun μ14 => (z_b1 (f_X5_bare  μ14) fun μ18 => (g_X5_law_34   z_N (x1) ((0 : Int32)) ((0 : Int32)) μ18)))))))
set_option maxHeartbeats 4000000 in
set_option maxRecDepth 100000 in
theorem u_X5_law_56 {E : z_E} {ρ : Nat → Nat → Option Nat} {r : Int32} {μr : z_M} (F : z_F E RX5 cX5_law 4 5) (Rt : z_R E (some .int) (fun v μ1 => μ1.2.2 = ρ ∧ ∃ r1, v = some (.int r1) ∧ r = r1 ∧ μr = μ1))  (hk : z_ok (z_sh E.1) ρ) : ∀ (x1 : Int32) (x2 : Int32) (x3 : Int32) (μ : z_M), μ.2.2 = ρ → g_X5_law_56   x1 x2 x3 μ = some (r, μr) → z_J E 4 56 [some (.ref 98), some (.int x1), some (.int x2), some (.int x3)] [] μ := by
  intro x1 x2 x3 μ hρ h
  unfold g_X5_law_56 at h
  refine j_aload_n F (pc := 56) (q := 0) (by decide +kernel) rfl ?_
  refine j_iconst F (pc := 57) (n := 0) (v := 0) (by decide +kernel) (by decide +kernel) ?_
  refine j_putI F (pc := 58) fl_X5_153 fp_X5_13 (hk.s c_98) rfl (by decide +kernel) ?_
  obtain ⟨μ23, e25, h⟩ := z_st_some h
  rw [← e25]
  have hρ24 : μ23.2.2 = ρ := by rw [e25]; exact hρ
  refine j_iload_n F (pc := 61) (q := 3) (by decide +kernel) rfl ?_
  refine j_if_le F (pc := 62) (off := 8) (tgt := 70) (by decide +kernel) (by decide) (fun c => ?_) (fun c => ?_)
  · rw [if_pos c] at h
    refine j_aload_n F (pc := 70) (q := 0) (by decide +kernel) rfl ?_
    refine j_iload_n F (pc := 71) (q := 1) (by decide +kernel) rfl ?_
    obtain ⟨μ27, hc29, h⟩ := z_b1_some h
    refine j_callVv F (pc := 72) (idx := 129) (As := [.int x1]) (st := []) (t_X5_keepLaw (G := E.1) hρ24 hk hc29) q_X5_keepLaw v_X5_keepLaw m_879 (hk.s c_98) rfl rfl (by decide) (Nat.le_of_ble_eq_true rfl) rfl (by decide +kernel) (fun ν30 hq31 hp => ?_)
    subst hp
    have hρ28 : μ27.2.2 = ρ := hq31.trans hρ24
    refine j_iload_n F (pc := 75) (q := 2) (by decide +kernel) rfl ?_
    exact j_iret (st := []) F Rt rfl (by decide +kernel) ⟨hρ28, _, rfl, (congrArg Prod.fst (Option.some.inj h)).symm, (congrArg Prod.snd (Option.some.inj h)).symm⟩
  · rw [if_neg c] at h
    refine j_bipush F (pc := 65) (n := -10) (v := -10) (by decide +kernel) (by decide +kernel) ?_
    refine j_iload_n F (pc := 67) (q := 3) (by decide +kernel) rfl ?_
    refine j_isub F (pc := 68) (by decide +kernel) ?_
    exact j_iret (st := []) F Rt rfl (by decide +kernel) ⟨hρ24, _, rfl, (congrArg Prod.fst (Option.some.inj h)).symm, (congrArg Prod.snd (Option.some.inj h)).symm⟩
set_option maxHeartbeats 4000000 in
set_option maxRecDepth 100000 in
theorem u_X5_law_34 {E : z_E} {ρ : Nat → Nat → Option Nat} {r : Int32} {μr : z_M} (F : z_F E RX5 cX5_law 4 5) (Rt : z_R E (some .int) (fun v μ1 => μ1.2.2 = ρ ∧ ∃ r1, v = some (.int r1) ∧ r = r1 ∧ μr = μ1))  (hk : z_ok (z_sh E.1) ρ) : ∀ (n : Nat) (x1 : Int32) (x2 : Int32) (x3 : Int32) (μ : z_M), μ.2.2 = ρ → g_X5_law_34   n x1 x2 x3 μ = some (r, μr) → z_J E 4 34 [some (.ref 98), some (.int x1), some (.int x2), some (.int x3)] [] μ := by
  intro n
  induction n with
  | zero =>
    intro x1 x2 x3 μ hρ h
    rw [g_X5_law_34] at h
    cases h
  | succ n ih =>
    intro x1 x2 x3 μ hρ h
    rw [g_X5_law_34] at h
    refine j_iload_n F (pc := 34) (q := 3) (by decide +kernel) rfl ?_
    refine j_if_ne F (pc := 35) (off := 21) (tgt := 56) (by decide +kernel) (by decide) (fun c => ?_) (fun c => ?_)
    · rw [if_neg c] at h
      refine u_X5_law_56 F Rt hk  _ _ _ _ hρ h
    · rw [if_pos c] at h
      refine j_aload_n F (pc := 38) (q := 0) (by decide +kernel) rfl ?_
      obtain ⟨r32, μ33, hc35, h⟩ := z_b2_some h
      refine j_callVi F (pc := 39) (idx := 161) (As := []) (st := []) (t_X5_here (G := E.1) hρ hk hc35) q_X5_here v_X5_here m_1061 (hk.s c_98) rfl rfl (by decide) (Nat.le_of_ble_eq_true rfl) rfl (by decide +kernel) (fun s38 ν36 hq37 hp => ?_)
      obtain ⟨rfl, rfl⟩ := hp
      have hρ34 : μ33.2.2 = ρ := hq37.trans hρ
      refine j_if_lt F (pc := 42) (off := 14) (tgt := 56) (by decide +kernel) (by decide) (fun c => ?_) (fun c => ?_)
      · rw [if_pos c] at h
        refine u_X5_law_56 F Rt hk  _ _ _ _ hρ34 h
      · rw [if_neg c] at h
        refine j_aload_n F (pc := 45) (q := 0) (by decide +kernel) rfl ?_
        obtain ⟨r39, μ40, hc42, h⟩ := z_b2_some h
        refine j_callVi F (pc := 46) (idx := 250) (As := []) (st := []) (t_X5_takeClause (G := E.1) hρ34 hk hc42) q_X5_takeClause v_X5_takeClause m_1065 (hk.s c_98) rfl rfl (by decide) (Nat.le_of_ble_eq_true rfl) rfl (by decide +kernel) (fun s45 ν43 hq44 hp => ?_)
        obtain ⟨rfl, rfl⟩ := hp
        have hρ41 : μ40.2.2 = ρ := hq44.trans hρ34
        refine j_istore_n F (pc := 49) (q := 3) (L' := [some (.ref 98), some (.int x1), some (.int x2), some (.int r39)]) (by decide +kernel) (by decide) rfl rfl ?_
        refine j_iinc F (pc := 50) (i := 2) (n := 1) (v := 1) (L' := [some (.ref 98), some (.int x1), some (.int (x2 + (1 : Int32))), some (.int r39)]) (by decide +kernel) rfl (by decide +kernel) (by decide) rfl rfl ?_
        refine j_goto F (pc := 53) (off := -19) (tgt := 34) (by decide +kernel) (by decide) ?_
        exact ih _ _ _ _ hρ41 h
set_option maxHeartbeats 4000000 in
set_option maxRecDepth 100000 in
theorem t_X5_law {G : z_Gl} {ρ : Nat → Nat → Option Nat} {μ : z_M} {r : Int32} {μr : z_M} {x1 : Int32} (hρ : μ.2.2 = ρ) (hk : z_ok (z_sh G) ρ) (h : f_X5_law x1 μ = some (r, μr)) : z_Ci G yX5_law cX5_law 4 (some .int) 5 [.ref 98, .int x1] μ (fun r1 μ1 => r = r1 ∧ μr = μ1) := by
  unfold z_Ci
  refine z_intro (by decide +kernel) (Nat.le_of_ble_eq_true rfl) (fun E hE F Rt => ?_)
  subst hE
  have F : z_F E RX5 cX5_law 4 5 := F
  rw [hρ] at Rt
  unfold f_X5_law at h
  show z_J E 4 0 [some (.ref 98), some (.int x1), none, none] [] μ
  refine j_iload_n F (pc := 0) (q := 1) (by decide +kernel) rfl ?_
  obtain ⟨r1, μ2, hc4, h⟩ := z_b2_some h
  refine j_callSi F (pc := 1) (idx := 246) (As := [.int x1]) (st := []) (t_X5_isLand (G := E.1) hρ  hc4) q_X5_isLand m_1058 m_1057 rfl (by decide) (Nat.le_of_ble_eq_true rfl) rfl (by decide +kernel) (fun s7 ν5 hq6 hp => ?_)
  obtain ⟨rfl, rfl⟩ := hp
  have hρ3 : μ2.2.2 = ρ := hq6.trans hρ
  refine j_if_ne F (pc := 4) (off := 7) (tgt := 11) (by decide +kernel) (by decide) (fun c => ?_) (fun c => ?_)
  · rw [if_neg c] at h
    refine j_aload_n F (pc := 11) (q := 0) (by decide +kernel) rfl ?_
    refine j_iconst F (pc := 12) (n := -1) (v := -1) (by decide +kernel) (by decide +kernel) ?_
    refine j_putI F (pc := 13) fl_X5_50 fp_X5_14 (hk.s c_98) rfl (by decide +kernel) ?_
    obtain ⟨μ8, e10, h⟩ := z_st_some h
    rw [← e10]
    have hρ9 : μ8.2.2 = ρ := by rw [e10]; exact hρ3
    refine j_aload_n F (pc := 16) (q := 0) (by decide +kernel) rfl ?_
    refine j_iconst F (pc := 17) (n := 0) (v := 0) (by decide +kernel) (by decide +kernel) ?_
    refine j_putI F (pc := 18) fl_X5_158 fp_X5_15 (hk.s c_98) rfl (by decide +kernel) ?_
    obtain ⟨μ11, e13, h⟩ := z_st_some h
    rw [← e13]
    have hρ12 : μ11.2.2 = ρ := by rw [e13]; exact hρ9
    refine j_aload_n F (pc := 21) (q := 0) (by decide +kernel) rfl ?_
    refine j_iconst F (pc := 22) (n := 0) (v := 0) (by decide +kernel) (by decide +kernel) ?_
    refine j_putI F (pc := 23) fl_X5_224 fp_X5_21 (hk.s c_98) rfl (by decide +kernel) ?_
    obtain ⟨μ14, e16, h⟩ := z_st_some h
    rw [← e16]
    have hρ15 : μ14.2.2 = ρ := by rw [e16]; exact hρ12
    refine j_aload_n F (pc := 26) (q := 0) (by decide +kernel) rfl ?_
    obtain ⟨μ18, hc20, h⟩ := z_b1_some h
    refine j_callVv F (pc := 27) (idx := 126) (As := []) (st := []) (t_X5_bare (G := E.1) hρ15 hk hc20) q_X5_bare v_X5_bare m_875 (hk.s c_98) rfl rfl (by decide) (Nat.le_of_ble_eq_true rfl) rfl (by decide +kernel) (fun ν21 hq22 hp => ?_)
    subst hp
    have hρ19 : μ18.2.2 = ρ := hq22.trans hρ15
    refine j_iconst F (pc := 30) (n := 0) (v := 0) (by decide +kernel) (by decide +kernel) ?_
    refine j_istore_n F (pc := 31) (q := 2) (L' := [some (.ref 98), some (.int x1), some (.int (0 : Int32)), none]) (by decide +kernel) (by decide) rfl rfl ?_
    refine j_iconst F (pc := 32) (n := 0) (v := 0) (by decide +kernel) (by decide +kernel) ?_
    refine j_istore_n F (pc := 33) (q := 3) (L' := [some (.ref 98), some (.int x1), some (.int (0 : Int32)), some (.int (0 : Int32))]) (by decide +kernel) (by decide) rfl rfl ?_
    refine u_X5_law_34 F Rt hk  z_N _ _ _ _ hρ19 h
  · rw [if_pos c] at h
    refine j_sipush F (pc := 7) (n := -1001) (v := -1001) (by decide +kernel) (by decide +kernel) ?_
    exact j_iret (st := []) F Rt rfl (by decide +kernel) ⟨hρ3, _, rfl, (congrArg Prod.fst (Option.some.inj h)).symm, (congrArg Prod.snd (Option.some.inj h)).symm⟩
/-- LastLentModel.fault -/
def f_X5_fault  (μ : z_M) : Option (Int32 × z_M) :=
  (some ((μ.1 98 14), μ))
set_option maxHeartbeats 4000000 in
set_option maxRecDepth 100000 in
theorem t_X5_fault {G : z_Gl} {ρ : Nat → Nat → Option Nat} {μ : z_M} {r : Int32} {μr : z_M}  (hρ : μ.2.2 = ρ) (hk : z_ok (z_sh G) ρ) (h : f_X5_fault  μ = some (r, μr)) : z_Ci G yX5_fault cX5_fault 1 (some .int) 0 [.ref 98] μ (fun r1 μ1 => r = r1 ∧ μr = μ1) := by
  unfold z_Ci
  refine z_intro (by decide +kernel) (Nat.le_of_ble_eq_true rfl) (fun E hE F Rt => ?_)
  subst hE
  have F : z_F E RX5 cX5_fault 1 0 := F
  rw [hρ] at Rt
  unfold f_X5_fault at h
  show z_J E 1 0 [some (.ref 98)] [] μ
  refine j_aload_n F (pc := 0) (q := 0) (by decide +kernel) rfl ?_
  refine j_getI F (pc := 1) fl_X5_50 (hk.s c_98) rfl (by decide +kernel) ?_
  exact j_iret (st := []) F Rt rfl (by decide +kernel) ⟨hρ, _, rfl, (congrArg Prod.fst (Option.some.inj h)).symm, (congrArg Prod.snd (Option.some.inj h)).symm⟩
/-- LastLentModel.isKind -/
def f_X5_isKind (x0 : Int32) (μ : z_M) : Option (Int32 × z_M) :=
  (z_b2 (f_X5_in ((x0).toInt64) ((0 : Int64)) ((7 : Int64)) μ) fun r1 μ2 => (if r1 = 0 ∨ r1 = 1 then some (r1, μ2) else none))
set_option maxHeartbeats 4000000 in
set_option maxRecDepth 100000 in
theorem t_X5_isKind {G : z_Gl} {ρ : Nat → Nat → Option Nat} {μ : z_M} {r : Int32} {μr : z_M} {x0 : Int32} (hρ : μ.2.2 = ρ)  (h : f_X5_isKind x0 μ = some (r, μr)) : z_Ci G yX5_isKind cX5_isKind 1 (some .boolean) 1 [.int x0] μ (fun r1 μ1 => r = r1 ∧ μr = μ1) := by
  unfold z_Ci
  refine z_intro (by decide +kernel) (Nat.le_of_ble_eq_true rfl) (fun E hE F Rt => ?_)
  subst hE
  have F : z_F E RX5 cX5_isKind 1 1 := F
  rw [hρ] at Rt
  unfold f_X5_isKind at h
  show z_J E 1 0 [some (.int x0)] [] μ
  refine j_iload_n F (pc := 0) (q := 0) (by decide +kernel) rfl ?_
  refine j_i2l F (pc := 1) (by decide +kernel) ?_
  refine j_lconst F (pc := 2) (n := 0) (v := 0) (by decide +kernel) (by decide +kernel) ?_
  refine j_ldc2 F (pc := 3) m_1142 (by decide +kernel) ?_
  obtain ⟨r1, μ2, hc4, h⟩ := z_b2_some h
  refine j_callSi F (pc := 6) (idx := 138) (As := [.long (x0).toInt64, .long (0 : Int64), .long (7 : Int64)]) (st := []) (t_X5_in (G := E.1) hρ  hc4) q_X5_in m_1050 m_1049 rfl (by decide) (Nat.le_of_ble_eq_true rfl) rfl (by decide +kernel) (fun s7 ν5 hq6 hp => ?_)
  obtain ⟨rfl, rfl⟩ := hp
  have hρ3 : μ2.2.2 = ρ := hq6.trans hρ
  obtain ⟨hg, h⟩ := z_ifs h
  exact j_iret (st := []) F Rt (z_nb hg) (by decide +kernel) ⟨hρ3, _, rfl, (congrArg Prod.fst (Option.some.inj h)).symm, (congrArg Prod.snd (Option.some.inj h)).symm⟩
