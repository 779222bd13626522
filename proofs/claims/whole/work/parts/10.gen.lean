/-! functions and contracts, written by wip/whole/dec.py -/
def g_X0_tellNothing_2 (o : Nat)  : Nat → Int32 → z_M → Option z_M
  | 0, _, _ => none
  | n + 1, x1, μ => (if (8 : Int32) ≤ x1 then (z_st (z_si μ o 4 (0 : Int32)) fun μ1 => (z_st (z_si μ1 o 5 (0 : Int32)) fun μ4 => (z_st (z_si μ4 o 6 (0 : Int32)) fun μ7 => (z_st (z_si μ7 o 7 (0 : Int32)) fun μ10 => (z_st (z_si μ10 o 8 (0 : Int32)) fun μ13 => (z_st (z_si μ13 o 9 (0 : Int32)) fun μ16 => (z_st (z_si μ16 o 10 (0 : Int32)) fun μ19 => (z_st (z_si μ19 o 11 (0 : Int32)) fun μ22 => (z_st (z_si μ22 o 12 (0 : Int32)) fun μ25 => (some μ25)))))))))) else (if z_in x1 8 then (z_st (z_si μ (o + 1) x1.toNatClampNeg (1 : Int32)) fun μ28 => (if z_in x1 8 then (z_st (z_si μ28 (o + 2) x1.toNatClampNeg (0 : Int32)) fun μ31 => (if z_in x1 8 then (z_st (z_si μ31 (o + 3) x1.toNatClampNeg (0 : Int32)) fun μ34 => (if z_in x1 8 then (z_st (z_si μ34 (o + 4) x1.toNatClampNeg (0 : Int32)) fun μ37 => (g_X0_tellNothing_2 o  n ((x1 + (1 : Int32))) μ37)) else none)) else none)) else none)) else none))
def f_X0_tellNothing (o : Nat) (μ : z_M) : Option z_M :=
  (g_X0_tellNothing_2 o  z_N ((0 : Int32)) μ)
set_option maxHeartbeats 4000000 in
set_option maxRecDepth 100000 in
theorem u_X0_tellNothing_2 {E : z_E} {ρ : Nat → Nat → Option Nat} {μr : z_M} (F : z_F E RX0 cX0_tellNothing 2 0) (Rt : z_R E none (fun v μ1 => μ1.2.2 = ρ ∧ v = none ∧ μr = μ1)) {o : Nat} (hb : z_blk z_lawS z_lawR (z_sh E.1) ρ o) : ∀ (n : Nat) (x1 : Int32) (μ : z_M), μ.2.2 = ρ → g_X0_tellNothing_2 o  n x1 μ = some μr → z_J E 2 2 [some (.ref o), some (.int x1)] [] μ := by
  intro n
  induction n with
  | zero =>
    intro x1 μ hρ h
    rw [g_X0_tellNothing_2] at h
    cases h
  | succ n ih =>
    intro x1 μ hρ h
    rw [g_X0_tellNothing_2] at h
    refine j_iload_n F (pc := 2) (q := 1) (by decide +kernel) rfl ?_
    refine j_bipush F (pc := 3) (n := 8) (v := 8) (by decide +kernel) (by decide +kernel) ?_
    refine j_icmp_ge F (pc := 5) (off := 37) (tgt := 42) (by decide +kernel) (by decide) (fun c => ?_) (fun c => ?_)
    · rw [if_pos c] at h
      refine j_aload_n F (pc := 42) (q := 0) (by decide +kernel) rfl ?_
      refine j_iconst F (pc := 43) (n := 0) (v := 0) (by decide +kernel) (by decide +kernel) ?_
      refine j_putI F (pc := 44) fl_X0_27 fp_X0_4 (hb.1 0 _ rfl) rfl (by decide +kernel) ?_
      obtain ⟨μ1, e3, h⟩ := z_st_some h
      rw [← e3]
      have hρ2 : μ1.2.2 = ρ := by rw [e3]; exact hρ
      refine j_aload_n F (pc := 47) (q := 0) (by decide +kernel) rfl ?_
      refine j_iconst F (pc := 48) (n := 0) (v := 0) (by decide +kernel) (by decide +kernel) ?_
      refine j_putI F (pc := 49) fl_X0_31 fp_X0_5 (hb.1 0 _ rfl) rfl (by decide +kernel) ?_
      obtain ⟨μ4, e6, h⟩ := z_st_some h
      rw [← e6]
      have hρ5 : μ4.2.2 = ρ := by rw [e6]; exact hρ2
      refine j_aload_n F (pc := 52) (q := 0) (by decide +kernel) rfl ?_
      refine j_iconst F (pc := 53) (n := 0) (v := 0) (by decide +kernel) (by decide +kernel) ?_
      refine j_putI F (pc := 54) fl_X0_34 fp_X0_6 (hb.1 0 _ rfl) rfl (by decide +kernel) ?_
      obtain ⟨μ7, e9, h⟩ := z_st_some h
      rw [← e9]
      have hρ8 : μ7.2.2 = ρ := by rw [e9]; exact hρ5
      refine j_aload_n F (pc := 57) (q := 0) (by decide +kernel) rfl ?_
      refine j_iconst F (pc := 58) (n := 0) (v := 0) (by decide +kernel) (by decide +kernel) ?_
      refine j_putI F (pc := 59) fl_X0_37 fp_X0_7 (hb.1 0 _ rfl) rfl (by decide +kernel) ?_
      obtain ⟨μ10, e12, h⟩ := z_st_some h
      rw [← e12]
      have hρ11 : μ10.2.2 = ρ := by rw [e12]; exact hρ8
      refine j_aload_n F (pc := 62) (q := 0) (by decide +kernel) rfl ?_
      refine j_iconst F (pc := 63) (n := 0) (v := 0) (by decide +kernel) (by decide +kernel) ?_
      refine j_putI F (pc := 64) fl_X0_40 fp_X0_8 (hb.1 0 _ rfl) rfl (by decide +kernel) ?_
      obtain ⟨μ13, e15, h⟩ := z_st_some h
      rw [← e15]
      have hρ14 : μ13.2.2 = ρ := by rw [e15]; exact hρ11
      refine j_aload_n F (pc := 67) (q := 0) (by decide +kernel) rfl ?_
      refine j_iconst F (pc := 68) (n := 0) (v := 0) (by decide +kernel) (by decide +kernel) ?_
      refine j_putI F (pc := 69) fl_X0_43 fp_X0_9 (hb.1 0 _ rfl) rfl (by decide +kernel) ?_
      obtain ⟨μ16, e18, h⟩ := z_st_some h
      rw [← e18]
      have hρ17 : μ16.2.2 = ρ := by rw [e18]; exact hρ14
      refine j_aload_n F (pc := 72) (q := 0) (by decide +kernel) rfl ?_
      refine j_iconst F (pc := 73) (n := 0) (v := 0) (by decide +kernel) (by decide +kernel) ?_
      refine j_putI F (pc := 74) fl_X0_46 fp_X0_10 (hb.1 0 _ rfl) rfl (by decide +kernel) ?_
      obtain ⟨μ19, e21, h⟩ := z_st_some h
      rw [← e21]
      have hρ20 : μ19.2.2 = ρ := by rw [e21]; exact hρ17
      refine j_aload_n F (pc := 77) (q := 0) (by decide +kernel) rfl ?_
      refine j_iconst F (pc := 78) (n := 0) (v := 0) (by decide +kernel) (by decide +kernel) ?_
      refine j_putZ F (pc := 79) (Or.inl rfl) fl_X0_49 fp_X0_11 (hb.1 0 _ rfl) rfl (by decide +kernel) ?_
      obtain ⟨μ22, e24, h⟩ := z_st_some h
      rw [← e24]
      have hρ23 : μ22.2.2 = ρ := by rw [e24]; exact hρ20
      refine j_aload_n F (pc := 82) (q := 0) (by decide +kernel) rfl ?_
      refine j_iconst F (pc := 83) (n := 0) (v := 0) (by decide +kernel) (by decide +kernel) ?_
      refine j_putZ F (pc := 84) (Or.inl rfl) fl_X0_53 fp_X0_12 (hb.1 0 _ rfl) rfl (by decide +kernel) ?_
      obtain ⟨μ25, e27, h⟩ := z_st_some h
      rw [← e27]
      have hρ26 : μ25.2.2 = ρ := by rw [e27]; exact hρ23
      exact j_vret (st := []) F Rt (by decide +kernel) ⟨hρ26, rfl, (Option.some.inj h).symm⟩
    · rw [if_neg c] at h
      refine j_aload_n F (pc := 8) (q := 0) (by decide +kernel) rfl ?_
      refine j_getR F (pc := 9) (hb.r hρ 0 rfl) fl_X0_9 (hb.1 0 _ rfl) rfl (by decide +kernel) ?_
      refine j_iload_n F (pc := 12) (q := 1) (by decide +kernel) rfl ?_
      refine j_iconst F (pc := 13) (n := 1) (v := 1) (by decide +kernel) (by decide +kernel) ?_
      obtain ⟨hg, h⟩ := z_ifs h
      refine j_iast F (pc := 14) (hb.1 1 _ rfl) hg (by decide +kernel) ?_
      obtain ⟨μ28, e30, h⟩ := z_st_some h
      rw [← e30]
      have hρ29 : μ28.2.2 = ρ := by rw [e30]; exact hρ
      refine j_aload_n F (pc := 15) (q := 0) (by decide +kernel) rfl ?_
      refine j_getR F (pc := 16) (hb.r hρ29 1 rfl) fl_X0_15 (hb.1 0 _ rfl) rfl (by decide +kernel) ?_
      refine j_iload_n F (pc := 19) (q := 1) (by decide +kernel) rfl ?_
      refine j_iconst F (pc := 20) (n := 0) (v := 0) (by decide +kernel) (by decide +kernel) ?_
      obtain ⟨hg, h⟩ := z_ifs h
      refine j_iast F (pc := 21) (hb.1 2 _ rfl) hg (by decide +kernel) ?_
      obtain ⟨μ31, e33, h⟩ := z_st_some h
      rw [← e33]
      have hρ32 : μ31.2.2 = ρ := by rw [e33]; exact hρ29
      refine j_aload_n F (pc := 22) (q := 0) (by decide +kernel) rfl ?_
      refine j_getR F (pc := 23) (hb.r hρ32 2 rfl) fl_X0_18 (hb.1 0 _ rfl) rfl (by decide +kernel) ?_
      refine j_iload_n F (pc := 26) (q := 1) (by decide +kernel) rfl ?_
      refine j_iconst F (pc := 27) (n := 0) (v := 0) (by decide +kernel) (by decide +kernel) ?_
      obtain ⟨hg, h⟩ := z_ifs h
      refine j_iast F (pc := 28) (hb.1 3 _ rfl) hg (by decide +kernel) ?_
      obtain ⟨μ34, e36, h⟩ := z_st_some h
      rw [← e36]
      have hρ35 : μ34.2.2 = ρ := by rw [e36]; exact hρ32
      refine j_aload_n F (pc := 29) (q := 0) (by decide +kernel) rfl ?_
      refine j_getR F (pc := 30) (hb.r hρ35 3 rfl) fl_X0_21 (hb.1 0 _ rfl) rfl (by decide +kernel) ?_
      refine j_iload_n F (pc := 33) (q := 1) (by decide +kernel) rfl ?_
      refine j_iconst F (pc := 34) (n := 0) (v := 0) (by decide +kernel) (by decide +kernel) ?_
      obtain ⟨hg, h⟩ := z_ifs h
      refine j_iast F (pc := 35) (hb.1 4 _ rfl) hg (by decide +kernel) ?_
      obtain ⟨μ37, e39, h⟩ := z_st_some h
      rw [← e39]
      have hρ38 : μ37.2.2 = ρ := by rw [e39]; exact hρ35
      refine j_iinc F (pc := 36) (i := 1) (n := 1) (v := 1) (L' := [some (.ref o), some (.int (x1 + (1 : Int32)))]) (by decide +kernel) rfl (by decide +kernel) (by decide) rfl rfl ?_
      refine j_goto F (pc := 39) (off := -37) (tgt := 2) (by decide +kernel) (by decide) ?_
      exact ih _ _ hρ38 h
set_option maxHeartbeats 4000000 in
set_option maxRecDepth 100000 in
theorem t_X0_tellNothing {G : z_Gl} {ρ : Nat → Nat → Option Nat} {μ : z_M} {μr : z_M} {o : Nat} (hρ : μ.2.2 = ρ) (hb : z_blk z_lawS z_lawR (z_sh G) ρ o) (h : f_X0_tellNothing o μ = some μr) : z_Cv G yX0_tellNothing cX0_tellNothing 2 none 0 [.ref o] μ (fun μ1 => μr = μ1) := by
  unfold z_Cv
  refine z_intro (by decide +kernel) (Nat.le_of_ble_eq_true rfl) (fun E hE F Rt => ?_)
  subst hE
  have F : z_F E RX0 cX0_tellNothing 2 0 := F
  rw [hρ] at Rt
  unfold f_X0_tellNothing at h
  show z_J E 2 0 [some (.ref o), none] [] μ
  refine j_iconst F (pc := 0) (n := 0) (v := 0) (by decide +kernel) (by decide +kernel) ?_
  refine j_istore_n F (pc := 1) (q := 1) (L' := [some (.ref o), some (.int (0 : Int32))]) (by decide +kernel) (by decide) rfl rfl ?_
  refine u_X0_tellNothing_2 F Rt hb  z_N _ _ hρ h
/-- LastLent$LawText.append -/
def f_X1_append (x1 : Int32) (μ : z_M) : Option z_M :=
  (if (240 : Int32) ≤ (μ.1 2 1) then (some μ) else (if z_in (μ.1 2 1) 240 then (z_st (z_si μ 3 (μ.1 2 1).toNatClampNeg x1) fun μ1 => (z_st (z_si μ1 2 1 ((μ1.1 2 1) + (1 : Int32))) fun μ4 => (some μ4))) else none))
set_option maxHeartbeats 4000000 in
set_option maxRecDepth 100000 in
theorem t_X1_append {G : z_Gl} {ρ : Nat → Nat → Option Nat} {μ : z_M} {μr : z_M} {x1 : Int32} (hρ : μ.2.2 = ρ) (hk : z_ok (z_sh G) ρ) (h : f_X1_append x1 μ = some μr) : z_Cv G yX1_append cX1_append 2 none 0 [.ref 2, .int x1] μ (fun μ1 => μr = μ1) := by
  unfold z_Cv
  refine z_intro (by decide +kernel) (Nat.le_of_ble_eq_true rfl) (fun E hE F Rt => ?_)
  subst hE
  have F : z_F E RX1 cX1_append 2 0 := F
  rw [hρ] at Rt
  unfold f_X1_append at h
  show z_J E 2 0 [some (.ref 2), some (.int x1)] [] μ
  refine j_aload_n F (pc := 0) (q := 0) (by decide +kernel) rfl ?_
  refine j_getI F (pc := 1) fl_X1_22 (hk.s c_2) rfl (by decide +kernel) ?_
  refine j_sipush F (pc := 4) (n := 240) (v := 240) (by decide +kernel) (by decide +kernel) ?_
  refine j_icmp_ge F (pc := 7) (off := 23) (tgt := 30) (by decide +kernel) (by decide) (fun c => ?_) (fun c => ?_)
  · rw [if_pos c] at h
    exact j_vret (st := []) F Rt (by decide +kernel) ⟨hρ, rfl, (Option.some.inj h).symm⟩
  · rw [if_neg c] at h
    refine j_aload_n F (pc := 10) (q := 0) (by decide +kernel) rfl ?_
    refine j_getR F (pc := 11) (hk.r hρ r_2_0) fl_X1_9 (hk.s c_2) rfl (by decide +kernel) ?_
    refine j_aload_n F (pc := 14) (q := 0) (by decide +kernel) rfl ?_
    refine j_getI F (pc := 15) fl_X1_22 (hk.s c_2) rfl (by decide +kernel) ?_
    refine j_iload_n F (pc := 18) (q := 1) (by decide +kernel) rfl ?_
    obtain ⟨hg, h⟩ := z_ifs h
    refine j_iast F (pc := 19) (hk.s c_3) hg (by decide +kernel) ?_
    obtain ⟨μ1, e3, h⟩ := z_st_some h
    rw [← e3]
    have hρ2 : μ1.2.2 = ρ := by rw [e3]; exact hρ
    refine j_aload_n F (pc := 20) (q := 0) (by decide +kernel) rfl ?_
    refine j_dup F (pc := 21) (by decide +kernel) rfl ?_
    refine j_getI F (pc := 22) fl_X1_22 (hk.s c_2) rfl (by decide +kernel) ?_
    refine j_iconst F (pc := 25) (n := 1) (v := 1) (by decide +kernel) (by decide +kernel) ?_
    refine j_iadd F (pc := 26) (by decide +kernel) ?_
    refine j_putI F (pc := 27) fl_X1_22 fp_X1_1 (hk.s c_2) rfl (by decide +kernel) ?_
    obtain ⟨μ4, e6, h⟩ := z_st_some h
    rw [← e6]
    have hρ5 : μ4.2.2 = ρ := by rw [e6]; exact hρ2
    exact j_vret (st := []) F Rt (by decide +kernel) ⟨hρ5, rfl, (Option.some.inj h).symm⟩
def g_X4_feed_39   : Nat → Int64 → Int32 → z_M → Option (Int32 × z_M)
  | 0, _, _, _ => none
  | n + 1, x2, x4, μ => (if x4 < 0 then (some ((μ.1 2 1), μ)) else (z_b1 (f_X1_append ((((x2.toUInt64 >>> (((8 : Int32) * x4).toInt64.toUInt64 &&& Int64.toUInt64 63)).toInt64).toInt32 &&& (255 : Int32))) μ) fun μ4 => (g_X4_feed_39   n (x2) ((x4 + (-1 : Int32))) μ4)))
def f_X4_feed (x1 : Int32) (l2 : Int64) (μ : z_M) : Option (Int32 × z_M) :=
  (if x1 < (1 : Int32) then (some ((-1002 : Int32), μ)) else (if x1 ≤ (8 : Int32) then (if ((μ.1 2 1) + x1) ≤ (240 : Int32) then (z_lt (x1 - (1 : Int32)) fun x_1 => (g_X4_feed_39   z_N (l2) (x_1) μ)) else (some ((-1004 : Int32), μ))) else (some ((-1002 : Int32), μ))))
set_option maxHeartbeats 4000000 in
set_option maxRecDepth 100000 in
theorem u_X4_feed_39 {E : z_E} {ρ : Nat → Nat → Option Nat} {r : Int32} {μr : z_M} (F : z_F E RX4 cX4_feed 5 1) (Rt : z_R E (some .int) (fun v μ1 => μ1.2.2 = ρ ∧ ∃ r1, v = some (.int r1) ∧ r = r1 ∧ μr = μ1))  (hk : z_ok (z_sh E.1) ρ) : ∀ (n : Nat) (x2 : Int64) (x4 : Int32) (μ : z_M), μ.2.2 = ρ → g_X4_feed_39   n x2 x4 μ = some (r, μr) → z_J E 5 39 [some (.ref 0), none, some (.long x2), none, some (.int x4)] [] μ := by
  intro n
  induction n with
  | zero =>
    intro x2 x4 μ hρ h
    rw [g_X4_feed_39] at h
    cases h
  | succ n ih =>
    intro x2 x4 μ hρ h
    rw [g_X4_feed_39] at h
    refine j_iload F (pc := 39) (i := 4) (by decide +kernel) rfl ?_
    refine j_if_lt F (pc := 41) (off := 28) (tgt := 69) (by decide +kernel) (by decide) (fun c => ?_) (fun c => ?_)
    · rw [if_pos c] at h
      refine j_aload_n F (pc := 69) (q := 0) (by decide +kernel) rfl ?_
      refine j_getR F (pc := 70) (hk.r hρ r_0_1) fl_X4_18 (hk.s c_0) rfl (by decide +kernel) ?_
      refine j_getI F (pc := 73) fl_X4_59 (hk.s c_2) rfl (by decide +kernel) ?_
      exact j_iret (st := []) F Rt rfl (by decide +kernel) ⟨hρ, _, rfl, (congrArg Prod.fst (Option.some.inj h)).symm, (congrArg Prod.snd (Option.some.inj h)).symm⟩
    · rw [if_neg c] at h
      refine j_aload_n F (pc := 44) (q := 0) (by decide +kernel) rfl ?_
      refine j_getR F (pc := 45) (hk.r hρ r_0_1) fl_X4_18 (hk.s c_0) rfl (by decide +kernel) ?_
      refine j_lload_n F (pc := 48) (q := 2) (by decide +kernel) rfl ?_
      refine j_bipush F (pc := 49) (n := 8) (v := 8) (by decide +kernel) (by decide +kernel) ?_
      refine j_iload F (pc := 51) (i := 4) (by decide +kernel) rfl ?_
      refine j_imul F (pc := 53) (by decide +kernel) ?_
      refine j_lushr F (pc := 54) (by decide +kernel) ?_
      refine j_l2i F (pc := 55) (by decide +kernel) ?_
      refine j_sipush F (pc := 56) (n := 255) (v := 255) (by decide +kernel) (by decide +kernel) ?_
      refine j_iand F (pc := 59) (by decide +kernel) ?_
      obtain ⟨μ4, hc6, h⟩ := z_b1_some h
      refine j_callVv F (pc := 60) (idx := 63) (As := [.int (((x2.toUInt64 >>> (((8 : Int32) * x4).toInt64.toUInt64 &&& Int64.toUInt64 63)).toInt64).toInt32 &&& (255 : Int32))]) (st := []) (t_X1_append (G := E.1) hρ hk hc6) q_X1_append v_X1_append m_378 (hk.s c_2) rfl rfl (by decide) (Nat.le_of_ble_eq_true rfl) rfl (by decide +kernel) (fun ν7 hq8 hp => ?_)
      subst hp
      have hρ5 : μ4.2.2 = ρ := hq8.trans hρ
      refine j_iinc F (pc := 63) (i := 4) (n := -1) (v := -1) (L' := [some (.ref 0), none, some (.long x2), none, some (.int (x4 + (-1 : Int32)))]) (by decide +kernel) rfl (by decide +kernel) (by decide) rfl rfl ?_
      refine j_goto F (pc := 66) (off := -27) (tgt := 39) (by decide +kernel) (by decide) ?_
      exact ih _ _ _ hρ5 h
set_option maxHeartbeats 4000000 in
set_option maxRecDepth 100000 in
theorem t_X4_feed {G : z_Gl} {ρ : Nat → Nat → Option Nat} {μ : z_M} {r : Int32} {μr : z_M} {x1 : Int32} {l2 : Int64} (hρ : μ.2.2 = ρ) (hk : z_ok (z_sh G) ρ) (h : f_X4_feed x1 l2 μ = some (r, μr)) : z_Ci G yX4_feed cX4_feed 5 (some .int) 1 [.ref 0, .int x1, .long l2] μ (fun r1 μ1 => r = r1 ∧ μr = μ1) := by
  unfold z_Ci
  refine z_intro (by decide +kernel) (Nat.le_of_ble_eq_true rfl) (fun E hE F Rt => ?_)
  subst hE
  have F : z_F E RX4 cX4_feed 5 1 := F
  rw [hρ] at Rt
  unfold f_X4_feed at h
  show z_J E 5 0 [some (.ref 0), some (.int x1), some (.long l2), none, none] [] μ
  refine j_iload_n F (pc := 0) (q := 1) (by decide +kernel) rfl ?_
  refine j_iconst F (pc := 1) (n := 1) (v := 1) (by decide +kernel) (by decide +kernel) ?_
  refine j_icmp_lt F (pc := 2) (off := 9) (tgt := 11) (by decide +kernel) (by decide) (fun c => ?_) (fun c => ?_)
  · rw [if_pos c] at h
    refine j_sipush F (pc := 11) (n := -1002) (v := -1002) (by decide +kernel) (by decide +kernel) ?_
    exact j_iret (st := []) F Rt rfl (by decide +kernel) ⟨hρ, _, rfl, (congrArg Prod.fst (Option.some.inj h)).symm, (congrArg Prod.snd (Option.some.inj h)).symm⟩
  · rw [if_neg c] at h
    refine j_iload_n F (pc := 5) (q := 1) (by decide +kernel) rfl ?_
    refine j_bipush F (pc := 6) (n := 8) (v := 8) (by decide +kernel) (by decide +kernel) ?_
    refine j_icmp_le F (pc := 8) (off := 7) (tgt := 15) (by decide +kernel) (by decide) (fun c => ?_) (fun c => ?_)
    · rw [if_pos c] at h
      refine j_aload_n F (pc := 15) (q := 0) (by decide +kernel) rfl ?_
      refine j_getR F (pc := 16) (hk.r hρ r_0_1) fl_X4_18 (hk.s c_0) rfl (by decide +kernel) ?_
      refine j_getI F (pc := 19) fl_X4_59 (hk.s c_2) rfl (by decide +kernel) ?_
      refine j_iload_n F (pc := 22) (q := 1) (by decide +kernel) rfl ?_
      refine j_iadd F (pc := 23) (by decide +kernel) ?_
      refine j_sipush F (pc := 24) (n := 240) (v := 240) (by decide +kernel) (by decide +kernel) ?_
      refine j_icmp_le F (pc := 27) (off := 7) (tgt := 34) (by decide +kernel) (by decide) (fun c => ?_) (fun c => ?_)
      · rw [if_pos c] at h
        refine j_iload_n F (pc := 34) (q := 1) (by decide +kernel) rfl ?_
        refine j_iconst F (pc := 35) (n := 1) (v := 1) (by decide +kernel) (by decide +kernel) ?_
        refine j_isub F (pc := 36) (by decide +kernel) ?_
        obtain ⟨x_1, e2, h⟩ := z_lt_some h
        rw [← e2]
        refine j_istore F (pc := 37) (i := 4) (L' := [some (.ref 0), some (.int x1), some (.long l2), none, some (.int x_1)]) (by decide +kernel) (by decide) rfl rfl ?_
        refine j_mk F [true, false, true, false, true] (L' := [some (.ref 0), none, some (.long l2), none, some (.int x_1)]) rfl ?_
        refine u_X4_feed_39 F Rt hk  z_N _ _ _ hρ h
      · rw [if_neg c] at h
        refine j_sipush F (pc := 30) (n := -1004) (v := -1004) (by decide +kernel) (by decide +kernel) ?_
        exact j_iret (st := []) F Rt rfl (by decide +kernel) ⟨hρ, _, rfl, (congrArg Prod.fst (Option.some.inj h)).symm, (congrArg Prod.snd (Option.some.inj h)).symm⟩
    · rw [if_neg c] at h
      refine j_sipush F (pc := 11) (n := -1002) (v := -1002) (by decide +kernel) (by decide +kernel) ?_
      exact j_iret (st := []) F Rt rfl (by decide +kernel) ⟨hρ, _, rfl, (congrArg Prod.fst (Option.some.inj h)).symm, (congrArg Prod.snd (Option.some.inj h)).symm⟩
/-- LastLent.isLand -/
def f_X4_isLand (x0 : Int32) (μ : z_M) : Option (Int32 × z_M) :=
  (some ((if x0 < 0 then (0 : Int32) else (if (4 : Int32) ≤ x0 then (0 : Int32) else (1 : Int32))), μ))
set_option maxHeartbeats 4000000 in
set_option maxRecDepth 100000 in
theorem t_X4_isLand {G : z_Gl} {ρ : Nat → Nat → Option Nat} {μ : z_M} {r : Int32} {μr : z_M} {x0 : Int32} (hρ : μ.2.2 = ρ)  (h : f_X4_isLand x0 μ = some (r, μr)) : z_Ci G yX4_isLand cX4_isLand 1 (some .boolean) 0 [.int x0] μ (fun r1 μ1 => r = r1 ∧ μr = μ1) := by
  unfold z_Ci
  refine z_intro (by decide +kernel) (Nat.le_of_ble_eq_true rfl) (fun E hE F Rt => ?_)
  subst hE
  have F : z_F E RX4 cX4_isLand 1 0 := F
  rw [hρ] at Rt
  unfold f_X4_isLand at h
  show z_J E 1 0 [some (.int x0)] [] μ
  refine j_iload_n F (pc := 0) (q := 0) (by decide +kernel) rfl ?_
  suffices hj : z_J E 1 14 [some (.int x0)] (.int (if x0 < 0 then (0 : Int32) else (if (4 : Int32) ≤ x0 then (0 : Int32) else (1 : Int32))) :: []) μ by
    refine j_if_lt F (pc := 1) (off := 12) (tgt := 13) (by decide +kernel) (by decide) (fun c0 => ?_) (fun c0 => ?_)
    · rw [if_pos c0] at hj
      refine j_iconst F (pc := 13) (n := 0) (v := 0) (by decide +kernel) (by decide +kernel) ?_
      exact hj
    · rw [if_neg c0] at hj
      refine j_iload_n F (pc := 4) (q := 0) (by decide +kernel) rfl ?_
      refine j_iconst F (pc := 5) (n := 4) (v := 4) (by decide +kernel) (by decide +kernel) ?_
      refine j_icmp_ge F (pc := 6) (off := 7) (tgt := 13) (by decide +kernel) (by decide) (fun c1 => ?_) (fun c1 => ?_)
      · rw [if_pos c1] at hj
        refine j_iconst F (pc := 13) (n := 0) (v := 0) (by decide +kernel) (by decide +kernel) ?_
        exact hj
      · rw [if_neg c1] at hj
        refine j_iconst F (pc := 9) (n := 1) (v := 1) (by decide +kernel) (by decide +kernel) ?_
        refine j_goto F (pc := 10) (off := 4) (tgt := 14) (by decide +kernel) (by decide) ?_
        exact hj
  exact j_iret (st := []) F Rt (z_nb (by repeat' (first | exact Or.inl rfl | exact Or.inr rfl | split))) (by decide +kernel) ⟨hρ, _, rfl, (congrArg Prod.fst (Option.some.inj h)).symm, (congrArg Prod.snd (Option.some.inj h)).symm⟩
/-- LastLent$LawText.isLetter -/
def f_X1_isLetter (x0 : Int32) (μ : z_M) : Option (Int32 × z_M) :=
  (some ((if x0 < (97 : Int32) then (0 : Int32) else (if (122 : Int32) < x0 then (0 : Int32) else (1 : Int32))), μ))
set_option maxHeartbeats 4000000 in
set_option maxRecDepth 100000 in
theorem t_X1_isLetter {G : z_Gl} {ρ : Nat → Nat → Option Nat} {μ : z_M} {r : Int32} {μr : z_M} {x0 : Int32} (hρ : μ.2.2 = ρ)  (h : f_X1_isLetter x0 μ = some (r, μr)) : z_Ci G yX1_isLetter cX1_isLetter 1 (some .boolean) 0 [.int x0] μ (fun r1 μ1 => r = r1 ∧ μr = μ1) := by
  unfold z_Ci
  refine z_intro (by decide +kernel) (Nat.le_of_ble_eq_true rfl) (fun E hE F Rt => ?_)
  subst hE
  have F : z_F E RX1 cX1_isLetter 1 0 := F
  rw [hρ] at Rt
  unfold f_X1_isLetter at h
  show z_J E 1 0 [some (.int x0)] [] μ
  refine j_iload_n F (pc := 0) (q := 0) (by decide +kernel) rfl ?_
  refine j_bipush F (pc := 1) (n := 97) (v := 97) (by decide +kernel) (by decide +kernel) ?_
  suffices hj : z_J E 1 17 [some (.int x0)] (.int (if x0 < (97 : Int32) then (0 : Int32) else (if (122 : Int32) < x0 then (0 : Int32) else (1 : Int32))) :: []) μ by
    refine j_icmp_lt F (pc := 3) (off := 13) (tgt := 16) (by decide +kernel) (by decide) (fun c0 => ?_) (fun c0 => ?_)
    · rw [if_pos c0] at hj
      refine j_iconst F (pc := 16) (n := 0) (v := 0) (by decide +kernel) (by decide +kernel) ?_
      exact hj
    · rw [if_neg c0] at hj
      refine j_iload_n F (pc := 6) (q := 0) (by decide +kernel) rfl ?_
      refine j_bipush F (pc := 7) (n := 122) (v := 122) (by decide +kernel) (by decide +kernel) ?_
      refine j_icmp_gt F (pc := 9) (off := 7) (tgt := 16) (by decide +kernel) (by decide) (fun c1 => ?_) (fun c1 => ?_)
      · rw [if_pos c1] at hj
        refine j_iconst F (pc := 16) (n := 0) (v := 0) (by decide +kernel) (by decide +kernel) ?_
        exact hj
      · rw [if_neg c1] at hj
        refine j_iconst F (pc := 12) (n := 1) (v := 1) (by decide +kernel) (by decide +kernel) ?_
        refine j_goto F (pc := 13) (off := 4) (tgt := 17) (by decide +kernel) (by decide) ?_
        exact hj
  exact j_iret (st := []) F Rt (z_nb (by repeat' (first | exact Or.inl rfl | exact Or.inr rfl | split))) (by decide +kernel) ⟨hρ, _, rfl, (congrArg Prod.fst (Option.some.inj h)).symm, (congrArg Prod.snd (Option.some.inj h)).symm⟩
/-- LastLent$LawText.isFigure -/
def f_X1_isFigure (x0 : Int32) (μ : z_M) : Option (Int32 × z_M) :=
  (some ((if x0 < (48 : Int32) then (0 : Int32) else (if (57 : Int32) < x0 then (0 : Int32) else (1 : Int32))), μ))
set_option maxHeartbeats 4000000 in
set_option maxRecDepth 100000 in
theorem t_X1_isFigure {G : z_Gl} {ρ : Nat → Nat → Option Nat} {μ : z_M} {r : Int32} {μr : z_M} {x0 : Int32} (hρ : μ.2.2 = ρ)  (h : f_X1_isFigure x0 μ = some (r, μr)) : z_Ci G yX1_isFigure cX1_isFigure 1 (some .boolean) 0 [.int x0] μ (fun r1 μ1 => r = r1 ∧ μr = μ1) := by
  unfold z_Ci
  refine z_intro (by decide +kernel) (Nat.le_of_ble_eq_true rfl) (fun E hE F Rt => ?_)
  subst hE
  have F : z_F E RX1 cX1_isFigure 1 0 := F
  rw [hρ] at Rt
  unfold f_X1_isFigure at h
  show z_J E 1 0 [some (.int x0)] [] μ
  refine j_iload_n F (pc := 0) (q := 0) (by decide +kernel) rfl ?_
  refine j_bipush F (pc := 1) (n := 48) (v := 48) (by decide +kernel) (by decide +kernel) ?_
  suffices hj : z_J E 1 17 [some (.int x0)] (.int (if x0 < (48 : Int32) then (0 : Int32) else (if (57 : Int32) < x0 then (0 : Int32) else (1 : Int32))) :: []) μ by
    refine j_icmp_lt F (pc := 3) (off := 13) (tgt := 16) (by decide +kernel) (by decide) (fun c0 => ?_) (fun c0 => ?_)
    · rw [if_pos c0] at hj
      refine j_iconst F (pc := 16) (n := 0) (v := 0) (by decide +kernel) (by decide +kernel) ?_
      exact hj
    · rw [if_neg c0] at hj
      refine j_iload_n F (pc := 6) (q := 0) (by decide +kernel) rfl ?_
      refine j_bipush F (pc := 7) (n := 57) (v := 57) (by decide +kernel) (by decide +kernel) ?_
      refine j_icmp_gt F (pc := 9) (off := 7) (tgt := 16) (by decide +kernel) (by decide) (fun c1 => ?_) (fun c1 => ?_)
      · rw [if_pos c1] at hj
        refine j_iconst F (pc := 16) (n := 0) (v := 0) (by decide +kernel) (by decide +kernel) ?_
        exact hj
      · rw [if_neg c1] at hj
        refine j_iconst F (pc := 12) (n := 1) (v := 1) (by decide +kernel) (by decide +kernel) ?_
        refine j_goto F (pc := 13) (off := 4) (tgt := 17) (by decide +kernel) (by decide) ?_
        exact hj
  exact j_iret (st := []) F Rt (z_nb (by repeat' (first | exact Or.inl rfl | exact Or.inr rfl | split))) (by decide +kernel) ⟨hρ, _, rfl, (congrArg Prod.fst (Option.some.inj h)).symm, (congrArg Prod.snd (Option.some.inj h)).symm⟩
def g_X1_nextToken_144   : Nat → z_M → Option z_M
  | 0, _ => none
  | n + 1, μ => (if (μ.1 2 1) ≤ (μ.1 2 6) then (some μ) else (if z_in (μ.1 2 6) 240 then (z_b2 (f_X1_isFigure ((μ.1 3 (μ.1 2 6).toNatClampNeg)) μ) fun r27 μ28 => (if r27 = 0 then (some μ28) else (z_st (z_si μ28 2 6 ((μ28.1 2 6) + (1 : Int32))) fun μ34 => (g_X1_nextToken_144   n  μ34)))) else none))
def g_X1_nextToken_85   : Nat → z_M → Option z_M
  | 0, _ => none
  | n + 1, μ => (if (μ.1 2 1) ≤ (μ.1 2 6) then (some μ) else (if z_in (μ.1 2 6) 240 then (z_b2 (f_X1_isLetter ((μ.1 3 (μ.1 2 6).toNatClampNeg)) μ) fun r40 μ41 => (if r40 = 0 then (some μ41) else (z_st (z_si μ41 2 6 ((μ41.1 2 6) + (1 : Int32))) fun μ47 => (g_X1_nextToken_85   n  μ47)))) else none))
def g_X1_nextToken_38    (μ : z_M) : Option z_M :=
  (z_st (z_si μ 2 5 (μ.1 2 6)) fun μ1 => (if (μ1.1 2 6) < (μ1.1 2 1) then (if z_in (μ1.1 2 6) 240 then (z_b2 (f_X1_isLetter ((μ1.1 3 (μ1.1 2 6).toNatClampNeg)) μ1) fun r4 μ5 => (if r4 = 0 then (if z_in (μ5.1 2 6) 240 then (z_b2 (f_X1_isFigure ((μ5.1 3 (μ5.1 2 6).toNatClampNeg)) μ5) fun r11 μ12 => (if r11 = 0 then (z_st (z_si μ12 2 4 (3 : Int32)) fun μ18 => (z_st (z_si μ18 2 6 ((μ18.1 2 6) + (1 : Int32))) fun μ21 => (some μ21))) else (z_st (z_si μ12 2 4 (2 : Int32)) fun μ24 => (g_X1_nextToken_144   z_N  μ24)))) else none) else (z_st (z_si μ5 2 4 (1 : Int32)) fun μ37 => (g_X1_nextToken_85   z_N  μ37)))) else none) else (z_st (z_si μ1 2 4 (0 : Int32)) fun μ50 => (some μ50))))
def g_X1_nextToken_0   : Nat → z_M → Option z_M
  | 0, _ => none
  | n + 1, μ => (if (μ.1 2 1) ≤ (μ.1 2 6) then (g_X1_nextToken_38    μ) else (if z_in (μ.1 2 6) 240 then (if (μ.1 3 (μ.1 2 6).toNatClampNeg) = (32 : Int32) then (z_st (z_si μ 2 6 ((μ.1 2 6) + (1 : Int32))) fun μ53 => (g_X1_nextToken_0   n  μ53)) else (g_X1_nextToken_38    μ)) else none))
def f_X1_nextToken  (μ : z_M) : Option z_M :=
  (g_X1_nextToken_0   z_N  μ)
set_option maxHeartbeats 4000000 in
set_option maxRecDepth 100000 in
theorem u_X1_nextToken_144 {E : z_E} {ρ : Nat → Nat → Option Nat} {μr : z_M} (F : z_F E RX1 cX1_nextToken 1 1) (Rt : z_R E none (fun v μ1 => μ1.2.2 = ρ ∧ v = none ∧ μr = μ1))  (hk : z_ok (z_sh E.1) ρ) : ∀ (n : Nat)  (μ : z_M), μ.2.2 = ρ → g_X1_nextToken_144   n  μ = some μr → z_J E 1 144 [some (.ref 2)] [] μ := by
  intro n
  induction n with
  | zero =>
    intro  μ hρ h
    rw [g_X1_nextToken_144] at h
    cases h
  | succ n ih =>
    intro  μ hρ h
    rw [g_X1_nextToken_144] at h
    refine j_aload_n F (pc := 144) (q := 0) (by decide +kernel) rfl ?_
    refine j_getI F (pc := 145) fl_X1_30 (hk.s c_2) rfl (by decide +kernel) ?_
    refine j_aload_n F (pc := 148) (q := 0) (by decide +kernel) rfl ?_
    refine j_getI F (pc := 149) fl_X1_22 (hk.s c_2) rfl (by decide +kernel) ?_
    refine j_icmp_ge F (pc := 152) (off := 46) (tgt := 198) (by decide +kernel) (by decide) (fun c => ?_) (fun c => ?_)
    · rw [if_pos c] at h
      exact j_vret (st := []) F Rt (by decide +kernel) ⟨hρ, rfl, (Option.some.inj h).symm⟩
    · rw [if_neg c] at h
      refine j_aload_n F (pc := 155) (q := 0) (by decide +kernel) rfl ?_
      refine j_getR F (pc := 156) (hk.r hρ r_2_0) fl_X1_9 (hk.s c_2) rfl (by decide +kernel) ?_
      refine j_aload_n F (pc := 159) (q := 0) (by decide +kernel) rfl ?_
      refine j_getI F (pc := 160) fl_X1_30 (hk.s c_2) rfl (by decide +kernel) ?_
      obtain ⟨hg, h⟩ := z_ifs h
      refine j_iald F (pc := 163) (hk.s c_3) hg (by decide +kernel) ?_
      obtain ⟨r27, μ28, hc30, h⟩ := z_b2_some h
      refine j_callSi F (pc := 164) (idx := 162) (As := [.int (μ.1 3 (μ.1 2 6).toNatClampNeg)]) (st := []) (t_X1_isFigure (G := E.1) hρ  hc30) q_X1_isFigure m_402 m_401 rfl (by decide) (Nat.le_of_ble_eq_true rfl) rfl (by decide +kernel) (fun s33 ν31 hq32 hp => ?_)
      obtain ⟨rfl, rfl⟩ := hp
      have hρ29 : μ28.2.2 = ρ := hq32.trans hρ
      refine j_if_eq F (pc := 167) (off := 31) (tgt := 198) (by decide +kernel) (by decide) (fun c => ?_) (fun c => ?_)
      · rw [if_pos c] at h
        exact j_vret (st := []) F Rt (by decide +kernel) ⟨hρ29, rfl, (Option.some.inj h).symm⟩
      · rw [if_neg c] at h
        refine j_aload_n F (pc := 170) (q := 0) (by decide +kernel) rfl ?_
        refine j_dup F (pc := 171) (by decide +kernel) rfl ?_
        refine j_getI F (pc := 172) fl_X1_30 (hk.s c_2) rfl (by decide +kernel) ?_
        refine j_iconst F (pc := 175) (n := 1) (v := 1) (by decide +kernel) (by decide +kernel) ?_
        refine j_iadd F (pc := 176) (by decide +kernel) ?_
        refine j_putI F (pc := 177) fl_X1_30 fp_X1_6 (hk.s c_2) rfl (by decide +kernel) ?_
        obtain ⟨μ34, e36, h⟩ := z_st_some h
        rw [← e36]
        have hρ35 : μ34.2.2 = ρ := by rw [e36]; exact hρ29
        refine j_goto F (pc := 180) (off := -36) (tgt := 144) (by decide +kernel) (by decide) ?_
        exact ih  _ hρ35 h
set_option maxHeartbeats 4000000 in
set_option maxRecDepth 100000 in
theorem u_X1_nextToken_85 {E : z_E} {ρ : Nat → Nat → Option Nat} {μr : z_M} (F : z_F E RX1 cX1_nextToken 1 1) (Rt : z_R E none (fun v μ1 => μ1.2.2 = ρ ∧ v = none ∧ μr = μ1))  (hk : z_ok (z_sh E.1) ρ) : ∀ (n : Nat)  (μ : z_M), μ.2.2 = ρ → g_X1_nextToken_85   n  μ = some μr → z_J E 1 85 [some (.ref 2)] [] μ := by
  intro n
  induction n with
  | zero =>
    intro  μ hρ h
    rw [g_X1_nextToken_85] at h
    cases h
  | succ n ih =>
    intro  μ hρ h
    rw [g_X1_nextToken_85] at h
    refine j_aload_n F (pc := 85) (q := 0) (by decide +kernel) rfl ?_
    refine j_getI F (pc := 86) fl_X1_30 (hk.s c_2) rfl (by decide +kernel) ?_
    refine j_aload_n F (pc := 89) (q := 0) (by decide +kernel) rfl ?_
    refine j_getI F (pc := 90) fl_X1_22 (hk.s c_2) rfl (by decide +kernel) ?_
    refine j_icmp_ge F (pc := 93) (off := 105) (tgt := 198) (by decide +kernel) (by decide) (fun c => ?_) (fun c => ?_)
    · rw [if_pos c] at h
      exact j_vret (st := []) F Rt (by decide +kernel) ⟨hρ, rfl, (Option.some.inj h).symm⟩
    · rw [if_neg c] at h
      refine j_aload_n F (pc := 96) (q := 0) (by decide +kernel) rfl ?_
      refine j_getR F (pc := 97) (hk.r hρ r_2_0) fl_X1_9 (hk.s c_2) rfl (by decide +kernel) ?_
      refine j_aload_n F (pc := 100) (q := 0) (by decide +kernel) rfl ?_
      refine j_getI F (pc := 101) fl_X1_30 (hk.s c_2) rfl (by decide +kernel) ?_
      obtain ⟨hg, h⟩ := z_ifs h
      refine j_iald F (pc := 104) (hk.s c_3) hg (by decide +kernel) ?_
      obtain ⟨r40, μ41, hc43, h⟩ := z_b2_some h
      refine j_callSi F (pc := 105) (idx := 159) (As := [.int (μ.1 3 (μ.1 2 6).toNatClampNeg)]) (st := []) (t_X1_isLetter (G := E.1) hρ  hc43) q_X1_isLetter m_399 m_398 rfl (by decide) (Nat.le_of_ble_eq_true rfl) rfl (by decide +kernel) (fun s46 ν44 hq45 hp => ?_)
      obtain ⟨rfl, rfl⟩ := hp
      have hρ42 : μ41.2.2 = ρ := hq45.trans hρ
      refine j_if_eq F (pc := 108) (off := 90) (tgt := 198) (by decide +kernel) (by decide) (fun c => ?_) (fun c => ?_)
      · rw [if_pos c] at h
        exact j_vret (st := []) F Rt (by decide +kernel) ⟨hρ42, rfl, (Option.some.inj h).symm⟩
      · rw [if_neg c] at h
        refine j_aload_n F (pc := 111) (q := 0) (by decide +kernel) rfl ?_
        refine j_dup F (pc := 112) (by decide +kernel) rfl ?_
        refine j_getI F (pc := 113) fl_X1_30 (hk.s c_2) rfl (by decide +kernel) ?_
        refine j_iconst F (pc := 116) (n := 1) (v := 1) (by decide +kernel) (by decide +kernel) ?_
        refine j_iadd F (pc := 117) (by decide +kernel) ?_
        refine j_putI F (pc := 118) fl_X1_30 fp_X1_6 (hk.s c_2) rfl (by decide +kernel) ?_
        obtain ⟨μ47, e49, h⟩ := z_st_some h
        rw [← e49]
        have hρ48 : μ47.2.2 = ρ := by rw [e49]; exact hρ42
        refine j_goto F (pc := 121) (off := -36) (tgt := 85) (by decide +kernel) (by decide) ?_
        exact ih  _ hρ48 h
set_option maxHeartbeats 4000000 in
set_option maxRecDepth 100000 in
theorem u_X1_nextToken_38 {E : z_E} {ρ : Nat → Nat → Option Nat} {μr : z_M} (F : z_F E RX1 cX1_nextToken 1 1) (Rt : z_R E none (fun v μ1 => μ1.2.2 = ρ ∧ v = none ∧ μr = μ1))  (hk : z_ok (z_sh E.1) ρ) : ∀  (μ : z_M), μ.2.2 = ρ → g_X1_nextToken_38    μ = some μr → z_J E 1 38 [some (.ref 2)] [] μ := by
  intro  μ hρ h
  unfold g_X1_nextToken_38 at h
  refine j_aload_n F (pc := 38) (q := 0) (by decide +kernel) rfl ?_
  refine j_aload_n F (pc := 39) (q := 0) (by decide +kernel) rfl ?_
  refine j_getI F (pc := 40) fl_X1_30 (hk.s c_2) rfl (by decide +kernel) ?_
  refine j_putI F (pc := 43) fl_X1_154 fp_X1_5 (hk.s c_2) rfl (by decide +kernel) ?_
  obtain ⟨μ1, e3, h⟩ := z_st_some h
  rw [← e3]
  have hρ2 : μ1.2.2 = ρ := by rw [e3]; exact hρ
  refine j_aload_n F (pc := 46) (q := 0) (by decide +kernel) rfl ?_
  refine j_getI F (pc := 47) fl_X1_30 (hk.s c_2) rfl (by decide +kernel) ?_
  refine j_aload_n F (pc := 50) (q := 0) (by decide +kernel) rfl ?_
  refine j_getI F (pc := 51) fl_X1_22 (hk.s c_2) rfl (by decide +kernel) ?_
  refine j_icmp_lt F (pc := 54) (off := 11) (tgt := 65) (by decide +kernel) (by decide) (fun c => ?_) (fun c => ?_)
  · rw [if_pos c] at h
    refine j_aload_n F (pc := 65) (q := 0) (by decide +kernel) rfl ?_
    refine j_getR F (pc := 66) (hk.r hρ2 r_2_0) fl_X1_9 (hk.s c_2) rfl (by decide +kernel) ?_
    refine j_aload_n F (pc := 69) (q := 0) (by decide +kernel) rfl ?_
    refine j_getI F (pc := 70) fl_X1_30 (hk.s c_2) rfl (by decide +kernel) ?_
    obtain ⟨hg, h⟩ := z_ifs h
    refine j_iald F (pc := 73) (hk.s c_3) hg (by decide +kernel) ?_
    obtain ⟨r4, μ5, hc7, h⟩ := z_b2_some h
    refine j_callSi F (pc := 74) (idx := 159) (As := [.int (μ1.1 3 (μ1.1 2 6).toNatClampNeg)]) (st := []) (t_X1_isLetter (G := E.1) hρ2  hc7) q_X1_isLetter m_399 m_398 rfl (by decide) (Nat.le_of_ble_eq_true rfl) rfl (by decide +kernel) (fun s10 ν8 hq9 hp => ?_)
    obtain ⟨rfl, rfl⟩ := hp
    have hρ6 : μ5.2.2 = ρ := hq9.trans hρ2
    refine j_if_eq F (pc := 77) (off := 47) (tgt := 124) (by decide +kernel) (by decide) (fun c => ?_) (fun c => ?_)
    · rw [if_pos c] at h
      refine j_aload_n F (pc := 124) (q := 0) (by decide +kernel) rfl ?_
      refine j_getR F (pc := 125) (hk.r hρ6 r_2_0) fl_X1_9 (hk.s c_2) rfl (by decide +kernel) ?_
      refine j_aload_n F (pc := 128) (q := 0) (by decide +kernel) rfl ?_
      refine j_getI F (pc := 129) fl_X1_30 (hk.s c_2) rfl (by decide +kernel) ?_
      obtain ⟨hg, h⟩ := z_ifs h
      refine j_iald F (pc := 132) (hk.s c_3) hg (by decide +kernel) ?_
      obtain ⟨r11, μ12, hc14, h⟩ := z_b2_some h
      refine j_callSi F (pc := 133) (idx := 162) (As := [.int (μ5.1 3 (μ5.1 2 6).toNatClampNeg)]) (st := []) (t_X1_isFigure (G := E.1) hρ6  hc14) q_X1_isFigure m_402 m_401 rfl (by decide) (Nat.le_of_ble_eq_true rfl) rfl (by decide +kernel) (fun s17 ν15 hq16 hp => ?_)
      obtain ⟨rfl, rfl⟩ := hp
      have hρ13 : μ12.2.2 = ρ := hq16.trans hρ6
      refine j_if_eq F (pc := 136) (off := 47) (tgt := 183) (by decide +kernel) (by decide) (fun c => ?_) (fun c => ?_)
      · rw [if_pos c] at h
        refine j_aload_n F (pc := 183) (q := 0) (by decide +kernel) rfl ?_
        refine j_iconst F (pc := 184) (n := 3) (v := 3) (by decide +kernel) (by decide +kernel) ?_
        refine j_putI F (pc := 185) fl_X1_42 fp_X1_4 (hk.s c_2) rfl (by decide +kernel) ?_
        obtain ⟨μ18, e20, h⟩ := z_st_some h
        rw [← e20]
        have hρ19 : μ18.2.2 = ρ := by rw [e20]; exact hρ13
        refine j_aload_n F (pc := 188) (q := 0) (by decide +kernel) rfl ?_
        refine j_dup F (pc := 189) (by decide +kernel) rfl ?_
        refine j_getI F (pc := 190) fl_X1_30 (hk.s c_2) rfl (by decide +kernel) ?_
        refine j_iconst F (pc := 193) (n := 1) (v := 1) (by decide +kernel) (by decide +kernel) ?_
        refine j_iadd F (pc := 194) (by decide +kernel) ?_
        refine j_putI F (pc := 195) fl_X1_30 fp_X1_6 (hk.s c_2) rfl (by decide +kernel) ?_
        obtain ⟨μ21, e23, h⟩ := z_st_some h
        rw [← e23]
        have hρ22 : μ21.2.2 = ρ := by rw [e23]; exact hρ19
        exact j_vret (st := []) F Rt (by decide +kernel) ⟨hρ22, rfl, (Option.some.inj h).symm⟩
      · rw [if_neg c] at h
        refine j_aload_n F (pc := 139) (q := 0) (by decide +kernel) rfl ?_
        refine j_iconst F (pc := 140) (n := 2) (v := 2) (by decide +kernel) (by decide +kernel) ?_
        refine j_putI F (pc := 141) fl_X1_42 fp_X1_4 (hk.s c_2) rfl (by decide +kernel) ?_
        obtain ⟨μ24, e26, h⟩ := z_st_some h
        rw [← e26]
        have hρ25 : μ24.2.2 = ρ := by rw [e26]; exact hρ13
        refine u_X1_nextToken_144 F Rt hk  z_N  _ hρ25 h
    · rw [if_neg c] at h
      refine j_aload_n F (pc := 80) (q := 0) (by decide +kernel) rfl ?_
      refine j_iconst F (pc := 81) (n := 1) (v := 1) (by decide +kernel) (by decide +kernel) ?_
      refine j_putI F (pc := 82) fl_X1_42 fp_X1_4 (hk.s c_2) rfl (by decide +kernel) ?_
      obtain ⟨μ37, e39, h⟩ := z_st_some h
      rw [← e39]
      have hρ38 : μ37.2.2 = ρ := by rw [e39]; exact hρ6
      refine u_X1_nextToken_85 F Rt hk  z_N  _ hρ38 h
  · rw [if_neg c] at h
    refine j_aload_n F (pc := 57) (q := 0) (by decide +kernel) rfl ?_
    refine j_iconst F (pc := 58) (n := 0) (v := 0) (by decide +kernel) (by decide +kernel) ?_
    refine j_putI F (pc := 59) fl_X1_42 fp_X1_4 (hk.s c_2) rfl (by decide +kernel) ?_
    obtain ⟨μ50, e52, h⟩ := z_st_some h
    rw [← e52]
    have hρ51 : μ50.2.2 = ρ := by rw [e52]; exact hρ2
    refine j_goto F (pc := 62) (off := 136) (tgt := 198) (by decide +kernel) (by decide) ?_
    exact j_vret (st := []) F Rt (by decide +kernel) ⟨hρ51, rfl, (Option.some.inj h).symm⟩
set_option maxHeartbeats 4000000 in
set_option maxRecDepth 100000 in
theorem u_X1_nextToken_0 {E : z_E} {ρ : Nat → Nat → Option Nat} {μr : z_M} (F : z_F E RX1 cX1_nextToken 1 1) (Rt : z_R E none (fun v μ1 => μ1.2.2 = ρ ∧ v = none ∧ μr = μ1))  (hk : z_ok (z_sh E.1) ρ) : ∀ (n : Nat)  (μ : z_M), μ.2.2 = ρ → g_X1_nextToken_0   n  μ = some μr → z_J E 1 0 [some (.ref 2)] [] μ := by
  intro n
  induction n with
  | zero =>
    intro  μ hρ h
    rw [g_X1_nextToken_0] at h
    cases h
  | succ n ih =>
    intro  μ hρ h
    rw [g_X1_nextToken_0] at h
    refine j_aload_n F (pc := 0) (q := 0) (by decide +kernel) rfl ?_
    refine j_getI F (pc := 1) fl_X1_30 (hk.s c_2) rfl (by decide +kernel) ?_
    refine j_aload_n F (pc := 4) (q := 0) (by decide +kernel) rfl ?_
    refine j_getI F (pc := 5) fl_X1_22 (hk.s c_2) rfl (by decide +kernel) ?_
    refine j_icmp_ge F (pc := 8) (off := 30) (tgt := 38) (by decide +kernel) (by decide) (fun c => ?_) (fun c => ?_)
    · rw [if_pos c] at h
      refine u_X1_nextToken_38 F Rt hk   _ hρ h
    · rw [if_neg c] at h
      refine j_aload_n F (pc := 11) (q := 0) (by decide +kernel) rfl ?_
      refine j_getR F (pc := 12) (hk.r hρ r_2_0) fl_X1_9 (hk.s c_2) rfl (by decide +kernel) ?_
      refine j_aload_n F (pc := 15) (q := 0) (by decide +kernel) rfl ?_
      refine j_getI F (pc := 16) fl_X1_30 (hk.s c_2) rfl (by decide +kernel) ?_
      obtain ⟨hg, h⟩ := z_ifs h
      refine j_iald F (pc := 19) (hk.s c_3) hg (by decide +kernel) ?_
      refine j_bipush F (pc := 20) (n := 32) (v := 32) (by decide +kernel) (by decide +kernel) ?_
      refine j_icmp_ne F (pc := 22) (off := 16) (tgt := 38) (by decide +kernel) (by decide) (fun c => ?_) (fun c => ?_)
      · rw [if_neg c] at h
        refine u_X1_nextToken_38 F Rt hk   _ hρ h
      · rw [if_pos c] at h
        refine j_aload_n F (pc := 25) (q := 0) (by decide +kernel) rfl ?_
        refine j_dup F (pc := 26) (by decide +kernel) rfl ?_
        refine j_getI F (pc := 27) fl_X1_30 (hk.s c_2) rfl (by decide +kernel) ?_
        refine j_iconst F (pc := 30) (n := 1) (v := 1) (by decide +kernel) (by decide +kernel) ?_
        refine j_iadd F (pc := 31) (by decide +kernel) ?_
        refine j_putI F (pc := 32) fl_X1_30 fp_X1_6 (hk.s c_2) rfl (by decide +kernel) ?_
        obtain ⟨μ53, e55, h⟩ := z_st_some h
        rw [← e55]
        have hρ54 : μ53.2.2 = ρ := by rw [e55]; exact hρ
        refine j_goto F (pc := 35) (off := -35) (tgt := 0) (by decide +kernel) (by decide) ?_
        exact ih  _ hρ54 h
set_option maxHeartbeats 4000000 in
set_option maxRecDepth 100000 in
theorem t_X1_nextToken {G : z_Gl} {ρ : Nat → Nat → Option Nat} {μ : z_M} {μr : z_M}  (hρ : μ.2.2 = ρ) (hk : z_ok (z_sh G) ρ) (h : f_X1_nextToken  μ = some μr) : z_Cv G yX1_nextToken cX1_nextToken 1 none 1 [.ref 2] μ (fun μ1 => μr = μ1) := by
  unfold z_Cv
  refine z_intro (by decide +kernel) (Nat.le_of_ble_eq_true rfl) (fun E hE F Rt => ?_)
  subst hE
  have F : z_F E RX1 cX1_nextToken 1 1 := F
  rw [hρ] at Rt
  unfold f_X1_nextToken at h
  show z_J E 1 0 [some (.ref 2)] [] μ
  refine u_X1_nextToken_0 F Rt hk  z_N  _ hρ h
def g_X1_isWordAt_13 (t1 : Nat)  : Nat → Int32 → Int32 → Int32 → z_M → Option (Int32 × z_M)
  | 0, _, _, _, _ => none
  | n + 1, x2, x3, x4, μ => (if x3 ≤ x4 then (if z_in (x2 + x3) (z_len.getD t1 0) then (some ((if (z_ch t1 (x2 + x3).toNatClampNeg) = (32 : Int32) then (1 : Int32) else (0 : Int32)), μ)) else none) else (if z_in (x2 + x4) (z_len.getD t1 0) then (if z_in ((μ.1 2 5) + x4) 240 then (if (z_ch t1 (x2 + x4).toNatClampNeg) = (μ.1 3 ((μ.1 2 5) + x4).toNatClampNeg) then (g_X1_isWordAt_13 t1  n (x2) (x3) ((x4 + (1 : Int32))) μ) else (some ((0 : Int32), μ))) else none) else none))
def f_X1_isWordAt (t1 : Nat) (x2 : Int32) (μ : z_M) : Option (Int32 × z_M) :=
  (z_lt ((μ.1 2 6) - (μ.1 2 5)) fun x_1 => (g_X1_isWordAt_13 t1  z_N (x2) (x_1) ((0 : Int32)) μ))
set_option maxHeartbeats 4000000 in
set_option maxRecDepth 100000 in
theorem u_X1_isWordAt_13 {E : z_E} {ρ : Nat → Nat → Option Nat} {r : Int32} {μr : z_M} (F : z_F E RX1 cX1_isWordAt 5 5) (Rt : z_R E (some .boolean) (fun v μ1 => μ1.2.2 = ρ ∧ ∃ r1, v = some (.int r1) ∧ r = r1 ∧ μr = μ1)) {t1 : Nat} (hk : z_ok (z_sh E.1) ρ) (ht1 : t1 < 4) : ∀ (n : Nat) (x2 : Int32) (x3 : Int32) (x4 : Int32) (μ : z_M), μ.2.2 = ρ → g_X1_isWordAt_13 t1  n x2 x3 x4 μ = some (r, μr) → z_J E 5 13 [some (.ref 2), some (.ref (1000 + t1)), some (.int x2), some (.int x3), some (.int x4)] [] μ := by
  intro n
  induction n with
  | zero =>
    intro x2 x3 x4 μ hρ h
    rw [g_X1_isWordAt_13] at h
    cases h
  | succ n ih =>
    intro x2 x3 x4 μ hρ h
    rw [g_X1_isWordAt_13] at h
    refine j_iload F (pc := 13) (i := 4) (by decide +kernel) rfl ?_
    refine j_iload_n F (pc := 15) (q := 3) (by decide +kernel) rfl ?_
    refine j_icmp_ge F (pc := 16) (off := 34) (tgt := 50) (by decide +kernel) (by decide) (fun c => ?_) (fun c => ?_)
    · rw [if_pos c] at h
      refine j_aload_n F (pc := 50) (q := 1) (by decide +kernel) rfl ?_
      refine j_iload_n F (pc := 51) (q := 2) (by decide +kernel) rfl ?_
      refine j_iload_n F (pc := 52) (q := 3) (by decide +kernel) rfl ?_
      refine j_iadd F (pc := 53) (by decide +kernel) ?_
      obtain ⟨hg, h⟩ := z_ifs h
      refine j_schar F (pc := 54) (idx := 175) ht1 (mlk := m_427) hg (by decide) (Nat.le_of_ble_eq_true rfl) (by decide +kernel) ?_
      refine j_bipush F (pc := 57) (n := 32) (v := 32) (by decide +kernel) (by decide +kernel) ?_
      suffices hj : z_J E 5 67 [some (.ref 2), some (.ref (1000 + t1)), some (.int x2), some (.int x3), some (.int x4)] (.int (if (z_ch t1 (x2 + x3).toNatClampNeg) = (32 : Int32) then (1 : Int32) else (0 : Int32)) :: []) μ by
        refine j_icmp_ne F (pc := 59) (off := 7) (tgt := 66) (by decide +kernel) (by decide) (fun c0 => ?_) (fun c0 => ?_)
        · rw [if_neg c0] at hj
          refine j_iconst F (pc := 66) (n := 0) (v := 0) (by decide +kernel) (by decide +kernel) ?_
          exact hj
        · rw [if_pos c0] at hj
          refine j_iconst F (pc := 62) (n := 1) (v := 1) (by decide +kernel) (by decide +kernel) ?_
          refine j_goto F (pc := 63) (off := 4) (tgt := 67) (by decide +kernel) (by decide) ?_
          exact hj
      exact j_iret (st := []) F Rt (z_nb (by repeat' (first | exact Or.inl rfl | exact Or.inr rfl | split))) (by decide +kernel) ⟨hρ, _, rfl, (congrArg Prod.fst (Option.some.inj h)).symm, (congrArg Prod.snd (Option.some.inj h)).symm⟩
    · rw [if_neg c] at h
      refine j_aload_n F (pc := 19) (q := 1) (by decide +kernel) rfl ?_
      refine j_iload_n F (pc := 20) (q := 2) (by decide +kernel) rfl ?_
      refine j_iload F (pc := 21) (i := 4) (by decide +kernel) rfl ?_
      refine j_iadd F (pc := 23) (by decide +kernel) ?_
      obtain ⟨hg, h⟩ := z_ifs h
      refine j_schar F (pc := 24) (idx := 175) ht1 (mlk := m_427) hg (by decide) (Nat.le_of_ble_eq_true rfl) (by decide +kernel) ?_
      refine j_aload_n F (pc := 27) (q := 0) (by decide +kernel) rfl ?_
      refine j_getR F (pc := 28) (hk.r hρ r_2_0) fl_X1_9 (hk.s c_2) rfl (by decide +kernel) ?_
      refine j_aload_n F (pc := 31) (q := 0) (by decide +kernel) rfl ?_
      refine j_getI F (pc := 32) fl_X1_154 (hk.s c_2) rfl (by decide +kernel) ?_
      refine j_iload F (pc := 35) (i := 4) (by decide +kernel) rfl ?_
      refine j_iadd F (pc := 37) (by decide +kernel) ?_
      obtain ⟨hg, h⟩ := z_ifs h
      refine j_iald F (pc := 38) (hk.s c_3) hg (by decide +kernel) ?_
      refine j_icmp_eq F (pc := 39) (off := 5) (tgt := 44) (by decide +kernel) (by decide) (fun c => ?_) (fun c => ?_)
      · rw [if_pos c] at h
        refine j_iinc F (pc := 44) (i := 4) (n := 1) (v := 1) (L' := [some (.ref 2), some (.ref (1000 + t1)), some (.int x2), some (.int x3), some (.int (x4 + (1 : Int32)))]) (by decide +kernel) rfl (by decide +kernel) (by decide) rfl rfl ?_
        refine j_goto F (pc := 47) (off := -34) (tgt := 13) (by decide +kernel) (by decide) ?_
        exact ih _ _ _ _ hρ h
      · rw [if_neg c] at h
        refine j_iconst F (pc := 42) (n := 0) (v := 0) (by decide +kernel) (by decide +kernel) ?_
        exact j_iret (st := []) F Rt rfl (by decide +kernel) ⟨hρ, _, rfl, (congrArg Prod.fst (Option.some.inj h)).symm, (congrArg Prod.snd (Option.some.inj h)).symm⟩
set_option maxHeartbeats 4000000 in
set_option maxRecDepth 100000 in
theorem t_X1_isWordAt {G : z_Gl} {ρ : Nat → Nat → Option Nat} {μ : z_M} {r : Int32} {μr : z_M} {t1 : Nat} {x2 : Int32} (hρ : μ.2.2 = ρ) (hk : z_ok (z_sh G) ρ) (ht1 : t1 < 4) (h : f_X1_isWordAt t1 x2 μ = some (r, μr)) : z_Ci G yX1_isWordAt cX1_isWordAt 5 (some .boolean) 5 [.ref 2, .ref (1000 + t1), .int x2] μ (fun r1 μ1 => r = r1 ∧ μr = μ1) := by
  unfold z_Ci
  refine z_intro (by decide +kernel) (Nat.le_of_ble_eq_true rfl) (fun E hE F Rt => ?_)
  subst hE
  have F : z_F E RX1 cX1_isWordAt 5 5 := F
  rw [hρ] at Rt
  unfold f_X1_isWordAt at h
  show z_J E 5 0 [some (.ref 2), some (.ref (1000 + t1)), some (.int x2), none, none] [] μ
  refine j_aload_n F (pc := 0) (q := 0) (by decide +kernel) rfl ?_
  refine j_getI F (pc := 1) fl_X1_30 (hk.s c_2) rfl (by decide +kernel) ?_
  refine j_aload_n F (pc := 4) (q := 0) (by decide +kernel) rfl ?_
  refine j_getI F (pc := 5) fl_X1_154 (hk.s c_2) rfl (by decide +kernel) ?_
  refine j_isub F (pc := 8) (by decide +kernel) ?_
  obtain ⟨x_1, e2, h⟩ := z_lt_some h
  rw [← e2]
  refine j_istore_n F (pc := 9) (q := 3) (L' := [some (.ref 2), some (.ref (1000 + t1)), some (.int x2), some (.int x_1), none]) (by decide +kernel) (by decide) rfl rfl ?_
  refine j_iconst F (pc := 10) (n := 0) (v := 0) (by decide +kernel) (by decide +kernel) ?_
  refine j_istore F (pc := 11) (i := 4) (L' := [some (.ref 2), some (.ref (1000 + t1)), some (.int x2), some (.int x_1), some (.int (0 : Int32))]) (by decide +kernel) (by decide) rfl rfl ?_
  refine u_X1_isWordAt_13 F Rt hk ht1  z_N _ _ _ _ hρ h
def g_X1_wordIn_26 (t1 : Nat)  : Nat → Int32 → z_M → Option (Int32 × z_M)
  | 0, _, _ => none
  | n + 1, x2, μ => (if (Int32.ofNat (z_len.getD t1 0)) < (x2 + (8 : Int32)) then (some ((-1 : Int32), μ)) else (z_b2 (f_X1_isWordAt (t1) (x2) μ) fun r1 μ2 => (if r1 = 0 then (g_X1_wordIn_26 t1  n ((x2 + (8 : Int32))) μ2) else (if ¬ (8 : Int32) = 0 then (some ((x2 / (8 : Int32)), μ2)) else none))))
def f_X1_wordIn (t1 : Nat) (μ : z_M) : Option (Int32 × z_M) :=
  (if (μ.1 2 4) = (1 : Int32) then (if ((μ.1 2 6) - (μ.1 2 5)) < (8 : Int32) then (g_X1_wordIn_26 t1  z_N ((0 : Int32)) μ) else (some ((-1 : Int32), μ))) else (some ((-1 : Int32), μ)))
set_option maxHeartbeats 4000000 in
set_option maxRecDepth 100000 in
theorem u_X1_wordIn_26 {E : z_E} {ρ : Nat → Nat → Option Nat} {r : Int32} {μr : z_M} (F : z_F E RX1 cX1_wordIn 3 6) (Rt : z_R E (some .int) (fun v μ1 => μ1.2.2 = ρ ∧ ∃ r1, v = some (.int r1) ∧ r = r1 ∧ μr = μ1)) {t1 : Nat} (hk : z_ok (z_sh E.1) ρ) (ht1 : t1 < 4) : ∀ (n : Nat) (x2 : Int32) (μ : z_M), μ.2.2 = ρ → g_X1_wordIn_26 t1  n x2 μ = some (r, μr) → z_J E 3 26 [some (.ref 2), some (.ref (1000 + t1)), some (.int x2)] [] μ := by
  intro n
  induction n with
  | zero =>
    intro x2 μ hρ h
    rw [g_X1_wordIn_26] at h
    cases h
  | succ n ih =>
    intro x2 μ hρ h
    rw [g_X1_wordIn_26] at h
    refine j_iload_n F (pc := 26) (q := 2) (by decide +kernel) rfl ?_
    refine j_bipush F (pc := 27) (n := 8) (v := 8) (by decide +kernel) (by decide +kernel) ?_
    refine j_iadd F (pc := 29) (by decide +kernel) ?_
    refine j_aload_n F (pc := 30) (q := 1) (by decide +kernel) rfl ?_
    refine j_slen F (pc := 31) (idx := 165) ht1 (mlk := m_413) (by decide) (Nat.le_of_ble_eq_true rfl) (by decide +kernel) ?_
    refine j_icmp_gt F (pc := 34) (off := 23) (tgt := 57) (by decide +kernel) (by decide) (fun c => ?_) (fun c => ?_)
    · rw [if_pos c] at h
      refine j_iconst F (pc := 57) (n := -1) (v := -1) (by decide +kernel) (by decide +kernel) ?_
      exact j_iret (st := []) F Rt rfl (by decide +kernel) ⟨hρ, _, rfl, (congrArg Prod.fst (Option.some.inj h)).symm, (congrArg Prod.snd (Option.some.inj h)).symm⟩
    · rw [if_neg c] at h
      refine j_aload_n F (pc := 37) (q := 0) (by decide +kernel) rfl ?_
      refine j_aload_n F (pc := 38) (q := 1) (by decide +kernel) rfl ?_
      refine j_iload_n F (pc := 39) (q := 2) (by decide +kernel) rfl ?_
      obtain ⟨r1, μ2, hc4, h⟩ := z_b2_some h
      refine j_callVi F (pc := 40) (idx := 171) (As := [.ref (1000 + t1), .int x2]) (st := []) (t_X1_isWordAt (G := E.1) hρ hk ht1 hc4) q_X1_isWordAt v_X1_isWordAt m_423 (hk.s c_2) rfl rfl (by decide) (Nat.le_of_ble_eq_true rfl) rfl (by decide +kernel) (fun s7 ν5 hq6 hp => ?_)
      obtain ⟨rfl, rfl⟩ := hp
      have hρ3 : μ2.2.2 = ρ := hq6.trans hρ
      refine j_if_eq F (pc := 43) (off := 8) (tgt := 51) (by decide +kernel) (by decide) (fun c => ?_) (fun c => ?_)
      · rw [if_pos c] at h
        refine j_iinc F (pc := 51) (i := 2) (n := 8) (v := 8) (L' := [some (.ref 2), some (.ref (1000 + t1)), some (.int (x2 + (8 : Int32)))]) (by decide +kernel) rfl (by decide +kernel) (by decide) rfl rfl ?_
        refine j_goto F (pc := 54) (off := -28) (tgt := 26) (by decide +kernel) (by decide) ?_
        exact ih _ _ hρ3 h
      · rw [if_neg c] at h
        refine j_iload_n F (pc := 46) (q := 2) (by decide +kernel) rfl ?_
        refine j_bipush F (pc := 47) (n := 8) (v := 8) (by decide +kernel) (by decide +kernel) ?_
        obtain ⟨hg, h⟩ := z_ifs h
        refine j_idiv F (pc := 49) (by decide +kernel) hg ?_
        exact j_iret (st := []) F Rt rfl (by decide +kernel) ⟨hρ3, _, rfl, (congrArg Prod.fst (Option.some.inj h)).symm, (congrArg Prod.snd (Option.some.inj h)).symm⟩
set_option maxHeartbeats 4000000 in
set_option maxRecDepth 100000 in
theorem t_X1_wordIn {G : z_Gl} {ρ : Nat → Nat → Option Nat} {μ : z_M} {r : Int32} {μr : z_M} {t1 : Nat} (hρ : μ.2.2 = ρ) (hk : z_ok (z_sh G) ρ) (ht1 : t1 < 4) (h : f_X1_wordIn t1 μ = some (r, μr)) : z_Ci G yX1_wordIn cX1_wordIn 3 (some .int) 6 [.ref 2, .ref (1000 + t1)] μ (fun r1 μ1 => r = r1 ∧ μr = μ1) := by
  unfold z_Ci
  refine z_intro (by decide +kernel) (Nat.le_of_ble_eq_true rfl) (fun E hE F Rt => ?_)
  subst hE
  have F : z_F E RX1 cX1_wordIn 3 6 := F
  rw [hρ] at Rt
  unfold f_X1_wordIn at h
  show z_J E 3 0 [some (.ref 2), some (.ref (1000 + t1)), none] [] μ
  refine j_aload_n F (pc := 0) (q := 0) (by decide +kernel) rfl ?_
  refine j_getI F (pc := 1) fl_X1_42 (hk.s c_2) rfl (by decide +kernel) ?_
  refine j_iconst F (pc := 4) (n := 1) (v := 1) (by decide +kernel) (by decide +kernel) ?_
  refine j_icmp_ne F (pc := 5) (off := 17) (tgt := 22) (by decide +kernel) (by decide) (fun c => ?_) (fun c => ?_)
  · rw [if_neg c] at h
    refine j_iconst F (pc := 22) (n := -1) (v := -1) (by decide +kernel) (by decide +kernel) ?_
    exact j_iret (st := []) F Rt rfl (by decide +kernel) ⟨hρ, _, rfl, (congrArg Prod.fst (Option.some.inj h)).symm, (congrArg Prod.snd (Option.some.inj h)).symm⟩
  · rw [if_pos c] at h
    refine j_aload_n F (pc := 8) (q := 0) (by decide +kernel) rfl ?_
    refine j_getI F (pc := 9) fl_X1_30 (hk.s c_2) rfl (by decide +kernel) ?_
    refine j_aload_n F (pc := 12) (q := 0) (by decide +kernel) rfl ?_
    refine j_getI F (pc := 13) fl_X1_154 (hk.s c_2) rfl (by decide +kernel) ?_
    refine j_isub F (pc := 16) (by decide +kernel) ?_
    refine j_bipush F (pc := 17) (n := 8) (v := 8) (by decide +kernel) (by decide +kernel) ?_
    refine j_icmp_lt F (pc := 19) (off := 5) (tgt := 24) (by decide +kernel) (by decide) (fun c => ?_) (fun c => ?_)
    · rw [if_pos c] at h
      refine j_iconst F (pc := 24) (n := 0) (v := 0) (by decide +kernel) (by decide +kernel) ?_
      refine j_istore_n F (pc := 25) (q := 2) (L' := [some (.ref 2), some (.ref (1000 + t1)), some (.int (0 : Int32))]) (by decide +kernel) (by decide) rfl rfl ?_
      refine u_X1_wordIn_26 F Rt hk ht1  z_N _ _ hρ h
    · rw [if_neg c] at h
      refine j_iconst F (pc := 22) (n := -1) (v := -1) (by decide +kernel) (by decide +kernel) ?_
      exact j_iret (st := []) F Rt rfl (by decide +kernel) ⟨hρ, _, rfl, (congrArg Prod.fst (Option.some.inj h)).symm, (congrArg Prod.snd (Option.some.inj h)).symm⟩
/-- LastLent.bit -/
def f_X4_bit (x0 : Int32) (x1 : Int32) (μ : z_M) : Option (Int32 × z_M) :=
  (some (((x0 >>> (x1 &&& 31)) &&& (1 : Int32)), μ))
set_option maxHeartbeats 4000000 in
set_option maxRecDepth 100000 in
theorem t_X4_bit {G : z_Gl} {ρ : Nat → Nat → Option Nat} {μ : z_M} {r : Int32} {μr : z_M} {x0 : Int32} {x1 : Int32} (hρ : μ.2.2 = ρ)  (h : f_X4_bit x0 x1 μ = some (r, μr)) : z_Ci G yX4_bit cX4_bit 2 (some .int) 0 [.int x0, .int x1] μ (fun r1 μ1 => r = r1 ∧ μr = μ1) := by
  unfold z_Ci
  refine z_intro (by decide +kernel) (Nat.le_of_ble_eq_true rfl) (fun E hE F Rt => ?_)
  subst hE
  have F : z_F E RX4 cX4_bit 2 0 := F
  rw [hρ] at Rt
  unfold f_X4_bit at h
  show z_J E 2 0 [some (.int x0), some (.int x1)] [] μ
  refine j_iload_n F (pc := 0) (q := 0) (by decide +kernel) rfl ?_
  refine j_iload_n F (pc := 1) (q := 1) (by decide +kernel) rfl ?_
  refine j_ishr F (pc := 2) (by decide +kernel) ?_
  refine j_iconst F (pc := 3) (n := 1) (v := 1) (by decide +kernel) (by decide +kernel) ?_
  refine j_iand F (pc := 4) (by decide +kernel) ?_
  exact j_iret (st := []) F Rt rfl (by decide +kernel) ⟨hρ, _, rfl, (congrArg Prod.fst (Option.some.inj h)).symm, (congrArg Prod.snd (Option.some.inj h)).symm⟩
def g_X1_isOneTooMany_52 (o2 : Nat)  (x1 : Int32) (μ : z_M) : Option (Int32 × z_M) :=
  (z_b2 (f_X4_bit ((μ.1 2 7)) (x1) μ) fun r1 μ2 => (some ((if r1 = (1 : Int32) then (1 : Int32) else (0 : Int32)), μ2)))
def f_X1_isOneTooMany (x1 : Int32) (o2 : Nat) (μ : z_M) : Option (Int32 × z_M) :=
  (if x1 = 1 then (some ((if (μ.1 o2 8) < (12 : Int32) then (0 : Int32) else (1 : Int32)), μ)) else (if x1 = 2 then (some ((0 : Int32), μ)) else (if x1 = 3 then (some ((0 : Int32), μ)) else (if x1 = 4 then (g_X1_isOneTooMany_52 o2  (x1) μ) else (if x1 = 5 then (g_X1_isOneTooMany_52 o2  (x1) μ) else (if x1 = 6 then (some ((0 : Int32), μ)) else (if x1 = 7 then (some ((0 : Int32), μ)) else (if x1 = 8 then (g_X1_isOneTooMany_52 o2  (x1) μ) else (if x1 = 9 then (g_X1_isOneTooMany_52 o2  (x1) μ) else (some ((0 : Int32), μ)))))))))))
set_option maxHeartbeats 4000000 in
set_option maxRecDepth 100000 in
theorem u_X1_isOneTooMany_52 {E : z_E} {ρ : Nat → Nat → Option Nat} {r : Int32} {μr : z_M} (F : z_F E RX1 cX1_isOneTooMany 3 1) (Rt : z_R E (some .boolean) (fun v μ1 => μ1.2.2 = ρ ∧ ∃ r1, v = some (.int r1) ∧ r = r1 ∧ μr = μ1)) {o2 : Nat} (hk : z_ok (z_sh E.1) ρ) (hb2 : z_blk z_lawS z_lawR (z_sh E.1) ρ o2) : ∀ (x1 : Int32) (μ : z_M), μ.2.2 = ρ → g_X1_isOneTooMany_52 o2  x1 μ = some (r, μr) → z_J E 3 52 [some (.ref 2), some (.int x1), none] [] μ := by
  intro x1 μ hρ h
  unfold g_X1_isOneTooMany_52 at h
  refine j_aload_n F (pc := 52) (q := 0) (by decide +kernel) rfl ?_
  refine j_getI F (pc := 53) fl_X1_33 (hk.s c_2) rfl (by decide +kernel) ?_
  refine j_iload_n F (pc := 56) (q := 1) (by decide +kernel) rfl ?_
  obtain ⟨r1, μ2, hc4, h⟩ := z_b2_some h
  refine j_callNi F (pc := 57) (idx := 69) (As := [.int (μ.1 2 7), .int x1]) (st := []) (t_X4_bit (G := E.1) hρ  hc4) q_X4_bit m_474 (by decide +kernel) rfl (by decide) (Nat.le_of_ble_eq_true rfl) rfl (by decide +kernel) (fun s7 ν5 hq6 hp => ?_)
  obtain ⟨rfl, rfl⟩ := hp
  have hρ3 : μ2.2.2 = ρ := hq6.trans hρ
  refine j_iconst F (pc := 60) (n := 1) (v := 1) (by decide +kernel) (by decide +kernel) ?_
  suffices hj : z_J E 3 69 [some (.ref 2), some (.int x1), none] (.int (if r1 = (1 : Int32) then (1 : Int32) else (0 : Int32)) :: []) μ2 by
    refine j_icmp_ne F (pc := 61) (off := 7) (tgt := 68) (by decide +kernel) (by decide) (fun c0 => ?_) (fun c0 => ?_)
    · rw [if_neg c0] at hj
      refine j_iconst F (pc := 68) (n := 0) (v := 0) (by decide +kernel) (by decide +kernel) ?_
      exact hj
    · rw [if_pos c0] at hj
      refine j_iconst F (pc := 64) (n := 1) (v := 1) (by decide +kernel) (by decide +kernel) ?_
      refine j_goto F (pc := 65) (off := 4) (tgt := 69) (by decide +kernel) (by decide) ?_
      exact hj
  exact j_iret (st := []) F Rt (z_nb (by repeat' (first | exact Or.inl rfl | exact Or.inr rfl | split))) (by decide +kernel) ⟨hρ3, _, rfl, (congrArg Prod.fst (Option.some.inj h)).symm, (congrArg Prod.snd (Option.some.inj h)).symm⟩
set_option maxHeartbeats 4000000 in
set_option maxRecDepth 100000 in
theorem t_X1_isOneTooMany {G : z_Gl} {ρ : Nat → Nat → Option Nat} {μ : z_M} {r : Int32} {μr : z_M} {x1 : Int32} {o2 : Nat} (hρ : μ.2.2 = ρ) (hk : z_ok (z_sh G) ρ) (hb2 : z_blk z_lawS z_lawR (z_sh G) ρ o2) (h : f_X1_isOneTooMany x1 o2 μ = some (r, μr)) : z_Ci G yX1_isOneTooMany cX1_isOneTooMany 3 (some .boolean) 1 [.ref 2, .int x1, .ref o2] μ (fun r1 μ1 => r = r1 ∧ μr = μ1) := by
  unfold z_Ci
  refine z_intro (by decide +kernel) (Nat.le_of_ble_eq_true rfl) (fun E hE F Rt => ?_)
  subst hE
  have F : z_F E RX1 cX1_isOneTooMany 3 1 := F
  rw [hρ] at Rt
  unfold f_X1_isOneTooMany at h
  show z_J E 3 0 [some (.ref 2), some (.int x1), some (.ref o2)] [] μ
  refine j_iload_n F (pc := 0) (q := 1) (by decide +kernel) rfl ?_
  by_cases c0 : x1 = 1
  · rw [if_pos c0] at h
    refine j_tableIn F (pc := 1) (dflt := 84) (lo := 1) (hi := 9) (offs := #[69, 84, 84, 51, 51, 84, 84, 51, 51]) (len := 51) (off := 69) (tgt := 70) (by decide +kernel) (by rw [c0]; decide) (by rw [c0]; decide) (by rw [c0]; decide +kernel) (by decide) ?_
    refine j_aload_n F (pc := 70) (q := 2) (by decide +kernel) rfl ?_
    refine j_getI F (pc := 71) fl_X1_73 (hb2.1 0 _ rfl) rfl (by decide +kernel) ?_
    refine j_bipush F (pc := 74) (n := 12) (v := 12) (by decide +kernel) (by decide +kernel) ?_
    suffices hj : z_J E 3 84 [some (.ref 2), some (.int x1), some (.ref o2)] (.int (if (μ.1 o2 8) < (12 : Int32) then (0 : Int32) else (1 : Int32)) :: []) μ by
      refine j_icmp_lt F (pc := 76) (off := 7) (tgt := 83) (by decide +kernel) (by decide) (fun c0 => ?_) (fun c0 => ?_)
      · rw [if_pos c0] at hj
        refine j_iconst F (pc := 83) (n := 0) (v := 0) (by decide +kernel) (by decide +kernel) ?_
        exact hj
      · rw [if_neg c0] at hj
        refine j_iconst F (pc := 79) (n := 1) (v := 1) (by decide +kernel) (by decide +kernel) ?_
        refine j_goto F (pc := 80) (off := 4) (tgt := 84) (by decide +kernel) (by decide) ?_
        exact hj
    exact j_iret (st := []) F Rt (z_nb (by repeat' (first | exact Or.inl rfl | exact Or.inr rfl | split))) (by decide +kernel) ⟨hρ, _, rfl, (congrArg Prod.fst (Option.some.inj h)).symm, (congrArg Prod.snd (Option.some.inj h)).symm⟩
  rw [if_neg c0] at h
  by_cases c1 : x1 = 2
  · rw [if_pos c1] at h
    refine j_tableIn F (pc := 1) (dflt := 84) (lo := 1) (hi := 9) (offs := #[69, 84, 84, 51, 51, 84, 84, 51, 51]) (len := 51) (off := 84) (tgt := 85) (by decide +kernel) (by rw [c1]; decide) (by rw [c1]; decide) (by rw [c1]; decide +kernel) (by decide) ?_
    refine j_iconst F (pc := 85) (n := 0) (v := 0) (by decide +kernel) (by decide +kernel) ?_
    exact j_iret (st := []) F Rt rfl (by decide +kernel) ⟨hρ, _, rfl, (congrArg Prod.fst (Option.some.inj h)).symm, (congrArg Prod.snd (Option.some.inj h)).symm⟩
  rw [if_neg c1] at h
  by_cases c2 : x1 = 3
  · rw [if_pos c2] at h
    refine j_tableIn F (pc := 1) (dflt := 84) (lo := 1) (hi := 9) (offs := #[69, 84, 84, 51, 51, 84, 84, 51, 51]) (len := 51) (off := 84) (tgt := 85) (by decide +kernel) (by rw [c2]; decide) (by rw [c2]; decide) (by rw [c2]; decide +kernel) (by decide) ?_
    refine j_iconst F (pc := 85) (n := 0) (v := 0) (by decide +kernel) (by decide +kernel) ?_
    exact j_iret (st := []) F Rt rfl (by decide +kernel) ⟨hρ, _, rfl, (congrArg Prod.fst (Option.some.inj h)).symm, (congrArg Prod.snd (Option.some.inj h)).symm⟩
  rw [if_neg c2] at h
  by_cases c3 : x1 = 4
  · rw [if_pos c3] at h
    refine j_tableIn F (pc := 1) (dflt := 84) (lo := 1) (hi := 9) (offs := #[69, 84, 84, 51, 51, 84, 84, 51, 51]) (len := 51) (off := 51) (tgt := 52) (by decide +kernel) (by rw [c3]; decide) (by rw [c3]; decide) (by rw [c3]; decide +kernel) (by decide) ?_
    refine j_mk F [true, true, false] (L' := [some (.ref 2), some (.int x1), none]) rfl ?_
    refine u_X1_isOneTooMany_52 F Rt hk hb2  _ _ hρ h
  rw [if_neg c3] at h
  by_cases c4 : x1 = 5
  · rw [if_pos c4] at h
    refine j_tableIn F (pc := 1) (dflt := 84) (lo := 1) (hi := 9) (offs := #[69, 84, 84, 51, 51, 84, 84, 51, 51]) (len := 51) (off := 51) (tgt := 52) (by decide +kernel) (by rw [c4]; decide) (by rw [c4]; decide) (by rw [c4]; decide +kernel) (by decide) ?_
    refine j_mk F [true, true, false] (L' := [some (.ref 2), some (.int x1), none]) rfl ?_
    refine u_X1_isOneTooMany_52 F Rt hk hb2  _ _ hρ h
  rw [if_neg c4] at h
  by_cases c5 : x1 = 6
  · rw [if_pos c5] at h
    refine j_tableIn F (pc := 1) (dflt := 84) (lo := 1) (hi := 9) (offs := #[69, 84, 84, 51, 51, 84, 84, 51, 51]) (len := 51) (off := 84) (tgt := 85) (by decide +kernel) (by rw [c5]; decide) (by rw [c5]; decide) (by rw [c5]; decide +kernel) (by decide) ?_
    refine j_iconst F (pc := 85) (n := 0) (v := 0) (by decide +kernel) (by decide +kernel) ?_
    exact j_iret (st := []) F Rt rfl (by decide +kernel) ⟨hρ, _, rfl, (congrArg Prod.fst (Option.some.inj h)).symm, (congrArg Prod.snd (Option.some.inj h)).symm⟩
  rw [if_neg c5] at h
  by_cases c6 : x1 = 7
  · rw [if_pos c6] at h
    refine j_tableIn F (pc := 1) (dflt := 84) (lo := 1) (hi := 9) (offs := #[69, 84, 84, 51, 51, 84, 84, 51, 51]) (len := 51) (off := 84) (tgt := 85) (by decide +kernel) (by rw [c6]; decide) (by rw [c6]; decide) (by rw [c6]; decide +kernel) (by decide) ?_
    refine j_iconst F (pc := 85) (n := 0) (v := 0) (by decide +kernel) (by decide +kernel) ?_
    exact j_iret (st := []) F Rt rfl (by decide +kernel) ⟨hρ, _, rfl, (congrArg Prod.fst (Option.some.inj h)).symm, (congrArg Prod.snd (Option.some.inj h)).symm⟩
  rw [if_neg c6] at h
  by_cases c7 : x1 = 8
  · rw [if_pos c7] at h
    refine j_tableIn F (pc := 1) (dflt := 84) (lo := 1) (hi := 9) (offs := #[69, 84, 84, 51, 51, 84, 84, 51, 51]) (len := 51) (off := 51) (tgt := 52) (by decide +kernel) (by rw [c7]; decide) (by rw [c7]; decide) (by rw [c7]; decide +kernel) (by decide) ?_
    refine j_mk F [true, true, false] (L' := [some (.ref 2), some (.int x1), none]) rfl ?_
    refine u_X1_isOneTooMany_52 F Rt hk hb2  _ _ hρ h
  rw [if_neg c7] at h
  by_cases c8 : x1 = 9
  · rw [if_pos c8] at h
    refine j_tableIn F (pc := 1) (dflt := 84) (lo := 1) (hi := 9) (offs := #[69, 84, 84, 51, 51, 84, 84, 51, 51]) (len := 51) (off := 51) (tgt := 52) (by decide +kernel) (by rw [c8]; decide) (by rw [c8]; decide) (by rw [c8]; decide +kernel) (by decide) ?_
    refine j_mk F [true, true, false] (L' := [some (.ref 2), some (.int x1), none]) rfl ?_
    refine u_X1_isOneTooMany_52 F Rt hk hb2  _ _ hρ h
  rw [if_neg c8] at h
  refine j_tableOut F (pc := 1) (dflt := 84) (lo := 1) (hi := 9) (offs := #[69, 84, 84, 51, 51, 84, 84, 51, 51]) (len := 51) (tgt := 85) (by decide +kernel) (by have d0 := lv_neT (k := 1) (a := 1) c0 (by decide); have d1 := lv_neT (k := 2) (a := 2) c1 (by decide); have d2 := lv_neT (k := 3) (a := 3) c2 (by decide); have d3 := lv_neT (k := 4) (a := 4) c3 (by decide); have d4 := lv_neT (k := 5) (a := 5) c4 (by decide); have d5 := lv_neT (k := 6) (a := 6) c5 (by decide); have d6 := lv_neT (k := 7) (a := 7) c6 (by decide); have d7 := lv_neT (k := 8) (a := 8) c7 (by decide); have d8 := lv_neT (k := 9) (a := 9) c8 (by decide); omega) (by decide) ?_
  refine j_iconst F (pc := 85) (n := 0) (v := 0) (by decide +kernel) (by decide +kernel) ?_
  exact j_iret (st := []) F Rt rfl (by decide +kernel) ⟨hρ, _, rfl, (congrArg Prod.fst (Option.some.inj h)).symm, (congrArg Prod.snd (Option.some.inj h)).symm⟩
/-- LastLent$LawText.refuse -/
def f_X1_refuse (x1 : Int32) (μ : z_M) : Option (Int32 × z_M) :=
  (z_st (z_si μ 2 2 x1) fun μ1 => (z_st (z_si μ1 2 3 (μ1.1 2 5)) fun μ4 => (some ((0 : Int32), μ4))))
set_option maxHeartbeats 4000000 in
set_option maxRecDepth 100000 in
theorem t_X1_refuse {G : z_Gl} {ρ : Nat → Nat → Option Nat} {μ : z_M} {r : Int32} {μr : z_M} {x1 : Int32} (hρ : μ.2.2 = ρ) (hk : z_ok (z_sh G) ρ) (h : f_X1_refuse x1 μ = some (r, μr)) : z_Ci G yX1_refuse cX1_refuse 2 (some .boolean) 0 [.ref 2, .int x1] μ (fun r1 μ1 => r = r1 ∧ μr = μ1) := by
  unfold z_Ci
  refine z_intro (by decide +kernel) (Nat.le_of_ble_eq_true rfl) (fun E hE F Rt => ?_)
  subst hE
  have F : z_F E RX1 cX1_refuse 2 0 := F
  rw [hρ] at Rt
  unfold f_X1_refuse at h
  show z_J E 2 0 [some (.ref 2), some (.int x1)] [] μ
  refine j_aload_n F (pc := 0) (q := 0) (by decide +kernel) rfl ?_
  refine j_iload_n F (pc := 1) (q := 1) (by decide +kernel) rfl ?_
  refine j_putI F (pc := 2) fl_X1_15 fp_X1_2 (hk.s c_2) rfl (by decide +kernel) ?_
  obtain ⟨μ1, e3, h⟩ := z_st_some h
  rw [← e3]
  have hρ2 : μ1.2.2 = ρ := by rw [e3]; exact hρ
  refine j_aload_n F (pc := 5) (q := 0) (by decide +kernel) rfl ?_
  refine j_aload_n F (pc := 6) (q := 0) (by decide +kernel) rfl ?_
  refine j_getI F (pc := 7) fl_X1_154 (hk.s c_2) rfl (by decide +kernel) ?_
  refine j_putI F (pc := 10) fl_X1_19 fp_X1_3 (hk.s c_2) rfl (by decide +kernel) ?_
  obtain ⟨μ4, e6, h⟩ := z_st_some h
  rw [← e6]
  have hρ5 : μ4.2.2 = ρ := by rw [e6]; exact hρ2
  refine j_iconst F (pc := 13) (n := 0) (v := 0) (by decide +kernel) (by decide +kernel) ?_
  exact j_iret (st := []) F Rt rfl (by decide +kernel) ⟨hρ5, _, rfl, (congrArg Prod.fst (Option.some.inj h)).symm, (congrArg Prod.snd (Option.some.inj h)).symm⟩
/-- LastLent$LawText.beginClause -/
def f_X1_beginClause (o1 : Nat) (μ : z_M) : Option (Int32 × z_M) :=
  (z_b2 (f_X1_wordIn (0) μ) fun r1 μ2 => (if r1 = (-1 : Int32) then (z_b2 (f_X1_refuse ((1 : Int32)) μ2) fun r25 μ26 => (some ((-1 : Int32), μ26))) else (z_b2 (f_X1_isOneTooMany (r1) (o1) μ2) fun r8 μ9 => (if r8 = 0 then (z_st (z_si μ9 2 7 ((μ9.1 2 7) ||| ((1 : Int32) <<< (r1 &&& 31)))) fun μ15 => (some (r1, μ15))) else (z_b2 (f_X1_refuse ((3 : Int32)) μ9) fun r18 μ19 => (some ((-1 : Int32), μ19)))))))
set_option maxHeartbeats 4000000 in
set_option maxRecDepth 100000 in
theorem t_X1_beginClause {G : z_Gl} {ρ : Nat → Nat → Option Nat} {μ : z_M} {r : Int32} {μr : z_M} {o1 : Nat} (hρ : μ.2.2 = ρ) (hk : z_ok (z_sh G) ρ) (hb1 : z_blk z_lawS z_lawR (z_sh G) ρ o1) (h : f_X1_beginClause o1 μ = some (r, μr)) : z_Ci G yX1_beginClause cX1_beginClause 3 (some .int) 7 [.ref 2, .ref o1] μ (fun r1 μ1 => r = r1 ∧ μr = μ1) := by
  unfold z_Ci
  refine z_intro (by decide +kernel) (Nat.le_of_ble_eq_true rfl) (fun E hE F Rt => ?_)
  subst hE
  have F : z_F E RX1 cX1_beginClause 3 7 := F
  rw [hρ] at Rt
  unfold f_X1_beginClause at h
  show z_J E 3 0 [some (.ref 2), some (.ref o1), none] [] μ
  refine j_aload_n F (pc := 0) (q := 0) (by decide +kernel) rfl ?_
  refine j_ldcS F (pc := 1) (i := 0) (idx := 56) rfl rfl (by decide +kernel) ?_
  obtain ⟨r1, μ2, hc4, h⟩ := z_b2_some h
  refine j_callVi F (pc := 3) (idx := 58) (As := [.ref (1000 + 0)]) (st := []) (t_X1_wordIn (G := E.1) hρ hk (by decide) hc4) q_X1_wordIn v_X1_wordIn m_409 (hk.s c_2) rfl rfl (by decide) (Nat.le_of_ble_eq_true rfl) rfl (by decide +kernel) (fun s7 ν5 hq6 hp => ?_)
  obtain ⟨rfl, rfl⟩ := hp
  have hρ3 : μ2.2.2 = ρ := hq6.trans hρ
  refine j_istore_n F (pc := 6) (q := 2) (L' := [some (.ref 2), some (.ref o1), some (.int r1)]) (by decide +kernel) (by decide) rfl rfl ?_
  refine j_iload_n F (pc := 7) (q := 2) (by decide +kernel) rfl ?_
  refine j_iconst F (pc := 8) (n := -1) (v := -1) (by decide +kernel) (by decide +kernel) ?_
  refine j_icmp_ne F (pc := 9) (off := 11) (tgt := 20) (by decide +kernel) (by decide) (fun c => ?_) (fun c => ?_)
  · rw [if_neg c] at h
    refine j_aload_n F (pc := 20) (q := 0) (by decide +kernel) rfl ?_
    refine j_iload_n F (pc := 21) (q := 2) (by decide +kernel) rfl ?_
    refine j_aload_n F (pc := 22) (q := 1) (by decide +kernel) rfl ?_
    obtain ⟨r8, μ9, hc11, h⟩ := z_b2_some h
    refine j_callVi F (pc := 23) (idx := 66) (As := [.int r1, .ref o1]) (st := []) (t_X1_isOneTooMany (G := E.1) hρ3 hk hb1 hc11) q_X1_isOneTooMany v_X1_isOneTooMany m_469 (hk.s c_2) rfl rfl (by decide) (Nat.le_of_ble_eq_true rfl) rfl (by decide +kernel) (fun s14 ν12 hq13 hp => ?_)
    obtain ⟨rfl, rfl⟩ := hp
    have hρ10 : μ9.2.2 = ρ := hq13.trans hρ3
    refine j_if_eq F (pc := 26) (off := 11) (tgt := 37) (by decide +kernel) (by decide) (fun c => ?_) (fun c => ?_)
    · rw [if_pos c] at h
      refine j_aload_n F (pc := 37) (q := 0) (by decide +kernel) rfl ?_
      refine j_dup F (pc := 38) (by decide +kernel) rfl ?_
      refine j_getI F (pc := 39) fl_X1_33 (hk.s c_2) rfl (by decide +kernel) ?_
      refine j_iconst F (pc := 42) (n := 1) (v := 1) (by decide +kernel) (by decide +kernel) ?_
      refine j_iload_n F (pc := 43) (q := 2) (by decide +kernel) rfl ?_
      refine j_ishl F (pc := 44) (by decide +kernel) ?_
      refine j_ior F (pc := 45) (by decide +kernel) ?_
      refine j_putI F (pc := 46) fl_X1_33 fp_X1_7 (hk.s c_2) rfl (by decide +kernel) ?_
      obtain ⟨μ15, e17, h⟩ := z_st_some h
      rw [← e17]
      have hρ16 : μ15.2.2 = ρ := by rw [e17]; exact hρ10
      refine j_iload_n F (pc := 49) (q := 2) (by decide +kernel) rfl ?_
      exact j_iret (st := []) F Rt rfl (by decide +kernel) ⟨hρ16, _, rfl, (congrArg Prod.fst (Option.some.inj h)).symm, (congrArg Prod.snd (Option.some.inj h)).symm⟩
    · rw [if_neg c] at h
      refine j_aload_n F (pc := 29) (q := 0) (by decide +kernel) rfl ?_
      refine j_iconst F (pc := 30) (n := 3) (v := 3) (by decide +kernel) (by decide +kernel) ?_
      obtain ⟨r18, μ19, hc21, h⟩ := z_b2_some h
      refine j_callVi F (pc := 31) (idx := 62) (As := [.int (3 : Int32)]) (st := []) (t_X1_refuse (G := E.1) hρ10 hk hc21) q_X1_refuse v_X1_refuse m_465 (hk.s c_2) rfl rfl (by decide) (Nat.le_of_ble_eq_true rfl) rfl (by decide +kernel) (fun s24 ν22 hq23 hp => ?_)
      obtain ⟨rfl, rfl⟩ := hp
      have hρ20 : μ19.2.2 = ρ := hq23.trans hρ10
      refine j_pop F (pc := 34) (by decide +kernel) rfl ?_
      refine j_iconst F (pc := 35) (n := -1) (v := -1) (by decide +kernel) (by decide +kernel) ?_
      exact j_iret (st := []) F Rt rfl (by decide +kernel) ⟨hρ20, _, rfl, (congrArg Prod.fst (Option.some.inj h)).symm, (congrArg Prod.snd (Option.some.inj h)).symm⟩
  · rw [if_pos c] at h
    refine j_aload_n F (pc := 12) (q := 0) (by decide +kernel) rfl ?_
    refine j_iconst F (pc := 13) (n := 1) (v := 1) (by decide +kernel) (by decide +kernel) ?_
    obtain ⟨r25, μ26, hc28, h⟩ := z_b2_some h
    refine j_callVi F (pc := 14) (idx := 62) (As := [.int (1 : Int32)]) (st := []) (t_X1_refuse (G := E.1) hρ3 hk hc28) q_X1_refuse v_X1_refuse m_465 (hk.s c_2) rfl rfl (by decide) (Nat.le_of_ble_eq_true rfl) rfl (by decide +kernel) (fun s31 ν29 hq30 hp => ?_)
    obtain ⟨rfl, rfl⟩ := hp
    have hρ27 : μ26.2.2 = ρ := hq30.trans hρ3
    refine j_pop F (pc := 17) (by decide +kernel) rfl ?_
    refine j_iconst F (pc := 18) (n := -1) (v := -1) (by decide +kernel) (by decide +kernel) ?_
    exact j_iret (st := []) F Rt rfl (by decide +kernel) ⟨hρ27, _, rfl, (congrArg Prod.fst (Option.some.inj h)).symm, (congrArg Prod.snd (Option.some.inj h)).symm⟩
/-- LastLent$LawText.readKind -/
def f_X1_readKind (x1 : Int32) (μ : z_M) : Option (Int32 × z_M) :=
  (z_b1 (f_X1_nextToken  μ) fun μ2 => (z_b2 (f_X1_wordIn (1) μ2) fun r7 μ8 => (if r7 = (-1 : Int32) then (z_b2 (f_X1_refuse ((1 : Int32)) μ8) fun r28 μ29 => (some ((-1 : Int32), μ29))) else (z_b2 (f_X4_bit (x1) (r7) μ8) fun r14 μ15 => (if r14 = (1 : Int32) then (z_b2 (f_X1_refuse ((3 : Int32)) μ15) fun r21 μ22 => (some ((-1 : Int32), μ22))) else (some (r7, μ15)))))))
set_option maxHeartbeats 4000000 in
set_option maxRecDepth 100000 in
theorem t_X1_readKind {G : z_Gl} {ρ : Nat → Nat → Option Nat} {μ : z_M} {r : Int32} {μr : z_M} {x1 : Int32} (hρ : μ.2.2 = ρ) (hk : z_ok (z_sh G) ρ) (h : f_X1_readKind x1 μ = some (r, μr)) : z_Ci G yX1_readKind cX1_readKind 3 (some .int) 7 [.ref 2, .int x1] μ (fun r1 μ1 => r = r1 ∧ μr = μ1) := by
  unfold z_Ci
  refine z_intro (by decide +kernel) (Nat.le_of_ble_eq_true rfl) (fun E hE F Rt => ?_)
  subst hE
  have F : z_F E RX1 cX1_readKind 3 7 := F
  rw [hρ] at Rt
  unfold f_X1_readKind at h
  show z_J E 3 0 [some (.ref 2), some (.int x1), none] [] μ
  refine j_aload_n F (pc := 0) (q := 0) (by decide +kernel) rfl ?_
  obtain ⟨μ2, hc4, h⟩ := z_b1_some h
  refine j_callVv F (pc := 1) (idx := 39) (As := []) (st := []) (t_X1_nextToken (G := E.1) hρ hk hc4) q_X1_nextToken v_X1_nextToken m_394 (hk.s c_2) rfl rfl (by decide) (Nat.le_of_ble_eq_true rfl) rfl (by decide +kernel) (fun ν5 hq6 hp => ?_)
  subst hp
  have hρ3 : μ2.2.2 = ρ := hq6.trans hρ
  refine j_aload_n F (pc := 4) (q := 0) (by decide +kernel) rfl ?_
  refine j_ldcS F (pc := 5) (i := 1) (idx := 157) rfl rfl (by decide +kernel) ?_
  obtain ⟨r7, μ8, hc10, h⟩ := z_b2_some h
  refine j_callVi F (pc := 7) (idx := 58) (As := [.ref (1000 + 1)]) (st := []) (t_X1_wordIn (G := E.1) hρ3 hk (by decide) hc10) q_X1_wordIn v_X1_wordIn m_409 (hk.s c_2) rfl rfl (by decide) (Nat.le_of_ble_eq_true rfl) rfl (by decide +kernel) (fun s13 ν11 hq12 hp => ?_)
  obtain ⟨rfl, rfl⟩ := hp
  have hρ9 : μ8.2.2 = ρ := hq12.trans hρ3
  refine j_istore_n F (pc := 10) (q := 2) (L' := [some (.ref 2), some (.int x1), some (.int r7)]) (by decide +kernel) (by decide) rfl rfl ?_
  refine j_iload_n F (pc := 11) (q := 2) (by decide +kernel) rfl ?_
  refine j_iconst F (pc := 12) (n := -1) (v := -1) (by decide +kernel) (by decide +kernel) ?_
  refine j_icmp_ne F (pc := 13) (off := 11) (tgt := 24) (by decide +kernel) (by decide) (fun c => ?_) (fun c => ?_)
  · rw [if_neg c] at h
    refine j_iload_n F (pc := 24) (q := 1) (by decide +kernel) rfl ?_
    refine j_iload_n F (pc := 25) (q := 2) (by decide +kernel) rfl ?_
    obtain ⟨r14, μ15, hc17, h⟩ := z_b2_some h
    refine j_callNi F (pc := 26) (idx := 69) (As := [.int x1, .int r7]) (st := []) (t_X4_bit (G := E.1) hρ9  hc17) q_X4_bit m_474 (by decide +kernel) rfl (by decide) (Nat.le_of_ble_eq_true rfl) rfl (by decide +kernel) (fun s20 ν18 hq19 hp => ?_)
    obtain ⟨rfl, rfl⟩ := hp
    have hρ16 : μ15.2.2 = ρ := hq19.trans hρ9
    refine j_iconst F (pc := 29) (n := 1) (v := 1) (by decide +kernel) (by decide +kernel) ?_
    refine j_icmp_ne F (pc := 30) (off := 11) (tgt := 41) (by decide +kernel) (by decide) (fun c => ?_) (fun c => ?_)
    · rw [if_neg c] at h
      refine j_iload_n F (pc := 41) (q := 2) (by decide +kernel) rfl ?_
      exact j_iret (st := []) F Rt rfl (by decide +kernel) ⟨hρ16, _, rfl, (congrArg Prod.fst (Option.some.inj h)).symm, (congrArg Prod.snd (Option.some.inj h)).symm⟩
    · rw [if_pos c] at h
      refine j_aload_n F (pc := 33) (q := 0) (by decide +kernel) rfl ?_
      refine j_iconst F (pc := 34) (n := 3) (v := 3) (by decide +kernel) (by decide +kernel) ?_
      obtain ⟨r21, μ22, hc24, h⟩ := z_b2_some h
      refine j_callVi F (pc := 35) (idx := 62) (As := [.int (3 : Int32)]) (st := []) (t_X1_refuse (G := E.1) hρ16 hk hc24) q_X1_refuse v_X1_refuse m_465 (hk.s c_2) rfl rfl (by decide) (Nat.le_of_ble_eq_true rfl) rfl (by decide +kernel) (fun s27 ν25 hq26 hp => ?_)
      obtain ⟨rfl, rfl⟩ := hp
      have hρ23 : μ22.2.2 = ρ := hq26.trans hρ16
      refine j_pop F (pc := 38) (by decide +kernel) rfl ?_
      refine j_iconst F (pc := 39) (n := -1) (v := -1) (by decide +kernel) (by decide +kernel) ?_
      exact j_iret (st := []) F Rt rfl (by decide +kernel) ⟨hρ23, _, rfl, (congrArg Prod.fst (Option.some.inj h)).symm, (congrArg Prod.snd (Option.some.inj h)).symm⟩
  · rw [if_pos c] at h
    refine j_aload_n F (pc := 16) (q := 0) (by decide +kernel) rfl ?_
    refine j_iconst F (pc := 17) (n := 1) (v := 1) (by decide +kernel) (by decide +kernel) ?_
    obtain ⟨r28, μ29, hc31, h⟩ := z_b2_some h
    refine j_callVi F (pc := 18) (idx := 62) (As := [.int (1 : Int32)]) (st := []) (t_X1_refuse (G := E.1) hρ9 hk hc31) q_X1_refuse v_X1_refuse m_465 (hk.s c_2) rfl rfl (by decide) (Nat.le_of_ble_eq_true rfl) rfl (by decide +kernel) (fun s34 ν32 hq33 hp => ?_)
    obtain ⟨rfl, rfl⟩ := hp
    have hρ30 : μ29.2.2 = ρ := hq33.trans hρ9
    refine j_pop F (pc := 21) (by decide +kernel) rfl ?_
    refine j_iconst F (pc := 22) (n := -1) (v := -1) (by decide +kernel) (by decide +kernel) ?_
    exact j_iret (st := []) F Rt rfl (by decide +kernel) ⟨hρ30, _, rfl, (congrArg Prod.fst (Option.some.inj h)).symm, (congrArg Prod.snd (Option.some.inj h)).symm⟩
/-- LastLent$LawText.readFund -/
def f_X1_readFund (o1 : Nat) (x2 : Int32) (μ : z_M) : Option (Int32 × z_M) :=
  (z_b1 (f_X1_nextToken  μ) fun μ2 => (z_b2 (f_X1_wordIn (2) μ2) fun r7 μ8 => (if r7 = (-1 : Int32) then (z_b2 (f_X1_refuse ((1 : Int32)) μ8) fun r31 μ32 => (if r31 = 0 ∨ r31 = 1 then some (r31, μ32) else none)) else (if z_in x2 8 then (z_b2 (f_X4_bit ((μ8.1 (o1 + 1) x2.toNatClampNeg)) (r7) μ8) fun r14 μ15 => (if r14 = (1 : Int32) then (z_b2 (f_X1_refuse ((3 : Int32)) μ15) fun r24 μ25 => (if r24 = 0 ∨ r24 = 1 then some (r24, μ25) else none)) else (if z_in x2 8 then (if z_in x2 8 then (z_st (z_si μ15 (o1 + 1) x2.toNatClampNeg ((μ15.1 (o1 + 1) x2.toNatClampNeg) ||| ((1 : Int32) <<< (r7 &&& 31)))) fun μ21 => (some ((1 : Int32), μ21))) else none) else none))) else none))))
set_option maxHeartbeats 4000000 in
set_option maxRecDepth 100000 in
theorem t_X1_readFund {G : z_Gl} {ρ : Nat → Nat → Option Nat} {μ : z_M} {r : Int32} {μr : z_M} {o1 : Nat} {x2 : Int32} (hρ : μ.2.2 = ρ) (hk : z_ok (z_sh G) ρ) (hb1 : z_blk z_lawS z_lawR (z_sh G) ρ o1) (h : f_X1_readFund o1 x2 μ = some (r, μr)) : z_Ci G yX1_readFund cX1_readFund 4 (some .boolean) 7 [.ref 2, .ref o1, .int x2] μ (fun r1 μ1 => r = r1 ∧ μr = μ1) := by
  unfold z_Ci
  refine z_intro (by decide +kernel) (Nat.le_of_ble_eq_true rfl) (fun E hE F Rt => ?_)
  subst hE
  have F : z_F E RX1 cX1_readFund 4 7 := F
  rw [hρ] at Rt
  unfold f_X1_readFund at h
  show z_J E 4 0 [some (.ref 2), some (.ref o1), some (.int x2), none] [] μ
  refine j_aload_n F (pc := 0) (q := 0) (by decide +kernel) rfl ?_
  obtain ⟨μ2, hc4, h⟩ := z_b1_some h
  refine j_callVv F (pc := 1) (idx := 39) (As := []) (st := []) (t_X1_nextToken (G := E.1) hρ hk hc4) q_X1_nextToken v_X1_nextToken m_394 (hk.s c_2) rfl rfl (by decide) (Nat.le_of_ble_eq_true rfl) rfl (by decide +kernel) (fun ν5 hq6 hp => ?_)
  subst hp
  have hρ3 : μ2.2.2 = ρ := hq6.trans hρ
  refine j_aload_n F (pc := 4) (q := 0) (by decide +kernel) rfl ?_
  refine j_ldcS F (pc := 5) (i := 2) (idx := 123) rfl rfl (by decide +kernel) ?_
  obtain ⟨r7, μ8, hc10, h⟩ := z_b2_some h
  refine j_callVi F (pc := 7) (idx := 58) (As := [.ref (1000 + 2)]) (st := []) (t_X1_wordIn (G := E.1) hρ3 hk (by decide) hc10) q_X1_wordIn v_X1_wordIn m_409 (hk.s c_2) rfl rfl (by decide) (Nat.le_of_ble_eq_true rfl) rfl (by decide +kernel) (fun s13 ν11 hq12 hp => ?_)
  obtain ⟨rfl, rfl⟩ := hp
  have hρ9 : μ8.2.2 = ρ := hq12.trans hρ3
  refine j_istore_n F (pc := 10) (q := 3) (L' := [some (.ref 2), some (.ref o1), some (.int x2), some (.int r7)]) (by decide +kernel) (by decide) rfl rfl ?_
  refine j_iload_n F (pc := 11) (q := 3) (by decide +kernel) rfl ?_
  refine j_iconst F (pc := 12) (n := -1) (v := -1) (by decide +kernel) (by decide +kernel) ?_
  refine j_icmp_ne F (pc := 13) (off := 9) (tgt := 22) (by decide +kernel) (by decide) (fun c => ?_) (fun c => ?_)
  · rw [if_neg c] at h
    refine j_aload_n F (pc := 22) (q := 1) (by decide +kernel) rfl ?_
    refine j_getR F (pc := 23) (hb1.r hρ9 0 rfl) fl_X1_112 (hb1.1 0 _ rfl) rfl (by decide +kernel) ?_
    refine j_iload_n F (pc := 26) (q := 2) (by decide +kernel) rfl ?_
    obtain ⟨hg, h⟩ := z_ifs h
    refine j_iald F (pc := 27) (hb1.1 1 _ rfl) hg (by decide +kernel) ?_
    refine j_iload_n F (pc := 28) (q := 3) (by decide +kernel) rfl ?_
    obtain ⟨r14, μ15, hc17, h⟩ := z_b2_some h
    refine j_callNi F (pc := 29) (idx := 69) (As := [.int (μ8.1 (o1 + 1) x2.toNatClampNeg), .int r7]) (st := []) (t_X4_bit (G := E.1) hρ9  hc17) q_X4_bit m_474 (by decide +kernel) rfl (by decide) (Nat.le_of_ble_eq_true rfl) rfl (by decide +kernel) (fun s20 ν18 hq19 hp => ?_)
    obtain ⟨rfl, rfl⟩ := hp
    have hρ16 : μ15.2.2 = ρ := hq19.trans hρ9
    refine j_iconst F (pc := 32) (n := 1) (v := 1) (by decide +kernel) (by decide +kernel) ?_
    refine j_icmp_ne F (pc := 33) (off := 9) (tgt := 42) (by decide +kernel) (by decide) (fun c => ?_) (fun c => ?_)
    · rw [if_neg c] at h
      refine j_aload_n F (pc := 42) (q := 1) (by decide +kernel) rfl ?_
      refine j_getR F (pc := 43) (hb1.r hρ16 0 rfl) fl_X1_112 (hb1.1 0 _ rfl) rfl (by decide +kernel) ?_
      refine j_iload_n F (pc := 46) (q := 2) (by decide +kernel) rfl ?_
      refine j_dup2 F (pc := 47) (by decide +kernel) rfl rfl ?_
      obtain ⟨hg, h⟩ := z_ifs h
      refine j_iald F (pc := 48) (hb1.1 1 _ rfl) hg (by decide +kernel) ?_
      refine j_iconst F (pc := 49) (n := 1) (v := 1) (by decide +kernel) (by decide +kernel) ?_
      refine j_iload_n F (pc := 50) (q := 3) (by decide +kernel) rfl ?_
      refine j_ishl F (pc := 51) (by decide +kernel) ?_
      refine j_ior F (pc := 52) (by decide +kernel) ?_
      obtain ⟨hg, h⟩ := z_ifs h
      refine j_iast F (pc := 53) (hb1.1 1 _ rfl) hg (by decide +kernel) ?_
      obtain ⟨μ21, e23, h⟩ := z_st_some h
      rw [← e23]
      have hρ22 : μ21.2.2 = ρ := by rw [e23]; exact hρ16
      refine j_iconst F (pc := 54) (n := 1) (v := 1) (by decide +kernel) (by decide +kernel) ?_
      exact j_iret (st := []) F Rt rfl (by decide +kernel) ⟨hρ22, _, rfl, (congrArg Prod.fst (Option.some.inj h)).symm, (congrArg Prod.snd (Option.some.inj h)).symm⟩
    · rw [if_pos c] at h
      refine j_aload_n F (pc := 36) (q := 0) (by decide +kernel) rfl ?_
      refine j_iconst F (pc := 37) (n := 3) (v := 3) (by decide +kernel) (by decide +kernel) ?_
      obtain ⟨r24, μ25, hc27, h⟩ := z_b2_some h
      refine j_callVi F (pc := 38) (idx := 62) (As := [.int (3 : Int32)]) (st := []) (t_X1_refuse (G := E.1) hρ16 hk hc27) q_X1_refuse v_X1_refuse m_465 (hk.s c_2) rfl rfl (by decide) (Nat.le_of_ble_eq_true rfl) rfl (by decide +kernel) (fun s30 ν28 hq29 hp => ?_)
      obtain ⟨rfl, rfl⟩ := hp
      have hρ26 : μ25.2.2 = ρ := hq29.trans hρ16
      obtain ⟨hg, h⟩ := z_ifs h
      exact j_iret (st := []) F Rt (z_nb hg) (by decide +kernel) ⟨hρ26, _, rfl, (congrArg Prod.fst (Option.some.inj h)).symm, (congrArg Prod.snd (Option.some.inj h)).symm⟩
  · rw [if_pos c] at h
    refine j_aload_n F (pc := 16) (q := 0) (by decide +kernel) rfl ?_
    refine j_iconst F (pc := 17) (n := 1) (v := 1) (by decide +kernel) (by decide +kernel) ?_
    obtain ⟨r31, μ32, hc34, h⟩ := z_b2_some h
    refine j_callVi F (pc := 18) (idx := 62) (As := [.int (1 : Int32)]) (st := []) (t_X1_refuse (G := E.1) hρ9 hk hc34) q_X1_refuse v_X1_refuse m_465 (hk.s c_2) rfl rfl (by decide) (Nat.le_of_ble_eq_true rfl) rfl (by decide +kernel) (fun s37 ν35 hq36 hp => ?_)
    obtain ⟨rfl, rfl⟩ := hp
    have hρ33 : μ32.2.2 = ρ := hq36.trans hρ9
    obtain ⟨hg, h⟩ := z_ifs h
    exact j_iret (st := []) F Rt (z_nb hg) (by decide +kernel) ⟨hρ33, _, rfl, (congrArg Prod.fst (Option.some.inj h)).symm, (congrArg Prod.snd (Option.some.inj h)).symm⟩
/-- LastLent$LawText.isFundNext -/
def f_X1_isFundNext  (μ : z_M) : Option (Int32 × z_M) :=
  (z_lt (μ.1 2 6) fun x_1 => (z_b1 (f_X1_nextToken  μ) fun μ4 => (z_b2 (f_X1_wordIn (2) μ4) fun r9 μ10 => (z_lt (if r9 = (-1 : Int32) then (0 : Int32) else (1 : Int32)) fun x_16 => (z_st (z_si μ10 2 6 x_1) fun μ18 => (if x_16 = 0 ∨ x_16 = 1 then some (x_16, μ18) else none))))))
set_option maxHeartbeats 4000000 in
set_option maxRecDepth 100000 in
theorem t_X1_isFundNext {G : z_Gl} {ρ : Nat → Nat → Option Nat} {μ : z_M} {r : Int32} {μr : z_M}  (hρ : μ.2.2 = ρ) (hk : z_ok (z_sh G) ρ) (h : f_X1_isFundNext  μ = some (r, μr)) : z_Ci G yX1_isFundNext cX1_isFundNext 3 (some .boolean) 7 [.ref 2] μ (fun r1 μ1 => r = r1 ∧ μr = μ1) := by
  unfold z_Ci
  refine z_intro (by decide +kernel) (Nat.le_of_ble_eq_true rfl) (fun E hE F Rt => ?_)
  subst hE
  have F : z_F E RX1 cX1_isFundNext 3 7 := F
  rw [hρ] at Rt
  unfold f_X1_isFundNext at h
  show z_J E 3 0 [some (.ref 2), none, none] [] μ
  refine j_aload_n F (pc := 0) (q := 0) (by decide +kernel) rfl ?_
  refine j_getI F (pc := 1) fl_X1_30 (hk.s c_2) rfl (by decide +kernel) ?_
  obtain ⟨x_1, e2, h⟩ := z_lt_some h
  rw [← e2]
  refine j_istore_n F (pc := 4) (q := 1) (L' := [some (.ref 2), some (.int x_1), none]) (by decide +kernel) (by decide) rfl rfl ?_
  refine j_aload_n F (pc := 5) (q := 0) (by decide +kernel) rfl ?_
  obtain ⟨μ4, hc6, h⟩ := z_b1_some h
  refine j_callVv F (pc := 6) (idx := 39) (As := []) (st := []) (t_X1_nextToken (G := E.1) hρ hk hc6) q_X1_nextToken v_X1_nextToken m_394 (hk.s c_2) rfl rfl (by decide) (Nat.le_of_ble_eq_true rfl) rfl (by decide +kernel) (fun ν7 hq8 hp => ?_)
  subst hp
  have hρ5 : μ4.2.2 = ρ := hq8.trans hρ
  refine j_aload_n F (pc := 9) (q := 0) (by decide +kernel) rfl ?_
  refine j_ldcS F (pc := 10) (i := 2) (idx := 123) rfl rfl (by decide +kernel) ?_
  obtain ⟨r9, μ10, hc12, h⟩ := z_b2_some h
  refine j_callVi F (pc := 12) (idx := 58) (As := [.ref (1000 + 2)]) (st := []) (t_X1_wordIn (G := E.1) hρ5 hk (by decide) hc12) q_X1_wordIn v_X1_wordIn m_409 (hk.s c_2) rfl rfl (by decide) (Nat.le_of_ble_eq_true rfl) rfl (by decide +kernel) (fun s15 ν13 hq14 hp => ?_)
  obtain ⟨rfl, rfl⟩ := hp
  have hρ11 : μ10.2.2 = ρ := hq14.trans hρ5
  refine j_iconst F (pc := 15) (n := -1) (v := -1) (by decide +kernel) (by decide +kernel) ?_
  suffices hj : z_J E 3 24 [some (.ref 2), some (.int x_1), none] (.int (if r9 = (-1 : Int32) then (0 : Int32) else (1 : Int32)) :: []) μ10 by
    refine j_icmp_eq F (pc := 16) (off := 7) (tgt := 23) (by decide +kernel) (by decide) (fun c0 => ?_) (fun c0 => ?_)
    · rw [if_pos c0] at hj
      refine j_iconst F (pc := 23) (n := 0) (v := 0) (by decide +kernel) (by decide +kernel) ?_
      exact hj
    · rw [if_neg c0] at hj
      refine j_iconst F (pc := 19) (n := 1) (v := 1) (by decide +kernel) (by decide +kernel) ?_
      refine j_goto F (pc := 20) (off := 4) (tgt := 24) (by decide +kernel) (by decide) ?_
      exact hj
  obtain ⟨x_16, e17, h⟩ := z_lt_some h
  rw [← e17]
  refine j_istore_n F (pc := 24) (q := 2) (L' := [some (.ref 2), some (.int x_1), some (.int x_16)]) (by decide +kernel) (by decide) rfl rfl ?_
  refine j_aload_n F (pc := 25) (q := 0) (by decide +kernel) rfl ?_
  refine j_iload_n F (pc := 26) (q := 1) (by decide +kernel) rfl ?_
  refine j_putI F (pc := 27) fl_X1_30 fp_X1_6 (hk.s c_2) rfl (by decide +kernel) ?_
  obtain ⟨μ18, e20, h⟩ := z_st_some h
  rw [← e20]
  have hρ19 : μ18.2.2 = ρ := by rw [e20]; exact hρ11
  refine j_iload_n F (pc := 30) (q := 2) (by decide +kernel) rfl ?_
  obtain ⟨hg, h⟩ := z_ifs h
  exact j_iret (st := []) F Rt (z_nb hg) (by decide +kernel) ⟨hρ19, _, rfl, (congrArg Prod.fst (Option.some.inj h)).symm, (congrArg Prod.snd (Option.some.inj h)).symm⟩
def g_X1_readRides_78 (o1 : Nat)   (μ : z_M) : Option (Int32 × z_M) :=
  (some ((if (μ.1 2 2) = 0 then (1 : Int32) else (0 : Int32)), μ))
def g_X1_readRides_40 (o1 : Nat)  : Nat → Int32 → Int32 → Int32 → z_M → Option (Int32 × z_M)
  | 0, _, _, _, _ => none
  | n + 1, x2, x3, x4, μ => (if (4 : Int32) ≤ x4 then (g_X1_readRides_78 o1   μ) else (if x3 = 0 then (g_X1_readRides_78 o1   μ) else (z_b2 (f_X1_readFund (o1) (x2) μ) fun r14 μ15 => (if r14 = 0 then (g_X1_readRides_40 o1  n (x2) ((0 : Int32)) ((x4 + (1 : Int32))) μ15) else (z_b2 (f_X1_isFundNext  μ15) fun r21 μ22 => (if r21 = 0 then (g_X1_readRides_40 o1  n (x2) ((0 : Int32)) ((x4 + (1 : Int32))) μ22) else (g_X1_readRides_40 o1  n (x2) ((1 : Int32)) ((x4 + (1 : Int32))) μ22)))))))
def f_X1_readRides (o1 : Nat) (μ : z_M) : Option (Int32 × z_M) :=
  (z_b2 (f_X1_readKind ((μ.1 2 8)) μ) fun r1 μ2 => (if r1 = (-1 : Int32) then (some ((0 : Int32), μ2)) else (z_st (z_si μ2 2 8 ((μ2.1 2 8) ||| ((1 : Int32) <<< (r1 &&& 31)))) fun μ8 => (if z_in r1 8 then (z_st (z_si μ8 (o1 + 1) r1.toNatClampNeg (0 : Int32)) fun μ11 => (g_X1_readRides_40 o1  z_N (r1) ((1 : Int32)) ((0 : Int32)) μ11)) else none))))
set_option maxHeartbeats 4000000 in
set_option maxRecDepth 100000 in
theorem u_X1_readRides_78 {E : z_E} {ρ : Nat → Nat → Option Nat} {r : Int32} {μr : z_M} (F : z_F E RX1 cX1_readRides 5 8) (Rt : z_R E (some .boolean) (fun v μ1 => μ1.2.2 = ρ ∧ ∃ r1, v = some (.int r1) ∧ r = r1 ∧ μr = μ1)) {o1 : Nat} (hk : z_ok (z_sh E.1) ρ) (hb1 : z_blk z_lawS z_lawR (z_sh E.1) ρ o1) : ∀  (μ : z_M), μ.2.2 = ρ → g_X1_readRides_78 o1   μ = some (r, μr) → z_J E 5 78 [some (.ref 2), none, none, none, none] [] μ := by
  intro  μ hρ h
  unfold g_X1_readRides_78 at h
  refine j_aload_n F (pc := 78) (q := 0) (by decide +kernel) rfl ?_
  refine j_getI F (pc := 79) fl_X1_15 (hk.s c_2) rfl (by decide +kernel) ?_
  suffices hj : z_J E 5 90 [some (.ref 2), none, none, none, none] (.int (if (μ.1 2 2) = 0 then (1 : Int32) else (0 : Int32)) :: []) μ by
    refine j_if_ne F (pc := 82) (off := 7) (tgt := 89) (by decide +kernel) (by decide) (fun c0 => ?_) (fun c0 => ?_)
    · rw [if_neg c0] at hj
      refine j_iconst F (pc := 89) (n := 0) (v := 0) (by decide +kernel) (by decide +kernel) ?_
      exact hj
    · rw [if_pos c0] at hj
      refine j_iconst F (pc := 85) (n := 1) (v := 1) (by decide +kernel) (by decide +kernel) ?_
      refine j_goto F (pc := 86) (off := 4) (tgt := 90) (by decide +kernel) (by decide) ?_
      exact hj
  exact j_iret (st := []) F Rt (z_nb (by repeat' (first | exact Or.inl rfl | exact Or.inr rfl | split))) (by decide +kernel) ⟨hρ, _, rfl, (congrArg Prod.fst (Option.some.inj h)).symm, (congrArg Prod.snd (Option.some.inj h)).symm⟩
set_option maxHeartbeats 4000000 in
set_option maxRecDepth 100000 in
theorem u_X1_readRides_40 {E : z_E} {ρ : Nat → Nat → Option Nat} {r : Int32} {μr : z_M} (F : z_F E RX1 cX1_readRides 5 8) (Rt : z_R E (some .boolean) (fun v μ1 => μ1.2.2 = ρ ∧ ∃ r1, v = some (.int r1) ∧ r = r1 ∧ μr = μ1)) {o1 : Nat} (hk : z_ok (z_sh E.1) ρ) (hb1 : z_blk z_lawS z_lawR (z_sh E.1) ρ o1) : ∀ (n : Nat) (x2 : Int32) (x3 : Int32) (x4 : Int32) (μ : z_M), μ.2.2 = ρ → g_X1_readRides_40 o1  n x2 x3 x4 μ = some (r, μr) → z_J E 5 40 [some (.ref 2), some (.ref o1), some (.int x2), some (.int x3), some (.int x4)] [] μ := by
  intro n
  induction n with
  | zero =>
    intro x2 x3 x4 μ hρ h
    rw [g_X1_readRides_40] at h
    cases h
  | succ n ih =>
    intro x2 x3 x4 μ hρ h
    rw [g_X1_readRides_40] at h
    refine j_iload F (pc := 40) (i := 4) (by decide +kernel) rfl ?_
    refine j_iconst F (pc := 42) (n := 4) (v := 4) (by decide +kernel) (by decide +kernel) ?_
    refine j_icmp_ge F (pc := 43) (off := 35) (tgt := 78) (by decide +kernel) (by decide) (fun c => ?_) (fun c => ?_)
    · rw [if_pos c] at h
      refine j_mk F [true, false, false, false, false] (L' := [some (.ref 2), none, none, none, none]) rfl ?_
      refine u_X1_readRides_78 F Rt hk hb1   _ hρ h
    · rw [if_neg c] at h
      refine j_iload_n F (pc := 46) (q := 3) (by decide +kernel) rfl ?_
      refine j_if_eq F (pc := 47) (off := 31) (tgt := 78) (by decide +kernel) (by decide) (fun c => ?_) (fun c => ?_)
      · rw [if_pos c] at h
        refine j_mk F [true, false, false, false, false] (L' := [some (.ref 2), none, none, none, none]) rfl ?_
        refine u_X1_readRides_78 F Rt hk hb1   _ hρ h
      · rw [if_neg c] at h
        refine j_aload_n F (pc := 50) (q := 0) (by decide +kernel) rfl ?_
        refine j_aload_n F (pc := 51) (q := 1) (by decide +kernel) rfl ?_
        refine j_iload_n F (pc := 52) (q := 2) (by decide +kernel) rfl ?_
        obtain ⟨r14, μ15, hc17, h⟩ := z_b2_some h
        refine j_callVi F (pc := 53) (idx := 115) (As := [.ref o1, .int x2]) (st := []) (t_X1_readFund (G := E.1) hρ hk hb1 hc17) q_X1_readFund v_X1_readFund m_489 (hk.s c_2) rfl rfl (by decide) (Nat.le_of_ble_eq_true rfl) rfl (by decide +kernel) (fun s20 ν18 hq19 hp => ?_)
        obtain ⟨rfl, rfl⟩ := hp
        have hρ16 : μ15.2.2 = ρ := hq19.trans hρ
        refine j_if_eq F (pc := 56) (off := 14) (tgt := 70) (by decide +kernel) (by decide) (fun c => ?_) (fun c => ?_)
        · rw [if_pos c] at h
          refine j_iconst F (pc := 70) (n := 0) (v := 0) (by decide +kernel) (by decide +kernel) ?_
          refine j_istore_n F (pc := 71) (q := 3) (L' := [some (.ref 2), some (.ref o1), some (.int x2), some (.int (0 : Int32)), some (.int x4)]) (by decide +kernel) (by decide) rfl rfl ?_
          refine j_iinc F (pc := 72) (i := 4) (n := 1) (v := 1) (L' := [some (.ref 2), some (.ref o1), some (.int x2), some (.int (0 : Int32)), some (.int (x4 + (1 : Int32)))]) (by decide +kernel) rfl (by decide +kernel) (by decide) rfl rfl ?_
          refine j_goto F (pc := 75) (off := -35) (tgt := 40) (by decide +kernel) (by decide) ?_
          exact ih _ _ _ _ hρ16 h
        · rw [if_neg c] at h
          refine j_aload_n F (pc := 59) (q := 0) (by decide +kernel) rfl ?_
          obtain ⟨r21, μ22, hc24, h⟩ := z_b2_some h
          refine j_callVi F (pc := 60) (idx := 119) (As := []) (st := []) (t_X1_isFundNext (G := E.1) hρ16 hk hc24) q_X1_isFundNext v_X1_isFundNext m_494 (hk.s c_2) rfl rfl (by decide) (Nat.le_of_ble_eq_true rfl) rfl (by decide +kernel) (fun s27 ν25 hq26 hp => ?_)
          obtain ⟨rfl, rfl⟩ := hp
          have hρ23 : μ22.2.2 = ρ := hq26.trans hρ16
          refine j_if_eq F (pc := 63) (off := 7) (tgt := 70) (by decide +kernel) (by decide) (fun c => ?_) (fun c => ?_)
          · rw [if_pos c] at h
            refine j_iconst F (pc := 70) (n := 0) (v := 0) (by decide +kernel) (by decide +kernel) ?_
            refine j_istore_n F (pc := 71) (q := 3) (L' := [some (.ref 2), some (.ref o1), some (.int x2), some (.int (0 : Int32)), some (.int x4)]) (by decide +kernel) (by decide) rfl rfl ?_
            refine j_iinc F (pc := 72) (i := 4) (n := 1) (v := 1) (L' := [some (.ref 2), some (.ref o1), some (.int x2), some (.int (0 : Int32)), some (.int (x4 + (1 : Int32)))]) (by decide +kernel) rfl (by decide +kernel) (by decide) rfl rfl ?_
            refine j_goto F (pc := 75) (off := -35) (tgt := 40) (by decide +kernel) (by decide) ?_
            exact ih _ _ _ _ hρ23 h
          · rw [if_neg c] at h
            refine j_iconst F (pc := 66) (n := 1) (v := 1) (by decide +kernel) (by decide +kernel) ?_
            refine j_goto F (pc := 67) (off := 4) (tgt := 71) (by decide +kernel) (by decide) ?_
            refine j_istore_n F (pc := 71) (q := 3) (L' := [some (.ref 2), some (.ref o1), some (.int x2), some (.int (1 : Int32)), some (.int x4)]) (by decide +kernel) (by decide) rfl rfl ?_
            refine j_iinc F (pc := 72) (i := 4) (n := 1) (v := 1) (L' := [some (.ref 2), some (.ref o1), some (.int x2), some (.int (1 : Int32)), some (.int (x4 + (1 : Int32)))]) (by decide +kernel) rfl (by decide +kernel) (by decide) rfl rfl ?_
            refine j_goto F (pc := 75) (off := -35) (tgt := 40) (by decide +kernel) (by decide) ?_
            exact ih _ _ _ _ hρ23 h
set_option maxHeartbeats 4000000 in
set_option maxRecDepth 100000 in
theorem t_X1_readRides {G : z_Gl} {ρ : Nat → Nat → Option Nat} {μ : z_M} {r : Int32} {μr : z_M} {o1 : Nat} (hρ : μ.2.2 = ρ) (hk : z_ok (z_sh G) ρ) (hb1 : z_blk z_lawS z_lawR (z_sh G) ρ o1) (h : f_X1_readRides o1 μ = some (r, μr)) : z_Ci G yX1_readRides cX1_readRides 5 (some .boolean) 8 [.ref 2, .ref o1] μ (fun r1 μ1 => r = r1 ∧ μr = μ1) := by
  unfold z_Ci
  refine z_intro (by decide +kernel) (Nat.le_of_ble_eq_true rfl) (fun E hE F Rt => ?_)
  subst hE
  have F : z_F E RX1 cX1_readRides 5 8 := F
  rw [hρ] at Rt
  unfold f_X1_readRides at h
  show z_J E 5 0 [some (.ref 2), some (.ref o1), none, none, none] [] μ
  refine j_aload_n F (pc := 0) (q := 0) (by decide +kernel) rfl ?_
  refine j_aload_n F (pc := 1) (q := 0) (by decide +kernel) rfl ?_
  refine j_getI F (pc := 2) fl_X1_36 (hk.s c_2) rfl (by decide +kernel) ?_
  obtain ⟨r1, μ2, hc4, h⟩ := z_b2_some h
  refine j_callVi F (pc := 5) (idx := 108) (As := [.int (μ.1 2 8)]) (st := []) (t_X1_readKind (G := E.1) hρ hk hc4) q_X1_readKind v_X1_readKind m_484 (hk.s c_2) rfl rfl (by decide) (Nat.le_of_ble_eq_true rfl) rfl (by decide +kernel) (fun s7 ν5 hq6 hp => ?_)
  obtain ⟨rfl, rfl⟩ := hp
  have hρ3 : μ2.2.2 = ρ := hq6.trans hρ
  refine j_istore_n F (pc := 8) (q := 2) (L' := [some (.ref 2), some (.ref o1), some (.int r1), none, none]) (by decide +kernel) (by decide) rfl rfl ?_
  refine j_iload_n F (pc := 9) (q := 2) (by decide +kernel) rfl ?_
  refine j_iconst F (pc := 10) (n := -1) (v := -1) (by decide +kernel) (by decide +kernel) ?_
  refine j_icmp_ne F (pc := 11) (off := 5) (tgt := 16) (by decide +kernel) (by decide) (fun c => ?_) (fun c => ?_)
  · rw [if_neg c] at h
    refine j_aload_n F (pc := 16) (q := 0) (by decide +kernel) rfl ?_
    refine j_dup F (pc := 17) (by decide +kernel) rfl ?_
    refine j_getI F (pc := 18) fl_X1_36 (hk.s c_2) rfl (by decide +kernel) ?_
    refine j_iconst F (pc := 21) (n := 1) (v := 1) (by decide +kernel) (by decide +kernel) ?_
    refine j_iload_n F (pc := 22) (q := 2) (by decide +kernel) rfl ?_
    refine j_ishl F (pc := 23) (by decide +kernel) ?_
    refine j_ior F (pc := 24) (by decide +kernel) ?_
    refine j_putI F (pc := 25) fl_X1_36 fp_X1_8 (hk.s c_2) rfl (by decide +kernel) ?_
    obtain ⟨μ8, e10, h⟩ := z_st_some h
    rw [← e10]
    have hρ9 : μ8.2.2 = ρ := by rw [e10]; exact hρ3
    refine j_aload_n F (pc := 28) (q := 1) (by decide +kernel) rfl ?_
    refine j_getR F (pc := 29) (hb1.r hρ9 0 rfl) fl_X1_112 (hb1.1 0 _ rfl) rfl (by decide +kernel) ?_
    refine j_iload_n F (pc := 32) (q := 2) (by decide +kernel) rfl ?_
    refine j_iconst F (pc := 33) (n := 0) (v := 0) (by decide +kernel) (by decide +kernel) ?_
    obtain ⟨hg, h⟩ := z_ifs h
    refine j_iast F (pc := 34) (hb1.1 1 _ rfl) hg (by decide +kernel) ?_
    obtain ⟨μ11, e13, h⟩ := z_st_some h
    rw [← e13]
    have hρ12 : μ11.2.2 = ρ := by rw [e13]; exact hρ9
    refine j_iconst F (pc := 35) (n := 1) (v := 1) (by decide +kernel) (by decide +kernel) ?_
    refine j_istore_n F (pc := 36) (q := 3) (L' := [some (.ref 2), some (.ref o1), some (.int r1), some (.int (1 : Int32)), none]) (by decide +kernel) (by decide) rfl rfl ?_
    refine j_iconst F (pc := 37) (n := 0) (v := 0) (by decide +kernel) (by decide +kernel) ?_
    refine j_istore F (pc := 38) (i := 4) (L' := [some (.ref 2), some (.ref o1), some (.int r1), some (.int (1 : Int32)), some (.int (0 : Int32))]) (by decide +kernel) (by decide) rfl rfl ?_
    refine u_X1_readRides_40 F Rt hk hb1  z_N _ _ _ _ hρ12 h
  · rw [if_pos c] at h
    refine j_iconst F (pc := 14) (n := 0) (v := 0) (by decide +kernel) (by decide +kernel) ?_
    exact j_iret (st := []) F Rt rfl (by decide +kernel) ⟨hρ3, _, rfl, (congrArg Prod.fst (Option.some.inj h)).symm, (congrArg Prod.snd (Option.some.inj h)).symm⟩
/-- LastLent$LawText.readAhead -/
def f_X1_readAhead (o1 : Nat) (μ : z_M) : Option (Int32 × z_M) :=
  (z_b2 (f_X1_readKind ((0 : Int32)) μ) fun r1 μ2 => (if r1 = (-1 : Int32) then (some ((0 : Int32), μ2)) else (z_b2 (f_X1_readKind (((1 : Int32) <<< (r1 &&& 31))) μ2) fun r8 μ9 => (if r8 = (-1 : Int32) then (some ((0 : Int32), μ9)) else (if z_in r1 8 then (if z_in r1 8 then (z_st (z_si μ9 (o1 + 3) r1.toNatClampNeg ((μ9.1 (o1 + 3) r1.toNatClampNeg) ||| ((1 : Int32) <<< (r8 &&& 31)))) fun μ15 => (z_st (z_si μ15 o1 8 ((μ15.1 o1 8) + (1 : Int32))) fun μ18 => (some ((1 : Int32), μ18)))) else none) else none)))))
set_option maxHeartbeats 4000000 in
set_option maxRecDepth 100000 in
theorem t_X1_readAhead {G : z_Gl} {ρ : Nat → Nat → Option Nat} {μ : z_M} {r : Int32} {μr : z_M} {o1 : Nat} (hρ : μ.2.2 = ρ) (hk : z_ok (z_sh G) ρ) (hb1 : z_blk z_lawS z_lawR (z_sh G) ρ o1) (h : f_X1_readAhead o1 μ = some (r, μr)) : z_Ci G yX1_readAhead cX1_readAhead 4 (some .boolean) 8 [.ref 2, .ref o1] μ (fun r1 μ1 => r = r1 ∧ μr = μ1) := by
  unfold z_Ci
  refine z_intro (by decide +kernel) (Nat.le_of_ble_eq_true rfl) (fun E hE F Rt => ?_)
  subst hE
  have F : z_F E RX1 cX1_readAhead 4 8 := F
  rw [hρ] at Rt
  unfold f_X1_readAhead at h
  show z_J E 4 0 [some (.ref 2), some (.ref o1), none, none] [] μ
  refine j_aload_n F (pc := 0) (q := 0) (by decide +kernel) rfl ?_
  refine j_iconst F (pc := 1) (n := 0) (v := 0) (by decide +kernel) (by decide +kernel) ?_
  obtain ⟨r1, μ2, hc4, h⟩ := z_b2_some h
  refine j_callVi F (pc := 2) (idx := 108) (As := [.int (0 : Int32)]) (st := []) (t_X1_readKind (G := E.1) hρ hk hc4) q_X1_readKind v_X1_readKind m_484 (hk.s c_2) rfl rfl (by decide) (Nat.le_of_ble_eq_true rfl) rfl (by decide +kernel) (fun s7 ν5 hq6 hp => ?_)
  obtain ⟨rfl, rfl⟩ := hp
  have hρ3 : μ2.2.2 = ρ := hq6.trans hρ
  refine j_istore_n F (pc := 5) (q := 2) (L' := [some (.ref 2), some (.ref o1), some (.int r1), none]) (by decide +kernel) (by decide) rfl rfl ?_
  refine j_iload_n F (pc := 6) (q := 2) (by decide +kernel) rfl ?_
  refine j_iconst F (pc := 7) (n := -1) (v := -1) (by decide +kernel) (by decide +kernel) ?_
  refine j_icmp_ne F (pc := 8) (off := 5) (tgt := 13) (by decide +kernel) (by decide) (fun c => ?_) (fun c => ?_)
  · rw [if_neg c] at h
    refine j_aload_n F (pc := 13) (q := 0) (by decide +kernel) rfl ?_
    refine j_iconst F (pc := 14) (n := 1) (v := 1) (by decide +kernel) (by decide +kernel) ?_
    refine j_iload_n F (pc := 15) (q := 2) (by decide +kernel) rfl ?_
    refine j_ishl F (pc := 16) (by decide +kernel) ?_
    obtain ⟨r8, μ9, hc11, h⟩ := z_b2_some h
    refine j_callVi F (pc := 17) (idx := 108) (As := [.int ((1 : Int32) <<< (r1 &&& 31))]) (st := []) (t_X1_readKind (G := E.1) hρ3 hk hc11) q_X1_readKind v_X1_readKind m_484 (hk.s c_2) rfl rfl (by decide) (Nat.le_of_ble_eq_true rfl) rfl (by decide +kernel) (fun s14 ν12 hq13 hp => ?_)
    obtain ⟨rfl, rfl⟩ := hp
    have hρ10 : μ9.2.2 = ρ := hq13.trans hρ3
    refine j_istore_n F (pc := 20) (q := 3) (L' := [some (.ref 2), some (.ref o1), some (.int r1), some (.int r8)]) (by decide +kernel) (by decide) rfl rfl ?_
    refine j_iload_n F (pc := 21) (q := 3) (by decide +kernel) rfl ?_
    refine j_iconst F (pc := 22) (n := -1) (v := -1) (by decide +kernel) (by decide +kernel) ?_
    refine j_icmp_ne F (pc := 23) (off := 5) (tgt := 28) (by decide +kernel) (by decide) (fun c => ?_) (fun c => ?_)
    · rw [if_neg c] at h
      refine j_aload_n F (pc := 28) (q := 1) (by decide +kernel) rfl ?_
      refine j_getR F (pc := 29) (hb1.r hρ10 2 rfl) fl_X1_125 (hb1.1 0 _ rfl) rfl (by decide +kernel) ?_
      refine j_iload_n F (pc := 32) (q := 2) (by decide +kernel) rfl ?_
      refine j_dup2 F (pc := 33) (by decide +kernel) rfl rfl ?_
      obtain ⟨hg, h⟩ := z_ifs h
      refine j_iald F (pc := 34) (hb1.1 3 _ rfl) hg (by decide +kernel) ?_
      refine j_iconst F (pc := 35) (n := 1) (v := 1) (by decide +kernel) (by decide +kernel) ?_
      refine j_iload_n F (pc := 36) (q := 3) (by decide +kernel) rfl ?_
      refine j_ishl F (pc := 37) (by decide +kernel) ?_
      refine j_ior F (pc := 38) (by decide +kernel) ?_
      obtain ⟨hg, h⟩ := z_ifs h
      refine j_iast F (pc := 39) (hb1.1 3 _ rfl) hg (by decide +kernel) ?_
      obtain ⟨μ15, e17, h⟩ := z_st_some h
      rw [← e17]
      have hρ16 : μ15.2.2 = ρ := by rw [e17]; exact hρ10
      refine j_aload_n F (pc := 40) (q := 1) (by decide +kernel) rfl ?_
      refine j_dup F (pc := 41) (by decide +kernel) rfl ?_
      refine j_getI F (pc := 42) fl_X1_73 (hb1.1 0 _ rfl) rfl (by decide +kernel) ?_
      refine j_iconst F (pc := 45) (n := 1) (v := 1) (by decide +kernel) (by decide +kernel) ?_
      refine j_iadd F (pc := 46) (by decide +kernel) ?_
      refine j_putI F (pc := 47) fl_X1_73 fp_X0_8 (hb1.1 0 _ rfl) rfl (by decide +kernel) ?_
      obtain ⟨μ18, e20, h⟩ := z_st_some h
      rw [← e20]
      have hρ19 : μ18.2.2 = ρ := by rw [e20]; exact hρ16
      refine j_iconst F (pc := 50) (n := 1) (v := 1) (by decide +kernel) (by decide +kernel) ?_
      exact j_iret (st := []) F Rt rfl (by decide +kernel) ⟨hρ19, _, rfl, (congrArg Prod.fst (Option.some.inj h)).symm, (congrArg Prod.snd (Option.some.inj h)).symm⟩
    · rw [if_pos c] at h
      refine j_iconst F (pc := 26) (n := 0) (v := 0) (by decide +kernel) (by decide +kernel) ?_
      exact j_iret (st := []) F Rt rfl (by decide +kernel) ⟨hρ10, _, rfl, (congrArg Prod.fst (Option.some.inj h)).symm, (congrArg Prod.snd (Option.some.inj h)).symm⟩
  · rw [if_pos c] at h
    refine j_iconst F (pc := 11) (n := 0) (v := 0) (by decide +kernel) (by decide +kernel) ?_
    exact j_iret (st := []) F Rt rfl (by decide +kernel) ⟨hρ3, _, rfl, (congrArg Prod.fst (Option.some.inj h)).symm, (congrArg Prod.snd (Option.some.inj h)).symm⟩
/-- LastLent$LawText.readFirst -/
def f_X1_readFirst (o1 : Nat) (μ : z_M) : Option (Int32 × z_M) :=
  (z_b2 (f_X1_readKind (((μ.1 o1 4) ||| (μ.1 o1 5))) μ) fun r1 μ2 => (if r1 = (-1 : Int32) then (some ((0 : Int32), μ2)) else (z_st (z_si μ2 o1 4 ((μ2.1 o1 4) ||| ((1 : Int32) <<< (r1 &&& 31)))) fun μ8 => (some ((1 : Int32), μ8)))))
set_option maxHeartbeats 4000000 in
set_option maxRecDepth 100000 in
theorem t_X1_readFirst {G : z_Gl} {ρ : Nat → Nat → Option Nat} {μ : z_M} {r : Int32} {μr : z_M} {o1 : Nat} (hρ : μ.2.2 = ρ) (hk : z_ok (z_sh G) ρ) (hb1 : z_blk z_lawS z_lawR (z_sh G) ρ o1) (h : f_X1_readFirst o1 μ = some (r, μr)) : z_Ci G yX1_readFirst cX1_readFirst 3 (some .boolean) 8 [.ref 2, .ref o1] μ (fun r1 μ1 => r = r1 ∧ μr = μ1) := by
  unfold z_Ci
  refine z_intro (by decide +kernel) (Nat.le_of_ble_eq_true rfl) (fun E hE F Rt => ?_)
  subst hE
  have F : z_F E RX1 cX1_readFirst 3 8 := F
  rw [hρ] at Rt
  unfold f_X1_readFirst at h
  show z_J E 3 0 [some (.ref 2), some (.ref o1), none] [] μ
  refine j_aload_n F (pc := 0) (q := 0) (by decide +kernel) rfl ?_
  refine j_aload_n F (pc := 1) (q := 1) (by decide +kernel) rfl ?_
  refine j_getI F (pc := 2) fl_X1_128 (hb1.1 0 _ rfl) rfl (by decide +kernel) ?_
  refine j_aload_n F (pc := 5) (q := 1) (by decide +kernel) rfl ?_
  refine j_getI F (pc := 6) fl_X1_131 (hb1.1 0 _ rfl) rfl (by decide +kernel) ?_
  refine j_ior F (pc := 9) (by decide +kernel) ?_
  obtain ⟨r1, μ2, hc4, h⟩ := z_b2_some h
  refine j_callVi F (pc := 10) (idx := 108) (As := [.int ((μ.1 o1 4) ||| (μ.1 o1 5))]) (st := []) (t_X1_readKind (G := E.1) hρ hk hc4) q_X1_readKind v_X1_readKind m_484 (hk.s c_2) rfl rfl (by decide) (Nat.le_of_ble_eq_true rfl) rfl (by decide +kernel) (fun s7 ν5 hq6 hp => ?_)
  obtain ⟨rfl, rfl⟩ := hp
  have hρ3 : μ2.2.2 = ρ := hq6.trans hρ
  refine j_istore_n F (pc := 13) (q := 2) (L' := [some (.ref 2), some (.ref o1), some (.int r1)]) (by decide +kernel) (by decide) rfl rfl ?_
  refine j_iload_n F (pc := 14) (q := 2) (by decide +kernel) rfl ?_
  refine j_iconst F (pc := 15) (n := -1) (v := -1) (by decide +kernel) (by decide +kernel) ?_
  refine j_icmp_ne F (pc := 16) (off := 5) (tgt := 21) (by decide +kernel) (by decide) (fun c => ?_) (fun c => ?_)
  · rw [if_neg c] at h
    refine j_aload_n F (pc := 21) (q := 1) (by decide +kernel) rfl ?_
    refine j_dup F (pc := 22) (by decide +kernel) rfl ?_
    refine j_getI F (pc := 23) fl_X1_128 (hb1.1 0 _ rfl) rfl (by decide +kernel) ?_
    refine j_iconst F (pc := 26) (n := 1) (v := 1) (by decide +kernel) (by decide +kernel) ?_
    refine j_iload_n F (pc := 27) (q := 2) (by decide +kernel) rfl ?_
    refine j_ishl F (pc := 28) (by decide +kernel) ?_
    refine j_ior F (pc := 29) (by decide +kernel) ?_
    refine j_putI F (pc := 30) fl_X1_128 fp_X0_4 (hb1.1 0 _ rfl) rfl (by decide +kernel) ?_
    obtain ⟨μ8, e10, h⟩ := z_st_some h
    rw [← e10]
    have hρ9 : μ8.2.2 = ρ := by rw [e10]; exact hρ3
    refine j_iconst F (pc := 33) (n := 1) (v := 1) (by decide +kernel) (by decide +kernel) ?_
    exact j_iret (st := []) F Rt rfl (by decide +kernel) ⟨hρ9, _, rfl, (congrArg Prod.fst (Option.some.inj h)).symm, (congrArg Prod.snd (Option.some.inj h)).symm⟩
  · rw [if_pos c] at h
    refine j_iconst F (pc := 19) (n := 0) (v := 0) (by decide +kernel) (by decide +kernel) ?_
    exact j_iret (st := []) F Rt rfl (by decide +kernel) ⟨hρ3, _, rfl, (congrArg Prod.fst (Option.some.inj h)).symm, (congrArg Prod.snd (Option.some.inj h)).symm⟩
/-- LastLent$LawText.readBehind -/
def f_X1_readBehind (o1 : Nat) (μ : z_M) : Option (Int32 × z_M) :=
  (z_b2 (f_X1_readKind (((μ.1 o1 4) ||| (μ.1 o1 5))) μ) fun r1 μ2 => (if r1 = (-1 : Int32) then (some ((0 : Int32), μ2)) else (z_st (z_si μ2 o1 5 ((μ2.1 o1 5) ||| ((1 : Int32) <<< (r1 &&& 31)))) fun μ8 => (some ((1 : Int32), μ8)))))
set_option maxHeartbeats 4000000 in
set_option maxRecDepth 100000 in
theorem t_X1_readBehind {G : z_Gl} {ρ : Nat → Nat → Option Nat} {μ : z_M} {r : Int32} {μr : z_M} {o1 : Nat} (hρ : μ.2.2 = ρ) (hk : z_ok (z_sh G) ρ) (hb1 : z_blk z_lawS z_lawR (z_sh G) ρ o1) (h : f_X1_readBehind o1 μ = some (r, μr)) : z_Ci G yX1_readBehind cX1_readBehind 3 (some .boolean) 8 [.ref 2, .ref o1] μ (fun r1 μ1 => r = r1 ∧ μr = μ1) := by
  unfold z_Ci
  refine z_intro (by decide +kernel) (Nat.le_of_ble_eq_true rfl) (fun E hE F Rt => ?_)
  subst hE
  have F : z_F E RX1 cX1_readBehind 3 8 := F
  rw [hρ] at Rt
  unfold f_X1_readBehind at h
  show z_J E 3 0 [some (.ref 2), some (.ref o1), none] [] μ
  refine j_aload_n F (pc := 0) (q := 0) (by decide +kernel) rfl ?_
  refine j_aload_n F (pc := 1) (q := 1) (by decide +kernel) rfl ?_
  refine j_getI F (pc := 2) fl_X1_128 (hb1.1 0 _ rfl) rfl (by decide +kernel) ?_
  refine j_aload_n F (pc := 5) (q := 1) (by decide +kernel) rfl ?_
  refine j_getI F (pc := 6) fl_X1_131 (hb1.1 0 _ rfl) rfl (by decide +kernel) ?_
  refine j_ior F (pc := 9) (by decide +kernel) ?_
  obtain ⟨r1, μ2, hc4, h⟩ := z_b2_some h
  refine j_callVi F (pc := 10) (idx := 108) (As := [.int ((μ.1 o1 4) ||| (μ.1 o1 5))]) (st := []) (t_X1_readKind (G := E.1) hρ hk hc4) q_X1_readKind v_X1_readKind m_484 (hk.s c_2) rfl rfl (by decide) (Nat.le_of_ble_eq_true rfl) rfl (by decide +kernel) (fun s7 ν5 hq6 hp => ?_)
  obtain ⟨rfl, rfl⟩ := hp
  have hρ3 : μ2.2.2 = ρ := hq6.trans hρ
  refine j_istore_n F (pc := 13) (q := 2) (L' := [some (.ref 2), some (.ref o1), some (.int r1)]) (by decide +kernel) (by decide) rfl rfl ?_
  refine j_iload_n F (pc := 14) (q := 2) (by decide +kernel) rfl ?_
  refine j_iconst F (pc := 15) (n := -1) (v := -1) (by decide +kernel) (by decide +kernel) ?_
  refine j_icmp_ne F (pc := 16) (off := 5) (tgt := 21) (by decide +kernel) (by decide) (fun c => ?_) (fun c => ?_)
  · rw [if_neg c] at h
    refine j_aload_n F (pc := 21) (q := 1) (by decide +kernel) rfl ?_
    refine j_dup F (pc := 22) (by decide +kernel) rfl ?_
    refine j_getI F (pc := 23) fl_X1_131 (hb1.1 0 _ rfl) rfl (by decide +kernel) ?_
    refine j_iconst F (pc := 26) (n := 1) (v := 1) (by decide +kernel) (by decide +kernel) ?_
    refine j_iload_n F (pc := 27) (q := 2) (by decide +kernel) rfl ?_
    refine j_ishl F (pc := 28) (by decide +kernel) ?_
    refine j_ior F (pc := 29) (by decide +kernel) ?_
    refine j_putI F (pc := 30) fl_X1_131 fp_X0_5 (hb1.1 0 _ rfl) rfl (by decide +kernel) ?_
    obtain ⟨μ8, e10, h⟩ := z_st_some h
    rw [← e10]
    have hρ9 : μ8.2.2 = ρ := by rw [e10]; exact hρ3
    refine j_iconst F (pc := 33) (n := 1) (v := 1) (by decide +kernel) (by decide +kernel) ?_
    exact j_iret (st := []) F Rt rfl (by decide +kernel) ⟨hρ9, _, rfl, (congrArg Prod.fst (Option.some.inj h)).symm, (congrArg Prod.snd (Option.some.inj h)).symm⟩
  · rw [if_pos c] at h
    refine j_iconst F (pc := 19) (n := 0) (v := 0) (by decide +kernel) (by decide +kernel) ?_
    exact j_iret (st := []) F Rt rfl (by decide +kernel) ⟨hρ3, _, rfl, (congrArg Prod.fst (Option.some.inj h)).symm, (congrArg Prod.snd (Option.some.inj h)).symm⟩
/-- LastLent$LawText.readWithin -/
def f_X1_readWithin (o1 : Nat) (μ : z_M) : Option (Int32 × z_M) :=
  (z_b1 (f_X1_nextToken  μ) fun μ2 => (z_b2 (f_X1_wordIn (3) μ2) fun r7 μ8 => (if r7 = (-1 : Int32) then (z_b2 (f_X1_refuse ((1 : Int32)) μ8) fun r17 μ18 => (if r17 = 0 ∨ r17 = 1 then some (r17, μ18) else none)) else (z_st (z_si μ8 o1 9 r7) fun μ14 => (some ((1 : Int32), μ14))))))
set_option maxHeartbeats 4000000 in
set_option maxRecDepth 100000 in
theorem t_X1_readWithin {G : z_Gl} {ρ : Nat → Nat → Option Nat} {μ : z_M} {r : Int32} {μr : z_M} {o1 : Nat} (hρ : μ.2.2 = ρ) (hk : z_ok (z_sh G) ρ) (hb1 : z_blk z_lawS z_lawR (z_sh G) ρ o1) (h : f_X1_readWithin o1 μ = some (r, μr)) : z_Ci G yX1_readWithin cX1_readWithin 3 (some .boolean) 7 [.ref 2, .ref o1] μ (fun r1 μ1 => r = r1 ∧ μr = μ1) := by
  unfold z_Ci
  refine z_intro (by decide +kernel) (Nat.le_of_ble_eq_true rfl) (fun E hE F Rt => ?_)
  subst hE
  have F : z_F E RX1 cX1_readWithin 3 7 := F
  rw [hρ] at Rt
  unfold f_X1_readWithin at h
  show z_J E 3 0 [some (.ref 2), some (.ref o1), none] [] μ
  refine j_aload_n F (pc := 0) (q := 0) (by decide +kernel) rfl ?_
  obtain ⟨μ2, hc4, h⟩ := z_b1_some h
  refine j_callVv F (pc := 1) (idx := 39) (As := []) (st := []) (t_X1_nextToken (G := E.1) hρ hk hc4) q_X1_nextToken v_X1_nextToken m_394 (hk.s c_2) rfl rfl (by decide) (Nat.le_of_ble_eq_true rfl) rfl (by decide +kernel) (fun ν5 hq6 hp => ?_)
  subst hp
  have hρ3 : μ2.2.2 = ρ := hq6.trans hρ
  refine j_aload_n F (pc := 4) (q := 0) (by decide +kernel) rfl ?_
  refine j_ldcS F (pc := 5) (i := 3) (idx := 134) rfl rfl (by decide +kernel) ?_
  obtain ⟨r7, μ8, hc10, h⟩ := z_b2_some h
  refine j_callVi F (pc := 7) (idx := 58) (As := [.ref (1000 + 3)]) (st := []) (t_X1_wordIn (G := E.1) hρ3 hk (by decide) hc10) q_X1_wordIn v_X1_wordIn m_409 (hk.s c_2) rfl rfl (by decide) (Nat.le_of_ble_eq_true rfl) rfl (by decide +kernel) (fun s13 ν11 hq12 hp => ?_)
  obtain ⟨rfl, rfl⟩ := hp
  have hρ9 : μ8.2.2 = ρ := hq12.trans hρ3
  refine j_istore_n F (pc := 10) (q := 2) (L' := [some (.ref 2), some (.ref o1), some (.int r7)]) (by decide +kernel) (by decide) rfl rfl ?_
  refine j_iload_n F (pc := 11) (q := 2) (by decide +kernel) rfl ?_
  refine j_iconst F (pc := 12) (n := -1) (v := -1) (by decide +kernel) (by decide +kernel) ?_
  refine j_icmp_ne F (pc := 13) (off := 9) (tgt := 22) (by decide +kernel) (by decide) (fun c => ?_) (fun c => ?_)
  · rw [if_neg c] at h
    refine j_aload_n F (pc := 22) (q := 1) (by decide +kernel) rfl ?_
    refine j_iload_n F (pc := 23) (q := 2) (by decide +kernel) rfl ?_
    refine j_putI F (pc := 24) fl_X1_136 fp_X0_9 (hb1.1 0 _ rfl) rfl (by decide +kernel) ?_
    obtain ⟨μ14, e16, h⟩ := z_st_some h
    rw [← e16]
    have hρ15 : μ14.2.2 = ρ := by rw [e16]; exact hρ9
    refine j_iconst F (pc := 27) (n := 1) (v := 1) (by decide +kernel) (by decide +kernel) ?_
    exact j_iret (st := []) F Rt rfl (by decide +kernel) ⟨hρ15, _, rfl, (congrArg Prod.fst (Option.some.inj h)).symm, (congrArg Prod.snd (Option.some.inj h)).symm⟩
  · rw [if_pos c] at h
    refine j_aload_n F (pc := 16) (q := 0) (by decide +kernel) rfl ?_
    refine j_iconst F (pc := 17) (n := 1) (v := 1) (by decide +kernel) (by decide +kernel) ?_
    obtain ⟨r17, μ18, hc20, h⟩ := z_b2_some h
    refine j_callVi F (pc := 18) (idx := 62) (As := [.int (1 : Int32)]) (st := []) (t_X1_refuse (G := E.1) hρ9 hk hc20) q_X1_refuse v_X1_refuse m_465 (hk.s c_2) rfl rfl (by decide) (Nat.le_of_ble_eq_true rfl) rfl (by decide +kernel) (fun s23 ν21 hq22 hp => ?_)
    obtain ⟨rfl, rfl⟩ := hp
    have hρ19 : μ18.2.2 = ρ := hq22.trans hρ9
    obtain ⟨hg, h⟩ := z_ifs h
    exact j_iret (st := []) F Rt (z_nb hg) (by decide +kernel) ⟨hρ19, _, rfl, (congrArg Prod.fst (Option.some.inj h)).symm, (congrArg Prod.snd (Option.some.inj h)).symm⟩
