/-! functions and contracts, written by wip/whole/dec.py -/
def g_X0_tellNothing_2 (o : Nat)  : Nat → Int32 → z_M → Option z_M
  | 0, _, _ => none
  | n + 1, x1, μ => (if (8 : Int32) ≤ x1 then (z_st (z_si μ o 4 (0 : Int32)) fun μ1 => (z_st (z_si μ1 o 5 (0 : Int32)) fun μ4 => (z_st (z_si μ4 o 6 (0 : Int32)) fun μ7 => (z_st (z_si μ7 o 7 (0 : Int32)) fun μ10 => (z_st (z_si μ10 o 8 (0 : Int32)) fun μ13 => (z_st (z_si μ13 o 9 (0 : Int32)) fun μ16 => (z_st (z_si μ16 o 10 (0 : Int32)) fun μ19 => (z_st (z_si μ19 o 11 (0 : Int32)) fun μ22 => (z_st (z_si μ22 o 12 (0 : Int32)) fun μ25 => (some μ25)))))))))) else (if z_in x1 8 then (z_st (z_si μ (o + 1) x1.toNatClampNeg (1 : Int32)) fun μ28 => (if z_in x1 8 then (z_st (z_si μ28 (o + 2) x1.toNatClampNeg (0 : Int32)) fun μ31 => (if z_in x1 8 then (z_st (z_si μ31 (o + 3) x1.toNatClampNeg (0 : Int32)) fun μ34 => (if z_in x1 8 then (z_st (z_si μ34 (o + 4) x1.toNatClampNeg (0 : Int32)) fun μ37 => (g_X0_tellNothing_2 o  n ((x1 + (1 : Int32))) μ37)) else none)) else none)) else none)) else none))
def f_X0_tellNothing (o : Nat) (μ : z_M) : Option z_M :=
  (g_X0_tellNothing_2 o  z_N ((0 : Int32)) μ)
set_option maxHeartbeats 4000000 in
set_option maxRecDepth 100000 in
theorem u_X0_tellNothing_2 {E : z_E} {ρ : Nat → Nat → Option Nat} {μr : z_M} (F : z_F E RX0 cX0_tellNothing 2 0) (Rt : z_R E none (fun v μ1 => μ1.2.2 = ρ ∧ v = none ∧ μr = μ1)) {o : Nat} (hb : z_blk z_lawS z_lawR (z_sh E.1) ρ o) : ∀ (n : Nat) (x1 : Int32) (μ : z_M), μ.2.2 = ρ → g_X0_tellNothing_2 o  n x1 μ = some μr → z_J E 2 2 [some (.ref o), some (.int x1)] [] μ := by
  intro n
  induction n with
  | zero =>
    intro x1 μ hρ h
    rw [g_X0_tellNothing_2] at h
    cases h
  | succ n ih =>
    intro x1 μ hρ h
    rw [g_X0_tellNothing_2] at h
    refine j_iload_n F (pc := 2) (q := 1) (by decide +kernel) rfl ?_
    refine j_bipush F (pc := 3) (n := 8) (v := 8) (by decide +kernel) (by decide +kernel) ?_
    refine j_icmp_ge F (pc := 5) (off := 37) (tgt := 42) (by decide +kernel) (by decide) (fun c => ?_) (fun c => ?_)
    · rw [if_pos c] at h
      refine j_aload_n F (pc := 42) (q := 0) (by decide +kernel) rfl ?_
      refine j_iconst F (pc := 43) (n := 0) (v := 0) (by decide +kernel) (by decide +kernel) ?_
      refine j_putI F (pc := 44) fl_X0_27 fp_X0_4 (hb.1 0 _ rfl) rfl (by decide +kernel) ?_
      obtain ⟨μ1, e3, h⟩ := z_st_some h
      rw [← e3]
      have hρ2 : μ1.2.2 = ρ := by rw [e3]; exact hρ
      refine j_aload_n F (pc := 47) (q := 0) (by decide +kernel) rfl ?_
      refine j_iconst F (pc := 48) (n := 0) (v := 0) (by decide +kernel) (by decide +kernel) ?_
      refine j_putI F (pc := 49) fl_X0_31 fp_X0_5 (hb.1 0 _ rfl) rfl (by decide +kernel) ?_
      obtain ⟨μ4, e6, h⟩ := z_st_some h
      rw [← e6]
      have hρ5 : μ4.2.2 = ρ := by rw [e6]; exact hρ2
      refine j_aload_n F (pc := 52) (q := 0) (by decide +kernel) rfl ?_
      refine j_iconst F (pc := 53) (n := 0) (v := 0) (by decide +kernel) (by decide +kernel) ?_
      refine j_putI F (pc := 54) fl_X0_34 fp_X0_6 (hb.1 0 _ rfl) rfl (by decide +kernel) ?_
      obtain ⟨μ7, e9, h⟩ := z_st_some h
      rw [← e9]
      have hρ8 : μ7.2.2 = ρ := by rw [e9]; exact hρ5
      refine j_aload_n F (pc := 57) (q := 0) (by decide +kernel) rfl ?_
      refine j_iconst F (pc := 58) (n := 0) (v := 0) (by decide +kernel) (by decide +kernel) ?_
      refine j_putI F (pc := 59) fl_X0_37 fp_X0_7 (hb.1 0 _ rfl) rfl (by decide +kernel) ?_
      obtain ⟨μ10, e12, h⟩ := z_st_some h
      rw [← e12]
      have hρ11 : μ10.2.2 = ρ := by rw [e12]; exact hρ8
      refine j_aload_n F (pc := 62) (q := 0) (by decide +kernel) rfl ?_
      refine j_iconst F (pc := 63) (n := 0) (v := 0) (by decide +kernel) (by decide +kernel) ?_
      refine j_putI F (pc := 64) fl_X0_40 fp_X0_8 (hb.1 0 _ rfl) rfl (by decide +kernel) ?_
      obtain ⟨μ13, e15, h⟩ := z_st_some h
      rw [← e15]
      have hρ14 : μ13.2.2 = ρ := by rw [e15]; exact hρ11
      refine j_aload_n F (pc := 67) (q := 0) (by decide +kernel) rfl ?_
      refine j_iconst F (pc := 68) (n := 0) (v := 0) (by decide +kernel) (by decide +kernel) ?_
      refine j_putI F (pc := 69) fl_X0_43 fp_X0_9 (hb.1 0 _ rfl) rfl (by decide +kernel) ?_
      obtain ⟨μ16, e18, h⟩ := z_st_some h
      rw [← e18]
      have hρ17 : μ16.2.2 = ρ := by rw [e18]; exact hρ14
      refine j_aload_n F (pc := 72) (q := 0) (by decide +kernel) rfl ?_
      refine j_iconst F (pc := 73) (n := 0) (v := 0) (by decide +kernel) (by decide +kernel) ?_
      refine j_putI F (pc := 74) fl_X0_46 fp_X0_10 (hb.1 0 _ rfl) rfl (by decide +kernel) ?_
      obtain ⟨μ19, e21, h⟩ := z_st_some h
      rw [← e21]
      have hρ20 : μ19.2.2 = ρ := by rw [e21]; exact hρ17
      refine j_aload_n F (pc := 77) (q := 0) (by decide +kernel) rfl ?_
      refine j_iconst F (pc := 78) (n := 0) (v := 0) (by decide +kernel) (by decide +kernel) ?_
      refine j_putZ F (pc := 79) (Or.inl rfl) fl_X0_49 fp_X0_11 (hb.1 0 _ rfl) rfl (by decide +kernel) ?_
      obtain ⟨μ22, e24, h⟩ := z_st_some h
      rw [← e24]
      have hρ23 : μ22.2.2 = ρ := by rw [e24]; exact hρ20
      refine j_aload_n F (pc := 82) (q := 0) (by decide +kernel) rfl ?_
      refine j_iconst F (pc := 83) (n := 0) (v := 0) (by decide +kernel) (by decide +kernel) ?_
      refine j_putZ F (pc := 84) (Or.inl rfl) fl_X0_53 fp_X0_12 (hb.1 0 _ rfl) rfl (by decide +kernel) ?_
      obtain ⟨μ25, e27, h⟩ := z_st_some h
      rw [← e27]
      have hρ26 : μ25.2.2 = ρ := by rw [e27]; exact hρ23
      exact j_vret (st := []) F Rt (by decide +kernel) ⟨hρ26, rfl, (Option.some.inj h).symm⟩
    · rw [if_neg c] at h
      refine j_aload_n F (pc := 8) (q := 0) (by decide +kernel) rfl ?_
      refine j_getR F (pc := 9) (hb.r hρ 0 rfl) fl_X0_9 (hb.1 0 _ rfl) rfl (by decide +kernel) ?_
      refine j_iload_n F (pc := 12) (q := 1) (by decide +kernel) rfl ?_
      refine j_iconst F (pc := 13) (n := 1) (v := 1) (by decide +kernel) (by decide +kernel) ?_
      obtain ⟨hg, h⟩ := z_ifs h
      refine j_iast F (pc := 14) (hb.1 1 _ rfl) hg (by decide +kernel) ?_
      obtain ⟨μ28, e30, h⟩ := z_st_some h
      rw [← e30]
      have hρ29 : μ28.2.2 = ρ := by rw [e30]; exact hρ
      refine j_aload_n F (pc := 15) (q := 0) (by decide +kernel) rfl ?_
      refine j_getR F (pc := 16) (hb.r hρ29 1 rfl) fl_X0_15 (hb.1 0 _ rfl) rfl (by decide +kernel) ?_
      refine j_iload_n F (pc := 19) (q := 1) (by decide +kernel) rfl ?_
      refine j_iconst F (pc := 20) (n := 0) (v := 0) (by decide +kernel) (by decide +kernel) ?_
      obtain ⟨hg, h⟩ := z_ifs h
      refine j_iast F (pc := 21) (hb.1 2 _ rfl) hg (by decide +kernel) ?_
      obtain ⟨μ31, e33, h⟩ := z_st_some h
      rw [← e33]
      have hρ32 : μ31.2.2 = ρ := by rw [e33]; exact hρ29
      refine j_aload_n F (pc := 22) (q := 0) (by decide +kernel) rfl ?_
      refine j_getR F (pc := 23) (hb.r hρ32 2 rfl) fl_X0_18 (hb.1 0 _ rfl) rfl (by decide +kernel) ?_
      refine j_iload_n F (pc := 26) (q := 1) (by decide +kernel) rfl ?_
      refine j_iconst F (pc := 27) (n := 0) (v := 0) (by decide +kernel) (by decide +kernel) ?_
      obtain ⟨hg, h⟩ := z_ifs h
      refine j_iast F (pc := 28) (hb.1 3 _ rfl) hg (by decide +kernel) ?_
      obtain ⟨μ34, e36, h⟩ := z_st_some h
      rw [← e36]
      have hρ35 : μ34.2.2 = ρ := by rw [e36]; exact hρ32
      refine j_aload_n F (pc := 29) (q := 0) (by decide +kernel) rfl ?_
      refine j_getR F (pc := 30) (hb.r hρ35 3 rfl) fl_X0_21 (hb.1 0 _ rfl) rfl (by decide +kernel) ?_
      refine j_iload_n F (pc := 33) (q := 1) (by decide +kernel) rfl ?_
      refine j_iconst F (pc := 34) (n := 0) (v := 0) (by decide +kernel) (by decide +kernel) ?_
      obtain ⟨hg, h⟩ := z_ifs h
      refine j_iast F (pc := 35) (hb.1 4 _ rfl) hg (by decide +kernel) ?_
      obtain ⟨μ37, e39, h⟩ := z_st_some h
      rw [← e39]
      have hρ38 : μ37.2.2 = ρ := by rw [e39]; exact hρ35
      refine j_iinc F (pc := 36) (i := 1) (n := 1) (v := 1) (L' := [some (.ref o), some (.int (x1 + (1 : Int32)))]) (by decide +kernel) rfl (by decide +kernel) (by decide) rfl rfl ?_
      refine j_goto F (pc := 39) (off := -37) (tgt := 2) (by decide +kernel) (by decide) ?_
      exact ih _ _ hρ38 h
set_option maxHeartbeats 4000000 in
set_option maxRecDepth 100000 in
theorem t_X0_tellNothing {G : z_Gl} {ρ : Nat → Nat → Option Nat} {μ : z_M} {μr : z_M} {o : Nat} (hρ : μ.2.2 = ρ) (hb : z_blk z_lawS z_lawR (z_sh G) ρ o) (h : f_X0_tellNothing o μ = some μr) : z_Cv G yX0_tellNothing cX0_tellNothing 2 none 0 [.ref o] μ (fun μ1 => μr = μ1) := by
  unfold z_Cv
  refine z_intro (by decide +kernel) (Nat.le_of_ble_eq_true rfl) (fun E hE F Rt => ?_)
  subst hE
  have F : z_F E RX0 cX0_tellNothing 2 0 := F
  rw [hρ] at Rt
  unfold f_X0_tellNothing at h
  show z_J E 2 0 [some (.ref o), none] [] μ
  refine j_iconst F (pc := 0) (n := 0) (v := 0) (by decide +kernel) (by decide +kernel) ?_
  refine j_istore_n F (pc := 1) (q := 1) (L' := [some (.ref o), some (.int (0 : Int32))]) (by decide +kernel) (by decide) rfl rfl ?_
  refine u_X0_tellNothing_2 F Rt hb  z_N _ _ hρ h
/-- LastLent.isLand -/
def f_X4_isLand (x0 : Int32) (μ : z_M) : Option (Int32 × z_M) :=
  (some ((if x0 < 0 then (0 : Int32) else (if (4 : Int32) ≤ x0 then (0 : Int32) else (1 : Int32))), μ))
set_option maxHeartbeats 4000000 in
set_option maxRecDepth 100000 in
theorem t_X4_isLand {G : z_Gl} {ρ : Nat → Nat → Option Nat} {μ : z_M} {r : Int32} {μr : z_M} {x0 : Int32} (hρ : μ.2.2 = ρ)  (h : f_X4_isLand x0 μ = some (r, μr)) : z_Ci G yX4_isLand cX4_isLand 1 (some .boolean) 0 [.int x0] μ (fun r1 μ1 => r = r1 ∧ μr = μ1) := by
  unfold z_Ci
  refine z_intro (by decide +kernel) (Nat.le_of_ble_eq_true rfl) (fun E hE F Rt => ?_)
  subst hE
  have F : z_F E RX4 cX4_isLand 1 0 := F
  rw [hρ] at Rt
  unfold f_X4_isLand at h
  show z_J E 1 0 [some (.int x0)] [] μ
  refine j_iload_n F (pc := 0) (q := 0) (by decide +kernel) rfl ?_
  suffices hj : z_J E 1 14 [some (.int x0)] (.int (if x0 < 0 then (0 : Int32) else (if (4 : Int32) ≤ x0 then (0 : Int32) else (1 : Int32))) :: []) μ by
    refine j_if_lt F (pc := 1) (off := 12) (tgt := 13) (by decide +kernel) (by decide) (fun c0 => ?_) (fun c0 => ?_)
    · rw [if_pos c0] at hj
      refine j_iconst F (pc := 13) (n := 0) (v := 0) (by decide +kernel) (by decide +kernel) ?_
      exact hj
    · rw [if_neg c0] at hj
      refine j_iload_n F (pc := 4) (q := 0) (by decide +kernel) rfl ?_
      refine j_iconst F (pc := 5) (n := 4) (v := 4) (by decide +kernel) (by decide +kernel) ?_
      refine j_icmp_ge F (pc := 6) (off := 7) (tgt := 13) (by decide +kernel) (by decide) (fun c1 => ?_) (fun c1 => ?_)
      · rw [if_pos c1] at hj
        refine j_iconst F (pc := 13) (n := 0) (v := 0) (by decide +kernel) (by decide +kernel) ?_
        exact hj
      · rw [if_neg c1] at hj
        refine j_iconst F (pc := 9) (n := 1) (v := 1) (by decide +kernel) (by decide +kernel) ?_
        refine j_goto F (pc := 10) (off := 4) (tgt := 14) (by decide +kernel) (by decide) ?_
        exact hj
  exact j_iret (st := []) F Rt (z_nb (by repeat' (first | exact Or.inl rfl | exact Or.inr rfl | split))) (by decide +kernel) ⟨hρ, _, rfl, (congrArg Prod.fst (Option.some.inj h)).symm, (congrArg Prod.snd (Option.some.inj h)).symm⟩
/-- LastLent.bit -/
def f_X4_bit (x0 : Int32) (x1 : Int32) (μ : z_M) : Option (Int32 × z_M) :=
  (some (((x0 >>> (x1 &&& 31)) &&& (1 : Int32)), μ))
set_option maxHeartbeats 4000000 in
set_option maxRecDepth 100000 in
theorem t_X4_bit {G : z_Gl} {ρ : Nat → Nat → Option Nat} {μ : z_M} {r : Int32} {μr : z_M} {x0 : Int32} {x1 : Int32} (hρ : μ.2.2 = ρ)  (h : f_X4_bit x0 x1 μ = some (r, μr)) : z_Ci G yX4_bit cX4_bit 2 (some .int) 0 [.int x0, .int x1] μ (fun r1 μ1 => r = r1 ∧ μr = μ1) := by
  unfold z_Ci
  refine z_intro (by decide +kernel) (Nat.le_of_ble_eq_true rfl) (fun E hE F Rt => ?_)
  subst hE
  have F : z_F E RX4 cX4_bit 2 0 := F
  rw [hρ] at Rt
  unfold f_X4_bit at h
  show z_J E 2 0 [some (.int x0), some (.int x1)] [] μ
  refine j_iload_n F (pc := 0) (q := 0) (by decide +kernel) rfl ?_
  refine j_iload_n F (pc := 1) (q := 1) (by decide +kernel) rfl ?_
  refine j_ishr F (pc := 2) (by decide +kernel) ?_
  refine j_iconst F (pc := 3) (n := 1) (v := 1) (by decide +kernel) (by decide +kernel) ?_
  refine j_iand F (pc := 4) (by decide +kernel) ?_
  exact j_iret (st := []) F Rt rfl (by decide +kernel) ⟨hρ, _, rfl, (congrArg Prod.fst (Option.some.inj h)).symm, (congrArg Prod.snd (Option.some.inj h)).symm⟩
def g_X0_followSteps_10 (o : Nat) (k_2 : Int32 → z_M → Option z_M) : Nat → Int32 → Int32 → z_M → Option z_M
  | 0, _, _, _ => none
  | n + 1, x1, x2, μ => (if (8 : Int32) ≤ x2 then (k_2 ((x1 + (1 : Int32))) μ) else (if z_in x2 8 then (z_b2 (f_X4_bit ((μ.1 (o + 3) x2.toNatClampNeg)) (x1) μ) fun r1 μ2 => (if r1 = (1 : Int32) then (if z_in x2 8 then (if z_in x1 8 then (if z_in x2 8 then (z_st (z_si μ2 (o + 3) x2.toNatClampNeg ((μ2.1 (o + 3) x2.toNatClampNeg) ||| (μ2.1 (o + 3) x1.toNatClampNeg))) fun μ8 => (g_X0_followSteps_10 o k_2 n (x1) ((x2 + (1 : Int32))) μ8)) else none) else none) else none) else (g_X0_followSteps_10 o k_2 n (x1) ((x2 + (1 : Int32))) μ2))) else none))
def g_X0_followSteps_2 (o : Nat)  : Nat → Int32 → z_M → Option z_M
  | 0, _, _ => none
  | n + 1, x1, μ => (if (8 : Int32) ≤ x1 then (some μ) else (g_X0_followSteps_10 o (fun (y13 : Int32) (μ11 : z_M) => (g_X0_followSteps_2 o  n (y13) μ11)) z_N (x1) ((0 : Int32)) μ))
def f_X0_followSteps (o : Nat) (μ : z_M) : Option z_M :=
  (g_X0_followSteps_2 o  z_N ((0 : Int32)) μ)
set_option maxHeartbeats 4000000 in
set_option maxRecDepth 100000 in
theorem u_X0_followSteps_10 {E : z_E} {ρ : Nat → Nat → Option Nat} {μr : z_M} (F : z_F E RX0 cX0_followSteps 3 1) (Rt : z_R E none (fun v μ1 => μ1.2.2 = ρ ∧ v = none ∧ μr = μ1)) {o : Nat} (hb : z_blk z_lawS z_lawR (z_sh E.1) ρ o) {k_2 : Int32 → z_M → Option z_M} (hc_2 : ∀ (y1 : Int32) (μ1 : z_M), μ1.2.2 = ρ → k_2 y1 μ1 = some μr → z_J E 3 2 [some (.ref o), some (.int y1), none] [] μ1) : ∀ (n : Nat) (x1 : Int32) (x2 : Int32) (μ : z_M), μ.2.2 = ρ → g_X0_followSteps_10 o k_2 n x1 x2 μ = some μr → z_J E 3 10 [some (.ref o), some (.int x1), some (.int x2)] [] μ := by
  intro n
  induction n with
  | zero =>
    intro x1 x2 μ hρ h
    rw [g_X0_followSteps_10] at h
    cases h
  | succ n ih =>
    intro x1 x2 μ hρ h
    rw [g_X0_followSteps_10] at h
    refine j_iload_n F (pc := 10) (q := 2) (by decide +kernel) rfl ?_
    refine j_bipush F (pc := 11) (n := 8) (v := 8) (by decide +kernel) (by decide +kernel) ?_
    refine j_icmp_ge F (pc := 13) (off := 38) (tgt := 51) (by decide +kernel) (by decide) (fun c => ?_) (fun c => ?_)
    · rw [if_pos c] at h
      refine j_iinc F (pc := 51) (i := 1) (n := 1) (v := 1) (L' := [some (.ref o), some (.int (x1 + (1 : Int32))), some (.int x2)]) (by decide +kernel) rfl (by decide +kernel) (by decide) rfl rfl ?_
      refine j_goto F (pc := 54) (off := -52) (tgt := 2) (by decide +kernel) (by decide) ?_
      refine j_mk F [true, true, false] (L' := [some (.ref o), some (.int (x1 + (1 : Int32))), none]) rfl ?_
      exact hc_2 _ _ hρ h
    · rw [if_neg c] at h
      refine j_aload_n F (pc := 16) (q := 0) (by decide +kernel) rfl ?_
      refine j_getR F (pc := 17) (hb.r hρ 2 rfl) fl_X0_18 (hb.1 0 _ rfl) rfl (by decide +kernel) ?_
      refine j_iload_n F (pc := 20) (q := 2) (by decide +kernel) rfl ?_
      obtain ⟨hg, h⟩ := z_ifs h
      refine j_iald F (pc := 21) (hb.1 3 _ rfl) hg (by decide +kernel) ?_
      refine j_iload_n F (pc := 22) (q := 1) (by decide +kernel) rfl ?_
      obtain ⟨r1, μ2, hc4, h⟩ := z_b2_some h
      refine j_callNi F (pc := 23) (As := [.int (μ.1 (o + 3) x2.toNatClampNeg), .int x1]) (st := []) (t_X4_bit (G := E.1) hρ  hc4) q_X4_bit m_474 (by decide +kernel) rfl (by decide) (Nat.le_of_ble_eq_true rfl) rfl (by decide +kernel) (fun s7 ν5 hq6 hp => ?_)
      obtain ⟨rfl, rfl⟩ := hp
      have hρ3 : μ2.2.2 = ρ := hq6.trans hρ
      refine j_iconst F (pc := 26) (n := 1) (v := 1) (by decide +kernel) (by decide +kernel) ?_
      refine j_icmp_ne F (pc := 27) (off := 18) (tgt := 45) (by decide +kernel) (by decide) (fun c => ?_) (fun c => ?_)
      · rw [if_neg c] at h
        refine j_iinc F (pc := 45) (i := 2) (n := 1) (v := 1) (L' := [some (.ref o), some (.int x1), some (.int (x2 + (1 : Int32)))]) (by decide +kernel) rfl (by decide +kernel) (by decide) rfl rfl ?_
        refine j_goto F (pc := 48) (off := -38) (tgt := 10) (by decide +kernel) (by decide) ?_
        exact ih _ _ _ hρ3 h
      · rw [if_pos c] at h
        refine j_aload_n F (pc := 30) (q := 0) (by decide +kernel) rfl ?_
        refine j_getR F (pc := 31) (hb.r hρ3 2 rfl) fl_X0_18 (hb.1 0 _ rfl) rfl (by decide +kernel) ?_
        refine j_iload_n F (pc := 34) (q := 2) (by decide +kernel) rfl ?_
        refine j_dup2 F (pc := 35) (by decide +kernel) rfl rfl ?_
        obtain ⟨hg, h⟩ := z_ifs h
        refine j_iald F (pc := 36) (hb.1 3 _ rfl) hg (by decide +kernel) ?_
        refine j_aload_n F (pc := 37) (q := 0) (by decide +kernel) rfl ?_
        refine j_getR F (pc := 38) (hb.r hρ3 2 rfl) fl_X0_18 (hb.1 0 _ rfl) rfl (by decide +kernel) ?_
        refine j_iload_n F (pc := 41) (q := 1) (by decide +kernel) rfl ?_
        obtain ⟨hg, h⟩ := z_ifs h
        refine j_iald F (pc := 42) (hb.1 3 _ rfl) hg (by decide +kernel) ?_
        refine j_ior F (pc := 43) (by decide +kernel) ?_
        obtain ⟨hg, h⟩ := z_ifs h
        refine j_iast F (pc := 44) (hb.1 3 _ rfl) hg (by decide +kernel) ?_
        obtain ⟨μ8, e10, h⟩ := z_st_some h
        rw [← e10]
        have hρ9 : μ8.2.2 = ρ := by rw [e10]; exact hρ3
        refine j_iinc F (pc := 45) (i := 2) (n := 1) (v := 1) (L' := [some (.ref o), some (.int x1), some (.int (x2 + (1 : Int32)))]) (by decide +kernel) rfl (by decide +kernel) (by decide) rfl rfl ?_
        refine j_goto F (pc := 48) (off := -38) (tgt := 10) (by decide +kernel) (by decide) ?_
        exact ih _ _ _ hρ9 h
set_option maxHeartbeats 4000000 in
set_option maxRecDepth 100000 in
theorem u_X0_followSteps_2 {E : z_E} {ρ : Nat → Nat → Option Nat} {μr : z_M} (F : z_F E RX0 cX0_followSteps 3 1) (Rt : z_R E none (fun v μ1 => μ1.2.2 = ρ ∧ v = none ∧ μr = μ1)) {o : Nat} (hb : z_blk z_lawS z_lawR (z_sh E.1) ρ o) : ∀ (n : Nat) (x1 : Int32) (μ : z_M), μ.2.2 = ρ → g_X0_followSteps_2 o  n x1 μ = some μr → z_J E 3 2 [some (.ref o), some (.int x1), none] [] μ := by
  intro n
  induction n with
  | zero =>
    intro x1 μ hρ h
    rw [g_X0_followSteps_2] at h
    cases h
  | succ n ih =>
    intro x1 μ hρ h
    rw [g_X0_followSteps_2] at h
    refine j_iload_n F (pc := 2) (q := 1) (by decide +kernel) rfl ?_
    refine j_bipush F (pc := 3) (n := 8) (v := 8) (by decide +kernel) (by decide +kernel) ?_
    refine j_icmp_ge F (pc := 5) (off := 52) (tgt := 57) (by decide +kernel) (by decide) (fun c => ?_) (fun c => ?_)
    · rw [if_pos c] at h
      exact j_vret (st := []) F Rt (by decide +kernel) ⟨hρ, rfl, (Option.some.inj h).symm⟩
    · rw [if_neg c] at h
      refine j_iconst F (pc := 8) (n := 0) (v := 0) (by decide +kernel) (by decide +kernel) ?_
      refine j_istore_n F (pc := 9) (q := 2) (L' := [some (.ref o), some (.int x1), some (.int (0 : Int32))]) (by decide +kernel) (by decide) rfl rfl ?_
      refine u_X0_followSteps_10 F Rt hb (fun y13 μ11 hρ12 h => ?_) z_N _ _ _ hρ h
      exact ih _ _ hρ12 h
set_option maxHeartbeats 4000000 in
set_option maxRecDepth 100000 in
theorem t_X0_followSteps {G : z_Gl} {ρ : Nat → Nat → Option Nat} {μ : z_M} {μr : z_M} {o : Nat} (hρ : μ.2.2 = ρ) (hb : z_blk z_lawS z_lawR (z_sh G) ρ o) (h : f_X0_followSteps o μ = some μr) : z_Cv G yX0_followSteps cX0_followSteps 3 none 1 [.ref o] μ (fun μ1 => μr = μ1) := by
  unfold z_Cv
  refine z_intro (by decide +kernel) (Nat.le_of_ble_eq_true rfl) (fun E hE F Rt => ?_)
  subst hE
  have F : z_F E RX0 cX0_followSteps 3 1 := F
  rw [hρ] at Rt
  unfold f_X0_followSteps at h
  show z_J E 3 0 [some (.ref o), none, none] [] μ
  refine j_iconst F (pc := 0) (n := 0) (v := 0) (by decide +kernel) (by decide +kernel) ?_
  refine j_istore_n F (pc := 1) (q := 1) (L' := [some (.ref o), some (.int (0 : Int32)), none]) (by decide +kernel) (by decide) rfl rfl ?_
  refine u_X0_followSteps_2 F Rt hb  z_N _ _ hρ h
def g_X0_raiseRanks_10 (o : Nat) (k_2 : Int32 → z_M → Option z_M) : Nat → Int32 → Int32 → z_M → Option z_M
  | 0, _, _, _ => none
  | n + 1, x1, x2, μ => (if (8 : Int32) ≤ x2 then (k_2 ((x1 + (1 : Int32))) μ) else (if z_in x2 8 then (z_b2 (f_X4_bit ((μ.1 (o + 3) x2.toNatClampNeg)) (x1) μ) fun r1 μ2 => (if r1 = (1 : Int32) then (if z_in x1 8 then (z_b2 (f_X4_bit ((μ2.1 (o + 3) x1.toNatClampNeg)) (x2) μ2) fun r8 μ9 => (if r8 = 0 then (if z_in x1 8 then (if z_in x2 8 then (if z_in x1 8 then (z_st (z_si μ9 (o + 4) x1.toNatClampNeg (if (μ9.1 (o + 4) x1.toNatClampNeg) < ((μ9.1 (o + 4) x2.toNatClampNeg) + (1 : Int32)) then ((μ9.1 (o + 4) x2.toNatClampNeg) + (1 : Int32)) else (μ9.1 (o + 4) x1.toNatClampNeg))) fun μ15 => (g_X0_raiseRanks_10 o k_2 n (x1) ((x2 + (1 : Int32))) μ15)) else none) else none) else none) else (g_X0_raiseRanks_10 o k_2 n (x1) ((x2 + (1 : Int32))) μ9))) else none) else (g_X0_raiseRanks_10 o k_2 n (x1) ((x2 + (1 : Int32))) μ2))) else none))
def g_X0_raiseRanks_2 (o : Nat)  : Nat → Int32 → z_M → Option z_M
  | 0, _, _ => none
  | n + 1, x1, μ => (if (8 : Int32) ≤ x1 then (some μ) else (g_X0_raiseRanks_10 o (fun (y20 : Int32) (μ18 : z_M) => (g_X0_raiseRanks_2 o  n (y20) μ18)) z_N (x1) ((0 : Int32)) μ))
def f_X0_raiseRanks (o : Nat) (μ : z_M) : Option z_M :=
  (g_X0_raiseRanks_2 o  z_N ((0 : Int32)) μ)
set_option maxHeartbeats 4000000 in
set_option maxRecDepth 100000 in
theorem u_X0_raiseRanks_10 {E : z_E} {ρ : Nat → Nat → Option Nat} {μr : z_M} (F : z_F E RX0 cX0_raiseRanks 3 1) (Rt : z_R E none (fun v μ1 => μ1.2.2 = ρ ∧ v = none ∧ μr = μ1)) {o : Nat} (hb : z_blk z_lawS z_lawR (z_sh E.1) ρ o) {k_2 : Int32 → z_M → Option z_M} (hc_2 : ∀ (y1 : Int32) (μ1 : z_M), μ1.2.2 = ρ → k_2 y1 μ1 = some μr → z_J E 3 2 [some (.ref o), some (.int y1), none] [] μ1) : ∀ (n : Nat) (x1 : Int32) (x2 : Int32) (μ : z_M), μ.2.2 = ρ → g_X0_raiseRanks_10 o k_2 n x1 x2 μ = some μr → z_J E 3 10 [some (.ref o), some (.int x1), some (.int x2)] [] μ := by
  intro n
  induction n with
  | zero =>
    intro x1 x2 μ hρ h
    rw [g_X0_raiseRanks_10] at h
    cases h
  | succ n ih =>
    intro x1 x2 μ hρ h
    rw [g_X0_raiseRanks_10] at h
    refine j_iload_n F (pc := 10) (q := 2) (by decide +kernel) rfl ?_
    refine j_bipush F (pc := 11) (n := 8) (v := 8) (by decide +kernel) (by decide +kernel) ?_
    refine j_icmp_ge F (pc := 13) (off := 59) (tgt := 72) (by decide +kernel) (by decide) (fun c => ?_) (fun c => ?_)
    · rw [if_pos c] at h
      refine j_iinc F (pc := 72) (i := 1) (n := 1) (v := 1) (L' := [some (.ref o), some (.int (x1 + (1 : Int32))), some (.int x2)]) (by decide +kernel) rfl (by decide +kernel) (by decide) rfl rfl ?_
      refine j_goto F (pc := 75) (off := -73) (tgt := 2) (by decide +kernel) (by decide) ?_
      refine j_mk F [true, true, false] (L' := [some (.ref o), some (.int (x1 + (1 : Int32))), none]) rfl ?_
      exact hc_2 _ _ hρ h
    · rw [if_neg c] at h
      refine j_aload_n F (pc := 16) (q := 0) (by decide +kernel) rfl ?_
      refine j_getR F (pc := 17) (hb.r hρ 2 rfl) fl_X0_18 (hb.1 0 _ rfl) rfl (by decide +kernel) ?_
      refine j_iload_n F (pc := 20) (q := 2) (by decide +kernel) rfl ?_
      obtain ⟨hg, h⟩ := z_ifs h
      refine j_iald F (pc := 21) (hb.1 3 _ rfl) hg (by decide +kernel) ?_
      refine j_iload_n F (pc := 22) (q := 1) (by decide +kernel) rfl ?_
      obtain ⟨r1, μ2, hc4, h⟩ := z_b2_some h
      refine j_callNi F (pc := 23) (As := [.int (μ.1 (o + 3) x2.toNatClampNeg), .int x1]) (st := []) (t_X4_bit (G := E.1) hρ  hc4) q_X4_bit m_474 (by decide +kernel) rfl (by decide) (Nat.le_of_ble_eq_true rfl) rfl (by decide +kernel) (fun s7 ν5 hq6 hp => ?_)
      obtain ⟨rfl, rfl⟩ := hp
      have hρ3 : μ2.2.2 = ρ := hq6.trans hρ
      refine j_iconst F (pc := 26) (n := 1) (v := 1) (by decide +kernel) (by decide +kernel) ?_
      refine j_icmp_ne F (pc := 27) (off := 39) (tgt := 66) (by decide +kernel) (by decide) (fun c => ?_) (fun c => ?_)
      · rw [if_neg c] at h
        refine j_iinc F (pc := 66) (i := 2) (n := 1) (v := 1) (L' := [some (.ref o), some (.int x1), some (.int (x2 + (1 : Int32)))]) (by decide +kernel) rfl (by decide +kernel) (by decide) rfl rfl ?_
        refine j_goto F (pc := 69) (off := -59) (tgt := 10) (by decide +kernel) (by decide) ?_
        exact ih _ _ _ hρ3 h
      · rw [if_pos c] at h
        refine j_aload_n F (pc := 30) (q := 0) (by decide +kernel) rfl ?_
        refine j_getR F (pc := 31) (hb.r hρ3 2 rfl) fl_X0_18 (hb.1 0 _ rfl) rfl (by decide +kernel) ?_
        refine j_iload_n F (pc := 34) (q := 1) (by decide +kernel) rfl ?_
        obtain ⟨hg, h⟩ := z_ifs h
        refine j_iald F (pc := 35) (hb.1 3 _ rfl) hg (by decide +kernel) ?_
        refine j_iload_n F (pc := 36) (q := 2) (by decide +kernel) rfl ?_
        obtain ⟨r8, μ9, hc11, h⟩ := z_b2_some h
        refine j_callNi F (pc := 37) (As := [.int (μ2.1 (o + 3) x1.toNatClampNeg), .int x2]) (st := []) (t_X4_bit (G := E.1) hρ3  hc11) q_X4_bit m_474 (by decide +kernel) rfl (by decide) (Nat.le_of_ble_eq_true rfl) rfl (by decide +kernel) (fun s14 ν12 hq13 hp => ?_)
        obtain ⟨rfl, rfl⟩ := hp
        have hρ10 : μ9.2.2 = ρ := hq13.trans hρ3
        refine j_if_ne F (pc := 40) (off := 26) (tgt := 66) (by decide +kernel) (by decide) (fun c => ?_) (fun c => ?_)
        · rw [if_neg c] at h
          refine j_iinc F (pc := 66) (i := 2) (n := 1) (v := 1) (L' := [some (.ref o), some (.int x1), some (.int (x2 + (1 : Int32)))]) (by decide +kernel) rfl (by decide +kernel) (by decide) rfl rfl ?_
          refine j_goto F (pc := 69) (off := -59) (tgt := 10) (by decide +kernel) (by decide) ?_
          exact ih _ _ _ hρ10 h
        · rw [if_pos c] at h
          refine j_aload_n F (pc := 43) (q := 0) (by decide +kernel) rfl ?_
          refine j_getR F (pc := 44) (hb.r hρ10 3 rfl) fl_X0_21 (hb.1 0 _ rfl) rfl (by decide +kernel) ?_
          refine j_iload_n F (pc := 47) (q := 1) (by decide +kernel) rfl ?_
          refine j_aload_n F (pc := 48) (q := 0) (by decide +kernel) rfl ?_
          refine j_getR F (pc := 49) (hb.r hρ10 3 rfl) fl_X0_21 (hb.1 0 _ rfl) rfl (by decide +kernel) ?_
          refine j_iload_n F (pc := 52) (q := 1) (by decide +kernel) rfl ?_
          obtain ⟨hg, h⟩ := z_ifs h
          refine j_iald F (pc := 53) (hb.1 4 _ rfl) hg (by decide +kernel) ?_
          refine j_aload_n F (pc := 54) (q := 0) (by decide +kernel) rfl ?_
          refine j_getR F (pc := 55) (hb.r hρ10 3 rfl) fl_X0_21 (hb.1 0 _ rfl) rfl (by decide +kernel) ?_
          refine j_iload_n F (pc := 58) (q := 2) (by decide +kernel) rfl ?_
          obtain ⟨hg, h⟩ := z_ifs h
          refine j_iald F (pc := 59) (hb.1 4 _ rfl) hg (by decide +kernel) ?_
          refine j_iconst F (pc := 60) (n := 1) (v := 1) (by decide +kernel) (by decide +kernel) ?_
          refine j_iadd F (pc := 61) (by decide +kernel) ?_
          refine j_mmax F (pc := 62) ⟨m_551, m_552, m_88, m_553⟩ (by decide) (Nat.le_of_ble_eq_true rfl) (by decide +kernel) ?_
          obtain ⟨hg, h⟩ := z_ifs h
          refine j_iast F (pc := 65) (hb.1 4 _ rfl) hg (by decide +kernel) ?_
          obtain ⟨μ15, e17, h⟩ := z_st_some h
          rw [← e17]
          have hρ16 : μ15.2.2 = ρ := by rw [e17]; exact hρ10
          refine j_iinc F (pc := 66) (i := 2) (n := 1) (v := 1) (L' := [some (.ref o), some (.int x1), some (.int (x2 + (1 : Int32)))]) (by decide +kernel) rfl (by decide +kernel) (by decide) rfl rfl ?_
          refine j_goto F (pc := 69) (off := -59) (tgt := 10) (by decide +kernel) (by decide) ?_
          exact ih _ _ _ hρ16 h
set_option maxHeartbeats 4000000 in
set_option maxRecDepth 100000 in
theorem u_X0_raiseRanks_2 {E : z_E} {ρ : Nat → Nat → Option Nat} {μr : z_M} (F : z_F E RX0 cX0_raiseRanks 3 1) (Rt : z_R E none (fun v μ1 => μ1.2.2 = ρ ∧ v = none ∧ μr = μ1)) {o : Nat} (hb : z_blk z_lawS z_lawR (z_sh E.1) ρ o) : ∀ (n : Nat) (x1 : Int32) (μ : z_M), μ.2.2 = ρ → g_X0_raiseRanks_2 o  n x1 μ = some μr → z_J E 3 2 [some (.ref o), some (.int x1), none] [] μ := by
  intro n
  induction n with
  | zero =>
    intro x1 μ hρ h
    rw [g_X0_raiseRanks_2] at h
    cases h
  | succ n ih =>
    intro x1 μ hρ h
    rw [g_X0_raiseRanks_2] at h
    refine j_iload_n F (pc := 2) (q := 1) (by decide +kernel) rfl ?_
    refine j_bipush F (pc := 3) (n := 8) (v := 8) (by decide +kernel) (by decide +kernel) ?_
    refine j_icmp_ge F (pc := 5) (off := 73) (tgt := 78) (by decide +kernel) (by decide) (fun c => ?_) (fun c => ?_)
    · rw [if_pos c] at h
      exact j_vret (st := []) F Rt (by decide +kernel) ⟨hρ, rfl, (Option.some.inj h).symm⟩
    · rw [if_neg c] at h
      refine j_iconst F (pc := 8) (n := 0) (v := 0) (by decide +kernel) (by decide +kernel) ?_
      refine j_istore_n F (pc := 9) (q := 2) (L' := [some (.ref o), some (.int x1), some (.int (0 : Int32))]) (by decide +kernel) (by decide) rfl rfl ?_
      refine u_X0_raiseRanks_10 F Rt hb (fun y20 μ18 hρ19 h => ?_) z_N _ _ _ hρ h
      exact ih _ _ hρ19 h
set_option maxHeartbeats 4000000 in
set_option maxRecDepth 100000 in
theorem t_X0_raiseRanks {G : z_Gl} {ρ : Nat → Nat → Option Nat} {μ : z_M} {μr : z_M} {o : Nat} (hρ : μ.2.2 = ρ) (hb : z_blk z_lawS z_lawR (z_sh G) ρ o) (h : f_X0_raiseRanks o μ = some μr) : z_Cv G yX0_raiseRanks cX0_raiseRanks 3 none 1 [.ref o] μ (fun μ1 => μr = μ1) := by
  unfold z_Cv
  refine z_intro (by decide +kernel) (Nat.le_of_ble_eq_true rfl) (fun E hE F Rt => ?_)
  subst hE
  have F : z_F E RX0 cX0_raiseRanks 3 1 := F
  rw [hρ] at Rt
  unfold f_X0_raiseRanks at h
  show z_J E 3 0 [some (.ref o), none, none] [] μ
  refine j_iconst F (pc := 0) (n := 0) (v := 0) (by decide +kernel) (by decide +kernel) ?_
  refine j_istore_n F (pc := 1) (q := 1) (L' := [some (.ref o), some (.int (0 : Int32)), none]) (by decide +kernel) (by decide) rfl rfl ?_
  refine u_X0_raiseRanks_2 F Rt hb  z_N _ _ hρ h
def g_X0_settle_41 (o : Nat)  : Nat → Int32 → z_M → Option z_M
  | 0, _, _ => none
  | n + 1, x1, μ => (if (8 : Int32) ≤ x1 then (some μ) else (z_b1 (f_X0_raiseRanks (o) μ) fun μ8 => (g_X0_settle_41 o  n ((x1 + (1 : Int32))) μ8)))
def g_X0_settle_6 (o : Nat)  : Nat → Int32 → z_M → Option z_M
  | 0, _, _ => none
  | n + 1, x1, μ => (if (8 : Int32) ≤ x1 then (g_X0_settle_41 o  z_N ((0 : Int32)) μ) else (if z_in x1 8 then (z_b2 (f_X4_bit ((μ.1 (o + 3) x1.toNatClampNeg)) (x1) μ) fun r13 μ14 => (z_st (z_si μ14 o 7 ((μ.1 o 7) ||| (r13 <<< (x1 &&& 31)))) fun μ20 => (g_X0_settle_6 o  n ((x1 + (1 : Int32))) μ20))) else none))
def f_X0_settle (o : Nat) (μ : z_M) : Option z_M :=
  (z_b1 (f_X0_followSteps (o) μ) fun μ2 => (g_X0_settle_6 o  z_N ((0 : Int32)) μ2))
set_option maxHeartbeats 4000000 in
set_option maxRecDepth 100000 in
theorem u_X0_settle_41 {E : z_E} {ρ : Nat → Nat → Option Nat} {μr : z_M} (F : z_F E RX0 cX0_settle 2 2) (Rt : z_R E none (fun v μ1 => μ1.2.2 = ρ ∧ v = none ∧ μr = μ1)) {o : Nat} (hb : z_blk z_lawS z_lawR (z_sh E.1) ρ o) : ∀ (n : Nat) (x1 : Int32) (μ : z_M), μ.2.2 = ρ → g_X0_settle_41 o  n x1 μ = some μr → z_J E 2 41 [some (.ref o), some (.int x1)] [] μ := by
  intro n
  induction n with
  | zero =>
    intro x1 μ hρ h
    rw [g_X0_settle_41] at h
    cases h
  | succ n ih =>
    intro x1 μ hρ h
    rw [g_X0_settle_41] at h
    refine j_iload_n F (pc := 41) (q := 1) (by decide +kernel) rfl ?_
    refine j_bipush F (pc := 42) (n := 8) (v := 8) (by decide +kernel) (by decide +kernel) ?_
    refine j_icmp_ge F (pc := 44) (off := 13) (tgt := 57) (by decide +kernel) (by decide) (fun c => ?_) (fun c => ?_)
    · rw [if_pos c] at h
      exact j_vret (st := []) F Rt (by decide +kernel) ⟨hρ, rfl, (Option.some.inj h).symm⟩
    · rw [if_neg c] at h
      refine j_aload_n F (pc := 47) (q := 0) (by decide +kernel) rfl ?_
      obtain ⟨μ8, hc10, h⟩ := z_b1_some h
      refine j_callVv F (pc := 48) (As := []) (st := []) (t_X0_raiseRanks (G := E.1) hρ hb hc10) q_X0_raiseRanks v_X0_raiseRanks m_547 (hb.1 0 _ rfl) rfl rfl (by decide) (Nat.le_of_ble_eq_true rfl) rfl (by decide +kernel) (fun ν11 hq12 hp => ?_)
      subst hp
      have hρ9 : μ8.2.2 = ρ := hq12.trans hρ
      refine j_iinc F (pc := 51) (i := 1) (n := 1) (v := 1) (L' := [some (.ref o), some (.int (x1 + (1 : Int32)))]) (by decide +kernel) rfl (by decide +kernel) (by decide) rfl rfl ?_
      refine j_goto F (pc := 54) (off := -13) (tgt := 41) (by decide +kernel) (by decide) ?_
      exact ih _ _ hρ9 h
set_option maxHeartbeats 4000000 in
set_option maxRecDepth 100000 in
theorem u_X0_settle_6 {E : z_E} {ρ : Nat → Nat → Option Nat} {μr : z_M} (F : z_F E RX0 cX0_settle 2 2) (Rt : z_R E none (fun v μ1 => μ1.2.2 = ρ ∧ v = none ∧ μr = μ1)) {o : Nat} (hb : z_blk z_lawS z_lawR (z_sh E.1) ρ o) : ∀ (n : Nat) (x1 : Int32) (μ : z_M), μ.2.2 = ρ → g_X0_settle_6 o  n x1 μ = some μr → z_J E 2 6 [some (.ref o), some (.int x1)] [] μ := by
  intro n
  induction n with
  | zero =>
    intro x1 μ hρ h
    rw [g_X0_settle_6] at h
    cases h
  | succ n ih =>
    intro x1 μ hρ h
    rw [g_X0_settle_6] at h
    refine j_iload_n F (pc := 6) (q := 1) (by decide +kernel) rfl ?_
    refine j_bipush F (pc := 7) (n := 8) (v := 8) (by decide +kernel) (by decide +kernel) ?_
    refine j_icmp_ge F (pc := 9) (off := 30) (tgt := 39) (by decide +kernel) (by decide) (fun c => ?_) (fun c => ?_)
    · rw [if_pos c] at h
      refine j_iconst F (pc := 39) (n := 0) (v := 0) (by decide +kernel) (by decide +kernel) ?_
      refine j_istore_n F (pc := 40) (q := 1) (L' := [some (.ref o), some (.int (0 : Int32))]) (by decide +kernel) (by decide) rfl rfl ?_
      refine u_X0_settle_41 F Rt hb  z_N _ _ hρ h
    · rw [if_neg c] at h
      refine j_aload_n F (pc := 12) (q := 0) (by decide +kernel) rfl ?_
      refine j_dup F (pc := 13) (by decide +kernel) rfl ?_
      refine j_getI F (pc := 14) fl_X0_37 (hb.1 0 _ rfl) rfl (by decide +kernel) ?_
      refine j_aload_n F (pc := 17) (q := 0) (by decide +kernel) rfl ?_
      refine j_getR F (pc := 18) (hb.r hρ 2 rfl) fl_X0_18 (hb.1 0 _ rfl) rfl (by decide +kernel) ?_
      refine j_iload_n F (pc := 21) (q := 1) (by decide +kernel) rfl ?_
      obtain ⟨hg, h⟩ := z_ifs h
      refine j_iald F (pc := 22) (hb.1 3 _ rfl) hg (by decide +kernel) ?_
      refine j_iload_n F (pc := 23) (q := 1) (by decide +kernel) rfl ?_
      obtain ⟨r13, μ14, hc16, h⟩ := z_b2_some h
      refine j_callNi F (pc := 24) (As := [.int (μ.1 (o + 3) x1.toNatClampNeg), .int x1]) (st := [.int (μ.1 o 7), .ref o]) (t_X4_bit (G := E.1) hρ  hc16) q_X4_bit m_474 (by decide +kernel) rfl (by decide) (Nat.le_of_ble_eq_true rfl) rfl (by decide +kernel) (fun s19 ν17 hq18 hp => ?_)
      obtain ⟨rfl, rfl⟩ := hp
      have hρ15 : μ14.2.2 = ρ := hq18.trans hρ
      refine j_iload_n F (pc := 27) (q := 1) (by decide +kernel) rfl ?_
      refine j_ishl F (pc := 28) (by decide +kernel) ?_
      refine j_ior F (pc := 29) (by decide +kernel) ?_
      refine j_putI F (pc := 30) fl_X0_37 fp_X0_7 (hb.1 0 _ rfl) rfl (by decide +kernel) ?_
      obtain ⟨μ20, e22, h⟩ := z_st_some h
      rw [← e22]
      have hρ21 : μ20.2.2 = ρ := by rw [e22]; exact hρ15
      refine j_iinc F (pc := 33) (i := 1) (n := 1) (v := 1) (L' := [some (.ref o), some (.int (x1 + (1 : Int32)))]) (by decide +kernel) rfl (by decide +kernel) (by decide) rfl rfl ?_
      refine j_goto F (pc := 36) (off := -30) (tgt := 6) (by decide +kernel) (by decide) ?_
      exact ih _ _ hρ21 h
set_option maxHeartbeats 4000000 in
set_option maxRecDepth 100000 in
theorem t_X0_settle {G : z_Gl} {ρ : Nat → Nat → Option Nat} {μ : z_M} {μr : z_M} {o : Nat} (hρ : μ.2.2 = ρ) (hb : z_blk z_lawS z_lawR (z_sh G) ρ o) (h : f_X0_settle o μ = some μr) : z_Cv G yX0_settle cX0_settle 2 none 2 [.ref o] μ (fun μ1 => μr = μ1) := by
  unfold z_Cv
  refine z_intro (by decide +kernel) (Nat.le_of_ble_eq_true rfl) (fun E hE F Rt => ?_)
  subst hE
  have F : z_F E RX0 cX0_settle 2 2 := F
  rw [hρ] at Rt
  unfold f_X0_settle at h
  show z_J E 2 0 [some (.ref o), none] [] μ
  refine j_aload_n F (pc := 0) (q := 0) (by decide +kernel) rfl ?_
  obtain ⟨μ2, hc4, h⟩ := z_b1_some h
  refine j_callVv F (pc := 1) (As := []) (st := []) (t_X0_followSteps (G := E.1) hρ hb hc4) q_X0_followSteps v_X0_followSteps m_542 (hb.1 0 _ rfl) rfl rfl (by decide) (Nat.le_of_ble_eq_true rfl) rfl (by decide +kernel) (fun ν5 hq6 hp => ?_)
  subst hp
  have hρ3 : μ2.2.2 = ρ := hq6.trans hρ
  refine j_iconst F (pc := 4) (n := 0) (v := 0) (by decide +kernel) (by decide +kernel) ?_
  refine j_istore_n F (pc := 5) (q := 1) (L' := [some (.ref o), some (.int (0 : Int32))]) (by decide +kernel) (by decide) rfl rfl ?_
  refine u_X0_settle_6 F Rt hb  z_N _ _ hρ3 h
/-- LastLent.isKind -/
def f_X4_isKind (x0 : Int32) (μ : z_M) : Option (Int32 × z_M) :=
  (some ((if x0 < 0 then (0 : Int32) else (if (8 : Int32) ≤ x0 then (0 : Int32) else (1 : Int32))), μ))
set_option maxHeartbeats 4000000 in
set_option maxRecDepth 100000 in
theorem t_X4_isKind {G : z_Gl} {ρ : Nat → Nat → Option Nat} {μ : z_M} {r : Int32} {μr : z_M} {x0 : Int32} (hρ : μ.2.2 = ρ)  (h : f_X4_isKind x0 μ = some (r, μr)) : z_Ci G yX4_isKind cX4_isKind 1 (some .boolean) 0 [.int x0] μ (fun r1 μ1 => r = r1 ∧ μr = μ1) := by
  unfold z_Ci
  refine z_intro (by decide +kernel) (Nat.le_of_ble_eq_true rfl) (fun E hE F Rt => ?_)
  subst hE
  have F : z_F E RX4 cX4_isKind 1 0 := F
  rw [hρ] at Rt
  unfold f_X4_isKind at h
  show z_J E 1 0 [some (.int x0)] [] μ
  refine j_iload_n F (pc := 0) (q := 0) (by decide +kernel) rfl ?_
  suffices hj : z_J E 1 15 [some (.int x0)] (.int (if x0 < 0 then (0 : Int32) else (if (8 : Int32) ≤ x0 then (0 : Int32) else (1 : Int32))) :: []) μ by
    refine j_if_lt F (pc := 1) (off := 13) (tgt := 14) (by decide +kernel) (by decide) (fun c0 => ?_) (fun c0 => ?_)
    · rw [if_pos c0] at hj
      refine j_iconst F (pc := 14) (n := 0) (v := 0) (by decide +kernel) (by decide +kernel) ?_
      exact hj
    · rw [if_neg c0] at hj
      refine j_iload_n F (pc := 4) (q := 0) (by decide +kernel) rfl ?_
      refine j_bipush F (pc := 5) (n := 8) (v := 8) (by decide +kernel) (by decide +kernel) ?_
      refine j_icmp_ge F (pc := 7) (off := 7) (tgt := 14) (by decide +kernel) (by decide) (fun c1 => ?_) (fun c1 => ?_)
      · rw [if_pos c1] at hj
        refine j_iconst F (pc := 14) (n := 0) (v := 0) (by decide +kernel) (by decide +kernel) ?_
        exact hj
      · rw [if_neg c1] at hj
        refine j_iconst F (pc := 10) (n := 1) (v := 1) (by decide +kernel) (by decide +kernel) ?_
        refine j_goto F (pc := 11) (off := 4) (tgt := 15) (by decide +kernel) (by decide) ?_
        exact hj
  exact j_iret (st := []) F Rt (z_nb (by repeat' (first | exact Or.inl rfl | exact Or.inr rfl | split))) (by decide +kernel) ⟨hρ, _, rfl, (congrArg Prod.fst (Option.some.inj h)).symm, (congrArg Prod.snd (Option.some.inj h)).symm⟩
/-- LastLent.isDay -/
def f_X4_isDay (x0 : Int32) (μ : z_M) : Option (Int32 × z_M) :=
  (some ((if x0 < 0 then (0 : Int32) else (if (999 : Int32) < x0 then (0 : Int32) else (1 : Int32))), μ))
set_option maxHeartbeats 4000000 in
set_option maxRecDepth 100000 in
theorem t_X4_isDay {G : z_Gl} {ρ : Nat → Nat → Option Nat} {μ : z_M} {r : Int32} {μr : z_M} {x0 : Int32} (hρ : μ.2.2 = ρ)  (h : f_X4_isDay x0 μ = some (r, μr)) : z_Ci G yX4_isDay cX4_isDay 1 (some .boolean) 0 [.int x0] μ (fun r1 μ1 => r = r1 ∧ μr = μ1) := by
  unfold z_Ci
  refine z_intro (by decide +kernel) (Nat.le_of_ble_eq_true rfl) (fun E hE F Rt => ?_)
  subst hE
  have F : z_F E RX4 cX4_isDay 1 0 := F
  rw [hρ] at Rt
  unfold f_X4_isDay at h
  show z_J E 1 0 [some (.int x0)] [] μ
  refine j_iload_n F (pc := 0) (q := 0) (by decide +kernel) rfl ?_
  suffices hj : z_J E 1 16 [some (.int x0)] (.int (if x0 < 0 then (0 : Int32) else (if (999 : Int32) < x0 then (0 : Int32) else (1 : Int32))) :: []) μ by
    refine j_if_lt F (pc := 1) (off := 14) (tgt := 15) (by decide +kernel) (by decide) (fun c0 => ?_) (fun c0 => ?_)
    · rw [if_pos c0] at hj
      refine j_iconst F (pc := 15) (n := 0) (v := 0) (by decide +kernel) (by decide +kernel) ?_
      exact hj
    · rw [if_neg c0] at hj
      refine j_iload_n F (pc := 4) (q := 0) (by decide +kernel) rfl ?_
      refine j_sipush F (pc := 5) (n := 999) (v := 999) (by decide +kernel) (by decide +kernel) ?_
      refine j_icmp_gt F (pc := 8) (off := 7) (tgt := 15) (by decide +kernel) (by decide) (fun c1 => ?_) (fun c1 => ?_)
      · rw [if_pos c1] at hj
        refine j_iconst F (pc := 15) (n := 0) (v := 0) (by decide +kernel) (by decide +kernel) ?_
        exact hj
      · rw [if_neg c1] at hj
        refine j_iconst F (pc := 11) (n := 1) (v := 1) (by decide +kernel) (by decide +kernel) ?_
        refine j_goto F (pc := 12) (off := 4) (tgt := 16) (by decide +kernel) (by decide) ?_
        exact hj
  exact j_iret (st := []) F Rt (z_nb (by repeat' (first | exact Or.inl rfl | exact Or.inr rfl | split))) (by decide +kernel) ⟨hρ, _, rfl, (congrArg Prod.fst (Option.some.inj h)).symm, (congrArg Prod.snd (Option.some.inj h)).symm⟩
/-- LastLent$Ship.lastEnd -/
def f_X3_lastEnd (o : Nat) (μ : z_M) : Option (Int32 × z_M) :=
  (if (¬ ((μ.1 o 0) ≤ 0) → z_in ((μ.1 o 0) - (1 : Int32)) 6) then (some ((if (μ.1 o 0) ≤ 0 then (-1 : Int32) else (μ.1 (o + 2) ((μ.1 o 0) - (1 : Int32)).toNatClampNeg)), μ)) else none)
set_option maxHeartbeats 4000000 in
set_option maxRecDepth 100000 in
theorem t_X3_lastEnd {G : z_Gl} {ρ : Nat → Nat → Option Nat} {μ : z_M} {r : Int32} {μr : z_M} {o : Nat} (hρ : μ.2.2 = ρ) (hb : z_blk z_shipS z_shipR (z_sh G) ρ o) (h : f_X3_lastEnd o μ = some (r, μr)) : z_Ci G yX3_lastEnd cX3_lastEnd 1 (some .int) 0 [.ref o] μ (fun r1 μ1 => r = r1 ∧ μr = μ1) := by
  unfold z_Ci
  refine z_intro (by decide +kernel) (Nat.le_of_ble_eq_true rfl) (fun E hE F Rt => ?_)
  subst hE
  have F : z_F E RX3 cX3_lastEnd 1 0 := F
  rw [hρ] at Rt
  unfold f_X3_lastEnd at h
  show z_J E 1 0 [some (.ref o)] [] μ
  refine j_aload_n F (pc := 0) (q := 0) (by decide +kernel) rfl ?_
  refine j_getI F (pc := 1) fl_X3_42 (hb.1 0 _ rfl) rfl (by decide +kernel) ?_
  obtain ⟨hg, h⟩ := z_ifs h
  suffices hj : z_J E 1 22 [some (.ref o)] (.int (if (μ.1 o 0) ≤ 0 then (-1 : Int32) else (μ.1 (o + 2) ((μ.1 o 0) - (1 : Int32)).toNatClampNeg)) :: []) μ by
    refine j_if_le F (pc := 4) (off := 17) (tgt := 21) (by decide +kernel) (by decide) (fun c0 => ?_) (fun c0 => ?_)
    · rw [if_pos c0] at hj
      refine j_iconst F (pc := 21) (n := -1) (v := -1) (by decide +kernel) (by decide +kernel) ?_
      exact hj
    · rw [if_neg c0] at hj
      refine j_aload_n F (pc := 7) (q := 0) (by decide +kernel) rfl ?_
      refine j_getR F (pc := 8) (hb.r hρ 4 rfl) fl_X3_15 (hb.1 0 _ rfl) rfl (by decide +kernel) ?_
      refine j_aload_n F (pc := 11) (q := 0) (by decide +kernel) rfl ?_
      refine j_getI F (pc := 12) fl_X3_42 (hb.1 0 _ rfl) rfl (by decide +kernel) ?_
      refine j_iconst F (pc := 15) (n := 1) (v := 1) (by decide +kernel) (by decide +kernel) ?_
      refine j_isub F (pc := 16) (by decide +kernel) ?_
      refine j_iald F (pc := 17) (hb.1 2 _ rfl) (hg c0) (by decide +kernel) ?_
      refine j_goto F (pc := 18) (off := 4) (tgt := 22) (by decide +kernel) (by decide) ?_
      exact hj
  exact j_iret (st := []) F Rt rfl (by decide +kernel) ⟨hρ, _, rfl, (congrArg Prod.fst (Option.some.inj h)).symm, (congrArg Prod.snd (Option.some.inj h)).symm⟩
/-- LastLent$Ship.addVoyage -/
def f_X3_addVoyage (o : Nat) (x1 : Int32) (x2 : Int32) (μ : z_M) : Option (Int32 × z_M) :=
  (if (μ.1 o 0) < (6 : Int32) then (if z_in (μ.1 o 0) 6 then (z_st (z_si μ (o + 1) (μ.1 o 0).toNatClampNeg x1) fun μ1 => (if z_in (μ1.1 o 0) 6 then (z_st (z_si μ1 (o + 2) (μ1.1 o 0).toNatClampNeg x2) fun μ4 => (z_st (z_si μ4 o 0 ((μ4.1 o 0) + (1 : Int32))) fun μ7 => (some (((μ7.1 o 0) - (1 : Int32)), μ7)))) else none)) else none) else (some ((-1004 : Int32), μ)))
set_option maxHeartbeats 4000000 in
set_option maxRecDepth 100000 in
theorem t_X3_addVoyage {G : z_Gl} {ρ : Nat → Nat → Option Nat} {μ : z_M} {r : Int32} {μr : z_M} {o : Nat} {x1 : Int32} {x2 : Int32} (hρ : μ.2.2 = ρ) (hb : z_blk z_shipS z_shipR (z_sh G) ρ o) (h : f_X3_addVoyage o x1 x2 μ = some (r, μr)) : z_Ci G yX3_addVoyage cX3_addVoyage 3 (some .int) 0 [.ref o, .int x1, .int x2] μ (fun r1 μ1 => r = r1 ∧ μr = μ1) := by
  unfold z_Ci
  refine z_intro (by decide +kernel) (Nat.le_of_ble_eq_true rfl) (fun E hE F Rt => ?_)
  subst hE
  have F : z_F E RX3 cX3_addVoyage 3 0 := F
  rw [hρ] at Rt
  unfold f_X3_addVoyage at h
  show z_J E 3 0 [some (.ref o), some (.int x1), some (.int x2)] [] μ
  refine j_aload_n F (pc := 0) (q := 0) (by decide +kernel) rfl ?_
  refine j_getI F (pc := 1) fl_X3_42 (hb.1 0 _ rfl) rfl (by decide +kernel) ?_
  refine j_bipush F (pc := 4) (n := 6) (v := 6) (by decide +kernel) (by decide +kernel) ?_
  refine j_icmp_lt F (pc := 6) (off := 7) (tgt := 13) (by decide +kernel) (by decide) (fun c => ?_) (fun c => ?_)
  · rw [if_pos c] at h
    refine j_aload_n F (pc := 13) (q := 0) (by decide +kernel) rfl ?_
    refine j_getR F (pc := 14) (hb.r hρ 3 rfl) fl_X3_9 (hb.1 0 _ rfl) rfl (by decide +kernel) ?_
    refine j_aload_n F (pc := 17) (q := 0) (by decide +kernel) rfl ?_
    refine j_getI F (pc := 18) fl_X3_42 (hb.1 0 _ rfl) rfl (by decide +kernel) ?_
    refine j_iload_n F (pc := 21) (q := 1) (by decide +kernel) rfl ?_
    obtain ⟨hg, h⟩ := z_ifs h
    refine j_iast F (pc := 22) (hb.1 1 _ rfl) hg (by decide +kernel) ?_
    obtain ⟨μ1, e3, h⟩ := z_st_some h
    rw [← e3]
    have hρ2 : μ1.2.2 = ρ := by rw [e3]; exact hρ
    refine j_aload_n F (pc := 23) (q := 0) (by decide +kernel) rfl ?_
    refine j_getR F (pc := 24) (hb.r hρ2 4 rfl) fl_X3_15 (hb.1 0 _ rfl) rfl (by decide +kernel) ?_
    refine j_aload_n F (pc := 27) (q := 0) (by decide +kernel) rfl ?_
    refine j_getI F (pc := 28) fl_X3_42 (hb.1 0 _ rfl) rfl (by decide +kernel) ?_
    refine j_iload_n F (pc := 31) (q := 2) (by decide +kernel) rfl ?_
    obtain ⟨hg, h⟩ := z_ifs h
    refine j_iast F (pc := 32) (hb.1 2 _ rfl) hg (by decide +kernel) ?_
    obtain ⟨μ4, e6, h⟩ := z_st_some h
    rw [← e6]
    have hρ5 : μ4.2.2 = ρ := by rw [e6]; exact hρ2
    refine j_aload_n F (pc := 33) (q := 0) (by decide +kernel) rfl ?_
    refine j_dup F (pc := 34) (by decide +kernel) rfl ?_
    refine j_getI F (pc := 35) fl_X3_42 (hb.1 0 _ rfl) rfl (by decide +kernel) ?_
    refine j_iconst F (pc := 38) (n := 1) (v := 1) (by decide +kernel) (by decide +kernel) ?_
    refine j_iadd F (pc := 39) (by decide +kernel) ?_
    refine j_putI F (pc := 40) fl_X3_42 fp_X3_0 (hb.1 0 _ rfl) rfl (by decide +kernel) ?_
    obtain ⟨μ7, e9, h⟩ := z_st_some h
    rw [← e9]
    have hρ8 : μ7.2.2 = ρ := by rw [e9]; exact hρ5
    refine j_aload_n F (pc := 43) (q := 0) (by decide +kernel) rfl ?_
    refine j_getI F (pc := 44) fl_X3_42 (hb.1 0 _ rfl) rfl (by decide +kernel) ?_
    refine j_iconst F (pc := 47) (n := 1) (v := 1) (by decide +kernel) (by decide +kernel) ?_
    refine j_isub F (pc := 48) (by decide +kernel) ?_
    exact j_iret (st := []) F Rt rfl (by decide +kernel) ⟨hρ8, _, rfl, (congrArg Prod.fst (Option.some.inj h)).symm, (congrArg Prod.snd (Option.some.inj h)).symm⟩
  · rw [if_neg c] at h
    refine j_sipush F (pc := 9) (n := -1004) (v := -1004) (by decide +kernel) (by decide +kernel) ?_
    exact j_iret (st := []) F Rt rfl (by decide +kernel) ⟨hρ, _, rfl, (congrArg Prod.fst (Option.some.inj h)).symm, (congrArg Prod.snd (Option.some.inj h)).symm⟩
/-- LastLent.isHolder -/
def f_X4_isHolder (x0 : Int32) (μ : z_M) : Option (Int32 × z_M) :=
  (some ((if x0 < 0 then (0 : Int32) else (if (6 : Int32) ≤ x0 then (0 : Int32) else (1 : Int32))), μ))
set_option maxHeartbeats 4000000 in
set_option maxRecDepth 100000 in
theorem t_X4_isHolder {G : z_Gl} {ρ : Nat → Nat → Option Nat} {μ : z_M} {r : Int32} {μr : z_M} {x0 : Int32} (hρ : μ.2.2 = ρ)  (h : f_X4_isHolder x0 μ = some (r, μr)) : z_Ci G yX4_isHolder cX4_isHolder 1 (some .boolean) 0 [.int x0] μ (fun r1 μ1 => r = r1 ∧ μr = μ1) := by
  unfold z_Ci
  refine z_intro (by decide +kernel) (Nat.le_of_ble_eq_true rfl) (fun E hE F Rt => ?_)
  subst hE
  have F : z_F E RX4 cX4_isHolder 1 0 := F
  rw [hρ] at Rt
  unfold f_X4_isHolder at h
  show z_J E 1 0 [some (.int x0)] [] μ
  refine j_iload_n F (pc := 0) (q := 0) (by decide +kernel) rfl ?_
  suffices hj : z_J E 1 15 [some (.int x0)] (.int (if x0 < 0 then (0 : Int32) else (if (6 : Int32) ≤ x0 then (0 : Int32) else (1 : Int32))) :: []) μ by
    refine j_if_lt F (pc := 1) (off := 13) (tgt := 14) (by decide +kernel) (by decide) (fun c0 => ?_) (fun c0 => ?_)
    · rw [if_pos c0] at hj
      refine j_iconst F (pc := 14) (n := 0) (v := 0) (by decide +kernel) (by decide +kernel) ?_
      exact hj
    · rw [if_neg c0] at hj
      refine j_iload_n F (pc := 4) (q := 0) (by decide +kernel) rfl ?_
      refine j_bipush F (pc := 5) (n := 6) (v := 6) (by decide +kernel) (by decide +kernel) ?_
      refine j_icmp_ge F (pc := 7) (off := 7) (tgt := 14) (by decide +kernel) (by decide) (fun c1 => ?_) (fun c1 => ?_)
      · rw [if_pos c1] at hj
        refine j_iconst F (pc := 14) (n := 0) (v := 0) (by decide +kernel) (by decide +kernel) ?_
        exact hj
      · rw [if_neg c1] at hj
        refine j_iconst F (pc := 10) (n := 1) (v := 1) (by decide +kernel) (by decide +kernel) ?_
        refine j_goto F (pc := 11) (off := 4) (tgt := 15) (by decide +kernel) (by decide) ?_
        exact hj
  exact j_iret (st := []) F Rt (z_nb (by repeat' (first | exact Or.inl rfl | exact Or.inr rfl | split))) (by decide +kernel) ⟨hρ, _, rfl, (congrArg Prod.fst (Option.some.inj h)).symm, (congrArg Prod.snd (Option.some.inj h)).symm⟩
/-- LastLent$Ship.addClaim -/
def f_X3_addClaim (o : Nat) (x1 : Int32) (x2 : Int32) (x3 : Int32) (x4 : Int32) (x5 : Int32) (x6 : Int32) (μ : z_M) : Option (Int32 × z_M) :=
  (if (μ.1 o 1) < (14 : Int32) then (if z_in (μ.1 o 1) 14 then (z_st (z_si μ (o + 3) (μ.1 o 1).toNatClampNeg x1) fun μ1 => (if z_in (μ1.1 o 1) 14 then (z_st (z_si μ1 (o + 4) (μ1.1 o 1).toNatClampNeg x2) fun μ4 => (if z_in (μ4.1 o 1) 14 then (z_st (z_si μ4 (o + 5) (μ4.1 o 1).toNatClampNeg x3) fun μ7 => (if z_in (μ7.1 o 1) 14 then (z_st (z_si μ7 (o + 6) (μ7.1 o 1).toNatClampNeg x4) fun μ10 => (z_st (z_si μ10 o 2 (if x5 = 0 then ((μ10.1 o 2) &&& (((1 : Int32) <<< ((μ10.1 o 1) &&& 31)) ^^^ (-1 : Int32))) else ((μ10.1 o 2) ||| ((1 : Int32) <<< ((μ10.1 o 1) &&& 31))))) fun μ13 => (if z_in (μ13.1 o 1) 14 then (z_st (z_si μ13 (o + 7) (μ13.1 o 1).toNatClampNeg x6) fun μ16 => (if z_in (μ16.1 o 1) 14 then (z_st (z_si μ16 (o + 8) (μ16.1 o 1).toNatClampNeg (-1 : Int32)) fun μ19 => (z_st (z_si μ19 o 1 ((μ19.1 o 1) + (1 : Int32))) fun μ22 => (some (((μ22.1 o 1) - (1 : Int32)), μ22)))) else none)) else none))) else none)) else none)) else none)) else none) else (some ((-1004 : Int32), μ)))
set_option maxHeartbeats 4000000 in
set_option maxRecDepth 100000 in
theorem t_X3_addClaim {G : z_Gl} {ρ : Nat → Nat → Option Nat} {μ : z_M} {r : Int32} {μr : z_M} {o : Nat} {x1 : Int32} {x2 : Int32} {x3 : Int32} {x4 : Int32} {x5 : Int32} {x6 : Int32} (hρ : μ.2.2 = ρ) (hb : z_blk z_shipS z_shipR (z_sh G) ρ o) (h : f_X3_addClaim o x1 x2 x3 x4 x5 x6 μ = some (r, μr)) : z_Ci G yX3_addClaim cX3_addClaim 7 (some .int) 0 [.ref o, .int x1, .int x2, .int x3, .int x4, .int x5, .int x6] μ (fun r1 μ1 => r = r1 ∧ μr = μ1) := by
  unfold z_Ci
  refine z_intro (by decide +kernel) (Nat.le_of_ble_eq_true rfl) (fun E hE F Rt => ?_)
  subst hE
  have F : z_F E RX3 cX3_addClaim 7 0 := F
  rw [hρ] at Rt
  unfold f_X3_addClaim at h
  show z_J E 7 0 [some (.ref o), some (.int x1), some (.int x2), some (.int x3), some (.int x4), some (.int x5), some (.int x6)] [] μ
  refine j_aload_n F (pc := 0) (q := 0) (by decide +kernel) rfl ?_
  refine j_getI F (pc := 1) fl_X3_46 (hb.1 0 _ rfl) rfl (by decide +kernel) ?_
  refine j_bipush F (pc := 4) (n := 14) (v := 14) (by decide +kernel) (by decide +kernel) ?_
  refine j_icmp_lt F (pc := 6) (off := 7) (tgt := 13) (by decide +kernel) (by decide) (fun c => ?_) (fun c => ?_)
  · rw [if_pos c] at h
    refine j_aload_n F (pc := 13) (q := 0) (by decide +kernel) rfl ?_
    refine j_getR F (pc := 14) (hb.r hρ 5 rfl) fl_X3_18 (hb.1 0 _ rfl) rfl (by decide +kernel) ?_
    refine j_aload_n F (pc := 17) (q := 0) (by decide +kernel) rfl ?_
    refine j_getI F (pc := 18) fl_X3_46 (hb.1 0 _ rfl) rfl (by decide +kernel) ?_
    refine j_iload_n F (pc := 21) (q := 1) (by decide +kernel) rfl ?_
    obtain ⟨hg, h⟩ := z_ifs h
    refine j_iast F (pc := 22) (hb.1 3 _ rfl) hg (by decide +kernel) ?_
    obtain ⟨μ1, e3, h⟩ := z_st_some h
    rw [← e3]
    have hρ2 : μ1.2.2 = ρ := by rw [e3]; exact hρ
    refine j_aload_n F (pc := 23) (q := 0) (by decide +kernel) rfl ?_
    refine j_getR F (pc := 24) (hb.r hρ2 6 rfl) fl_X3_21 (hb.1 0 _ rfl) rfl (by decide +kernel) ?_
    refine j_aload_n F (pc := 27) (q := 0) (by decide +kernel) rfl ?_
    refine j_getI F (pc := 28) fl_X3_46 (hb.1 0 _ rfl) rfl (by decide +kernel) ?_
    refine j_iload_n F (pc := 31) (q := 2) (by decide +kernel) rfl ?_
    obtain ⟨hg, h⟩ := z_ifs h
    refine j_iast F (pc := 32) (hb.1 4 _ rfl) hg (by decide +kernel) ?_
    obtain ⟨μ4, e6, h⟩ := z_st_some h
    rw [← e6]
    have hρ5 : μ4.2.2 = ρ := by rw [e6]; exact hρ2
    refine j_aload_n F (pc := 33) (q := 0) (by decide +kernel) rfl ?_
    refine j_getR F (pc := 34) (hb.r hρ5 7 rfl) fl_X3_24 (hb.1 0 _ rfl) rfl (by decide +kernel) ?_
    refine j_aload_n F (pc := 37) (q := 0) (by decide +kernel) rfl ?_
    refine j_getI F (pc := 38) fl_X3_46 (hb.1 0 _ rfl) rfl (by decide +kernel) ?_
    refine j_iload_n F (pc := 41) (q := 3) (by decide +kernel) rfl ?_
    obtain ⟨hg, h⟩ := z_ifs h
    refine j_iast F (pc := 42) (hb.1 5 _ rfl) hg (by decide +kernel) ?_
    obtain ⟨μ7, e9, h⟩ := z_st_some h
    rw [← e9]
    have hρ8 : μ7.2.2 = ρ := by rw [e9]; exact hρ5
    refine j_aload_n F (pc := 43) (q := 0) (by decide +kernel) rfl ?_
    refine j_getR F (pc := 44) (hb.r hρ8 8 rfl) fl_X3_27 (hb.1 0 _ rfl) rfl (by decide +kernel) ?_
    refine j_aload_n F (pc := 47) (q := 0) (by decide +kernel) rfl ?_
    refine j_getI F (pc := 48) fl_X3_46 (hb.1 0 _ rfl) rfl (by decide +kernel) ?_
    refine j_iload F (pc := 51) (i := 4) (by decide +kernel) rfl ?_
    obtain ⟨hg, h⟩ := z_ifs h
    refine j_iast F (pc := 53) (hb.1 6 _ rfl) hg (by decide +kernel) ?_
    obtain ⟨μ10, e12, h⟩ := z_st_some h
    rw [← e12]
    have hρ11 : μ10.2.2 = ρ := by rw [e12]; exact hρ8
    refine j_aload_n F (pc := 54) (q := 0) (by decide +kernel) rfl ?_
    refine j_iload F (pc := 55) (i := 5) (by decide +kernel) rfl ?_
    suffices hj : z_J E 7 87 [some (.ref o), some (.int x1), some (.int x2), some (.int x3), some (.int x4), some (.int x5), some (.int x6)] (.int (if x5 = 0 then ((μ10.1 o 2) &&& (((1 : Int32) <<< ((μ10.1 o 1) &&& 31)) ^^^ (-1 : Int32))) else ((μ10.1 o 2) ||| ((1 : Int32) <<< ((μ10.1 o 1) &&& 31)))) :: [.ref o]) μ10 by
      refine j_if_eq F (pc := 57) (off := 17) (tgt := 74) (by decide +kernel) (by decide) (fun c0 => ?_) (fun c0 => ?_)
      · rw [if_pos c0] at hj
        refine j_aload_n F (pc := 74) (q := 0) (by decide +kernel) rfl ?_
        refine j_getI F (pc := 75) fl_X3_49 (hb.1 0 _ rfl) rfl (by decide +kernel) ?_
        refine j_iconst F (pc := 78) (n := 1) (v := 1) (by decide +kernel) (by decide +kernel) ?_
        refine j_aload_n F (pc := 79) (q := 0) (by decide +kernel) rfl ?_
        refine j_getI F (pc := 80) fl_X3_46 (hb.1 0 _ rfl) rfl (by decide +kernel) ?_
        refine j_ishl F (pc := 83) (by decide +kernel) ?_
        refine j_iconst F (pc := 84) (n := -1) (v := -1) (by decide +kernel) (by decide +kernel) ?_
        refine j_ixor F (pc := 85) (by decide +kernel) ?_
        refine j_iand F (pc := 86) (by decide +kernel) ?_
        exact hj
      · rw [if_neg c0] at hj
        refine j_aload_n F (pc := 60) (q := 0) (by decide +kernel) rfl ?_
        refine j_getI F (pc := 61) fl_X3_49 (hb.1 0 _ rfl) rfl (by decide +kernel) ?_
        refine j_iconst F (pc := 64) (n := 1) (v := 1) (by decide +kernel) (by decide +kernel) ?_
        refine j_aload_n F (pc := 65) (q := 0) (by decide +kernel) rfl ?_
        refine j_getI F (pc := 66) fl_X3_46 (hb.1 0 _ rfl) rfl (by decide +kernel) ?_
        refine j_ishl F (pc := 69) (by decide +kernel) ?_
        refine j_ior F (pc := 70) (by decide +kernel) ?_
        refine j_goto F (pc := 71) (off := 16) (tgt := 87) (by decide +kernel) (by decide) ?_
        exact hj
    refine j_putI F (pc := 87) fl_X3_49 fp_X3_2 (hb.1 0 _ rfl) rfl (by decide +kernel) ?_
    obtain ⟨μ13, e15, h⟩ := z_st_some h
    rw [← e15]
    have hρ14 : μ13.2.2 = ρ := by rw [e15]; exact hρ11
    refine j_aload_n F (pc := 90) (q := 0) (by decide +kernel) rfl ?_
    refine j_getR F (pc := 91) (hb.r hρ14 9 rfl) fl_X3_30 (hb.1 0 _ rfl) rfl (by decide +kernel) ?_
    refine j_aload_n F (pc := 94) (q := 0) (by decide +kernel) rfl ?_
    refine j_getI F (pc := 95) fl_X3_46 (hb.1 0 _ rfl) rfl (by decide +kernel) ?_
    refine j_iload F (pc := 98) (i := 6) (by decide +kernel) rfl ?_
    obtain ⟨hg, h⟩ := z_ifs h
    refine j_iast F (pc := 100) (hb.1 7 _ rfl) hg (by decide +kernel) ?_
    obtain ⟨μ16, e18, h⟩ := z_st_some h
    rw [← e18]
    have hρ17 : μ16.2.2 = ρ := by rw [e18]; exact hρ14
    refine j_aload_n F (pc := 101) (q := 0) (by decide +kernel) rfl ?_
    refine j_getR F (pc := 102) (hb.r hρ17 10 rfl) fl_X3_33 (hb.1 0 _ rfl) rfl (by decide +kernel) ?_
    refine j_aload_n F (pc := 105) (q := 0) (by decide +kernel) rfl ?_
    refine j_getI F (pc := 106) fl_X3_46 (hb.1 0 _ rfl) rfl (by decide +kernel) ?_
    refine j_iconst F (pc := 109) (n := -1) (v := -1) (by decide +kernel) (by decide +kernel) ?_
    obtain ⟨hg, h⟩ := z_ifs h
    refine j_iast F (pc := 110) (hb.1 8 _ rfl) hg (by decide +kernel) ?_
    obtain ⟨μ19, e21, h⟩ := z_st_some h
    rw [← e21]
    have hρ20 : μ19.2.2 = ρ := by rw [e21]; exact hρ17
    refine j_aload_n F (pc := 111) (q := 0) (by decide +kernel) rfl ?_
    refine j_dup F (pc := 112) (by decide +kernel) rfl ?_
    refine j_getI F (pc := 113) fl_X3_46 (hb.1 0 _ rfl) rfl (by decide +kernel) ?_
    refine j_iconst F (pc := 116) (n := 1) (v := 1) (by decide +kernel) (by decide +kernel) ?_
    refine j_iadd F (pc := 117) (by decide +kernel) ?_
    refine j_putI F (pc := 118) fl_X3_46 fp_X3_1 (hb.1 0 _ rfl) rfl (by decide +kernel) ?_
    obtain ⟨μ22, e24, h⟩ := z_st_some h
    rw [← e24]
    have hρ23 : μ22.2.2 = ρ := by rw [e24]; exact hρ20
    refine j_aload_n F (pc := 121) (q := 0) (by decide +kernel) rfl ?_
    refine j_getI F (pc := 122) fl_X3_46 (hb.1 0 _ rfl) rfl (by decide +kernel) ?_
    refine j_iconst F (pc := 125) (n := 1) (v := 1) (by decide +kernel) (by decide +kernel) ?_
    refine j_isub F (pc := 126) (by decide +kernel) ?_
    exact j_iret (st := []) F Rt rfl (by decide +kernel) ⟨hρ23, _, rfl, (congrArg Prod.fst (Option.some.inj h)).symm, (congrArg Prod.snd (Option.some.inj h)).symm⟩
  · rw [if_neg c] at h
    refine j_sipush F (pc := 9) (n := -1004) (v := -1004) (by decide +kernel) (by decide +kernel) ?_
    exact j_iret (st := []) F Rt rfl (by decide +kernel) ⟨hρ, _, rfl, (congrArg Prod.fst (Option.some.inj h)).symm, (congrArg Prod.snd (Option.some.inj h)).symm⟩
/-- LastLent.isClaim -/
def f_X4_isClaim (x1 : Int32) (μ : z_M) : Option (Int32 × z_M) :=
  (some ((if x1 < 0 then (0 : Int32) else (if (μ.1 4 1) ≤ x1 then (0 : Int32) else (1 : Int32))), μ))
set_option maxHeartbeats 4000000 in
set_option maxRecDepth 100000 in
theorem t_X4_isClaim {G : z_Gl} {ρ : Nat → Nat → Option Nat} {μ : z_M} {r : Int32} {μr : z_M} {x1 : Int32} (hρ : μ.2.2 = ρ) (hk : z_ok (z_sh G) ρ) (h : f_X4_isClaim x1 μ = some (r, μr)) : z_Ci G yX4_isClaim cX4_isClaim 2 (some .boolean) 0 [.ref 0, .int x1] μ (fun r1 μ1 => r = r1 ∧ μr = μ1) := by
  unfold z_Ci
  refine z_intro (by decide +kernel) (Nat.le_of_ble_eq_true rfl) (fun E hE F Rt => ?_)
  subst hE
  have F : z_F E RX4 cX4_isClaim 2 0 := F
  rw [hρ] at Rt
  unfold f_X4_isClaim at h
  show z_J E 2 0 [some (.ref 0), some (.int x1)] [] μ
  refine j_iload_n F (pc := 0) (q := 1) (by decide +kernel) rfl ?_
  suffices hj : z_J E 2 20 [some (.ref 0), some (.int x1)] (.int (if x1 < 0 then (0 : Int32) else (if (μ.1 4 1) ≤ x1 then (0 : Int32) else (1 : Int32))) :: []) μ by
    refine j_if_lt F (pc := 1) (off := 18) (tgt := 19) (by decide +kernel) (by decide) (fun c0 => ?_) (fun c0 => ?_)
    · rw [if_pos c0] at hj
      refine j_iconst F (pc := 19) (n := 0) (v := 0) (by decide +kernel) (by decide +kernel) ?_
      exact hj
    · rw [if_neg c0] at hj
      refine j_iload_n F (pc := 4) (q := 1) (by decide +kernel) rfl ?_
      refine j_aload_n F (pc := 5) (q := 0) (by decide +kernel) rfl ?_
      refine j_getR F (pc := 6) (hk.r hρ r_0_2) fl_X4_25 (hk.s c_0) rfl (by decide +kernel) ?_
      refine j_getI F (pc := 9) fl_X4_191 ((hk.shipB (by decide : 4 ∈ z_SHIPS)).1 0 _ rfl) rfl (by decide +kernel) ?_
      refine j_icmp_ge F (pc := 12) (off := 7) (tgt := 19) (by decide +kernel) (by decide) (fun c1 => ?_) (fun c1 => ?_)
      · rw [if_pos c1] at hj
        refine j_iconst F (pc := 19) (n := 0) (v := 0) (by decide +kernel) (by decide +kernel) ?_
        exact hj
      · rw [if_neg c1] at hj
        refine j_iconst F (pc := 15) (n := 1) (v := 1) (by decide +kernel) (by decide +kernel) ?_
        refine j_goto F (pc := 16) (off := 4) (tgt := 20) (by decide +kernel) (by decide) ?_
        exact hj
  exact j_iret (st := []) F Rt (z_nb (by repeat' (first | exact Or.inl rfl | exact Or.inr rfl | split))) (by decide +kernel) ⟨hρ, _, rfl, (congrArg Prod.fst (Option.some.inj h)).symm, (congrArg Prod.snd (Option.some.inj h)).symm⟩
/-- LastLent.isFund -/
def f_X4_isFund (x0 : Int32) (μ : z_M) : Option (Int32 × z_M) :=
  (some ((if x0 < 0 then (0 : Int32) else (if (5 : Int32) ≤ x0 then (0 : Int32) else (1 : Int32))), μ))
set_option maxHeartbeats 4000000 in
set_option maxRecDepth 100000 in
theorem t_X4_isFund {G : z_Gl} {ρ : Nat → Nat → Option Nat} {μ : z_M} {r : Int32} {μr : z_M} {x0 : Int32} (hρ : μ.2.2 = ρ)  (h : f_X4_isFund x0 μ = some (r, μr)) : z_Ci G yX4_isFund cX4_isFund 1 (some .boolean) 0 [.int x0] μ (fun r1 μ1 => r = r1 ∧ μr = μ1) := by
  unfold z_Ci
  refine z_intro (by decide +kernel) (Nat.le_of_ble_eq_true rfl) (fun E hE F Rt => ?_)
  subst hE
  have F : z_F E RX4 cX4_isFund 1 0 := F
  rw [hρ] at Rt
  unfold f_X4_isFund at h
  show z_J E 1 0 [some (.int x0)] [] μ
  refine j_iload_n F (pc := 0) (q := 0) (by decide +kernel) rfl ?_
  suffices hj : z_J E 1 14 [some (.int x0)] (.int (if x0 < 0 then (0 : Int32) else (if (5 : Int32) ≤ x0 then (0 : Int32) else (1 : Int32))) :: []) μ by
    refine j_if_lt F (pc := 1) (off := 12) (tgt := 13) (by decide +kernel) (by decide) (fun c0 => ?_) (fun c0 => ?_)
    · rw [if_pos c0] at hj
      refine j_iconst F (pc := 13) (n := 0) (v := 0) (by decide +kernel) (by decide +kernel) ?_
      exact hj
    · rw [if_neg c0] at hj
      refine j_iload_n F (pc := 4) (q := 0) (by decide +kernel) rfl ?_
      refine j_iconst F (pc := 5) (n := 5) (v := 5) (by decide +kernel) (by decide +kernel) ?_
      refine j_icmp_ge F (pc := 6) (off := 7) (tgt := 13) (by decide +kernel) (by decide) (fun c1 => ?_) (fun c1 => ?_)
      · rw [if_pos c1] at hj
        refine j_iconst F (pc := 13) (n := 0) (v := 0) (by decide +kernel) (by decide +kernel) ?_
        exact hj
      · rw [if_neg c1] at hj
        refine j_iconst F (pc := 9) (n := 1) (v := 1) (by decide +kernel) (by decide +kernel) ?_
        refine j_goto F (pc := 10) (off := 4) (tgt := 14) (by decide +kernel) (by decide) ?_
        exact hj
  exact j_iret (st := []) F Rt (z_nb (by repeat' (first | exact Or.inl rfl | exact Or.inr rfl | split))) (by decide +kernel) ⟨hρ, _, rfl, (congrArg Prod.fst (Option.some.inj h)).symm, (congrArg Prod.snd (Option.some.inj h)).symm⟩
/-- LastLent.isCargo -/
def f_X4_isCargo (x0 : Int32) (μ : z_M) : Option (Int32 × z_M) :=
  (some ((if x0 < 0 then (0 : Int32) else (if (3 : Int32) ≤ x0 then (0 : Int32) else (1 : Int32))), μ))
set_option maxHeartbeats 4000000 in
set_option maxRecDepth 100000 in
theorem t_X4_isCargo {G : z_Gl} {ρ : Nat → Nat → Option Nat} {μ : z_M} {r : Int32} {μr : z_M} {x0 : Int32} (hρ : μ.2.2 = ρ)  (h : f_X4_isCargo x0 μ = some (r, μr)) : z_Ci G yX4_isCargo cX4_isCargo 1 (some .boolean) 0 [.int x0] μ (fun r1 μ1 => r = r1 ∧ μr = μ1) := by
  unfold z_Ci
  refine z_intro (by decide +kernel) (Nat.le_of_ble_eq_true rfl) (fun E hE F Rt => ?_)
  subst hE
  have F : z_F E RX4 cX4_isCargo 1 0 := F
  rw [hρ] at Rt
  unfold f_X4_isCargo at h
  show z_J E 1 0 [some (.int x0)] [] μ
  refine j_iload_n F (pc := 0) (q := 0) (by decide +kernel) rfl ?_
  suffices hj : z_J E 1 14 [some (.int x0)] (.int (if x0 < 0 then (0 : Int32) else (if (3 : Int32) ≤ x0 then (0 : Int32) else (1 : Int32))) :: []) μ by
    refine j_if_lt F (pc := 1) (off := 12) (tgt := 13) (by decide +kernel) (by decide) (fun c0 => ?_) (fun c0 => ?_)
    · rw [if_pos c0] at hj
      refine j_iconst F (pc := 13) (n := 0) (v := 0) (by decide +kernel) (by decide +kernel) ?_
      exact hj
    · rw [if_neg c0] at hj
      refine j_iload_n F (pc := 4) (q := 0) (by decide +kernel) rfl ?_
      refine j_iconst F (pc := 5) (n := 3) (v := 3) (by decide +kernel) (by decide +kernel) ?_
      refine j_icmp_ge F (pc := 6) (off := 7) (tgt := 13) (by decide +kernel) (by decide) (fun c1 => ?_) (fun c1 => ?_)
      · rw [if_pos c1] at hj
        refine j_iconst F (pc := 13) (n := 0) (v := 0) (by decide +kernel) (by decide +kernel) ?_
        exact hj
      · rw [if_neg c1] at hj
        refine j_iconst F (pc := 9) (n := 1) (v := 1) (by decide +kernel) (by decide +kernel) ?_
        refine j_goto F (pc := 10) (off := 4) (tgt := 14) (by decide +kernel) (by decide) ?_
        exact hj
  exact j_iret (st := []) F Rt (z_nb (by repeat' (first | exact Or.inl rfl | exact Or.inr rfl | split))) (by decide +kernel) ⟨hρ, _, rfl, (congrArg Prod.fst (Option.some.inj h)).symm, (congrArg Prod.snd (Option.some.inj h)).symm⟩
def g_X3_voyageOf_4 (o : Nat)  : Nat → Int32 → Int32 → Int32 → z_M → Option (Int32 × z_M)
  | 0, _, _, _, _ => none
  | n + 1, x1, x2, x3, μ => (if (μ.1 o 0) ≤ x3 then (some (x2, μ)) else (if z_in x3 6 then (if z_in x1 14 then (if (μ.1 (o + 5) x1.toNatClampNeg) < (μ.1 (o + 1) x3.toNatClampNeg) then (g_X3_voyageOf_4 o  n (x1) (x2) ((x3 + (1 : Int32))) μ) else (g_X3_voyageOf_4 o  n (x1) (x3) ((x3 + (1 : Int32))) μ)) else none) else none))
def f_X3_voyageOf (o : Nat) (x1 : Int32) (μ : z_M) : Option (Int32 × z_M) :=
  (g_X3_voyageOf_4 o  z_N (x1) ((-1 : Int32)) ((0 : Int32)) μ)
set_option maxHeartbeats 4000000 in
set_option maxRecDepth 100000 in
theorem u_X3_voyageOf_4 {E : z_E} {ρ : Nat → Nat → Option Nat} {r : Int32} {μr : z_M} (F : z_F E RX3 cX3_voyageOf 4 0) (Rt : z_R E (some .int) (fun v μ1 => μ1.2.2 = ρ ∧ ∃ r1, v = some (.int r1) ∧ r = r1 ∧ μr = μ1)) {o : Nat} (hb : z_blk z_shipS z_shipR (z_sh E.1) ρ o) : ∀ (n : Nat) (x1 : Int32) (x2 : Int32) (x3 : Int32) (μ : z_M), μ.2.2 = ρ → g_X3_voyageOf_4 o  n x1 x2 x3 μ = some (r, μr) → z_J E 4 4 [some (.ref o), some (.int x1), some (.int x2), some (.int x3)] [] μ := by
  intro n
  induction n with
  | zero =>
    intro x1 x2 x3 μ hρ h
    rw [g_X3_voyageOf_4] at h
    cases h
  | succ n ih =>
    intro x1 x2 x3 μ hρ h
    rw [g_X3_voyageOf_4] at h
    refine j_iload_n F (pc := 4) (q := 3) (by decide +kernel) rfl ?_
    refine j_aload_n F (pc := 5) (q := 0) (by decide +kernel) rfl ?_
    refine j_getI F (pc := 6) fl_X3_42 (hb.1 0 _ rfl) rfl (by decide +kernel) ?_
    refine j_icmp_ge F (pc := 9) (off := 26) (tgt := 35) (by decide +kernel) (by decide) (fun c => ?_) (fun c => ?_)
    · rw [if_pos c] at h
      refine j_iload_n F (pc := 35) (q := 2) (by decide +kernel) rfl ?_
      exact j_iret (st := []) F Rt rfl (by decide +kernel) ⟨hρ, _, rfl, (congrArg Prod.fst (Option.some.inj h)).symm, (congrArg Prod.snd (Option.some.inj h)).symm⟩
    · rw [if_neg c] at h
      refine j_aload_n F (pc := 12) (q := 0) (by decide +kernel) rfl ?_
      refine j_getR F (pc := 13) (hb.r hρ 3 rfl) fl_X3_9 (hb.1 0 _ rfl) rfl (by decide +kernel) ?_
      refine j_iload_n F (pc := 16) (q := 3) (by decide +kernel) rfl ?_
      obtain ⟨hg, h⟩ := z_ifs h
      refine j_iald F (pc := 17) (hb.1 1 _ rfl) hg (by decide +kernel) ?_
      refine j_aload_n F (pc := 18) (q := 0) (by decide +kernel) rfl ?_
      refine j_getR F (pc := 19) (hb.r hρ 7 rfl) fl_X3_24 (hb.1 0 _ rfl) rfl (by decide +kernel) ?_
      refine j_iload_n F (pc := 22) (q := 1) (by decide +kernel) rfl ?_
      obtain ⟨hg, h⟩ := z_ifs h
      refine j_iald F (pc := 23) (hb.1 5 _ rfl) hg (by decide +kernel) ?_
      refine j_icmp_gt F (pc := 24) (off := 5) (tgt := 29) (by decide +kernel) (by decide) (fun c => ?_) (fun c => ?_)
      · rw [if_pos c] at h
        refine j_iinc F (pc := 29) (i := 3) (n := 1) (v := 1) (L' := [some (.ref o), some (.int x1), some (.int x2), some (.int (x3 + (1 : Int32)))]) (by decide +kernel) rfl (by decide +kernel) (by decide) rfl rfl ?_
        refine j_goto F (pc := 32) (off := -28) (tgt := 4) (by decide +kernel) (by decide) ?_
        exact ih _ _ _ _ hρ h
      · rw [if_neg c] at h
        refine j_iload_n F (pc := 27) (q := 3) (by decide +kernel) rfl ?_
        refine j_istore_n F (pc := 28) (q := 2) (L' := [some (.ref o), some (.int x1), some (.int x3), some (.int x3)]) (by decide +kernel) (by decide) rfl rfl ?_
        refine j_iinc F (pc := 29) (i := 3) (n := 1) (v := 1) (L' := [some (.ref o), some (.int x1), some (.int x3), some (.int (x3 + (1 : Int32)))]) (by decide +kernel) rfl (by decide +kernel) (by decide) rfl rfl ?_
        refine j_goto F (pc := 32) (off := -28) (tgt := 4) (by decide +kernel) (by decide) ?_
        exact ih _ _ _ _ hρ h
set_option maxHeartbeats 4000000 in
set_option maxRecDepth 100000 in
theorem t_X3_voyageOf {G : z_Gl} {ρ : Nat → Nat → Option Nat} {μ : z_M} {r : Int32} {μr : z_M} {o : Nat} {x1 : Int32} (hρ : μ.2.2 = ρ) (hb : z_blk z_shipS z_shipR (z_sh G) ρ o) (h : f_X3_voyageOf o x1 μ = some (r, μr)) : z_Ci G yX3_voyageOf cX3_voyageOf 4 (some .int) 0 [.ref o, .int x1] μ (fun r1 μ1 => r = r1 ∧ μr = μ1) := by
  unfold z_Ci
  refine z_intro (by decide +kernel) (Nat.le_of_ble_eq_true rfl) (fun E hE F Rt => ?_)
  subst hE
  have F : z_F E RX3 cX3_voyageOf 4 0 := F
  rw [hρ] at Rt
  unfold f_X3_voyageOf at h
  show z_J E 4 0 [some (.ref o), some (.int x1), none, none] [] μ
  refine j_iconst F (pc := 0) (n := -1) (v := -1) (by decide +kernel) (by decide +kernel) ?_
  refine j_istore_n F (pc := 1) (q := 2) (L' := [some (.ref o), some (.int x1), some (.int (-1 : Int32)), none]) (by decide +kernel) (by decide) rfl rfl ?_
  refine j_iconst F (pc := 2) (n := 0) (v := 0) (by decide +kernel) (by decide +kernel) ?_
  refine j_istore_n F (pc := 3) (q := 3) (L' := [some (.ref o), some (.int x1), some (.int (-1 : Int32)), some (.int (0 : Int32))]) (by decide +kernel) (by decide) rfl rfl ?_
  refine u_X3_voyageOf_4 F Rt hb  z_N _ _ _ _ hρ h
def g_X4_sumOf_4 (a0 : Nat) (n0 : Nat)  : Nat → Int32 → Int32 → Int32 → z_M → Option (Int32 × z_M)
  | 0, _, _, _, _ => none
  | n + 1, x1, x2, x3, μ => (if x1 ≤ x3 then (some (x2, μ)) else (if (Int32.ofNat n0) ≤ x3 then (some (x2, μ)) else (if z_in x3 n0 then (z_lt (x2 + (μ.1 a0 x3.toNatClampNeg)) fun x_1 => (g_X4_sumOf_4 a0 n0  n (x1) (x_1) ((x3 + (1 : Int32))) μ)) else none)))
def f_X4_sumOf (a0 : Nat) (n0 : Nat) (x1 : Int32) (μ : z_M) : Option (Int32 × z_M) :=
  (g_X4_sumOf_4 a0 n0  z_N (x1) ((0 : Int32)) ((0 : Int32)) μ)
set_option maxHeartbeats 4000000 in
set_option maxRecDepth 100000 in
theorem u_X4_sumOf_4 {E : z_E} {ρ : Nat → Nat → Option Nat} {r : Int32} {μr : z_M} (F : z_F E RX4 cX4_sumOf 4 0) (Rt : z_R E (some .int) (fun v μ1 => μ1.2.2 = ρ ∧ ∃ r1, v = some (.int r1) ∧ r = r1 ∧ μr = μ1)) {a0 : Nat} {n0 : Nat} (ha0 : (z_sh E.1)[a0]? = some (.inl (0, n0))) : ∀ (n : Nat) (x1 : Int32) (x2 : Int32) (x3 : Int32) (μ : z_M), μ.2.2 = ρ → g_X4_sumOf_4 a0 n0  n x1 x2 x3 μ = some (r, μr) → z_J E 4 4 [some (.ref a0), some (.int x1), some (.int x2), some (.int x3)] [] μ := by
  intro n
  induction n with
  | zero =>
    intro x1 x2 x3 μ hρ h
    rw [g_X4_sumOf_4] at h
    cases h
  | succ n ih =>
    intro x1 x2 x3 μ hρ h
    rw [g_X4_sumOf_4] at h
    refine j_iload_n F (pc := 4) (q := 3) (by decide +kernel) rfl ?_
    refine j_iload_n F (pc := 5) (q := 1) (by decide +kernel) rfl ?_
    refine j_icmp_ge F (pc := 6) (off := 21) (tgt := 27) (by decide +kernel) (by decide) (fun c => ?_) (fun c => ?_)
    · rw [if_pos c] at h
      refine j_iload_n F (pc := 27) (q := 2) (by decide +kernel) rfl ?_
      exact j_iret (st := []) F Rt rfl (by decide +kernel) ⟨hρ, _, rfl, (congrArg Prod.fst (Option.some.inj h)).symm, (congrArg Prod.snd (Option.some.inj h)).symm⟩
    · rw [if_neg c] at h
      refine j_iload_n F (pc := 9) (q := 3) (by decide +kernel) rfl ?_
      refine j_aload_n F (pc := 10) (q := 0) (by decide +kernel) rfl ?_
      refine j_alen F (pc := 11) ha0 (by decide) rfl (by decide +kernel) ?_
      refine j_icmp_ge F (pc := 12) (off := 15) (tgt := 27) (by decide +kernel) (by decide) (fun c => ?_) (fun c => ?_)
      · rw [if_pos c] at h
        refine j_iload_n F (pc := 27) (q := 2) (by decide +kernel) rfl ?_
        exact j_iret (st := []) F Rt rfl (by decide +kernel) ⟨hρ, _, rfl, (congrArg Prod.fst (Option.some.inj h)).symm, (congrArg Prod.snd (Option.some.inj h)).symm⟩
      · rw [if_neg c] at h
        refine j_iload_n F (pc := 15) (q := 2) (by decide +kernel) rfl ?_
        refine j_aload_n F (pc := 16) (q := 0) (by decide +kernel) rfl ?_
        refine j_iload_n F (pc := 17) (q := 3) (by decide +kernel) rfl ?_
        obtain ⟨hg, h⟩ := z_ifs h
        refine j_iald F (pc := 18) ha0 hg (by decide +kernel) ?_
        refine j_iadd F (pc := 19) (by decide +kernel) ?_
        obtain ⟨x_1, e2, h⟩ := z_lt_some h
        rw [← e2]
        refine j_istore_n F (pc := 20) (q := 2) (L' := [some (.ref a0), some (.int x1), some (.int x_1), some (.int x3)]) (by decide +kernel) (by decide) rfl rfl ?_
        refine j_iinc F (pc := 21) (i := 3) (n := 1) (v := 1) (L' := [some (.ref a0), some (.int x1), some (.int x_1), some (.int (x3 + (1 : Int32)))]) (by decide +kernel) rfl (by decide +kernel) (by decide) rfl rfl ?_
        refine j_goto F (pc := 24) (off := -20) (tgt := 4) (by decide +kernel) (by decide) ?_
        exact ih _ _ _ _ hρ h
set_option maxHeartbeats 4000000 in
set_option maxRecDepth 100000 in
theorem t_X4_sumOf {G : z_Gl} {ρ : Nat → Nat → Option Nat} {μ : z_M} {r : Int32} {μr : z_M} {a0 : Nat} {n0 : Nat} {x1 : Int32} (hρ : μ.2.2 = ρ) (ha0 : (z_sh G)[a0]? = some (.inl (0, n0))) (h : f_X4_sumOf a0 n0 x1 μ = some (r, μr)) : z_Ci G yX4_sumOf cX4_sumOf 4 (some .int) 0 [.ref a0, .int x1] μ (fun r1 μ1 => r = r1 ∧ μr = μ1) := by
  unfold z_Ci
  refine z_intro (by decide +kernel) (Nat.le_of_ble_eq_true rfl) (fun E hE F Rt => ?_)
  subst hE
  have F : z_F E RX4 cX4_sumOf 4 0 := F
  rw [hρ] at Rt
  unfold f_X4_sumOf at h
  show z_J E 4 0 [some (.ref a0), some (.int x1), none, none] [] μ
  refine j_iconst F (pc := 0) (n := 0) (v := 0) (by decide +kernel) (by decide +kernel) ?_
  refine j_istore_n F (pc := 1) (q := 2) (L' := [some (.ref a0), some (.int x1), some (.int (0 : Int32)), none]) (by decide +kernel) (by decide) rfl rfl ?_
  refine j_iconst F (pc := 2) (n := 0) (v := 0) (by decide +kernel) (by decide +kernel) ?_
  refine j_istore_n F (pc := 3) (q := 3) (L' := [some (.ref a0), some (.int x1), some (.int (0 : Int32)), some (.int (0 : Int32))]) (by decide +kernel) (by decide) rfl rfl ?_
  refine u_X4_sumOf_4 F Rt ha0  z_N _ _ _ _ hρ h
/-- LastLent$Ship.lastUnbarred -/
def f_X3_lastUnbarred (o : Nat) (o1 : Nat) (x2 : Int32) (μ : z_M) : Option (Int32 × z_M) :=
  (if z_in x2 14 then (if z_in (μ.1 (o + 3) x2.toNatClampNeg) 8 then (z_lt (μ.1 (o1 + 2) (μ.1 (o + 3) x2.toNatClampNeg).toNatClampNeg) fun x_1 => (if z_in x2 14 then (z_lt ((μ.1 (o + 5) x2.toNatClampNeg) + x_1) fun x_3 => (if z_in x2 14 then (if (¬ ((μ.1 (o + 8) x2.toNatClampNeg) = (-1 : Int32)) → z_in x2 14) then (z_lt (if (μ.1 (o + 8) x2.toNatClampNeg) = (-1 : Int32) then (0 : Int32) else (if x_3 < (μ.1 (o + 8) x2.toNatClampNeg) then (0 : Int32) else (1 : Int32))) fun x_5 => (if x_1 = 0 then (some ((999 : Int32), μ)) else (if x_5 = 0 then (some ((if x_3 < (999 : Int32) then x_3 else (999 : Int32)), μ)) else (some ((999 : Int32), μ))))) else none) else none)) else none)) else none) else none)
set_option maxHeartbeats 4000000 in
set_option maxRecDepth 100000 in
theorem t_X3_lastUnbarred {G : z_Gl} {ρ : Nat → Nat → Option Nat} {μ : z_M} {r : Int32} {μr : z_M} {o : Nat} {o1 : Nat} {x2 : Int32} (hρ : μ.2.2 = ρ) (hb : z_blk z_shipS z_shipR (z_sh G) ρ o) (hb1 : z_blk z_lawS z_lawR (z_sh G) ρ o1) (h : f_X3_lastUnbarred o o1 x2 μ = some (r, μr)) : z_Ci G yX3_lastUnbarred cX3_lastUnbarred 6 (some .int) 1 [.ref o, .ref o1, .int x2] μ (fun r1 μ1 => r = r1 ∧ μr = μ1) := by
  unfold z_Ci
  refine z_intro (by decide +kernel) (Nat.le_of_ble_eq_true rfl) (fun E hE F Rt => ?_)
  subst hE
  have F : z_F E RX3 cX3_lastUnbarred 6 1 := F
  rw [hρ] at Rt
  unfold f_X3_lastUnbarred at h
  show z_J E 6 0 [some (.ref o), some (.ref o1), some (.int x2), none, none, none] [] μ
  refine j_aload_n F (pc := 0) (q := 1) (by decide +kernel) rfl ?_
  refine j_getR F (pc := 1) (hb1.r hρ 1 rfl) fl_X3_84 (hb1.1 0 _ rfl) rfl (by decide +kernel) ?_
  refine j_aload_n F (pc := 4) (q := 0) (by decide +kernel) rfl ?_
  refine j_getR F (pc := 5) (hb.r hρ 5 rfl) fl_X3_18 (hb.1 0 _ rfl) rfl (by decide +kernel) ?_
  refine j_iload_n F (pc := 8) (q := 2) (by decide +kernel) rfl ?_
  obtain ⟨hg, h⟩ := z_ifs h
  refine j_iald F (pc := 9) (hb.1 3 _ rfl) hg (by decide +kernel) ?_
  obtain ⟨hg, h⟩ := z_ifs h
  refine j_iald F (pc := 10) (hb1.1 2 _ rfl) hg (by decide +kernel) ?_
  obtain ⟨x_1, e2, h⟩ := z_lt_some h
  rw [← e2]
  refine j_istore_n F (pc := 11) (q := 3) (L' := [some (.ref o), some (.ref o1), some (.int x2), some (.int x_1), none, none]) (by decide +kernel) (by decide) rfl rfl ?_
  refine j_aload_n F (pc := 12) (q := 0) (by decide +kernel) rfl ?_
  refine j_getR F (pc := 13) (hb.r hρ 7 rfl) fl_X3_24 (hb.1 0 _ rfl) rfl (by decide +kernel) ?_
  refine j_iload_n F (pc := 16) (q := 2) (by decide +kernel) rfl ?_
  obtain ⟨hg, h⟩ := z_ifs h
  refine j_iald F (pc := 17) (hb.1 5 _ rfl) hg (by decide +kernel) ?_
  refine j_iload_n F (pc := 18) (q := 3) (by decide +kernel) rfl ?_
  refine j_iadd F (pc := 19) (by decide +kernel) ?_
  obtain ⟨x_3, e4, h⟩ := z_lt_some h
  rw [← e4]
  refine j_istore F (pc := 20) (i := 4) (L' := [some (.ref o), some (.ref o1), some (.int x2), some (.int x_1), some (.int x_3), none]) (by decide +kernel) (by decide) rfl rfl ?_
  refine j_aload_n F (pc := 22) (q := 0) (by decide +kernel) rfl ?_
  refine j_getR F (pc := 23) (hb.r hρ 10 rfl) fl_X3_33 (hb.1 0 _ rfl) rfl (by decide +kernel) ?_
  refine j_iload_n F (pc := 26) (q := 2) (by decide +kernel) rfl ?_
  obtain ⟨hg, h⟩ := z_ifs h
  refine j_iald F (pc := 27) (hb.1 8 _ rfl) hg (by decide +kernel) ?_
  refine j_iconst F (pc := 28) (n := -1) (v := -1) (by decide +kernel) (by decide +kernel) ?_
  obtain ⟨hg, h⟩ := z_ifs h
  suffices hj : z_J E 6 48 [some (.ref o), some (.ref o1), some (.int x2), some (.int x_1), some (.int x_3), none] (.int (if (μ.1 (o + 8) x2.toNatClampNeg) = (-1 : Int32) then (0 : Int32) else (if x_3 < (μ.1 (o + 8) x2.toNatClampNeg) then (0 : Int32) else (1 : Int32))) :: []) μ by
    refine j_icmp_eq F (pc := 29) (off := 18) (tgt := 47) (by decide +kernel) (by decide) (fun c0 => ?_) (fun c0 => ?_)
    · rw [if_pos c0] at hj
      refine j_iconst F (pc := 47) (n := 0) (v := 0) (by decide +kernel) (by decide +kernel) ?_
      exact hj
    · rw [if_neg c0] at hj
      refine j_aload_n F (pc := 32) (q := 0) (by decide +kernel) rfl ?_
      refine j_getR F (pc := 33) (hb.r hρ 10 rfl) fl_X3_33 (hb.1 0 _ rfl) rfl (by decide +kernel) ?_
      refine j_iload_n F (pc := 36) (q := 2) (by decide +kernel) rfl ?_
      refine j_iald F (pc := 37) (hb.1 8 _ rfl) (hg c0) (by decide +kernel) ?_
      refine j_iload F (pc := 38) (i := 4) (by decide +kernel) rfl ?_
      refine j_icmp_gt F (pc := 40) (off := 7) (tgt := 47) (by decide +kernel) (by decide) (fun c1 => ?_) (fun c1 => ?_)
      · rw [if_pos c1] at hj
        refine j_iconst F (pc := 47) (n := 0) (v := 0) (by decide +kernel) (by decide +kernel) ?_
        exact hj
      · rw [if_neg c1] at hj
        refine j_iconst F (pc := 43) (n := 1) (v := 1) (by decide +kernel) (by decide +kernel) ?_
        refine j_goto F (pc := 44) (off := 4) (tgt := 48) (by decide +kernel) (by decide) ?_
        exact hj
  obtain ⟨x_5, e6, h⟩ := z_lt_some h
  rw [← e6]
  refine j_istore F (pc := 48) (i := 5) (L' := [some (.ref o), some (.ref o1), some (.int x2), some (.int x_1), some (.int x_3), some (.int x_5)]) (by decide +kernel) (by decide) rfl rfl ?_
  refine j_iload_n F (pc := 50) (q := 3) (by decide +kernel) rfl ?_
  refine j_if_eq F (pc := 51) (off := 8) (tgt := 59) (by decide +kernel) (by decide) (fun c => ?_) (fun c => ?_)
  · rw [if_pos c] at h
    refine j_sipush F (pc := 59) (n := 999) (v := 999) (by decide +kernel) (by decide +kernel) ?_
    refine j_goto F (pc := 62) (off := 11) (tgt := 73) (by decide +kernel) (by decide) ?_
    exact j_iret (st := []) F Rt rfl (by decide +kernel) ⟨hρ, _, rfl, (congrArg Prod.fst (Option.some.inj h)).symm, (congrArg Prod.snd (Option.some.inj h)).symm⟩
  · rw [if_neg c] at h
    refine j_iload F (pc := 54) (i := 5) (by decide +kernel) rfl ?_
    refine j_if_eq F (pc := 56) (off := 9) (tgt := 65) (by decide +kernel) (by decide) (fun c => ?_) (fun c => ?_)
    · rw [if_pos c] at h
      refine j_sipush F (pc := 65) (n := 999) (v := 999) (by decide +kernel) (by decide +kernel) ?_
      refine j_iload F (pc := 68) (i := 4) (by decide +kernel) rfl ?_
      refine j_mmin F (pc := 70) ⟨m_654, m_655, m_88, m_656⟩ (by decide) (Nat.le_of_ble_eq_true rfl) (by decide +kernel) ?_
      exact j_iret (st := []) F Rt rfl (by decide +kernel) ⟨hρ, _, rfl, (congrArg Prod.fst (Option.some.inj h)).symm, (congrArg Prod.snd (Option.some.inj h)).symm⟩
    · rw [if_neg c] at h
      refine j_sipush F (pc := 59) (n := 999) (v := 999) (by decide +kernel) (by decide +kernel) ?_
      refine j_goto F (pc := 62) (off := 11) (tgt := 73) (by decide +kernel) (by decide) ?_
      exact j_iret (st := []) F Rt rfl (by decide +kernel) ⟨hρ, _, rfl, (congrArg Prod.fst (Option.some.inj h)).symm, (congrArg Prod.snd (Option.some.inj h)).symm⟩
/-- LastLent$Ship.lacksLeave -/
def f_X3_lacksLeave (o : Nat) (o1 : Nat) (x2 : Int32) (μ : z_M) : Option (Int32 × z_M) :=
  (if z_in x2 14 then (z_b2 (f_X4_bit ((μ.1 o1 6)) ((μ.1 (o + 3) x2.toNatClampNeg)) μ) fun r1 μ2 => (if r1 = (1 : Int32) then (z_b2 (f_X4_bit ((μ2.1 o 2)) (x2) μ2) fun r8 μ9 => (if r8 = 0 then (some ((1 : Int32), μ9)) else (some ((0 : Int32), μ9)))) else (some ((0 : Int32), μ2)))) else none)
set_option maxHeartbeats 4000000 in
set_option maxRecDepth 100000 in
theorem t_X3_lacksLeave {G : z_Gl} {ρ : Nat → Nat → Option Nat} {μ : z_M} {r : Int32} {μr : z_M} {o : Nat} {o1 : Nat} {x2 : Int32} (hρ : μ.2.2 = ρ) (hb : z_blk z_shipS z_shipR (z_sh G) ρ o) (hb1 : z_blk z_lawS z_lawR (z_sh G) ρ o1) (h : f_X3_lacksLeave o o1 x2 μ = some (r, μr)) : z_Ci G yX3_lacksLeave cX3_lacksLeave 3 (some .boolean) 1 [.ref o, .ref o1, .int x2] μ (fun r1 μ1 => r = r1 ∧ μr = μ1) := by
  unfold z_Ci
  refine z_intro (by decide +kernel) (Nat.le_of_ble_eq_true rfl) (fun E hE F Rt => ?_)
  subst hE
  have F : z_F E RX3 cX3_lacksLeave 3 1 := F
  rw [hρ] at Rt
  unfold f_X3_lacksLeave at h
  show z_J E 3 0 [some (.ref o), some (.ref o1), some (.int x2)] [] μ
  refine j_aload_n F (pc := 0) (q := 1) (by decide +kernel) rfl ?_
  refine j_getI F (pc := 1) fl_X3_90 (hb1.1 0 _ rfl) rfl (by decide +kernel) ?_
  refine j_aload_n F (pc := 4) (q := 0) (by decide +kernel) rfl ?_
  refine j_getR F (pc := 5) (hb.r hρ 5 rfl) fl_X3_18 (hb.1 0 _ rfl) rfl (by decide +kernel) ?_
  refine j_iload_n F (pc := 8) (q := 2) (by decide +kernel) rfl ?_
  obtain ⟨hg, h⟩ := z_ifs h
  refine j_iald F (pc := 9) (hb.1 3 _ rfl) hg (by decide +kernel) ?_
  obtain ⟨r1, μ2, hc4, h⟩ := z_b2_some h
  refine j_callNi F (pc := 10) (As := [.int (μ.1 o1 6), .int (μ.1 (o + 3) x2.toNatClampNeg)]) (st := []) (t_X4_bit (G := E.1) hρ  hc4) q_X4_bit m_474 (by decide +kernel) rfl (by decide) (Nat.le_of_ble_eq_true rfl) rfl (by decide +kernel) (fun s7 ν5 hq6 hp => ?_)
  obtain ⟨rfl, rfl⟩ := hp
  have hρ3 : μ2.2.2 = ρ := hq6.trans hρ
  refine j_iconst F (pc := 13) (n := 1) (v := 1) (by decide +kernel) (by decide +kernel) ?_
  refine j_icmp_ne F (pc := 14) (off := 18) (tgt := 32) (by decide +kernel) (by decide) (fun c => ?_) (fun c => ?_)
  · rw [if_neg c] at h
    refine j_iconst F (pc := 32) (n := 0) (v := 0) (by decide +kernel) (by decide +kernel) ?_
    exact j_iret (st := []) F Rt rfl (by decide +kernel) ⟨hρ3, _, rfl, (congrArg Prod.fst (Option.some.inj h)).symm, (congrArg Prod.snd (Option.some.inj h)).symm⟩
  · rw [if_pos c] at h
    refine j_aload_n F (pc := 17) (q := 0) (by decide +kernel) rfl ?_
    refine j_getI F (pc := 18) fl_X3_49 (hb.1 0 _ rfl) rfl (by decide +kernel) ?_
    refine j_iload_n F (pc := 21) (q := 2) (by decide +kernel) rfl ?_
    obtain ⟨r8, μ9, hc11, h⟩ := z_b2_some h
    refine j_callNi F (pc := 22) (As := [.int (μ2.1 o 2), .int x2]) (st := []) (t_X4_bit (G := E.1) hρ3  hc11) q_X4_bit m_474 (by decide +kernel) rfl (by decide) (Nat.le_of_ble_eq_true rfl) rfl (by decide +kernel) (fun s14 ν12 hq13 hp => ?_)
    obtain ⟨rfl, rfl⟩ := hp
    have hρ10 : μ9.2.2 = ρ := hq13.trans hρ3
    refine j_if_ne F (pc := 25) (off := 7) (tgt := 32) (by decide +kernel) (by decide) (fun c => ?_) (fun c => ?_)
    · rw [if_neg c] at h
      refine j_iconst F (pc := 32) (n := 0) (v := 0) (by decide +kernel) (by decide +kernel) ?_
      exact j_iret (st := []) F Rt rfl (by decide +kernel) ⟨hρ10, _, rfl, (congrArg Prod.fst (Option.some.inj h)).symm, (congrArg Prod.snd (Option.some.inj h)).symm⟩
    · rw [if_pos c] at h
      refine j_iconst F (pc := 28) (n := 1) (v := 1) (by decide +kernel) (by decide +kernel) ?_
      refine j_goto F (pc := 29) (off := 4) (tgt := 33) (by decide +kernel) (by decide) ?_
      exact j_iret (st := []) F Rt rfl (by decide +kernel) ⟨hρ10, _, rfl, (congrArg Prod.fst (Option.some.inj h)).symm, (congrArg Prod.snd (Option.some.inj h)).symm⟩
def g_X3_whyDead_53 (o : Nat) (o1 : Nat)  (x3 : Int32) (μ : z_M) : Option (Int32 × z_M) :=
  (z_b2 (f_X3_lacksLeave (o) (o1) (x3) μ) fun r8 μ9 => (some ((if r8 = 0 then (0 : Int32) else (4 : Int32)), μ9)))
def f_X3_whyDead (o : Nat) (o1 : Nat) (x2 : Int32) (x3 : Int32) (μ : z_M) : Option (Int32 × z_M) :=
  (if z_in x3 14 then (if (μ.1 (o + 5) x3.toNatClampNeg) ≤ x2 then (z_b2 (f_X3_lastUnbarred (o) (o1) (x3) μ) fun r1 μ2 => (if x2 ≤ r1 then (if (μ2.1 o1 12) = 0 then (g_X3_whyDead_53 o o1  (x3) μ2) else (if z_in x3 14 then (if (μ2.1 (o + 8) x3.toNatClampNeg) = (-1 : Int32) then (some ((3 : Int32), μ2)) else (if z_in x3 14 then (if (μ2.1 (o + 8) x3.toNatClampNeg) ≤ x2 then (g_X3_whyDead_53 o o1  (x3) μ2) else (some ((3 : Int32), μ2))) else none)) else none)) else (some ((2 : Int32), μ2)))) else (some ((1 : Int32), μ))) else none)
set_option maxHeartbeats 4000000 in
set_option maxRecDepth 100000 in
theorem u_X3_whyDead_53 {E : z_E} {ρ : Nat → Nat → Option Nat} {r : Int32} {μr : z_M} (F : z_F E RX3 cX3_whyDead 4 2) (Rt : z_R E (some .int) (fun v μ1 => μ1.2.2 = ρ ∧ ∃ r1, v = some (.int r1) ∧ r = r1 ∧ μr = μ1)) {o : Nat} {o1 : Nat} (hb : z_blk z_shipS z_shipR (z_sh E.1) ρ o) (hb1 : z_blk z_lawS z_lawR (z_sh E.1) ρ o1) : ∀ (x3 : Int32) (μ : z_M), μ.2.2 = ρ → g_X3_whyDead_53 o o1  x3 μ = some (r, μr) → z_J E 4 53 [some (.ref o), some (.ref o1), none, some (.int x3)] [] μ := by
  intro x3 μ hρ h
  unfold g_X3_whyDead_53 at h
  refine j_aload_n F (pc := 53) (q := 0) (by decide +kernel) rfl ?_
  refine j_aload_n F (pc := 54) (q := 1) (by decide +kernel) rfl ?_
  refine j_iload_n F (pc := 55) (q := 3) (by decide +kernel) rfl ?_
  obtain ⟨r8, μ9, hc11, h⟩ := z_b2_some h
  refine j_callVi F (pc := 56) (As := [.ref o1, .int x3]) (st := []) (t_X3_lacksLeave (G := E.1) hρ hb hb1 hc11) q_X3_lacksLeave v_X3_lacksLeave m_657 (hb.1 0 _ rfl) rfl rfl (by decide) (Nat.le_of_ble_eq_true rfl) rfl (by decide +kernel) (fun s14 ν12 hq13 hp => ?_)
  obtain ⟨rfl, rfl⟩ := hp
  have hρ10 : μ9.2.2 = ρ := hq13.trans hρ
  suffices hj : z_J E 4 67 [some (.ref o), some (.ref o1), none, some (.int x3)] (.int (if r8 = 0 then (0 : Int32) else (4 : Int32)) :: []) μ9 by
    refine j_if_eq F (pc := 59) (off := 7) (tgt := 66) (by decide +kernel) (by decide) (fun c0 => ?_) (fun c0 => ?_)
    · rw [if_pos c0] at hj
      refine j_iconst F (pc := 66) (n := 0) (v := 0) (by decide +kernel) (by decide +kernel) ?_
      exact hj
    · rw [if_neg c0] at hj
      refine j_iconst F (pc := 62) (n := 4) (v := 4) (by decide +kernel) (by decide +kernel) ?_
      refine j_goto F (pc := 63) (off := 4) (tgt := 67) (by decide +kernel) (by decide) ?_
      exact hj
  exact j_iret (st := []) F Rt rfl (by decide +kernel) ⟨hρ10, _, rfl, (congrArg Prod.fst (Option.some.inj h)).symm, (congrArg Prod.snd (Option.some.inj h)).symm⟩
set_option maxHeartbeats 4000000 in
set_option maxRecDepth 100000 in
theorem t_X3_whyDead {G : z_Gl} {ρ : Nat → Nat → Option Nat} {μ : z_M} {r : Int32} {μr : z_M} {o : Nat} {o1 : Nat} {x2 : Int32} {x3 : Int32} (hρ : μ.2.2 = ρ) (hb : z_blk z_shipS z_shipR (z_sh G) ρ o) (hb1 : z_blk z_lawS z_lawR (z_sh G) ρ o1) (h : f_X3_whyDead o o1 x2 x3 μ = some (r, μr)) : z_Ci G yX3_whyDead cX3_whyDead 4 (some .int) 2 [.ref o, .ref o1, .int x2, .int x3] μ (fun r1 μ1 => r = r1 ∧ μr = μ1) := by
  unfold z_Ci
  refine z_intro (by decide +kernel) (Nat.le_of_ble_eq_true rfl) (fun E hE F Rt => ?_)
  subst hE
  have F : z_F E RX3 cX3_whyDead 4 2 := F
  rw [hρ] at Rt
  unfold f_X3_whyDead at h
  show z_J E 4 0 [some (.ref o), some (.ref o1), some (.int x2), some (.int x3)] [] μ
  refine j_aload_n F (pc := 0) (q := 0) (by decide +kernel) rfl ?_
  refine j_getR F (pc := 1) (hb.r hρ 7 rfl) fl_X3_24 (hb.1 0 _ rfl) rfl (by decide +kernel) ?_
  refine j_iload_n F (pc := 4) (q := 3) (by decide +kernel) rfl ?_
  obtain ⟨hg, h⟩ := z_ifs h
  refine j_iald F (pc := 5) (hb.1 5 _ rfl) hg (by decide +kernel) ?_
  refine j_iload_n F (pc := 6) (q := 2) (by decide +kernel) rfl ?_
  refine j_icmp_le F (pc := 7) (off := 5) (tgt := 12) (by decide +kernel) (by decide) (fun c => ?_) (fun c => ?_)
  · rw [if_pos c] at h
    refine j_iload_n F (pc := 12) (q := 2) (by decide +kernel) rfl ?_
    refine j_aload_n F (pc := 13) (q := 0) (by decide +kernel) rfl ?_
    refine j_aload_n F (pc := 14) (q := 1) (by decide +kernel) rfl ?_
    refine j_iload_n F (pc := 15) (q := 3) (by decide +kernel) rfl ?_
    obtain ⟨r1, μ2, hc4, h⟩ := z_b2_some h
    refine j_callVi F (pc := 16) (As := [.ref o1, .int x3]) (st := [.int x2]) (t_X3_lastUnbarred (G := E.1) hρ hb hb1 hc4) q_X3_lastUnbarred v_X3_lastUnbarred m_650 (hb.1 0 _ rfl) rfl rfl (by decide) (Nat.le_of_ble_eq_true rfl) rfl (by decide +kernel) (fun s7 ν5 hq6 hp => ?_)
    obtain ⟨rfl, rfl⟩ := hp
    have hρ3 : μ2.2.2 = ρ := hq6.trans hρ
    refine j_icmp_le F (pc := 19) (off := 5) (tgt := 24) (by decide +kernel) (by decide) (fun c => ?_) (fun c => ?_)
    · rw [if_pos c] at h
      refine j_aload_n F (pc := 24) (q := 1) (by decide +kernel) rfl ?_
      refine j_getI F (pc := 25) fl_X3_70 (hb1.1 0 _ rfl) rfl (by decide +kernel) ?_
      refine j_if_eq F (pc := 28) (off := 25) (tgt := 53) (by decide +kernel) (by decide) (fun c => ?_) (fun c => ?_)
      · rw [if_pos c] at h
        refine j_mk F [true, true, false, true] (L' := [some (.ref o), some (.ref o1), none, some (.int x3)]) rfl ?_
        refine u_X3_whyDead_53 F Rt hb hb1  _ _ hρ3 h
      · rw [if_neg c] at h
        refine j_aload_n F (pc := 31) (q := 0) (by decide +kernel) rfl ?_
        refine j_getR F (pc := 32) (hb.r hρ3 10 rfl) fl_X3_33 (hb.1 0 _ rfl) rfl (by decide +kernel) ?_
        refine j_iload_n F (pc := 35) (q := 3) (by decide +kernel) rfl ?_
        obtain ⟨hg, h⟩ := z_ifs h
        refine j_iald F (pc := 36) (hb.1 8 _ rfl) hg (by decide +kernel) ?_
        refine j_iconst F (pc := 37) (n := -1) (v := -1) (by decide +kernel) (by decide +kernel) ?_
        refine j_icmp_eq F (pc := 38) (off := 13) (tgt := 51) (by decide +kernel) (by decide) (fun c => ?_) (fun c => ?_)
        · rw [if_pos c] at h
          refine j_iconst F (pc := 51) (n := 3) (v := 3) (by decide +kernel) (by decide +kernel) ?_
          exact j_iret (st := []) F Rt rfl (by decide +kernel) ⟨hρ3, _, rfl, (congrArg Prod.fst (Option.some.inj h)).symm, (congrArg Prod.snd (Option.some.inj h)).symm⟩
        · rw [if_neg c] at h
          refine j_aload_n F (pc := 41) (q := 0) (by decide +kernel) rfl ?_
          refine j_getR F (pc := 42) (hb.r hρ3 10 rfl) fl_X3_33 (hb.1 0 _ rfl) rfl (by decide +kernel) ?_
          refine j_iload_n F (pc := 45) (q := 3) (by decide +kernel) rfl ?_
          obtain ⟨hg, h⟩ := z_ifs h
          refine j_iald F (pc := 46) (hb.1 8 _ rfl) hg (by decide +kernel) ?_
          refine j_iload_n F (pc := 47) (q := 2) (by decide +kernel) rfl ?_
          refine j_icmp_le F (pc := 48) (off := 5) (tgt := 53) (by decide +kernel) (by decide) (fun c => ?_) (fun c => ?_)
          · rw [if_pos c] at h
            refine j_mk F [true, true, false, true] (L' := [some (.ref o), some (.ref o1), none, some (.int x3)]) rfl ?_
            refine u_X3_whyDead_53 F Rt hb hb1  _ _ hρ3 h
          · rw [if_neg c] at h
            refine j_iconst F (pc := 51) (n := 3) (v := 3) (by decide +kernel) (by decide +kernel) ?_
            exact j_iret (st := []) F Rt rfl (by decide +kernel) ⟨hρ3, _, rfl, (congrArg Prod.fst (Option.some.inj h)).symm, (congrArg Prod.snd (Option.some.inj h)).symm⟩
    · rw [if_neg c] at h
      refine j_iconst F (pc := 22) (n := 2) (v := 2) (by decide +kernel) (by decide +kernel) ?_
      exact j_iret (st := []) F Rt rfl (by decide +kernel) ⟨hρ3, _, rfl, (congrArg Prod.fst (Option.some.inj h)).symm, (congrArg Prod.snd (Option.some.inj h)).symm⟩
  · rw [if_neg c] at h
    refine j_iconst F (pc := 10) (n := 1) (v := 1) (by decide +kernel) (by decide +kernel) ?_
    exact j_iret (st := []) F Rt rfl (by decide +kernel) ⟨hρ, _, rfl, (congrArg Prod.fst (Option.some.inj h)).symm, (congrArg Prod.snd (Option.some.inj h)).symm⟩
def g_X3_lastAlive_59 (o : Nat) (o1 : Nat)  (x2 : Int32) (xs0 : Int32) (μ : z_M) : Option (Int32 × z_M) :=
  (z_b2 (f_X3_lastUnbarred (o) (o1) (x2) μ) fun r8 μ9 => (some ((if r8 < xs0 then (-1 : Int32) else r8), μ9)))
def g_X3_lastAlive_28 (o : Nat) (o1 : Nat)  (x2 : Int32) (μ : z_M) : Option (Int32 × z_M) :=
  (if (μ.1 o1 12) = 0 then (if z_in x2 14 then (g_X3_lastAlive_59 o o1  (x2) ((μ.1 (o + 5) x2.toNatClampNeg)) μ) else none) else (if z_in x2 14 then (if z_in x2 14 then (g_X3_lastAlive_59 o o1  (x2) ((if (μ.1 (o + 5) x2.toNatClampNeg) < (μ.1 (o + 8) x2.toNatClampNeg) then (μ.1 (o + 8) x2.toNatClampNeg) else (μ.1 (o + 5) x2.toNatClampNeg))) μ) else none) else none))
def f_X3_lastAlive (o : Nat) (o1 : Nat) (x2 : Int32) (μ : z_M) : Option (Int32 × z_M) :=
  (z_b2 (f_X3_lacksLeave (o) (o1) (x2) μ) fun r1 μ2 => (if r1 = 0 then (if (μ2.1 o1 12) = 0 then (g_X3_lastAlive_28 o o1  (x2) μ2) else (if z_in x2 14 then (if (μ2.1 (o + 8) x2.toNatClampNeg) = (-1 : Int32) then (some ((-1 : Int32), μ2)) else (g_X3_lastAlive_28 o o1  (x2) μ2)) else none)) else (some ((-1 : Int32), μ2))))
set_option maxHeartbeats 4000000 in
set_option maxRecDepth 100000 in
theorem u_X3_lastAlive_59 {E : z_E} {ρ : Nat → Nat → Option Nat} {r : Int32} {μr : z_M} (F : z_F E RX3 cX3_lastAlive 5 2) (Rt : z_R E (some .int) (fun v μ1 => μ1.2.2 = ρ ∧ ∃ r1, v = some (.int r1) ∧ r = r1 ∧ μr = μ1)) {o : Nat} {o1 : Nat} (hb : z_blk z_shipS z_shipR (z_sh E.1) ρ o) (hb1 : z_blk z_lawS z_lawR (z_sh E.1) ρ o1) : ∀ (x2 : Int32) (xs0 : Int32) (μ : z_M), μ.2.2 = ρ → g_X3_lastAlive_59 o o1  x2 xs0 μ = some (r, μr) → z_J E 5 59 [some (.ref o), some (.ref o1), some (.int x2), none, none] [.int xs0] μ := by
  intro x2 xs0 μ hρ h
  unfold g_X3_lastAlive_59 at h
  refine j_istore_n F (pc := 59) (q := 3) (L' := [some (.ref o), some (.ref o1), some (.int x2), some (.int xs0), none]) (by decide +kernel) (by decide) rfl rfl ?_
  refine j_aload_n F (pc := 60) (q := 0) (by decide +kernel) rfl ?_
  refine j_aload_n F (pc := 61) (q := 1) (by decide +kernel) rfl ?_
  refine j_iload_n F (pc := 62) (q := 2) (by decide +kernel) rfl ?_
  obtain ⟨r8, μ9, hc11, h⟩ := z_b2_some h
  refine j_callVi F (pc := 63) (As := [.ref o1, .int x2]) (st := []) (t_X3_lastUnbarred (G := E.1) hρ hb hb1 hc11) q_X3_lastUnbarred v_X3_lastUnbarred m_650 (hb.1 0 _ rfl) rfl rfl (by decide) (Nat.le_of_ble_eq_true rfl) rfl (by decide +kernel) (fun s14 ν12 hq13 hp => ?_)
  obtain ⟨rfl, rfl⟩ := hp
  have hρ10 : μ9.2.2 = ρ := hq13.trans hρ
  refine j_istore F (pc := 66) (i := 4) (L' := [some (.ref o), some (.ref o1), some (.int x2), some (.int xs0), some (.int r8)]) (by decide +kernel) (by decide) rfl rfl ?_
  refine j_iload_n F (pc := 68) (q := 3) (by decide +kernel) rfl ?_
  refine j_iload F (pc := 69) (i := 4) (by decide +kernel) rfl ?_
  suffices hj : z_J E 5 80 [some (.ref o), some (.ref o1), some (.int x2), some (.int xs0), some (.int r8)] (.int (if r8 < xs0 then (-1 : Int32) else r8) :: []) μ9 by
    refine j_icmp_gt F (pc := 71) (off := 8) (tgt := 79) (by decide +kernel) (by decide) (fun c0 => ?_) (fun c0 => ?_)
    · rw [if_pos c0] at hj
      refine j_iconst F (pc := 79) (n := -1) (v := -1) (by decide +kernel) (by decide +kernel) ?_
      exact hj
    · rw [if_neg c0] at hj
      refine j_iload F (pc := 74) (i := 4) (by decide +kernel) rfl ?_
      refine j_goto F (pc := 76) (off := 4) (tgt := 80) (by decide +kernel) (by decide) ?_
      exact hj
  exact j_iret (st := []) F Rt rfl (by decide +kernel) ⟨hρ10, _, rfl, (congrArg Prod.fst (Option.some.inj h)).symm, (congrArg Prod.snd (Option.some.inj h)).symm⟩
set_option maxHeartbeats 4000000 in
set_option maxRecDepth 100000 in
theorem u_X3_lastAlive_28 {E : z_E} {ρ : Nat → Nat → Option Nat} {r : Int32} {μr : z_M} (F : z_F E RX3 cX3_lastAlive 5 2) (Rt : z_R E (some .int) (fun v μ1 => μ1.2.2 = ρ ∧ ∃ r1, v = some (.int r1) ∧ r = r1 ∧ μr = μ1)) {o : Nat} {o1 : Nat} (hb : z_blk z_shipS z_shipR (z_sh E.1) ρ o) (hb1 : z_blk z_lawS z_lawR (z_sh E.1) ρ o1) : ∀ (x2 : Int32) (μ : z_M), μ.2.2 = ρ → g_X3_lastAlive_28 o o1  x2 μ = some (r, μr) → z_J E 5 28 [some (.ref o), some (.ref o1), some (.int x2), none, none] [] μ := by
  intro x2 μ hρ h
  unfold g_X3_lastAlive_28 at h
  refine j_aload_n F (pc := 28) (q := 1) (by decide +kernel) rfl ?_
  refine j_getI F (pc := 29) fl_X3_70 (hb1.1 0 _ rfl) rfl (by decide +kernel) ?_
  refine j_if_eq F (pc := 32) (off := 21) (tgt := 53) (by decide +kernel) (by decide) (fun c => ?_) (fun c => ?_)
  · rw [if_pos c] at h
    refine j_aload_n F (pc := 53) (q := 0) (by decide +kernel) rfl ?_
    refine j_getR F (pc := 54) (hb.r hρ 7 rfl) fl_X3_24 (hb.1 0 _ rfl) rfl (by decide +kernel) ?_
    refine j_iload_n F (pc := 57) (q := 2) (by decide +kernel) rfl ?_
    obtain ⟨hg, h⟩ := z_ifs h
    refine j_iald F (pc := 58) (hb.1 5 _ rfl) hg (by decide +kernel) ?_
    refine u_X3_lastAlive_59 F Rt hb hb1  _ _ _ hρ h
  · rw [if_neg c] at h
    refine j_aload_n F (pc := 35) (q := 0) (by decide +kernel) rfl ?_
    refine j_getR F (pc := 36) (hb.r hρ 7 rfl) fl_X3_24 (hb.1 0 _ rfl) rfl (by decide +kernel) ?_
    refine j_iload_n F (pc := 39) (q := 2) (by decide +kernel) rfl ?_
    obtain ⟨hg, h⟩ := z_ifs h
    refine j_iald F (pc := 40) (hb.1 5 _ rfl) hg (by decide +kernel) ?_
    refine j_aload_n F (pc := 41) (q := 0) (by decide +kernel) rfl ?_
    refine j_getR F (pc := 42) (hb.r hρ 10 rfl) fl_X3_33 (hb.1 0 _ rfl) rfl (by decide +kernel) ?_
    refine j_iload_n F (pc := 45) (q := 2) (by decide +kernel) rfl ?_
    obtain ⟨hg, h⟩ := z_ifs h
    refine j_iald F (pc := 46) (hb.1 8 _ rfl) hg (by decide +kernel) ?_
    refine j_mmax F (pc := 47) ⟨m_670, m_552, m_88, m_553⟩ (by decide) (Nat.le_of_ble_eq_true rfl) (by decide +kernel) ?_
    refine j_goto F (pc := 50) (off := 9) (tgt := 59) (by decide +kernel) (by decide) ?_
    refine u_X3_lastAlive_59 F Rt hb hb1  _ _ _ hρ h
set_option maxHeartbeats 4000000 in
set_option maxRecDepth 100000 in
theorem t_X3_lastAlive {G : z_Gl} {ρ : Nat → Nat → Option Nat} {μ : z_M} {r : Int32} {μr : z_M} {o : Nat} {o1 : Nat} {x2 : Int32} (hρ : μ.2.2 = ρ) (hb : z_blk z_shipS z_shipR (z_sh G) ρ o) (hb1 : z_blk z_lawS z_lawR (z_sh G) ρ o1) (h : f_X3_lastAlive o o1 x2 μ = some (r, μr)) : z_Ci G yX3_lastAlive cX3_lastAlive 5 (some .int) 2 [.ref o, .ref o1, .int x2] μ (fun r1 μ1 => r = r1 ∧ μr = μ1) := by
  unfold z_Ci
  refine z_intro (by decide +kernel) (Nat.le_of_ble_eq_true rfl) (fun E hE F Rt => ?_)
  subst hE
  have F : z_F E RX3 cX3_lastAlive 5 2 := F
  rw [hρ] at Rt
  unfold f_X3_lastAlive at h
  show z_J E 5 0 [some (.ref o), some (.ref o1), some (.int x2), none, none] [] μ
  refine j_aload_n F (pc := 0) (q := 0) (by decide +kernel) rfl ?_
  refine j_aload_n F (pc := 1) (q := 1) (by decide +kernel) rfl ?_
  refine j_iload_n F (pc := 2) (q := 2) (by decide +kernel) rfl ?_
  obtain ⟨r1, μ2, hc4, h⟩ := z_b2_some h
  refine j_callVi F (pc := 3) (As := [.ref o1, .int x2]) (st := []) (t_X3_lacksLeave (G := E.1) hρ hb hb1 hc4) q_X3_lacksLeave v_X3_lacksLeave m_657 (hb.1 0 _ rfl) rfl rfl (by decide) (Nat.le_of_ble_eq_true rfl) rfl (by decide +kernel) (fun s7 ν5 hq6 hp => ?_)
  obtain ⟨rfl, rfl⟩ := hp
  have hρ3 : μ2.2.2 = ρ := hq6.trans hρ
  refine j_if_ne F (pc := 6) (off := 20) (tgt := 26) (by decide +kernel) (by decide) (fun c => ?_) (fun c => ?_)
  · rw [if_neg c] at h
    refine j_iconst F (pc := 26) (n := -1) (v := -1) (by decide +kernel) (by decide +kernel) ?_
    exact j_iret (st := []) F Rt rfl (by decide +kernel) ⟨hρ3, _, rfl, (congrArg Prod.fst (Option.some.inj h)).symm, (congrArg Prod.snd (Option.some.inj h)).symm⟩
  · rw [if_pos c] at h
    refine j_aload_n F (pc := 9) (q := 1) (by decide +kernel) rfl ?_
    refine j_getI F (pc := 10) fl_X3_70 (hb1.1 0 _ rfl) rfl (by decide +kernel) ?_
    refine j_if_eq F (pc := 13) (off := 15) (tgt := 28) (by decide +kernel) (by decide) (fun c => ?_) (fun c => ?_)
    · rw [if_pos c] at h
      refine u_X3_lastAlive_28 F Rt hb hb1  _ _ hρ3 h
    · rw [if_neg c] at h
      refine j_aload_n F (pc := 16) (q := 0) (by decide +kernel) rfl ?_
      refine j_getR F (pc := 17) (hb.r hρ3 10 rfl) fl_X3_33 (hb.1 0 _ rfl) rfl (by decide +kernel) ?_
      refine j_iload_n F (pc := 20) (q := 2) (by decide +kernel) rfl ?_
      obtain ⟨hg, h⟩ := z_ifs h
      refine j_iald F (pc := 21) (hb.1 8 _ rfl) hg (by decide +kernel) ?_
      refine j_iconst F (pc := 22) (n := -1) (v := -1) (by decide +kernel) (by decide +kernel) ?_
      refine j_icmp_ne F (pc := 23) (off := 5) (tgt := 28) (by decide +kernel) (by decide) (fun c => ?_) (fun c => ?_)
      · rw [if_neg c] at h
        refine u_X3_lastAlive_28 F Rt hb hb1  _ _ hρ3 h
      · rw [if_pos c] at h
        refine j_iconst F (pc := 26) (n := -1) (v := -1) (by decide +kernel) (by decide +kernel) ?_
        exact j_iret (st := []) F Rt rfl (by decide +kernel) ⟨hρ3, _, rfl, (congrArg Prod.fst (Option.some.inj h)).symm, (congrArg Prod.snd (Option.some.inj h)).symm⟩
/-- LastLent$Law.standingOf -/
def f_X0_standingOf (o : Nat) (x1 : Int32) (x2 : Int32) (x3 : Int32) (μ : z_M) : Option (Int32 × z_M) :=
  (z_b2 (f_X4_bit ((μ.1 o 4)) (x1) μ) fun r1 μ2 => (z_b2 (f_X4_bit ((μ2.1 o 5)) (x1) μ2) fun r8 μ9 => (z_lt (((1 : Int32) - r1) + r8) fun x_15 => (z_lt (if (μ9.1 o 11) = 0 then (0 : Int32) else (if x_15 = (1 : Int32) then ((5 : Int32) - x2) else (0 : Int32))) fun x_17 => (z_lt (if (μ9.1 o 9) = (1 : Int32) then ((999 : Int32) - x3) else (if (μ9.1 o 9) = (2 : Int32) then x3 else (0 : Int32))) fun x_19 => (if z_in x1 8 then (some (((((((x_15 * (7 : Int32)) + x_17) * (8 : Int32)) + (μ9.1 (o + 4) x1.toNatClampNeg)) * (1000 : Int32)) + x_19), μ9)) else none))))))
set_option maxHeartbeats 4000000 in
set_option maxRecDepth 100000 in
theorem t_X0_standingOf {G : z_Gl} {ρ : Nat → Nat → Option Nat} {μ : z_M} {r : Int32} {μr : z_M} {o : Nat} {x1 : Int32} {x2 : Int32} {x3 : Int32} (hρ : μ.2.2 = ρ) (hb : z_blk z_lawS z_lawR (z_sh G) ρ o) (h : f_X0_standingOf o x1 x2 x3 μ = some (r, μr)) : z_Ci G yX0_standingOf cX0_standingOf 7 (some .int) 1 [.ref o, .int x1, .int x2, .int x3] μ (fun r1 μ1 => r = r1 ∧ μr = μ1) := by
  unfold z_Ci
  refine z_intro (by decide +kernel) (Nat.le_of_ble_eq_true rfl) (fun E hE F Rt => ?_)
  subst hE
  have F : z_F E RX0 cX0_standingOf 7 1 := F
  rw [hρ] at Rt
  unfold f_X0_standingOf at h
  show z_J E 7 0 [some (.ref o), some (.int x1), some (.int x2), some (.int x3), none, none, none] [] μ
  refine j_iconst F (pc := 0) (n := 1) (v := 1) (by decide +kernel) (by decide +kernel) ?_
  refine j_aload_n F (pc := 1) (q := 0) (by decide +kernel) rfl ?_
  refine j_getI F (pc := 2) fl_X0_27 (hb.1 0 _ rfl) rfl (by decide +kernel) ?_
  refine j_iload_n F (pc := 5) (q := 1) (by decide +kernel) rfl ?_
  obtain ⟨r1, μ2, hc4, h⟩ := z_b2_some h
  refine j_callNi F (pc := 6) (As := [.int (μ.1 o 4), .int x1]) (st := [.int (1 : Int32)]) (t_X4_bit (G := E.1) hρ  hc4) q_X4_bit m_474 (by decide +kernel) rfl (by decide) (Nat.le_of_ble_eq_true rfl) rfl (by decide +kernel) (fun s7 ν5 hq6 hp => ?_)
  obtain ⟨rfl, rfl⟩ := hp
  have hρ3 : μ2.2.2 = ρ := hq6.trans hρ
  refine j_isub F (pc := 9) (by decide +kernel) ?_
  refine j_aload_n F (pc := 10) (q := 0) (by decide +kernel) rfl ?_
  refine j_getI F (pc := 11) fl_X0_31 (hb.1 0 _ rfl) rfl (by decide +kernel) ?_
  refine j_iload_n F (pc := 14) (q := 1) (by decide +kernel) rfl ?_
  obtain ⟨r8, μ9, hc11, h⟩ := z_b2_some h
  refine j_callNi F (pc := 15) (As := [.int (μ2.1 o 5), .int x1]) (st := [.int ((1 : Int32) - r1)]) (t_X4_bit (G := E.1) hρ3  hc11) q_X4_bit m_474 (by decide +kernel) rfl (by decide) (Nat.le_of_ble_eq_true rfl) rfl (by decide +kernel) (fun s14 ν12 hq13 hp => ?_)
  obtain ⟨rfl, rfl⟩ := hp
  have hρ10 : μ9.2.2 = ρ := hq13.trans hρ3
  refine j_iadd F (pc := 18) (by decide +kernel) ?_
  obtain ⟨x_15, e16, h⟩ := z_lt_some h
  rw [← e16]
  refine j_istore F (pc := 19) (i := 4) (L' := [some (.ref o), some (.int x1), some (.int x2), some (.int x3), some (.int x_15), none, none]) (by decide +kernel) (by decide) rfl rfl ?_
  refine j_aload_n F (pc := 21) (q := 0) (by decide +kernel) rfl ?_
  refine j_getI F (pc := 22) fl_X0_49 (hb.1 0 _ rfl) rfl (by decide +kernel) ?_
  suffices hj : z_J E 7 41 [some (.ref o), some (.int x1), some (.int x2), some (.int x3), some (.int x_15), none, none] (.int (if (μ9.1 o 11) = 0 then (0 : Int32) else (if x_15 = (1 : Int32) then ((5 : Int32) - x2) else (0 : Int32))) :: []) μ9 by
    refine j_if_eq F (pc := 25) (off := 15) (tgt := 40) (by decide +kernel) (by decide) (fun c0 => ?_) (fun c0 => ?_)
    · rw [if_pos c0] at hj
      refine j_iconst F (pc := 40) (n := 0) (v := 0) (by decide +kernel) (by decide +kernel) ?_
      exact hj
    · rw [if_neg c0] at hj
      refine j_iload F (pc := 28) (i := 4) (by decide +kernel) rfl ?_
      refine j_iconst F (pc := 30) (n := 1) (v := 1) (by decide +kernel) (by decide +kernel) ?_
      refine j_icmp_ne F (pc := 31) (off := 9) (tgt := 40) (by decide +kernel) (by decide) (fun c1 => ?_) (fun c1 => ?_)
      · rw [if_neg c1] at hj
        refine j_iconst F (pc := 40) (n := 0) (v := 0) (by decide +kernel) (by decide +kernel) ?_
        exact hj
      · rw [if_pos c1] at hj
        refine j_iconst F (pc := 34) (n := 5) (v := 5) (by decide +kernel) (by decide +kernel) ?_
        refine j_iload_n F (pc := 35) (q := 2) (by decide +kernel) rfl ?_
        refine j_isub F (pc := 36) (by decide +kernel) ?_
        refine j_goto F (pc := 37) (off := 4) (tgt := 41) (by decide +kernel) (by decide) ?_
        exact hj
  obtain ⟨x_17, e18, h⟩ := z_lt_some h
  rw [← e18]
  refine j_istore F (pc := 41) (i := 5) (L' := [some (.ref o), some (.int x1), some (.int x2), some (.int x3), some (.int x_15), some (.int x_17), none]) (by decide +kernel) (by decide) rfl rfl ?_
  refine j_aload_n F (pc := 43) (q := 0) (by decide +kernel) rfl ?_
  refine j_getI F (pc := 44) fl_X0_43 (hb.1 0 _ rfl) rfl (by decide +kernel) ?_
  refine j_iconst F (pc := 47) (n := 1) (v := 1) (by decide +kernel) (by decide +kernel) ?_
  suffices hj : z_J E 7 72 [some (.ref o), some (.int x1), some (.int x2), some (.int x3), some (.int x_15), some (.int x_17), none] (.int (if (μ9.1 o 9) = (1 : Int32) then ((999 : Int32) - x3) else (if (μ9.1 o 9) = (2 : Int32) then x3 else (0 : Int32))) :: []) μ9 by
    refine j_icmp_ne F (pc := 48) (off := 11) (tgt := 59) (by decide +kernel) (by decide) (fun c0 => ?_) (fun c0 => ?_)
    · rw [if_neg c0] at hj
      refine j_aload_n F (pc := 59) (q := 0) (by decide +kernel) rfl ?_
      refine j_getI F (pc := 60) fl_X0_43 (hb.1 0 _ rfl) rfl (by decide +kernel) ?_
      refine j_iconst F (pc := 63) (n := 2) (v := 2) (by decide +kernel) (by decide +kernel) ?_
      refine j_icmp_ne F (pc := 64) (off := 7) (tgt := 71) (by decide +kernel) (by decide) (fun c1 => ?_) (fun c1 => ?_)
      · rw [if_neg c1] at hj
        refine j_iconst F (pc := 71) (n := 0) (v := 0) (by decide +kernel) (by decide +kernel) ?_
        exact hj
      · rw [if_pos c1] at hj
        refine j_iload_n F (pc := 67) (q := 3) (by decide +kernel) rfl ?_
        refine j_goto F (pc := 68) (off := 4) (tgt := 72) (by decide +kernel) (by decide) ?_
        exact hj
    · rw [if_pos c0] at hj
      refine j_sipush F (pc := 51) (n := 999) (v := 999) (by decide +kernel) (by decide +kernel) ?_
      refine j_iload_n F (pc := 54) (q := 3) (by decide +kernel) rfl ?_
      refine j_isub F (pc := 55) (by decide +kernel) ?_
      refine j_goto F (pc := 56) (off := 16) (tgt := 72) (by decide +kernel) (by decide) ?_
      exact hj
  obtain ⟨x_19, e20, h⟩ := z_lt_some h
  rw [← e20]
  refine j_istore F (pc := 72) (i := 6) (L' := [some (.ref o), some (.int x1), some (.int x2), some (.int x3), some (.int x_15), some (.int x_17), some (.int x_19)]) (by decide +kernel) (by decide) rfl rfl ?_
  refine j_iload F (pc := 74) (i := 4) (by decide +kernel) rfl ?_
  refine j_bipush F (pc := 76) (n := 7) (v := 7) (by decide +kernel) (by decide +kernel) ?_
  refine j_imul F (pc := 78) (by decide +kernel) ?_
  refine j_iload F (pc := 79) (i := 5) (by decide +kernel) rfl ?_
  refine j_iadd F (pc := 81) (by decide +kernel) ?_
  refine j_bipush F (pc := 82) (n := 8) (v := 8) (by decide +kernel) (by decide +kernel) ?_
  refine j_imul F (pc := 84) (by decide +kernel) ?_
  refine j_aload_n F (pc := 85) (q := 0) (by decide +kernel) rfl ?_
  refine j_getR F (pc := 86) (hb.r hρ10 3 rfl) fl_X0_21 (hb.1 0 _ rfl) rfl (by decide +kernel) ?_
  refine j_iload_n F (pc := 89) (q := 1) (by decide +kernel) rfl ?_
  obtain ⟨hg, h⟩ := z_ifs h
  refine j_iald F (pc := 90) (hb.1 4 _ rfl) hg (by decide +kernel) ?_
  refine j_iadd F (pc := 91) (by decide +kernel) ?_
  refine j_sipush F (pc := 92) (n := 1000) (v := 1000) (by decide +kernel) (by decide +kernel) ?_
  refine j_imul F (pc := 95) (by decide +kernel) ?_
  refine j_iload F (pc := 96) (i := 6) (by decide +kernel) rfl ?_
  refine j_iadd F (pc := 98) (by decide +kernel) ?_
  exact j_iret (st := []) F Rt rfl (by decide +kernel) ⟨hρ10, _, rfl, (congrArg Prod.fst (Option.some.inj h)).symm, (congrArg Prod.snd (Option.some.inj h)).symm⟩
/-- LastLent$Ship.standing -/
def f_X3_standing (o : Nat) (o1 : Nat) (x2 : Int32) (μ : z_M) : Option (Int32 × z_M) :=
  (if z_in x2 14 then (z_b2 (f_X3_voyageOf (o) (x2) μ) fun r1 μ2 => (if z_in x2 14 then (z_b2 (f_X0_standingOf (o1) ((μ.1 (o + 3) x2.toNatClampNeg)) (r1) ((μ2.1 (o + 5) x2.toNatClampNeg)) μ2) fun r8 μ9 => (some (r8, μ9))) else none)) else none)
set_option maxHeartbeats 4000000 in
set_option maxRecDepth 100000 in
theorem t_X3_standing {G : z_Gl} {ρ : Nat → Nat → Option Nat} {μ : z_M} {r : Int32} {μr : z_M} {o : Nat} {o1 : Nat} {x2 : Int32} (hρ : μ.2.2 = ρ) (hb : z_blk z_shipS z_shipR (z_sh G) ρ o) (hb1 : z_blk z_lawS z_lawR (z_sh G) ρ o1) (h : f_X3_standing o o1 x2 μ = some (r, μr)) : z_Ci G yX3_standing cX3_standing 3 (some .int) 2 [.ref o, .ref o1, .int x2] μ (fun r1 μ1 => r = r1 ∧ μr = μ1) := by
  unfold z_Ci
  refine z_intro (by decide +kernel) (Nat.le_of_ble_eq_true rfl) (fun E hE F Rt => ?_)
  subst hE
  have F : z_F E RX3 cX3_standing 3 2 := F
  rw [hρ] at Rt
  unfold f_X3_standing at h
  show z_J E 3 0 [some (.ref o), some (.ref o1), some (.int x2)] [] μ
  refine j_aload_n F (pc := 0) (q := 1) (by decide +kernel) rfl ?_
  refine j_aload_n F (pc := 1) (q := 0) (by decide +kernel) rfl ?_
  refine j_getR F (pc := 2) (hb.r hρ 5 rfl) fl_X3_18 (hb.1 0 _ rfl) rfl (by decide +kernel) ?_
  refine j_iload_n F (pc := 5) (q := 2) (by decide +kernel) rfl ?_
  obtain ⟨hg, h⟩ := z_ifs h
  refine j_iald F (pc := 6) (hb.1 3 _ rfl) hg (by decide +kernel) ?_
  refine j_aload_n F (pc := 7) (q := 0) (by decide +kernel) rfl ?_
  refine j_iload_n F (pc := 8) (q := 2) (by decide +kernel) rfl ?_
  obtain ⟨r1, μ2, hc4, h⟩ := z_b2_some h
  refine j_callVi F (pc := 9) (As := [.int x2]) (st := [.int (μ.1 (o + 3) x2.toNatClampNeg), .ref o1]) (t_X3_voyageOf (G := E.1) hρ hb hc4) q_X3_voyageOf v_X3_voyageOf m_679 (hb.1 0 _ rfl) rfl rfl (by decide) (Nat.le_of_ble_eq_true rfl) rfl (by decide +kernel) (fun s7 ν5 hq6 hp => ?_)
  obtain ⟨rfl, rfl⟩ := hp
  have hρ3 : μ2.2.2 = ρ := hq6.trans hρ
  refine j_aload_n F (pc := 12) (q := 0) (by decide +kernel) rfl ?_
  refine j_getR F (pc := 13) (hb.r hρ3 7 rfl) fl_X3_24 (hb.1 0 _ rfl) rfl (by decide +kernel) ?_
  refine j_iload_n F (pc := 16) (q := 2) (by decide +kernel) rfl ?_
  obtain ⟨hg, h⟩ := z_ifs h
  refine j_iald F (pc := 17) (hb.1 5 _ rfl) hg (by decide +kernel) ?_
  obtain ⟨r8, μ9, hc11, h⟩ := z_b2_some h
  refine j_callVi F (pc := 18) (As := [.int (μ.1 (o + 3) x2.toNatClampNeg), .int r1, .int (μ2.1 (o + 5) x2.toNatClampNeg)]) (st := []) (t_X0_standingOf (G := E.1) hρ3 hb1 hc11) q_X0_standingOf v_X0_standingOf m_680 (hb1.1 0 _ rfl) rfl rfl (by decide) (Nat.le_of_ble_eq_true rfl) rfl (by decide +kernel) (fun s14 ν12 hq13 hp => ?_)
  obtain ⟨rfl, rfl⟩ := hp
  have hρ10 : μ9.2.2 = ρ := hq13.trans hρ3
  exact j_iret (st := []) F Rt rfl (by decide +kernel) ⟨hρ10, _, rfl, (congrArg Prod.fst (Option.some.inj h)).symm, (congrArg Prod.snd (Option.some.inj h)).symm⟩
/-- java/lang/Integer.compare -/
def f_J6_compare_7cf53 (x0 : Int32) (x1 : Int32) (μ : z_M) : Option (Int32 × z_M) :=
  (some ((if x1 ≤ x0 then (if x0 = x1 then (0 : Int32) else (1 : Int32)) else (-1 : Int32)), μ))
set_option maxHeartbeats 4000000 in
set_option maxRecDepth 100000 in
theorem t_J6_compare_7cf53 {G : z_Gl} {ρ : Nat → Nat → Option Nat} {μ : z_M} {r : Int32} {μr : z_M} {x0 : Int32} {x1 : Int32} (hρ : μ.2.2 = ρ)  (h : f_J6_compare_7cf53 x0 x1 μ = some (r, μr)) : z_Ci G yJ6_compare_7cf53 cJ6_compare_7cf53 2 (some .int) 0 [.int x0, .int x1] μ (fun r1 μ1 => r = r1 ∧ μr = μ1) := by
  unfold z_Ci
  refine z_intro (by decide +kernel) (Nat.le_of_ble_eq_true rfl) (fun E hE F Rt => ?_)
  subst hE
  have F : z_F E RJ6 cJ6_compare_7cf53 2 0 := F
  rw [hρ] at Rt
  unfold f_J6_compare_7cf53 at h
  show z_J E 2 0 [some (.int x0), some (.int x1)] [] μ
  refine j_iload_n F (pc := 0) (q := 0) (by decide +kernel) rfl ?_
  refine j_iload_n F (pc := 1) (q := 1) (by decide +kernel) rfl ?_
  suffices hj : z_J E 2 19 [some (.int x0), some (.int x1)] (.int (if x1 ≤ x0 then (if x0 = x1 then (0 : Int32) else (1 : Int32)) else (-1 : Int32)) :: []) μ by
    refine j_icmp_ge F (pc := 2) (off := 7) (tgt := 9) (by decide +kernel) (by decide) (fun c0 => ?_) (fun c0 => ?_)
    · rw [if_pos c0] at hj
      refine j_iload_n F (pc := 9) (q := 0) (by decide +kernel) rfl ?_
      refine j_iload_n F (pc := 10) (q := 1) (by decide +kernel) rfl ?_
      refine j_icmp_ne F (pc := 11) (off := 7) (tgt := 18) (by decide +kernel) (by decide) (fun c1 => ?_) (fun c1 => ?_)
      · rw [if_neg c1] at hj
        refine j_iconst F (pc := 18) (n := 1) (v := 1) (by decide +kernel) (by decide +kernel) ?_
        exact hj
      · rw [if_pos c1] at hj
        refine j_iconst F (pc := 14) (n := 0) (v := 0) (by decide +kernel) (by decide +kernel) ?_
        refine j_goto F (pc := 15) (off := 4) (tgt := 19) (by decide +kernel) (by decide) ?_
        exact hj
    · rw [if_neg c0] at hj
      refine j_iconst F (pc := 5) (n := -1) (v := -1) (by decide +kernel) (by decide +kernel) ?_
      refine j_goto F (pc := 6) (off := 13) (tgt := 19) (by decide +kernel) (by decide) ?_
      exact hj
  exact j_iret (st := []) F Rt rfl (by decide +kernel) ⟨hρ, _, rfl, (congrArg Prod.fst (Option.some.inj h)).symm, (congrArg Prod.snd (Option.some.inj h)).symm⟩
/-- LastLent$Law.fundsFor -/
def f_X0_fundsFor (o : Nat) (x1 : Int32) (x2 : Int32) (μ : z_M) : Option (Int32 × z_M) :=
  (if z_in x1 8 then (z_b2 (f_X4_bit ((μ.1 (o + 1) x1.toNatClampNeg)) ((2 : Int32)) μ) fun r1 μ2 => (z_lt (if r1 = (1 : Int32) then (x2 <<< ((2 : Int32) &&& 31)) else (0 : Int32)) fun x_8 => (if z_in x1 8 then (some ((((μ2.1 (o + 1) x1.toNatClampNeg) &&& (3 : Int32)) ||| x_8), μ2)) else none))) else none)
set_option maxHeartbeats 4000000 in
set_option maxRecDepth 100000 in
theorem t_X0_fundsFor {G : z_Gl} {ρ : Nat → Nat → Option Nat} {μ : z_M} {r : Int32} {μr : z_M} {o : Nat} {x1 : Int32} {x2 : Int32} (hρ : μ.2.2 = ρ) (hb : z_blk z_lawS z_lawR (z_sh G) ρ o) (h : f_X0_fundsFor o x1 x2 μ = some (r, μr)) : z_Ci G yX0_fundsFor cX0_fundsFor 4 (some .int) 1 [.ref o, .int x1, .int x2] μ (fun r1 μ1 => r = r1 ∧ μr = μ1) := by
  unfold z_Ci
  refine z_intro (by decide +kernel) (Nat.le_of_ble_eq_true rfl) (fun E hE F Rt => ?_)
  subst hE
  have F : z_F E RX0 cX0_fundsFor 4 1 := F
  rw [hρ] at Rt
  unfold f_X0_fundsFor at h
  show z_J E 4 0 [some (.ref o), some (.int x1), some (.int x2), none] [] μ
  refine j_aload_n F (pc := 0) (q := 0) (by decide +kernel) rfl ?_
  refine j_getR F (pc := 1) (hb.r hρ 0 rfl) fl_X0_9 (hb.1 0 _ rfl) rfl (by decide +kernel) ?_
  refine j_iload_n F (pc := 4) (q := 1) (by decide +kernel) rfl ?_
  obtain ⟨hg, h⟩ := z_ifs h
  refine j_iald F (pc := 5) (hb.1 1 _ rfl) hg (by decide +kernel) ?_
  refine j_iconst F (pc := 6) (n := 2) (v := 2) (by decide +kernel) (by decide +kernel) ?_
  obtain ⟨r1, μ2, hc4, h⟩ := z_b2_some h
  refine j_callNi F (pc := 7) (As := [.int (μ.1 (o + 1) x1.toNatClampNeg), .int (2 : Int32)]) (st := []) (t_X4_bit (G := E.1) hρ  hc4) q_X4_bit m_474 (by decide +kernel) rfl (by decide) (Nat.le_of_ble_eq_true rfl) rfl (by decide +kernel) (fun s7 ν5 hq6 hp => ?_)
  obtain ⟨rfl, rfl⟩ := hp
  have hρ3 : μ2.2.2 = ρ := hq6.trans hρ
  refine j_iconst F (pc := 10) (n := 1) (v := 1) (by decide +kernel) (by decide +kernel) ?_
  suffices hj : z_J E 4 21 [some (.ref o), some (.int x1), some (.int x2), none] (.int (if r1 = (1 : Int32) then (x2 <<< ((2 : Int32) &&& 31)) else (0 : Int32)) :: []) μ2 by
    refine j_icmp_ne F (pc := 11) (off := 9) (tgt := 20) (by decide +kernel) (by decide) (fun c0 => ?_) (fun c0 => ?_)
    · rw [if_neg c0] at hj
      refine j_iconst F (pc := 20) (n := 0) (v := 0) (by decide +kernel) (by decide +kernel) ?_
      exact hj
    · rw [if_pos c0] at hj
      refine j_iload_n F (pc := 14) (q := 2) (by decide +kernel) rfl ?_
      refine j_iconst F (pc := 15) (n := 2) (v := 2) (by decide +kernel) (by decide +kernel) ?_
      refine j_ishl F (pc := 16) (by decide +kernel) ?_
      refine j_goto F (pc := 17) (off := 4) (tgt := 21) (by decide +kernel) (by decide) ?_
      exact hj
  obtain ⟨x_8, e9, h⟩ := z_lt_some h
  rw [← e9]
  refine j_istore_n F (pc := 21) (q := 3) (L' := [some (.ref o), some (.int x1), some (.int x2), some (.int x_8)]) (by decide +kernel) (by decide) rfl rfl ?_
  refine j_aload_n F (pc := 22) (q := 0) (by decide +kernel) rfl ?_
  refine j_getR F (pc := 23) (hb.r hρ3 0 rfl) fl_X0_9 (hb.1 0 _ rfl) rfl (by decide +kernel) ?_
  refine j_iload_n F (pc := 26) (q := 1) (by decide +kernel) rfl ?_
  obtain ⟨hg, h⟩ := z_ifs h
  refine j_iald F (pc := 27) (hb.1 1 _ rfl) hg (by decide +kernel) ?_
  refine j_iconst F (pc := 28) (n := 3) (v := 3) (by decide +kernel) (by decide +kernel) ?_
  refine j_iand F (pc := 29) (by decide +kernel) ?_
  refine j_iload_n F (pc := 30) (q := 3) (by decide +kernel) rfl ?_
  refine j_ior F (pc := 31) (by decide +kernel) ?_
  exact j_iret (st := []) F Rt rfl (by decide +kernel) ⟨hρ3, _, rfl, (congrArg Prod.fst (Option.some.inj h)).symm, (congrArg Prod.snd (Option.some.inj h)).symm⟩
