/-! functions and contracts, written by wip/whole/dec.py -/
/-- LastLent.last -/
def f_X4_last (x1 : Int32) (x2 : Int32) (μ : z_M) : Option (Int32 × z_M) :=
  (z_b2 (f_X4_isLand (x1) μ) fun r1 μ2 => (if r1 = 0 then (some ((-1001 : Int32), μ2)) else (z_b2 (f_X4_isClaim (x2) μ2) fun r8 μ9 => (if r8 = 0 then (some ((-1001 : Int32), μ9)) else (if z_in x1 4 then ((μ9.2.2 1 x1.toNatClampNeg).bind fun r15 => (z_b2 (f_X3_lastAlive (4) (r15) (x2) μ9) fun r18 μ19 => (some (r18, μ19)))) else none)))))
set_option maxHeartbeats 4000000 in
set_option maxRecDepth 100000 in
theorem t_X4_last {G : z_Gl} {ρ : Nat → Nat → Option Nat} {μ : z_M} {r : Int32} {μr : z_M} {x1 : Int32} {x2 : Int32} (hρ : μ.2.2 = ρ) (hk : z_ok (z_sh G) ρ) (h : f_X4_last x1 x2 μ = some (r, μr)) : z_Ci G yX4_last cX4_last 3 (some .int) 3 [.ref 0, .int x1, .int x2] μ (fun r1 μ1 => r = r1 ∧ μr = μ1) := by
  unfold z_Ci
  refine z_intro (by decide +kernel) (Nat.le_of_ble_eq_true rfl) (fun E hE F Rt => ?_)
  subst hE
  have F : z_F E RX4 cX4_last 3 3 := F
  rw [hρ] at Rt
  unfold f_X4_last at h
  show z_J E 3 0 [some (.ref 0), some (.int x1), some (.int x2)] [] μ
  refine j_iload_n F (pc := 0) (q := 1) (by decide +kernel) rfl ?_
  obtain ⟨r1, μ2, hc4, h⟩ := z_b2_some h
  refine j_callSi F (pc := 1) (idx := 67) (As := [.int x1]) (st := []) (t_X4_isLand (G := E.1) hρ  hc4) q_X4_isLand m_387 m_386 rfl (by decide) (Nat.le_of_ble_eq_true rfl) rfl (by decide +kernel) (fun s7 ν5 hq6 hp => ?_)
  obtain ⟨rfl, rfl⟩ := hp
  have hρ3 : μ2.2.2 = ρ := hq6.trans hρ
  refine j_if_eq F (pc := 4) (off := 11) (tgt := 15) (by decide +kernel) (by decide) (fun c => ?_) (fun c => ?_)
  · rw [if_pos c] at h
    refine j_sipush F (pc := 15) (n := -1001) (v := -1001) (by decide +kernel) (by decide +kernel) ?_
    exact j_iret (st := []) F Rt rfl (by decide +kernel) ⟨hρ3, _, rfl, (congrArg Prod.fst (Option.some.inj h)).symm, (congrArg Prod.snd (Option.some.inj h)).symm⟩
  · rw [if_neg c] at h
    refine j_aload_n F (pc := 7) (q := 0) (by decide +kernel) rfl ?_
    refine j_iload_n F (pc := 8) (q := 2) (by decide +kernel) rfl ?_
    obtain ⟨r8, μ9, hc11, h⟩ := z_b2_some h
    refine j_callVi F (pc := 9) (idx := 148) (As := [.int x2]) (st := []) (t_X4_isClaim (G := E.1) hρ3 hk hc11) q_X4_isClaim v_X4_isClaim m_605 (hk.s c_0) rfl rfl (by decide) (Nat.le_of_ble_eq_true rfl) rfl (by decide +kernel) (fun s14 ν12 hq13 hp => ?_)
    obtain ⟨rfl, rfl⟩ := hp
    have hρ10 : μ9.2.2 = ρ := hq13.trans hρ3
    refine j_if_ne F (pc := 12) (off := 7) (tgt := 19) (by decide +kernel) (by decide) (fun c => ?_) (fun c => ?_)
    · rw [if_neg c] at h
      refine j_aload_n F (pc := 19) (q := 0) (by decide +kernel) rfl ?_
      refine j_getR F (pc := 20) (hk.r hρ10 r_0_2) fl_X4_25 (hk.s c_0) rfl (by decide +kernel) ?_
      refine j_aload_n F (pc := 23) (q := 0) (by decide +kernel) rfl ?_
      refine j_getR F (pc := 24) (hk.r hρ10 r_0_0) fl_X4_11 (hk.s c_0) rfl (by decide +kernel) ?_
      refine j_iload_n F (pc := 27) (q := 1) (by decide +kernel) rfl ?_
      obtain ⟨hg, h⟩ := z_ifs h
      obtain ⟨r15, hr16, h⟩ := Option.bind_eq_some_iff.mp h
      have hb17 := hk.lawsAt hρ10 hr16
      refine j_aald F (pc := 28) (hk.s c_1) (by decide) hg hr16 (by decide +kernel) ?_
      refine j_iload_n F (pc := 29) (q := 2) (by decide +kernel) rfl ?_
      obtain ⟨r18, μ19, hc21, h⟩ := z_b2_some h
      refine j_callVi F (pc := 30) (idx := 202) (As := [.ref r15, .int x2]) (st := []) (t_X3_lastAlive (G := E.1) hρ10 (hk.shipB (by decide : 4 ∈ z_SHIPS)) hb17 hc21) q_X3_lastAlive v_X3_lastAlive m_666 ((hk.shipB (by decide : 4 ∈ z_SHIPS)).1 0 _ rfl) rfl rfl (by decide) (Nat.le_of_ble_eq_true rfl) rfl (by decide +kernel) (fun s24 ν22 hq23 hp => ?_)
      obtain ⟨rfl, rfl⟩ := hp
      have hρ20 : μ19.2.2 = ρ := hq23.trans hρ10
      exact j_iret (st := []) F Rt rfl (by decide +kernel) ⟨hρ20, _, rfl, (congrArg Prod.fst (Option.some.inj h)).symm, (congrArg Prod.snd (Option.some.inj h)).symm⟩
    · rw [if_pos c] at h
      refine j_sipush F (pc := 15) (n := -1001) (v := -1001) (by decide +kernel) (by decide +kernel) ?_
      exact j_iret (st := []) F Rt rfl (by decide +kernel) ⟨hρ10, _, rfl, (congrArg Prod.fst (Option.some.inj h)).symm, (congrArg Prod.snd (Option.some.inj h)).symm⟩
/-- LastLent$Law.standingOf -/
def f_X0_standingOf (o : Nat) (x1 : Int32) (x2 : Int32) (x3 : Int32) (μ : z_M) : Option (Int32 × z_M) :=
  (z_b2 (f_X4_bit ((μ.1 o 4)) (x1) μ) fun r1 μ2 => (z_b2 (f_X4_bit ((μ2.1 o 5)) (x1) μ2) fun r8 μ9 => (z_lt (((1 : Int32) - r1) + r8) fun x_15 => (z_lt (if (μ9.1 o 11) = 0 then (0 : Int32) else (if x_15 = (1 : Int32) then ((5 : Int32) - x2) else (0 : Int32))) fun x_17 => (z_lt (if (μ9.1 o 9) = (1 : Int32) then ((999 : Int32) - x3) else (if (μ9.1 o 9) = (2 : Int32) then x3 else (0 : Int32))) fun x_19 => (if z_in x1 8 then (some (((((((x_15 * (7 : Int32)) + x_17) * (8 : Int32)) + (μ9.1 (o + 4) x1.toNatClampNeg)) * (1000 : Int32)) + x_19), μ9)) else none))))))
set_option maxHeartbeats 4000000 in
set_option maxRecDepth 100000 in
theorem t_X0_standingOf {G : z_Gl} {ρ : Nat → Nat → Option Nat} {μ : z_M} {r : Int32} {μr : z_M} {o : Nat} {x1 : Int32} {x2 : Int32} {x3 : Int32} (hρ : μ.2.2 = ρ) (hb : z_blk z_lawS z_lawR (z_sh G) ρ o) (h : f_X0_standingOf o x1 x2 x3 μ = some (r, μr)) : z_Ci G yX0_standingOf cX0_standingOf 7 (some .int) 1 [.ref o, .int x1, .int x2, .int x3] μ (fun r1 μ1 => r = r1 ∧ μr = μ1) := by
  unfold z_Ci
  refine z_intro (by decide +kernel) (Nat.le_of_ble_eq_true rfl) (fun E hE F Rt => ?_)
  subst hE
  have F : z_F E RX0 cX0_standingOf 7 1 := F
  rw [hρ] at Rt
  unfold f_X0_standingOf at h
  show z_J E 7 0 [some (.ref o), some (.int x1), some (.int x2), some (.int x3), none, none, none] [] μ
  refine j_iconst F (pc := 0) (n := 1) (v := 1) (by decide +kernel) (by decide +kernel) ?_
  refine j_aload_n F (pc := 1) (q := 0) (by decide +kernel) rfl ?_
  refine j_getI F (pc := 2) fl_X0_27 (hb.1 0 _ rfl) rfl (by decide +kernel) ?_
  refine j_iload_n F (pc := 5) (q := 1) (by decide +kernel) rfl ?_
  obtain ⟨r1, μ2, hc4, h⟩ := z_b2_some h
  refine j_callNi F (pc := 6) (idx := 59) (As := [.int (μ.1 o 4), .int x1]) (st := [.int (1 : Int32)]) (t_X4_bit (G := E.1) hρ  hc4) q_X4_bit m_474 (by decide +kernel) rfl (by decide) (Nat.le_of_ble_eq_true rfl) rfl (by decide +kernel) (fun s7 ν5 hq6 hp => ?_)
  obtain ⟨rfl, rfl⟩ := hp
  have hρ3 : μ2.2.2 = ρ := hq6.trans hρ
  refine j_isub F (pc := 9) (by decide +kernel) ?_
  refine j_aload_n F (pc := 10) (q := 0) (by decide +kernel) rfl ?_
  refine j_getI F (pc := 11) fl_X0_31 (hb.1 0 _ rfl) rfl (by decide +kernel) ?_
  refine j_iload_n F (pc := 14) (q := 1) (by decide +kernel) rfl ?_
  obtain ⟨r8, μ9, hc11, h⟩ := z_b2_some h
  refine j_callNi F (pc := 15) (idx := 59) (As := [.int (μ2.1 o 5), .int x1]) (st := [.int ((1 : Int32) - r1)]) (t_X4_bit (G := E.1) hρ3  hc11) q_X4_bit m_474 (by decide +kernel) rfl (by decide) (Nat.le_of_ble_eq_true rfl) rfl (by decide +kernel) (fun s14 ν12 hq13 hp => ?_)
  obtain ⟨rfl, rfl⟩ := hp
  have hρ10 : μ9.2.2 = ρ := hq13.trans hρ3
  refine j_iadd F (pc := 18) (by decide +kernel) ?_
  obtain ⟨x_15, e16, h⟩ := z_lt_some h
  rw [← e16]
  refine j_istore F (pc := 19) (i := 4) (L' := [some (.ref o), some (.int x1), some (.int x2), some (.int x3), some (.int x_15), none, none]) (by decide +kernel) (by decide) rfl rfl ?_
  refine j_aload_n F (pc := 21) (q := 0) (by decide +kernel) rfl ?_
  refine j_getI F (pc := 22) fl_X0_49 (hb.1 0 _ rfl) rfl (by decide +kernel) ?_
  suffices hj : z_J E 7 41 [some (.ref o), some (.int x1), some (.int x2), some (.int x3), some (.int x_15), none, none] (.int (if (μ9.1 o 11) = 0 then (0 : Int32) else (if x_15 = (1 : Int32) then ((5 : Int32) - x2) else (0 : Int32))) :: []) μ9 by
    refine j_if_eq F (pc := 25) (off := 15) (tgt := 40) (by decide +kernel) (by decide) (fun c0 => ?_) (fun c0 => ?_)
    · rw [if_pos c0] at hj
      refine j_iconst F (pc := 40) (n := 0) (v := 0) (by decide +kernel) (by decide +kernel) ?_
      exact hj
    · rw [if_neg c0] at hj
      refine j_iload F (pc := 28) (i := 4) (by decide +kernel) rfl ?_
      refine j_iconst F (pc := 30) (n := 1) (v := 1) (by decide +kernel) (by decide +kernel) ?_
      refine j_icmp_ne F (pc := 31) (off := 9) (tgt := 40) (by decide +kernel) (by decide) (fun c1 => ?_) (fun c1 => ?_)
      · rw [if_neg c1] at hj
        refine j_iconst F (pc := 40) (n := 0) (v := 0) (by decide +kernel) (by decide +kernel) ?_
        exact hj
      · rw [if_pos c1] at hj
        refine j_iconst F (pc := 34) (n := 5) (v := 5) (by decide +kernel) (by decide +kernel) ?_
        refine j_iload_n F (pc := 35) (q := 2) (by decide +kernel) rfl ?_
        refine j_isub F (pc := 36) (by decide +kernel) ?_
        refine j_goto F (pc := 37) (off := 4) (tgt := 41) (by decide +kernel) (by decide) ?_
        exact hj
  obtain ⟨x_17, e18, h⟩ := z_lt_some h
  rw [← e18]
  refine j_istore F (pc := 41) (i := 5) (L' := [some (.ref o), some (.int x1), some (.int x2), some (.int x3), some (.int x_15), some (.int x_17), none]) (by decide +kernel) (by decide) rfl rfl ?_
  refine j_aload_n F (pc := 43) (q := 0) (by decide +kernel) rfl ?_
  refine j_getI F (pc := 44) fl_X0_43 (hb.1 0 _ rfl) rfl (by decide +kernel) ?_
  refine j_iconst F (pc := 47) (n := 1) (v := 1) (by decide +kernel) (by decide +kernel) ?_
  suffices hj : z_J E 7 72 [some (.ref o), some (.int x1), some (.int x2), some (.int x3), some (.int x_15), some (.int x_17), none] (.int (if (μ9.1 o 9) = (1 : Int32) then ((999 : Int32) - x3) else (if (μ9.1 o 9) = (2 : Int32) then x3 else (0 : Int32))) :: []) μ9 by
    refine j_icmp_ne F (pc := 48) (off := 11) (tgt := 59) (by decide +kernel) (by decide) (fun c0 => ?_) (fun c0 => ?_)
    · rw [if_neg c0] at hj
      refine j_aload_n F (pc := 59) (q := 0) (by decide +kernel) rfl ?_
      refine j_getI F (pc := 60) fl_X0_43 (hb.1 0 _ rfl) rfl (by decide +kernel) ?_
      refine j_iconst F (pc := 63) (n := 2) (v := 2) (by decide +kernel) (by decide +kernel) ?_
      refine j_icmp_ne F (pc := 64) (off := 7) (tgt := 71) (by decide +kernel) (by decide) (fun c1 => ?_) (fun c1 => ?_)
      · rw [if_neg c1] at hj
        refine j_iconst F (pc := 71) (n := 0) (v := 0) (by decide +kernel) (by decide +kernel) ?_
        exact hj
      · rw [if_pos c1] at hj
        refine j_iload_n F (pc := 67) (q := 3) (by decide +kernel) rfl ?_
        refine j_goto F (pc := 68) (off := 4) (tgt := 72) (by decide +kernel) (by decide) ?_
        exact hj
    · rw [if_pos c0] at hj
      refine j_sipush F (pc := 51) (n := 999) (v := 999) (by decide +kernel) (by decide +kernel) ?_
      refine j_iload_n F (pc := 54) (q := 3) (by decide +kernel) rfl ?_
      refine j_isub F (pc := 55) (by decide +kernel) ?_
      refine j_goto F (pc := 56) (off := 16) (tgt := 72) (by decide +kernel) (by decide) ?_
      exact hj
  obtain ⟨x_19, e20, h⟩ := z_lt_some h
  rw [← e20]
  refine j_istore F (pc := 72) (i := 6) (L' := [some (.ref o), some (.int x1), some (.int x2), some (.int x3), some (.int x_15), some (.int x_17), some (.int x_19)]) (by decide +kernel) (by decide) rfl rfl ?_
  refine j_iload F (pc := 74) (i := 4) (by decide +kernel) rfl ?_
  refine j_bipush F (pc := 76) (n := 7) (v := 7) (by decide +kernel) (by decide +kernel) ?_
  refine j_imul F (pc := 78) (by decide +kernel) ?_
  refine j_iload F (pc := 79) (i := 5) (by decide +kernel) rfl ?_
  refine j_iadd F (pc := 81) (by decide +kernel) ?_
  refine j_bipush F (pc := 82) (n := 8) (v := 8) (by decide +kernel) (by decide +kernel) ?_
  refine j_imul F (pc := 84) (by decide +kernel) ?_
  refine j_aload_n F (pc := 85) (q := 0) (by decide +kernel) rfl ?_
  refine j_getR F (pc := 86) (hb.r hρ10 3 rfl) fl_X0_21 (hb.1 0 _ rfl) rfl (by decide +kernel) ?_
  refine j_iload_n F (pc := 89) (q := 1) (by decide +kernel) rfl ?_
  obtain ⟨hg, h⟩ := z_ifs h
  refine j_iald F (pc := 90) (hb.1 4 _ rfl) hg (by decide +kernel) ?_
  refine j_iadd F (pc := 91) (by decide +kernel) ?_
  refine j_sipush F (pc := 92) (n := 1000) (v := 1000) (by decide +kernel) (by decide +kernel) ?_
  refine j_imul F (pc := 95) (by decide +kernel) ?_
  refine j_iload F (pc := 96) (i := 6) (by decide +kernel) rfl ?_
  refine j_iadd F (pc := 98) (by decide +kernel) ?_
  exact j_iret (st := []) F Rt rfl (by decide +kernel) ⟨hρ10, _, rfl, (congrArg Prod.fst (Option.some.inj h)).symm, (congrArg Prod.snd (Option.some.inj h)).symm⟩
/-- LastLent$Ship.standing -/
def f_X3_standing (o : Nat) (o1 : Nat) (x2 : Int32) (μ : z_M) : Option (Int32 × z_M) :=
  (if z_in x2 14 then (z_b2 (f_X3_voyageOf (o) (x2) μ) fun r1 μ2 => (if z_in x2 14 then (z_b2 (f_X0_standingOf (o1) ((μ.1 (o + 3) x2.toNatClampNeg)) (r1) ((μ2.1 (o + 5) x2.toNatClampNeg)) μ2) fun r8 μ9 => (some (r8, μ9))) else none)) else none)
set_option maxHeartbeats 4000000 in
set_option maxRecDepth 100000 in
theorem t_X3_standing {G : z_Gl} {ρ : Nat → Nat → Option Nat} {μ : z_M} {r : Int32} {μr : z_M} {o : Nat} {o1 : Nat} {x2 : Int32} (hρ : μ.2.2 = ρ) (hb : z_blk z_shipS z_shipR (z_sh G) ρ o) (hb1 : z_blk z_lawS z_lawR (z_sh G) ρ o1) (h : f_X3_standing o o1 x2 μ = some (r, μr)) : z_Ci G yX3_standing cX3_standing 3 (some .int) 2 [.ref o, .ref o1, .int x2] μ (fun r1 μ1 => r = r1 ∧ μr = μ1) := by
  unfold z_Ci
  refine z_intro (by decide +kernel) (Nat.le_of_ble_eq_true rfl) (fun E hE F Rt => ?_)
  subst hE
  have F : z_F E RX3 cX3_standing 3 2 := F
  rw [hρ] at Rt
  unfold f_X3_standing at h
  show z_J E 3 0 [some (.ref o), some (.ref o1), some (.int x2)] [] μ
  refine j_aload_n F (pc := 0) (q := 1) (by decide +kernel) rfl ?_
  refine j_aload_n F (pc := 1) (q := 0) (by decide +kernel) rfl ?_
  refine j_getR F (pc := 2) (hb.r hρ 5 rfl) fl_X3_18 (hb.1 0 _ rfl) rfl (by decide +kernel) ?_
  refine j_iload_n F (pc := 5) (q := 2) (by decide +kernel) rfl ?_
  obtain ⟨hg, h⟩ := z_ifs h
  refine j_iald F (pc := 6) (hb.1 3 _ rfl) hg (by decide +kernel) ?_
  refine j_aload_n F (pc := 7) (q := 0) (by decide +kernel) rfl ?_
  refine j_iload_n F (pc := 8) (q := 2) (by decide +kernel) rfl ?_
  obtain ⟨r1, μ2, hc4, h⟩ := z_b2_some h
  refine j_callVi F (pc := 9) (idx := 56) (As := [.int x2]) (st := [.int (μ.1 (o + 3) x2.toNatClampNeg), .ref o1]) (t_X3_voyageOf (G := E.1) hρ hb hc4) q_X3_voyageOf v_X3_voyageOf m_679 (hb.1 0 _ rfl) rfl rfl (by decide) (Nat.le_of_ble_eq_true rfl) rfl (by decide +kernel) (fun s7 ν5 hq6 hp => ?_)
  obtain ⟨rfl, rfl⟩ := hp
  have hρ3 : μ2.2.2 = ρ := hq6.trans hρ
  refine j_aload_n F (pc := 12) (q := 0) (by decide +kernel) rfl ?_
  refine j_getR F (pc := 13) (hb.r hρ3 7 rfl) fl_X3_24 (hb.1 0 _ rfl) rfl (by decide +kernel) ?_
  refine j_iload_n F (pc := 16) (q := 2) (by decide +kernel) rfl ?_
  obtain ⟨hg, h⟩ := z_ifs h
  refine j_iald F (pc := 17) (hb.1 5 _ rfl) hg (by decide +kernel) ?_
  obtain ⟨r8, μ9, hc11, h⟩ := z_b2_some h
  refine j_callVi F (pc := 18) (idx := 60) (As := [.int (μ.1 (o + 3) x2.toNatClampNeg), .int r1, .int (μ2.1 (o + 5) x2.toNatClampNeg)]) (st := []) (t_X0_standingOf (G := E.1) hρ3 hb1 hc11) q_X0_standingOf v_X0_standingOf m_680 (hb1.1 0 _ rfl) rfl rfl (by decide) (Nat.le_of_ble_eq_true rfl) rfl (by decide +kernel) (fun s14 ν12 hq13 hp => ?_)
  obtain ⟨rfl, rfl⟩ := hp
  have hρ10 : μ9.2.2 = ρ := hq13.trans hρ3
  exact j_iret (st := []) F Rt rfl (by decide +kernel) ⟨hρ10, _, rfl, (congrArg Prod.fst (Option.some.inj h)).symm, (congrArg Prod.snd (Option.some.inj h)).symm⟩
/-- java/lang/Integer.compare -/
def f_J6_compare_7cf53 (x0 : Int32) (x1 : Int32) (μ : z_M) : Option (Int32 × z_M) :=
  (some ((if x1 ≤ x0 then (if x0 = x1 then (0 : Int32) else (1 : Int32)) else (-1 : Int32)), μ))
set_option maxHeartbeats 4000000 in
set_option maxRecDepth 100000 in
theorem t_J6_compare_7cf53 {G : z_Gl} {ρ : Nat → Nat → Option Nat} {μ : z_M} {r : Int32} {μr : z_M} {x0 : Int32} {x1 : Int32} (hρ : μ.2.2 = ρ)  (h : f_J6_compare_7cf53 x0 x1 μ = some (r, μr)) : z_Ci G yJ6_compare_7cf53 cJ6_compare_7cf53 2 (some .int) 0 [.int x0, .int x1] μ (fun r1 μ1 => r = r1 ∧ μr = μ1) := by
  unfold z_Ci
  refine z_intro (by decide +kernel) (Nat.le_of_ble_eq_true rfl) (fun E hE F Rt => ?_)
  subst hE
  have F : z_F E RJ6 cJ6_compare_7cf53 2 0 := F
  rw [hρ] at Rt
  unfold f_J6_compare_7cf53 at h
  show z_J E 2 0 [some (.int x0), some (.int x1)] [] μ
  refine j_iload_n F (pc := 0) (q := 0) (by decide +kernel) rfl ?_
  refine j_iload_n F (pc := 1) (q := 1) (by decide +kernel) rfl ?_
  suffices hj : z_J E 2 19 [some (.int x0), some (.int x1)] (.int (if x1 ≤ x0 then (if x0 = x1 then (0 : Int32) else (1 : Int32)) else (-1 : Int32)) :: []) μ by
    refine j_icmp_ge F (pc := 2) (off := 7) (tgt := 9) (by decide +kernel) (by decide) (fun c0 => ?_) (fun c0 => ?_)
    · rw [if_pos c0] at hj
      refine j_iload_n F (pc := 9) (q := 0) (by decide +kernel) rfl ?_
      refine j_iload_n F (pc := 10) (q := 1) (by decide +kernel) rfl ?_
      refine j_icmp_ne F (pc := 11) (off := 7) (tgt := 18) (by decide +kernel) (by decide) (fun c1 => ?_) (fun c1 => ?_)
      · rw [if_neg c1] at hj
        refine j_iconst F (pc := 18) (n := 1) (v := 1) (by decide +kernel) (by decide +kernel) ?_
        exact hj
      · rw [if_pos c1] at hj
        refine j_iconst F (pc := 14) (n := 0) (v := 0) (by decide +kernel) (by decide +kernel) ?_
        refine j_goto F (pc := 15) (off := 4) (tgt := 19) (by decide +kernel) (by decide) ?_
        exact hj
    · rw [if_neg c0] at hj
      refine j_iconst F (pc := 5) (n := -1) (v := -1) (by decide +kernel) (by decide +kernel) ?_
      refine j_goto F (pc := 6) (off := 13) (tgt := 19) (by decide +kernel) (by decide) ?_
      exact hj
  exact j_iret (st := []) F Rt rfl (by decide +kernel) ⟨hρ, _, rfl, (congrArg Prod.fst (Option.some.inj h)).symm, (congrArg Prod.snd (Option.some.inj h)).symm⟩
/-- LastLent.ahead -/
def f_X4_ahead (x1 : Int32) (x2 : Int32) (x3 : Int32) (μ : z_M) : Option (Int32 × z_M) :=
  (z_b2 (f_X4_isLand (x1) μ) fun r1 μ2 => (if r1 = 0 then (some ((-1001 : Int32), μ2)) else (z_b2 (f_X4_isClaim (x2) μ2) fun r8 μ9 => (if r8 = 0 then (some ((-1001 : Int32), μ9)) else (z_b2 (f_X4_isClaim (x3) μ9) fun r15 μ16 => (if r15 = 0 then (some ((-1001 : Int32), μ16)) else (if z_in x1 4 then ((μ16.2.2 1 x1.toNatClampNeg).bind fun r22 => (z_b2 (f_X3_standing (4) (r22) (x3) μ16) fun r25 μ26 => (if z_in x1 4 then ((μ26.2.2 1 x1.toNatClampNeg).bind fun r32 => (z_b2 (f_X3_standing (4) (r32) (x2) μ26) fun r35 μ36 => (z_b2 (f_J6_compare_7cf53 (r25) (r35) μ36) fun r42 μ43 => (some (r42, μ43))))) else none))) else none)))))))
set_option maxHeartbeats 4000000 in
set_option maxRecDepth 100000 in
theorem t_X4_ahead {G : z_Gl} {ρ : Nat → Nat → Option Nat} {μ : z_M} {r : Int32} {μr : z_M} {x1 : Int32} {x2 : Int32} {x3 : Int32} (hρ : μ.2.2 = ρ) (hk : z_ok (z_sh G) ρ) (h : f_X4_ahead x1 x2 x3 μ = some (r, μr)) : z_Ci G yX4_ahead cX4_ahead 4 (some .int) 3 [.ref 0, .int x1, .int x2, .int x3] μ (fun r1 μ1 => r = r1 ∧ μr = μ1) := by
  unfold z_Ci
  refine z_intro (by decide +kernel) (Nat.le_of_ble_eq_true rfl) (fun E hE F Rt => ?_)
  subst hE
  have F : z_F E RX4 cX4_ahead 4 3 := F
  rw [hρ] at Rt
  unfold f_X4_ahead at h
  show z_J E 4 0 [some (.ref 0), some (.int x1), some (.int x2), some (.int x3)] [] μ
  refine j_iload_n F (pc := 0) (q := 1) (by decide +kernel) rfl ?_
  obtain ⟨r1, μ2, hc4, h⟩ := z_b2_some h
  refine j_callSi F (pc := 1) (idx := 67) (As := [.int x1]) (st := []) (t_X4_isLand (G := E.1) hρ  hc4) q_X4_isLand m_387 m_386 rfl (by decide) (Nat.le_of_ble_eq_true rfl) rfl (by decide +kernel) (fun s7 ν5 hq6 hp => ?_)
  obtain ⟨rfl, rfl⟩ := hp
  have hρ3 : μ2.2.2 = ρ := hq6.trans hρ
  refine j_if_eq F (pc := 4) (off := 19) (tgt := 23) (by decide +kernel) (by decide) (fun c => ?_) (fun c => ?_)
  · rw [if_pos c] at h
    refine j_sipush F (pc := 23) (n := -1001) (v := -1001) (by decide +kernel) (by decide +kernel) ?_
    exact j_iret (st := []) F Rt rfl (by decide +kernel) ⟨hρ3, _, rfl, (congrArg Prod.fst (Option.some.inj h)).symm, (congrArg Prod.snd (Option.some.inj h)).symm⟩
  · rw [if_neg c] at h
    refine j_aload_n F (pc := 7) (q := 0) (by decide +kernel) rfl ?_
    refine j_iload_n F (pc := 8) (q := 2) (by decide +kernel) rfl ?_
    obtain ⟨r8, μ9, hc11, h⟩ := z_b2_some h
    refine j_callVi F (pc := 9) (idx := 148) (As := [.int x2]) (st := []) (t_X4_isClaim (G := E.1) hρ3 hk hc11) q_X4_isClaim v_X4_isClaim m_605 (hk.s c_0) rfl rfl (by decide) (Nat.le_of_ble_eq_true rfl) rfl (by decide +kernel) (fun s14 ν12 hq13 hp => ?_)
    obtain ⟨rfl, rfl⟩ := hp
    have hρ10 : μ9.2.2 = ρ := hq13.trans hρ3
    refine j_if_eq F (pc := 12) (off := 11) (tgt := 23) (by decide +kernel) (by decide) (fun c => ?_) (fun c => ?_)
    · rw [if_pos c] at h
      refine j_sipush F (pc := 23) (n := -1001) (v := -1001) (by decide +kernel) (by decide +kernel) ?_
      exact j_iret (st := []) F Rt rfl (by decide +kernel) ⟨hρ10, _, rfl, (congrArg Prod.fst (Option.some.inj h)).symm, (congrArg Prod.snd (Option.some.inj h)).symm⟩
    · rw [if_neg c] at h
      refine j_aload_n F (pc := 15) (q := 0) (by decide +kernel) rfl ?_
      refine j_iload_n F (pc := 16) (q := 3) (by decide +kernel) rfl ?_
      obtain ⟨r15, μ16, hc18, h⟩ := z_b2_some h
      refine j_callVi F (pc := 17) (idx := 148) (As := [.int x3]) (st := []) (t_X4_isClaim (G := E.1) hρ10 hk hc18) q_X4_isClaim v_X4_isClaim m_605 (hk.s c_0) rfl rfl (by decide) (Nat.le_of_ble_eq_true rfl) rfl (by decide +kernel) (fun s21 ν19 hq20 hp => ?_)
      obtain ⟨rfl, rfl⟩ := hp
      have hρ17 : μ16.2.2 = ρ := hq20.trans hρ10
      refine j_if_ne F (pc := 20) (off := 7) (tgt := 27) (by decide +kernel) (by decide) (fun c => ?_) (fun c => ?_)
      · rw [if_neg c] at h
        refine j_aload_n F (pc := 27) (q := 0) (by decide +kernel) rfl ?_
        refine j_getR F (pc := 28) (hk.r hρ17 r_0_2) fl_X4_25 (hk.s c_0) rfl (by decide +kernel) ?_
        refine j_aload_n F (pc := 31) (q := 0) (by decide +kernel) rfl ?_
        refine j_getR F (pc := 32) (hk.r hρ17 r_0_0) fl_X4_11 (hk.s c_0) rfl (by decide +kernel) ?_
        refine j_iload_n F (pc := 35) (q := 1) (by decide +kernel) rfl ?_
        obtain ⟨hg, h⟩ := z_ifs h
        obtain ⟨r22, hr23, h⟩ := Option.bind_eq_some_iff.mp h
        have hb24 := hk.lawsAt hρ17 hr23
        refine j_aald F (pc := 36) (hk.s c_1) (by decide) hg hr23 (by decide +kernel) ?_
        refine j_iload_n F (pc := 37) (q := 3) (by decide +kernel) rfl ?_
        obtain ⟨r25, μ26, hc28, h⟩ := z_b2_some h
        refine j_callVi F (pc := 38) (idx := 206) (As := [.ref r22, .int x3]) (st := []) (t_X3_standing (G := E.1) hρ17 (hk.shipB (by decide : 4 ∈ z_SHIPS)) hb24 hc28) q_X3_standing v_X3_standing m_675 ((hk.shipB (by decide : 4 ∈ z_SHIPS)).1 0 _ rfl) rfl rfl (by decide) (Nat.le_of_ble_eq_true rfl) rfl (by decide +kernel) (fun s31 ν29 hq30 hp => ?_)
        obtain ⟨rfl, rfl⟩ := hp
        have hρ27 : μ26.2.2 = ρ := hq30.trans hρ17
        refine j_aload_n F (pc := 41) (q := 0) (by decide +kernel) rfl ?_
        refine j_getR F (pc := 42) (hk.r hρ27 r_0_2) fl_X4_25 (hk.s c_0) rfl (by decide +kernel) ?_
        refine j_aload_n F (pc := 45) (q := 0) (by decide +kernel) rfl ?_
        refine j_getR F (pc := 46) (hk.r hρ27 r_0_0) fl_X4_11 (hk.s c_0) rfl (by decide +kernel) ?_
        refine j_iload_n F (pc := 49) (q := 1) (by decide +kernel) rfl ?_
        obtain ⟨hg, h⟩ := z_ifs h
        obtain ⟨r32, hr33, h⟩ := Option.bind_eq_some_iff.mp h
        have hb34 := hk.lawsAt hρ27 hr33
        refine j_aald F (pc := 50) (hk.s c_1) (by decide) hg hr33 (by decide +kernel) ?_
        refine j_iload_n F (pc := 51) (q := 2) (by decide +kernel) rfl ?_
        obtain ⟨r35, μ36, hc38, h⟩ := z_b2_some h
        refine j_callVi F (pc := 52) (idx := 206) (As := [.ref r32, .int x2]) (st := [.int r25]) (t_X3_standing (G := E.1) hρ27 (hk.shipB (by decide : 4 ∈ z_SHIPS)) hb34 hc38) q_X3_standing v_X3_standing m_675 ((hk.shipB (by decide : 4 ∈ z_SHIPS)).1 0 _ rfl) rfl rfl (by decide) (Nat.le_of_ble_eq_true rfl) rfl (by decide +kernel) (fun s41 ν39 hq40 hp => ?_)
        obtain ⟨rfl, rfl⟩ := hp
        have hρ37 : μ36.2.2 = ρ := hq40.trans hρ27
        obtain ⟨r42, μ43, hc45, h⟩ := z_b2_some h
        refine j_callSi F (pc := 55) (idx := 209) (As := [.int r25, .int r35]) (st := []) (t_J6_compare_7cf53 (G := E.1) hρ37  hc45) q_J6_compare_7cf53 m_685 m_684 rfl (by decide) (Nat.le_of_ble_eq_true rfl) rfl (by decide +kernel) (fun s48 ν46 hq47 hp => ?_)
        obtain ⟨rfl, rfl⟩ := hp
        have hρ44 : μ43.2.2 = ρ := hq47.trans hρ37
        exact j_iret (st := []) F Rt rfl (by decide +kernel) ⟨hρ44, _, rfl, (congrArg Prod.fst (Option.some.inj h)).symm, (congrArg Prod.snd (Option.some.inj h)).symm⟩
      · rw [if_pos c] at h
        refine j_sipush F (pc := 23) (n := -1001) (v := -1001) (by decide +kernel) (by decide +kernel) ?_
        exact j_iret (st := []) F Rt rfl (by decide +kernel) ⟨hρ17, _, rfl, (congrArg Prod.fst (Option.some.inj h)).symm, (congrArg Prod.snd (Option.some.inj h)).symm⟩
/-- LastLent$Law.fundsFor -/
def f_X0_fundsFor (o : Nat) (x1 : Int32) (x2 : Int32) (μ : z_M) : Option (Int32 × z_M) :=
  (if z_in x1 8 then (z_b2 (f_X4_bit ((μ.1 (o + 1) x1.toNatClampNeg)) ((2 : Int32)) μ) fun r1 μ2 => (z_lt (if r1 = (1 : Int32) then (x2 <<< ((2 : Int32) &&& 31)) else (0 : Int32)) fun x_8 => (if z_in x1 8 then (some ((((μ2.1 (o + 1) x1.toNatClampNeg) &&& (3 : Int32)) ||| x_8), μ2)) else none))) else none)
set_option maxHeartbeats 4000000 in
set_option maxRecDepth 100000 in
theorem t_X0_fundsFor {G : z_Gl} {ρ : Nat → Nat → Option Nat} {μ : z_M} {r : Int32} {μr : z_M} {o : Nat} {x1 : Int32} {x2 : Int32} (hρ : μ.2.2 = ρ) (hb : z_blk z_lawS z_lawR (z_sh G) ρ o) (h : f_X0_fundsFor o x1 x2 μ = some (r, μr)) : z_Ci G yX0_fundsFor cX0_fundsFor 4 (some .int) 1 [.ref o, .int x1, .int x2] μ (fun r1 μ1 => r = r1 ∧ μr = μ1) := by
  unfold z_Ci
  refine z_intro (by decide +kernel) (Nat.le_of_ble_eq_true rfl) (fun E hE F Rt => ?_)
  subst hE
  have F : z_F E RX0 cX0_fundsFor 4 1 := F
  rw [hρ] at Rt
  unfold f_X0_fundsFor at h
  show z_J E 4 0 [some (.ref o), some (.int x1), some (.int x2), none] [] μ
  refine j_aload_n F (pc := 0) (q := 0) (by decide +kernel) rfl ?_
  refine j_getR F (pc := 1) (hb.r hρ 0 rfl) fl_X0_9 (hb.1 0 _ rfl) rfl (by decide +kernel) ?_
  refine j_iload_n F (pc := 4) (q := 1) (by decide +kernel) rfl ?_
  obtain ⟨hg, h⟩ := z_ifs h
  refine j_iald F (pc := 5) (hb.1 1 _ rfl) hg (by decide +kernel) ?_
  refine j_iconst F (pc := 6) (n := 2) (v := 2) (by decide +kernel) (by decide +kernel) ?_
  obtain ⟨r1, μ2, hc4, h⟩ := z_b2_some h
  refine j_callNi F (pc := 7) (idx := 59) (As := [.int (μ.1 (o + 1) x1.toNatClampNeg), .int (2 : Int32)]) (st := []) (t_X4_bit (G := E.1) hρ  hc4) q_X4_bit m_474 (by decide +kernel) rfl (by decide) (Nat.le_of_ble_eq_true rfl) rfl (by decide +kernel) (fun s7 ν5 hq6 hp => ?_)
  obtain ⟨rfl, rfl⟩ := hp
  have hρ3 : μ2.2.2 = ρ := hq6.trans hρ
  refine j_iconst F (pc := 10) (n := 1) (v := 1) (by decide +kernel) (by decide +kernel) ?_
  suffices hj : z_J E 4 21 [some (.ref o), some (.int x1), some (.int x2), none] (.int (if r1 = (1 : Int32) then (x2 <<< ((2 : Int32) &&& 31)) else (0 : Int32)) :: []) μ2 by
    refine j_icmp_ne F (pc := 11) (off := 9) (tgt := 20) (by decide +kernel) (by decide) (fun c0 => ?_) (fun c0 => ?_)
    · rw [if_neg c0] at hj
      refine j_iconst F (pc := 20) (n := 0) (v := 0) (by decide +kernel) (by decide +kernel) ?_
      exact hj
    · rw [if_pos c0] at hj
      refine j_iload_n F (pc := 14) (q := 2) (by decide +kernel) rfl ?_
      refine j_iconst F (pc := 15) (n := 2) (v := 2) (by decide +kernel) (by decide +kernel) ?_
      refine j_ishl F (pc := 16) (by decide +kernel) ?_
      refine j_goto F (pc := 17) (off := 4) (tgt := 21) (by decide +kernel) (by decide) ?_
      exact hj
  obtain ⟨x_8, e9, h⟩ := z_lt_some h
  rw [← e9]
  refine j_istore_n F (pc := 21) (q := 3) (L' := [some (.ref o), some (.int x1), some (.int x2), some (.int x_8)]) (by decide +kernel) (by decide) rfl rfl ?_
  refine j_aload_n F (pc := 22) (q := 0) (by decide +kernel) rfl ?_
  refine j_getR F (pc := 23) (hb.r hρ3 0 rfl) fl_X0_9 (hb.1 0 _ rfl) rfl (by decide +kernel) ?_
  refine j_iload_n F (pc := 26) (q := 1) (by decide +kernel) rfl ?_
  obtain ⟨hg, h⟩ := z_ifs h
  refine j_iald F (pc := 27) (hb.1 1 _ rfl) hg (by decide +kernel) ?_
  refine j_iconst F (pc := 28) (n := 3) (v := 3) (by decide +kernel) (by decide +kernel) ?_
  refine j_iand F (pc := 29) (by decide +kernel) ?_
  refine j_iload_n F (pc := 30) (q := 3) (by decide +kernel) rfl ?_
  refine j_ior F (pc := 31) (by decide +kernel) ?_
  exact j_iret (st := []) F Rt rfl (by decide +kernel) ⟨hρ3, _, rfl, (congrArg Prod.fst (Option.some.inj h)).symm, (congrArg Prod.snd (Option.some.inj h)).symm⟩
def g_X2_joinLine_51   (x1 : Int32) (x2 : Int32) (μ : z_M) : Option z_M :=
  (if z_in x2 14 then (z_st (z_si μ 29 x2.toNatClampNeg x1) fun μ3 => (z_st (z_si μ3 28 1 ((μ3.1 28 1) + (1 : Int32))) fun μ6 => (some μ6))) else none)
def g_X2_joinLine_5   : Nat → Int32 → Int32 → z_M → Option z_M
  | 0, _, _, _ => none
  | n + 1, x1, x2, μ => (if x2 ≤ 0 then (g_X2_joinLine_51   (x1) (x2) μ) else (if z_in (x2 - (1 : Int32)) 14 then (if z_in (μ.1 29 (x2 - (1 : Int32)).toNatClampNeg) 14 then (if z_in x1 14 then (if (μ.1 30 (μ.1 29 (x2 - (1 : Int32)).toNatClampNeg).toNatClampNeg) ≤ (μ.1 30 x1.toNatClampNeg) then (g_X2_joinLine_51   (x1) (x2) μ) else (if z_in (x2 - (1 : Int32)) 14 then (if z_in x2 14 then (z_st (z_si μ 29 x2.toNatClampNeg (μ.1 29 (x2 - (1 : Int32)).toNatClampNeg)) fun μ9 => (g_X2_joinLine_5   n (x1) ((x2 + (-1 : Int32))) μ9)) else none) else none)) else none) else none) else none))
def f_X2_joinLine (x1 : Int32) (μ : z_M) : Option z_M :=
  (z_lt (μ.1 28 1) fun x_1 => (g_X2_joinLine_5   z_N (x1) (x_1) μ))
set_option maxHeartbeats 4000000 in
set_option maxRecDepth 100000 in
theorem u_X2_joinLine_51 {E : z_E} {ρ : Nat → Nat → Option Nat} {μr : z_M} (F : z_F E RX2 cX2_joinLine 3 0) (Rt : z_R E none (fun v μ1 => μ1.2.2 = ρ ∧ v = none ∧ μr = μ1))  (hk : z_ok (z_sh E.1) ρ) : ∀ (x1 : Int32) (x2 : Int32) (μ : z_M), μ.2.2 = ρ → g_X2_joinLine_51   x1 x2 μ = some μr → z_J E 3 51 [some (.ref 28), some (.int x1), some (.int x2)] [] μ := by
  intro x1 x2 μ hρ h
  unfold g_X2_joinLine_51 at h
  refine j_aload_n F (pc := 51) (q := 0) (by decide +kernel) rfl ?_
  refine j_getR F (pc := 52) (hk.r hρ r_28_0) fl_X2_9 (hk.s c_28) rfl (by decide +kernel) ?_
  refine j_iload_n F (pc := 55) (q := 2) (by decide +kernel) rfl ?_
  refine j_iload_n F (pc := 56) (q := 1) (by decide +kernel) rfl ?_
  obtain ⟨hg, h⟩ := z_ifs h
  refine j_iast F (pc := 57) (hk.s c_29) hg (by decide +kernel) ?_
  obtain ⟨μ3, e5, h⟩ := z_st_some h
  rw [← e5]
  have hρ4 : μ3.2.2 = ρ := by rw [e5]; exact hρ
  refine j_aload_n F (pc := 58) (q := 0) (by decide +kernel) rfl ?_
  refine j_dup F (pc := 59) (by decide +kernel) rfl ?_
  refine j_getI F (pc := 60) fl_X2_86 (hk.s c_28) rfl (by decide +kernel) ?_
  refine j_iconst F (pc := 63) (n := 1) (v := 1) (by decide +kernel) (by decide +kernel) ?_
  refine j_iadd F (pc := 64) (by decide +kernel) ?_
  refine j_putI F (pc := 65) fl_X2_86 fp_X2_1 (hk.s c_28) rfl (by decide +kernel) ?_
  obtain ⟨μ6, e8, h⟩ := z_st_some h
  rw [← e8]
  have hρ7 : μ6.2.2 = ρ := by rw [e8]; exact hρ4
  exact j_vret (st := []) F Rt (by decide +kernel) ⟨hρ7, rfl, (Option.some.inj h).symm⟩
set_option maxHeartbeats 4000000 in
set_option maxRecDepth 100000 in
theorem u_X2_joinLine_5 {E : z_E} {ρ : Nat → Nat → Option Nat} {μr : z_M} (F : z_F E RX2 cX2_joinLine 3 0) (Rt : z_R E none (fun v μ1 => μ1.2.2 = ρ ∧ v = none ∧ μr = μ1))  (hk : z_ok (z_sh E.1) ρ) : ∀ (n : Nat) (x1 : Int32) (x2 : Int32) (μ : z_M), μ.2.2 = ρ → g_X2_joinLine_5   n x1 x2 μ = some μr → z_J E 3 5 [some (.ref 28), some (.int x1), some (.int x2)] [] μ := by
  intro n
  induction n with
  | zero =>
    intro x1 x2 μ hρ h
    rw [g_X2_joinLine_5] at h
    cases h
  | succ n ih =>
    intro x1 x2 μ hρ h
    rw [g_X2_joinLine_5] at h
    refine j_iload_n F (pc := 5) (q := 2) (by decide +kernel) rfl ?_
    refine j_if_le F (pc := 6) (off := 45) (tgt := 51) (by decide +kernel) (by decide) (fun c => ?_) (fun c => ?_)
    · rw [if_pos c] at h
      refine u_X2_joinLine_51 F Rt hk  _ _ _ hρ h
    · rw [if_neg c] at h
      refine j_aload_n F (pc := 9) (q := 0) (by decide +kernel) rfl ?_
      refine j_getR F (pc := 10) (hk.r hρ r_28_3) fl_X2_15 (hk.s c_28) rfl (by decide +kernel) ?_
      refine j_aload_n F (pc := 13) (q := 0) (by decide +kernel) rfl ?_
      refine j_getR F (pc := 14) (hk.r hρ r_28_0) fl_X2_9 (hk.s c_28) rfl (by decide +kernel) ?_
      refine j_iload_n F (pc := 17) (q := 2) (by decide +kernel) rfl ?_
      refine j_iconst F (pc := 18) (n := 1) (v := 1) (by decide +kernel) (by decide +kernel) ?_
      refine j_isub F (pc := 19) (by decide +kernel) ?_
      obtain ⟨hg, h⟩ := z_ifs h
      refine j_iald F (pc := 20) (hk.s c_29) hg (by decide +kernel) ?_
      obtain ⟨hg, h⟩ := z_ifs h
      refine j_iald F (pc := 21) (hk.s c_30) hg (by decide +kernel) ?_
      refine j_aload_n F (pc := 22) (q := 0) (by decide +kernel) rfl ?_
      refine j_getR F (pc := 23) (hk.r hρ r_28_3) fl_X2_15 (hk.s c_28) rfl (by decide +kernel) ?_
      refine j_iload_n F (pc := 26) (q := 1) (by decide +kernel) rfl ?_
      obtain ⟨hg, h⟩ := z_ifs h
      refine j_iald F (pc := 27) (hk.s c_30) hg (by decide +kernel) ?_
      refine j_icmp_le F (pc := 28) (off := 23) (tgt := 51) (by decide +kernel) (by decide) (fun c => ?_) (fun c => ?_)
      · rw [if_pos c] at h
        refine u_X2_joinLine_51 F Rt hk  _ _ _ hρ h
      · rw [if_neg c] at h
        refine j_aload_n F (pc := 31) (q := 0) (by decide +kernel) rfl ?_
        refine j_getR F (pc := 32) (hk.r hρ r_28_0) fl_X2_9 (hk.s c_28) rfl (by decide +kernel) ?_
        refine j_iload_n F (pc := 35) (q := 2) (by decide +kernel) rfl ?_
        refine j_aload_n F (pc := 36) (q := 0) (by decide +kernel) rfl ?_
        refine j_getR F (pc := 37) (hk.r hρ r_28_0) fl_X2_9 (hk.s c_28) rfl (by decide +kernel) ?_
        refine j_iload_n F (pc := 40) (q := 2) (by decide +kernel) rfl ?_
        refine j_iconst F (pc := 41) (n := 1) (v := 1) (by decide +kernel) (by decide +kernel) ?_
        refine j_isub F (pc := 42) (by decide +kernel) ?_
        obtain ⟨hg, h⟩ := z_ifs h
        refine j_iald F (pc := 43) (hk.s c_29) hg (by decide +kernel) ?_
        obtain ⟨hg, h⟩ := z_ifs h
        refine j_iast F (pc := 44) (hk.s c_29) hg (by decide +kernel) ?_
        obtain ⟨μ9, e11, h⟩ := z_st_some h
        rw [← e11]
        have hρ10 : μ9.2.2 = ρ := by rw [e11]; exact hρ
        refine j_iinc F (pc := 45) (i := 2) (n := -1) (v := -1) (L' := [some (.ref 28), some (.int x1), some (.int (x2 + (-1 : Int32)))]) (by decide +kernel) rfl (by decide +kernel) (by decide) rfl rfl ?_
        refine j_goto F (pc := 48) (off := -43) (tgt := 5) (by decide +kernel) (by decide) ?_
        exact ih _ _ _ hρ10 h
set_option maxHeartbeats 4000000 in
set_option maxRecDepth 100000 in
theorem t_X2_joinLine {G : z_Gl} {ρ : Nat → Nat → Option Nat} {μ : z_M} {μr : z_M} {x1 : Int32} (hρ : μ.2.2 = ρ) (hk : z_ok (z_sh G) ρ) (h : f_X2_joinLine x1 μ = some μr) : z_Cv G yX2_joinLine cX2_joinLine 3 none 0 [.ref 28, .int x1] μ (fun μ1 => μr = μ1) := by
  unfold z_Cv
  refine z_intro (by decide +kernel) (Nat.le_of_ble_eq_true rfl) (fun E hE F Rt => ?_)
  subst hE
  have F : z_F E RX2 cX2_joinLine 3 0 := F
  rw [hρ] at Rt
  unfold f_X2_joinLine at h
  show z_J E 3 0 [some (.ref 28), some (.int x1), none] [] μ
  refine j_aload_n F (pc := 0) (q := 0) (by decide +kernel) rfl ?_
  refine j_getI F (pc := 1) fl_X2_86 (hk.s c_28) rfl (by decide +kernel) ?_
  obtain ⟨x_1, e2, h⟩ := z_lt_some h
  rw [← e2]
  refine j_istore_n F (pc := 4) (q := 2) (L' := [some (.ref 28), some (.int x1), some (.int x_1)]) (by decide +kernel) (by decide) rfl rfl ?_
  refine u_X2_joinLine_5 F Rt hk  z_N _ _ _ hρ h
def g_X2_lineUp_16 (o1 : Nat) (o2 : Nat)  : Nat → Int32 → Int32 → z_M → Option z_M
  | 0, _, _, _ => none
  | n + 1, x3, x4, μ => (if (μ.1 28 2) ≤ x4 then (some μ) else (if z_in x4 14 then (if z_in x4 14 then (z_st (z_si μ 32 x4.toNatClampNeg (μ.1 (o2 + 6) x4.toNatClampNeg)) fun μ7 => (if z_in x4 14 then (if z_in x4 14 then (z_b2 (f_X0_fundsFor (o1) ((μ7.1 (o2 + 3) x4.toNatClampNeg)) ((μ7.1 (o2 + 7) x4.toNatClampNeg)) μ7) fun r10 μ11 => (if z_in x4 14 then (z_st (z_si μ11 31 x4.toNatClampNeg r10) fun μ17 => (z_b2 (f_X3_standing (o2) (o1) (x4) μ17) fun r20 μ21 => (if z_in x4 14 then (z_st (z_si μ21 30 x4.toNatClampNeg r20) fun μ27 => (z_b2 (f_X3_whyDead (o2) (o1) (x3) (x4) μ27) fun r30 μ31 => (if r30 = 0 then (z_b1 (f_X2_joinLine (x4) μ31) fun μ38 => (g_X2_lineUp_16 o1 o2  n (x3) ((x4 + (1 : Int32))) μ38)) else (g_X2_lineUp_16 o1 o2  n (x3) ((x4 + (1 : Int32))) μ31)))) else none))) else none)) else none) else none)) else none) else none))
def f_X2_lineUp (o1 : Nat) (o2 : Nat) (x3 : Int32) (μ : z_M) : Option z_M :=
  (z_st (z_si μ 28 1 (0 : Int32)) fun μ1 => (z_st (z_si μ1 28 2 (μ1.1 o2 1)) fun μ4 => (g_X2_lineUp_16 o1 o2  z_N (x3) ((0 : Int32)) μ4)))
set_option maxHeartbeats 4000000 in
set_option maxRecDepth 100000 in
theorem u_X2_lineUp_16 {E : z_E} {ρ : Nat → Nat → Option Nat} {μr : z_M} (F : z_F E RX2 cX2_lineUp 5 3) (Rt : z_R E none (fun v μ1 => μ1.2.2 = ρ ∧ v = none ∧ μr = μ1)) {o1 : Nat} {o2 : Nat} (hk : z_ok (z_sh E.1) ρ) (hb1 : z_blk z_lawS z_lawR (z_sh E.1) ρ o1) (hb2 : z_blk z_shipS z_shipR (z_sh E.1) ρ o2) : ∀ (n : Nat) (x3 : Int32) (x4 : Int32) (μ : z_M), μ.2.2 = ρ → g_X2_lineUp_16 o1 o2  n x3 x4 μ = some μr → z_J E 5 16 [some (.ref 28), some (.ref o1), some (.ref o2), some (.int x3), some (.int x4)] [] μ := by
  intro n
  induction n with
  | zero =>
    intro x3 x4 μ hρ h
    rw [g_X2_lineUp_16] at h
    cases h
  | succ n ih =>
    intro x3 x4 μ hρ h
    rw [g_X2_lineUp_16] at h
    refine j_iload F (pc := 16) (i := 4) (by decide +kernel) rfl ?_
    refine j_aload_n F (pc := 18) (q := 0) (by decide +kernel) rfl ?_
    refine j_getI F (pc := 19) fl_X2_92 (hk.s c_28) rfl (by decide +kernel) ?_
    refine j_icmp_ge F (pc := 22) (off := 79) (tgt := 101) (by decide +kernel) (by decide) (fun c => ?_) (fun c => ?_)
    · rw [if_pos c] at h
      exact j_vret (st := []) F Rt (by decide +kernel) ⟨hρ, rfl, (Option.some.inj h).symm⟩
    · rw [if_neg c] at h
      refine j_aload_n F (pc := 25) (q := 0) (by decide +kernel) rfl ?_
      refine j_getR F (pc := 26) (hk.r hρ r_28_5) fl_X2_21 (hk.s c_28) rfl (by decide +kernel) ?_
      refine j_iload F (pc := 29) (i := 4) (by decide +kernel) rfl ?_
      refine j_aload_n F (pc := 31) (q := 2) (by decide +kernel) rfl ?_
      refine j_getR F (pc := 32) (hb2.r hρ 8 rfl) fl_X2_93 (hb2.1 0 _ rfl) rfl (by decide +kernel) ?_
      refine j_iload F (pc := 35) (i := 4) (by decide +kernel) rfl ?_
      obtain ⟨hg, h⟩ := z_ifs h
      refine j_iald F (pc := 37) (hb2.1 6 _ rfl) hg (by decide +kernel) ?_
      obtain ⟨hg, h⟩ := z_ifs h
      refine j_iast F (pc := 38) (hk.s c_32) hg (by decide +kernel) ?_
      obtain ⟨μ7, e9, h⟩ := z_st_some h
      rw [← e9]
      have hρ8 : μ7.2.2 = ρ := by rw [e9]; exact hρ
      refine j_aload_n F (pc := 39) (q := 0) (by decide +kernel) rfl ?_
      refine j_getR F (pc := 40) (hk.r hρ8 r_28_4) fl_X2_18 (hk.s c_28) rfl (by decide +kernel) ?_
      refine j_iload F (pc := 43) (i := 4) (by decide +kernel) rfl ?_
      refine j_aload_n F (pc := 45) (q := 1) (by decide +kernel) rfl ?_
      refine j_aload_n F (pc := 46) (q := 2) (by decide +kernel) rfl ?_
      refine j_getR F (pc := 47) (hb2.r hρ8 5 rfl) fl_X2_94 (hb2.1 0 _ rfl) rfl (by decide +kernel) ?_
      refine j_iload F (pc := 50) (i := 4) (by decide +kernel) rfl ?_
      obtain ⟨hg, h⟩ := z_ifs h
      refine j_iald F (pc := 52) (hb2.1 3 _ rfl) hg (by decide +kernel) ?_
      refine j_aload_n F (pc := 53) (q := 2) (by decide +kernel) rfl ?_
      refine j_getR F (pc := 54) (hb2.r hρ8 9 rfl) fl_X2_97 (hb2.1 0 _ rfl) rfl (by decide +kernel) ?_
      refine j_iload F (pc := 57) (i := 4) (by decide +kernel) rfl ?_
      obtain ⟨hg, h⟩ := z_ifs h
      refine j_iald F (pc := 59) (hb2.1 7 _ rfl) hg (by decide +kernel) ?_
      obtain ⟨r10, μ11, hc13, h⟩ := z_b2_some h
      refine j_callVi F (pc := 60) (idx := 100) (As := [.int (μ7.1 (o2 + 3) x4.toNatClampNeg), .int (μ7.1 (o2 + 7) x4.toNatClampNeg)]) (st := [.int x4, .ref 31]) (t_X0_fundsFor (G := E.1) hρ8 hb1 hc13) q_X0_fundsFor v_X0_fundsFor m_695 (hb1.1 0 _ rfl) rfl rfl (by decide) (Nat.le_of_ble_eq_true rfl) rfl (by decide +kernel) (fun s16 ν14 hq15 hp => ?_)
      obtain ⟨rfl, rfl⟩ := hp
      have hρ12 : μ11.2.2 = ρ := hq15.trans hρ8
      obtain ⟨hg, h⟩ := z_ifs h
      refine j_iast F (pc := 63) (hk.s c_31) hg (by decide +kernel) ?_
      obtain ⟨μ17, e19, h⟩ := z_st_some h
      rw [← e19]
      have hρ18 : μ17.2.2 = ρ := by rw [e19]; exact hρ12
      refine j_aload_n F (pc := 64) (q := 0) (by decide +kernel) rfl ?_
      refine j_getR F (pc := 65) (hk.r hρ18 r_28_3) fl_X2_15 (hk.s c_28) rfl (by decide +kernel) ?_
      refine j_iload F (pc := 68) (i := 4) (by decide +kernel) rfl ?_
      refine j_aload_n F (pc := 70) (q := 2) (by decide +kernel) rfl ?_
      refine j_aload_n F (pc := 71) (q := 1) (by decide +kernel) rfl ?_
      refine j_iload F (pc := 72) (i := 4) (by decide +kernel) rfl ?_
      obtain ⟨r20, μ21, hc23, h⟩ := z_b2_some h
      refine j_callVi F (pc := 74) (idx := 103) (As := [.ref o1, .int x4]) (st := [.int x4, .ref 30]) (t_X3_standing (G := E.1) hρ18 hb2 hb1 hc23) q_X3_standing v_X3_standing m_699 (hb2.1 0 _ rfl) rfl rfl (by decide) (Nat.le_of_ble_eq_true rfl) rfl (by decide +kernel) (fun s26 ν24 hq25 hp => ?_)
      obtain ⟨rfl, rfl⟩ := hp
      have hρ22 : μ21.2.2 = ρ := hq25.trans hρ18
      obtain ⟨hg, h⟩ := z_ifs h
      refine j_iast F (pc := 77) (hk.s c_30) hg (by decide +kernel) ?_
      obtain ⟨μ27, e29, h⟩ := z_st_some h
      rw [← e29]
      have hρ28 : μ27.2.2 = ρ := by rw [e29]; exact hρ22
      refine j_aload_n F (pc := 78) (q := 2) (by decide +kernel) rfl ?_
      refine j_aload_n F (pc := 79) (q := 1) (by decide +kernel) rfl ?_
      refine j_iload_n F (pc := 80) (q := 3) (by decide +kernel) rfl ?_
      refine j_iload F (pc := 81) (i := 4) (by decide +kernel) rfl ?_
      obtain ⟨r30, μ31, hc33, h⟩ := z_b2_some h
      refine j_callVi F (pc := 83) (idx := 107) (As := [.ref o1, .int x3, .int x4]) (st := []) (t_X3_whyDead (G := E.1) hρ28 hb2 hb1 hc33) q_X3_whyDead v_X3_whyDead m_700 (hb2.1 0 _ rfl) rfl rfl (by decide) (Nat.le_of_ble_eq_true rfl) rfl (by decide +kernel) (fun s36 ν34 hq35 hp => ?_)
      obtain ⟨rfl, rfl⟩ := hp
      have hρ32 : μ31.2.2 = ρ := hq35.trans hρ28
      refine j_if_ne F (pc := 86) (off := 9) (tgt := 95) (by decide +kernel) (by decide) (fun c => ?_) (fun c => ?_)
      · rw [if_neg c] at h
        refine j_iinc F (pc := 95) (i := 4) (n := 1) (v := 1) (L' := [some (.ref 28), some (.ref o1), some (.ref o2), some (.int x3), some (.int (x4 + (1 : Int32)))]) (by decide +kernel) rfl (by decide +kernel) (by decide) rfl rfl ?_
        refine j_goto F (pc := 98) (off := -82) (tgt := 16) (by decide +kernel) (by decide) ?_
        exact ih _ _ _ hρ32 h
      · rw [if_pos c] at h
        refine j_aload_n F (pc := 89) (q := 0) (by decide +kernel) rfl ?_
        refine j_iload F (pc := 90) (i := 4) (by decide +kernel) rfl ?_
        obtain ⟨μ38, hc40, h⟩ := z_b1_some h
        refine j_callVv F (pc := 92) (idx := 111) (As := [.int x4]) (st := []) (t_X2_joinLine (G := E.1) hρ32 hk hc40) q_X2_joinLine v_X2_joinLine m_701 (hk.s c_28) rfl rfl (by decide) (Nat.le_of_ble_eq_true rfl) rfl (by decide +kernel) (fun ν41 hq42 hp => ?_)
        subst hp
        have hρ39 : μ38.2.2 = ρ := hq42.trans hρ32
        refine j_iinc F (pc := 95) (i := 4) (n := 1) (v := 1) (L' := [some (.ref 28), some (.ref o1), some (.ref o2), some (.int x3), some (.int (x4 + (1 : Int32)))]) (by decide +kernel) rfl (by decide +kernel) (by decide) rfl rfl ?_
        refine j_goto F (pc := 98) (off := -82) (tgt := 16) (by decide +kernel) (by decide) ?_
        exact ih _ _ _ hρ39 h
set_option maxHeartbeats 4000000 in
set_option maxRecDepth 100000 in
theorem t_X2_lineUp {G : z_Gl} {ρ : Nat → Nat → Option Nat} {μ : z_M} {μr : z_M} {o1 : Nat} {o2 : Nat} {x3 : Int32} (hρ : μ.2.2 = ρ) (hk : z_ok (z_sh G) ρ) (hb1 : z_blk z_lawS z_lawR (z_sh G) ρ o1) (hb2 : z_blk z_shipS z_shipR (z_sh G) ρ o2) (h : f_X2_lineUp o1 o2 x3 μ = some μr) : z_Cv G yX2_lineUp cX2_lineUp 5 none 3 [.ref 28, .ref o1, .ref o2, .int x3] μ (fun μ1 => μr = μ1) := by
  unfold z_Cv
  refine z_intro (by decide +kernel) (Nat.le_of_ble_eq_true rfl) (fun E hE F Rt => ?_)
  subst hE
  have F : z_F E RX2 cX2_lineUp 5 3 := F
  rw [hρ] at Rt
  unfold f_X2_lineUp at h
  show z_J E 5 0 [some (.ref 28), some (.ref o1), some (.ref o2), some (.int x3), none] [] μ
  refine j_aload_n F (pc := 0) (q := 0) (by decide +kernel) rfl ?_
  refine j_iconst F (pc := 1) (n := 0) (v := 0) (by decide +kernel) (by decide +kernel) ?_
  refine j_putI F (pc := 2) fl_X2_86 fp_X2_1 (hk.s c_28) rfl (by decide +kernel) ?_
  obtain ⟨μ1, e3, h⟩ := z_st_some h
  rw [← e3]
  have hρ2 : μ1.2.2 = ρ := by rw [e3]; exact hρ
  refine j_aload_n F (pc := 5) (q := 0) (by decide +kernel) rfl ?_
  refine j_aload_n F (pc := 6) (q := 2) (by decide +kernel) rfl ?_
  refine j_getI F (pc := 7) fl_X2_89 (hb2.1 0 _ rfl) rfl (by decide +kernel) ?_
  refine j_putI F (pc := 10) fl_X2_92 fp_X2_2 (hk.s c_28) rfl (by decide +kernel) ?_
  obtain ⟨μ4, e6, h⟩ := z_st_some h
  rw [← e6]
  have hρ5 : μ4.2.2 = ρ := by rw [e6]; exact hρ2
  refine j_iconst F (pc := 13) (n := 0) (v := 0) (by decide +kernel) (by decide +kernel) ?_
  refine j_istore F (pc := 14) (i := 4) (L' := [some (.ref 28), some (.ref o1), some (.ref o2), some (.int x3), some (.int (0 : Int32))]) (by decide +kernel) (by decide) rfl rfl ?_
  refine u_X2_lineUp_16 F Rt hk hb1 hb2  z_N _ _ _ hρ5 h
def g_X2_stepOf_65  (k_8 : Int32 → Int32 → Int32 → Int32 → Int32 → z_M → Option (Int32 × z_M)) (x1 : Int32) (x2 : Int32) (x3 : Int32) (x4 : Int32) (x5 : Int32) (μ : z_M) : Option (Int32 × z_M) :=
  (if z_in x5 14 then (if (μ.1 29 x5.toNatClampNeg) = x2 then (some (x3, μ)) else (k_8 (x1) (x2) (x3) (x4) ((x5 + (1 : Int32))) μ)) else none)
def g_X2_stepOf_8   : Nat → Int32 → Int32 → Int32 → Int32 → Int32 → z_M → Option (Int32 × z_M)
  | 0, _, _, _, _, _, _ => none
  | n + 1, x1, x2, x3, x4, x5, μ => (if (μ.1 28 1) ≤ x5 then (some ((-1 : Int32), μ)) else (if z_in x5 14 then (if z_in (μ.1 29 x5.toNatClampNeg) 14 then (z_b2 (f_X4_bit ((μ.1 31 (μ.1 29 x5.toNatClampNeg).toNatClampNeg)) (x1) μ) fun r1 μ2 => (if r1 = (1 : Int32) then (if z_in x5 14 then (if z_in (μ2.1 29 x5.toNatClampNeg) 14 then (z_lt (μ2.1 30 (μ2.1 29 x5.toNatClampNeg).toNatClampNeg) fun x_8 => (if x_8 = x4 then (g_X2_stepOf_65  (fun (y12 : Int32) (y13 : Int32) (y14 : Int32) (y15 : Int32) (y16 : Int32) (μ10 : z_M) => (g_X2_stepOf_8   n (y12) (y13) (y14) (y15) (y16) μ10)) (x1) (x2) (x3) (x4) (x5) μ2) else (g_X2_stepOf_65  (fun (y19 : Int32) (y20 : Int32) (y21 : Int32) (y22 : Int32) (y23 : Int32) (μ17 : z_M) => (g_X2_stepOf_8   n (y19) (y20) (y21) (y22) (y23) μ17)) (x1) (x2) ((x3 + (1 : Int32))) (x_8) (x5) μ2))) else none) else none) else (g_X2_stepOf_8   n (x1) (x2) (x3) (x4) ((x5 + (1 : Int32))) μ2))) else none) else none))
def f_X2_stepOf (x1 : Int32) (x2 : Int32) (μ : z_M) : Option (Int32 × z_M) :=
  (g_X2_stepOf_8   z_N (x1) (x2) ((-1 : Int32)) ((-1 : Int32)) ((0 : Int32)) μ)
set_option maxHeartbeats 4000000 in
set_option maxRecDepth 100000 in
theorem u_X2_stepOf_65 {E : z_E} {ρ : Nat → Nat → Option Nat} {r : Int32} {μr : z_M} (F : z_F E RX2 cX2_stepOf 7 1) (Rt : z_R E (some .int) (fun v μ1 => μ1.2.2 = ρ ∧ ∃ r1, v = some (.int r1) ∧ r = r1 ∧ μr = μ1))  (hk : z_ok (z_sh E.1) ρ) {k_8 : Int32 → Int32 → Int32 → Int32 → Int32 → z_M → Option (Int32 × z_M)} (hc_8 : ∀ (y1 : Int32) (y2 : Int32) (y3 : Int32) (y4 : Int32) (y5 : Int32) (μ1 : z_M), μ1.2.2 = ρ → k_8 y1 y2 y3 y4 y5 μ1 = some (r, μr) → z_J E 7 8 [some (.ref 28), some (.int y1), some (.int y2), some (.int y3), some (.int y4), some (.int y5), none] [] μ1) : ∀ (x1 : Int32) (x2 : Int32) (x3 : Int32) (x4 : Int32) (x5 : Int32) (μ : z_M), μ.2.2 = ρ → g_X2_stepOf_65  k_8 x1 x2 x3 x4 x5 μ = some (r, μr) → z_J E 7 65 [some (.ref 28), some (.int x1), some (.int x2), some (.int x3), some (.int x4), some (.int x5), none] [] μ := by
  intro x1 x2 x3 x4 x5 μ hρ h
  unfold g_X2_stepOf_65 at h
  refine j_aload_n F (pc := 65) (q := 0) (by decide +kernel) rfl ?_
  refine j_getR F (pc := 66) (hk.r hρ r_28_0) fl_X2_9 (hk.s c_28) rfl (by decide +kernel) ?_
  refine j_iload F (pc := 69) (i := 5) (by decide +kernel) rfl ?_
  obtain ⟨hg, h⟩ := z_ifs h
  refine j_iald F (pc := 71) (hk.s c_29) hg (by decide +kernel) ?_
  refine j_iload_n F (pc := 72) (q := 2) (by decide +kernel) rfl ?_
  refine j_icmp_ne F (pc := 73) (off := 5) (tgt := 78) (by decide +kernel) (by decide) (fun c => ?_) (fun c => ?_)
  · rw [if_neg c] at h
    refine j_iinc F (pc := 78) (i := 5) (n := 1) (v := 1) (L' := [some (.ref 28), some (.int x1), some (.int x2), some (.int x3), some (.int x4), some (.int (x5 + (1 : Int32))), none]) (by decide +kernel) rfl (by decide +kernel) (by decide) rfl rfl ?_
    refine j_goto F (pc := 81) (off := -73) (tgt := 8) (by decide +kernel) (by decide) ?_
    exact hc_8 _ _ _ _ _ _ hρ h
  · rw [if_pos c] at h
    refine j_iload_n F (pc := 76) (q := 3) (by decide +kernel) rfl ?_
    exact j_iret (st := []) F Rt rfl (by decide +kernel) ⟨hρ, _, rfl, (congrArg Prod.fst (Option.some.inj h)).symm, (congrArg Prod.snd (Option.some.inj h)).symm⟩
set_option maxHeartbeats 4000000 in
set_option maxRecDepth 100000 in
theorem u_X2_stepOf_8 {E : z_E} {ρ : Nat → Nat → Option Nat} {r : Int32} {μr : z_M} (F : z_F E RX2 cX2_stepOf 7 1) (Rt : z_R E (some .int) (fun v μ1 => μ1.2.2 = ρ ∧ ∃ r1, v = some (.int r1) ∧ r = r1 ∧ μr = μ1))  (hk : z_ok (z_sh E.1) ρ) : ∀ (n : Nat) (x1 : Int32) (x2 : Int32) (x3 : Int32) (x4 : Int32) (x5 : Int32) (μ : z_M), μ.2.2 = ρ → g_X2_stepOf_8   n x1 x2 x3 x4 x5 μ = some (r, μr) → z_J E 7 8 [some (.ref 28), some (.int x1), some (.int x2), some (.int x3), some (.int x4), some (.int x5), none] [] μ := by
  intro n
  induction n with
  | zero =>
    intro x1 x2 x3 x4 x5 μ hρ h
    rw [g_X2_stepOf_8] at h
    cases h
  | succ n ih =>
    intro x1 x2 x3 x4 x5 μ hρ h
    rw [g_X2_stepOf_8] at h
    refine j_iload F (pc := 8) (i := 5) (by decide +kernel) rfl ?_
    refine j_aload_n F (pc := 10) (q := 0) (by decide +kernel) rfl ?_
    refine j_getI F (pc := 11) fl_X2_86 (hk.s c_28) rfl (by decide +kernel) ?_
    refine j_icmp_ge F (pc := 14) (off := 70) (tgt := 84) (by decide +kernel) (by decide) (fun c => ?_) (fun c => ?_)
    · rw [if_pos c] at h
      refine j_iconst F (pc := 84) (n := -1) (v := -1) (by decide +kernel) (by decide +kernel) ?_
      exact j_iret (st := []) F Rt rfl (by decide +kernel) ⟨hρ, _, rfl, (congrArg Prod.fst (Option.some.inj h)).symm, (congrArg Prod.snd (Option.some.inj h)).symm⟩
    · rw [if_neg c] at h
      refine j_aload_n F (pc := 17) (q := 0) (by decide +kernel) rfl ?_
      refine j_getR F (pc := 18) (hk.r hρ r_28_4) fl_X2_18 (hk.s c_28) rfl (by decide +kernel) ?_
      refine j_aload_n F (pc := 21) (q := 0) (by decide +kernel) rfl ?_
      refine j_getR F (pc := 22) (hk.r hρ r_28_0) fl_X2_9 (hk.s c_28) rfl (by decide +kernel) ?_
      refine j_iload F (pc := 25) (i := 5) (by decide +kernel) rfl ?_
      obtain ⟨hg, h⟩ := z_ifs h
      refine j_iald F (pc := 27) (hk.s c_29) hg (by decide +kernel) ?_
      obtain ⟨hg, h⟩ := z_ifs h
      refine j_iald F (pc := 28) (hk.s c_31) hg (by decide +kernel) ?_
      refine j_iload_n F (pc := 29) (q := 1) (by decide +kernel) rfl ?_
      obtain ⟨r1, μ2, hc4, h⟩ := z_b2_some h
      refine j_callNi F (pc := 30) (idx := 114) (As := [.int (μ.1 31 (μ.1 29 x5.toNatClampNeg).toNatClampNeg), .int x1]) (st := []) (t_X4_bit (G := E.1) hρ  hc4) q_X4_bit m_474 (by decide +kernel) rfl (by decide) (Nat.le_of_ble_eq_true rfl) rfl (by decide +kernel) (fun s7 ν5 hq6 hp => ?_)
      obtain ⟨rfl, rfl⟩ := hp
      have hρ3 : μ2.2.2 = ρ := hq6.trans hρ
      refine j_iconst F (pc := 33) (n := 1) (v := 1) (by decide +kernel) (by decide +kernel) ?_
      refine j_icmp_ne F (pc := 34) (off := 44) (tgt := 78) (by decide +kernel) (by decide) (fun c => ?_) (fun c => ?_)
      · rw [if_neg c] at h
        refine j_iinc F (pc := 78) (i := 5) (n := 1) (v := 1) (L' := [some (.ref 28), some (.int x1), some (.int x2), some (.int x3), some (.int x4), some (.int (x5 + (1 : Int32))), none]) (by decide +kernel) rfl (by decide +kernel) (by decide) rfl rfl ?_
        refine j_goto F (pc := 81) (off := -73) (tgt := 8) (by decide +kernel) (by decide) ?_
        exact ih _ _ _ _ _ _ hρ3 h
      · rw [if_pos c] at h
        refine j_aload_n F (pc := 37) (q := 0) (by decide +kernel) rfl ?_
        refine j_getR F (pc := 38) (hk.r hρ3 r_28_3) fl_X2_15 (hk.s c_28) rfl (by decide +kernel) ?_
        refine j_aload_n F (pc := 41) (q := 0) (by decide +kernel) rfl ?_
        refine j_getR F (pc := 42) (hk.r hρ3 r_28_0) fl_X2_9 (hk.s c_28) rfl (by decide +kernel) ?_
        refine j_iload F (pc := 45) (i := 5) (by decide +kernel) rfl ?_
        obtain ⟨hg, h⟩ := z_ifs h
        refine j_iald F (pc := 47) (hk.s c_29) hg (by decide +kernel) ?_
        obtain ⟨hg, h⟩ := z_ifs h
        refine j_iald F (pc := 48) (hk.s c_30) hg (by decide +kernel) ?_
        obtain ⟨x_8, e9, h⟩ := z_lt_some h
        rw [← e9]
        refine j_istore F (pc := 49) (i := 6) (L' := [some (.ref 28), some (.int x1), some (.int x2), some (.int x3), some (.int x4), some (.int x5), some (.int x_8)]) (by decide +kernel) (by decide) rfl rfl ?_
        refine j_iload F (pc := 51) (i := 6) (by decide +kernel) rfl ?_
        refine j_iload F (pc := 53) (i := 4) (by decide +kernel) rfl ?_
        refine j_icmp_eq F (pc := 55) (off := 10) (tgt := 65) (by decide +kernel) (by decide) (fun c => ?_) (fun c => ?_)
        · rw [if_pos c] at h
          refine j_mk F [true, true, true, true, true, true, false] (L' := [some (.ref 28), some (.int x1), some (.int x2), some (.int x3), some (.int x4), some (.int x5), none]) rfl ?_
          refine u_X2_stepOf_65 F Rt hk (fun y12 y13 y14 y15 y16 μ10 hρ11 h => ?_) _ _ _ _ _ _ hρ3 h
          exact ih _ _ _ _ _ _ hρ11 h
        · rw [if_neg c] at h
          refine j_iinc F (pc := 58) (i := 3) (n := 1) (v := 1) (L' := [some (.ref 28), some (.int x1), some (.int x2), some (.int (x3 + (1 : Int32))), some (.int x4), some (.int x5), some (.int x_8)]) (by decide +kernel) rfl (by decide +kernel) (by decide) rfl rfl ?_
          refine j_iload F (pc := 61) (i := 6) (by decide +kernel) rfl ?_
          refine j_istore F (pc := 63) (i := 4) (L' := [some (.ref 28), some (.int x1), some (.int x2), some (.int (x3 + (1 : Int32))), some (.int x_8), some (.int x5), some (.int x_8)]) (by decide +kernel) (by decide) rfl rfl ?_
          refine j_mk F [true, true, true, true, true, true, false] (L' := [some (.ref 28), some (.int x1), some (.int x2), some (.int (x3 + (1 : Int32))), some (.int x_8), some (.int x5), none]) rfl ?_
          refine u_X2_stepOf_65 F Rt hk (fun y19 y20 y21 y22 y23 μ17 hρ18 h => ?_) _ _ _ _ _ _ hρ3 h
          exact ih _ _ _ _ _ _ hρ18 h
set_option maxHeartbeats 4000000 in
set_option maxRecDepth 100000 in
theorem t_X2_stepOf {G : z_Gl} {ρ : Nat → Nat → Option Nat} {μ : z_M} {r : Int32} {μr : z_M} {x1 : Int32} {x2 : Int32} (hρ : μ.2.2 = ρ) (hk : z_ok (z_sh G) ρ) (h : f_X2_stepOf x1 x2 μ = some (r, μr)) : z_Ci G yX2_stepOf cX2_stepOf 7 (some .int) 1 [.ref 28, .int x1, .int x2] μ (fun r1 μ1 => r = r1 ∧ μr = μ1) := by
  unfold z_Ci
  refine z_intro (by decide +kernel) (Nat.le_of_ble_eq_true rfl) (fun E hE F Rt => ?_)
  subst hE
  have F : z_F E RX2 cX2_stepOf 7 1 := F
  rw [hρ] at Rt
  unfold f_X2_stepOf at h
  show z_J E 7 0 [some (.ref 28), some (.int x1), some (.int x2), none, none, none, none] [] μ
  refine j_iconst F (pc := 0) (n := -1) (v := -1) (by decide +kernel) (by decide +kernel) ?_
  refine j_istore_n F (pc := 1) (q := 3) (L' := [some (.ref 28), some (.int x1), some (.int x2), some (.int (-1 : Int32)), none, none, none]) (by decide +kernel) (by decide) rfl rfl ?_
  refine j_iconst F (pc := 2) (n := -1) (v := -1) (by decide +kernel) (by decide +kernel) ?_
  refine j_istore F (pc := 3) (i := 4) (L' := [some (.ref 28), some (.int x1), some (.int x2), some (.int (-1 : Int32)), some (.int (-1 : Int32)), none, none]) (by decide +kernel) (by decide) rfl rfl ?_
  refine j_iconst F (pc := 5) (n := 0) (v := 0) (by decide +kernel) (by decide +kernel) ?_
  refine j_istore F (pc := 6) (i := 5) (L' := [some (.ref 28), some (.int x1), some (.int x2), some (.int (-1 : Int32)), some (.int (-1 : Int32)), some (.int (0 : Int32)), none]) (by decide +kernel) (by decide) rfl rfl ?_
  refine u_X2_stepOf_8 F Rt hk  z_N _ _ _ _ _ _ hρ h
/-- LastLent.step -/
def f_X4_step (x1 : Int32) (x2 : Int32) (x3 : Int32) (x4 : Int32) (μ : z_M) : Option (Int32 × z_M) :=
  (z_b2 (f_X4_isLand (x1) μ) fun r1 μ2 => (if r1 = 0 then (some ((-1001 : Int32), μ2)) else (z_b2 (f_X4_isFund (x3) μ2) fun r8 μ9 => (if r8 = 0 then (some ((-1001 : Int32), μ9)) else (z_b2 (f_X4_isClaim (x4) μ9) fun r15 μ16 => (if r15 = 0 then (some ((-1001 : Int32), μ16)) else (z_b2 (f_X4_isDay (x2) μ16) fun r22 μ23 => (if r22 = 0 then (some ((-1002 : Int32), μ23)) else (if z_in x1 4 then ((μ23.2.2 1 x1.toNatClampNeg).bind fun r29 => (z_b1 (f_X2_lineUp (r29) (4) (x2) μ23) fun μ33 => (z_b2 (f_X2_stepOf (x3) (x4) μ33) fun r38 μ39 => (some (r38, μ39))))) else none)))))))))
set_option maxHeartbeats 4000000 in
set_option maxRecDepth 100000 in
theorem t_X4_step {G : z_Gl} {ρ : Nat → Nat → Option Nat} {μ : z_M} {r : Int32} {μr : z_M} {x1 : Int32} {x2 : Int32} {x3 : Int32} {x4 : Int32} (hρ : μ.2.2 = ρ) (hk : z_ok (z_sh G) ρ) (h : f_X4_step x1 x2 x3 x4 μ = some (r, μr)) : z_Ci G yX4_step cX4_step 5 (some .int) 4 [.ref 0, .int x1, .int x2, .int x3, .int x4] μ (fun r1 μ1 => r = r1 ∧ μr = μ1) := by
  unfold z_Ci
  refine z_intro (by decide +kernel) (Nat.le_of_ble_eq_true rfl) (fun E hE F Rt => ?_)
  subst hE
  have F : z_F E RX4 cX4_step 5 4 := F
  rw [hρ] at Rt
  unfold f_X4_step at h
  show z_J E 5 0 [some (.ref 0), some (.int x1), some (.int x2), some (.int x3), some (.int x4)] [] μ
  refine j_iload_n F (pc := 0) (q := 1) (by decide +kernel) rfl ?_
  obtain ⟨r1, μ2, hc4, h⟩ := z_b2_some h
  refine j_callSi F (pc := 1) (idx := 67) (As := [.int x1]) (st := []) (t_X4_isLand (G := E.1) hρ  hc4) q_X4_isLand m_387 m_386 rfl (by decide) (Nat.le_of_ble_eq_true rfl) rfl (by decide +kernel) (fun s7 ν5 hq6 hp => ?_)
  obtain ⟨rfl, rfl⟩ := hp
  have hρ3 : μ2.2.2 = ρ := hq6.trans hρ
  refine j_if_eq F (pc := 4) (off := 19) (tgt := 23) (by decide +kernel) (by decide) (fun c => ?_) (fun c => ?_)
  · rw [if_pos c] at h
    refine j_sipush F (pc := 23) (n := -1001) (v := -1001) (by decide +kernel) (by decide +kernel) ?_
    exact j_iret (st := []) F Rt rfl (by decide +kernel) ⟨hρ3, _, rfl, (congrArg Prod.fst (Option.some.inj h)).symm, (congrArg Prod.snd (Option.some.inj h)).symm⟩
  · rw [if_neg c] at h
    refine j_iload_n F (pc := 7) (q := 3) (by decide +kernel) rfl ?_
    obtain ⟨r8, μ9, hc11, h⟩ := z_b2_some h
    refine j_callSi F (pc := 8) (idx := 154) (As := [.int x3]) (st := []) (t_X4_isFund (G := E.1) hρ3  hc11) q_X4_isFund m_614 m_613 rfl (by decide) (Nat.le_of_ble_eq_true rfl) rfl (by decide +kernel) (fun s14 ν12 hq13 hp => ?_)
    obtain ⟨rfl, rfl⟩ := hp
    have hρ10 : μ9.2.2 = ρ := hq13.trans hρ3
    refine j_if_eq F (pc := 11) (off := 12) (tgt := 23) (by decide +kernel) (by decide) (fun c => ?_) (fun c => ?_)
    · rw [if_pos c] at h
      refine j_sipush F (pc := 23) (n := -1001) (v := -1001) (by decide +kernel) (by decide +kernel) ?_
      exact j_iret (st := []) F Rt rfl (by decide +kernel) ⟨hρ10, _, rfl, (congrArg Prod.fst (Option.some.inj h)).symm, (congrArg Prod.snd (Option.some.inj h)).symm⟩
    · rw [if_neg c] at h
      refine j_aload_n F (pc := 14) (q := 0) (by decide +kernel) rfl ?_
      refine j_iload F (pc := 15) (i := 4) (by decide +kernel) rfl ?_
      obtain ⟨r15, μ16, hc18, h⟩ := z_b2_some h
      refine j_callVi F (pc := 17) (idx := 148) (As := [.int x4]) (st := []) (t_X4_isClaim (G := E.1) hρ10 hk hc18) q_X4_isClaim v_X4_isClaim m_605 (hk.s c_0) rfl rfl (by decide) (Nat.le_of_ble_eq_true rfl) rfl (by decide +kernel) (fun s21 ν19 hq20 hp => ?_)
      obtain ⟨rfl, rfl⟩ := hp
      have hρ17 : μ16.2.2 = ρ := hq20.trans hρ10
      refine j_if_ne F (pc := 20) (off := 7) (tgt := 27) (by decide +kernel) (by decide) (fun c => ?_) (fun c => ?_)
      · rw [if_neg c] at h
        refine j_iload_n F (pc := 27) (q := 2) (by decide +kernel) rfl ?_
        obtain ⟨r22, μ23, hc25, h⟩ := z_b2_some h
        refine j_callSi F (pc := 28) (idx := 131) (As := [.int x2]) (st := []) (t_X4_isDay (G := E.1) hρ17  hc25) q_X4_isDay m_580 m_579 rfl (by decide) (Nat.le_of_ble_eq_true rfl) rfl (by decide +kernel) (fun s28 ν26 hq27 hp => ?_)
        obtain ⟨rfl, rfl⟩ := hp
        have hρ24 : μ23.2.2 = ρ := hq27.trans hρ17
        refine j_if_ne F (pc := 31) (off := 7) (tgt := 38) (by decide +kernel) (by decide) (fun c => ?_) (fun c => ?_)
        · rw [if_neg c] at h
          refine j_aload_n F (pc := 38) (q := 0) (by decide +kernel) rfl ?_
          refine j_getR F (pc := 39) (hk.r hρ24 r_0_6) fl_X4_43 (hk.s c_0) rfl (by decide +kernel) ?_
          refine j_aload_n F (pc := 42) (q := 0) (by decide +kernel) rfl ?_
          refine j_getR F (pc := 43) (hk.r hρ24 r_0_0) fl_X4_11 (hk.s c_0) rfl (by decide +kernel) ?_
          refine j_iload_n F (pc := 46) (q := 1) (by decide +kernel) rfl ?_
          obtain ⟨hg, h⟩ := z_ifs h
          obtain ⟨r29, hr30, h⟩ := Option.bind_eq_some_iff.mp h
          have hb31 := hk.lawsAt hρ24 hr30
          refine j_aald F (pc := 47) (hk.s c_1) (by decide) hg hr30 (by decide +kernel) ?_
          refine j_aload_n F (pc := 48) (q := 0) (by decide +kernel) rfl ?_
          refine j_getR F (pc := 49) (hk.r hρ24 r_0_2) fl_X4_25 (hk.s c_0) rfl (by decide +kernel) ?_
          refine j_iload_n F (pc := 52) (q := 2) (by decide +kernel) rfl ?_
          obtain ⟨μ33, hc35, h⟩ := z_b1_some h
          refine j_callVv F (pc := 53) (idx := 214) (As := [.ref r29, .ref 4, .int x2]) (st := []) (t_X2_lineUp (G := E.1) hρ24 hk hb31 (hk.shipB (by decide : 4 ∈ z_SHIPS)) hc35) q_X2_lineUp v_X2_lineUp m_691 (hk.s c_28) rfl rfl (by decide) (Nat.le_of_ble_eq_true rfl) rfl (by decide +kernel) (fun ν36 hq37 hp => ?_)
          subst hp
          have hρ34 : μ33.2.2 = ρ := hq37.trans hρ24
          refine j_aload_n F (pc := 56) (q := 0) (by decide +kernel) rfl ?_
          refine j_getR F (pc := 57) (hk.r hρ34 r_0_6) fl_X4_43 (hk.s c_0) rfl (by decide +kernel) ?_
          refine j_iload_n F (pc := 60) (q := 3) (by decide +kernel) rfl ?_
          refine j_iload F (pc := 61) (i := 4) (by decide +kernel) rfl ?_
          obtain ⟨r38, μ39, hc41, h⟩ := z_b2_some h
          refine j_callVi F (pc := 63) (idx := 218) (As := [.int x3, .int x4]) (st := []) (t_X2_stepOf (G := E.1) hρ34 hk hc41) q_X2_stepOf v_X2_stepOf m_705 (hk.s c_28) rfl rfl (by decide) (Nat.le_of_ble_eq_true rfl) rfl (by decide +kernel) (fun s44 ν42 hq43 hp => ?_)
          obtain ⟨rfl, rfl⟩ := hp
          have hρ40 : μ39.2.2 = ρ := hq43.trans hρ34
          exact j_iret (st := []) F Rt rfl (by decide +kernel) ⟨hρ40, _, rfl, (congrArg Prod.fst (Option.some.inj h)).symm, (congrArg Prod.snd (Option.some.inj h)).symm⟩
        · rw [if_pos c] at h
          refine j_sipush F (pc := 34) (n := -1002) (v := -1002) (by decide +kernel) (by decide +kernel) ?_
          exact j_iret (st := []) F Rt rfl (by decide +kernel) ⟨hρ24, _, rfl, (congrArg Prod.fst (Option.some.inj h)).symm, (congrArg Prod.snd (Option.some.inj h)).symm⟩
      · rw [if_pos c] at h
        refine j_sipush F (pc := 23) (n := -1001) (v := -1001) (by decide +kernel) (by decide +kernel) ?_
        exact j_iret (st := []) F Rt rfl (by decide +kernel) ⟨hρ17, _, rfl, (congrArg Prod.fst (Option.some.inj h)).symm, (congrArg Prod.snd (Option.some.inj h)).symm⟩
/-- LastLent.isWay -/
def f_X4_isWay (x0 : Int32) (μ : z_M) : Option (Int32 × z_M) :=
  (some ((if x0 < 0 then (0 : Int32) else (if (2 : Int32) ≤ x0 then (0 : Int32) else (1 : Int32))), μ))
set_option maxHeartbeats 4000000 in
set_option maxRecDepth 100000 in
theorem t_X4_isWay {G : z_Gl} {ρ : Nat → Nat → Option Nat} {μ : z_M} {r : Int32} {μr : z_M} {x0 : Int32} (hρ : μ.2.2 = ρ)  (h : f_X4_isWay x0 μ = some (r, μr)) : z_Ci G yX4_isWay cX4_isWay 1 (some .boolean) 0 [.int x0] μ (fun r1 μ1 => r = r1 ∧ μr = μ1) := by
  unfold z_Ci
  refine z_intro (by decide +kernel) (Nat.le_of_ble_eq_true rfl) (fun E hE F Rt => ?_)
  subst hE
  have F : z_F E RX4 cX4_isWay 1 0 := F
  rw [hρ] at Rt
  unfold f_X4_isWay at h
  show z_J E 1 0 [some (.int x0)] [] μ
  refine j_iload_n F (pc := 0) (q := 0) (by decide +kernel) rfl ?_
  suffices hj : z_J E 1 14 [some (.int x0)] (.int (if x0 < 0 then (0 : Int32) else (if (2 : Int32) ≤ x0 then (0 : Int32) else (1 : Int32))) :: []) μ by
    refine j_if_lt F (pc := 1) (off := 12) (tgt := 13) (by decide +kernel) (by decide) (fun c0 => ?_) (fun c0 => ?_)
    · rw [if_pos c0] at hj
      refine j_iconst F (pc := 13) (n := 0) (v := 0) (by decide +kernel) (by decide +kernel) ?_
      exact hj
    · rw [if_neg c0] at hj
      refine j_iload_n F (pc := 4) (q := 0) (by decide +kernel) rfl ?_
      refine j_iconst F (pc := 5) (n := 2) (v := 2) (by decide +kernel) (by decide +kernel) ?_
      refine j_icmp_ge F (pc := 6) (off := 7) (tgt := 13) (by decide +kernel) (by decide) (fun c1 => ?_) (fun c1 => ?_)
      · rw [if_pos c1] at hj
        refine j_iconst F (pc := 13) (n := 0) (v := 0) (by decide +kernel) (by decide +kernel) ?_
        exact hj
      · rw [if_neg c1] at hj
        refine j_iconst F (pc := 9) (n := 1) (v := 1) (by decide +kernel) (by decide +kernel) ?_
        refine j_goto F (pc := 10) (off := 4) (tgt := 14) (by decide +kernel) (by decide) ?_
        exact hj
  exact j_iret (st := []) F Rt (z_nb (by repeat' (first | exact Or.inl rfl | exact Or.inr rfl | split))) (by decide +kernel) ⟨hρ, _, rfl, (congrArg Prod.fst (Option.some.inj h)).symm, (congrArg Prod.snd (Option.some.inj h)).symm⟩
/-- LastLent.copyRow -/
def f_X4_copyRow (a0 : Nat) (n0 : Nat) (a1 : Nat) (n1 : Nat) (μ : z_M) : Option z_M :=
  (if (¬ (0 : Int32) < 0) ∧ (¬ (0 : Int32) < 0) ∧ (¬ (if (Int32.ofNat n1) < (Int32.ofNat n0) then (Int32.ofNat n1) else (Int32.ofNat n0)) < 0) ∧ ((0 : Int32).toNatClampNeg + (if (Int32.ofNat n1) < (Int32.ofNat n0) then (Int32.ofNat n1) else (Int32.ofNat n0)).toNatClampNeg ≤ n0) ∧ ((0 : Int32).toNatClampNeg + (if (Int32.ofNat n1) < (Int32.ofNat n0) then (Int32.ofNat n1) else (Int32.ofNat n0)).toNatClampNeg ≤ n1) then (z_st (z_sw μ a1 (va_cpy (μ.1 a0) (μ.1 a1) (0 : Int32).toNatClampNeg (0 : Int32).toNatClampNeg (if (Int32.ofNat n1) < (Int32.ofNat n0) then (Int32.ofNat n1) else (Int32.ofNat n0)).toNatClampNeg)) fun μ1 => (some μ1)) else none)
set_option maxHeartbeats 4000000 in
set_option maxRecDepth 100000 in
theorem t_X4_copyRow {G : z_Gl} {ρ : Nat → Nat → Option Nat} {μ : z_M} {μr : z_M} {a0 : Nat} {n0 : Nat} {a1 : Nat} {n1 : Nat} (hρ : μ.2.2 = ρ) (ha0 : (z_sh G)[a0]? = some (.inl (0, n0))) (ha1 : (z_sh G)[a1]? = some (.inl (0, n1))) (h : f_X4_copyRow a0 n0 a1 n1 μ = some μr) : z_Cv G yX4_copyRow cX4_copyRow 2 none 1 [.ref a0, .ref a1] μ (fun μ1 => μr = μ1) := by
  unfold z_Cv
  refine z_intro (by decide +kernel) (Nat.le_of_ble_eq_true rfl) (fun E hE F Rt => ?_)
  subst hE
  have F : z_F E RX4 cX4_copyRow 2 1 := F
  rw [hρ] at Rt
  unfold f_X4_copyRow at h
  show z_J E 2 0 [some (.ref a0), some (.ref a1)] [] μ
  refine j_aload_n F (pc := 0) (q := 0) (by decide +kernel) rfl ?_
  refine j_iconst F (pc := 1) (n := 0) (v := 0) (by decide +kernel) (by decide +kernel) ?_
  refine j_aload_n F (pc := 2) (q := 1) (by decide +kernel) rfl ?_
  refine j_iconst F (pc := 3) (n := 0) (v := 0) (by decide +kernel) (by decide +kernel) ?_
  refine j_aload_n F (pc := 4) (q := 0) (by decide +kernel) rfl ?_
  refine j_alen F (pc := 5) ha0 (by decide) rfl (by decide +kernel) ?_
  refine j_aload_n F (pc := 6) (q := 1) (by decide +kernel) rfl ?_
  refine j_alen F (pc := 7) ha1 (by decide) rfl (by decide +kernel) ?_
  refine j_mmin F (pc := 8) ⟨m_725, m_655, m_88, m_656⟩ (by decide) (Nat.le_of_ble_eq_true rfl) (by decide +kernel) ?_
  obtain ⟨hg, h⟩ := z_ifs h
  refine j_acopy F (pc := 11) ⟨m_726, m_728, m_727, m_90⟩ (by decide) (Nat.le_of_ble_eq_true rfl) ha0 ha1 hg.1 hg.2.1 hg.2.2.1 hg.2.2.2.1 hg.2.2.2.2 (by decide +kernel) ?_
  obtain ⟨μ1, e3, h⟩ := z_st_some h
  rw [← e3]
  have hρ2 : μ1.2.2 = ρ := by rw [e3]; exact hρ
  exact j_vret (st := []) F Rt (by decide +kernel) ⟨hρ2, rfl, (Option.some.inj h).symm⟩
def g_X2_share_112 (a1 : Nat) (n1 : Nat) (a2 : Nat) (n2 : Nat)  : Nat → Int32 → Int32 → Int32 → z_M → Option (Int32 × z_M)
  | 0, _, _, _, _ => none
  | n + 1, x4, x6, x7, μ => (if x4 ≤ x7 then (some ((0 : Int32), μ)) else (if x6 ≤ 0 then (some ((0 : Int32), μ)) else (if z_in x7 n1 then (if (μ.1 a1 x7.toNatClampNeg) ≤ 0 then (g_X2_share_112 a1 n1 a2 n2  n (x4) (x6) ((x7 + (1 : Int32))) μ) else (if z_in x7 n2 then (if z_in x7 n2 then (z_st (z_si μ a2 x7.toNatClampNeg ((μ.1 a2 x7.toNatClampNeg) + (1 : Int32))) fun μ1 => (g_X2_share_112 a1 n1 a2 n2  n (x4) ((x6 + (-1 : Int32))) ((x7 + (1 : Int32))) μ1)) else none) else none)) else none)))
def g_X2_share_69 (a1 : Nat) (n1 : Nat) (a2 : Nat) (n2 : Nat)  : Nat → Int32 → Int32 → Int32 → Int32 → Int32 → Int32 → z_M → Option (Int32 × z_M)
  | 0, _, _, _, _, _, _, _ => none
  | n + 1, x0, x3, x4, x5, x6, x7, μ => (if x4 ≤ x7 then (g_X2_share_112 a1 n1 a2 n2  z_N (x4) (x6) (x3) μ) else (if x5 ≤ 0 then (g_X2_share_112 a1 n1 a2 n2  z_N (x4) (x6) (x3) μ) else (if z_in x7 n1 then (if ¬ x5 = 0 then (if z_in x7 n2 then (z_st (z_si μ a2 x7.toNatClampNeg ((x0 * (μ.1 a1 x7.toNatClampNeg)) / x5)) fun μ4 => (if z_in x7 n2 then (z_lt (x6 - (μ4.1 a2 x7.toNatClampNeg)) fun x_7 => (g_X2_share_69 a1 n1 a2 n2  n (x0) (x3) (x4) (x5) (x_7) ((x7 + (1 : Int32))) μ4)) else none)) else none) else none) else none)))
def g_X2_share_37 (a1 : Nat) (n1 : Nat) (a2 : Nat) (n2 : Nat)  : Nat → Int32 → Int32 → Int32 → Int32 → z_M → Option (Int32 × z_M)
  | 0, _, _, _, _, _ => none
  | n + 1, x0, x4, x5, x6, μ => (if x4 ≤ x6 then (some ((x0 - x5), μ)) else (if z_in x6 n1 then (if z_in x6 n2 then (z_st (z_si μ a2 x6.toNatClampNeg (μ.1 a1 x6.toNatClampNeg)) fun μ9 => (g_X2_share_37 a1 n1 a2 n2  n (x0) (x4) (x5) ((x6 + (1 : Int32))) μ9)) else none) else none))
def g_X2_share_6 (a1 : Nat) (n1 : Nat) (a2 : Nat) (n2 : Nat)  : Nat → Int32 → Int32 → Int32 → Int32 → Int32 → z_M → Option (Int32 × z_M)
  | 0, _, _, _, _, _, _ => none
  | n + 1, x0, x3, x4, x5, x6, μ => (if x4 ≤ x6 then (if x0 < x5 then (g_X2_share_69 a1 n1 a2 n2  z_N (x0) (x3) (x4) (x5) (x0) (x3) μ) else (g_X2_share_37 a1 n1 a2 n2  z_N (x0) (x4) (x5) (x3) μ)) else (if z_in x6 n1 then (z_lt (x5 + (μ.1 a1 x6.toNatClampNeg)) fun x_12 => (g_X2_share_6 a1 n1 a2 n2  n (x0) (x3) (x4) (x_12) ((x6 + (1 : Int32))) μ)) else none))
def f_X2_share (x0 : Int32) (a1 : Nat) (n1 : Nat) (a2 : Nat) (n2 : Nat) (x3 : Int32) (x4 : Int32) (μ : z_M) : Option (Int32 × z_M) :=
  (g_X2_share_6 a1 n1 a2 n2  z_N (x0) (x3) (x4) ((0 : Int32)) (x3) μ)
set_option maxHeartbeats 4000000 in
set_option maxRecDepth 100000 in
theorem u_X2_share_112 {E : z_E} {ρ : Nat → Nat → Option Nat} {r : Int32} {μr : z_M} (F : z_F E RX2 cX2_share 8 0) (Rt : z_R E (some .int) (fun v μ1 => μ1.2.2 = ρ ∧ ∃ r1, v = some (.int r1) ∧ r = r1 ∧ μr = μ1)) {a1 : Nat} {n1 : Nat} {a2 : Nat} {n2 : Nat} (ha1 : (z_sh E.1)[a1]? = some (.inl (0, n1))) (ha2 : (z_sh E.1)[a2]? = some (.inl (0, n2))) : ∀ (n : Nat) (x4 : Int32) (x6 : Int32) (x7 : Int32) (μ : z_M), μ.2.2 = ρ → g_X2_share_112 a1 n1 a2 n2  n x4 x6 x7 μ = some (r, μr) → z_J E 8 112 [none, some (.ref a1), some (.ref a2), none, some (.int x4), none, some (.int x6), some (.int x7)] [] μ := by
  intro n
  induction n with
  | zero =>
    intro x4 x6 x7 μ hρ h
    rw [g_X2_share_112] at h
    cases h
  | succ n ih =>
    intro x4 x6 x7 μ hρ h
    rw [g_X2_share_112] at h
    refine j_iload F (pc := 112) (i := 7) (by decide +kernel) rfl ?_
    refine j_iload F (pc := 114) (i := 4) (by decide +kernel) rfl ?_
    refine j_icmp_ge F (pc := 116) (off := 32) (tgt := 148) (by decide +kernel) (by decide) (fun c => ?_) (fun c => ?_)
    · rw [if_pos c] at h
      refine j_iconst F (pc := 148) (n := 0) (v := 0) (by decide +kernel) (by decide +kernel) ?_
      exact j_iret (st := []) F Rt rfl (by decide +kernel) ⟨hρ, _, rfl, (congrArg Prod.fst (Option.some.inj h)).symm, (congrArg Prod.snd (Option.some.inj h)).symm⟩
    · rw [if_neg c] at h
      refine j_iload F (pc := 119) (i := 6) (by decide +kernel) rfl ?_
      refine j_if_le F (pc := 121) (off := 27) (tgt := 148) (by decide +kernel) (by decide) (fun c => ?_) (fun c => ?_)
      · rw [if_pos c] at h
        refine j_iconst F (pc := 148) (n := 0) (v := 0) (by decide +kernel) (by decide +kernel) ?_
        exact j_iret (st := []) F Rt rfl (by decide +kernel) ⟨hρ, _, rfl, (congrArg Prod.fst (Option.some.inj h)).symm, (congrArg Prod.snd (Option.some.inj h)).symm⟩
      · rw [if_neg c] at h
        refine j_aload_n F (pc := 124) (q := 1) (by decide +kernel) rfl ?_
        refine j_iload F (pc := 125) (i := 7) (by decide +kernel) rfl ?_
        obtain ⟨hg, h⟩ := z_ifs h
        refine j_iald F (pc := 127) ha1 hg (by decide +kernel) ?_
        refine j_if_le F (pc := 128) (off := 14) (tgt := 142) (by decide +kernel) (by decide) (fun c => ?_) (fun c => ?_)
        · rw [if_pos c] at h
          refine j_iinc F (pc := 142) (i := 7) (n := 1) (v := 1) (L' := [none, some (.ref a1), some (.ref a2), none, some (.int x4), none, some (.int x6), some (.int (x7 + (1 : Int32)))]) (by decide +kernel) rfl (by decide +kernel) (by decide) rfl rfl ?_
          refine j_goto F (pc := 145) (off := -33) (tgt := 112) (by decide +kernel) (by decide) ?_
          exact ih _ _ _ _ hρ h
        · rw [if_neg c] at h
          refine j_aload_n F (pc := 131) (q := 2) (by decide +kernel) rfl ?_
          refine j_iload F (pc := 132) (i := 7) (by decide +kernel) rfl ?_
          refine j_dup2 F (pc := 134) (by decide +kernel) rfl rfl ?_
          obtain ⟨hg, h⟩ := z_ifs h
          refine j_iald F (pc := 135) ha2 hg (by decide +kernel) ?_
          refine j_iconst F (pc := 136) (n := 1) (v := 1) (by decide +kernel) (by decide +kernel) ?_
          refine j_iadd F (pc := 137) (by decide +kernel) ?_
          obtain ⟨hg, h⟩ := z_ifs h
          refine j_iast F (pc := 138) ha2 hg (by decide +kernel) ?_
          obtain ⟨μ1, e3, h⟩ := z_st_some h
          rw [← e3]
          have hρ2 : μ1.2.2 = ρ := by rw [e3]; exact hρ
          refine j_iinc F (pc := 139) (i := 6) (n := -1) (v := -1) (L' := [none, some (.ref a1), some (.ref a2), none, some (.int x4), none, some (.int (x6 + (-1 : Int32))), some (.int x7)]) (by decide +kernel) rfl (by decide +kernel) (by decide) rfl rfl ?_
          refine j_iinc F (pc := 142) (i := 7) (n := 1) (v := 1) (L' := [none, some (.ref a1), some (.ref a2), none, some (.int x4), none, some (.int (x6 + (-1 : Int32))), some (.int (x7 + (1 : Int32)))]) (by decide +kernel) rfl (by decide +kernel) (by decide) rfl rfl ?_
          refine j_goto F (pc := 145) (off := -33) (tgt := 112) (by decide +kernel) (by decide) ?_
          exact ih _ _ _ _ hρ2 h
set_option maxHeartbeats 4000000 in
set_option maxRecDepth 100000 in
theorem u_X2_share_69 {E : z_E} {ρ : Nat → Nat → Option Nat} {r : Int32} {μr : z_M} (F : z_F E RX2 cX2_share 8 0) (Rt : z_R E (some .int) (fun v μ1 => μ1.2.2 = ρ ∧ ∃ r1, v = some (.int r1) ∧ r = r1 ∧ μr = μ1)) {a1 : Nat} {n1 : Nat} {a2 : Nat} {n2 : Nat} (ha1 : (z_sh E.1)[a1]? = some (.inl (0, n1))) (ha2 : (z_sh E.1)[a2]? = some (.inl (0, n2))) : ∀ (n : Nat) (x0 : Int32) (x3 : Int32) (x4 : Int32) (x5 : Int32) (x6 : Int32) (x7 : Int32) (μ : z_M), μ.2.2 = ρ → g_X2_share_69 a1 n1 a2 n2  n x0 x3 x4 x5 x6 x7 μ = some (r, μr) → z_J E 8 69 [some (.int x0), some (.ref a1), some (.ref a2), some (.int x3), some (.int x4), some (.int x5), some (.int x6), some (.int x7)] [] μ := by
  intro n
  induction n with
  | zero =>
    intro x0 x3 x4 x5 x6 x7 μ hρ h
    rw [g_X2_share_69] at h
    cases h
  | succ n ih =>
    intro x0 x3 x4 x5 x6 x7 μ hρ h
    rw [g_X2_share_69] at h
    refine j_iload F (pc := 69) (i := 7) (by decide +kernel) rfl ?_
    refine j_iload F (pc := 71) (i := 4) (by decide +kernel) rfl ?_
    refine j_icmp_ge F (pc := 73) (off := 36) (tgt := 109) (by decide +kernel) (by decide) (fun c => ?_) (fun c => ?_)
    · rw [if_pos c] at h
      refine j_iload_n F (pc := 109) (q := 3) (by decide +kernel) rfl ?_
      refine j_istore F (pc := 110) (i := 7) (L' := [some (.int x0), some (.ref a1), some (.ref a2), some (.int x3), some (.int x4), some (.int x5), some (.int x6), some (.int x3)]) (by decide +kernel) (by decide) rfl rfl ?_
      refine j_mk F [false, true, true, false, true, false, true, true] (L' := [none, some (.ref a1), some (.ref a2), none, some (.int x4), none, some (.int x6), some (.int x3)]) rfl ?_
      refine u_X2_share_112 F Rt ha1 ha2  z_N _ _ _ _ hρ h
    · rw [if_neg c] at h
      refine j_iload F (pc := 76) (i := 5) (by decide +kernel) rfl ?_
      refine j_if_le F (pc := 78) (off := 31) (tgt := 109) (by decide +kernel) (by decide) (fun c => ?_) (fun c => ?_)
      · rw [if_pos c] at h
        refine j_iload_n F (pc := 109) (q := 3) (by decide +kernel) rfl ?_
        refine j_istore F (pc := 110) (i := 7) (L' := [some (.int x0), some (.ref a1), some (.ref a2), some (.int x3), some (.int x4), some (.int x5), some (.int x6), some (.int x3)]) (by decide +kernel) (by decide) rfl rfl ?_
        refine j_mk F [false, true, true, false, true, false, true, true] (L' := [none, some (.ref a1), some (.ref a2), none, some (.int x4), none, some (.int x6), some (.int x3)]) rfl ?_
        refine u_X2_share_112 F Rt ha1 ha2  z_N _ _ _ _ hρ h
      · rw [if_neg c] at h
        refine j_aload_n F (pc := 81) (q := 2) (by decide +kernel) rfl ?_
        refine j_iload F (pc := 82) (i := 7) (by decide +kernel) rfl ?_
        refine j_iload_n F (pc := 84) (q := 0) (by decide +kernel) rfl ?_
        refine j_aload_n F (pc := 85) (q := 1) (by decide +kernel) rfl ?_
        refine j_iload F (pc := 86) (i := 7) (by decide +kernel) rfl ?_
        obtain ⟨hg, h⟩ := z_ifs h
        refine j_iald F (pc := 88) ha1 hg (by decide +kernel) ?_
        refine j_imul F (pc := 89) (by decide +kernel) ?_
        refine j_iload F (pc := 90) (i := 5) (by decide +kernel) rfl ?_
        obtain ⟨hg, h⟩ := z_ifs h
        refine j_idiv F (pc := 92) (by decide +kernel) hg ?_
        obtain ⟨hg, h⟩ := z_ifs h
        refine j_iast F (pc := 93) ha2 hg (by decide +kernel) ?_
        obtain ⟨μ4, e6, h⟩ := z_st_some h
        rw [← e6]
        have hρ5 : μ4.2.2 = ρ := by rw [e6]; exact hρ
        refine j_iload F (pc := 94) (i := 6) (by decide +kernel) rfl ?_
        refine j_aload_n F (pc := 96) (q := 2) (by decide +kernel) rfl ?_
        refine j_iload F (pc := 97) (i := 7) (by decide +kernel) rfl ?_
        obtain ⟨hg, h⟩ := z_ifs h
        refine j_iald F (pc := 99) ha2 hg (by decide +kernel) ?_
        refine j_isub F (pc := 100) (by decide +kernel) ?_
        obtain ⟨x_7, e8, h⟩ := z_lt_some h
        rw [← e8]
        refine j_istore F (pc := 101) (i := 6) (L' := [some (.int x0), some (.ref a1), some (.ref a2), some (.int x3), some (.int x4), some (.int x5), some (.int x_7), some (.int x7)]) (by decide +kernel) (by decide) rfl rfl ?_
        refine j_iinc F (pc := 103) (i := 7) (n := 1) (v := 1) (L' := [some (.int x0), some (.ref a1), some (.ref a2), some (.int x3), some (.int x4), some (.int x5), some (.int x_7), some (.int (x7 + (1 : Int32)))]) (by decide +kernel) rfl (by decide +kernel) (by decide) rfl rfl ?_
        refine j_goto F (pc := 106) (off := -37) (tgt := 69) (by decide +kernel) (by decide) ?_
        exact ih _ _ _ _ _ _ _ hρ5 h
set_option maxHeartbeats 4000000 in
set_option maxRecDepth 100000 in
theorem u_X2_share_37 {E : z_E} {ρ : Nat → Nat → Option Nat} {r : Int32} {μr : z_M} (F : z_F E RX2 cX2_share 8 0) (Rt : z_R E (some .int) (fun v μ1 => μ1.2.2 = ρ ∧ ∃ r1, v = some (.int r1) ∧ r = r1 ∧ μr = μ1)) {a1 : Nat} {n1 : Nat} {a2 : Nat} {n2 : Nat} (ha1 : (z_sh E.1)[a1]? = some (.inl (0, n1))) (ha2 : (z_sh E.1)[a2]? = some (.inl (0, n2))) : ∀ (n : Nat) (x0 : Int32) (x4 : Int32) (x5 : Int32) (x6 : Int32) (μ : z_M), μ.2.2 = ρ → g_X2_share_37 a1 n1 a2 n2  n x0 x4 x5 x6 μ = some (r, μr) → z_J E 8 37 [some (.int x0), some (.ref a1), some (.ref a2), none, some (.int x4), some (.int x5), some (.int x6), none] [] μ := by
  intro n
  induction n with
  | zero =>
    intro x0 x4 x5 x6 μ hρ h
    rw [g_X2_share_37] at h
    cases h
  | succ n ih =>
    intro x0 x4 x5 x6 μ hρ h
    rw [g_X2_share_37] at h
    refine j_iload F (pc := 37) (i := 6) (by decide +kernel) rfl ?_
    refine j_iload F (pc := 39) (i := 4) (by decide +kernel) rfl ?_
    refine j_icmp_ge F (pc := 41) (off := 17) (tgt := 58) (by decide +kernel) (by decide) (fun c => ?_) (fun c => ?_)
    · rw [if_pos c] at h
      refine j_iload_n F (pc := 58) (q := 0) (by decide +kernel) rfl ?_
      refine j_iload F (pc := 59) (i := 5) (by decide +kernel) rfl ?_
      refine j_isub F (pc := 61) (by decide +kernel) ?_
      exact j_iret (st := []) F Rt rfl (by decide +kernel) ⟨hρ, _, rfl, (congrArg Prod.fst (Option.some.inj h)).symm, (congrArg Prod.snd (Option.some.inj h)).symm⟩
    · rw [if_neg c] at h
      refine j_aload_n F (pc := 44) (q := 2) (by decide +kernel) rfl ?_
      refine j_iload F (pc := 45) (i := 6) (by decide +kernel) rfl ?_
      refine j_aload_n F (pc := 47) (q := 1) (by decide +kernel) rfl ?_
      refine j_iload F (pc := 48) (i := 6) (by decide +kernel) rfl ?_
      obtain ⟨hg, h⟩ := z_ifs h
      refine j_iald F (pc := 50) ha1 hg (by decide +kernel) ?_
      obtain ⟨hg, h⟩ := z_ifs h
      refine j_iast F (pc := 51) ha2 hg (by decide +kernel) ?_
      obtain ⟨μ9, e11, h⟩ := z_st_some h
      rw [← e11]
      have hρ10 : μ9.2.2 = ρ := by rw [e11]; exact hρ
      refine j_iinc F (pc := 52) (i := 6) (n := 1) (v := 1) (L' := [some (.int x0), some (.ref a1), some (.ref a2), none, some (.int x4), some (.int x5), some (.int (x6 + (1 : Int32))), none]) (by decide +kernel) rfl (by decide +kernel) (by decide) rfl rfl ?_
      refine j_goto F (pc := 55) (off := -18) (tgt := 37) (by decide +kernel) (by decide) ?_
      exact ih _ _ _ _ _ hρ10 h
set_option maxHeartbeats 4000000 in
set_option maxRecDepth 100000 in
theorem u_X2_share_6 {E : z_E} {ρ : Nat → Nat → Option Nat} {r : Int32} {μr : z_M} (F : z_F E RX2 cX2_share 8 0) (Rt : z_R E (some .int) (fun v μ1 => μ1.2.2 = ρ ∧ ∃ r1, v = some (.int r1) ∧ r = r1 ∧ μr = μ1)) {a1 : Nat} {n1 : Nat} {a2 : Nat} {n2 : Nat} (ha1 : (z_sh E.1)[a1]? = some (.inl (0, n1))) (ha2 : (z_sh E.1)[a2]? = some (.inl (0, n2))) : ∀ (n : Nat) (x0 : Int32) (x3 : Int32) (x4 : Int32) (x5 : Int32) (x6 : Int32) (μ : z_M), μ.2.2 = ρ → g_X2_share_6 a1 n1 a2 n2  n x0 x3 x4 x5 x6 μ = some (r, μr) → z_J E 8 6 [some (.int x0), some (.ref a1), some (.ref a2), some (.int x3), some (.int x4), some (.int x5), some (.int x6), none] [] μ := by
  intro n
  induction n with
  | zero =>
    intro x0 x3 x4 x5 x6 μ hρ h
    rw [g_X2_share_6] at h
    cases h
  | succ n ih =>
    intro x0 x3 x4 x5 x6 μ hρ h
    rw [g_X2_share_6] at h
    refine j_iload F (pc := 6) (i := 6) (by decide +kernel) rfl ?_
    refine j_iload F (pc := 8) (i := 4) (by decide +kernel) rfl ?_
    refine j_icmp_ge F (pc := 10) (off := 18) (tgt := 28) (by decide +kernel) (by decide) (fun c => ?_) (fun c => ?_)
    · rw [if_pos c] at h
      refine j_iload F (pc := 28) (i := 5) (by decide +kernel) rfl ?_
      refine j_iload_n F (pc := 30) (q := 0) (by decide +kernel) rfl ?_
      refine j_icmp_gt F (pc := 31) (off := 32) (tgt := 63) (by decide +kernel) (by decide) (fun c => ?_) (fun c => ?_)
      · rw [if_pos c] at h
        refine j_iload_n F (pc := 63) (q := 0) (by decide +kernel) rfl ?_
        refine j_istore F (pc := 64) (i := 6) (L' := [some (.int x0), some (.ref a1), some (.ref a2), some (.int x3), some (.int x4), some (.int x5), some (.int x0), none]) (by decide +kernel) (by decide) rfl rfl ?_
        refine j_iload_n F (pc := 66) (q := 3) (by decide +kernel) rfl ?_
        refine j_istore F (pc := 67) (i := 7) (L' := [some (.int x0), some (.ref a1), some (.ref a2), some (.int x3), some (.int x4), some (.int x5), some (.int x0), some (.int x3)]) (by decide +kernel) (by decide) rfl rfl ?_
        refine u_X2_share_69 F Rt ha1 ha2  z_N _ _ _ _ _ _ _ hρ h
      · rw [if_neg c] at h
        refine j_iload_n F (pc := 34) (q := 3) (by decide +kernel) rfl ?_
        refine j_istore F (pc := 35) (i := 6) (L' := [some (.int x0), some (.ref a1), some (.ref a2), some (.int x3), some (.int x4), some (.int x5), some (.int x3), none]) (by decide +kernel) (by decide) rfl rfl ?_
        refine j_mk F [true, true, true, false, true, true, true, false] (L' := [some (.int x0), some (.ref a1), some (.ref a2), none, some (.int x4), some (.int x5), some (.int x3), none]) rfl ?_
        refine u_X2_share_37 F Rt ha1 ha2  z_N _ _ _ _ _ hρ h
    · rw [if_neg c] at h
      refine j_iload F (pc := 13) (i := 5) (by decide +kernel) rfl ?_
      refine j_aload_n F (pc := 15) (q := 1) (by decide +kernel) rfl ?_
      refine j_iload F (pc := 16) (i := 6) (by decide +kernel) rfl ?_
      obtain ⟨hg, h⟩ := z_ifs h
      refine j_iald F (pc := 18) ha1 hg (by decide +kernel) ?_
      refine j_iadd F (pc := 19) (by decide +kernel) ?_
      obtain ⟨x_12, e13, h⟩ := z_lt_some h
      rw [← e13]
      refine j_istore F (pc := 20) (i := 5) (L' := [some (.int x0), some (.ref a1), some (.ref a2), some (.int x3), some (.int x4), some (.int x_12), some (.int x6), none]) (by decide +kernel) (by decide) rfl rfl ?_
      refine j_iinc F (pc := 22) (i := 6) (n := 1) (v := 1) (L' := [some (.int x0), some (.ref a1), some (.ref a2), some (.int x3), some (.int x4), some (.int x_12), some (.int (x6 + (1 : Int32))), none]) (by decide +kernel) rfl (by decide +kernel) (by decide) rfl rfl ?_
      refine j_goto F (pc := 25) (off := -19) (tgt := 6) (by decide +kernel) (by decide) ?_
      exact ih _ _ _ _ _ _ hρ h
set_option maxHeartbeats 4000000 in
set_option maxRecDepth 100000 in
theorem t_X2_share {G : z_Gl} {ρ : Nat → Nat → Option Nat} {μ : z_M} {r : Int32} {μr : z_M} {x0 : Int32} {a1 : Nat} {n1 : Nat} {a2 : Nat} {n2 : Nat} {x3 : Int32} {x4 : Int32} (hρ : μ.2.2 = ρ) (ha1 : (z_sh G)[a1]? = some (.inl (0, n1))) (ha2 : (z_sh G)[a2]? = some (.inl (0, n2))) (h : f_X2_share x0 a1 n1 a2 n2 x3 x4 μ = some (r, μr)) : z_Ci G yX2_share cX2_share 8 (some .int) 0 [.int x0, .ref a1, .ref a2, .int x3, .int x4] μ (fun r1 μ1 => r = r1 ∧ μr = μ1) := by
  unfold z_Ci
  refine z_intro (by decide +kernel) (Nat.le_of_ble_eq_true rfl) (fun E hE F Rt => ?_)
  subst hE
  have F : z_F E RX2 cX2_share 8 0 := F
  rw [hρ] at Rt
  unfold f_X2_share at h
  show z_J E 8 0 [some (.int x0), some (.ref a1), some (.ref a2), some (.int x3), some (.int x4), none, none, none] [] μ
  refine j_iconst F (pc := 0) (n := 0) (v := 0) (by decide +kernel) (by decide +kernel) ?_
  refine j_istore F (pc := 1) (i := 5) (L' := [some (.int x0), some (.ref a1), some (.ref a2), some (.int x3), some (.int x4), some (.int (0 : Int32)), none, none]) (by decide +kernel) (by decide) rfl rfl ?_
  refine j_iload_n F (pc := 3) (q := 3) (by decide +kernel) rfl ?_
  refine j_istore F (pc := 4) (i := 6) (L' := [some (.int x0), some (.ref a1), some (.ref a2), some (.int x3), some (.int x4), some (.int (0 : Int32)), some (.int x3), none]) (by decide +kernel) (by decide) rfl rfl ?_
  refine u_X2_share_6 F Rt ha1 ha2  z_N _ _ _ _ _ _ hρ h
def g_X2_payFund_195 (a2 : Nat) (n2 : Nat)  (x1 : Int32) (x3 : Int32) (μ : z_M) : Option (Int32 × z_M) :=
  (if z_in x1 5 then (z_st (z_si μ 36 x1.toNatClampNeg x3) fun μ3 => (if z_in x1 5 then (some (((μ3.1 35 x1.toNatClampNeg) - x3), μ3)) else none)) else none)
def g_X2_payFund_156 (a2 : Nat) (n2 : Nat) (k_10 : Int32 → Int32 → Int32 → z_M → Option (Int32 × z_M)) : Nat → Int32 → Int32 → Int32 → Int32 → z_M → Option (Int32 × z_M)
  | 0, _, _, _, _, _ => none
  | n + 1, x1, x3, x5, x6, μ => (if x5 ≤ x6 then (k_10 (x1) (x3) (x5) μ) else (if z_in x6 14 then (if z_in (μ.1 29 x6.toNatClampNeg) n2 then (if z_in x6 14 then (if z_in (μ.1 29 x6.toNatClampNeg) n2 then (z_st (z_si μ a2 (μ.1 29 x6.toNatClampNeg).toNatClampNeg ((μ.1 a2 (μ.1 29 x6.toNatClampNeg).toNatClampNeg) + (μ.1 34 x6.toNatClampNeg))) fun μ15 => (g_X2_payFund_156 a2 n2 k_10 n (x1) (x3) (x5) ((x6 + (1 : Int32))) μ15)) else none) else none) else none) else none))
def g_X2_payFund_75 (a2 : Nat) (n2 : Nat) (k_10 : Int32 → Int32 → Int32 → z_M → Option (Int32 × z_M)) : Nat → Int32 → Int32 → Int32 → Int32 → Int32 → z_M → Option (Int32 × z_M)
  | 0, _, _, _, _, _, _ => none
  | n + 1, x1, x3, x4, x5, x6, μ => (if x5 ≤ x6 then (z_b2 (f_X2_share (x3) (33) (14) (34) (14) (x4) (x5) μ) fun r8 μ9 => (g_X2_payFund_156 a2 n2 (fun (y20 : Int32) (y21 : Int32) (y22 : Int32) (μ18 : z_M) => (k_10 (y20) (y21) (y22) μ18)) z_N (x1) (r8) (x5) (x4) μ9)) else (if z_in x6 14 then (z_lt (μ.1 29 x6.toNatClampNeg) fun x_23 => (if z_in x_23 14 then (z_b2 (f_X4_bit ((μ.1 31 x_23.toNatClampNeg)) (x1) μ) fun r25 μ26 => (if ((r25 = (1 : Int32)) → z_in x_23 14) ∧ ((r25 = (1 : Int32)) → z_in x_23 n2) then (if z_in x6 14 then (z_st (z_si μ26 33 x6.toNatClampNeg (if r25 = (1 : Int32) then ((μ26.1 32 x_23.toNatClampNeg) - (μ26.1 a2 x_23.toNatClampNeg)) else (0 : Int32))) fun μ32 => (g_X2_payFund_75 a2 n2 k_10 n (x1) (x3) (x4) (x5) ((x6 + (1 : Int32))) μ32)) else none) else none)) else none)) else none))
def g_X2_payFund_29 (a2 : Nat) (n2 : Nat) (k_10 : Int32 → Int32 → Int32 → z_M → Option (Int32 × z_M)) : Nat → Int32 → Int32 → Int32 → Int32 → z_M → Option (Int32 × z_M)
  | 0, _, _, _, _, _ => none
  | n + 1, x1, x3, x4, x5, μ => (if (μ.1 28 1) ≤ x5 then (g_X2_payFund_75 a2 n2 (fun (y37 : Int32) (y38 : Int32) (y39 : Int32) (μ35 : z_M) => (k_10 (y37) (y38) (y39) μ35)) z_N (x1) (x3) (x4) (x5) (x4) μ) else (if z_in x5 14 then (if z_in (μ.1 29 x5.toNatClampNeg) 14 then (if z_in x4 14 then (if z_in (μ.1 29 x4.toNatClampNeg) 14 then (if (μ.1 30 (μ.1 29 x5.toNatClampNeg).toNatClampNeg) = (μ.1 30 (μ.1 29 x4.toNatClampNeg).toNatClampNeg) then (g_X2_payFund_29 a2 n2 k_10 n (x1) (x3) (x4) ((x5 + (1 : Int32))) μ) else (g_X2_payFund_75 a2 n2 (fun (y42 : Int32) (y43 : Int32) (y44 : Int32) (μ40 : z_M) => (k_10 (y42) (y43) (y44) μ40)) z_N (x1) (x3) (x4) (x5) (x4) μ)) else none) else none) else none) else none))
def g_X2_payFund_10 (a2 : Nat) (n2 : Nat)  : Nat → Int32 → Int32 → Int32 → z_M → Option (Int32 × z_M)
  | 0, _, _, _, _ => none
  | n + 1, x1, x3, x4, μ => (if (μ.1 28 1) ≤ x4 then (g_X2_payFund_195 a2 n2  (x1) (x3) μ) else (if x3 ≤ 0 then (g_X2_payFund_195 a2 n2  (x1) (x3) μ) else (z_lt (x4 + (1 : Int32)) fun x_6 => (g_X2_payFund_29 a2 n2 (fun (y47 : Int32) (y48 : Int32) (y49 : Int32) (μ45 : z_M) => (g_X2_payFund_10 a2 n2  n (y47) (y48) (y49) μ45)) z_N (x1) (x3) (x4) (x_6) μ))))
def f_X2_payFund (x1 : Int32) (a2 : Nat) (n2 : Nat) (μ : z_M) : Option (Int32 × z_M) :=
  (if z_in x1 5 then (z_lt (μ.1 35 x1.toNatClampNeg) fun x_1 => (g_X2_payFund_10 a2 n2  z_N (x1) (x_1) ((0 : Int32)) μ)) else none)
set_option maxHeartbeats 4000000 in
set_option maxRecDepth 100000 in
theorem u_X2_payFund_195 {E : z_E} {ρ : Nat → Nat → Option Nat} {r : Int32} {μr : z_M} (F : z_F E RX2 cX2_payFund 8 1) (Rt : z_R E (some .int) (fun v μ1 => μ1.2.2 = ρ ∧ ∃ r1, v = some (.int r1) ∧ r = r1 ∧ μr = μ1)) {a2 : Nat} {n2 : Nat} (hk : z_ok (z_sh E.1) ρ) (ha2 : (z_sh E.1)[a2]? = some (.inl (0, n2))) : ∀ (x1 : Int32) (x3 : Int32) (μ : z_M), μ.2.2 = ρ → g_X2_payFund_195 a2 n2  x1 x3 μ = some (r, μr) → z_J E 8 195 [some (.ref 28), some (.int x1), none, some (.int x3), none, none, none, none] [] μ := by
  intro x1 x3 μ hρ h
  unfold g_X2_payFund_195 at h
  refine j_aload_n F (pc := 195) (q := 0) (by decide +kernel) rfl ?_
  refine j_getR F (pc := 196) (hk.r hρ r_28_9) fl_X2_33 (hk.s c_28) rfl (by decide +kernel) ?_
  refine j_iload_n F (pc := 199) (q := 1) (by decide +kernel) rfl ?_
  refine j_iload_n F (pc := 200) (q := 3) (by decide +kernel) rfl ?_
  obtain ⟨hg, h⟩ := z_ifs h
  refine j_iast F (pc := 201) (hk.s c_36) hg (by decide +kernel) ?_
  obtain ⟨μ3, e5, h⟩ := z_st_some h
  rw [← e5]
  have hρ4 : μ3.2.2 = ρ := by rw [e5]; exact hρ
  refine j_aload_n F (pc := 202) (q := 0) (by decide +kernel) rfl ?_
  refine j_getR F (pc := 203) (hk.r hρ4 r_28_8) fl_X2_30 (hk.s c_28) rfl (by decide +kernel) ?_
  refine j_iload_n F (pc := 206) (q := 1) (by decide +kernel) rfl ?_
  obtain ⟨hg, h⟩ := z_ifs h
  refine j_iald F (pc := 207) (hk.s c_35) hg (by decide +kernel) ?_
  refine j_iload_n F (pc := 208) (q := 3) (by decide +kernel) rfl ?_
  refine j_isub F (pc := 209) (by decide +kernel) ?_
  exact j_iret (st := []) F Rt rfl (by decide +kernel) ⟨hρ4, _, rfl, (congrArg Prod.fst (Option.some.inj h)).symm, (congrArg Prod.snd (Option.some.inj h)).symm⟩
set_option maxHeartbeats 4000000 in
set_option maxRecDepth 100000 in
theorem u_X2_payFund_156 {E : z_E} {ρ : Nat → Nat → Option Nat} {r : Int32} {μr : z_M} (F : z_F E RX2 cX2_payFund 8 1) (Rt : z_R E (some .int) (fun v μ1 => μ1.2.2 = ρ ∧ ∃ r1, v = some (.int r1) ∧ r = r1 ∧ μr = μ1)) {a2 : Nat} {n2 : Nat} (hk : z_ok (z_sh E.1) ρ) (ha2 : (z_sh E.1)[a2]? = some (.inl (0, n2))) {k_10 : Int32 → Int32 → Int32 → z_M → Option (Int32 × z_M)} (hc_10 : ∀ (y1 : Int32) (y3 : Int32) (y4 : Int32) (μ1 : z_M), μ1.2.2 = ρ → k_10 y1 y3 y4 μ1 = some (r, μr) → z_J E 8 10 [some (.ref 28), some (.int y1), some (.ref a2), some (.int y3), some (.int y4), none, none, none] [] μ1) : ∀ (n : Nat) (x1 : Int32) (x3 : Int32) (x5 : Int32) (x6 : Int32) (μ : z_M), μ.2.2 = ρ → g_X2_payFund_156 a2 n2 k_10 n x1 x3 x5 x6 μ = some (r, μr) → z_J E 8 156 [some (.ref 28), some (.int x1), some (.ref a2), some (.int x3), none, some (.int x5), some (.int x6), none] [] μ := by
  intro n
  induction n with
  | zero =>
    intro x1 x3 x5 x6 μ hρ h
    rw [g_X2_payFund_156] at h
    cases h
  | succ n ih =>
    intro x1 x3 x5 x6 μ hρ h
    rw [g_X2_payFund_156] at h
    refine j_iload F (pc := 156) (i := 6) (by decide +kernel) rfl ?_
    refine j_iload F (pc := 158) (i := 5) (by decide +kernel) rfl ?_
    refine j_icmp_ge F (pc := 160) (off := 28) (tgt := 188) (by decide +kernel) (by decide) (fun c => ?_) (fun c => ?_)
    · rw [if_pos c] at h
      refine j_iload F (pc := 188) (i := 5) (by decide +kernel) rfl ?_
      refine j_istore F (pc := 190) (i := 4) (L' := [some (.ref 28), some (.int x1), some (.ref a2), some (.int x3), some (.int x5), some (.int x5), some (.int x6), none]) (by decide +kernel) (by decide) rfl rfl ?_
      refine j_goto F (pc := 192) (off := -182) (tgt := 10) (by decide +kernel) (by decide) ?_
      refine j_mk F [true, true, true, true, true, false, false, false] (L' := [some (.ref 28), some (.int x1), some (.ref a2), some (.int x3), some (.int x5), none, none, none]) rfl ?_
      exact hc_10 _ _ _ _ hρ h
    · rw [if_neg c] at h
      refine j_aload_n F (pc := 163) (q := 2) (by decide +kernel) rfl ?_
      refine j_aload_n F (pc := 164) (q := 0) (by decide +kernel) rfl ?_
      refine j_getR F (pc := 165) (hk.r hρ r_28_0) fl_X2_9 (hk.s c_28) rfl (by decide +kernel) ?_
      refine j_iload F (pc := 168) (i := 6) (by decide +kernel) rfl ?_
      obtain ⟨hg, h⟩ := z_ifs h
      refine j_iald F (pc := 170) (hk.s c_29) hg (by decide +kernel) ?_
      refine j_dup2 F (pc := 171) (by decide +kernel) rfl rfl ?_
      obtain ⟨hg, h⟩ := z_ifs h
      refine j_iald F (pc := 172) ha2 hg (by decide +kernel) ?_
      refine j_aload_n F (pc := 173) (q := 0) (by decide +kernel) rfl ?_
      refine j_getR F (pc := 174) (hk.r hρ r_28_7) fl_X2_27 (hk.s c_28) rfl (by decide +kernel) ?_
      refine j_iload F (pc := 177) (i := 6) (by decide +kernel) rfl ?_
      obtain ⟨hg, h⟩ := z_ifs h
      refine j_iald F (pc := 179) (hk.s c_34) hg (by decide +kernel) ?_
      refine j_iadd F (pc := 180) (by decide +kernel) ?_
      obtain ⟨hg, h⟩ := z_ifs h
      refine j_iast F (pc := 181) ha2 hg (by decide +kernel) ?_
      obtain ⟨μ15, e17, h⟩ := z_st_some h
      rw [← e17]
      have hρ16 : μ15.2.2 = ρ := by rw [e17]; exact hρ
      refine j_iinc F (pc := 182) (i := 6) (n := 1) (v := 1) (L' := [some (.ref 28), some (.int x1), some (.ref a2), some (.int x3), none, some (.int x5), some (.int (x6 + (1 : Int32))), none]) (by decide +kernel) rfl (by decide +kernel) (by decide) rfl rfl ?_
      refine j_goto F (pc := 185) (off := -29) (tgt := 156) (by decide +kernel) (by decide) ?_
      exact ih _ _ _ _ _ hρ16 h
set_option maxHeartbeats 4000000 in
set_option maxRecDepth 100000 in
theorem u_X2_payFund_75 {E : z_E} {ρ : Nat → Nat → Option Nat} {r : Int32} {μr : z_M} (F : z_F E RX2 cX2_payFund 8 1) (Rt : z_R E (some .int) (fun v μ1 => μ1.2.2 = ρ ∧ ∃ r1, v = some (.int r1) ∧ r = r1 ∧ μr = μ1)) {a2 : Nat} {n2 : Nat} (hk : z_ok (z_sh E.1) ρ) (ha2 : (z_sh E.1)[a2]? = some (.inl (0, n2))) {k_10 : Int32 → Int32 → Int32 → z_M → Option (Int32 × z_M)} (hc_10 : ∀ (y1 : Int32) (y3 : Int32) (y4 : Int32) (μ1 : z_M), μ1.2.2 = ρ → k_10 y1 y3 y4 μ1 = some (r, μr) → z_J E 8 10 [some (.ref 28), some (.int y1), some (.ref a2), some (.int y3), some (.int y4), none, none, none] [] μ1) : ∀ (n : Nat) (x1 : Int32) (x3 : Int32) (x4 : Int32) (x5 : Int32) (x6 : Int32) (μ : z_M), μ.2.2 = ρ → g_X2_payFund_75 a2 n2 k_10 n x1 x3 x4 x5 x6 μ = some (r, μr) → z_J E 8 75 [some (.ref 28), some (.int x1), some (.ref a2), some (.int x3), some (.int x4), some (.int x5), some (.int x6), none] [] μ := by
  intro n
  induction n with
  | zero =>
    intro x1 x3 x4 x5 x6 μ hρ h
    rw [g_X2_payFund_75] at h
    cases h
  | succ n ih =>
    intro x1 x3 x4 x5 x6 μ hρ h
    rw [g_X2_payFund_75] at h
    refine j_iload F (pc := 75) (i := 6) (by decide +kernel) rfl ?_
    refine j_iload F (pc := 77) (i := 5) (by decide +kernel) rfl ?_
    refine j_icmp_ge F (pc := 79) (off := 56) (tgt := 135) (by decide +kernel) (by decide) (fun c => ?_) (fun c => ?_)
    · rw [if_pos c] at h
      refine j_iload_n F (pc := 135) (q := 3) (by decide +kernel) rfl ?_
      refine j_aload_n F (pc := 136) (q := 0) (by decide +kernel) rfl ?_
      refine j_getR F (pc := 137) (hk.r hρ r_28_6) fl_X2_24 (hk.s c_28) rfl (by decide +kernel) ?_
      refine j_aload_n F (pc := 140) (q := 0) (by decide +kernel) rfl ?_
      refine j_getR F (pc := 141) (hk.r hρ r_28_7) fl_X2_27 (hk.s c_28) rfl (by decide +kernel) ?_
      refine j_iload F (pc := 144) (i := 4) (by decide +kernel) rfl ?_
      refine j_iload F (pc := 146) (i := 5) (by decide +kernel) rfl ?_
      obtain ⟨r8, μ9, hc11, h⟩ := z_b2_some h
      refine j_callSi F (pc := 148) (idx := 139) (As := [.int x3, .ref 33, .ref 34, .int x4, .int x5]) (st := []) (t_X2_share (G := E.1) hρ (hk.s c_33) (hk.s c_34) hc11) q_X2_share m_739 m_738 rfl (by decide) (Nat.le_of_ble_eq_true rfl) rfl (by decide +kernel) (fun s14 ν12 hq13 hp => ?_)
      obtain ⟨rfl, rfl⟩ := hp
      have hρ10 : μ9.2.2 = ρ := hq13.trans hρ
      refine j_istore_n F (pc := 151) (q := 3) (L' := [some (.ref 28), some (.int x1), some (.ref a2), some (.int r8), some (.int x4), some (.int x5), some (.int x6), none]) (by decide +kernel) (by decide) rfl rfl ?_
      refine j_iload F (pc := 152) (i := 4) (by decide +kernel) rfl ?_
      refine j_istore F (pc := 154) (i := 6) (L' := [some (.ref 28), some (.int x1), some (.ref a2), some (.int r8), some (.int x4), some (.int x5), some (.int x4), none]) (by decide +kernel) (by decide) rfl rfl ?_
      refine j_mk F [true, true, true, true, false, true, true, false] (L' := [some (.ref 28), some (.int x1), some (.ref a2), some (.int r8), none, some (.int x5), some (.int x4), none]) rfl ?_
      refine u_X2_payFund_156 F Rt hk ha2 (fun y20 y21 y22 μ18 hρ19 h => ?_) z_N _ _ _ _ _ hρ10 h
      exact hc_10 _ _ _ _ hρ19 h
    · rw [if_neg c] at h
      refine j_aload_n F (pc := 82) (q := 0) (by decide +kernel) rfl ?_
      refine j_getR F (pc := 83) (hk.r hρ r_28_0) fl_X2_9 (hk.s c_28) rfl (by decide +kernel) ?_
      refine j_iload F (pc := 86) (i := 6) (by decide +kernel) rfl ?_
      obtain ⟨hg, h⟩ := z_ifs h
      refine j_iald F (pc := 88) (hk.s c_29) hg (by decide +kernel) ?_
      obtain ⟨x_23, e24, h⟩ := z_lt_some h
      rw [← e24]
      refine j_istore F (pc := 89) (i := 7) (L' := [some (.ref 28), some (.int x1), some (.ref a2), some (.int x3), some (.int x4), some (.int x5), some (.int x6), some (.int x_23)]) (by decide +kernel) (by decide) rfl rfl ?_
      refine j_aload_n F (pc := 91) (q := 0) (by decide +kernel) rfl ?_
      refine j_getR F (pc := 92) (hk.r hρ r_28_6) fl_X2_24 (hk.s c_28) rfl (by decide +kernel) ?_
      refine j_iload F (pc := 95) (i := 6) (by decide +kernel) rfl ?_
      refine j_aload_n F (pc := 97) (q := 0) (by decide +kernel) rfl ?_
      refine j_getR F (pc := 98) (hk.r hρ r_28_4) fl_X2_18 (hk.s c_28) rfl (by decide +kernel) ?_
      refine j_iload F (pc := 101) (i := 7) (by decide +kernel) rfl ?_
      obtain ⟨hg, h⟩ := z_ifs h
      refine j_iald F (pc := 103) (hk.s c_31) hg (by decide +kernel) ?_
      refine j_iload_n F (pc := 104) (q := 1) (by decide +kernel) rfl ?_
      obtain ⟨r25, μ26, hc28, h⟩ := z_b2_some h
      refine j_callNi F (pc := 105) (idx := 114) (As := [.int (μ.1 31 x_23.toNatClampNeg), .int x1]) (st := [.int x6, .ref 33]) (t_X4_bit (G := E.1) hρ  hc28) q_X4_bit m_474 (by decide +kernel) rfl (by decide) (Nat.le_of_ble_eq_true rfl) rfl (by decide +kernel) (fun s31 ν29 hq30 hp => ?_)
      obtain ⟨rfl, rfl⟩ := hp
      have hρ27 : μ26.2.2 = ρ := hq30.trans hρ
      refine j_iconst F (pc := 108) (n := 1) (v := 1) (by decide +kernel) (by decide +kernel) ?_
      obtain ⟨hg, h⟩ := z_ifs h
      suffices hj : z_J E 8 128 [some (.ref 28), some (.int x1), some (.ref a2), some (.int x3), some (.int x4), some (.int x5), some (.int x6), some (.int x_23)] (.int (if r25 = (1 : Int32) then ((μ26.1 32 x_23.toNatClampNeg) - (μ26.1 a2 x_23.toNatClampNeg)) else (0 : Int32)) :: [.int x6, .ref 33]) μ26 by
        refine j_icmp_ne F (pc := 109) (off := 18) (tgt := 127) (by decide +kernel) (by decide) (fun c0 => ?_) (fun c0 => ?_)
        · rw [if_neg c0] at hj
          refine j_iconst F (pc := 127) (n := 0) (v := 0) (by decide +kernel) (by decide +kernel) ?_
          exact hj
        · rw [if_pos c0] at hj
          refine j_aload_n F (pc := 112) (q := 0) (by decide +kernel) rfl ?_
          refine j_getR F (pc := 113) (hk.r hρ27 r_28_5) fl_X2_21 (hk.s c_28) rfl (by decide +kernel) ?_
          refine j_iload F (pc := 116) (i := 7) (by decide +kernel) rfl ?_
          refine j_iald F (pc := 118) (hk.s c_32) (hg.1 c0) (by decide +kernel) ?_
          refine j_aload_n F (pc := 119) (q := 2) (by decide +kernel) rfl ?_
          refine j_iload F (pc := 120) (i := 7) (by decide +kernel) rfl ?_
          refine j_iald F (pc := 122) ha2 (hg.2 c0) (by decide +kernel) ?_
          refine j_isub F (pc := 123) (by decide +kernel) ?_
          refine j_goto F (pc := 124) (off := 4) (tgt := 128) (by decide +kernel) (by decide) ?_
          exact hj
      obtain ⟨hg, h⟩ := z_ifs h
      refine j_iast F (pc := 128) (hk.s c_33) hg (by decide +kernel) ?_
      obtain ⟨μ32, e34, h⟩ := z_st_some h
      rw [← e34]
      have hρ33 : μ32.2.2 = ρ := by rw [e34]; exact hρ27
      refine j_iinc F (pc := 129) (i := 6) (n := 1) (v := 1) (L' := [some (.ref 28), some (.int x1), some (.ref a2), some (.int x3), some (.int x4), some (.int x5), some (.int (x6 + (1 : Int32))), some (.int x_23)]) (by decide +kernel) rfl (by decide +kernel) (by decide) rfl rfl ?_
      refine j_goto F (pc := 132) (off := -57) (tgt := 75) (by decide +kernel) (by decide) ?_
      refine j_mk F [true, true, true, true, true, true, true, false] (L' := [some (.ref 28), some (.int x1), some (.ref a2), some (.int x3), some (.int x4), some (.int x5), some (.int (x6 + (1 : Int32))), none]) rfl ?_
      exact ih _ _ _ _ _ _ hρ33 h
set_option maxHeartbeats 4000000 in
set_option maxRecDepth 100000 in
theorem u_X2_payFund_29 {E : z_E} {ρ : Nat → Nat → Option Nat} {r : Int32} {μr : z_M} (F : z_F E RX2 cX2_payFund 8 1) (Rt : z_R E (some .int) (fun v μ1 => μ1.2.2 = ρ ∧ ∃ r1, v = some (.int r1) ∧ r = r1 ∧ μr = μ1)) {a2 : Nat} {n2 : Nat} (hk : z_ok (z_sh E.1) ρ) (ha2 : (z_sh E.1)[a2]? = some (.inl (0, n2))) {k_10 : Int32 → Int32 → Int32 → z_M → Option (Int32 × z_M)} (hc_10 : ∀ (y1 : Int32) (y3 : Int32) (y4 : Int32) (μ1 : z_M), μ1.2.2 = ρ → k_10 y1 y3 y4 μ1 = some (r, μr) → z_J E 8 10 [some (.ref 28), some (.int y1), some (.ref a2), some (.int y3), some (.int y4), none, none, none] [] μ1) : ∀ (n : Nat) (x1 : Int32) (x3 : Int32) (x4 : Int32) (x5 : Int32) (μ : z_M), μ.2.2 = ρ → g_X2_payFund_29 a2 n2 k_10 n x1 x3 x4 x5 μ = some (r, μr) → z_J E 8 29 [some (.ref 28), some (.int x1), some (.ref a2), some (.int x3), some (.int x4), some (.int x5), none, none] [] μ := by
  intro n
  induction n with
  | zero =>
    intro x1 x3 x4 x5 μ hρ h
    rw [g_X2_payFund_29] at h
    cases h
  | succ n ih =>
    intro x1 x3 x4 x5 μ hρ h
    rw [g_X2_payFund_29] at h
    refine j_iload F (pc := 29) (i := 5) (by decide +kernel) rfl ?_
    refine j_aload_n F (pc := 31) (q := 0) (by decide +kernel) rfl ?_
    refine j_getI F (pc := 32) fl_X2_86 (hk.s c_28) rfl (by decide +kernel) ?_
    refine j_icmp_ge F (pc := 35) (off := 36) (tgt := 71) (by decide +kernel) (by decide) (fun c => ?_) (fun c => ?_)
    · rw [if_pos c] at h
      refine j_iload F (pc := 71) (i := 4) (by decide +kernel) rfl ?_
      refine j_istore F (pc := 73) (i := 6) (L' := [some (.ref 28), some (.int x1), some (.ref a2), some (.int x3), some (.int x4), some (.int x5), some (.int x4), none]) (by decide +kernel) (by decide) rfl rfl ?_
      refine u_X2_payFund_75 F Rt hk ha2 (fun y37 y38 y39 μ35 hρ36 h => ?_) z_N _ _ _ _ _ _ hρ h
      exact hc_10 _ _ _ _ hρ36 h
    · rw [if_neg c] at h
      refine j_aload_n F (pc := 38) (q := 0) (by decide +kernel) rfl ?_
      refine j_getR F (pc := 39) (hk.r hρ r_28_3) fl_X2_15 (hk.s c_28) rfl (by decide +kernel) ?_
      refine j_aload_n F (pc := 42) (q := 0) (by decide +kernel) rfl ?_
      refine j_getR F (pc := 43) (hk.r hρ r_28_0) fl_X2_9 (hk.s c_28) rfl (by decide +kernel) ?_
      refine j_iload F (pc := 46) (i := 5) (by decide +kernel) rfl ?_
      obtain ⟨hg, h⟩ := z_ifs h
      refine j_iald F (pc := 48) (hk.s c_29) hg (by decide +kernel) ?_
      obtain ⟨hg, h⟩ := z_ifs h
      refine j_iald F (pc := 49) (hk.s c_30) hg (by decide +kernel) ?_
      refine j_aload_n F (pc := 50) (q := 0) (by decide +kernel) rfl ?_
      refine j_getR F (pc := 51) (hk.r hρ r_28_3) fl_X2_15 (hk.s c_28) rfl (by decide +kernel) ?_
      refine j_aload_n F (pc := 54) (q := 0) (by decide +kernel) rfl ?_
      refine j_getR F (pc := 55) (hk.r hρ r_28_0) fl_X2_9 (hk.s c_28) rfl (by decide +kernel) ?_
      refine j_iload F (pc := 58) (i := 4) (by decide +kernel) rfl ?_
      obtain ⟨hg, h⟩ := z_ifs h
      refine j_iald F (pc := 60) (hk.s c_29) hg (by decide +kernel) ?_
      obtain ⟨hg, h⟩ := z_ifs h
      refine j_iald F (pc := 61) (hk.s c_30) hg (by decide +kernel) ?_
      refine j_icmp_ne F (pc := 62) (off := 9) (tgt := 71) (by decide +kernel) (by decide) (fun c => ?_) (fun c => ?_)
      · rw [if_neg c] at h
        refine j_iload F (pc := 71) (i := 4) (by decide +kernel) rfl ?_
        refine j_istore F (pc := 73) (i := 6) (L' := [some (.ref 28), some (.int x1), some (.ref a2), some (.int x3), some (.int x4), some (.int x5), some (.int x4), none]) (by decide +kernel) (by decide) rfl rfl ?_
        refine u_X2_payFund_75 F Rt hk ha2 (fun y42 y43 y44 μ40 hρ41 h => ?_) z_N _ _ _ _ _ _ hρ h
        exact hc_10 _ _ _ _ hρ41 h
      · rw [if_pos c] at h
        refine j_iinc F (pc := 65) (i := 5) (n := 1) (v := 1) (L' := [some (.ref 28), some (.int x1), some (.ref a2), some (.int x3), some (.int x4), some (.int (x5 + (1 : Int32))), none, none]) (by decide +kernel) rfl (by decide +kernel) (by decide) rfl rfl ?_
        refine j_goto F (pc := 68) (off := -39) (tgt := 29) (by decide +kernel) (by decide) ?_
        exact ih _ _ _ _ _ hρ h
set_option maxHeartbeats 4000000 in
set_option maxRecDepth 100000 in
theorem u_X2_payFund_10 {E : z_E} {ρ : Nat → Nat → Option Nat} {r : Int32} {μr : z_M} (F : z_F E RX2 cX2_payFund 8 1) (Rt : z_R E (some .int) (fun v μ1 => μ1.2.2 = ρ ∧ ∃ r1, v = some (.int r1) ∧ r = r1 ∧ μr = μ1)) {a2 : Nat} {n2 : Nat} (hk : z_ok (z_sh E.1) ρ) (ha2 : (z_sh E.1)[a2]? = some (.inl (0, n2))) : ∀ (n : Nat) (x1 : Int32) (x3 : Int32) (x4 : Int32) (μ : z_M), μ.2.2 = ρ → g_X2_payFund_10 a2 n2  n x1 x3 x4 μ = some (r, μr) → z_J E 8 10 [some (.ref 28), some (.int x1), some (.ref a2), some (.int x3), some (.int x4), none, none, none] [] μ := by
  intro n
  induction n with
  | zero =>
    intro x1 x3 x4 μ hρ h
    rw [g_X2_payFund_10] at h
    cases h
  | succ n ih =>
    intro x1 x3 x4 μ hρ h
    rw [g_X2_payFund_10] at h
    refine j_iload F (pc := 10) (i := 4) (by decide +kernel) rfl ?_
    refine j_aload_n F (pc := 12) (q := 0) (by decide +kernel) rfl ?_
    refine j_getI F (pc := 13) fl_X2_86 (hk.s c_28) rfl (by decide +kernel) ?_
    refine j_icmp_ge F (pc := 16) (off := 179) (tgt := 195) (by decide +kernel) (by decide) (fun c => ?_) (fun c => ?_)
    · rw [if_pos c] at h
      refine j_mk F [true, true, false, true, false, false, false, false] (L' := [some (.ref 28), some (.int x1), none, some (.int x3), none, none, none, none]) rfl ?_
      refine u_X2_payFund_195 F Rt hk ha2  _ _ _ hρ h
    · rw [if_neg c] at h
      refine j_iload_n F (pc := 19) (q := 3) (by decide +kernel) rfl ?_
      refine j_if_le F (pc := 20) (off := 175) (tgt := 195) (by decide +kernel) (by decide) (fun c => ?_) (fun c => ?_)
      · rw [if_pos c] at h
        refine j_mk F [true, true, false, true, false, false, false, false] (L' := [some (.ref 28), some (.int x1), none, some (.int x3), none, none, none, none]) rfl ?_
        refine u_X2_payFund_195 F Rt hk ha2  _ _ _ hρ h
      · rw [if_neg c] at h
        refine j_iload F (pc := 23) (i := 4) (by decide +kernel) rfl ?_
        refine j_iconst F (pc := 25) (n := 1) (v := 1) (by decide +kernel) (by decide +kernel) ?_
        refine j_iadd F (pc := 26) (by decide +kernel) ?_
        obtain ⟨x_6, e7, h⟩ := z_lt_some h
        rw [← e7]
        refine j_istore F (pc := 27) (i := 5) (L' := [some (.ref 28), some (.int x1), some (.ref a2), some (.int x3), some (.int x4), some (.int x_6), none, none]) (by decide +kernel) (by decide) rfl rfl ?_
        refine u_X2_payFund_29 F Rt hk ha2 (fun y47 y48 y49 μ45 hρ46 h => ?_) z_N _ _ _ _ _ hρ h
        exact ih _ _ _ _ hρ46 h
set_option maxHeartbeats 4000000 in
set_option maxRecDepth 100000 in
theorem t_X2_payFund {G : z_Gl} {ρ : Nat → Nat → Option Nat} {μ : z_M} {r : Int32} {μr : z_M} {x1 : Int32} {a2 : Nat} {n2 : Nat} (hρ : μ.2.2 = ρ) (hk : z_ok (z_sh G) ρ) (ha2 : (z_sh G)[a2]? = some (.inl (0, n2))) (h : f_X2_payFund x1 a2 n2 μ = some (r, μr)) : z_Ci G yX2_payFund cX2_payFund 8 (some .int) 1 [.ref 28, .int x1, .ref a2] μ (fun r1 μ1 => r = r1 ∧ μr = μ1) := by
  unfold z_Ci
  refine z_intro (by decide +kernel) (Nat.le_of_ble_eq_true rfl) (fun E hE F Rt => ?_)
  subst hE
  have F : z_F E RX2 cX2_payFund 8 1 := F
  rw [hρ] at Rt
  unfold f_X2_payFund at h
  show z_J E 8 0 [some (.ref 28), some (.int x1), some (.ref a2), none, none, none, none, none] [] μ
  refine j_aload_n F (pc := 0) (q := 0) (by decide +kernel) rfl ?_
  refine j_getR F (pc := 1) (hk.r hρ r_28_8) fl_X2_30 (hk.s c_28) rfl (by decide +kernel) ?_
  refine j_iload_n F (pc := 4) (q := 1) (by decide +kernel) rfl ?_
  obtain ⟨hg, h⟩ := z_ifs h
  refine j_iald F (pc := 5) (hk.s c_35) hg (by decide +kernel) ?_
  obtain ⟨x_1, e2, h⟩ := z_lt_some h
  rw [← e2]
  refine j_istore_n F (pc := 6) (q := 3) (L' := [some (.ref 28), some (.int x1), some (.ref a2), some (.int x_1), none, none, none, none]) (by decide +kernel) (by decide) rfl rfl ?_
  refine j_iconst F (pc := 7) (n := 0) (v := 0) (by decide +kernel) (by decide +kernel) ?_
  refine j_istore F (pc := 8) (i := 4) (L' := [some (.ref 28), some (.int x1), some (.ref a2), some (.int x_1), some (.int (0 : Int32)), none, none, none]) (by decide +kernel) (by decide) rfl rfl ?_
  refine u_X2_payFund_10 F Rt hk ha2  z_N _ _ _ _ hρ h
def g_X2_payAllFrom_2   : Nat → Int32 → z_M → Option z_M
  | 0, _, _ => none
  | n + 1, x2, μ => (if (5 : Int32) ≤ x2 then (some μ) else (if z_in x2 6 then ((μ.2.2 39 x2.toNatClampNeg).bind fun r1 => (if z_in (x2 + (1 : Int32)) 6 then ((μ.2.2 39 (x2 + (1 : Int32)).toNatClampNeg).bind fun r4 => (z_b1 (f_X4_copyRow (r1) (14) (r4) (14) μ) fun μ8 => (if z_in x2 6 then (if z_in x2 5 then (if z_in (x2 + (1 : Int32)) 6 then ((μ8.2.2 39 (x2 + (1 : Int32)).toNatClampNeg).bind fun r13 => (z_b2 (f_X2_payFund ((μ8.1 37 x2.toNatClampNeg)) (r13) (14) μ8) fun r16 μ17 => (if z_in (x2 + (1 : Int32)) 6 then (z_st (z_si μ17 46 (x2 + (1 : Int32)).toNatClampNeg ((μ8.1 46 x2.toNatClampNeg) + r16)) fun μ23 => (g_X2_payAllFrom_2   n ((x2 + (1 : Int32))) μ23)) else none))) else none) else none) else none))) else none)) else none))
def f_X2_payAllFrom (x1 : Int32) (μ : z_M) : Option z_M :=
  (g_X2_payAllFrom_2   z_N (x1) μ)
set_option maxHeartbeats 4000000 in
set_option maxRecDepth 100000 in
theorem u_X2_payAllFrom_2 {E : z_E} {ρ : Nat → Nat → Option Nat} {μr : z_M} (F : z_F E RX2 cX2_payAllFrom 3 2) (Rt : z_R E none (fun v μ1 => μ1.2.2 = ρ ∧ v = none ∧ μr = μ1))  (hk : z_ok (z_sh E.1) ρ) : ∀ (n : Nat) (x2 : Int32) (μ : z_M), μ.2.2 = ρ → g_X2_payAllFrom_2   n x2 μ = some μr → z_J E 3 2 [some (.ref 28), none, some (.int x2)] [] μ := by
  intro n
  induction n with
  | zero =>
    intro x2 μ hρ h
    rw [g_X2_payAllFrom_2] at h
    cases h
  | succ n ih =>
    intro x2 μ hρ h
    rw [g_X2_payAllFrom_2] at h
    refine j_iload_n F (pc := 2) (q := 2) (by decide +kernel) rfl ?_
    refine j_iconst F (pc := 3) (n := 5) (v := 5) (by decide +kernel) (by decide +kernel) ?_
    refine j_icmp_ge F (pc := 4) (off := 59) (tgt := 63) (by decide +kernel) (by decide) (fun c => ?_) (fun c => ?_)
    · rw [if_pos c] at h
      exact j_vret (st := []) F Rt (by decide +kernel) ⟨hρ, rfl, (Option.some.inj h).symm⟩
    · rw [if_neg c] at h
      refine j_aload_n F (pc := 7) (q := 0) (by decide +kernel) rfl ?_
      refine j_getR F (pc := 8) (hk.r hρ r_28_12) fl_X2_44 (hk.s c_28) rfl (by decide +kernel) ?_
      refine j_iload_n F (pc := 11) (q := 2) (by decide +kernel) rfl ?_
      obtain ⟨hg, h⟩ := z_ifs h
      obtain ⟨r1, hr2, h⟩ := Option.bind_eq_some_iff.mp h
      have hb3 := hk.rowAt hρ hr2
      refine j_aald F (pc := 12) (hk.s c_39) (by decide) hg hr2 (by decide +kernel) ?_
      refine j_aload_n F (pc := 13) (q := 0) (by decide +kernel) rfl ?_
      refine j_getR F (pc := 14) (hk.r hρ r_28_12) fl_X2_44 (hk.s c_28) rfl (by decide +kernel) ?_
      refine j_iload_n F (pc := 17) (q := 2) (by decide +kernel) rfl ?_
      refine j_iconst F (pc := 18) (n := 1) (v := 1) (by decide +kernel) (by decide +kernel) ?_
      refine j_iadd F (pc := 19) (by decide +kernel) ?_
      obtain ⟨hg, h⟩ := z_ifs h
      obtain ⟨r4, hr5, h⟩ := Option.bind_eq_some_iff.mp h
      have hb6 := hk.rowAt hρ hr5
      refine j_aald F (pc := 20) (hk.s c_39) (by decide) hg hr5 (by decide +kernel) ?_
      obtain ⟨μ8, hc10, h⟩ := z_b1_some h
      refine j_callNv F (pc := 21) (idx := 63) (As := [.ref r1, .ref r4]) (st := []) (t_X4_copyRow (G := E.1) hρ hb3 hb6 hc10) q_X4_copyRow m_723 (by decide +kernel) rfl (by decide) (Nat.le_of_ble_eq_true rfl) rfl (by decide +kernel) (fun ν11 hq12 hp => ?_)
      subst hp
      have hρ9 : μ8.2.2 = ρ := hq12.trans hρ
      refine j_aload_n F (pc := 24) (q := 0) (by decide +kernel) rfl ?_
      refine j_getR F (pc := 25) (hk.r hρ9 r_28_13) fl_X2_47 (hk.s c_28) rfl (by decide +kernel) ?_
      refine j_iload_n F (pc := 28) (q := 2) (by decide +kernel) rfl ?_
      refine j_iconst F (pc := 29) (n := 1) (v := 1) (by decide +kernel) (by decide +kernel) ?_
      refine j_iadd F (pc := 30) (by decide +kernel) ?_
      refine j_aload_n F (pc := 31) (q := 0) (by decide +kernel) rfl ?_
      refine j_getR F (pc := 32) (hk.r hρ9 r_28_13) fl_X2_47 (hk.s c_28) rfl (by decide +kernel) ?_
      refine j_iload_n F (pc := 35) (q := 2) (by decide +kernel) rfl ?_
      obtain ⟨hg, h⟩ := z_ifs h
      refine j_iald F (pc := 36) (hk.s c_46) hg (by decide +kernel) ?_
      refine j_aload_n F (pc := 37) (q := 0) (by decide +kernel) rfl ?_
      refine j_aload_n F (pc := 38) (q := 0) (by decide +kernel) rfl ?_
      refine j_getR F (pc := 39) (hk.r hρ9 r_28_10) fl_X2_36 (hk.s c_28) rfl (by decide +kernel) ?_
      refine j_iload_n F (pc := 42) (q := 2) (by decide +kernel) rfl ?_
      obtain ⟨hg, h⟩ := z_ifs h
      refine j_iald F (pc := 43) (hk.s c_37) hg (by decide +kernel) ?_
      refine j_aload_n F (pc := 44) (q := 0) (by decide +kernel) rfl ?_
      refine j_getR F (pc := 45) (hk.r hρ9 r_28_12) fl_X2_44 (hk.s c_28) rfl (by decide +kernel) ?_
      refine j_iload_n F (pc := 48) (q := 2) (by decide +kernel) rfl ?_
      refine j_iconst F (pc := 49) (n := 1) (v := 1) (by decide +kernel) (by decide +kernel) ?_
      refine j_iadd F (pc := 50) (by decide +kernel) ?_
      obtain ⟨hg, h⟩ := z_ifs h
      obtain ⟨r13, hr14, h⟩ := Option.bind_eq_some_iff.mp h
      have hb15 := hk.rowAt hρ9 hr14
      refine j_aald F (pc := 51) (hk.s c_39) (by decide) hg hr14 (by decide +kernel) ?_
      obtain ⟨r16, μ17, hc19, h⟩ := z_b2_some h
      refine j_callVi F (pc := 52) (idx := 135) (As := [.int (μ8.1 37 x2.toNatClampNeg), .ref r13]) (st := [.int (μ8.1 46 x2.toNatClampNeg), .int (x2 + (1 : Int32)), .ref 46]) (t_X2_payFund (G := E.1) hρ9 hk hb15 hc19) q_X2_payFund v_X2_payFund m_734 (hk.s c_28) rfl rfl (by decide) (Nat.le_of_ble_eq_true rfl) rfl (by decide +kernel) (fun s22 ν20 hq21 hp => ?_)
      obtain ⟨rfl, rfl⟩ := hp
      have hρ18 : μ17.2.2 = ρ := hq21.trans hρ9
      refine j_iadd F (pc := 55) (by decide +kernel) ?_
      obtain ⟨hg, h⟩ := z_ifs h
      refine j_iast F (pc := 56) (hk.s c_46) hg (by decide +kernel) ?_
      obtain ⟨μ23, e25, h⟩ := z_st_some h
      rw [← e25]
      have hρ24 : μ23.2.2 = ρ := by rw [e25]; exact hρ18
      refine j_iinc F (pc := 57) (i := 2) (n := 1) (v := 1) (L' := [some (.ref 28), none, some (.int (x2 + (1 : Int32)))]) (by decide +kernel) rfl (by decide +kernel) (by decide) rfl rfl ?_
      refine j_goto F (pc := 60) (off := -58) (tgt := 2) (by decide +kernel) (by decide) ?_
      exact ih _ _ hρ24 h
set_option maxHeartbeats 4000000 in
set_option maxRecDepth 100000 in
theorem t_X2_payAllFrom {G : z_Gl} {ρ : Nat → Nat → Option Nat} {μ : z_M} {μr : z_M} {x1 : Int32} (hρ : μ.2.2 = ρ) (hk : z_ok (z_sh G) ρ) (h : f_X2_payAllFrom x1 μ = some μr) : z_Cv G yX2_payAllFrom cX2_payAllFrom 3 none 2 [.ref 28, .int x1] μ (fun μ1 => μr = μ1) := by
  unfold z_Cv
  refine z_intro (by decide +kernel) (Nat.le_of_ble_eq_true rfl) (fun E hE F Rt => ?_)
  subst hE
  have F : z_F E RX2 cX2_payAllFrom 3 2 := F
  rw [hρ] at Rt
  unfold f_X2_payAllFrom at h
  show z_J E 3 0 [some (.ref 28), some (.int x1), none] [] μ
  refine j_iload_n F (pc := 0) (q := 1) (by decide +kernel) rfl ?_
  refine j_istore_n F (pc := 1) (q := 2) (L' := [some (.ref 28), some (.int x1), some (.int x1)]) (by decide +kernel) (by decide) rfl rfl ?_
  refine j_mk F [true, false, true] (L' := [some (.ref 28), none, some (.int x1)]) rfl ?_
  refine u_X2_payAllFrom_2 F Rt hk  z_N _ _ hρ h
