/-! functions and contracts, written by wip/whole/dec.py -/
/-- LastLent.back -/
def f_X4_back (x1 : Int32) (x2 : Int32) (x3 : Int32) (x4 : Int32) (x5 : Int32) (μ : z_M) : Option (Int32 × z_M) :=
  (z_b2 (f_X4_isLand (x1) μ) fun r1 μ2 => (if r1 = 0 then (some ((-1001 : Int32), μ2)) else (z_b2 (f_X4_isCargo (x4) μ2) fun r8 μ9 => (if r8 = 0 then (some ((-1001 : Int32), μ9)) else (z_b2 (f_X4_isDay (x2) μ9) fun r15 μ16 => (if r15 = 0 then (some ((-1002 : Int32), μ16)) else (z_b2 (f_X4_isWay (x3) μ16) fun r22 μ23 => (if r22 = 0 then (some ((-1002 : Int32), μ23)) else (if x5 < 0 then (some ((-1002 : Int32), μ23)) else (if x5 ≤ (1 : Int32) then (if z_in x1 4 then ((μ23.2.2 1 x1.toNatClampNeg).bind fun r29 => (z_b1 (f_X2_run (r29) (4) (x2) (x3) μ23) fun μ33 => (z_b1 (f_X2_giveBack  μ33) fun μ39 => (if (¬ (x5 = 0) → z_in x4 3) ∧ ((x5 = 0) → z_in x4 3) then (some ((if x5 = 0 then (μ39.1 47 x4.toNatClampNeg) else (μ39.1 48 x4.toNatClampNeg)), μ39)) else none)))) else none) else (some ((-1002 : Int32), μ23))))))))))))
set_option maxHeartbeats 4000000 in
set_option maxRecDepth 100000 in
theorem t_X4_back {G : z_Gl} {ρ : Nat → Nat → Option Nat} {μ : z_M} {r : Int32} {μr : z_M} {x1 : Int32} {x2 : Int32} {x3 : Int32} {x4 : Int32} {x5 : Int32} (hρ : μ.2.2 = ρ) (hk : z_ok (z_sh G) ρ) (h : f_X4_back x1 x2 x3 x4 x5 μ = some (r, μr)) : z_Ci G yX4_back cX4_back 6 (some .int) 5 [.ref 0, .int x1, .int x2, .int x3, .int x4, .int x5] μ (fun r1 μ1 => r = r1 ∧ μr = μ1) := by
  unfold z_Ci
  refine z_intro (by decide +kernel) (Nat.le_of_ble_eq_true rfl) (fun E hE F Rt => ?_)
  subst hE
  have F : z_F E RX4 cX4_back 6 5 := F
  rw [hρ] at Rt
  unfold f_X4_back at h
  show z_J E 6 0 [some (.ref 0), some (.int x1), some (.int x2), some (.int x3), some (.int x4), some (.int x5)] [] μ
  refine j_iload_n F (pc := 0) (q := 1) (by decide +kernel) rfl ?_
  obtain ⟨r1, μ2, hc4, h⟩ := z_b2_some h
  refine j_callSi F (pc := 1) (idx := 67) (As := [.int x1]) (st := []) (t_X4_isLand (G := E.1) hρ  hc4) q_X4_isLand m_387 m_386 rfl (by decide) (Nat.le_of_ble_eq_true rfl) rfl (by decide +kernel) (fun s7 ν5 hq6 hp => ?_)
  obtain ⟨rfl, rfl⟩ := hp
  have hρ3 : μ2.2.2 = ρ := hq6.trans hρ
  refine j_if_eq F (pc := 4) (off := 11) (tgt := 15) (by decide +kernel) (by decide) (fun c => ?_) (fun c => ?_)
  · rw [if_pos c] at h
    refine j_sipush F (pc := 15) (n := -1001) (v := -1001) (by decide +kernel) (by decide +kernel) ?_
    exact j_iret (st := []) F Rt rfl (by decide +kernel) ⟨hρ3, _, rfl, (congrArg Prod.fst (Option.some.inj h)).symm, (congrArg Prod.snd (Option.some.inj h)).symm⟩
  · rw [if_neg c] at h
    refine j_iload F (pc := 7) (i := 4) (by decide +kernel) rfl ?_
    obtain ⟨r8, μ9, hc11, h⟩ := z_b2_some h
    refine j_callSi F (pc := 9) (idx := 160) (As := [.int x4]) (st := []) (t_X4_isCargo (G := E.1) hρ3  hc11) q_X4_isCargo m_621 m_620 rfl (by decide) (Nat.le_of_ble_eq_true rfl) rfl (by decide +kernel) (fun s14 ν12 hq13 hp => ?_)
    obtain ⟨rfl, rfl⟩ := hp
    have hρ10 : μ9.2.2 = ρ := hq13.trans hρ3
    refine j_if_ne F (pc := 12) (off := 7) (tgt := 19) (by decide +kernel) (by decide) (fun c => ?_) (fun c => ?_)
    · rw [if_neg c] at h
      refine j_iload_n F (pc := 19) (q := 2) (by decide +kernel) rfl ?_
      obtain ⟨r15, μ16, hc18, h⟩ := z_b2_some h
      refine j_callSi F (pc := 20) (idx := 131) (As := [.int x2]) (st := []) (t_X4_isDay (G := E.1) hρ10  hc18) q_X4_isDay m_580 m_579 rfl (by decide) (Nat.le_of_ble_eq_true rfl) rfl (by decide +kernel) (fun s21 ν19 hq20 hp => ?_)
      obtain ⟨rfl, rfl⟩ := hp
      have hρ17 : μ16.2.2 = ρ := hq20.trans hρ10
      refine j_if_eq F (pc := 23) (off := 21) (tgt := 44) (by decide +kernel) (by decide) (fun c => ?_) (fun c => ?_)
      · rw [if_pos c] at h
        refine j_sipush F (pc := 44) (n := -1002) (v := -1002) (by decide +kernel) (by decide +kernel) ?_
        exact j_iret (st := []) F Rt rfl (by decide +kernel) ⟨hρ17, _, rfl, (congrArg Prod.fst (Option.some.inj h)).symm, (congrArg Prod.snd (Option.some.inj h)).symm⟩
      · rw [if_neg c] at h
        refine j_iload_n F (pc := 26) (q := 3) (by decide +kernel) rfl ?_
        obtain ⟨r22, μ23, hc25, h⟩ := z_b2_some h
        refine j_callSi F (pc := 27) (idx := 221) (As := [.int x3]) (st := []) (t_X4_isWay (G := E.1) hρ17  hc25) q_X4_isWay m_715 m_714 rfl (by decide) (Nat.le_of_ble_eq_true rfl) rfl (by decide +kernel) (fun s28 ν26 hq27 hp => ?_)
        obtain ⟨rfl, rfl⟩ := hp
        have hρ24 : μ23.2.2 = ρ := hq27.trans hρ17
        refine j_if_eq F (pc := 30) (off := 14) (tgt := 44) (by decide +kernel) (by decide) (fun c => ?_) (fun c => ?_)
        · rw [if_pos c] at h
          refine j_sipush F (pc := 44) (n := -1002) (v := -1002) (by decide +kernel) (by decide +kernel) ?_
          exact j_iret (st := []) F Rt rfl (by decide +kernel) ⟨hρ24, _, rfl, (congrArg Prod.fst (Option.some.inj h)).symm, (congrArg Prod.snd (Option.some.inj h)).symm⟩
        · rw [if_neg c] at h
          refine j_iload F (pc := 33) (i := 5) (by decide +kernel) rfl ?_
          refine j_if_lt F (pc := 35) (off := 9) (tgt := 44) (by decide +kernel) (by decide) (fun c => ?_) (fun c => ?_)
          · rw [if_pos c] at h
            refine j_sipush F (pc := 44) (n := -1002) (v := -1002) (by decide +kernel) (by decide +kernel) ?_
            exact j_iret (st := []) F Rt rfl (by decide +kernel) ⟨hρ24, _, rfl, (congrArg Prod.fst (Option.some.inj h)).symm, (congrArg Prod.snd (Option.some.inj h)).symm⟩
          · rw [if_neg c] at h
            refine j_iload F (pc := 38) (i := 5) (by decide +kernel) rfl ?_
            refine j_iconst F (pc := 40) (n := 1) (v := 1) (by decide +kernel) (by decide +kernel) ?_
            refine j_icmp_le F (pc := 41) (off := 7) (tgt := 48) (by decide +kernel) (by decide) (fun c => ?_) (fun c => ?_)
            · rw [if_pos c] at h
              refine j_aload_n F (pc := 48) (q := 0) (by decide +kernel) rfl ?_
              refine j_getR F (pc := 49) (hk.r hρ24 r_0_6) fl_X4_43 (hk.s c_0) rfl (by decide +kernel) ?_
              refine j_aload_n F (pc := 52) (q := 0) (by decide +kernel) rfl ?_
              refine j_getR F (pc := 53) (hk.r hρ24 r_0_0) fl_X4_11 (hk.s c_0) rfl (by decide +kernel) ?_
              refine j_iload_n F (pc := 56) (q := 1) (by decide +kernel) rfl ?_
              obtain ⟨hg, h⟩ := z_ifs h
              obtain ⟨r29, hr30, h⟩ := Option.bind_eq_some_iff.mp h
              have hb31 := hk.lawsAt hρ24 hr30
              refine j_aald F (pc := 57) (hk.s c_1) (by decide) hg hr30 (by decide +kernel) ?_
              refine j_aload_n F (pc := 58) (q := 0) (by decide +kernel) rfl ?_
              refine j_getR F (pc := 59) (hk.r hρ24 r_0_2) fl_X4_25 (hk.s c_0) rfl (by decide +kernel) ?_
              refine j_iload_n F (pc := 62) (q := 2) (by decide +kernel) rfl ?_
              refine j_iload_n F (pc := 63) (q := 3) (by decide +kernel) rfl ?_
              obtain ⟨μ33, hc35, h⟩ := z_b1_some h
              refine j_callVv F (pc := 64) (idx := 224) (As := [.ref r29, .ref 4, .int x2, .int x3]) (st := []) (t_X2_run (G := E.1) hρ24 hk hb31 (hk.shipB (by decide : 4 ∈ z_SHIPS)) hc35) q_X2_run v_X2_run m_717 (hk.s c_28) rfl rfl (by decide) (Nat.le_of_ble_eq_true rfl) rfl (by decide +kernel) (fun ν36 hq37 hp => ?_)
              subst hp
              have hρ34 : μ33.2.2 = ρ := hq37.trans hρ24
              refine j_aload_n F (pc := 67) (q := 0) (by decide +kernel) rfl ?_
              refine j_getR F (pc := 68) (hk.r hρ34 r_0_6) fl_X4_43 (hk.s c_0) rfl (by decide +kernel) ?_
              obtain ⟨μ39, hc41, h⟩ := z_b1_some h
              refine j_callVv F (pc := 71) (idx := 244) (As := []) (st := []) (t_X2_giveBack (G := E.1) hρ34 hk hc41) q_X2_giveBack v_X2_giveBack m_790 (hk.s c_28) rfl rfl (by decide) (Nat.le_of_ble_eq_true rfl) rfl (by decide +kernel) (fun ν42 hq43 hp => ?_)
              subst hp
              have hρ40 : μ39.2.2 = ρ := hq43.trans hρ34
              refine j_iload F (pc := 74) (i := 5) (by decide +kernel) rfl ?_
              obtain ⟨hg, h⟩ := z_ifs h
              suffices hj : z_J E 6 102 [some (.ref 0), some (.int x1), some (.int x2), some (.int x3), some (.int x4), some (.int x5)] (.int (if x5 = 0 then (μ39.1 47 x4.toNatClampNeg) else (μ39.1 48 x4.toNatClampNeg)) :: []) μ39 by
                refine j_if_ne F (pc := 76) (off := 16) (tgt := 92) (by decide +kernel) (by decide) (fun c0 => ?_) (fun c0 => ?_)
                · rw [if_neg c0] at hj
                  refine j_aload_n F (pc := 92) (q := 0) (by decide +kernel) rfl ?_
                  refine j_getR F (pc := 93) (hk.r hρ40 r_0_6) fl_X4_43 (hk.s c_0) rfl (by decide +kernel) ?_
                  refine j_getR F (pc := 96) (hk.r hρ40 r_28_15) fl_X4_250 (hk.s c_28) rfl (by decide +kernel) ?_
                  refine j_iload F (pc := 99) (i := 4) (by decide +kernel) rfl ?_
                  refine j_iald F (pc := 101) (hk.s c_48) (hg.1 c0) (by decide +kernel) ?_
                  exact hj
                · rw [if_pos c0] at hj
                  refine j_aload_n F (pc := 79) (q := 0) (by decide +kernel) rfl ?_
                  refine j_getR F (pc := 80) (hk.r hρ40 r_0_6) fl_X4_43 (hk.s c_0) rfl (by decide +kernel) ?_
                  refine j_getR F (pc := 83) (hk.r hρ40 r_28_14) fl_X4_247 (hk.s c_28) rfl (by decide +kernel) ?_
                  refine j_iload F (pc := 86) (i := 4) (by decide +kernel) rfl ?_
                  refine j_iald F (pc := 88) (hk.s c_47) (hg.2 c0) (by decide +kernel) ?_
                  refine j_goto F (pc := 89) (off := 13) (tgt := 102) (by decide +kernel) (by decide) ?_
                  exact hj
              exact j_iret (st := []) F Rt rfl (by decide +kernel) ⟨hρ40, _, rfl, (congrArg Prod.fst (Option.some.inj h)).symm, (congrArg Prod.snd (Option.some.inj h)).symm⟩
            · rw [if_neg c] at h
              refine j_sipush F (pc := 44) (n := -1002) (v := -1002) (by decide +kernel) (by decide +kernel) ?_
              exact j_iret (st := []) F Rt rfl (by decide +kernel) ⟨hρ24, _, rfl, (congrArg Prod.fst (Option.some.inj h)).symm, (congrArg Prod.snd (Option.some.inj h)).symm⟩
    · rw [if_pos c] at h
      refine j_sipush F (pc := 15) (n := -1001) (v := -1001) (by decide +kernel) (by decide +kernel) ?_
      exact j_iret (st := []) F Rt rfl (by decide +kernel) ⟨hρ10, _, rfl, (congrArg Prod.fst (Option.some.inj h)).symm, (congrArg Prod.snd (Option.some.inj h)).symm⟩
/-- LastLent$Ship.become -/
def f_X3_become (o : Nat) (o1 : Nat) (μ : z_M) : Option z_M :=
  (z_st (z_si μ o 0 (μ.1 o1 0)) fun μ1 => (z_st (z_si μ1 o 1 (μ1.1 o1 1)) fun μ4 => (z_st (z_si μ4 o 2 (μ4.1 o1 2)) fun μ7 => (z_b1 (f_X4_copyRow ((o1 + 1)) (6) ((o + 1)) (6) μ7) fun μ11 => (z_b1 (f_X4_copyRow ((o1 + 2)) (6) ((o + 2)) (6) μ11) fun μ17 => (z_b1 (f_X4_copyRow ((o1 + 3)) (14) ((o + 3)) (14) μ17) fun μ23 => (z_b1 (f_X4_copyRow ((o1 + 4)) (14) ((o + 4)) (14) μ23) fun μ29 => (z_b1 (f_X4_copyRow ((o1 + 5)) (14) ((o + 5)) (14) μ29) fun μ35 => (z_b1 (f_X4_copyRow ((o1 + 6)) (14) ((o + 6)) (14) μ35) fun μ41 => (z_b1 (f_X4_copyRow ((o1 + 7)) (14) ((o + 7)) (14) μ41) fun μ47 => (z_b1 (f_X4_copyRow ((o1 + 8)) (14) ((o + 8)) (14) μ47) fun μ53 => (z_b1 (f_X4_copyRow ((o1 + 9)) (5) ((o + 9)) (5) μ53) fun μ59 => (z_b1 (f_X4_copyRow ((o1 + 10)) (3) ((o + 10)) (3) μ59) fun μ65 => (some μ65))))))))))))))
set_option maxHeartbeats 4000000 in
set_option maxRecDepth 100000 in
theorem t_X3_become {G : z_Gl} {ρ : Nat → Nat → Option Nat} {μ : z_M} {μr : z_M} {o : Nat} {o1 : Nat} (hρ : μ.2.2 = ρ) (hb : z_blk z_shipS z_shipR (z_sh G) ρ o) (hb1 : z_blk z_shipS z_shipR (z_sh G) ρ o1) (h : f_X3_become o o1 μ = some μr) : z_Cv G yX3_become cX3_become 2 none 2 [.ref o, .ref o1] μ (fun μ1 => μr = μ1) := by
  unfold z_Cv
  refine z_intro (by decide +kernel) (Nat.le_of_ble_eq_true rfl) (fun E hE F Rt => ?_)
  subst hE
  have F : z_F E RX3 cX3_become 2 2 := F
  rw [hρ] at Rt
  unfold f_X3_become at h
  show z_J E 2 0 [some (.ref o), some (.ref o1)] [] μ
  refine j_aload_n F (pc := 0) (q := 0) (by decide +kernel) rfl ?_
  refine j_aload_n F (pc := 1) (q := 1) (by decide +kernel) rfl ?_
  refine j_getI F (pc := 2) fl_X3_42 (hb1.1 0 _ rfl) rfl (by decide +kernel) ?_
  refine j_putI F (pc := 5) fl_X3_42 fp_X3_0 (hb.1 0 _ rfl) rfl (by decide +kernel) ?_
  obtain ⟨μ1, e3, h⟩ := z_st_some h
  rw [← e3]
  have hρ2 : μ1.2.2 = ρ := by rw [e3]; exact hρ
  refine j_aload_n F (pc := 8) (q := 0) (by decide +kernel) rfl ?_
  refine j_aload_n F (pc := 9) (q := 1) (by decide +kernel) rfl ?_
  refine j_getI F (pc := 10) fl_X3_46 (hb1.1 0 _ rfl) rfl (by decide +kernel) ?_
  refine j_putI F (pc := 13) fl_X3_46 fp_X3_1 (hb.1 0 _ rfl) rfl (by decide +kernel) ?_
  obtain ⟨μ4, e6, h⟩ := z_st_some h
  rw [← e6]
  have hρ5 : μ4.2.2 = ρ := by rw [e6]; exact hρ2
  refine j_aload_n F (pc := 16) (q := 0) (by decide +kernel) rfl ?_
  refine j_aload_n F (pc := 17) (q := 1) (by decide +kernel) rfl ?_
  refine j_getI F (pc := 18) fl_X3_49 (hb1.1 0 _ rfl) rfl (by decide +kernel) ?_
  refine j_putI F (pc := 21) fl_X3_49 fp_X3_2 (hb.1 0 _ rfl) rfl (by decide +kernel) ?_
  obtain ⟨μ7, e9, h⟩ := z_st_some h
  rw [← e9]
  have hρ8 : μ7.2.2 = ρ := by rw [e9]; exact hρ5
  refine j_aload_n F (pc := 24) (q := 1) (by decide +kernel) rfl ?_
  refine j_getR F (pc := 25) (hb1.r hρ8 3 rfl) fl_X3_9 (hb1.1 0 _ rfl) rfl (by decide +kernel) ?_
  refine j_aload_n F (pc := 28) (q := 0) (by decide +kernel) rfl ?_
  refine j_getR F (pc := 29) (hb.r hρ8 3 rfl) fl_X3_9 (hb.1 0 _ rfl) rfl (by decide +kernel) ?_
  obtain ⟨μ11, hc13, h⟩ := z_b1_some h
  refine j_callNv F (pc := 32) (idx := 52) (As := [.ref (o1 + 1), .ref (o + 1)]) (st := []) (t_X4_copyRow (G := E.1) hρ8 (hb1.1 1 _ rfl) (hb.1 1 _ rfl) hc13) q_X4_copyRow m_723 (by decide +kernel) rfl (by decide) (Nat.le_of_ble_eq_true rfl) rfl (by decide +kernel) (fun ν14 hq15 hp => ?_)
  subst hp
  have hρ12 : μ11.2.2 = ρ := hq15.trans hρ8
  refine j_aload_n F (pc := 35) (q := 1) (by decide +kernel) rfl ?_
  refine j_getR F (pc := 36) (hb1.r hρ12 4 rfl) fl_X3_15 (hb1.1 0 _ rfl) rfl (by decide +kernel) ?_
  refine j_aload_n F (pc := 39) (q := 0) (by decide +kernel) rfl ?_
  refine j_getR F (pc := 40) (hb.r hρ12 4 rfl) fl_X3_15 (hb.1 0 _ rfl) rfl (by decide +kernel) ?_
  obtain ⟨μ17, hc19, h⟩ := z_b1_some h
  refine j_callNv F (pc := 43) (idx := 52) (As := [.ref (o1 + 2), .ref (o + 2)]) (st := []) (t_X4_copyRow (G := E.1) hρ12 (hb1.1 2 _ rfl) (hb.1 2 _ rfl) hc19) q_X4_copyRow m_723 (by decide +kernel) rfl (by decide) (Nat.le_of_ble_eq_true rfl) rfl (by decide +kernel) (fun ν20 hq21 hp => ?_)
  subst hp
  have hρ18 : μ17.2.2 = ρ := hq21.trans hρ12
  refine j_aload_n F (pc := 46) (q := 1) (by decide +kernel) rfl ?_
  refine j_getR F (pc := 47) (hb1.r hρ18 5 rfl) fl_X3_18 (hb1.1 0 _ rfl) rfl (by decide +kernel) ?_
  refine j_aload_n F (pc := 50) (q := 0) (by decide +kernel) rfl ?_
  refine j_getR F (pc := 51) (hb.r hρ18 5 rfl) fl_X3_18 (hb.1 0 _ rfl) rfl (by decide +kernel) ?_
  obtain ⟨μ23, hc25, h⟩ := z_b1_some h
  refine j_callNv F (pc := 54) (idx := 52) (As := [.ref (o1 + 3), .ref (o + 3)]) (st := []) (t_X4_copyRow (G := E.1) hρ18 (hb1.1 3 _ rfl) (hb.1 3 _ rfl) hc25) q_X4_copyRow m_723 (by decide +kernel) rfl (by decide) (Nat.le_of_ble_eq_true rfl) rfl (by decide +kernel) (fun ν26 hq27 hp => ?_)
  subst hp
  have hρ24 : μ23.2.2 = ρ := hq27.trans hρ18
  refine j_aload_n F (pc := 57) (q := 1) (by decide +kernel) rfl ?_
  refine j_getR F (pc := 58) (hb1.r hρ24 6 rfl) fl_X3_21 (hb1.1 0 _ rfl) rfl (by decide +kernel) ?_
  refine j_aload_n F (pc := 61) (q := 0) (by decide +kernel) rfl ?_
  refine j_getR F (pc := 62) (hb.r hρ24 6 rfl) fl_X3_21 (hb.1 0 _ rfl) rfl (by decide +kernel) ?_
  obtain ⟨μ29, hc31, h⟩ := z_b1_some h
  refine j_callNv F (pc := 65) (idx := 52) (As := [.ref (o1 + 4), .ref (o + 4)]) (st := []) (t_X4_copyRow (G := E.1) hρ24 (hb1.1 4 _ rfl) (hb.1 4 _ rfl) hc31) q_X4_copyRow m_723 (by decide +kernel) rfl (by decide) (Nat.le_of_ble_eq_true rfl) rfl (by decide +kernel) (fun ν32 hq33 hp => ?_)
  subst hp
  have hρ30 : μ29.2.2 = ρ := hq33.trans hρ24
  refine j_aload_n F (pc := 68) (q := 1) (by decide +kernel) rfl ?_
  refine j_getR F (pc := 69) (hb1.r hρ30 7 rfl) fl_X3_24 (hb1.1 0 _ rfl) rfl (by decide +kernel) ?_
  refine j_aload_n F (pc := 72) (q := 0) (by decide +kernel) rfl ?_
  refine j_getR F (pc := 73) (hb.r hρ30 7 rfl) fl_X3_24 (hb.1 0 _ rfl) rfl (by decide +kernel) ?_
  obtain ⟨μ35, hc37, h⟩ := z_b1_some h
  refine j_callNv F (pc := 76) (idx := 52) (As := [.ref (o1 + 5), .ref (o + 5)]) (st := []) (t_X4_copyRow (G := E.1) hρ30 (hb1.1 5 _ rfl) (hb.1 5 _ rfl) hc37) q_X4_copyRow m_723 (by decide +kernel) rfl (by decide) (Nat.le_of_ble_eq_true rfl) rfl (by decide +kernel) (fun ν38 hq39 hp => ?_)
  subst hp
  have hρ36 : μ35.2.2 = ρ := hq39.trans hρ30
  refine j_aload_n F (pc := 79) (q := 1) (by decide +kernel) rfl ?_
  refine j_getR F (pc := 80) (hb1.r hρ36 8 rfl) fl_X3_27 (hb1.1 0 _ rfl) rfl (by decide +kernel) ?_
  refine j_aload_n F (pc := 83) (q := 0) (by decide +kernel) rfl ?_
  refine j_getR F (pc := 84) (hb.r hρ36 8 rfl) fl_X3_27 (hb.1 0 _ rfl) rfl (by decide +kernel) ?_
  obtain ⟨μ41, hc43, h⟩ := z_b1_some h
  refine j_callNv F (pc := 87) (idx := 52) (As := [.ref (o1 + 6), .ref (o + 6)]) (st := []) (t_X4_copyRow (G := E.1) hρ36 (hb1.1 6 _ rfl) (hb.1 6 _ rfl) hc43) q_X4_copyRow m_723 (by decide +kernel) rfl (by decide) (Nat.le_of_ble_eq_true rfl) rfl (by decide +kernel) (fun ν44 hq45 hp => ?_)
  subst hp
  have hρ42 : μ41.2.2 = ρ := hq45.trans hρ36
  refine j_aload_n F (pc := 90) (q := 1) (by decide +kernel) rfl ?_
  refine j_getR F (pc := 91) (hb1.r hρ42 9 rfl) fl_X3_30 (hb1.1 0 _ rfl) rfl (by decide +kernel) ?_
  refine j_aload_n F (pc := 94) (q := 0) (by decide +kernel) rfl ?_
  refine j_getR F (pc := 95) (hb.r hρ42 9 rfl) fl_X3_30 (hb.1 0 _ rfl) rfl (by decide +kernel) ?_
  obtain ⟨μ47, hc49, h⟩ := z_b1_some h
  refine j_callNv F (pc := 98) (idx := 52) (As := [.ref (o1 + 7), .ref (o + 7)]) (st := []) (t_X4_copyRow (G := E.1) hρ42 (hb1.1 7 _ rfl) (hb.1 7 _ rfl) hc49) q_X4_copyRow m_723 (by decide +kernel) rfl (by decide) (Nat.le_of_ble_eq_true rfl) rfl (by decide +kernel) (fun ν50 hq51 hp => ?_)
  subst hp
  have hρ48 : μ47.2.2 = ρ := hq51.trans hρ42
  refine j_aload_n F (pc := 101) (q := 1) (by decide +kernel) rfl ?_
  refine j_getR F (pc := 102) (hb1.r hρ48 10 rfl) fl_X3_33 (hb1.1 0 _ rfl) rfl (by decide +kernel) ?_
  refine j_aload_n F (pc := 105) (q := 0) (by decide +kernel) rfl ?_
  refine j_getR F (pc := 106) (hb.r hρ48 10 rfl) fl_X3_33 (hb.1 0 _ rfl) rfl (by decide +kernel) ?_
  obtain ⟨μ53, hc55, h⟩ := z_b1_some h
  refine j_callNv F (pc := 109) (idx := 52) (As := [.ref (o1 + 8), .ref (o + 8)]) (st := []) (t_X4_copyRow (G := E.1) hρ48 (hb1.1 8 _ rfl) (hb.1 8 _ rfl) hc55) q_X4_copyRow m_723 (by decide +kernel) rfl (by decide) (Nat.le_of_ble_eq_true rfl) rfl (by decide +kernel) (fun ν56 hq57 hp => ?_)
  subst hp
  have hρ54 : μ53.2.2 = ρ := hq57.trans hρ48
  refine j_aload_n F (pc := 112) (q := 1) (by decide +kernel) rfl ?_
  refine j_getR F (pc := 113) (hb1.r hρ54 11 rfl) fl_X3_36 (hb1.1 0 _ rfl) rfl (by decide +kernel) ?_
  refine j_aload_n F (pc := 116) (q := 0) (by decide +kernel) rfl ?_
  refine j_getR F (pc := 117) (hb.r hρ54 11 rfl) fl_X3_36 (hb.1 0 _ rfl) rfl (by decide +kernel) ?_
  obtain ⟨μ59, hc61, h⟩ := z_b1_some h
  refine j_callNv F (pc := 120) (idx := 52) (As := [.ref (o1 + 9), .ref (o + 9)]) (st := []) (t_X4_copyRow (G := E.1) hρ54 (hb1.1 9 _ rfl) (hb.1 9 _ rfl) hc61) q_X4_copyRow m_723 (by decide +kernel) rfl (by decide) (Nat.le_of_ble_eq_true rfl) rfl (by decide +kernel) (fun ν62 hq63 hp => ?_)
  subst hp
  have hρ60 : μ59.2.2 = ρ := hq63.trans hρ54
  refine j_aload_n F (pc := 123) (q := 1) (by decide +kernel) rfl ?_
  refine j_getR F (pc := 124) (hb1.r hρ60 12 rfl) fl_X3_39 (hb1.1 0 _ rfl) rfl (by decide +kernel) ?_
  refine j_aload_n F (pc := 127) (q := 0) (by decide +kernel) rfl ?_
  refine j_getR F (pc := 128) (hb.r hρ60 12 rfl) fl_X3_39 (hb.1 0 _ rfl) rfl (by decide +kernel) ?_
  obtain ⟨μ65, hc67, h⟩ := z_b1_some h
  refine j_callNv F (pc := 131) (idx := 52) (As := [.ref (o1 + 10), .ref (o + 10)]) (st := []) (t_X4_copyRow (G := E.1) hρ60 (hb1.1 10 _ rfl) (hb.1 10 _ rfl) hc67) q_X4_copyRow m_723 (by decide +kernel) rfl (by decide) (Nat.le_of_ble_eq_true rfl) rfl (by decide +kernel) (fun ν68 hq69 hp => ?_)
  subst hp
  have hρ66 : μ65.2.2 = ρ := hq69.trans hρ60
  exact j_vret (st := []) F Rt (by decide +kernel) ⟨hρ66, rfl, (Option.some.inj h).symm⟩
/-- LastLent.wake -/
def f_X4_wake (x1 : Int32) (x2 : Int32) (x3 : Int32) (x4 : Int32) (x5 : Int32) (μ : z_M) : Option (Int32 × z_M) :=
  (z_b2 (f_X4_isLand (x1) μ) fun r1 μ2 => (if r1 = 0 then (some ((-1001 : Int32), μ2)) else (z_b2 (f_X4_isClaim (x4) μ2) fun r8 μ9 => (if r8 = 0 then (some ((-1001 : Int32), μ9)) else (z_b2 (f_X4_isDay (x2) μ9) fun r15 μ16 => (if r15 = 0 then (some ((-1002 : Int32), μ16)) else (z_b2 (f_X4_isWay (x3) μ16) fun r22 μ23 => (if r22 = 0 then (some ((-1002 : Int32), μ23)) else (z_b2 (f_X4_isDay (x5) μ23) fun r29 μ30 => (if r29 = 0 then (some ((-1002 : Int32), μ30)) else (z_b1 (f_X3_become (15) (4) μ30) fun μ37 => (if z_in x4 14 then (z_st (z_si μ37 (15 + 8) x4.toNatClampNeg x5) fun μ42 => (if z_in x1 4 then ((μ42.2.2 1 x1.toNatClampNeg).bind fun r45 => (z_b1 (f_X2_run (r45) (15) (x2) (x3) μ42) fun μ49 => (z_b2 (f_X2_paidTo (x4) μ49) fun r54 μ55 => (some (r54, μ55))))) else none)) else none))))))))))))
set_option maxHeartbeats 4000000 in
set_option maxRecDepth 100000 in
theorem t_X4_wake {G : z_Gl} {ρ : Nat → Nat → Option Nat} {μ : z_M} {r : Int32} {μr : z_M} {x1 : Int32} {x2 : Int32} {x3 : Int32} {x4 : Int32} {x5 : Int32} (hρ : μ.2.2 = ρ) (hk : z_ok (z_sh G) ρ) (h : f_X4_wake x1 x2 x3 x4 x5 μ = some (r, μr)) : z_Ci G yX4_wake cX4_wake 6 (some .int) 5 [.ref 0, .int x1, .int x2, .int x3, .int x4, .int x5] μ (fun r1 μ1 => r = r1 ∧ μr = μ1) := by
  unfold z_Ci
  refine z_intro (by decide +kernel) (Nat.le_of_ble_eq_true rfl) (fun E hE F Rt => ?_)
  subst hE
  have F : z_F E RX4 cX4_wake 6 5 := F
  rw [hρ] at Rt
  unfold f_X4_wake at h
  show z_J E 6 0 [some (.ref 0), some (.int x1), some (.int x2), some (.int x3), some (.int x4), some (.int x5)] [] μ
  refine j_iload_n F (pc := 0) (q := 1) (by decide +kernel) rfl ?_
  obtain ⟨r1, μ2, hc4, h⟩ := z_b2_some h
  refine j_callSi F (pc := 1) (idx := 67) (As := [.int x1]) (st := []) (t_X4_isLand (G := E.1) hρ  hc4) q_X4_isLand m_387 m_386 rfl (by decide) (Nat.le_of_ble_eq_true rfl) rfl (by decide +kernel) (fun s7 ν5 hq6 hp => ?_)
  obtain ⟨rfl, rfl⟩ := hp
  have hρ3 : μ2.2.2 = ρ := hq6.trans hρ
  refine j_if_eq F (pc := 4) (off := 12) (tgt := 16) (by decide +kernel) (by decide) (fun c => ?_) (fun c => ?_)
  · rw [if_pos c] at h
    refine j_sipush F (pc := 16) (n := -1001) (v := -1001) (by decide +kernel) (by decide +kernel) ?_
    exact j_iret (st := []) F Rt rfl (by decide +kernel) ⟨hρ3, _, rfl, (congrArg Prod.fst (Option.some.inj h)).symm, (congrArg Prod.snd (Option.some.inj h)).symm⟩
  · rw [if_neg c] at h
    refine j_aload_n F (pc := 7) (q := 0) (by decide +kernel) rfl ?_
    refine j_iload F (pc := 8) (i := 4) (by decide +kernel) rfl ?_
    obtain ⟨r8, μ9, hc11, h⟩ := z_b2_some h
    refine j_callVi F (pc := 10) (idx := 148) (As := [.int x4]) (st := []) (t_X4_isClaim (G := E.1) hρ3 hk hc11) q_X4_isClaim v_X4_isClaim m_605 (hk.s c_0) rfl rfl (by decide) (Nat.le_of_ble_eq_true rfl) rfl (by decide +kernel) (fun s14 ν12 hq13 hp => ?_)
    obtain ⟨rfl, rfl⟩ := hp
    have hρ10 : μ9.2.2 = ρ := hq13.trans hρ3
    refine j_if_ne F (pc := 13) (off := 7) (tgt := 20) (by decide +kernel) (by decide) (fun c => ?_) (fun c => ?_)
    · rw [if_neg c] at h
      refine j_iload_n F (pc := 20) (q := 2) (by decide +kernel) rfl ?_
      obtain ⟨r15, μ16, hc18, h⟩ := z_b2_some h
      refine j_callSi F (pc := 21) (idx := 131) (As := [.int x2]) (st := []) (t_X4_isDay (G := E.1) hρ10  hc18) q_X4_isDay m_580 m_579 rfl (by decide) (Nat.le_of_ble_eq_true rfl) rfl (by decide +kernel) (fun s21 ν19 hq20 hp => ?_)
      obtain ⟨rfl, rfl⟩ := hp
      have hρ17 : μ16.2.2 = ρ := hq20.trans hρ10
      refine j_if_eq F (pc := 24) (off := 18) (tgt := 42) (by decide +kernel) (by decide) (fun c => ?_) (fun c => ?_)
      · rw [if_pos c] at h
        refine j_sipush F (pc := 42) (n := -1002) (v := -1002) (by decide +kernel) (by decide +kernel) ?_
        exact j_iret (st := []) F Rt rfl (by decide +kernel) ⟨hρ17, _, rfl, (congrArg Prod.fst (Option.some.inj h)).symm, (congrArg Prod.snd (Option.some.inj h)).symm⟩
      · rw [if_neg c] at h
        refine j_iload_n F (pc := 27) (q := 3) (by decide +kernel) rfl ?_
        obtain ⟨r22, μ23, hc25, h⟩ := z_b2_some h
        refine j_callSi F (pc := 28) (idx := 221) (As := [.int x3]) (st := []) (t_X4_isWay (G := E.1) hρ17  hc25) q_X4_isWay m_715 m_714 rfl (by decide) (Nat.le_of_ble_eq_true rfl) rfl (by decide +kernel) (fun s28 ν26 hq27 hp => ?_)
        obtain ⟨rfl, rfl⟩ := hp
        have hρ24 : μ23.2.2 = ρ := hq27.trans hρ17
        refine j_if_eq F (pc := 31) (off := 11) (tgt := 42) (by decide +kernel) (by decide) (fun c => ?_) (fun c => ?_)
        · rw [if_pos c] at h
          refine j_sipush F (pc := 42) (n := -1002) (v := -1002) (by decide +kernel) (by decide +kernel) ?_
          exact j_iret (st := []) F Rt rfl (by decide +kernel) ⟨hρ24, _, rfl, (congrArg Prod.fst (Option.some.inj h)).symm, (congrArg Prod.snd (Option.some.inj h)).symm⟩
        · rw [if_neg c] at h
          refine j_iload F (pc := 34) (i := 5) (by decide +kernel) rfl ?_
          obtain ⟨r29, μ30, hc32, h⟩ := z_b2_some h
          refine j_callSi F (pc := 36) (idx := 131) (As := [.int x5]) (st := []) (t_X4_isDay (G := E.1) hρ24  hc32) q_X4_isDay m_580 m_579 rfl (by decide) (Nat.le_of_ble_eq_true rfl) rfl (by decide +kernel) (fun s35 ν33 hq34 hp => ?_)
          obtain ⟨rfl, rfl⟩ := hp
          have hρ31 : μ30.2.2 = ρ := hq34.trans hρ24
          refine j_if_ne F (pc := 39) (off := 7) (tgt := 46) (by decide +kernel) (by decide) (fun c => ?_) (fun c => ?_)
          · rw [if_neg c] at h
            refine j_aload_n F (pc := 46) (q := 0) (by decide +kernel) rfl ?_
            refine j_getR F (pc := 47) (hk.r hρ31 r_0_3) fl_X4_29 (hk.s c_0) rfl (by decide +kernel) ?_
            refine j_aload_n F (pc := 50) (q := 0) (by decide +kernel) rfl ?_
            refine j_getR F (pc := 51) (hk.r hρ31 r_0_2) fl_X4_25 (hk.s c_0) rfl (by decide +kernel) ?_
            obtain ⟨μ37, hc39, h⟩ := z_b1_some h
            refine j_callVv F (pc := 54) (idx := 253) (As := [.ref 4]) (st := []) (t_X3_become (G := E.1) hρ31 (hk.shipB (by decide : 15 ∈ z_SHIPS)) (hk.shipB (by decide : 4 ∈ z_SHIPS)) hc39) q_X3_become v_X3_become m_802 ((hk.shipB (by decide : 15 ∈ z_SHIPS)).1 0 _ rfl) rfl rfl (by decide) (Nat.le_of_ble_eq_true rfl) rfl (by decide +kernel) (fun ν40 hq41 hp => ?_)
            subst hp
            have hρ38 : μ37.2.2 = ρ := hq41.trans hρ31
            refine j_aload_n F (pc := 57) (q := 0) (by decide +kernel) rfl ?_
            refine j_getR F (pc := 58) (hk.r hρ38 r_0_3) fl_X4_29 (hk.s c_0) rfl (by decide +kernel) ?_
            refine j_getR F (pc := 61) ((hk.shipB (by decide : 15 ∈ z_SHIPS)).r hρ38 10 rfl) fl_X4_151 ((hk.shipB (by decide : 15 ∈ z_SHIPS)).1 0 _ rfl) rfl (by decide +kernel) ?_
            refine j_iload F (pc := 64) (i := 4) (by decide +kernel) rfl ?_
            refine j_iload F (pc := 66) (i := 5) (by decide +kernel) rfl ?_
            obtain ⟨hg, h⟩ := z_ifs h
            refine j_iast F (pc := 68) ((hk.shipB (by decide : 15 ∈ z_SHIPS)).1 8 _ rfl) hg (by decide +kernel) ?_
            obtain ⟨μ42, e44, h⟩ := z_st_some h
            rw [← e44]
            have hρ43 : μ42.2.2 = ρ := by rw [e44]; exact hρ38
            refine j_aload_n F (pc := 69) (q := 0) (by decide +kernel) rfl ?_
            refine j_getR F (pc := 70) (hk.r hρ43 r_0_6) fl_X4_43 (hk.s c_0) rfl (by decide +kernel) ?_
            refine j_aload_n F (pc := 73) (q := 0) (by decide +kernel) rfl ?_
            refine j_getR F (pc := 74) (hk.r hρ43 r_0_0) fl_X4_11 (hk.s c_0) rfl (by decide +kernel) ?_
            refine j_iload_n F (pc := 77) (q := 1) (by decide +kernel) rfl ?_
            obtain ⟨hg, h⟩ := z_ifs h
            obtain ⟨r45, hr46, h⟩ := Option.bind_eq_some_iff.mp h
            have hb47 := hk.lawsAt hρ43 hr46
            refine j_aald F (pc := 78) (hk.s c_1) (by decide) hg hr46 (by decide +kernel) ?_
            refine j_aload_n F (pc := 79) (q := 0) (by decide +kernel) rfl ?_
            refine j_getR F (pc := 80) (hk.r hρ43 r_0_3) fl_X4_29 (hk.s c_0) rfl (by decide +kernel) ?_
            refine j_iload_n F (pc := 83) (q := 2) (by decide +kernel) rfl ?_
            refine j_iload_n F (pc := 84) (q := 3) (by decide +kernel) rfl ?_
            obtain ⟨μ49, hc51, h⟩ := z_b1_some h
            refine j_callVv F (pc := 85) (idx := 224) (As := [.ref r45, .ref 15, .int x2, .int x3]) (st := []) (t_X2_run (G := E.1) hρ43 hk hb47 (hk.shipB (by decide : 15 ∈ z_SHIPS)) hc51) q_X2_run v_X2_run m_717 (hk.s c_28) rfl rfl (by decide) (Nat.le_of_ble_eq_true rfl) rfl (by decide +kernel) (fun ν52 hq53 hp => ?_)
            subst hp
            have hρ50 : μ49.2.2 = ρ := hq53.trans hρ43
            refine j_aload_n F (pc := 88) (q := 0) (by decide +kernel) rfl ?_
            refine j_getR F (pc := 89) (hk.r hρ50 r_0_6) fl_X4_43 (hk.s c_0) rfl (by decide +kernel) ?_
            refine j_iload F (pc := 92) (i := 4) (by decide +kernel) rfl ?_
            obtain ⟨r54, μ55, hc57, h⟩ := z_b2_some h
            refine j_callVi F (pc := 94) (idx := 228) (As := [.int x4]) (st := []) (t_X2_paidTo (G := E.1) hρ50 hk hc57) q_X2_paidTo v_X2_paidTo m_762 (hk.s c_28) rfl rfl (by decide) (Nat.le_of_ble_eq_true rfl) rfl (by decide +kernel) (fun s60 ν58 hq59 hp => ?_)
            obtain ⟨rfl, rfl⟩ := hp
            have hρ56 : μ55.2.2 = ρ := hq59.trans hρ50
            exact j_iret (st := []) F Rt rfl (by decide +kernel) ⟨hρ56, _, rfl, (congrArg Prod.fst (Option.some.inj h)).symm, (congrArg Prod.snd (Option.some.inj h)).symm⟩
          · rw [if_pos c] at h
            refine j_sipush F (pc := 42) (n := -1002) (v := -1002) (by decide +kernel) (by decide +kernel) ?_
            exact j_iret (st := []) F Rt rfl (by decide +kernel) ⟨hρ31, _, rfl, (congrArg Prod.fst (Option.some.inj h)).symm, (congrArg Prod.snd (Option.some.inj h)).symm⟩
    · rw [if_pos c] at h
      refine j_sipush F (pc := 16) (n := -1001) (v := -1001) (by decide +kernel) (by decide +kernel) ?_
      exact j_iret (st := []) F Rt rfl (by decide +kernel) ⟨hρ10, _, rfl, (congrArg Prod.fst (Option.some.inj h)).symm, (congrArg Prod.snd (Option.some.inj h)).symm⟩
def g_X4_best_49   : Nat → Int32 → Int32 → Int32 → Int32 → Int32 → Int32 → Int32 → z_M → Option (Int32 × z_M)
  | 0, _, _, _, _, _, _, _, _ => none
  | n + 1, x1, x2, x3, x4, x5, x6, x7, μ => (if (4 : Int32) ≤ x7 then (some ((if x4 = 0 then x5 else x6), μ)) else (if z_in x7 4 then ((μ.2.2 1 x7.toNatClampNeg).bind fun r22 => (z_b1 (f_X2_run (r22) (4) (x1) (x2) μ) fun μ26 => (z_b2 (f_X2_holding (4) (x3) μ26) fun r31 μ32 => (if r31 ≤ x6 then (g_X4_best_49   n (x1) (x2) (x3) (x4) (x5) (x6) ((x7 + (1 : Int32))) μ32) else (g_X4_best_49   n (x1) (x2) (x3) (x4) (x7) (r31) ((x7 + (1 : Int32))) μ32))))) else none))
def f_X4_best (x1 : Int32) (x2 : Int32) (x3 : Int32) (x4 : Int32) (μ : z_M) : Option (Int32 × z_M) :=
  (z_b2 (f_X4_isHolder (x3) μ) fun r1 μ2 => (if r1 = 0 then (some ((-1001 : Int32), μ2)) else (z_b2 (f_X4_isDay (x1) μ2) fun r8 μ9 => (if r8 = 0 then (some ((-1002 : Int32), μ9)) else (z_b2 (f_X4_isWay (x2) μ9) fun r15 μ16 => (if r15 = 0 then (some ((-1002 : Int32), μ16)) else (if x4 < 0 then (some ((-1002 : Int32), μ16)) else (if x4 ≤ (1 : Int32) then (g_X4_best_49   z_N (x1) (x2) (x3) (x4) ((-1 : Int32)) ((-1 : Int32)) ((0 : Int32)) μ16) else (some ((-1002 : Int32), μ16))))))))))
set_option maxHeartbeats 4000000 in
set_option maxRecDepth 100000 in
theorem u_X4_best_49 {E : z_E} {ρ : Nat → Nat → Option Nat} {r : Int32} {μr : z_M} (F : z_F E RX4 cX4_best 9 5) (Rt : z_R E (some .int) (fun v μ1 => μ1.2.2 = ρ ∧ ∃ r1, v = some (.int r1) ∧ r = r1 ∧ μr = μ1))  (hk : z_ok (z_sh E.1) ρ) : ∀ (n : Nat) (x1 : Int32) (x2 : Int32) (x3 : Int32) (x4 : Int32) (x5 : Int32) (x6 : Int32) (x7 : Int32) (μ : z_M), μ.2.2 = ρ → g_X4_best_49   n x1 x2 x3 x4 x5 x6 x7 μ = some (r, μr) → z_J E 9 49 [some (.ref 0), some (.int x1), some (.int x2), some (.int x3), some (.int x4), some (.int x5), some (.int x6), some (.int x7), none] [] μ := by
  intro n
  induction n with
  | zero =>
    intro x1 x2 x3 x4 x5 x6 x7 μ hρ h
    rw [g_X4_best_49] at h
    cases h
  | succ n ih =>
    intro x1 x2 x3 x4 x5 x6 x7 μ hρ h
    rw [g_X4_best_49] at h
    refine j_iload F (pc := 49) (i := 7) (by decide +kernel) rfl ?_
    refine j_iconst F (pc := 51) (n := 4) (v := 4) (by decide +kernel) (by decide +kernel) ?_
    refine j_icmp_ge F (pc := 52) (off := 58) (tgt := 110) (by decide +kernel) (by decide) (fun c => ?_) (fun c => ?_)
    · rw [if_pos c] at h
      refine j_iload F (pc := 110) (i := 4) (by decide +kernel) rfl ?_
      suffices hj : z_J E 9 122 [some (.ref 0), some (.int x1), some (.int x2), some (.int x3), some (.int x4), some (.int x5), some (.int x6), some (.int x7), none] (.int (if x4 = 0 then x5 else x6) :: []) μ by
        refine j_if_ne F (pc := 112) (off := 8) (tgt := 120) (by decide +kernel) (by decide) (fun c0 => ?_) (fun c0 => ?_)
        · rw [if_neg c0] at hj
          refine j_iload F (pc := 120) (i := 6) (by decide +kernel) rfl ?_
          exact hj
        · rw [if_pos c0] at hj
          refine j_iload F (pc := 115) (i := 5) (by decide +kernel) rfl ?_
          refine j_goto F (pc := 117) (off := 5) (tgt := 122) (by decide +kernel) (by decide) ?_
          exact hj
      exact j_iret (st := []) F Rt rfl (by decide +kernel) ⟨hρ, _, rfl, (congrArg Prod.fst (Option.some.inj h)).symm, (congrArg Prod.snd (Option.some.inj h)).symm⟩
    · rw [if_neg c] at h
      refine j_aload_n F (pc := 55) (q := 0) (by decide +kernel) rfl ?_
      refine j_getR F (pc := 56) (hk.r hρ r_0_6) fl_X4_43 (hk.s c_0) rfl (by decide +kernel) ?_
      refine j_aload_n F (pc := 59) (q := 0) (by decide +kernel) rfl ?_
      refine j_getR F (pc := 60) (hk.r hρ r_0_0) fl_X4_11 (hk.s c_0) rfl (by decide +kernel) ?_
      refine j_iload F (pc := 63) (i := 7) (by decide +kernel) rfl ?_
      obtain ⟨hg, h⟩ := z_ifs h
      obtain ⟨r22, hr23, h⟩ := Option.bind_eq_some_iff.mp h
      have hb24 := hk.lawsAt hρ hr23
      refine j_aald F (pc := 65) (hk.s c_1) (by decide) hg hr23 (by decide +kernel) ?_
      refine j_aload_n F (pc := 66) (q := 0) (by decide +kernel) rfl ?_
      refine j_getR F (pc := 67) (hk.r hρ r_0_2) fl_X4_25 (hk.s c_0) rfl (by decide +kernel) ?_
      refine j_iload_n F (pc := 70) (q := 1) (by decide +kernel) rfl ?_
      refine j_iload_n F (pc := 71) (q := 2) (by decide +kernel) rfl ?_
      obtain ⟨μ26, hc28, h⟩ := z_b1_some h
      refine j_callVv F (pc := 72) (idx := 224) (As := [.ref r22, .ref 4, .int x1, .int x2]) (st := []) (t_X2_run (G := E.1) hρ hk hb24 (hk.shipB (by decide : 4 ∈ z_SHIPS)) hc28) q_X2_run v_X2_run m_717 (hk.s c_28) rfl rfl (by decide) (Nat.le_of_ble_eq_true rfl) rfl (by decide +kernel) (fun ν29 hq30 hp => ?_)
      subst hp
      have hρ27 : μ26.2.2 = ρ := hq30.trans hρ
      refine j_aload_n F (pc := 75) (q := 0) (by decide +kernel) rfl ?_
      refine j_getR F (pc := 76) (hk.r hρ27 r_0_6) fl_X4_43 (hk.s c_0) rfl (by decide +kernel) ?_
      refine j_aload_n F (pc := 79) (q := 0) (by decide +kernel) rfl ?_
      refine j_getR F (pc := 80) (hk.r hρ27 r_0_2) fl_X4_25 (hk.s c_0) rfl (by decide +kernel) ?_
      refine j_iload_n F (pc := 83) (q := 3) (by decide +kernel) rfl ?_
      obtain ⟨r31, μ32, hc34, h⟩ := z_b2_some h
      refine j_callVi F (pc := 84) (idx := 237) (As := [.ref 4, .int x3]) (st := []) (t_X2_holding (G := E.1) hρ27 hk (hk.shipB (by decide : 4 ∈ z_SHIPS)) hc34) q_X2_holding v_X2_holding m_778 (hk.s c_28) rfl rfl (by decide) (Nat.le_of_ble_eq_true rfl) rfl (by decide +kernel) (fun s37 ν35 hq36 hp => ?_)
      obtain ⟨rfl, rfl⟩ := hp
      have hρ33 : μ32.2.2 = ρ := hq36.trans hρ27
      refine j_istore F (pc := 87) (i := 8) (L' := [some (.ref 0), some (.int x1), some (.int x2), some (.int x3), some (.int x4), some (.int x5), some (.int x6), some (.int x7), some (.int r31)]) (by decide +kernel) (by decide) rfl rfl ?_
      refine j_iload F (pc := 89) (i := 8) (by decide +kernel) rfl ?_
      refine j_iload F (pc := 91) (i := 6) (by decide +kernel) rfl ?_
      refine j_icmp_le F (pc := 93) (off := 11) (tgt := 104) (by decide +kernel) (by decide) (fun c => ?_) (fun c => ?_)
      · rw [if_pos c] at h
        refine j_iinc F (pc := 104) (i := 7) (n := 1) (v := 1) (L' := [some (.ref 0), some (.int x1), some (.int x2), some (.int x3), some (.int x4), some (.int x5), some (.int x6), some (.int (x7 + (1 : Int32))), some (.int r31)]) (by decide +kernel) rfl (by decide +kernel) (by decide) rfl rfl ?_
        refine j_goto F (pc := 107) (off := -58) (tgt := 49) (by decide +kernel) (by decide) ?_
        refine j_mk F [true, true, true, true, true, true, true, true, false] (L' := [some (.ref 0), some (.int x1), some (.int x2), some (.int x3), some (.int x4), some (.int x5), some (.int x6), some (.int (x7 + (1 : Int32))), none]) rfl ?_
        exact ih _ _ _ _ _ _ _ _ hρ33 h
      · rw [if_neg c] at h
        refine j_iload F (pc := 96) (i := 8) (by decide +kernel) rfl ?_
        refine j_istore F (pc := 98) (i := 6) (L' := [some (.ref 0), some (.int x1), some (.int x2), some (.int x3), some (.int x4), some (.int x5), some (.int r31), some (.int x7), some (.int r31)]) (by decide +kernel) (by decide) rfl rfl ?_
        refine j_iload F (pc := 100) (i := 7) (by decide +kernel) rfl ?_
        refine j_istore F (pc := 102) (i := 5) (L' := [some (.ref 0), some (.int x1), some (.int x2), some (.int x3), some (.int x4), some (.int x7), some (.int r31), some (.int x7), some (.int r31)]) (by decide +kernel) (by decide) rfl rfl ?_
        refine j_iinc F (pc := 104) (i := 7) (n := 1) (v := 1) (L' := [some (.ref 0), some (.int x1), some (.int x2), some (.int x3), some (.int x4), some (.int x7), some (.int r31), some (.int (x7 + (1 : Int32))), some (.int r31)]) (by decide +kernel) rfl (by decide +kernel) (by decide) rfl rfl ?_
        refine j_goto F (pc := 107) (off := -58) (tgt := 49) (by decide +kernel) (by decide) ?_
        refine j_mk F [true, true, true, true, true, true, true, true, false] (L' := [some (.ref 0), some (.int x1), some (.int x2), some (.int x3), some (.int x4), some (.int x7), some (.int r31), some (.int (x7 + (1 : Int32))), none]) rfl ?_
        exact ih _ _ _ _ _ _ _ _ hρ33 h
set_option maxHeartbeats 4000000 in
set_option maxRecDepth 100000 in
theorem t_X4_best {G : z_Gl} {ρ : Nat → Nat → Option Nat} {μ : z_M} {r : Int32} {μr : z_M} {x1 : Int32} {x2 : Int32} {x3 : Int32} {x4 : Int32} (hρ : μ.2.2 = ρ) (hk : z_ok (z_sh G) ρ) (h : f_X4_best x1 x2 x3 x4 μ = some (r, μr)) : z_Ci G yX4_best cX4_best 9 (some .int) 5 [.ref 0, .int x1, .int x2, .int x3, .int x4] μ (fun r1 μ1 => r = r1 ∧ μr = μ1) := by
  unfold z_Ci
  refine z_intro (by decide +kernel) (Nat.le_of_ble_eq_true rfl) (fun E hE F Rt => ?_)
  subst hE
  have F : z_F E RX4 cX4_best 9 5 := F
  rw [hρ] at Rt
  unfold f_X4_best at h
  show z_J E 9 0 [some (.ref 0), some (.int x1), some (.int x2), some (.int x3), some (.int x4), none, none, none, none] [] μ
  refine j_iload_n F (pc := 0) (q := 3) (by decide +kernel) rfl ?_
  obtain ⟨r1, μ2, hc4, h⟩ := z_b2_some h
  refine j_callSi F (pc := 1) (idx := 141) (As := [.int x3]) (st := []) (t_X4_isHolder (G := E.1) hρ  hc4) q_X4_isHolder m_595 m_594 rfl (by decide) (Nat.le_of_ble_eq_true rfl) rfl (by decide +kernel) (fun s7 ν5 hq6 hp => ?_)
  obtain ⟨rfl, rfl⟩ := hp
  have hρ3 : μ2.2.2 = ρ := hq6.trans hρ
  refine j_if_ne F (pc := 4) (off := 7) (tgt := 11) (by decide +kernel) (by decide) (fun c => ?_) (fun c => ?_)
  · rw [if_neg c] at h
    refine j_iload_n F (pc := 11) (q := 1) (by decide +kernel) rfl ?_
    obtain ⟨r8, μ9, hc11, h⟩ := z_b2_some h
    refine j_callSi F (pc := 12) (idx := 131) (As := [.int x1]) (st := []) (t_X4_isDay (G := E.1) hρ3  hc11) q_X4_isDay m_580 m_579 rfl (by decide) (Nat.le_of_ble_eq_true rfl) rfl (by decide +kernel) (fun s14 ν12 hq13 hp => ?_)
    obtain ⟨rfl, rfl⟩ := hp
    have hρ10 : μ9.2.2 = ρ := hq13.trans hρ3
    refine j_if_eq F (pc := 15) (off := 21) (tgt := 36) (by decide +kernel) (by decide) (fun c => ?_) (fun c => ?_)
    · rw [if_pos c] at h
      refine j_sipush F (pc := 36) (n := -1002) (v := -1002) (by decide +kernel) (by decide +kernel) ?_
      exact j_iret (st := []) F Rt rfl (by decide +kernel) ⟨hρ10, _, rfl, (congrArg Prod.fst (Option.some.inj h)).symm, (congrArg Prod.snd (Option.some.inj h)).symm⟩
    · rw [if_neg c] at h
      refine j_iload_n F (pc := 18) (q := 2) (by decide +kernel) rfl ?_
      obtain ⟨r15, μ16, hc18, h⟩ := z_b2_some h
      refine j_callSi F (pc := 19) (idx := 221) (As := [.int x2]) (st := []) (t_X4_isWay (G := E.1) hρ10  hc18) q_X4_isWay m_715 m_714 rfl (by decide) (Nat.le_of_ble_eq_true rfl) rfl (by decide +kernel) (fun s21 ν19 hq20 hp => ?_)
      obtain ⟨rfl, rfl⟩ := hp
      have hρ17 : μ16.2.2 = ρ := hq20.trans hρ10
      refine j_if_eq F (pc := 22) (off := 14) (tgt := 36) (by decide +kernel) (by decide) (fun c => ?_) (fun c => ?_)
      · rw [if_pos c] at h
        refine j_sipush F (pc := 36) (n := -1002) (v := -1002) (by decide +kernel) (by decide +kernel) ?_
        exact j_iret (st := []) F Rt rfl (by decide +kernel) ⟨hρ17, _, rfl, (congrArg Prod.fst (Option.some.inj h)).symm, (congrArg Prod.snd (Option.some.inj h)).symm⟩
      · rw [if_neg c] at h
        refine j_iload F (pc := 25) (i := 4) (by decide +kernel) rfl ?_
        refine j_if_lt F (pc := 27) (off := 9) (tgt := 36) (by decide +kernel) (by decide) (fun c => ?_) (fun c => ?_)
        · rw [if_pos c] at h
          refine j_sipush F (pc := 36) (n := -1002) (v := -1002) (by decide +kernel) (by decide +kernel) ?_
          exact j_iret (st := []) F Rt rfl (by decide +kernel) ⟨hρ17, _, rfl, (congrArg Prod.fst (Option.some.inj h)).symm, (congrArg Prod.snd (Option.some.inj h)).symm⟩
        · rw [if_neg c] at h
          refine j_iload F (pc := 30) (i := 4) (by decide +kernel) rfl ?_
          refine j_iconst F (pc := 32) (n := 1) (v := 1) (by decide +kernel) (by decide +kernel) ?_
          refine j_icmp_le F (pc := 33) (off := 7) (tgt := 40) (by decide +kernel) (by decide) (fun c => ?_) (fun c => ?_)
          · rw [if_pos c] at h
            refine j_iconst F (pc := 40) (n := -1) (v := -1) (by decide +kernel) (by decide +kernel) ?_
            refine j_istore F (pc := 41) (i := 5) (L' := [some (.ref 0), some (.int x1), some (.int x2), some (.int x3), some (.int x4), some (.int (-1 : Int32)), none, none, none]) (by decide +kernel) (by decide) rfl rfl ?_
            refine j_iconst F (pc := 43) (n := -1) (v := -1) (by decide +kernel) (by decide +kernel) ?_
            refine j_istore F (pc := 44) (i := 6) (L' := [some (.ref 0), some (.int x1), some (.int x2), some (.int x3), some (.int x4), some (.int (-1 : Int32)), some (.int (-1 : Int32)), none, none]) (by decide +kernel) (by decide) rfl rfl ?_
            refine j_iconst F (pc := 46) (n := 0) (v := 0) (by decide +kernel) (by decide +kernel) ?_
            refine j_istore F (pc := 47) (i := 7) (L' := [some (.ref 0), some (.int x1), some (.int x2), some (.int x3), some (.int x4), some (.int (-1 : Int32)), some (.int (-1 : Int32)), some (.int (0 : Int32)), none]) (by decide +kernel) (by decide) rfl rfl ?_
            refine u_X4_best_49 F Rt hk  z_N _ _ _ _ _ _ _ _ hρ17 h
          · rw [if_neg c] at h
            refine j_sipush F (pc := 36) (n := -1002) (v := -1002) (by decide +kernel) (by decide +kernel) ?_
            exact j_iret (st := []) F Rt rfl (by decide +kernel) ⟨hρ17, _, rfl, (congrArg Prod.fst (Option.some.inj h)).symm, (congrArg Prod.snd (Option.some.inj h)).symm⟩
  · rw [if_pos c] at h
    refine j_sipush F (pc := 7) (n := -1001) (v := -1001) (by decide +kernel) (by decide +kernel) ?_
    exact j_iret (st := []) F Rt rfl (by decide +kernel) ⟨hρ3, _, rfl, (congrArg Prod.fst (Option.some.inj h)).symm, (congrArg Prod.snd (Option.some.inj h)).symm⟩
def g_X4_buy_90   : Nat → Int32 → Int32 → Int32 → Int32 → Int32 → Int32 → z_M → Option (Int32 × z_M)
  | 0, _, _, _, _, _, _, _ => none
  | n + 1, x4, x5, x6, x7, x8, x9, μ => (if (μ.1 4 1) ≤ x9 then (some ((if x6 = 0 then x7 else (if x7 = (-1 : Int32) then x7 else x8)), μ)) else (z_b2 (f_X2_paidTo (x9) μ) fun r38 μ39 => (if z_in x9 14 then (if ¬ (100 : Int32) = 0 then (z_lt (r38 - (((μ39.1 (4 + 6) x9.toNatClampNeg) * x5) / (100 : Int32))) fun x_45 => (if z_in x9 14 then (if (μ39.1 (4 + 4) x9.toNatClampNeg) = x4 then (g_X4_buy_90   n (x4) (x5) (x6) (x7) (x8) ((x9 + (1 : Int32))) μ39) else (if x_45 ≤ x8 then (g_X4_buy_90   n (x4) (x5) (x6) (x7) (x8) ((x9 + (1 : Int32))) μ39) else (g_X4_buy_90   n (x4) (x5) (x6) (x9) (x_45) ((x9 + (1 : Int32))) μ39))) else none)) else none) else none)))
def f_X4_buy (x1 : Int32) (x2 : Int32) (x3 : Int32) (x4 : Int32) (x5 : Int32) (x6 : Int32) (μ : z_M) : Option (Int32 × z_M) :=
  (z_b2 (f_X4_isLand (x1) μ) fun r1 μ2 => (if r1 = 0 then (some ((-1001 : Int32), μ2)) else (z_b2 (f_X4_isHolder (x4) μ2) fun r8 μ9 => (if r8 = 0 then (some ((-1001 : Int32), μ9)) else (z_b2 (f_X4_isDay (x2) μ9) fun r15 μ16 => (if r15 = 0 then (some ((-1002 : Int32), μ16)) else (z_b2 (f_X4_isWay (x3) μ16) fun r22 μ23 => (if r22 = 0 then (some ((-1002 : Int32), μ23)) else (if x5 < (1 : Int32) then (some ((-1002 : Int32), μ23)) else (if (200 : Int32) < x5 then (some ((-1002 : Int32), μ23)) else (if x6 < 0 then (some ((-1002 : Int32), μ23)) else (if x6 ≤ (1 : Int32) then (if z_in x1 4 then ((μ23.2.2 1 x1.toNatClampNeg).bind fun r29 => (z_b1 (f_X2_run (r29) (4) (x2) (x3) μ23) fun μ33 => (g_X4_buy_90   z_N (x4) (x5) (x6) ((-1 : Int32)) ((0 : Int32)) ((0 : Int32)) μ33))) else none) else (some ((-1002 : Int32), μ23))))))))))))))
set_option maxHeartbeats 4000000 in
set_option maxRecDepth 100000 in
theorem u_X4_buy_90 {E : z_E} {ρ : Nat → Nat → Option Nat} {r : Int32} {μr : z_M} (F : z_F E RX4 cX4_buy 11 5) (Rt : z_R E (some .int) (fun v μ1 => μ1.2.2 = ρ ∧ ∃ r1, v = some (.int r1) ∧ r = r1 ∧ μr = μ1))  (hk : z_ok (z_sh E.1) ρ) : ∀ (n : Nat) (x4 : Int32) (x5 : Int32) (x6 : Int32) (x7 : Int32) (x8 : Int32) (x9 : Int32) (μ : z_M), μ.2.2 = ρ → g_X4_buy_90   n x4 x5 x6 x7 x8 x9 μ = some (r, μr) → z_J E 11 90 [some (.ref 0), none, none, none, some (.int x4), some (.int x5), some (.int x6), some (.int x7), some (.int x8), some (.int x9), none] [] μ := by
  intro n
  induction n with
  | zero =>
    intro x4 x5 x6 x7 x8 x9 μ hρ h
    rw [g_X4_buy_90] at h
    cases h
  | succ n ih =>
    intro x4 x5 x6 x7 x8 x9 μ hρ h
    rw [g_X4_buy_90] at h
    refine j_iload F (pc := 90) (i := 9) (by decide +kernel) rfl ?_
    refine j_aload_n F (pc := 92) (q := 0) (by decide +kernel) rfl ?_
    refine j_getR F (pc := 93) (hk.r hρ r_0_2) fl_X4_25 (hk.s c_0) rfl (by decide +kernel) ?_
    refine j_getI F (pc := 96) fl_X4_191 ((hk.shipB (by decide : 4 ∈ z_SHIPS)).1 0 _ rfl) rfl (by decide +kernel) ?_
    refine j_icmp_ge F (pc := 99) (off := 67) (tgt := 166) (by decide +kernel) (by decide) (fun c => ?_) (fun c => ?_)
    · rw [if_pos c] at h
      refine j_iload F (pc := 166) (i := 6) (by decide +kernel) rfl ?_
      suffices hj : z_J E 11 184 [some (.ref 0), none, none, none, some (.int x4), some (.int x5), some (.int x6), some (.int x7), some (.int x8), some (.int x9), none] (.int (if x6 = 0 then x7 else (if x7 = (-1 : Int32) then x7 else x8)) :: []) μ by
        refine j_if_eq F (pc := 168) (off := 9) (tgt := 177) (by decide +kernel) (by decide) (fun c0 => ?_) (fun c0 => ?_)
        · rw [if_pos c0] at hj
          refine j_iload F (pc := 177) (i := 7) (by decide +kernel) rfl ?_
          refine j_goto F (pc := 179) (off := 5) (tgt := 184) (by decide +kernel) (by decide) ?_
          exact hj
        · rw [if_neg c0] at hj
          refine j_iload F (pc := 171) (i := 7) (by decide +kernel) rfl ?_
          refine j_iconst F (pc := 173) (n := -1) (v := -1) (by decide +kernel) (by decide +kernel) ?_
          refine j_icmp_ne F (pc := 174) (off := 8) (tgt := 182) (by decide +kernel) (by decide) (fun c1 => ?_) (fun c1 => ?_)
          · rw [if_neg c1] at hj
            refine j_iload F (pc := 182) (i := 8) (by decide +kernel) rfl ?_
            exact hj
          · rw [if_pos c1] at hj
            refine j_iload F (pc := 177) (i := 7) (by decide +kernel) rfl ?_
            refine j_goto F (pc := 179) (off := 5) (tgt := 184) (by decide +kernel) (by decide) ?_
            exact hj
      exact j_iret (st := []) F Rt rfl (by decide +kernel) ⟨hρ, _, rfl, (congrArg Prod.fst (Option.some.inj h)).symm, (congrArg Prod.snd (Option.some.inj h)).symm⟩
    · rw [if_neg c] at h
      refine j_aload_n F (pc := 102) (q := 0) (by decide +kernel) rfl ?_
      refine j_getR F (pc := 103) (hk.r hρ r_0_6) fl_X4_43 (hk.s c_0) rfl (by decide +kernel) ?_
      refine j_iload F (pc := 106) (i := 9) (by decide +kernel) rfl ?_
      obtain ⟨r38, μ39, hc41, h⟩ := z_b2_some h
      refine j_callVi F (pc := 108) (idx := 228) (As := [.int x9]) (st := []) (t_X2_paidTo (G := E.1) hρ hk hc41) q_X2_paidTo v_X2_paidTo m_762 (hk.s c_28) rfl rfl (by decide) (Nat.le_of_ble_eq_true rfl) rfl (by decide +kernel) (fun s44 ν42 hq43 hp => ?_)
      obtain ⟨rfl, rfl⟩ := hp
      have hρ40 : μ39.2.2 = ρ := hq43.trans hρ
      refine j_aload_n F (pc := 111) (q := 0) (by decide +kernel) rfl ?_
      refine j_getR F (pc := 112) (hk.r hρ40 r_0_2) fl_X4_25 (hk.s c_0) rfl (by decide +kernel) ?_
      refine j_getR F (pc := 115) ((hk.shipB (by decide : 4 ∈ z_SHIPS)).r hρ40 8 rfl) fl_X4_175 ((hk.shipB (by decide : 4 ∈ z_SHIPS)).1 0 _ rfl) rfl (by decide +kernel) ?_
      refine j_iload F (pc := 118) (i := 9) (by decide +kernel) rfl ?_
      obtain ⟨hg, h⟩ := z_ifs h
      refine j_iald F (pc := 120) ((hk.shipB (by decide : 4 ∈ z_SHIPS)).1 6 _ rfl) hg (by decide +kernel) ?_
      refine j_iload F (pc := 121) (i := 5) (by decide +kernel) rfl ?_
      refine j_imul F (pc := 123) (by decide +kernel) ?_
      refine j_bipush F (pc := 124) (n := 100) (v := 100) (by decide +kernel) (by decide +kernel) ?_
      obtain ⟨hg, h⟩ := z_ifs h
      refine j_idiv F (pc := 126) (by decide +kernel) hg ?_
      refine j_isub F (pc := 127) (by decide +kernel) ?_
      obtain ⟨x_45, e46, h⟩ := z_lt_some h
      rw [← e46]
      refine j_istore F (pc := 128) (i := 10) (L' := [some (.ref 0), none, none, none, some (.int x4), some (.int x5), some (.int x6), some (.int x7), some (.int x8), some (.int x9), some (.int x_45)]) (by decide +kernel) (by decide) rfl rfl ?_
      refine j_aload_n F (pc := 130) (q := 0) (by decide +kernel) rfl ?_
      refine j_getR F (pc := 131) (hk.r hρ40 r_0_2) fl_X4_25 (hk.s c_0) rfl (by decide +kernel) ?_
      refine j_getR F (pc := 134) ((hk.shipB (by decide : 4 ∈ z_SHIPS)).r hρ40 6 rfl) fl_X4_166 ((hk.shipB (by decide : 4 ∈ z_SHIPS)).1 0 _ rfl) rfl (by decide +kernel) ?_
      refine j_iload F (pc := 137) (i := 9) (by decide +kernel) rfl ?_
      obtain ⟨hg, h⟩ := z_ifs h
      refine j_iald F (pc := 139) ((hk.shipB (by decide : 4 ∈ z_SHIPS)).1 4 _ rfl) hg (by decide +kernel) ?_
      refine j_iload F (pc := 140) (i := 4) (by decide +kernel) rfl ?_
      refine j_icmp_eq F (pc := 142) (off := 18) (tgt := 160) (by decide +kernel) (by decide) (fun c => ?_) (fun c => ?_)
      · rw [if_pos c] at h
        refine j_iinc F (pc := 160) (i := 9) (n := 1) (v := 1) (L' := [some (.ref 0), none, none, none, some (.int x4), some (.int x5), some (.int x6), some (.int x7), some (.int x8), some (.int (x9 + (1 : Int32))), some (.int x_45)]) (by decide +kernel) rfl (by decide +kernel) (by decide) rfl rfl ?_
        refine j_goto F (pc := 163) (off := -73) (tgt := 90) (by decide +kernel) (by decide) ?_
        refine j_mk F [true, false, false, false, true, true, true, true, true, true, false] (L' := [some (.ref 0), none, none, none, some (.int x4), some (.int x5), some (.int x6), some (.int x7), some (.int x8), some (.int (x9 + (1 : Int32))), none]) rfl ?_
        exact ih _ _ _ _ _ _ _ hρ40 h
      · rw [if_neg c] at h
        refine j_iload F (pc := 145) (i := 10) (by decide +kernel) rfl ?_
        refine j_iload F (pc := 147) (i := 8) (by decide +kernel) rfl ?_
        refine j_icmp_le F (pc := 149) (off := 11) (tgt := 160) (by decide +kernel) (by decide) (fun c => ?_) (fun c => ?_)
        · rw [if_pos c] at h
          refine j_iinc F (pc := 160) (i := 9) (n := 1) (v := 1) (L' := [some (.ref 0), none, none, none, some (.int x4), some (.int x5), some (.int x6), some (.int x7), some (.int x8), some (.int (x9 + (1 : Int32))), some (.int x_45)]) (by decide +kernel) rfl (by decide +kernel) (by decide) rfl rfl ?_
          refine j_goto F (pc := 163) (off := -73) (tgt := 90) (by decide +kernel) (by decide) ?_
          refine j_mk F [true, false, false, false, true, true, true, true, true, true, false] (L' := [some (.ref 0), none, none, none, some (.int x4), some (.int x5), some (.int x6), some (.int x7), some (.int x8), some (.int (x9 + (1 : Int32))), none]) rfl ?_
          exact ih _ _ _ _ _ _ _ hρ40 h
        · rw [if_neg c] at h
          refine j_iload F (pc := 152) (i := 10) (by decide +kernel) rfl ?_
          refine j_istore F (pc := 154) (i := 8) (L' := [some (.ref 0), none, none, none, some (.int x4), some (.int x5), some (.int x6), some (.int x7), some (.int x_45), some (.int x9), some (.int x_45)]) (by decide +kernel) (by decide) rfl rfl ?_
          refine j_iload F (pc := 156) (i := 9) (by decide +kernel) rfl ?_
          refine j_istore F (pc := 158) (i := 7) (L' := [some (.ref 0), none, none, none, some (.int x4), some (.int x5), some (.int x6), some (.int x9), some (.int x_45), some (.int x9), some (.int x_45)]) (by decide +kernel) (by decide) rfl rfl ?_
          refine j_iinc F (pc := 160) (i := 9) (n := 1) (v := 1) (L' := [some (.ref 0), none, none, none, some (.int x4), some (.int x5), some (.int x6), some (.int x9), some (.int x_45), some (.int (x9 + (1 : Int32))), some (.int x_45)]) (by decide +kernel) rfl (by decide +kernel) (by decide) rfl rfl ?_
          refine j_goto F (pc := 163) (off := -73) (tgt := 90) (by decide +kernel) (by decide) ?_
          refine j_mk F [true, false, false, false, true, true, true, true, true, true, false] (L' := [some (.ref 0), none, none, none, some (.int x4), some (.int x5), some (.int x6), some (.int x9), some (.int x_45), some (.int (x9 + (1 : Int32))), none]) rfl ?_
          exact ih _ _ _ _ _ _ _ hρ40 h
set_option maxHeartbeats 4000000 in
set_option maxRecDepth 100000 in
theorem t_X4_buy {G : z_Gl} {ρ : Nat → Nat → Option Nat} {μ : z_M} {r : Int32} {μr : z_M} {x1 : Int32} {x2 : Int32} {x3 : Int32} {x4 : Int32} {x5 : Int32} {x6 : Int32} (hρ : μ.2.2 = ρ) (hk : z_ok (z_sh G) ρ) (h : f_X4_buy x1 x2 x3 x4 x5 x6 μ = some (r, μr)) : z_Ci G yX4_buy cX4_buy 11 (some .int) 5 [.ref 0, .int x1, .int x2, .int x3, .int x4, .int x5, .int x6] μ (fun r1 μ1 => r = r1 ∧ μr = μ1) := by
  unfold z_Ci
  refine z_intro (by decide +kernel) (Nat.le_of_ble_eq_true rfl) (fun E hE F Rt => ?_)
  subst hE
  have F : z_F E RX4 cX4_buy 11 5 := F
  rw [hρ] at Rt
  unfold f_X4_buy at h
  show z_J E 11 0 [some (.ref 0), some (.int x1), some (.int x2), some (.int x3), some (.int x4), some (.int x5), some (.int x6), none, none, none, none] [] μ
  refine j_iload_n F (pc := 0) (q := 1) (by decide +kernel) rfl ?_
  obtain ⟨r1, μ2, hc4, h⟩ := z_b2_some h
  refine j_callSi F (pc := 1) (idx := 67) (As := [.int x1]) (st := []) (t_X4_isLand (G := E.1) hρ  hc4) q_X4_isLand m_387 m_386 rfl (by decide) (Nat.le_of_ble_eq_true rfl) rfl (by decide +kernel) (fun s7 ν5 hq6 hp => ?_)
  obtain ⟨rfl, rfl⟩ := hp
  have hρ3 : μ2.2.2 = ρ := hq6.trans hρ
  refine j_if_eq F (pc := 4) (off := 11) (tgt := 15) (by decide +kernel) (by decide) (fun c => ?_) (fun c => ?_)
  · rw [if_pos c] at h
    refine j_sipush F (pc := 15) (n := -1001) (v := -1001) (by decide +kernel) (by decide +kernel) ?_
    exact j_iret (st := []) F Rt rfl (by decide +kernel) ⟨hρ3, _, rfl, (congrArg Prod.fst (Option.some.inj h)).symm, (congrArg Prod.snd (Option.some.inj h)).symm⟩
  · rw [if_neg c] at h
    refine j_iload F (pc := 7) (i := 4) (by decide +kernel) rfl ?_
    obtain ⟨r8, μ9, hc11, h⟩ := z_b2_some h
    refine j_callSi F (pc := 9) (idx := 141) (As := [.int x4]) (st := []) (t_X4_isHolder (G := E.1) hρ3  hc11) q_X4_isHolder m_595 m_594 rfl (by decide) (Nat.le_of_ble_eq_true rfl) rfl (by decide +kernel) (fun s14 ν12 hq13 hp => ?_)
    obtain ⟨rfl, rfl⟩ := hp
    have hρ10 : μ9.2.2 = ρ := hq13.trans hρ3
    refine j_if_ne F (pc := 12) (off := 7) (tgt := 19) (by decide +kernel) (by decide) (fun c => ?_) (fun c => ?_)
    · rw [if_neg c] at h
      refine j_iload_n F (pc := 19) (q := 2) (by decide +kernel) rfl ?_
      obtain ⟨r15, μ16, hc18, h⟩ := z_b2_some h
      refine j_callSi F (pc := 20) (idx := 131) (As := [.int x2]) (st := []) (t_X4_isDay (G := E.1) hρ10  hc18) q_X4_isDay m_580 m_579 rfl (by decide) (Nat.le_of_ble_eq_true rfl) rfl (by decide +kernel) (fun s21 ν19 hq20 hp => ?_)
      obtain ⟨rfl, rfl⟩ := hp
      have hρ17 : μ16.2.2 = ρ := hq20.trans hρ10
      refine j_if_eq F (pc := 23) (off := 35) (tgt := 58) (by decide +kernel) (by decide) (fun c => ?_) (fun c => ?_)
      · rw [if_pos c] at h
        refine j_sipush F (pc := 58) (n := -1002) (v := -1002) (by decide +kernel) (by decide +kernel) ?_
        exact j_iret (st := []) F Rt rfl (by decide +kernel) ⟨hρ17, _, rfl, (congrArg Prod.fst (Option.some.inj h)).symm, (congrArg Prod.snd (Option.some.inj h)).symm⟩
      · rw [if_neg c] at h
        refine j_iload_n F (pc := 26) (q := 3) (by decide +kernel) rfl ?_
        obtain ⟨r22, μ23, hc25, h⟩ := z_b2_some h
        refine j_callSi F (pc := 27) (idx := 221) (As := [.int x3]) (st := []) (t_X4_isWay (G := E.1) hρ17  hc25) q_X4_isWay m_715 m_714 rfl (by decide) (Nat.le_of_ble_eq_true rfl) rfl (by decide +kernel) (fun s28 ν26 hq27 hp => ?_)
        obtain ⟨rfl, rfl⟩ := hp
        have hρ24 : μ23.2.2 = ρ := hq27.trans hρ17
        refine j_if_eq F (pc := 30) (off := 28) (tgt := 58) (by decide +kernel) (by decide) (fun c => ?_) (fun c => ?_)
        · rw [if_pos c] at h
          refine j_sipush F (pc := 58) (n := -1002) (v := -1002) (by decide +kernel) (by decide +kernel) ?_
          exact j_iret (st := []) F Rt rfl (by decide +kernel) ⟨hρ24, _, rfl, (congrArg Prod.fst (Option.some.inj h)).symm, (congrArg Prod.snd (Option.some.inj h)).symm⟩
        · rw [if_neg c] at h
          refine j_iload F (pc := 33) (i := 5) (by decide +kernel) rfl ?_
          refine j_iconst F (pc := 35) (n := 1) (v := 1) (by decide +kernel) (by decide +kernel) ?_
          refine j_icmp_lt F (pc := 36) (off := 22) (tgt := 58) (by decide +kernel) (by decide) (fun c => ?_) (fun c => ?_)
          · rw [if_pos c] at h
            refine j_sipush F (pc := 58) (n := -1002) (v := -1002) (by decide +kernel) (by decide +kernel) ?_
            exact j_iret (st := []) F Rt rfl (by decide +kernel) ⟨hρ24, _, rfl, (congrArg Prod.fst (Option.some.inj h)).symm, (congrArg Prod.snd (Option.some.inj h)).symm⟩
          · rw [if_neg c] at h
            refine j_iload F (pc := 39) (i := 5) (by decide +kernel) rfl ?_
            refine j_sipush F (pc := 41) (n := 200) (v := 200) (by decide +kernel) (by decide +kernel) ?_
            refine j_icmp_gt F (pc := 44) (off := 14) (tgt := 58) (by decide +kernel) (by decide) (fun c => ?_) (fun c => ?_)
            · rw [if_pos c] at h
              refine j_sipush F (pc := 58) (n := -1002) (v := -1002) (by decide +kernel) (by decide +kernel) ?_
              exact j_iret (st := []) F Rt rfl (by decide +kernel) ⟨hρ24, _, rfl, (congrArg Prod.fst (Option.some.inj h)).symm, (congrArg Prod.snd (Option.some.inj h)).symm⟩
            · rw [if_neg c] at h
              refine j_iload F (pc := 47) (i := 6) (by decide +kernel) rfl ?_
              refine j_if_lt F (pc := 49) (off := 9) (tgt := 58) (by decide +kernel) (by decide) (fun c => ?_) (fun c => ?_)
              · rw [if_pos c] at h
                refine j_sipush F (pc := 58) (n := -1002) (v := -1002) (by decide +kernel) (by decide +kernel) ?_
                exact j_iret (st := []) F Rt rfl (by decide +kernel) ⟨hρ24, _, rfl, (congrArg Prod.fst (Option.some.inj h)).symm, (congrArg Prod.snd (Option.some.inj h)).symm⟩
              · rw [if_neg c] at h
                refine j_iload F (pc := 52) (i := 6) (by decide +kernel) rfl ?_
                refine j_iconst F (pc := 54) (n := 1) (v := 1) (by decide +kernel) (by decide +kernel) ?_
                refine j_icmp_le F (pc := 55) (off := 7) (tgt := 62) (by decide +kernel) (by decide) (fun c => ?_) (fun c => ?_)
                · rw [if_pos c] at h
                  refine j_aload_n F (pc := 62) (q := 0) (by decide +kernel) rfl ?_
                  refine j_getR F (pc := 63) (hk.r hρ24 r_0_6) fl_X4_43 (hk.s c_0) rfl (by decide +kernel) ?_
                  refine j_aload_n F (pc := 66) (q := 0) (by decide +kernel) rfl ?_
                  refine j_getR F (pc := 67) (hk.r hρ24 r_0_0) fl_X4_11 (hk.s c_0) rfl (by decide +kernel) ?_
                  refine j_iload_n F (pc := 70) (q := 1) (by decide +kernel) rfl ?_
                  obtain ⟨hg, h⟩ := z_ifs h
                  obtain ⟨r29, hr30, h⟩ := Option.bind_eq_some_iff.mp h
                  have hb31 := hk.lawsAt hρ24 hr30
                  refine j_aald F (pc := 71) (hk.s c_1) (by decide) hg hr30 (by decide +kernel) ?_
                  refine j_aload_n F (pc := 72) (q := 0) (by decide +kernel) rfl ?_
                  refine j_getR F (pc := 73) (hk.r hρ24 r_0_2) fl_X4_25 (hk.s c_0) rfl (by decide +kernel) ?_
                  refine j_iload_n F (pc := 76) (q := 2) (by decide +kernel) rfl ?_
                  refine j_iload_n F (pc := 77) (q := 3) (by decide +kernel) rfl ?_
                  obtain ⟨μ33, hc35, h⟩ := z_b1_some h
                  refine j_callVv F (pc := 78) (idx := 224) (As := [.ref r29, .ref 4, .int x2, .int x3]) (st := []) (t_X2_run (G := E.1) hρ24 hk hb31 (hk.shipB (by decide : 4 ∈ z_SHIPS)) hc35) q_X2_run v_X2_run m_717 (hk.s c_28) rfl rfl (by decide) (Nat.le_of_ble_eq_true rfl) rfl (by decide +kernel) (fun ν36 hq37 hp => ?_)
                  subst hp
                  have hρ34 : μ33.2.2 = ρ := hq37.trans hρ24
                  refine j_iconst F (pc := 81) (n := -1) (v := -1) (by decide +kernel) (by decide +kernel) ?_
                  refine j_istore F (pc := 82) (i := 7) (L' := [some (.ref 0), some (.int x1), some (.int x2), some (.int x3), some (.int x4), some (.int x5), some (.int x6), some (.int (-1 : Int32)), none, none, none]) (by decide +kernel) (by decide) rfl rfl ?_
                  refine j_iconst F (pc := 84) (n := 0) (v := 0) (by decide +kernel) (by decide +kernel) ?_
                  refine j_istore F (pc := 85) (i := 8) (L' := [some (.ref 0), some (.int x1), some (.int x2), some (.int x3), some (.int x4), some (.int x5), some (.int x6), some (.int (-1 : Int32)), some (.int (0 : Int32)), none, none]) (by decide +kernel) (by decide) rfl rfl ?_
                  refine j_iconst F (pc := 87) (n := 0) (v := 0) (by decide +kernel) (by decide +kernel) ?_
                  refine j_istore F (pc := 88) (i := 9) (L' := [some (.ref 0), some (.int x1), some (.int x2), some (.int x3), some (.int x4), some (.int x5), some (.int x6), some (.int (-1 : Int32)), some (.int (0 : Int32)), some (.int (0 : Int32)), none]) (by decide +kernel) (by decide) rfl rfl ?_
                  refine j_mk F [true, false, false, false, true, true, true, true, true, true, false] (L' := [some (.ref 0), none, none, none, some (.int x4), some (.int x5), some (.int x6), some (.int (-1 : Int32)), some (.int (0 : Int32)), some (.int (0 : Int32)), none]) rfl ?_
                  refine u_X4_buy_90 F Rt hk  z_N _ _ _ _ _ _ _ hρ34 h
                · rw [if_neg c] at h
                  refine j_sipush F (pc := 58) (n := -1002) (v := -1002) (by decide +kernel) (by decide +kernel) ?_
                  exact j_iret (st := []) F Rt rfl (by decide +kernel) ⟨hρ24, _, rfl, (congrArg Prod.fst (Option.some.inj h)).symm, (congrArg Prod.snd (Option.some.inj h)).symm⟩
    · rw [if_pos c] at h
      refine j_sipush F (pc := 15) (n := -1001) (v := -1001) (by decide +kernel) (by decide +kernel) ?_
      exact j_iret (st := []) F Rt rfl (by decide +kernel) ⟨hρ10, _, rfl, (congrArg Prod.fst (Option.some.inj h)).symm, (congrArg Prod.snd (Option.some.inj h)).symm⟩
/-- LastLent$Ship.takeAway -/
def f_X3_takeAway (o : Nat) (x1 : Int32) (μ : z_M) : Option z_M :=
  (if z_in x1 14 then (z_st (z_si μ (o + 6) x1.toNatClampNeg (0 : Int32)) fun μ1 => (some μ1)) else none)
set_option maxHeartbeats 4000000 in
set_option maxRecDepth 100000 in
theorem t_X3_takeAway {G : z_Gl} {ρ : Nat → Nat → Option Nat} {μ : z_M} {μr : z_M} {o : Nat} {x1 : Int32} (hρ : μ.2.2 = ρ) (hb : z_blk z_shipS z_shipR (z_sh G) ρ o) (h : f_X3_takeAway o x1 μ = some μr) : z_Cv G yX3_takeAway cX3_takeAway 2 none 0 [.ref o, .int x1] μ (fun μ1 => μr = μ1) := by
  unfold z_Cv
  refine z_intro (by decide +kernel) (Nat.le_of_ble_eq_true rfl) (fun E hE F Rt => ?_)
  subst hE
  have F : z_F E RX3 cX3_takeAway 2 0 := F
  rw [hρ] at Rt
  unfold f_X3_takeAway at h
  show z_J E 2 0 [some (.ref o), some (.int x1)] [] μ
  refine j_aload_n F (pc := 0) (q := 0) (by decide +kernel) rfl ?_
  refine j_getR F (pc := 1) (hb.r hρ 8 rfl) fl_X3_27 (hb.1 0 _ rfl) rfl (by decide +kernel) ?_
  refine j_iload_n F (pc := 4) (q := 1) (by decide +kernel) rfl ?_
  refine j_iconst F (pc := 5) (n := 0) (v := 0) (by decide +kernel) (by decide +kernel) ?_
  obtain ⟨hg, h⟩ := z_ifs h
  refine j_iast F (pc := 6) (hb.1 6 _ rfl) hg (by decide +kernel) ?_
  obtain ⟨μ1, e3, h⟩ := z_st_some h
  rw [← e3]
  have hρ2 : μ1.2.2 = ρ := by rw [e3]; exact hρ
  exact j_vret (st := []) F Rt (by decide +kernel) ⟨hρ2, rfl, (Option.some.inj h).symm⟩
/-- LastLent.holdingWithout -/
def f_X4_holdingWithout (x1 : Int32) (x2 : Int32) (x3 : Int32) (x4 : Int32) (x5 : Int32) (μ : z_M) : Option (Int32 × z_M) :=
  (z_b1 (f_X3_become (15) (4) μ) fun μ2 => (z_b1 (f_X3_takeAway (15) (x5) μ2) fun μ8 => (if z_in x1 4 then ((μ8.2.2 1 x1.toNatClampNeg).bind fun r13 => (z_b1 (f_X2_run (r13) (15) (x2) (x3) μ8) fun μ17 => (z_b2 (f_X2_holding (15) (x4) μ17) fun r22 μ23 => (some (r22, μ23))))) else none)))
set_option maxHeartbeats 4000000 in
set_option maxRecDepth 100000 in
theorem t_X4_holdingWithout {G : z_Gl} {ρ : Nat → Nat → Option Nat} {μ : z_M} {r : Int32} {μr : z_M} {x1 : Int32} {x2 : Int32} {x3 : Int32} {x4 : Int32} {x5 : Int32} (hρ : μ.2.2 = ρ) (hk : z_ok (z_sh G) ρ) (h : f_X4_holdingWithout x1 x2 x3 x4 x5 μ = some (r, μr)) : z_Ci G yX4_holdingWithout cX4_holdingWithout 6 (some .int) 5 [.ref 0, .int x1, .int x2, .int x3, .int x4, .int x5] μ (fun r1 μ1 => r = r1 ∧ μr = μ1) := by
  unfold z_Ci
  refine z_intro (by decide +kernel) (Nat.le_of_ble_eq_true rfl) (fun E hE F Rt => ?_)
  subst hE
  have F : z_F E RX4 cX4_holdingWithout 6 5 := F
  rw [hρ] at Rt
  unfold f_X4_holdingWithout at h
  show z_J E 6 0 [some (.ref 0), some (.int x1), some (.int x2), some (.int x3), some (.int x4), some (.int x5)] [] μ
  refine j_aload_n F (pc := 0) (q := 0) (by decide +kernel) rfl ?_
  refine j_getR F (pc := 1) (hk.r hρ r_0_3) fl_X4_29 (hk.s c_0) rfl (by decide +kernel) ?_
  refine j_aload_n F (pc := 4) (q := 0) (by decide +kernel) rfl ?_
  refine j_getR F (pc := 5) (hk.r hρ r_0_2) fl_X4_25 (hk.s c_0) rfl (by decide +kernel) ?_
  obtain ⟨μ2, hc4, h⟩ := z_b1_some h
  refine j_callVv F (pc := 8) (idx := 253) (As := [.ref 4]) (st := []) (t_X3_become (G := E.1) hρ (hk.shipB (by decide : 15 ∈ z_SHIPS)) (hk.shipB (by decide : 4 ∈ z_SHIPS)) hc4) q_X3_become v_X3_become m_802 ((hk.shipB (by decide : 15 ∈ z_SHIPS)).1 0 _ rfl) rfl rfl (by decide) (Nat.le_of_ble_eq_true rfl) rfl (by decide +kernel) (fun ν5 hq6 hp => ?_)
  subst hp
  have hρ3 : μ2.2.2 = ρ := hq6.trans hρ
  refine j_aload_n F (pc := 11) (q := 0) (by decide +kernel) rfl ?_
  refine j_getR F (pc := 12) (hk.r hρ3 r_0_3) fl_X4_29 (hk.s c_0) rfl (by decide +kernel) ?_
  refine j_iload F (pc := 15) (i := 5) (by decide +kernel) rfl ?_
  obtain ⟨μ8, hc10, h⟩ := z_b1_some h
  refine j_callVv F (pc := 17) (idx := 281) (As := [.int x5]) (st := []) (t_X3_takeAway (G := E.1) hρ3 (hk.shipB (by decide : 15 ∈ z_SHIPS)) hc10) q_X3_takeAway v_X3_takeAway m_823 ((hk.shipB (by decide : 15 ∈ z_SHIPS)).1 0 _ rfl) rfl rfl (by decide) (Nat.le_of_ble_eq_true rfl) rfl (by decide +kernel) (fun ν11 hq12 hp => ?_)
  subst hp
  have hρ9 : μ8.2.2 = ρ := hq12.trans hρ3
  refine j_aload_n F (pc := 20) (q := 0) (by decide +kernel) rfl ?_
  refine j_getR F (pc := 21) (hk.r hρ9 r_0_6) fl_X4_43 (hk.s c_0) rfl (by decide +kernel) ?_
  refine j_aload_n F (pc := 24) (q := 0) (by decide +kernel) rfl ?_
  refine j_getR F (pc := 25) (hk.r hρ9 r_0_0) fl_X4_11 (hk.s c_0) rfl (by decide +kernel) ?_
  refine j_iload_n F (pc := 28) (q := 1) (by decide +kernel) rfl ?_
  obtain ⟨hg, h⟩ := z_ifs h
  obtain ⟨r13, hr14, h⟩ := Option.bind_eq_some_iff.mp h
  have hb15 := hk.lawsAt hρ9 hr14
  refine j_aald F (pc := 29) (hk.s c_1) (by decide) hg hr14 (by decide +kernel) ?_
  refine j_aload_n F (pc := 30) (q := 0) (by decide +kernel) rfl ?_
  refine j_getR F (pc := 31) (hk.r hρ9 r_0_3) fl_X4_29 (hk.s c_0) rfl (by decide +kernel) ?_
  refine j_iload_n F (pc := 34) (q := 2) (by decide +kernel) rfl ?_
  refine j_iload_n F (pc := 35) (q := 3) (by decide +kernel) rfl ?_
  obtain ⟨μ17, hc19, h⟩ := z_b1_some h
  refine j_callVv F (pc := 36) (idx := 224) (As := [.ref r13, .ref 15, .int x2, .int x3]) (st := []) (t_X2_run (G := E.1) hρ9 hk hb15 (hk.shipB (by decide : 15 ∈ z_SHIPS)) hc19) q_X2_run v_X2_run m_717 (hk.s c_28) rfl rfl (by decide) (Nat.le_of_ble_eq_true rfl) rfl (by decide +kernel) (fun ν20 hq21 hp => ?_)
  subst hp
  have hρ18 : μ17.2.2 = ρ := hq21.trans hρ9
  refine j_aload_n F (pc := 39) (q := 0) (by decide +kernel) rfl ?_
  refine j_getR F (pc := 40) (hk.r hρ18 r_0_6) fl_X4_43 (hk.s c_0) rfl (by decide +kernel) ?_
  refine j_aload_n F (pc := 43) (q := 0) (by decide +kernel) rfl ?_
  refine j_getR F (pc := 44) (hk.r hρ18 r_0_3) fl_X4_29 (hk.s c_0) rfl (by decide +kernel) ?_
  refine j_iload F (pc := 47) (i := 4) (by decide +kernel) rfl ?_
  obtain ⟨r22, μ23, hc25, h⟩ := z_b2_some h
  refine j_callVi F (pc := 49) (idx := 237) (As := [.ref 15, .int x4]) (st := []) (t_X2_holding (G := E.1) hρ18 hk (hk.shipB (by decide : 15 ∈ z_SHIPS)) hc25) q_X2_holding v_X2_holding m_778 (hk.s c_28) rfl rfl (by decide) (Nat.le_of_ble_eq_true rfl) rfl (by decide +kernel) (fun s28 ν26 hq27 hp => ?_)
  obtain ⟨rfl, rfl⟩ := hp
  have hρ24 : μ23.2.2 = ρ := hq27.trans hρ18
  exact j_iret (st := []) F Rt rfl (by decide +kernel) ⟨hρ24, _, rfl, (congrArg Prod.fst (Option.some.inj h)).symm, (congrArg Prod.snd (Option.some.inj h)).symm⟩
def g_X4_clear_91   : Nat → Int32 → Int32 → Int32 → Int32 → Int32 → Int32 → Int32 → Int32 → Int32 → z_M → Option (Int32 × z_M)
  | 0, _, _, _, _, _, _, _, _, _, _ => none
  | n + 1, x1, x2, x3, x4, x5, x6, x7, x8, x9, μ => (if (μ.1 4 1) ≤ x9 then (some ((if x5 = 0 then x7 else (if x7 = (-1 : Int32) then x7 else x8)), μ)) else (if z_in x9 14 then (if (μ.1 (4 + 4) x9.toNatClampNeg) = x4 then (g_X4_clear_91   n (x1) (x2) (x3) (x4) (x5) (x6) (x7) (x8) ((x9 + (1 : Int32))) μ) else (z_b2 (f_X4_holdingWithout (x1) (x2) (x3) (x4) (x9) μ) fun r45 μ46 => (if z_in x9 14 then (z_lt ((r45 - x6) - (μ46.1 (4 + 6) x9.toNatClampNeg)) fun x_52 => (if x_52 ≤ x8 then (g_X4_clear_91   n (x1) (x2) (x3) (x4) (x5) (x6) (x7) (x8) ((x9 + (1 : Int32))) μ46) else (g_X4_clear_91   n (x1) (x2) (x3) (x4) (x5) (x6) (x9) (x_52) ((x9 + (1 : Int32))) μ46))) else none))) else none))
def f_X4_clear (x1 : Int32) (x2 : Int32) (x3 : Int32) (x4 : Int32) (x5 : Int32) (μ : z_M) : Option (Int32 × z_M) :=
  (z_b2 (f_X4_isLand (x1) μ) fun r1 μ2 => (if r1 = 0 then (some ((-1001 : Int32), μ2)) else (z_b2 (f_X4_isHolder (x4) μ2) fun r8 μ9 => (if r8 = 0 then (some ((-1001 : Int32), μ9)) else (z_b2 (f_X4_isDay (x2) μ9) fun r15 μ16 => (if r15 = 0 then (some ((-1002 : Int32), μ16)) else (z_b2 (f_X4_isWay (x3) μ16) fun r22 μ23 => (if r22 = 0 then (some ((-1002 : Int32), μ23)) else (if x5 < 0 then (some ((-1002 : Int32), μ23)) else (if x5 ≤ (1 : Int32) then (if z_in x1 4 then ((μ23.2.2 1 x1.toNatClampNeg).bind fun r29 => (z_b1 (f_X2_run (r29) (4) (x2) (x3) μ23) fun μ33 => (z_b2 (f_X2_holding (4) (x4) μ33) fun r38 μ39 => (g_X4_clear_91   z_N (x1) (x2) (x3) (x4) (x5) (r38) ((-1 : Int32)) ((0 : Int32)) ((0 : Int32)) μ39)))) else none) else (some ((-1002 : Int32), μ23))))))))))))
set_option maxHeartbeats 4000000 in
set_option maxRecDepth 100000 in
theorem u_X4_clear_91 {E : z_E} {ρ : Nat → Nat → Option Nat} {r : Int32} {μr : z_M} (F : z_F E RX4 cX4_clear 11 6) (Rt : z_R E (some .int) (fun v μ1 => μ1.2.2 = ρ ∧ ∃ r1, v = some (.int r1) ∧ r = r1 ∧ μr = μ1))  (hk : z_ok (z_sh E.1) ρ) : ∀ (n : Nat) (x1 : Int32) (x2 : Int32) (x3 : Int32) (x4 : Int32) (x5 : Int32) (x6 : Int32) (x7 : Int32) (x8 : Int32) (x9 : Int32) (μ : z_M), μ.2.2 = ρ → g_X4_clear_91   n x1 x2 x3 x4 x5 x6 x7 x8 x9 μ = some (r, μr) → z_J E 11 91 [some (.ref 0), some (.int x1), some (.int x2), some (.int x3), some (.int x4), some (.int x5), some (.int x6), some (.int x7), some (.int x8), some (.int x9), none] [] μ := by
  intro n
  induction n with
  | zero =>
    intro x1 x2 x3 x4 x5 x6 x7 x8 x9 μ hρ h
    rw [g_X4_clear_91] at h
    cases h
  | succ n ih =>
    intro x1 x2 x3 x4 x5 x6 x7 x8 x9 μ hρ h
    rw [g_X4_clear_91] at h
    refine j_iload F (pc := 91) (i := 9) (by decide +kernel) rfl ?_
    refine j_aload_n F (pc := 93) (q := 0) (by decide +kernel) rfl ?_
    refine j_getR F (pc := 94) (hk.r hρ r_0_2) fl_X4_25 (hk.s c_0) rfl (by decide +kernel) ?_
    refine j_getI F (pc := 97) fl_X4_191 ((hk.shipB (by decide : 4 ∈ z_SHIPS)).1 0 _ rfl) rfl (by decide +kernel) ?_
    refine j_icmp_ge F (pc := 100) (off := 66) (tgt := 166) (by decide +kernel) (by decide) (fun c => ?_) (fun c => ?_)
    · rw [if_pos c] at h
      refine j_iload F (pc := 166) (i := 5) (by decide +kernel) rfl ?_
      suffices hj : z_J E 11 184 [some (.ref 0), some (.int x1), some (.int x2), some (.int x3), some (.int x4), some (.int x5), some (.int x6), some (.int x7), some (.int x8), some (.int x9), none] (.int (if x5 = 0 then x7 else (if x7 = (-1 : Int32) then x7 else x8)) :: []) μ by
        refine j_if_eq F (pc := 168) (off := 9) (tgt := 177) (by decide +kernel) (by decide) (fun c0 => ?_) (fun c0 => ?_)
        · rw [if_pos c0] at hj
          refine j_iload F (pc := 177) (i := 7) (by decide +kernel) rfl ?_
          refine j_goto F (pc := 179) (off := 5) (tgt := 184) (by decide +kernel) (by decide) ?_
          exact hj
        · rw [if_neg c0] at hj
          refine j_iload F (pc := 171) (i := 7) (by decide +kernel) rfl ?_
          refine j_iconst F (pc := 173) (n := -1) (v := -1) (by decide +kernel) (by decide +kernel) ?_
          refine j_icmp_ne F (pc := 174) (off := 8) (tgt := 182) (by decide +kernel) (by decide) (fun c1 => ?_) (fun c1 => ?_)
          · rw [if_neg c1] at hj
            refine j_iload F (pc := 182) (i := 8) (by decide +kernel) rfl ?_
            exact hj
          · rw [if_pos c1] at hj
            refine j_iload F (pc := 177) (i := 7) (by decide +kernel) rfl ?_
            refine j_goto F (pc := 179) (off := 5) (tgt := 184) (by decide +kernel) (by decide) ?_
            exact hj
      exact j_iret (st := []) F Rt rfl (by decide +kernel) ⟨hρ, _, rfl, (congrArg Prod.fst (Option.some.inj h)).symm, (congrArg Prod.snd (Option.some.inj h)).symm⟩
    · rw [if_neg c] at h
      refine j_aload_n F (pc := 103) (q := 0) (by decide +kernel) rfl ?_
      refine j_getR F (pc := 104) (hk.r hρ r_0_2) fl_X4_25 (hk.s c_0) rfl (by decide +kernel) ?_
      refine j_getR F (pc := 107) ((hk.shipB (by decide : 4 ∈ z_SHIPS)).r hρ 6 rfl) fl_X4_166 ((hk.shipB (by decide : 4 ∈ z_SHIPS)).1 0 _ rfl) rfl (by decide +kernel) ?_
      refine j_iload F (pc := 110) (i := 9) (by decide +kernel) rfl ?_
      obtain ⟨hg, h⟩ := z_ifs h
      refine j_iald F (pc := 112) ((hk.shipB (by decide : 4 ∈ z_SHIPS)).1 4 _ rfl) hg (by decide +kernel) ?_
      refine j_iload F (pc := 113) (i := 4) (by decide +kernel) rfl ?_
      refine j_icmp_eq F (pc := 115) (off := 45) (tgt := 160) (by decide +kernel) (by decide) (fun c => ?_) (fun c => ?_)
      · rw [if_pos c] at h
        refine j_iinc F (pc := 160) (i := 9) (n := 1) (v := 1) (L' := [some (.ref 0), some (.int x1), some (.int x2), some (.int x3), some (.int x4), some (.int x5), some (.int x6), some (.int x7), some (.int x8), some (.int (x9 + (1 : Int32))), none]) (by decide +kernel) rfl (by decide +kernel) (by decide) rfl rfl ?_
        refine j_goto F (pc := 163) (off := -72) (tgt := 91) (by decide +kernel) (by decide) ?_
        exact ih _ _ _ _ _ _ _ _ _ _ hρ h
      · rw [if_neg c] at h
        refine j_aload_n F (pc := 118) (q := 0) (by decide +kernel) rfl ?_
        refine j_iload_n F (pc := 119) (q := 1) (by decide +kernel) rfl ?_
        refine j_iload_n F (pc := 120) (q := 2) (by decide +kernel) rfl ?_
        refine j_iload_n F (pc := 121) (q := 3) (by decide +kernel) rfl ?_
        refine j_iload F (pc := 122) (i := 4) (by decide +kernel) rfl ?_
        refine j_iload F (pc := 124) (i := 9) (by decide +kernel) rfl ?_
        obtain ⟨r45, μ46, hc48, h⟩ := z_b2_some h
        refine j_callVi F (pc := 126) (idx := 257) (As := [.int x1, .int x2, .int x3, .int x4, .int x9]) (st := []) (t_X4_holdingWithout (G := E.1) hρ hk hc48) q_X4_holdingWithout v_X4_holdingWithout m_819 (hk.s c_0) rfl rfl (by decide) (Nat.le_of_ble_eq_true rfl) rfl (by decide +kernel) (fun s51 ν49 hq50 hp => ?_)
        obtain ⟨rfl, rfl⟩ := hp
        have hρ47 : μ46.2.2 = ρ := hq50.trans hρ
        refine j_iload F (pc := 129) (i := 6) (by decide +kernel) rfl ?_
        refine j_isub F (pc := 131) (by decide +kernel) ?_
        refine j_aload_n F (pc := 132) (q := 0) (by decide +kernel) rfl ?_
        refine j_getR F (pc := 133) (hk.r hρ47 r_0_2) fl_X4_25 (hk.s c_0) rfl (by decide +kernel) ?_
        refine j_getR F (pc := 136) ((hk.shipB (by decide : 4 ∈ z_SHIPS)).r hρ47 8 rfl) fl_X4_175 ((hk.shipB (by decide : 4 ∈ z_SHIPS)).1 0 _ rfl) rfl (by decide +kernel) ?_
        refine j_iload F (pc := 139) (i := 9) (by decide +kernel) rfl ?_
        obtain ⟨hg, h⟩ := z_ifs h
        refine j_iald F (pc := 141) ((hk.shipB (by decide : 4 ∈ z_SHIPS)).1 6 _ rfl) hg (by decide +kernel) ?_
        refine j_isub F (pc := 142) (by decide +kernel) ?_
        obtain ⟨x_52, e53, h⟩ := z_lt_some h
        rw [← e53]
        refine j_istore F (pc := 143) (i := 10) (L' := [some (.ref 0), some (.int x1), some (.int x2), some (.int x3), some (.int x4), some (.int x5), some (.int x6), some (.int x7), some (.int x8), some (.int x9), some (.int x_52)]) (by decide +kernel) (by decide) rfl rfl ?_
        refine j_iload F (pc := 145) (i := 10) (by decide +kernel) rfl ?_
        refine j_iload F (pc := 147) (i := 8) (by decide +kernel) rfl ?_
        refine j_icmp_le F (pc := 149) (off := 11) (tgt := 160) (by decide +kernel) (by decide) (fun c => ?_) (fun c => ?_)
        · rw [if_pos c] at h
          refine j_iinc F (pc := 160) (i := 9) (n := 1) (v := 1) (L' := [some (.ref 0), some (.int x1), some (.int x2), some (.int x3), some (.int x4), some (.int x5), some (.int x6), some (.int x7), some (.int x8), some (.int (x9 + (1 : Int32))), some (.int x_52)]) (by decide +kernel) rfl (by decide +kernel) (by decide) rfl rfl ?_
          refine j_goto F (pc := 163) (off := -72) (tgt := 91) (by decide +kernel) (by decide) ?_
          refine j_mk F [true, true, true, true, true, true, true, true, true, true, false] (L' := [some (.ref 0), some (.int x1), some (.int x2), some (.int x3), some (.int x4), some (.int x5), some (.int x6), some (.int x7), some (.int x8), some (.int (x9 + (1 : Int32))), none]) rfl ?_
          exact ih _ _ _ _ _ _ _ _ _ _ hρ47 h
        · rw [if_neg c] at h
          refine j_iload F (pc := 152) (i := 10) (by decide +kernel) rfl ?_
          refine j_istore F (pc := 154) (i := 8) (L' := [some (.ref 0), some (.int x1), some (.int x2), some (.int x3), some (.int x4), some (.int x5), some (.int x6), some (.int x7), some (.int x_52), some (.int x9), some (.int x_52)]) (by decide +kernel) (by decide) rfl rfl ?_
          refine j_iload F (pc := 156) (i := 9) (by decide +kernel) rfl ?_
          refine j_istore F (pc := 158) (i := 7) (L' := [some (.ref 0), some (.int x1), some (.int x2), some (.int x3), some (.int x4), some (.int x5), some (.int x6), some (.int x9), some (.int x_52), some (.int x9), some (.int x_52)]) (by decide +kernel) (by decide) rfl rfl ?_
          refine j_iinc F (pc := 160) (i := 9) (n := 1) (v := 1) (L' := [some (.ref 0), some (.int x1), some (.int x2), some (.int x3), some (.int x4), some (.int x5), some (.int x6), some (.int x9), some (.int x_52), some (.int (x9 + (1 : Int32))), some (.int x_52)]) (by decide +kernel) rfl (by decide +kernel) (by decide) rfl rfl ?_
          refine j_goto F (pc := 163) (off := -72) (tgt := 91) (by decide +kernel) (by decide) ?_
          refine j_mk F [true, true, true, true, true, true, true, true, true, true, false] (L' := [some (.ref 0), some (.int x1), some (.int x2), some (.int x3), some (.int x4), some (.int x5), some (.int x6), some (.int x9), some (.int x_52), some (.int (x9 + (1 : Int32))), none]) rfl ?_
          exact ih _ _ _ _ _ _ _ _ _ _ hρ47 h
set_option maxHeartbeats 4000000 in
set_option maxRecDepth 100000 in
theorem t_X4_clear {G : z_Gl} {ρ : Nat → Nat → Option Nat} {μ : z_M} {r : Int32} {μr : z_M} {x1 : Int32} {x2 : Int32} {x3 : Int32} {x4 : Int32} {x5 : Int32} (hρ : μ.2.2 = ρ) (hk : z_ok (z_sh G) ρ) (h : f_X4_clear x1 x2 x3 x4 x5 μ = some (r, μr)) : z_Ci G yX4_clear cX4_clear 11 (some .int) 6 [.ref 0, .int x1, .int x2, .int x3, .int x4, .int x5] μ (fun r1 μ1 => r = r1 ∧ μr = μ1) := by
  unfold z_Ci
  refine z_intro (by decide +kernel) (Nat.le_of_ble_eq_true rfl) (fun E hE F Rt => ?_)
  subst hE
  have F : z_F E RX4 cX4_clear 11 6 := F
  rw [hρ] at Rt
  unfold f_X4_clear at h
  show z_J E 11 0 [some (.ref 0), some (.int x1), some (.int x2), some (.int x3), some (.int x4), some (.int x5), none, none, none, none, none] [] μ
  refine j_iload_n F (pc := 0) (q := 1) (by decide +kernel) rfl ?_
  obtain ⟨r1, μ2, hc4, h⟩ := z_b2_some h
  refine j_callSi F (pc := 1) (idx := 67) (As := [.int x1]) (st := []) (t_X4_isLand (G := E.1) hρ  hc4) q_X4_isLand m_387 m_386 rfl (by decide) (Nat.le_of_ble_eq_true rfl) rfl (by decide +kernel) (fun s7 ν5 hq6 hp => ?_)
  obtain ⟨rfl, rfl⟩ := hp
  have hρ3 : μ2.2.2 = ρ := hq6.trans hρ
  refine j_if_eq F (pc := 4) (off := 11) (tgt := 15) (by decide +kernel) (by decide) (fun c => ?_) (fun c => ?_)
  · rw [if_pos c] at h
    refine j_sipush F (pc := 15) (n := -1001) (v := -1001) (by decide +kernel) (by decide +kernel) ?_
    exact j_iret (st := []) F Rt rfl (by decide +kernel) ⟨hρ3, _, rfl, (congrArg Prod.fst (Option.some.inj h)).symm, (congrArg Prod.snd (Option.some.inj h)).symm⟩
  · rw [if_neg c] at h
    refine j_iload F (pc := 7) (i := 4) (by decide +kernel) rfl ?_
    obtain ⟨r8, μ9, hc11, h⟩ := z_b2_some h
    refine j_callSi F (pc := 9) (idx := 141) (As := [.int x4]) (st := []) (t_X4_isHolder (G := E.1) hρ3  hc11) q_X4_isHolder m_595 m_594 rfl (by decide) (Nat.le_of_ble_eq_true rfl) rfl (by decide +kernel) (fun s14 ν12 hq13 hp => ?_)
    obtain ⟨rfl, rfl⟩ := hp
    have hρ10 : μ9.2.2 = ρ := hq13.trans hρ3
    refine j_if_ne F (pc := 12) (off := 7) (tgt := 19) (by decide +kernel) (by decide) (fun c => ?_) (fun c => ?_)
    · rw [if_neg c] at h
      refine j_iload_n F (pc := 19) (q := 2) (by decide +kernel) rfl ?_
      obtain ⟨r15, μ16, hc18, h⟩ := z_b2_some h
      refine j_callSi F (pc := 20) (idx := 131) (As := [.int x2]) (st := []) (t_X4_isDay (G := E.1) hρ10  hc18) q_X4_isDay m_580 m_579 rfl (by decide) (Nat.le_of_ble_eq_true rfl) rfl (by decide +kernel) (fun s21 ν19 hq20 hp => ?_)
      obtain ⟨rfl, rfl⟩ := hp
      have hρ17 : μ16.2.2 = ρ := hq20.trans hρ10
      refine j_if_eq F (pc := 23) (off := 21) (tgt := 44) (by decide +kernel) (by decide) (fun c => ?_) (fun c => ?_)
      · rw [if_pos c] at h
        refine j_sipush F (pc := 44) (n := -1002) (v := -1002) (by decide +kernel) (by decide +kernel) ?_
        exact j_iret (st := []) F Rt rfl (by decide +kernel) ⟨hρ17, _, rfl, (congrArg Prod.fst (Option.some.inj h)).symm, (congrArg Prod.snd (Option.some.inj h)).symm⟩
      · rw [if_neg c] at h
        refine j_iload_n F (pc := 26) (q := 3) (by decide +kernel) rfl ?_
        obtain ⟨r22, μ23, hc25, h⟩ := z_b2_some h
        refine j_callSi F (pc := 27) (idx := 221) (As := [.int x3]) (st := []) (t_X4_isWay (G := E.1) hρ17  hc25) q_X4_isWay m_715 m_714 rfl (by decide) (Nat.le_of_ble_eq_true rfl) rfl (by decide +kernel) (fun s28 ν26 hq27 hp => ?_)
        obtain ⟨rfl, rfl⟩ := hp
        have hρ24 : μ23.2.2 = ρ := hq27.trans hρ17
        refine j_if_eq F (pc := 30) (off := 14) (tgt := 44) (by decide +kernel) (by decide) (fun c => ?_) (fun c => ?_)
        · rw [if_pos c] at h
          refine j_sipush F (pc := 44) (n := -1002) (v := -1002) (by decide +kernel) (by decide +kernel) ?_
          exact j_iret (st := []) F Rt rfl (by decide +kernel) ⟨hρ24, _, rfl, (congrArg Prod.fst (Option.some.inj h)).symm, (congrArg Prod.snd (Option.some.inj h)).symm⟩
        · rw [if_neg c] at h
          refine j_iload F (pc := 33) (i := 5) (by decide +kernel) rfl ?_
          refine j_if_lt F (pc := 35) (off := 9) (tgt := 44) (by decide +kernel) (by decide) (fun c => ?_) (fun c => ?_)
          · rw [if_pos c] at h
            refine j_sipush F (pc := 44) (n := -1002) (v := -1002) (by decide +kernel) (by decide +kernel) ?_
            exact j_iret (st := []) F Rt rfl (by decide +kernel) ⟨hρ24, _, rfl, (congrArg Prod.fst (Option.some.inj h)).symm, (congrArg Prod.snd (Option.some.inj h)).symm⟩
          · rw [if_neg c] at h
            refine j_iload F (pc := 38) (i := 5) (by decide +kernel) rfl ?_
            refine j_iconst F (pc := 40) (n := 1) (v := 1) (by decide +kernel) (by decide +kernel) ?_
            refine j_icmp_le F (pc := 41) (off := 7) (tgt := 48) (by decide +kernel) (by decide) (fun c => ?_) (fun c => ?_)
            · rw [if_pos c] at h
              refine j_aload_n F (pc := 48) (q := 0) (by decide +kernel) rfl ?_
              refine j_getR F (pc := 49) (hk.r hρ24 r_0_6) fl_X4_43 (hk.s c_0) rfl (by decide +kernel) ?_
              refine j_aload_n F (pc := 52) (q := 0) (by decide +kernel) rfl ?_
              refine j_getR F (pc := 53) (hk.r hρ24 r_0_0) fl_X4_11 (hk.s c_0) rfl (by decide +kernel) ?_
              refine j_iload_n F (pc := 56) (q := 1) (by decide +kernel) rfl ?_
              obtain ⟨hg, h⟩ := z_ifs h
              obtain ⟨r29, hr30, h⟩ := Option.bind_eq_some_iff.mp h
              have hb31 := hk.lawsAt hρ24 hr30
              refine j_aald F (pc := 57) (hk.s c_1) (by decide) hg hr30 (by decide +kernel) ?_
              refine j_aload_n F (pc := 58) (q := 0) (by decide +kernel) rfl ?_
              refine j_getR F (pc := 59) (hk.r hρ24 r_0_2) fl_X4_25 (hk.s c_0) rfl (by decide +kernel) ?_
              refine j_iload_n F (pc := 62) (q := 2) (by decide +kernel) rfl ?_
              refine j_iload_n F (pc := 63) (q := 3) (by decide +kernel) rfl ?_
              obtain ⟨μ33, hc35, h⟩ := z_b1_some h
              refine j_callVv F (pc := 64) (idx := 224) (As := [.ref r29, .ref 4, .int x2, .int x3]) (st := []) (t_X2_run (G := E.1) hρ24 hk hb31 (hk.shipB (by decide : 4 ∈ z_SHIPS)) hc35) q_X2_run v_X2_run m_717 (hk.s c_28) rfl rfl (by decide) (Nat.le_of_ble_eq_true rfl) rfl (by decide +kernel) (fun ν36 hq37 hp => ?_)
              subst hp
              have hρ34 : μ33.2.2 = ρ := hq37.trans hρ24
              refine j_aload_n F (pc := 67) (q := 0) (by decide +kernel) rfl ?_
              refine j_getR F (pc := 68) (hk.r hρ34 r_0_6) fl_X4_43 (hk.s c_0) rfl (by decide +kernel) ?_
              refine j_aload_n F (pc := 71) (q := 0) (by decide +kernel) rfl ?_
              refine j_getR F (pc := 72) (hk.r hρ34 r_0_2) fl_X4_25 (hk.s c_0) rfl (by decide +kernel) ?_
              refine j_iload F (pc := 75) (i := 4) (by decide +kernel) rfl ?_
              obtain ⟨r38, μ39, hc41, h⟩ := z_b2_some h
              refine j_callVi F (pc := 77) (idx := 237) (As := [.ref 4, .int x4]) (st := []) (t_X2_holding (G := E.1) hρ34 hk (hk.shipB (by decide : 4 ∈ z_SHIPS)) hc41) q_X2_holding v_X2_holding m_778 (hk.s c_28) rfl rfl (by decide) (Nat.le_of_ble_eq_true rfl) rfl (by decide +kernel) (fun s44 ν42 hq43 hp => ?_)
              obtain ⟨rfl, rfl⟩ := hp
              have hρ40 : μ39.2.2 = ρ := hq43.trans hρ34
              refine j_istore F (pc := 80) (i := 6) (L' := [some (.ref 0), some (.int x1), some (.int x2), some (.int x3), some (.int x4), some (.int x5), some (.int r38), none, none, none, none]) (by decide +kernel) (by decide) rfl rfl ?_
              refine j_iconst F (pc := 82) (n := -1) (v := -1) (by decide +kernel) (by decide +kernel) ?_
              refine j_istore F (pc := 83) (i := 7) (L' := [some (.ref 0), some (.int x1), some (.int x2), some (.int x3), some (.int x4), some (.int x5), some (.int r38), some (.int (-1 : Int32)), none, none, none]) (by decide +kernel) (by decide) rfl rfl ?_
              refine j_iconst F (pc := 85) (n := 0) (v := 0) (by decide +kernel) (by decide +kernel) ?_
              refine j_istore F (pc := 86) (i := 8) (L' := [some (.ref 0), some (.int x1), some (.int x2), some (.int x3), some (.int x4), some (.int x5), some (.int r38), some (.int (-1 : Int32)), some (.int (0 : Int32)), none, none]) (by decide +kernel) (by decide) rfl rfl ?_
              refine j_iconst F (pc := 88) (n := 0) (v := 0) (by decide +kernel) (by decide +kernel) ?_
              refine j_istore F (pc := 89) (i := 9) (L' := [some (.ref 0), some (.int x1), some (.int x2), some (.int x3), some (.int x4), some (.int x5), some (.int r38), some (.int (-1 : Int32)), some (.int (0 : Int32)), some (.int (0 : Int32)), none]) (by decide +kernel) (by decide) rfl rfl ?_
              refine u_X4_clear_91 F Rt hk  z_N _ _ _ _ _ _ _ _ _ _ hρ40 h
            · rw [if_neg c] at h
              refine j_sipush F (pc := 44) (n := -1002) (v := -1002) (by decide +kernel) (by decide +kernel) ?_
              exact j_iret (st := []) F Rt rfl (by decide +kernel) ⟨hρ24, _, rfl, (congrArg Prod.fst (Option.some.inj h)).symm, (congrArg Prod.snd (Option.some.inj h)).symm⟩
    · rw [if_pos c] at h
      refine j_sipush F (pc := 15) (n := -1001) (v := -1001) (by decide +kernel) (by decide +kernel) ?_
      exact j_iret (st := []) F Rt rfl (by decide +kernel) ⟨hρ10, _, rfl, (congrArg Prod.fst (Option.some.inj h)).symm, (congrArg Prod.snd (Option.some.inj h)).symm⟩
/-- LastLent.canSailAgain -/
def f_X4_canSailAgain (x1 : Int32) (x2 : Int32) (μ : z_M) : Option (Int32 × z_M) :=
  (z_b2 (f_X3_lastEnd (4) μ) fun r1 μ2 => (if (¬ (x1 < r1) → ¬ ((6 : Int32) ≤ (μ2.1 4 0)) → ¬ ((14 : Int32) ≤ (μ2.1 4 1)) → z_in (1 : Int32) 5) then (some ((if x1 < r1 then (0 : Int32) else (if (6 : Int32) ≤ (μ2.1 4 0) then (0 : Int32) else (if (14 : Int32) ≤ (μ2.1 4 1) then (0 : Int32) else (if (9999 : Int32) < ((μ2.1 (4 + 9) (1 : Int32).toNatClampNeg) + x2) then (0 : Int32) else (1 : Int32))))), μ2)) else none))
set_option maxHeartbeats 4000000 in
set_option maxRecDepth 100000 in
theorem t_X4_canSailAgain {G : z_Gl} {ρ : Nat → Nat → Option Nat} {μ : z_M} {r : Int32} {μr : z_M} {x1 : Int32} {x2 : Int32} (hρ : μ.2.2 = ρ) (hk : z_ok (z_sh G) ρ) (h : f_X4_canSailAgain x1 x2 μ = some (r, μr)) : z_Ci G yX4_canSailAgain cX4_canSailAgain 3 (some .boolean) 1 [.ref 0, .int x1, .int x2] μ (fun r1 μ1 => r = r1 ∧ μr = μ1) := by
  unfold z_Ci
  refine z_intro (by decide +kernel) (Nat.le_of_ble_eq_true rfl) (fun E hE F Rt => ?_)
  subst hE
  have F : z_F E RX4 cX4_canSailAgain 3 1 := F
  rw [hρ] at Rt
  unfold f_X4_canSailAgain at h
  show z_J E 3 0 [some (.ref 0), some (.int x1), some (.int x2)] [] μ
  refine j_aload_n F (pc := 0) (q := 0) (by decide +kernel) rfl ?_
  refine j_getR F (pc := 1) (hk.r hρ r_0_2) fl_X4_25 (hk.s c_0) rfl (by decide +kernel) ?_
  obtain ⟨r1, μ2, hc4, h⟩ := z_b2_some h
  refine j_callVi F (pc := 4) (idx := 134) (As := []) (st := []) (t_X3_lastEnd (G := E.1) hρ (hk.shipB (by decide : 4 ∈ z_SHIPS)) hc4) q_X3_lastEnd v_X3_lastEnd m_582 ((hk.shipB (by decide : 4 ∈ z_SHIPS)).1 0 _ rfl) rfl rfl (by decide) (Nat.le_of_ble_eq_true rfl) rfl (by decide +kernel) (fun s7 ν5 hq6 hp => ?_)
  obtain ⟨rfl, rfl⟩ := hp
  have hρ3 : μ2.2.2 = ρ := hq6.trans hρ
  refine j_iload_n F (pc := 7) (q := 1) (by decide +kernel) rfl ?_
  obtain ⟨hg, h⟩ := z_ifs h
  suffices hj : z_J E 3 57 [some (.ref 0), some (.int x1), some (.int x2)] (.int (if x1 < r1 then (0 : Int32) else (if (6 : Int32) ≤ (μ2.1 4 0) then (0 : Int32) else (if (14 : Int32) ≤ (μ2.1 4 1) then (0 : Int32) else (if (9999 : Int32) < ((μ2.1 (4 + 9) (1 : Int32).toNatClampNeg) + x2) then (0 : Int32) else (1 : Int32))))) :: []) μ2 by
    refine j_icmp_gt F (pc := 8) (off := 48) (tgt := 56) (by decide +kernel) (by decide) (fun c0 => ?_) (fun c0 => ?_)
    · rw [if_pos c0] at hj
      refine j_iconst F (pc := 56) (n := 0) (v := 0) (by decide +kernel) (by decide +kernel) ?_
      exact hj
    · rw [if_neg c0] at hj
      refine j_aload_n F (pc := 11) (q := 0) (by decide +kernel) rfl ?_
      refine j_getR F (pc := 12) (hk.r hρ3 r_0_2) fl_X4_25 (hk.s c_0) rfl (by decide +kernel) ?_
      refine j_getI F (pc := 15) fl_X4_188 ((hk.shipB (by decide : 4 ∈ z_SHIPS)).1 0 _ rfl) rfl (by decide +kernel) ?_
      refine j_bipush F (pc := 18) (n := 6) (v := 6) (by decide +kernel) (by decide +kernel) ?_
      refine j_icmp_ge F (pc := 20) (off := 36) (tgt := 56) (by decide +kernel) (by decide) (fun c1 => ?_) (fun c1 => ?_)
      · rw [if_pos c1] at hj
        refine j_iconst F (pc := 56) (n := 0) (v := 0) (by decide +kernel) (by decide +kernel) ?_
        exact hj
      · rw [if_neg c1] at hj
        refine j_aload_n F (pc := 23) (q := 0) (by decide +kernel) rfl ?_
        refine j_getR F (pc := 24) (hk.r hρ3 r_0_2) fl_X4_25 (hk.s c_0) rfl (by decide +kernel) ?_
        refine j_getI F (pc := 27) fl_X4_191 ((hk.shipB (by decide : 4 ∈ z_SHIPS)).1 0 _ rfl) rfl (by decide +kernel) ?_
        refine j_bipush F (pc := 30) (n := 14) (v := 14) (by decide +kernel) (by decide +kernel) ?_
        refine j_icmp_ge F (pc := 32) (off := 24) (tgt := 56) (by decide +kernel) (by decide) (fun c2 => ?_) (fun c2 => ?_)
        · rw [if_pos c2] at hj
          refine j_iconst F (pc := 56) (n := 0) (v := 0) (by decide +kernel) (by decide +kernel) ?_
          exact hj
        · rw [if_neg c2] at hj
          refine j_aload_n F (pc := 35) (q := 0) (by decide +kernel) rfl ?_
          refine j_getR F (pc := 36) (hk.r hρ3 r_0_2) fl_X4_25 (hk.s c_0) rfl (by decide +kernel) ?_
          refine j_getR F (pc := 39) ((hk.shipB (by decide : 4 ∈ z_SHIPS)).r hρ3 11 rfl) fl_X4_157 ((hk.shipB (by decide : 4 ∈ z_SHIPS)).1 0 _ rfl) rfl (by decide +kernel) ?_
          refine j_iconst F (pc := 42) (n := 1) (v := 1) (by decide +kernel) (by decide +kernel) ?_
          refine j_iald F (pc := 43) ((hk.shipB (by decide : 4 ∈ z_SHIPS)).1 9 _ rfl) (hg c0 c1 c2) (by decide +kernel) ?_
          refine j_iload_n F (pc := 44) (q := 2) (by decide +kernel) rfl ?_
          refine j_iadd F (pc := 45) (by decide +kernel) ?_
          refine j_sipush F (pc := 46) (n := 9999) (v := 9999) (by decide +kernel) (by decide +kernel) ?_
          refine j_icmp_gt F (pc := 49) (off := 7) (tgt := 56) (by decide +kernel) (by decide) (fun c3 => ?_) (fun c3 => ?_)
          · rw [if_pos c3] at hj
            refine j_iconst F (pc := 56) (n := 0) (v := 0) (by decide +kernel) (by decide +kernel) ?_
            exact hj
          · rw [if_neg c3] at hj
            refine j_iconst F (pc := 52) (n := 1) (v := 1) (by decide +kernel) (by decide +kernel) ?_
            refine j_goto F (pc := 53) (off := 4) (tgt := 57) (by decide +kernel) (by decide) ?_
            exact hj
  exact j_iret (st := []) F Rt (z_nb (by repeat' (first | exact Or.inl rfl | exact Or.inr rfl | split))) (by decide +kernel) ⟨hρ3, _, rfl, (congrArg Prod.fst (Option.some.inj h)).symm, (congrArg Prod.snd (Option.some.inj h)).symm⟩
def g_X4_supposeVoyage_62   (x5 : Int32) (μ : z_M) : Option z_M :=
  (if z_in (1 : Int32) 5 then (if z_in (1 : Int32) 5 then (z_st (z_si μ (15 + 9) (1 : Int32).toNatClampNeg ((μ.1 (15 + 9) (1 : Int32).toNatClampNeg) + x5)) fun μ21 => (some μ21)) else none) else none)
def f_X4_supposeVoyage (x1 : Int32) (x2 : Int32) (x3 : Int32) (x4 : Int32) (x5 : Int32) (μ : z_M) : Option z_M :=
  (z_b1 (f_X3_become (15) (4) μ) fun μ2 => (z_b2 (f_X3_addVoyage (15) ((x1 + (1 : Int32))) (x2) μ2) fun r7 μ8 => (z_b2 (f_X3_addClaim (15) ((0 : Int32)) (x3) (x2) (x4) ((1 : Int32)) ((0 : Int32)) μ8) fun r14 μ15 => (if r14 < 0 then (g_X4_supposeVoyage_62   (x5) μ15) else (if (14 : Int32) ≤ r14 then (g_X4_supposeVoyage_62   (x5) μ15) else (if z_in r14 14 then (z_st (z_si μ15 (15 + 8) r14.toNatClampNeg x2) fun μ24 => (g_X4_supposeVoyage_62   (x5) μ24)) else none))))))
set_option maxHeartbeats 4000000 in
set_option maxRecDepth 100000 in
theorem u_X4_supposeVoyage_62 {E : z_E} {ρ : Nat → Nat → Option Nat} {μr : z_M} (F : z_F E RX4 cX4_supposeVoyage 7 3) (Rt : z_R E none (fun v μ1 => μ1.2.2 = ρ ∧ v = none ∧ μr = μ1))  (hk : z_ok (z_sh E.1) ρ) : ∀ (x5 : Int32) (μ : z_M), μ.2.2 = ρ → g_X4_supposeVoyage_62   x5 μ = some μr → z_J E 7 62 [some (.ref 0), none, none, none, none, some (.int x5), none] [] μ := by
  intro x5 μ hρ h
  unfold g_X4_supposeVoyage_62 at h
  refine j_aload_n F (pc := 62) (q := 0) (by decide +kernel) rfl ?_
  refine j_getR F (pc := 63) (hk.r hρ r_0_3) fl_X4_29 (hk.s c_0) rfl (by decide +kernel) ?_
  refine j_getR F (pc := 66) ((hk.shipB (by decide : 15 ∈ z_SHIPS)).r hρ 11 rfl) fl_X4_157 ((hk.shipB (by decide : 15 ∈ z_SHIPS)).1 0 _ rfl) rfl (by decide +kernel) ?_
  refine j_iconst F (pc := 69) (n := 1) (v := 1) (by decide +kernel) (by decide +kernel) ?_
  refine j_dup2 F (pc := 70) (by decide +kernel) rfl rfl ?_
  obtain ⟨hg, h⟩ := z_ifs h
  refine j_iald F (pc := 71) ((hk.shipB (by decide : 15 ∈ z_SHIPS)).1 9 _ rfl) hg (by decide +kernel) ?_
  refine j_iload F (pc := 72) (i := 5) (by decide +kernel) rfl ?_
  refine j_iadd F (pc := 74) (by decide +kernel) ?_
  obtain ⟨hg, h⟩ := z_ifs h
  refine j_iast F (pc := 75) ((hk.shipB (by decide : 15 ∈ z_SHIPS)).1 9 _ rfl) hg (by decide +kernel) ?_
  obtain ⟨μ21, e23, h⟩ := z_st_some h
  rw [← e23]
  have hρ22 : μ21.2.2 = ρ := by rw [e23]; exact hρ
  exact j_vret (st := []) F Rt (by decide +kernel) ⟨hρ22, rfl, (Option.some.inj h).symm⟩
set_option maxHeartbeats 4000000 in
set_option maxRecDepth 100000 in
theorem t_X4_supposeVoyage {G : z_Gl} {ρ : Nat → Nat → Option Nat} {μ : z_M} {μr : z_M} {x1 : Int32} {x2 : Int32} {x3 : Int32} {x4 : Int32} {x5 : Int32} (hρ : μ.2.2 = ρ) (hk : z_ok (z_sh G) ρ) (h : f_X4_supposeVoyage x1 x2 x3 x4 x5 μ = some μr) : z_Cv G yX4_supposeVoyage cX4_supposeVoyage 7 none 3 [.ref 0, .int x1, .int x2, .int x3, .int x4, .int x5] μ (fun μ1 => μr = μ1) := by
  unfold z_Cv
  refine z_intro (by decide +kernel) (Nat.le_of_ble_eq_true rfl) (fun E hE F Rt => ?_)
  subst hE
  have F : z_F E RX4 cX4_supposeVoyage 7 3 := F
  rw [hρ] at Rt
  unfold f_X4_supposeVoyage at h
  show z_J E 7 0 [some (.ref 0), some (.int x1), some (.int x2), some (.int x3), some (.int x4), some (.int x5), none] [] μ
  refine j_aload_n F (pc := 0) (q := 0) (by decide +kernel) rfl ?_
  refine j_getR F (pc := 1) (hk.r hρ r_0_3) fl_X4_29 (hk.s c_0) rfl (by decide +kernel) ?_
  refine j_aload_n F (pc := 4) (q := 0) (by decide +kernel) rfl ?_
  refine j_getR F (pc := 5) (hk.r hρ r_0_2) fl_X4_25 (hk.s c_0) rfl (by decide +kernel) ?_
  obtain ⟨μ2, hc4, h⟩ := z_b1_some h
  refine j_callVv F (pc := 8) (idx := 253) (As := [.ref 4]) (st := []) (t_X3_become (G := E.1) hρ (hk.shipB (by decide : 15 ∈ z_SHIPS)) (hk.shipB (by decide : 4 ∈ z_SHIPS)) hc4) q_X3_become v_X3_become m_802 ((hk.shipB (by decide : 15 ∈ z_SHIPS)).1 0 _ rfl) rfl rfl (by decide) (Nat.le_of_ble_eq_true rfl) rfl (by decide +kernel) (fun ν5 hq6 hp => ?_)
  subst hp
  have hρ3 : μ2.2.2 = ρ := hq6.trans hρ
  refine j_aload_n F (pc := 11) (q := 0) (by decide +kernel) rfl ?_
  refine j_getR F (pc := 12) (hk.r hρ3 r_0_3) fl_X4_29 (hk.s c_0) rfl (by decide +kernel) ?_
  refine j_iload_n F (pc := 15) (q := 1) (by decide +kernel) rfl ?_
  refine j_iconst F (pc := 16) (n := 1) (v := 1) (by decide +kernel) (by decide +kernel) ?_
  refine j_iadd F (pc := 17) (by decide +kernel) ?_
  refine j_iload_n F (pc := 18) (q := 2) (by decide +kernel) rfl ?_
  obtain ⟨r7, μ8, hc10, h⟩ := z_b2_some h
  refine j_callVi F (pc := 19) (idx := 138) (As := [.int (x1 + (1 : Int32)), .int x2]) (st := []) (t_X3_addVoyage (G := E.1) hρ3 (hk.shipB (by decide : 15 ∈ z_SHIPS)) hc10) q_X3_addVoyage v_X3_addVoyage m_586 ((hk.shipB (by decide : 15 ∈ z_SHIPS)).1 0 _ rfl) rfl rfl (by decide) (Nat.le_of_ble_eq_true rfl) rfl (by decide +kernel) (fun s13 ν11 hq12 hp => ?_)
  obtain ⟨rfl, rfl⟩ := hp
  have hρ9 : μ8.2.2 = ρ := hq12.trans hρ3
  refine j_pop F (pc := 22) (by decide +kernel) rfl ?_
  refine j_aload_n F (pc := 23) (q := 0) (by decide +kernel) rfl ?_
  refine j_getR F (pc := 24) (hk.r hρ9 r_0_3) fl_X4_29 (hk.s c_0) rfl (by decide +kernel) ?_
  refine j_iconst F (pc := 27) (n := 0) (v := 0) (by decide +kernel) (by decide +kernel) ?_
  refine j_iload_n F (pc := 28) (q := 3) (by decide +kernel) rfl ?_
  refine j_iload_n F (pc := 29) (q := 2) (by decide +kernel) rfl ?_
  refine j_iload F (pc := 30) (i := 4) (by decide +kernel) rfl ?_
  refine j_iconst F (pc := 32) (n := 1) (v := 1) (by decide +kernel) (by decide +kernel) ?_
  refine j_iconst F (pc := 33) (n := 0) (v := 0) (by decide +kernel) (by decide +kernel) ?_
  obtain ⟨r14, μ15, hc17, h⟩ := z_b2_some h
  refine j_callVi F (pc := 34) (idx := 144) (As := [.int (0 : Int32), .int x3, .int x2, .int x4, .int (1 : Int32), .int (0 : Int32)]) (st := []) (t_X3_addClaim (G := E.1) hρ9 (hk.shipB (by decide : 15 ∈ z_SHIPS)) hc17) q_X3_addClaim v_X3_addClaim m_597 ((hk.shipB (by decide : 15 ∈ z_SHIPS)).1 0 _ rfl) rfl rfl (by decide) (Nat.le_of_ble_eq_true rfl) rfl (by decide +kernel) (fun s20 ν18 hq19 hp => ?_)
  obtain ⟨rfl, rfl⟩ := hp
  have hρ16 : μ15.2.2 = ρ := hq19.trans hρ9
  refine j_istore F (pc := 37) (i := 6) (L' := [some (.ref 0), some (.int x1), some (.int x2), some (.int x3), some (.int x4), some (.int x5), some (.int r14)]) (by decide +kernel) (by decide) rfl rfl ?_
  refine j_iload F (pc := 39) (i := 6) (by decide +kernel) rfl ?_
  refine j_if_lt F (pc := 41) (off := 21) (tgt := 62) (by decide +kernel) (by decide) (fun c => ?_) (fun c => ?_)
  · rw [if_pos c] at h
    refine j_mk F [true, false, false, false, false, true, false] (L' := [some (.ref 0), none, none, none, none, some (.int x5), none]) rfl ?_
    refine u_X4_supposeVoyage_62 F Rt hk  _ _ hρ16 h
  · rw [if_neg c] at h
    refine j_iload F (pc := 44) (i := 6) (by decide +kernel) rfl ?_
    refine j_bipush F (pc := 46) (n := 14) (v := 14) (by decide +kernel) (by decide +kernel) ?_
    refine j_icmp_ge F (pc := 48) (off := 14) (tgt := 62) (by decide +kernel) (by decide) (fun c => ?_) (fun c => ?_)
    · rw [if_pos c] at h
      refine j_mk F [true, false, false, false, false, true, false] (L' := [some (.ref 0), none, none, none, none, some (.int x5), none]) rfl ?_
      refine u_X4_supposeVoyage_62 F Rt hk  _ _ hρ16 h
    · rw [if_neg c] at h
      refine j_aload_n F (pc := 51) (q := 0) (by decide +kernel) rfl ?_
      refine j_getR F (pc := 52) (hk.r hρ16 r_0_3) fl_X4_29 (hk.s c_0) rfl (by decide +kernel) ?_
      refine j_getR F (pc := 55) ((hk.shipB (by decide : 15 ∈ z_SHIPS)).r hρ16 10 rfl) fl_X4_151 ((hk.shipB (by decide : 15 ∈ z_SHIPS)).1 0 _ rfl) rfl (by decide +kernel) ?_
      refine j_iload F (pc := 58) (i := 6) (by decide +kernel) rfl ?_
      refine j_iload_n F (pc := 60) (q := 2) (by decide +kernel) rfl ?_
      obtain ⟨hg, h⟩ := z_ifs h
      refine j_iast F (pc := 61) ((hk.shipB (by decide : 15 ∈ z_SHIPS)).1 8 _ rfl) hg (by decide +kernel) ?_
      obtain ⟨μ24, e26, h⟩ := z_st_some h
      rw [← e26]
      have hρ25 : μ24.2.2 = ρ := by rw [e26]; exact hρ16
      refine j_mk F [true, false, false, false, false, true, false] (L' := [some (.ref 0), none, none, none, none, some (.int x5), none]) rfl ?_
      refine u_X4_supposeVoyage_62 F Rt hk  _ _ hρ25 h
/-- LastLent.worthFor -/
def f_X4_worthFor (x1 : Int32) (x2 : Int32) (μ : z_M) : Option (Int32 × z_M) :=
  (z_b2 (f_X2_holding (15) (x1) μ) fun r1 μ2 => (if z_in x1 6 then (some (((r1 * ((100 : Int32) - x2)) - ((100 : Int32) * (μ2.1 50 x1.toNatClampNeg))), μ2)) else none))
set_option maxHeartbeats 4000000 in
set_option maxRecDepth 100000 in
theorem t_X4_worthFor {G : z_Gl} {ρ : Nat → Nat → Option Nat} {μ : z_M} {r : Int32} {μr : z_M} {x1 : Int32} {x2 : Int32} (hρ : μ.2.2 = ρ) (hk : z_ok (z_sh G) ρ) (h : f_X4_worthFor x1 x2 μ = some (r, μr)) : z_Ci G yX4_worthFor cX4_worthFor 3 (some .int) 1 [.ref 0, .int x1, .int x2] μ (fun r1 μ1 => r = r1 ∧ μr = μ1) := by
  unfold z_Ci
  refine z_intro (by decide +kernel) (Nat.le_of_ble_eq_true rfl) (fun E hE F Rt => ?_)
  subst hE
  have F : z_F E RX4 cX4_worthFor 3 1 := F
  rw [hρ] at Rt
  unfold f_X4_worthFor at h
  show z_J E 3 0 [some (.ref 0), some (.int x1), some (.int x2)] [] μ
  refine j_aload_n F (pc := 0) (q := 0) (by decide +kernel) rfl ?_
  refine j_getR F (pc := 1) (hk.r hρ r_0_6) fl_X4_43 (hk.s c_0) rfl (by decide +kernel) ?_
  refine j_aload_n F (pc := 4) (q := 0) (by decide +kernel) rfl ?_
  refine j_getR F (pc := 5) (hk.r hρ r_0_3) fl_X4_29 (hk.s c_0) rfl (by decide +kernel) ?_
  refine j_iload_n F (pc := 8) (q := 1) (by decide +kernel) rfl ?_
  obtain ⟨r1, μ2, hc4, h⟩ := z_b2_some h
  refine j_callVi F (pc := 9) (idx := 237) (As := [.ref 15, .int x1]) (st := []) (t_X2_holding (G := E.1) hρ hk (hk.shipB (by decide : 15 ∈ z_SHIPS)) hc4) q_X2_holding v_X2_holding m_778 (hk.s c_28) rfl rfl (by decide) (Nat.le_of_ble_eq_true rfl) rfl (by decide +kernel) (fun s7 ν5 hq6 hp => ?_)
  obtain ⟨rfl, rfl⟩ := hp
  have hρ3 : μ2.2.2 = ρ := hq6.trans hρ
  refine j_bipush F (pc := 12) (n := 100) (v := 100) (by decide +kernel) (by decide +kernel) ?_
  refine j_iload_n F (pc := 14) (q := 2) (by decide +kernel) rfl ?_
  refine j_isub F (pc := 15) (by decide +kernel) ?_
  refine j_imul F (pc := 16) (by decide +kernel) ?_
  refine j_bipush F (pc := 17) (n := 100) (v := 100) (by decide +kernel) (by decide +kernel) ?_
  refine j_aload_n F (pc := 19) (q := 0) (by decide +kernel) rfl ?_
  refine j_getR F (pc := 20) (hk.r hρ3 r_0_8) fl_X4_51 (hk.s c_0) rfl (by decide +kernel) ?_
  refine j_iload_n F (pc := 23) (q := 1) (by decide +kernel) rfl ?_
  obtain ⟨hg, h⟩ := z_ifs h
  refine j_iald F (pc := 24) (hk.s c_50) hg (by decide +kernel) ?_
  refine j_imul F (pc := 25) (by decide +kernel) ?_
  refine j_isub F (pc := 26) (by decide +kernel) ?_
  exact j_iret (st := []) F Rt rfl (by decide +kernel) ⟨hρ3, _, rfl, (congrArg Prod.fst (Option.some.inj h)).symm, (congrArg Prod.snd (Option.some.inj h)).symm⟩
def g_X4_wiseFor_4   : Nat → Int32 → Int32 → Int32 → z_M → Option (Int32 × z_M)
  | 0, _, _, _, _ => none
  | n + 1, x1, x2, x3, μ => (if (6 : Int32) ≤ x3 then (some (x2, μ)) else (z_b2 (f_X4_worthFor (x3) (x1) μ) fun r1 μ2 => (if r1 ≤ 0 then (g_X4_wiseFor_4   n (x1) (x2) ((x3 + (1 : Int32))) μ2) else (z_lt (x2 ||| ((1 : Int32) <<< (x3 &&& 31))) fun x_8 => (g_X4_wiseFor_4   n (x1) (x_8) ((x3 + (1 : Int32))) μ2)))))
def f_X4_wiseFor (x1 : Int32) (μ : z_M) : Option (Int32 × z_M) :=
  (g_X4_wiseFor_4   z_N (x1) ((0 : Int32)) ((0 : Int32)) μ)
set_option maxHeartbeats 4000000 in
set_option maxRecDepth 100000 in
theorem u_X4_wiseFor_4 {E : z_E} {ρ : Nat → Nat → Option Nat} {r : Int32} {μr : z_M} (F : z_F E RX4 cX4_wiseFor 4 2) (Rt : z_R E (some .int) (fun v μ1 => μ1.2.2 = ρ ∧ ∃ r1, v = some (.int r1) ∧ r = r1 ∧ μr = μ1))  (hk : z_ok (z_sh E.1) ρ) : ∀ (n : Nat) (x1 : Int32) (x2 : Int32) (x3 : Int32) (μ : z_M), μ.2.2 = ρ → g_X4_wiseFor_4   n x1 x2 x3 μ = some (r, μr) → z_J E 4 4 [some (.ref 0), some (.int x1), some (.int x2), some (.int x3)] [] μ := by
  intro n
  induction n with
  | zero =>
    intro x1 x2 x3 μ hρ h
    rw [g_X4_wiseFor_4] at h
    cases h
  | succ n ih =>
    intro x1 x2 x3 μ hρ h
    rw [g_X4_wiseFor_4] at h
    refine j_iload_n F (pc := 4) (q := 3) (by decide +kernel) rfl ?_
    refine j_bipush F (pc := 5) (n := 6) (v := 6) (by decide +kernel) (by decide +kernel) ?_
    refine j_icmp_ge F (pc := 7) (off := 24) (tgt := 31) (by decide +kernel) (by decide) (fun c => ?_) (fun c => ?_)
    · rw [if_pos c] at h
      refine j_iload_n F (pc := 31) (q := 2) (by decide +kernel) rfl ?_
      exact j_iret (st := []) F Rt rfl (by decide +kernel) ⟨hρ, _, rfl, (congrArg Prod.fst (Option.some.inj h)).symm, (congrArg Prod.snd (Option.some.inj h)).symm⟩
    · rw [if_neg c] at h
      refine j_aload_n F (pc := 10) (q := 0) (by decide +kernel) rfl ?_
      refine j_iload_n F (pc := 11) (q := 3) (by decide +kernel) rfl ?_
      refine j_iload_n F (pc := 12) (q := 1) (by decide +kernel) rfl ?_
      obtain ⟨r1, μ2, hc4, h⟩ := z_b2_some h
      refine j_callVi F (pc := 13) (idx := 272) (As := [.int x3, .int x1]) (st := []) (t_X4_worthFor (G := E.1) hρ hk hc4) q_X4_worthFor v_X4_worthFor m_843 (hk.s c_0) rfl rfl (by decide) (Nat.le_of_ble_eq_true rfl) rfl (by decide +kernel) (fun s7 ν5 hq6 hp => ?_)
      obtain ⟨rfl, rfl⟩ := hp
      have hρ3 : μ2.2.2 = ρ := hq6.trans hρ
      refine j_if_le F (pc := 16) (off := 9) (tgt := 25) (by decide +kernel) (by decide) (fun c => ?_) (fun c => ?_)
      · rw [if_pos c] at h
        refine j_iinc F (pc := 25) (i := 3) (n := 1) (v := 1) (L' := [some (.ref 0), some (.int x1), some (.int x2), some (.int (x3 + (1 : Int32)))]) (by decide +kernel) rfl (by decide +kernel) (by decide) rfl rfl ?_
        refine j_goto F (pc := 28) (off := -24) (tgt := 4) (by decide +kernel) (by decide) ?_
        exact ih _ _ _ _ hρ3 h
      · rw [if_neg c] at h
        refine j_iload_n F (pc := 19) (q := 2) (by decide +kernel) rfl ?_
        refine j_iconst F (pc := 20) (n := 1) (v := 1) (by decide +kernel) (by decide +kernel) ?_
        refine j_iload_n F (pc := 21) (q := 3) (by decide +kernel) rfl ?_
        refine j_ishl F (pc := 22) (by decide +kernel) ?_
        refine j_ior F (pc := 23) (by decide +kernel) ?_
        obtain ⟨x_8, e9, h⟩ := z_lt_some h
        rw [← e9]
        refine j_istore_n F (pc := 24) (q := 2) (L' := [some (.ref 0), some (.int x1), some (.int x_8), some (.int x3)]) (by decide +kernel) (by decide) rfl rfl ?_
        refine j_iinc F (pc := 25) (i := 3) (n := 1) (v := 1) (L' := [some (.ref 0), some (.int x1), some (.int x_8), some (.int (x3 + (1 : Int32)))]) (by decide +kernel) rfl (by decide +kernel) (by decide) rfl rfl ?_
        refine j_goto F (pc := 28) (off := -24) (tgt := 4) (by decide +kernel) (by decide) ?_
        exact ih _ _ _ _ hρ3 h
set_option maxHeartbeats 4000000 in
set_option maxRecDepth 100000 in
theorem t_X4_wiseFor {G : z_Gl} {ρ : Nat → Nat → Option Nat} {μ : z_M} {r : Int32} {μr : z_M} {x1 : Int32} (hρ : μ.2.2 = ρ) (hk : z_ok (z_sh G) ρ) (h : f_X4_wiseFor x1 μ = some (r, μr)) : z_Ci G yX4_wiseFor cX4_wiseFor 4 (some .int) 2 [.ref 0, .int x1] μ (fun r1 μ1 => r = r1 ∧ μr = μ1) := by
  unfold z_Ci
  refine z_intro (by decide +kernel) (Nat.le_of_ble_eq_true rfl) (fun E hE F Rt => ?_)
  subst hE
  have F : z_F E RX4 cX4_wiseFor 4 2 := F
  rw [hρ] at Rt
  unfold f_X4_wiseFor at h
  show z_J E 4 0 [some (.ref 0), some (.int x1), none, none] [] μ
  refine j_iconst F (pc := 0) (n := 0) (v := 0) (by decide +kernel) (by decide +kernel) ?_
  refine j_istore_n F (pc := 1) (q := 2) (L' := [some (.ref 0), some (.int x1), some (.int (0 : Int32)), none]) (by decide +kernel) (by decide) rfl rfl ?_
  refine j_iconst F (pc := 2) (n := 0) (v := 0) (by decide +kernel) (by decide +kernel) ?_
  refine j_istore_n F (pc := 3) (q := 3) (L' := [some (.ref 0), some (.int x1), some (.int (0 : Int32)), some (.int (0 : Int32))]) (by decide +kernel) (by decide) rfl rfl ?_
  refine u_X4_wiseFor_4 F Rt hk  z_N _ _ _ _ hρ h
