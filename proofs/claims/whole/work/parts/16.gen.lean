/-! functions and contracts, written by wip/whole/dec.py -/
def g_X4_more_144   : Nat → Int32 → Int32 → Int32 → Int32 → Int32 → Int32 → Int32 → Int32 → Int32 → Int32 → z_M → Option (Int32 × z_M)
  | 0, _, _, _, _, _, _, _, _, _, _, _ => none
  | n + 1, x1, x2, x3, x4, x5, x6, x7, x8, x9, x10, μ => (if (6 : Int32) ≤ x10 then (z_b1 (f_X4_supposeVoyage (x2) (x6) (x5) (x7) (x8) μ) fun μ53 => (if z_in x1 4 then ((μ53.2.2 1 x1.toNatClampNeg).bind fun r58 => (z_b1 (f_X2_run (r58) (15) (x6) (x3) μ53) fun μ62 => (if x4 = (-1 : Int32) then (z_b2 (f_X4_wiseFor (x9) μ62) fun r74 μ75 => (some (r74, μ75))) else (z_b2 (f_X4_worthFor (x4) (x9) μ62) fun r67 μ68 => (some (r67, μ68)))))) else none)) else (z_b2 (f_X2_holding (4) (x10) μ) fun r81 μ82 => (if z_in x10 6 then (z_st (z_si μ82 50 x10.toNatClampNeg r81) fun μ88 => (g_X4_more_144   n (x1) (x2) (x3) (x4) (x5) (x6) (x7) (x8) (x9) ((x10 + (1 : Int32))) μ88)) else none)))
def g_X4_more_21   (x1 : Int32) (x2 : Int32) (x3 : Int32) (x4 : Int32) (x5 : Int32) (x6 : Int32) (x7 : Int32) (x8 : Int32) (x9 : Int32) (μ : z_M) : Option (Int32 × z_M) :=
  (z_b2 (f_X4_isHolder (x5) μ) fun r8 μ9 => (if r8 = 0 then (some ((-1001 : Int32), μ9)) else (z_b2 (f_X4_isDay (x2) μ9) fun r15 μ16 => (if r15 = 0 then (some ((-1002 : Int32), μ16)) else (z_b2 (f_X4_isWay (x3) μ16) fun r22 μ23 => (if r22 = 0 then (some ((-1002 : Int32), μ23)) else (z_b2 (f_X4_isDay (x6) μ23) fun r29 μ30 => (if r29 = 0 then (some ((-1002 : Int32), μ30)) else (if x6 ≤ x2 then (some ((-1002 : Int32), μ30)) else (if x7 < (1 : Int32) then (some ((-1002 : Int32), μ30)) else (if x7 ≤ (999 : Int32) then (if x8 < 0 then (some ((-1002 : Int32), μ30)) else (if (9999 : Int32) < x8 then (some ((-1002 : Int32), μ30)) else (if x9 < 0 then (some ((-1002 : Int32), μ30)) else (if x9 ≤ (100 : Int32) then (z_b2 (f_X4_canSailAgain (x2) (x8) μ30) fun r36 μ37 => (if r36 = 0 then (some ((-1003 : Int32), μ37)) else (if z_in x1 4 then ((μ37.2.2 1 x1.toNatClampNeg).bind fun r43 => (z_b1 (f_X2_run (r43) (4) (x2) (x3) μ37) fun μ47 => (g_X4_more_144   z_N (x1) (x2) (x3) (x4) (x5) (x6) (x7) (x8) (x9) ((0 : Int32)) μ47))) else none))) else (some ((-1002 : Int32), μ30)))))) else (some ((-1002 : Int32), μ30)))))))))))))
def f_X4_more (x1 : Int32) (x2 : Int32) (x3 : Int32) (x4 : Int32) (x5 : Int32) (x6 : Int32) (x7 : Int32) (x8 : Int32) (x9 : Int32) (μ : z_M) : Option (Int32 × z_M) :=
  (z_b2 (f_X4_isLand (x1) μ) fun r1 μ2 => (if r1 = 0 then (some ((-1001 : Int32), μ2)) else (if x4 = (-1 : Int32) then (g_X4_more_21   (x1) (x2) (x3) (x4) (x5) (x6) (x7) (x8) (x9) μ2) else (z_b2 (f_X4_isHolder (x4) μ2) fun r91 μ92 => (if r91 = 0 then (some ((-1001 : Int32), μ92)) else (g_X4_more_21   (x1) (x2) (x3) (x4) (x5) (x6) (x7) (x8) (x9) μ92))))))
set_option maxHeartbeats 4000000 in
set_option maxRecDepth 100000 in
theorem u_X4_more_144 {E : z_E} {ρ : Nat → Nat → Option Nat} {r : Int32} {μr : z_M} (F : z_F E RX4 cX4_more 11 5) (Rt : z_R E (some .int) (fun v μ1 => μ1.2.2 = ρ ∧ ∃ r1, v = some (.int r1) ∧ r = r1 ∧ μr = μ1))  (hk : z_ok (z_sh E.1) ρ) : ∀ (n : Nat) (x1 : Int32) (x2 : Int32) (x3 : Int32) (x4 : Int32) (x5 : Int32) (x6 : Int32) (x7 : Int32) (x8 : Int32) (x9 : Int32) (x10 : Int32) (μ : z_M), μ.2.2 = ρ → g_X4_more_144   n x1 x2 x3 x4 x5 x6 x7 x8 x9 x10 μ = some (r, μr) → z_J E 11 144 [some (.ref 0), some (.int x1), some (.int x2), some (.int x3), some (.int x4), some (.int x5), some (.int x6), some (.int x7), some (.int x8), some (.int x9), some (.int x10)] [] μ := by
  intro n
  induction n with
  | zero =>
    intro x1 x2 x3 x4 x5 x6 x7 x8 x9 x10 μ hρ h
    rw [g_X4_more_144] at h
    cases h
  | succ n ih =>
    intro x1 x2 x3 x4 x5 x6 x7 x8 x9 x10 μ hρ h
    rw [g_X4_more_144] at h
    refine j_iload F (pc := 144) (i := 10) (by decide +kernel) rfl ?_
    refine j_bipush F (pc := 146) (n := 6) (v := 6) (by decide +kernel) (by decide +kernel) ?_
    refine j_icmp_ge F (pc := 148) (off := 29) (tgt := 177) (by decide +kernel) (by decide) (fun c => ?_) (fun c => ?_)
    · rw [if_pos c] at h
      refine j_aload_n F (pc := 177) (q := 0) (by decide +kernel) rfl ?_
      refine j_iload_n F (pc := 178) (q := 2) (by decide +kernel) rfl ?_
      refine j_iload F (pc := 179) (i := 6) (by decide +kernel) rfl ?_
      refine j_iload F (pc := 181) (i := 5) (by decide +kernel) rfl ?_
      refine j_iload F (pc := 183) (i := 7) (by decide +kernel) rfl ?_
      refine j_iload F (pc := 185) (i := 8) (by decide +kernel) rfl ?_
      obtain ⟨μ53, hc55, h⟩ := z_b1_some h
      refine j_callVv F (pc := 187) (idx := 265) (As := [.int x2, .int x6, .int x5, .int x7, .int x8]) (st := []) (t_X4_supposeVoyage (G := E.1) hρ hk hc55) q_X4_supposeVoyage v_X4_supposeVoyage m_835 (hk.s c_0) rfl rfl (by decide) (Nat.le_of_ble_eq_true rfl) rfl (by decide +kernel) (fun ν56 hq57 hp => ?_)
      subst hp
      have hρ54 : μ53.2.2 = ρ := hq57.trans hρ
      refine j_aload_n F (pc := 190) (q := 0) (by decide +kernel) rfl ?_
      refine j_getR F (pc := 191) (hk.r hρ54 r_0_6) fl_X4_43 (hk.s c_0) rfl (by decide +kernel) ?_
      refine j_aload_n F (pc := 194) (q := 0) (by decide +kernel) rfl ?_
      refine j_getR F (pc := 195) (hk.r hρ54 r_0_0) fl_X4_11 (hk.s c_0) rfl (by decide +kernel) ?_
      refine j_iload_n F (pc := 198) (q := 1) (by decide +kernel) rfl ?_
      obtain ⟨hg, h⟩ := z_ifs h
      obtain ⟨r58, hr59, h⟩ := Option.bind_eq_some_iff.mp h
      have hb60 := hk.lawsAt hρ54 hr59
      refine j_aald F (pc := 199) (hk.s c_1) (by decide) hg hr59 (by decide +kernel) ?_
      refine j_aload_n F (pc := 200) (q := 0) (by decide +kernel) rfl ?_
      refine j_getR F (pc := 201) (hk.r hρ54 r_0_3) fl_X4_29 (hk.s c_0) rfl (by decide +kernel) ?_
      refine j_iload F (pc := 204) (i := 6) (by decide +kernel) rfl ?_
      refine j_iload_n F (pc := 206) (q := 3) (by decide +kernel) rfl ?_
      obtain ⟨μ62, hc64, h⟩ := z_b1_some h
      refine j_callVv F (pc := 207) (idx := 224) (As := [.ref r58, .ref 15, .int x6, .int x3]) (st := []) (t_X2_run (G := E.1) hρ54 hk hb60 (hk.shipB (by decide : 15 ∈ z_SHIPS)) hc64) q_X2_run v_X2_run m_717 (hk.s c_28) rfl rfl (by decide) (Nat.le_of_ble_eq_true rfl) rfl (by decide +kernel) (fun ν65 hq66 hp => ?_)
      subst hp
      have hρ63 : μ62.2.2 = ρ := hq66.trans hρ54
      refine j_iload F (pc := 210) (i := 4) (by decide +kernel) rfl ?_
      refine j_iconst F (pc := 212) (n := -1) (v := -1) (by decide +kernel) (by decide +kernel) ?_
      refine j_icmp_ne F (pc := 213) (off := 12) (tgt := 225) (by decide +kernel) (by decide) (fun c => ?_) (fun c => ?_)
      · rw [if_neg c] at h
        refine j_aload_n F (pc := 225) (q := 0) (by decide +kernel) rfl ?_
        refine j_iload F (pc := 226) (i := 4) (by decide +kernel) rfl ?_
        refine j_iload F (pc := 228) (i := 9) (by decide +kernel) rfl ?_
        obtain ⟨r67, μ68, hc70, h⟩ := z_b2_some h
        refine j_callVi F (pc := 230) (idx := 272) (As := [.int x4, .int x9]) (st := []) (t_X4_worthFor (G := E.1) hρ63 hk hc70) q_X4_worthFor v_X4_worthFor m_843 (hk.s c_0) rfl rfl (by decide) (Nat.le_of_ble_eq_true rfl) rfl (by decide +kernel) (fun s73 ν71 hq72 hp => ?_)
        obtain ⟨rfl, rfl⟩ := hp
        have hρ69 : μ68.2.2 = ρ := hq72.trans hρ63
        exact j_iret (st := []) F Rt rfl (by decide +kernel) ⟨hρ69, _, rfl, (congrArg Prod.fst (Option.some.inj h)).symm, (congrArg Prod.snd (Option.some.inj h)).symm⟩
      · rw [if_pos c] at h
        refine j_aload_n F (pc := 216) (q := 0) (by decide +kernel) rfl ?_
        refine j_iload F (pc := 217) (i := 9) (by decide +kernel) rfl ?_
        obtain ⟨r74, μ75, hc77, h⟩ := z_b2_some h
        refine j_callVi F (pc := 219) (idx := 269) (As := [.int x9]) (st := []) (t_X4_wiseFor (G := E.1) hρ63 hk hc77) q_X4_wiseFor v_X4_wiseFor m_839 (hk.s c_0) rfl rfl (by decide) (Nat.le_of_ble_eq_true rfl) rfl (by decide +kernel) (fun s80 ν78 hq79 hp => ?_)
        obtain ⟨rfl, rfl⟩ := hp
        have hρ76 : μ75.2.2 = ρ := hq79.trans hρ63
        refine j_goto F (pc := 222) (off := 11) (tgt := 233) (by decide +kernel) (by decide) ?_
        exact j_iret (st := []) F Rt rfl (by decide +kernel) ⟨hρ76, _, rfl, (congrArg Prod.fst (Option.some.inj h)).symm, (congrArg Prod.snd (Option.some.inj h)).symm⟩
    · rw [if_neg c] at h
      refine j_aload_n F (pc := 151) (q := 0) (by decide +kernel) rfl ?_
      refine j_getR F (pc := 152) (hk.r hρ r_0_8) fl_X4_51 (hk.s c_0) rfl (by decide +kernel) ?_
      refine j_iload F (pc := 155) (i := 10) (by decide +kernel) rfl ?_
      refine j_aload_n F (pc := 157) (q := 0) (by decide +kernel) rfl ?_
      refine j_getR F (pc := 158) (hk.r hρ r_0_6) fl_X4_43 (hk.s c_0) rfl (by decide +kernel) ?_
      refine j_aload_n F (pc := 161) (q := 0) (by decide +kernel) rfl ?_
      refine j_getR F (pc := 162) (hk.r hρ r_0_2) fl_X4_25 (hk.s c_0) rfl (by decide +kernel) ?_
      refine j_iload F (pc := 165) (i := 10) (by decide +kernel) rfl ?_
      obtain ⟨r81, μ82, hc84, h⟩ := z_b2_some h
      refine j_callVi F (pc := 167) (idx := 237) (As := [.ref 4, .int x10]) (st := [.int x10, .ref 50]) (t_X2_holding (G := E.1) hρ hk (hk.shipB (by decide : 4 ∈ z_SHIPS)) hc84) q_X2_holding v_X2_holding m_778 (hk.s c_28) rfl rfl (by decide) (Nat.le_of_ble_eq_true rfl) rfl (by decide +kernel) (fun s87 ν85 hq86 hp => ?_)
      obtain ⟨rfl, rfl⟩ := hp
      have hρ83 : μ82.2.2 = ρ := hq86.trans hρ
      obtain ⟨hg, h⟩ := z_ifs h
      refine j_iast F (pc := 170) (hk.s c_50) hg (by decide +kernel) ?_
      obtain ⟨μ88, e90, h⟩ := z_st_some h
      rw [← e90]
      have hρ89 : μ88.2.2 = ρ := by rw [e90]; exact hρ83
      refine j_iinc F (pc := 171) (i := 10) (n := 1) (v := 1) (L' := [some (.ref 0), some (.int x1), some (.int x2), some (.int x3), some (.int x4), some (.int x5), some (.int x6), some (.int x7), some (.int x8), some (.int x9), some (.int (x10 + (1 : Int32)))]) (by decide +kernel) rfl (by decide +kernel) (by decide) rfl rfl ?_
      refine j_goto F (pc := 174) (off := -30) (tgt := 144) (by decide +kernel) (by decide) ?_
      exact ih _ _ _ _ _ _ _ _ _ _ _ hρ89 h
set_option maxHeartbeats 4000000 in
set_option maxRecDepth 100000 in
theorem u_X4_more_21 {E : z_E} {ρ : Nat → Nat → Option Nat} {r : Int32} {μr : z_M} (F : z_F E RX4 cX4_more 11 5) (Rt : z_R E (some .int) (fun v μ1 => μ1.2.2 = ρ ∧ ∃ r1, v = some (.int r1) ∧ r = r1 ∧ μr = μ1))  (hk : z_ok (z_sh E.1) ρ) : ∀ (x1 : Int32) (x2 : Int32) (x3 : Int32) (x4 : Int32) (x5 : Int32) (x6 : Int32) (x7 : Int32) (x8 : Int32) (x9 : Int32) (μ : z_M), μ.2.2 = ρ → g_X4_more_21   x1 x2 x3 x4 x5 x6 x7 x8 x9 μ = some (r, μr) → z_J E 11 21 [some (.ref 0), some (.int x1), some (.int x2), some (.int x3), some (.int x4), some (.int x5), some (.int x6), some (.int x7), some (.int x8), some (.int x9), none] [] μ := by
  intro x1 x2 x3 x4 x5 x6 x7 x8 x9 μ hρ h
  unfold g_X4_more_21 at h
  refine j_iload F (pc := 21) (i := 5) (by decide +kernel) rfl ?_
  obtain ⟨r8, μ9, hc11, h⟩ := z_b2_some h
  refine j_callSi F (pc := 23) (idx := 141) (As := [.int x5]) (st := []) (t_X4_isHolder (G := E.1) hρ  hc11) q_X4_isHolder m_595 m_594 rfl (by decide) (Nat.le_of_ble_eq_true rfl) rfl (by decide +kernel) (fun s14 ν12 hq13 hp => ?_)
  obtain ⟨rfl, rfl⟩ := hp
  have hρ10 : μ9.2.2 = ρ := hq13.trans hρ
  refine j_if_ne F (pc := 26) (off := 7) (tgt := 33) (by decide +kernel) (by decide) (fun c => ?_) (fun c => ?_)
  · rw [if_neg c] at h
    refine j_iload_n F (pc := 33) (q := 2) (by decide +kernel) rfl ?_
    obtain ⟨r15, μ16, hc18, h⟩ := z_b2_some h
    refine j_callSi F (pc := 34) (idx := 131) (As := [.int x2]) (st := []) (t_X4_isDay (G := E.1) hρ10  hc18) q_X4_isDay m_580 m_579 rfl (by decide) (Nat.le_of_ble_eq_true rfl) rfl (by decide +kernel) (fun s21 ν19 hq20 hp => ?_)
    obtain ⟨rfl, rfl⟩ := hp
    have hρ17 : μ16.2.2 = ρ := hq20.trans hρ10
    refine j_if_eq F (pc := 37) (off := 38) (tgt := 75) (by decide +kernel) (by decide) (fun c => ?_) (fun c => ?_)
    · rw [if_pos c] at h
      refine j_sipush F (pc := 75) (n := -1002) (v := -1002) (by decide +kernel) (by decide +kernel) ?_
      exact j_iret (st := []) F Rt rfl (by decide +kernel) ⟨hρ17, _, rfl, (congrArg Prod.fst (Option.some.inj h)).symm, (congrArg Prod.snd (Option.some.inj h)).symm⟩
    · rw [if_neg c] at h
      refine j_iload_n F (pc := 40) (q := 3) (by decide +kernel) rfl ?_
      obtain ⟨r22, μ23, hc25, h⟩ := z_b2_some h
      refine j_callSi F (pc := 41) (idx := 221) (As := [.int x3]) (st := []) (t_X4_isWay (G := E.1) hρ17  hc25) q_X4_isWay m_715 m_714 rfl (by decide) (Nat.le_of_ble_eq_true rfl) rfl (by decide +kernel) (fun s28 ν26 hq27 hp => ?_)
      obtain ⟨rfl, rfl⟩ := hp
      have hρ24 : μ23.2.2 = ρ := hq27.trans hρ17
      refine j_if_eq F (pc := 44) (off := 31) (tgt := 75) (by decide +kernel) (by decide) (fun c => ?_) (fun c => ?_)
      · rw [if_pos c] at h
        refine j_sipush F (pc := 75) (n := -1002) (v := -1002) (by decide +kernel) (by decide +kernel) ?_
        exact j_iret (st := []) F Rt rfl (by decide +kernel) ⟨hρ24, _, rfl, (congrArg Prod.fst (Option.some.inj h)).symm, (congrArg Prod.snd (Option.some.inj h)).symm⟩
      · rw [if_neg c] at h
        refine j_iload F (pc := 47) (i := 6) (by decide +kernel) rfl ?_
        obtain ⟨r29, μ30, hc32, h⟩ := z_b2_some h
        refine j_callSi F (pc := 49) (idx := 131) (As := [.int x6]) (st := []) (t_X4_isDay (G := E.1) hρ24  hc32) q_X4_isDay m_580 m_579 rfl (by decide) (Nat.le_of_ble_eq_true rfl) rfl (by decide +kernel) (fun s35 ν33 hq34 hp => ?_)
        obtain ⟨rfl, rfl⟩ := hp
        have hρ31 : μ30.2.2 = ρ := hq34.trans hρ24
        refine j_if_eq F (pc := 52) (off := 23) (tgt := 75) (by decide +kernel) (by decide) (fun c => ?_) (fun c => ?_)
        · rw [if_pos c] at h
          refine j_sipush F (pc := 75) (n := -1002) (v := -1002) (by decide +kernel) (by decide +kernel) ?_
          exact j_iret (st := []) F Rt rfl (by decide +kernel) ⟨hρ31, _, rfl, (congrArg Prod.fst (Option.some.inj h)).symm, (congrArg Prod.snd (Option.some.inj h)).symm⟩
        · rw [if_neg c] at h
          refine j_iload F (pc := 55) (i := 6) (by decide +kernel) rfl ?_
          refine j_iload_n F (pc := 57) (q := 2) (by decide +kernel) rfl ?_
          refine j_icmp_le F (pc := 58) (off := 17) (tgt := 75) (by decide +kernel) (by decide) (fun c => ?_) (fun c => ?_)
          · rw [if_pos c] at h
            refine j_sipush F (pc := 75) (n := -1002) (v := -1002) (by decide +kernel) (by decide +kernel) ?_
            exact j_iret (st := []) F Rt rfl (by decide +kernel) ⟨hρ31, _, rfl, (congrArg Prod.fst (Option.some.inj h)).symm, (congrArg Prod.snd (Option.some.inj h)).symm⟩
          · rw [if_neg c] at h
            refine j_iload F (pc := 61) (i := 7) (by decide +kernel) rfl ?_
            refine j_iconst F (pc := 63) (n := 1) (v := 1) (by decide +kernel) (by decide +kernel) ?_
            refine j_icmp_lt F (pc := 64) (off := 11) (tgt := 75) (by decide +kernel) (by decide) (fun c => ?_) (fun c => ?_)
            · rw [if_pos c] at h
              refine j_sipush F (pc := 75) (n := -1002) (v := -1002) (by decide +kernel) (by decide +kernel) ?_
              exact j_iret (st := []) F Rt rfl (by decide +kernel) ⟨hρ31, _, rfl, (congrArg Prod.fst (Option.some.inj h)).symm, (congrArg Prod.snd (Option.some.inj h)).symm⟩
            · rw [if_neg c] at h
              refine j_iload F (pc := 67) (i := 7) (by decide +kernel) rfl ?_
              refine j_sipush F (pc := 69) (n := 999) (v := 999) (by decide +kernel) (by decide +kernel) ?_
              refine j_icmp_le F (pc := 72) (off := 7) (tgt := 79) (by decide +kernel) (by decide) (fun c => ?_) (fun c => ?_)
              · rw [if_pos c] at h
                refine j_iload F (pc := 79) (i := 8) (by decide +kernel) rfl ?_
                refine j_if_lt F (pc := 81) (off := 23) (tgt := 104) (by decide +kernel) (by decide) (fun c => ?_) (fun c => ?_)
                · rw [if_pos c] at h
                  refine j_sipush F (pc := 104) (n := -1002) (v := -1002) (by decide +kernel) (by decide +kernel) ?_
                  exact j_iret (st := []) F Rt rfl (by decide +kernel) ⟨hρ31, _, rfl, (congrArg Prod.fst (Option.some.inj h)).symm, (congrArg Prod.snd (Option.some.inj h)).symm⟩
                · rw [if_neg c] at h
                  refine j_iload F (pc := 84) (i := 8) (by decide +kernel) rfl ?_
                  refine j_sipush F (pc := 86) (n := 9999) (v := 9999) (by decide +kernel) (by decide +kernel) ?_
                  refine j_icmp_gt F (pc := 89) (off := 15) (tgt := 104) (by decide +kernel) (by decide) (fun c => ?_) (fun c => ?_)
                  · rw [if_pos c] at h
                    refine j_sipush F (pc := 104) (n := -1002) (v := -1002) (by decide +kernel) (by decide +kernel) ?_
                    exact j_iret (st := []) F Rt rfl (by decide +kernel) ⟨hρ31, _, rfl, (congrArg Prod.fst (Option.some.inj h)).symm, (congrArg Prod.snd (Option.some.inj h)).symm⟩
                  · rw [if_neg c] at h
                    refine j_iload F (pc := 92) (i := 9) (by decide +kernel) rfl ?_
                    refine j_if_lt F (pc := 94) (off := 10) (tgt := 104) (by decide +kernel) (by decide) (fun c => ?_) (fun c => ?_)
                    · rw [if_pos c] at h
                      refine j_sipush F (pc := 104) (n := -1002) (v := -1002) (by decide +kernel) (by decide +kernel) ?_
                      exact j_iret (st := []) F Rt rfl (by decide +kernel) ⟨hρ31, _, rfl, (congrArg Prod.fst (Option.some.inj h)).symm, (congrArg Prod.snd (Option.some.inj h)).symm⟩
                    · rw [if_neg c] at h
                      refine j_iload F (pc := 97) (i := 9) (by decide +kernel) rfl ?_
                      refine j_bipush F (pc := 99) (n := 100) (v := 100) (by decide +kernel) (by decide +kernel) ?_
                      refine j_icmp_le F (pc := 101) (off := 7) (tgt := 108) (by decide +kernel) (by decide) (fun c => ?_) (fun c => ?_)
                      · rw [if_pos c] at h
                        refine j_aload_n F (pc := 108) (q := 0) (by decide +kernel) rfl ?_
                        refine j_iload_n F (pc := 109) (q := 2) (by decide +kernel) rfl ?_
                        refine j_iload F (pc := 110) (i := 8) (by decide +kernel) rfl ?_
                        obtain ⟨r36, μ37, hc39, h⟩ := z_b2_some h
                        refine j_callVi F (pc := 112) (idx := 261) (As := [.int x2, .int x8]) (st := []) (t_X4_canSailAgain (G := E.1) hρ31 hk hc39) q_X4_canSailAgain v_X4_canSailAgain m_831 (hk.s c_0) rfl rfl (by decide) (Nat.le_of_ble_eq_true rfl) rfl (by decide +kernel) (fun s42 ν40 hq41 hp => ?_)
                        obtain ⟨rfl, rfl⟩ := hp
                        have hρ38 : μ37.2.2 = ρ := hq41.trans hρ31
                        refine j_if_ne F (pc := 115) (off := 7) (tgt := 122) (by decide +kernel) (by decide) (fun c => ?_) (fun c => ?_)
                        · rw [if_neg c] at h
                          refine j_aload_n F (pc := 122) (q := 0) (by decide +kernel) rfl ?_
                          refine j_getR F (pc := 123) (hk.r hρ38 r_0_6) fl_X4_43 (hk.s c_0) rfl (by decide +kernel) ?_
                          refine j_aload_n F (pc := 126) (q := 0) (by decide +kernel) rfl ?_
                          refine j_getR F (pc := 127) (hk.r hρ38 r_0_0) fl_X4_11 (hk.s c_0) rfl (by decide +kernel) ?_
                          refine j_iload_n F (pc := 130) (q := 1) (by decide +kernel) rfl ?_
                          obtain ⟨hg, h⟩ := z_ifs h
                          obtain ⟨r43, hr44, h⟩ := Option.bind_eq_some_iff.mp h
                          have hb45 := hk.lawsAt hρ38 hr44
                          refine j_aald F (pc := 131) (hk.s c_1) (by decide) hg hr44 (by decide +kernel) ?_
                          refine j_aload_n F (pc := 132) (q := 0) (by decide +kernel) rfl ?_
                          refine j_getR F (pc := 133) (hk.r hρ38 r_0_2) fl_X4_25 (hk.s c_0) rfl (by decide +kernel) ?_
                          refine j_iload_n F (pc := 136) (q := 2) (by decide +kernel) rfl ?_
                          refine j_iload_n F (pc := 137) (q := 3) (by decide +kernel) rfl ?_
                          obtain ⟨μ47, hc49, h⟩ := z_b1_some h
                          refine j_callVv F (pc := 138) (idx := 224) (As := [.ref r43, .ref 4, .int x2, .int x3]) (st := []) (t_X2_run (G := E.1) hρ38 hk hb45 (hk.shipB (by decide : 4 ∈ z_SHIPS)) hc49) q_X2_run v_X2_run m_717 (hk.s c_28) rfl rfl (by decide) (Nat.le_of_ble_eq_true rfl) rfl (by decide +kernel) (fun ν50 hq51 hp => ?_)
                          subst hp
                          have hρ48 : μ47.2.2 = ρ := hq51.trans hρ38
                          refine j_iconst F (pc := 141) (n := 0) (v := 0) (by decide +kernel) (by decide +kernel) ?_
                          refine j_istore F (pc := 142) (i := 10) (L' := [some (.ref 0), some (.int x1), some (.int x2), some (.int x3), some (.int x4), some (.int x5), some (.int x6), some (.int x7), some (.int x8), some (.int x9), some (.int (0 : Int32))]) (by decide +kernel) (by decide) rfl rfl ?_
                          refine u_X4_more_144 F Rt hk  z_N _ _ _ _ _ _ _ _ _ _ _ hρ48 h
                        · rw [if_pos c] at h
                          refine j_sipush F (pc := 118) (n := -1003) (v := -1003) (by decide +kernel) (by decide +kernel) ?_
                          exact j_iret (st := []) F Rt rfl (by decide +kernel) ⟨hρ38, _, rfl, (congrArg Prod.fst (Option.some.inj h)).symm, (congrArg Prod.snd (Option.some.inj h)).symm⟩
                      · rw [if_neg c] at h
                        refine j_sipush F (pc := 104) (n := -1002) (v := -1002) (by decide +kernel) (by decide +kernel) ?_
                        exact j_iret (st := []) F Rt rfl (by decide +kernel) ⟨hρ31, _, rfl, (congrArg Prod.fst (Option.some.inj h)).symm, (congrArg Prod.snd (Option.some.inj h)).symm⟩
              · rw [if_neg c] at h
                refine j_sipush F (pc := 75) (n := -1002) (v := -1002) (by decide +kernel) (by decide +kernel) ?_
                exact j_iret (st := []) F Rt rfl (by decide +kernel) ⟨hρ31, _, rfl, (congrArg Prod.fst (Option.some.inj h)).symm, (congrArg Prod.snd (Option.some.inj h)).symm⟩
  · rw [if_pos c] at h
    refine j_sipush F (pc := 29) (n := -1001) (v := -1001) (by decide +kernel) (by decide +kernel) ?_
    exact j_iret (st := []) F Rt rfl (by decide +kernel) ⟨hρ10, _, rfl, (congrArg Prod.fst (Option.some.inj h)).symm, (congrArg Prod.snd (Option.some.inj h)).symm⟩
set_option maxHeartbeats 4000000 in
set_option maxRecDepth 100000 in
theorem t_X4_more {G : z_Gl} {ρ : Nat → Nat → Option Nat} {μ : z_M} {r : Int32} {μr : z_M} {x1 : Int32} {x2 : Int32} {x3 : Int32} {x4 : Int32} {x5 : Int32} {x6 : Int32} {x7 : Int32} {x8 : Int32} {x9 : Int32} (hρ : μ.2.2 = ρ) (hk : z_ok (z_sh G) ρ) (h : f_X4_more x1 x2 x3 x4 x5 x6 x7 x8 x9 μ = some (r, μr)) : z_Ci G yX4_more cX4_more 11 (some .int) 5 [.ref 0, .int x1, .int x2, .int x3, .int x4, .int x5, .int x6, .int x7, .int x8, .int x9] μ (fun r1 μ1 => r = r1 ∧ μr = μ1) := by
  unfold z_Ci
  refine z_intro (by decide +kernel) (Nat.le_of_ble_eq_true rfl) (fun E hE F Rt => ?_)
  subst hE
  have F : z_F E RX4 cX4_more 11 5 := F
  rw [hρ] at Rt
  unfold f_X4_more at h
  show z_J E 11 0 [some (.ref 0), some (.int x1), some (.int x2), some (.int x3), some (.int x4), some (.int x5), some (.int x6), some (.int x7), some (.int x8), some (.int x9), none] [] μ
  refine j_iload_n F (pc := 0) (q := 1) (by decide +kernel) rfl ?_
  obtain ⟨r1, μ2, hc4, h⟩ := z_b2_some h
  refine j_callSi F (pc := 1) (idx := 67) (As := [.int x1]) (st := []) (t_X4_isLand (G := E.1) hρ  hc4) q_X4_isLand m_387 m_386 rfl (by decide) (Nat.le_of_ble_eq_true rfl) rfl (by decide +kernel) (fun s7 ν5 hq6 hp => ?_)
  obtain ⟨rfl, rfl⟩ := hp
  have hρ3 : μ2.2.2 = ρ := hq6.trans hρ
  refine j_if_eq F (pc := 4) (off := 25) (tgt := 29) (by decide +kernel) (by decide) (fun c => ?_) (fun c => ?_)
  · rw [if_pos c] at h
    refine j_sipush F (pc := 29) (n := -1001) (v := -1001) (by decide +kernel) (by decide +kernel) ?_
    exact j_iret (st := []) F Rt rfl (by decide +kernel) ⟨hρ3, _, rfl, (congrArg Prod.fst (Option.some.inj h)).symm, (congrArg Prod.snd (Option.some.inj h)).symm⟩
  · rw [if_neg c] at h
    refine j_iload F (pc := 7) (i := 4) (by decide +kernel) rfl ?_
    refine j_iconst F (pc := 9) (n := -1) (v := -1) (by decide +kernel) (by decide +kernel) ?_
    refine j_icmp_eq F (pc := 10) (off := 11) (tgt := 21) (by decide +kernel) (by decide) (fun c => ?_) (fun c => ?_)
    · rw [if_pos c] at h
      refine u_X4_more_21 F Rt hk  _ _ _ _ _ _ _ _ _ _ hρ3 h
    · rw [if_neg c] at h
      refine j_iload F (pc := 13) (i := 4) (by decide +kernel) rfl ?_
      obtain ⟨r91, μ92, hc94, h⟩ := z_b2_some h
      refine j_callSi F (pc := 15) (idx := 141) (As := [.int x4]) (st := []) (t_X4_isHolder (G := E.1) hρ3  hc94) q_X4_isHolder m_595 m_594 rfl (by decide) (Nat.le_of_ble_eq_true rfl) rfl (by decide +kernel) (fun s97 ν95 hq96 hp => ?_)
      obtain ⟨rfl, rfl⟩ := hp
      have hρ93 : μ92.2.2 = ρ := hq96.trans hρ3
      refine j_if_eq F (pc := 18) (off := 11) (tgt := 29) (by decide +kernel) (by decide) (fun c => ?_) (fun c => ?_)
      · rw [if_pos c] at h
        refine j_sipush F (pc := 29) (n := -1001) (v := -1001) (by decide +kernel) (by decide +kernel) ?_
        exact j_iret (st := []) F Rt rfl (by decide +kernel) ⟨hρ93, _, rfl, (congrArg Prod.fst (Option.some.inj h)).symm, (congrArg Prod.snd (Option.some.inj h)).symm⟩
      · rw [if_neg c] at h
        refine u_X4_more_21 F Rt hk  _ _ _ _ _ _ _ _ _ _ hρ93 h
def g_X4_hangsOn_138   : Nat → Int32 → Int32 → Int32 → z_M → Option (Int32 × z_M)
  | 0, _, _, _, _ => none
  | n + 1, x4, x6, x7, μ => (if (μ.1 4 1) ≤ x7 then (some (x6, μ)) else (if x7 = x4 then (g_X4_hangsOn_138   n (x4) (x6) ((x7 + (1 : Int32))) μ) else (z_b2 (f_X2_paidTo (x7) μ) fun r19 μ20 => (if z_in x7 14 then (z_lt (x6 + (if 0 ≤ (r19 - (μ20.1 49 x7.toNatClampNeg)) then (r19 - (μ20.1 49 x7.toNatClampNeg)) else 0 - (r19 - (μ20.1 49 x7.toNatClampNeg)))) fun x_26 => (g_X4_hangsOn_138   n (x4) (x_26) ((x7 + (1 : Int32))) μ20)) else none))))
def g_X4_hangsOn_113   (x1 : Int32) (x2 : Int32) (x3 : Int32) (x4 : Int32) (μ : z_M) : Option (Int32 × z_M) :=
  (if z_in x1 4 then ((μ.2.2 1 x1.toNatClampNeg).bind fun r10 => (z_b1 (f_X2_run (r10) (15) (x2) (x3) μ) fun μ14 => (g_X4_hangsOn_138   z_N (x4) ((0 : Int32)) ((0 : Int32)) μ14))) else none)
def f_X4_hangsOn (x1 : Int32) (x2 : Int32) (x3 : Int32) (x4 : Int32) (x5 : Int32) (μ : z_M) : Option (Int32 × z_M) :=
  (z_b1 (f_X3_become (15) (4) μ) fun μ2 => (if x5 = 0 then (z_b1 (f_X3_takeAway (15) (x4) μ2) fun μ29 => (g_X4_hangsOn_113   (x1) (x2) (x3) (x4) μ29)) else (if x5 = 1 then (z_st (z_si μ2 15 2 ((μ2.1 15 2) ^^^ ((1 : Int32) <<< (x4 &&& 31)))) fun μ34 => (g_X4_hangsOn_113   (x1) (x2) (x3) (x4) μ34)) else (if x5 = 2 then (if z_in x4 14 then (if z_in x4 14 then (z_st (z_si μ2 (15 + 5) x4.toNatClampNeg (if ((μ2.1 (15 + 5) x4.toNatClampNeg) + (1 : Int32)) < (999 : Int32) then ((μ2.1 (15 + 5) x4.toNatClampNeg) + (1 : Int32)) else (999 : Int32))) fun μ37 => (g_X4_hangsOn_113   (x1) (x2) (x3) (x4) μ37)) else none) else none) else (if z_in x4 14 then (z_st (z_si μ2 (15 + 8) x4.toNatClampNeg x2) fun μ7 => (g_X4_hangsOn_113   (x1) (x2) (x3) (x4) μ7)) else none)))))
set_option maxHeartbeats 4000000 in
set_option maxRecDepth 100000 in
theorem u_X4_hangsOn_138 {E : z_E} {ρ : Nat → Nat → Option Nat} {r : Int32} {μr : z_M} (F : z_F E RX4 cX4_hangsOn 8 5) (Rt : z_R E (some .int) (fun v μ1 => μ1.2.2 = ρ ∧ ∃ r1, v = some (.int r1) ∧ r = r1 ∧ μr = μ1))  (hk : z_ok (z_sh E.1) ρ) : ∀ (n : Nat) (x4 : Int32) (x6 : Int32) (x7 : Int32) (μ : z_M), μ.2.2 = ρ → g_X4_hangsOn_138   n x4 x6 x7 μ = some (r, μr) → z_J E 8 138 [some (.ref 0), none, none, none, some (.int x4), none, some (.int x6), some (.int x7)] [] μ := by
  intro n
  induction n with
  | zero =>
    intro x4 x6 x7 μ hρ h
    rw [g_X4_hangsOn_138] at h
    cases h
  | succ n ih =>
    intro x4 x6 x7 μ hρ h
    rw [g_X4_hangsOn_138] at h
    refine j_iload F (pc := 138) (i := 7) (by decide +kernel) rfl ?_
    refine j_aload_n F (pc := 140) (q := 0) (by decide +kernel) rfl ?_
    refine j_getR F (pc := 141) (hk.r hρ r_0_2) fl_X4_25 (hk.s c_0) rfl (by decide +kernel) ?_
    refine j_getI F (pc := 144) fl_X4_191 ((hk.shipB (by decide : 4 ∈ z_SHIPS)).1 0 _ rfl) rfl (by decide +kernel) ?_
    refine j_icmp_ge F (pc := 147) (off := 41) (tgt := 188) (by decide +kernel) (by decide) (fun c => ?_) (fun c => ?_)
    · rw [if_pos c] at h
      refine j_iload F (pc := 188) (i := 6) (by decide +kernel) rfl ?_
      exact j_iret (st := []) F Rt rfl (by decide +kernel) ⟨hρ, _, rfl, (congrArg Prod.fst (Option.some.inj h)).symm, (congrArg Prod.snd (Option.some.inj h)).symm⟩
    · rw [if_neg c] at h
      refine j_iload F (pc := 150) (i := 7) (by decide +kernel) rfl ?_
      refine j_iload F (pc := 152) (i := 4) (by decide +kernel) rfl ?_
      refine j_icmp_eq F (pc := 154) (off := 28) (tgt := 182) (by decide +kernel) (by decide) (fun c => ?_) (fun c => ?_)
      · rw [if_pos c] at h
        refine j_iinc F (pc := 182) (i := 7) (n := 1) (v := 1) (L' := [some (.ref 0), none, none, none, some (.int x4), none, some (.int x6), some (.int (x7 + (1 : Int32)))]) (by decide +kernel) rfl (by decide +kernel) (by decide) rfl rfl ?_
        refine j_goto F (pc := 185) (off := -47) (tgt := 138) (by decide +kernel) (by decide) ?_
        exact ih _ _ _ _ hρ h
      · rw [if_neg c] at h
        refine j_iload F (pc := 157) (i := 6) (by decide +kernel) rfl ?_
        refine j_aload_n F (pc := 159) (q := 0) (by decide +kernel) rfl ?_
        refine j_getR F (pc := 160) (hk.r hρ r_0_6) fl_X4_43 (hk.s c_0) rfl (by decide +kernel) ?_
        refine j_iload F (pc := 163) (i := 7) (by decide +kernel) rfl ?_
        obtain ⟨r19, μ20, hc22, h⟩ := z_b2_some h
        refine j_callVi F (pc := 165) (idx := 228) (As := [.int x7]) (st := [.int x6]) (t_X2_paidTo (G := E.1) hρ hk hc22) q_X2_paidTo v_X2_paidTo m_762 (hk.s c_28) rfl rfl (by decide) (Nat.le_of_ble_eq_true rfl) rfl (by decide +kernel) (fun s25 ν23 hq24 hp => ?_)
        obtain ⟨rfl, rfl⟩ := hp
        have hρ21 : μ20.2.2 = ρ := hq24.trans hρ
        refine j_aload_n F (pc := 168) (q := 0) (by decide +kernel) rfl ?_
        refine j_getR F (pc := 169) (hk.r hρ21 r_0_7) fl_X4_47 (hk.s c_0) rfl (by decide +kernel) ?_
        refine j_iload F (pc := 172) (i := 7) (by decide +kernel) rfl ?_
        obtain ⟨hg, h⟩ := z_ifs h
        refine j_iald F (pc := 174) (hk.s c_49) hg (by decide +kernel) ?_
        refine j_isub F (pc := 175) (by decide +kernel) ?_
        refine j_mabs F (pc := 176) ⟨m_855, m_856, m_88, m_857⟩ (by decide) (Nat.le_of_ble_eq_true rfl) (by decide +kernel) ?_
        refine j_iadd F (pc := 179) (by decide +kernel) ?_
        obtain ⟨x_26, e27, h⟩ := z_lt_some h
        rw [← e27]
        refine j_istore F (pc := 180) (i := 6) (L' := [some (.ref 0), none, none, none, some (.int x4), none, some (.int x_26), some (.int x7)]) (by decide +kernel) (by decide) rfl rfl ?_
        refine j_iinc F (pc := 182) (i := 7) (n := 1) (v := 1) (L' := [some (.ref 0), none, none, none, some (.int x4), none, some (.int x_26), some (.int (x7 + (1 : Int32)))]) (by decide +kernel) rfl (by decide +kernel) (by decide) rfl rfl ?_
        refine j_goto F (pc := 185) (off := -47) (tgt := 138) (by decide +kernel) (by decide) ?_
        exact ih _ _ _ _ hρ21 h
set_option maxHeartbeats 4000000 in
set_option maxRecDepth 100000 in
theorem u_X4_hangsOn_113 {E : z_E} {ρ : Nat → Nat → Option Nat} {r : Int32} {μr : z_M} (F : z_F E RX4 cX4_hangsOn 8 5) (Rt : z_R E (some .int) (fun v μ1 => μ1.2.2 = ρ ∧ ∃ r1, v = some (.int r1) ∧ r = r1 ∧ μr = μ1))  (hk : z_ok (z_sh E.1) ρ) : ∀ (x1 : Int32) (x2 : Int32) (x3 : Int32) (x4 : Int32) (μ : z_M), μ.2.2 = ρ → g_X4_hangsOn_113   x1 x2 x3 x4 μ = some (r, μr) → z_J E 8 113 [some (.ref 0), some (.int x1), some (.int x2), some (.int x3), some (.int x4), none, none, none] [] μ := by
  intro x1 x2 x3 x4 μ hρ h
  unfold g_X4_hangsOn_113 at h
  refine j_aload_n F (pc := 113) (q := 0) (by decide +kernel) rfl ?_
  refine j_getR F (pc := 114) (hk.r hρ r_0_6) fl_X4_43 (hk.s c_0) rfl (by decide +kernel) ?_
  refine j_aload_n F (pc := 117) (q := 0) (by decide +kernel) rfl ?_
  refine j_getR F (pc := 118) (hk.r hρ r_0_0) fl_X4_11 (hk.s c_0) rfl (by decide +kernel) ?_
  refine j_iload_n F (pc := 121) (q := 1) (by decide +kernel) rfl ?_
  obtain ⟨hg, h⟩ := z_ifs h
  obtain ⟨r10, hr11, h⟩ := Option.bind_eq_some_iff.mp h
  have hb12 := hk.lawsAt hρ hr11
  refine j_aald F (pc := 122) (hk.s c_1) (by decide) hg hr11 (by decide +kernel) ?_
  refine j_aload_n F (pc := 123) (q := 0) (by decide +kernel) rfl ?_
  refine j_getR F (pc := 124) (hk.r hρ r_0_3) fl_X4_29 (hk.s c_0) rfl (by decide +kernel) ?_
  refine j_iload_n F (pc := 127) (q := 2) (by decide +kernel) rfl ?_
  refine j_iload_n F (pc := 128) (q := 3) (by decide +kernel) rfl ?_
  obtain ⟨μ14, hc16, h⟩ := z_b1_some h
  refine j_callVv F (pc := 129) (idx := 224) (As := [.ref r10, .ref 15, .int x2, .int x3]) (st := []) (t_X2_run (G := E.1) hρ hk hb12 (hk.shipB (by decide : 15 ∈ z_SHIPS)) hc16) q_X2_run v_X2_run m_717 (hk.s c_28) rfl rfl (by decide) (Nat.le_of_ble_eq_true rfl) rfl (by decide +kernel) (fun ν17 hq18 hp => ?_)
  subst hp
  have hρ15 : μ14.2.2 = ρ := hq18.trans hρ
  refine j_iconst F (pc := 132) (n := 0) (v := 0) (by decide +kernel) (by decide +kernel) ?_
  refine j_istore F (pc := 133) (i := 6) (L' := [some (.ref 0), some (.int x1), some (.int x2), some (.int x3), some (.int x4), none, some (.int (0 : Int32)), none]) (by decide +kernel) (by decide) rfl rfl ?_
  refine j_iconst F (pc := 135) (n := 0) (v := 0) (by decide +kernel) (by decide +kernel) ?_
  refine j_istore F (pc := 136) (i := 7) (L' := [some (.ref 0), some (.int x1), some (.int x2), some (.int x3), some (.int x4), none, some (.int (0 : Int32)), some (.int (0 : Int32))]) (by decide +kernel) (by decide) rfl rfl ?_
  refine j_mk F [true, false, false, false, true, false, true, true] (L' := [some (.ref 0), none, none, none, some (.int x4), none, some (.int (0 : Int32)), some (.int (0 : Int32))]) rfl ?_
  refine u_X4_hangsOn_138 F Rt hk  z_N _ _ _ _ hρ15 h
set_option maxHeartbeats 4000000 in
set_option maxRecDepth 100000 in
theorem t_X4_hangsOn {G : z_Gl} {ρ : Nat → Nat → Option Nat} {μ : z_M} {r : Int32} {μr : z_M} {x1 : Int32} {x2 : Int32} {x3 : Int32} {x4 : Int32} {x5 : Int32} (hρ : μ.2.2 = ρ) (hk : z_ok (z_sh G) ρ) (h : f_X4_hangsOn x1 x2 x3 x4 x5 μ = some (r, μr)) : z_Ci G yX4_hangsOn cX4_hangsOn 8 (some .int) 5 [.ref 0, .int x1, .int x2, .int x3, .int x4, .int x5] μ (fun r1 μ1 => r = r1 ∧ μr = μ1) := by
  unfold z_Ci
  refine z_intro (by decide +kernel) (Nat.le_of_ble_eq_true rfl) (fun E hE F Rt => ?_)
  subst hE
  have F : z_F E RX4 cX4_hangsOn 8 5 := F
  rw [hρ] at Rt
  unfold f_X4_hangsOn at h
  show z_J E 8 0 [some (.ref 0), some (.int x1), some (.int x2), some (.int x3), some (.int x4), some (.int x5), none, none] [] μ
  refine j_aload_n F (pc := 0) (q := 0) (by decide +kernel) rfl ?_
  refine j_getR F (pc := 1) (hk.r hρ r_0_3) fl_X4_29 (hk.s c_0) rfl (by decide +kernel) ?_
  refine j_aload_n F (pc := 4) (q := 0) (by decide +kernel) rfl ?_
  refine j_getR F (pc := 5) (hk.r hρ r_0_2) fl_X4_25 (hk.s c_0) rfl (by decide +kernel) ?_
  obtain ⟨μ2, hc4, h⟩ := z_b1_some h
  refine j_callVv F (pc := 8) (idx := 253) (As := [.ref 4]) (st := []) (t_X3_become (G := E.1) hρ (hk.shipB (by decide : 15 ∈ z_SHIPS)) (hk.shipB (by decide : 4 ∈ z_SHIPS)) hc4) q_X3_become v_X3_become m_802 ((hk.shipB (by decide : 15 ∈ z_SHIPS)).1 0 _ rfl) rfl rfl (by decide) (Nat.le_of_ble_eq_true rfl) rfl (by decide +kernel) (fun ν5 hq6 hp => ?_)
  subst hp
  have hρ3 : μ2.2.2 = ρ := hq6.trans hρ
  refine j_iload F (pc := 11) (i := 5) (by decide +kernel) rfl ?_
  by_cases c0 : x5 = 0
  · rw [if_pos c0] at h
    refine j_tableIn F (pc := 13) (dflt := 89) (lo := 0) (hi := 2) (offs := #[27, 39, 58]) (len := 27) (off := 27) (tgt := 40) (by decide +kernel) (by rw [c0]; decide) (by rw [c0]; decide) (by rw [c0]; decide +kernel) (by decide) ?_
    refine j_aload_n F (pc := 40) (q := 0) (by decide +kernel) rfl ?_
    refine j_getR F (pc := 41) (hk.r hρ3 r_0_3) fl_X4_29 (hk.s c_0) rfl (by decide +kernel) ?_
    refine j_iload F (pc := 44) (i := 4) (by decide +kernel) rfl ?_
    obtain ⟨μ29, hc31, h⟩ := z_b1_some h
    refine j_callVv F (pc := 46) (idx := 281) (As := [.int x4]) (st := []) (t_X3_takeAway (G := E.1) hρ3 (hk.shipB (by decide : 15 ∈ z_SHIPS)) hc31) q_X3_takeAway v_X3_takeAway m_823 ((hk.shipB (by decide : 15 ∈ z_SHIPS)).1 0 _ rfl) rfl rfl (by decide) (Nat.le_of_ble_eq_true rfl) rfl (by decide +kernel) (fun ν32 hq33 hp => ?_)
    subst hp
    have hρ30 : μ29.2.2 = ρ := hq33.trans hρ3
    refine j_goto F (pc := 49) (off := 64) (tgt := 113) (by decide +kernel) (by decide) ?_
    refine j_mk F [true, true, true, true, true, false, false, false] (L' := [some (.ref 0), some (.int x1), some (.int x2), some (.int x3), some (.int x4), none, none, none]) rfl ?_
    refine u_X4_hangsOn_113 F Rt hk  _ _ _ _ _ hρ30 h
  rw [if_neg c0] at h
  by_cases c1 : x5 = 1
  · rw [if_pos c1] at h
    refine j_tableIn F (pc := 13) (dflt := 89) (lo := 0) (hi := 2) (offs := #[27, 39, 58]) (len := 27) (off := 39) (tgt := 52) (by decide +kernel) (by rw [c1]; decide) (by rw [c1]; decide) (by rw [c1]; decide +kernel) (by decide) ?_
    refine j_aload_n F (pc := 52) (q := 0) (by decide +kernel) rfl ?_
    refine j_getR F (pc := 53) (hk.r hρ3 r_0_3) fl_X4_29 (hk.s c_0) rfl (by decide +kernel) ?_
    refine j_dup F (pc := 56) (by decide +kernel) rfl ?_
    refine j_getI F (pc := 57) fl_X4_178 ((hk.shipB (by decide : 15 ∈ z_SHIPS)).1 0 _ rfl) rfl (by decide +kernel) ?_
    refine j_iconst F (pc := 60) (n := 1) (v := 1) (by decide +kernel) (by decide +kernel) ?_
    refine j_iload F (pc := 61) (i := 4) (by decide +kernel) rfl ?_
    refine j_ishl F (pc := 63) (by decide +kernel) ?_
    refine j_ixor F (pc := 64) (by decide +kernel) ?_
    refine j_putI F (pc := 65) fl_X4_178 fp_X3_2 ((hk.shipB (by decide : 15 ∈ z_SHIPS)).1 0 _ rfl) rfl (by decide +kernel) ?_
    obtain ⟨μ34, e36, h⟩ := z_st_some h
    rw [← e36]
    have hρ35 : μ34.2.2 = ρ := by rw [e36]; exact hρ3
    refine j_goto F (pc := 68) (off := 45) (tgt := 113) (by decide +kernel) (by decide) ?_
    refine j_mk F [true, true, true, true, true, false, false, false] (L' := [some (.ref 0), some (.int x1), some (.int x2), some (.int x3), some (.int x4), none, none, none]) rfl ?_
    refine u_X4_hangsOn_113 F Rt hk  _ _ _ _ _ hρ35 h
  rw [if_neg c1] at h
  by_cases c2 : x5 = 2
  · rw [if_pos c2] at h
    refine j_tableIn F (pc := 13) (dflt := 89) (lo := 0) (hi := 2) (offs := #[27, 39, 58]) (len := 27) (off := 58) (tgt := 71) (by decide +kernel) (by rw [c2]; decide) (by rw [c2]; decide) (by rw [c2]; decide +kernel) (by decide) ?_
    refine j_aload_n F (pc := 71) (q := 0) (by decide +kernel) rfl ?_
    refine j_getR F (pc := 72) (hk.r hρ3 r_0_3) fl_X4_29 (hk.s c_0) rfl (by decide +kernel) ?_
    refine j_getR F (pc := 75) ((hk.shipB (by decide : 15 ∈ z_SHIPS)).r hρ3 7 rfl) fl_X4_172 ((hk.shipB (by decide : 15 ∈ z_SHIPS)).1 0 _ rfl) rfl (by decide +kernel) ?_
    refine j_iload F (pc := 78) (i := 4) (by decide +kernel) rfl ?_
    refine j_sipush F (pc := 80) (n := 999) (v := 999) (by decide +kernel) (by decide +kernel) ?_
    refine j_aload_n F (pc := 83) (q := 0) (by decide +kernel) rfl ?_
    refine j_getR F (pc := 84) (hk.r hρ3 r_0_3) fl_X4_29 (hk.s c_0) rfl (by decide +kernel) ?_
    refine j_getR F (pc := 87) ((hk.shipB (by decide : 15 ∈ z_SHIPS)).r hρ3 7 rfl) fl_X4_172 ((hk.shipB (by decide : 15 ∈ z_SHIPS)).1 0 _ rfl) rfl (by decide +kernel) ?_
    refine j_iload F (pc := 90) (i := 4) (by decide +kernel) rfl ?_
    obtain ⟨hg, h⟩ := z_ifs h
    refine j_iald F (pc := 92) ((hk.shipB (by decide : 15 ∈ z_SHIPS)).1 5 _ rfl) hg (by decide +kernel) ?_
    refine j_iconst F (pc := 93) (n := 1) (v := 1) (by decide +kernel) (by decide +kernel) ?_
    refine j_iadd F (pc := 94) (by decide +kernel) ?_
    refine j_mmin F (pc := 95) ⟨m_725, m_655, m_88, m_656⟩ (by decide) (Nat.le_of_ble_eq_true rfl) (by decide +kernel) ?_
    obtain ⟨hg, h⟩ := z_ifs h
    refine j_iast F (pc := 98) ((hk.shipB (by decide : 15 ∈ z_SHIPS)).1 5 _ rfl) hg (by decide +kernel) ?_
    obtain ⟨μ37, e39, h⟩ := z_st_some h
    rw [← e39]
    have hρ38 : μ37.2.2 = ρ := by rw [e39]; exact hρ3
    refine j_goto F (pc := 99) (off := 14) (tgt := 113) (by decide +kernel) (by decide) ?_
    refine j_mk F [true, true, true, true, true, false, false, false] (L' := [some (.ref 0), some (.int x1), some (.int x2), some (.int x3), some (.int x4), none, none, none]) rfl ?_
    refine u_X4_hangsOn_113 F Rt hk  _ _ _ _ _ hρ38 h
  rw [if_neg c2] at h
  refine j_tableOut F (pc := 13) (dflt := 89) (lo := 0) (hi := 2) (offs := #[27, 39, 58]) (len := 27) (tgt := 102) (by decide +kernel) (by have d0 := lv_neT (k := 0) (a := 0) c0 (by decide); have d1 := lv_neT (k := 1) (a := 1) c1 (by decide); have d2 := lv_neT (k := 2) (a := 2) c2 (by decide); omega) (by decide) ?_
  refine j_aload_n F (pc := 102) (q := 0) (by decide +kernel) rfl ?_
  refine j_getR F (pc := 103) (hk.r hρ3 r_0_3) fl_X4_29 (hk.s c_0) rfl (by decide +kernel) ?_
  refine j_getR F (pc := 106) ((hk.shipB (by decide : 15 ∈ z_SHIPS)).r hρ3 10 rfl) fl_X4_151 ((hk.shipB (by decide : 15 ∈ z_SHIPS)).1 0 _ rfl) rfl (by decide +kernel) ?_
  refine j_iload F (pc := 109) (i := 4) (by decide +kernel) rfl ?_
  refine j_iload_n F (pc := 111) (q := 2) (by decide +kernel) rfl ?_
  obtain ⟨hg, h⟩ := z_ifs h
  refine j_iast F (pc := 112) ((hk.shipB (by decide : 15 ∈ z_SHIPS)).1 8 _ rfl) hg (by decide +kernel) ?_
  obtain ⟨μ7, e9, h⟩ := z_st_some h
  rw [← e9]
  have hρ8 : μ7.2.2 = ρ := by rw [e9]; exact hρ3
  refine j_mk F [true, true, true, true, true, false, false, false] (L' := [some (.ref 0), some (.int x1), some (.int x2), some (.int x3), some (.int x4), none, none, none]) rfl ?_
  refine u_X4_hangsOn_113 F Rt hk  _ _ _ _ _ hρ8 h
def g_X4_hang_138   : Nat → Int32 → Int32 → Int32 → Int32 → Int32 → Int32 → Int32 → z_M → Option (Int32 × z_M)
  | 0, _, _, _, _, _, _, _, _ => none
  | n + 1, x1, x2, x3, x5, x6, x7, x8, μ => (if (μ.1 4 1) ≤ x8 then (some (x6, μ)) else (z_b2 (f_X4_hangsOn (x1) (x2) (x3) (x8) (x5) μ) fun r31 μ32 => (if r31 ≤ x7 then (g_X4_hang_138   n (x1) (x2) (x3) (x5) (x6) (x7) ((x8 + (1 : Int32))) μ32) else (g_X4_hang_138   n (x1) (x2) (x3) (x5) (x8) (r31) ((x8 + (1 : Int32))) μ32))))
def g_X4_hang_77   : Nat → Int32 → Int32 → Int32 → Int32 → Int32 → Int32 → z_M → Option (Int32 × z_M)
  | 0, _, _, _, _, _, _, _ => none
  | n + 1, x1, x2, x3, x4, x5, x6, μ => (if (μ.1 4 1) ≤ x6 then (if x4 = (-1 : Int32) then (g_X4_hang_138   z_N (x1) (x2) (x3) (x5) ((-1 : Int32)) ((0 : Int32)) ((0 : Int32)) μ) else (z_b2 (f_X4_hangsOn (x1) (x2) (x3) (x4) (x5) μ) fun r38 μ39 => (some (r38, μ39)))) else (z_b2 (f_X2_paidTo (x6) μ) fun r45 μ46 => (if z_in x6 14 then (z_st (z_si μ46 49 x6.toNatClampNeg r45) fun μ52 => (g_X4_hang_77   n (x1) (x2) (x3) (x4) (x5) ((x6 + (1 : Int32))) μ52)) else none)))
def g_X4_hang_26   (x1 : Int32) (x2 : Int32) (x3 : Int32) (x4 : Int32) (x5 : Int32) (μ : z_M) : Option (Int32 × z_M) :=
  (z_b2 (f_X4_isDay (x2) μ) fun r8 μ9 => (if r8 = 0 then (some ((-1002 : Int32), μ9)) else (z_b2 (f_X4_isWay (x3) μ9) fun r15 μ16 => (if r15 = 0 then (some ((-1002 : Int32), μ16)) else (if x5 < 0 then (some ((-1002 : Int32), μ16)) else (if x5 ≤ (3 : Int32) then (if z_in x1 4 then ((μ16.2.2 1 x1.toNatClampNeg).bind fun r22 => (z_b1 (f_X2_run (r22) (4) (x2) (x3) μ16) fun μ26 => (g_X4_hang_77   z_N (x1) (x2) (x3) (x4) (x5) ((0 : Int32)) μ26))) else none) else (some ((-1002 : Int32), μ16))))))))
def f_X4_hang (x1 : Int32) (x2 : Int32) (x3 : Int32) (x4 : Int32) (x5 : Int32) (μ : z_M) : Option (Int32 × z_M) :=
  (z_b2 (f_X4_isLand (x1) μ) fun r1 μ2 => (if r1 = 0 then (some ((-1001 : Int32), μ2)) else (if x4 = (-1 : Int32) then (g_X4_hang_26   (x1) (x2) (x3) (x4) (x5) μ2) else (z_b2 (f_X4_isClaim (x4) μ2) fun r55 μ56 => (if r55 = 0 then (some ((-1001 : Int32), μ56)) else (g_X4_hang_26   (x1) (x2) (x3) (x4) (x5) μ56))))))
set_option maxHeartbeats 4000000 in
set_option maxRecDepth 100000 in
theorem u_X4_hang_138 {E : z_E} {ρ : Nat → Nat → Option Nat} {r : Int32} {μr : z_M} (F : z_F E RX4 cX4_hang 10 6) (Rt : z_R E (some .int) (fun v μ1 => μ1.2.2 = ρ ∧ ∃ r1, v = some (.int r1) ∧ r = r1 ∧ μr = μ1))  (hk : z_ok (z_sh E.1) ρ) : ∀ (n : Nat) (x1 : Int32) (x2 : Int32) (x3 : Int32) (x5 : Int32) (x6 : Int32) (x7 : Int32) (x8 : Int32) (μ : z_M), μ.2.2 = ρ → g_X4_hang_138   n x1 x2 x3 x5 x6 x7 x8 μ = some (r, μr) → z_J E 10 138 [some (.ref 0), some (.int x1), some (.int x2), some (.int x3), none, some (.int x5), some (.int x6), some (.int x7), some (.int x8), none] [] μ := by
  intro n
  induction n with
  | zero =>
    intro x1 x2 x3 x5 x6 x7 x8 μ hρ h
    rw [g_X4_hang_138] at h
    cases h
  | succ n ih =>
    intro x1 x2 x3 x5 x6 x7 x8 μ hρ h
    rw [g_X4_hang_138] at h
    refine j_iload F (pc := 138) (i := 8) (by decide +kernel) rfl ?_
    refine j_aload_n F (pc := 140) (q := 0) (by decide +kernel) rfl ?_
    refine j_getR F (pc := 141) (hk.r hρ r_0_2) fl_X4_25 (hk.s c_0) rfl (by decide +kernel) ?_
    refine j_getI F (pc := 144) fl_X4_191 ((hk.shipB (by decide : 4 ∈ z_SHIPS)).1 0 _ rfl) rfl (by decide +kernel) ?_
    refine j_icmp_ge F (pc := 147) (off := 37) (tgt := 184) (by decide +kernel) (by decide) (fun c => ?_) (fun c => ?_)
    · rw [if_pos c] at h
      refine j_iload F (pc := 184) (i := 6) (by decide +kernel) rfl ?_
      exact j_iret (st := []) F Rt rfl (by decide +kernel) ⟨hρ, _, rfl, (congrArg Prod.fst (Option.some.inj h)).symm, (congrArg Prod.snd (Option.some.inj h)).symm⟩
    · rw [if_neg c] at h
      refine j_aload_n F (pc := 150) (q := 0) (by decide +kernel) rfl ?_
      refine j_iload_n F (pc := 151) (q := 1) (by decide +kernel) rfl ?_
      refine j_iload_n F (pc := 152) (q := 2) (by decide +kernel) rfl ?_
      refine j_iload_n F (pc := 153) (q := 3) (by decide +kernel) rfl ?_
      refine j_iload F (pc := 154) (i := 8) (by decide +kernel) rfl ?_
      refine j_iload F (pc := 156) (i := 5) (by decide +kernel) rfl ?_
      obtain ⟨r31, μ32, hc34, h⟩ := z_b2_some h
      refine j_callVi F (pc := 158) (idx := 275) (As := [.int x1, .int x2, .int x3, .int x8, .int x5]) (st := []) (t_X4_hangsOn (G := E.1) hρ hk hc34) q_X4_hangsOn v_X4_hangsOn m_851 (hk.s c_0) rfl rfl (by decide) (Nat.le_of_ble_eq_true rfl) rfl (by decide +kernel) (fun s37 ν35 hq36 hp => ?_)
      obtain ⟨rfl, rfl⟩ := hp
      have hρ33 : μ32.2.2 = ρ := hq36.trans hρ
      refine j_istore F (pc := 161) (i := 9) (L' := [some (.ref 0), some (.int x1), some (.int x2), some (.int x3), none, some (.int x5), some (.int x6), some (.int x7), some (.int x8), some (.int r31)]) (by decide +kernel) (by decide) rfl rfl ?_
      refine j_iload F (pc := 163) (i := 9) (by decide +kernel) rfl ?_
      refine j_iload F (pc := 165) (i := 7) (by decide +kernel) rfl ?_
      refine j_icmp_le F (pc := 167) (off := 11) (tgt := 178) (by decide +kernel) (by decide) (fun c => ?_) (fun c => ?_)
      · rw [if_pos c] at h
        refine j_iinc F (pc := 178) (i := 8) (n := 1) (v := 1) (L' := [some (.ref 0), some (.int x1), some (.int x2), some (.int x3), none, some (.int x5), some (.int x6), some (.int x7), some (.int (x8 + (1 : Int32))), some (.int r31)]) (by decide +kernel) rfl (by decide +kernel) (by decide) rfl rfl ?_
        refine j_goto F (pc := 181) (off := -43) (tgt := 138) (by decide +kernel) (by decide) ?_
        refine j_mk F [true, true, true, true, false, true, true, true, true, false] (L' := [some (.ref 0), some (.int x1), some (.int x2), some (.int x3), none, some (.int x5), some (.int x6), some (.int x7), some (.int (x8 + (1 : Int32))), none]) rfl ?_
        exact ih _ _ _ _ _ _ _ _ hρ33 h
      · rw [if_neg c] at h
        refine j_iload F (pc := 170) (i := 9) (by decide +kernel) rfl ?_
        refine j_istore F (pc := 172) (i := 7) (L' := [some (.ref 0), some (.int x1), some (.int x2), some (.int x3), none, some (.int x5), some (.int x6), some (.int r31), some (.int x8), some (.int r31)]) (by decide +kernel) (by decide) rfl rfl ?_
        refine j_iload F (pc := 174) (i := 8) (by decide +kernel) rfl ?_
        refine j_istore F (pc := 176) (i := 6) (L' := [some (.ref 0), some (.int x1), some (.int x2), some (.int x3), none, some (.int x5), some (.int x8), some (.int r31), some (.int x8), some (.int r31)]) (by decide +kernel) (by decide) rfl rfl ?_
        refine j_iinc F (pc := 178) (i := 8) (n := 1) (v := 1) (L' := [some (.ref 0), some (.int x1), some (.int x2), some (.int x3), none, some (.int x5), some (.int x8), some (.int r31), some (.int (x8 + (1 : Int32))), some (.int r31)]) (by decide +kernel) rfl (by decide +kernel) (by decide) rfl rfl ?_
        refine j_goto F (pc := 181) (off := -43) (tgt := 138) (by decide +kernel) (by decide) ?_
        refine j_mk F [true, true, true, true, false, true, true, true, true, false] (L' := [some (.ref 0), some (.int x1), some (.int x2), some (.int x3), none, some (.int x5), some (.int x8), some (.int r31), some (.int (x8 + (1 : Int32))), none]) rfl ?_
        exact ih _ _ _ _ _ _ _ _ hρ33 h
set_option maxHeartbeats 4000000 in
set_option maxRecDepth 100000 in
theorem u_X4_hang_77 {E : z_E} {ρ : Nat → Nat → Option Nat} {r : Int32} {μr : z_M} (F : z_F E RX4 cX4_hang 10 6) (Rt : z_R E (some .int) (fun v μ1 => μ1.2.2 = ρ ∧ ∃ r1, v = some (.int r1) ∧ r = r1 ∧ μr = μ1))  (hk : z_ok (z_sh E.1) ρ) : ∀ (n : Nat) (x1 : Int32) (x2 : Int32) (x3 : Int32) (x4 : Int32) (x5 : Int32) (x6 : Int32) (μ : z_M), μ.2.2 = ρ → g_X4_hang_77   n x1 x2 x3 x4 x5 x6 μ = some (r, μr) → z_J E 10 77 [some (.ref 0), some (.int x1), some (.int x2), some (.int x3), some (.int x4), some (.int x5), some (.int x6), none, none, none] [] μ := by
  intro n
  induction n with
  | zero =>
    intro x1 x2 x3 x4 x5 x6 μ hρ h
    rw [g_X4_hang_77] at h
    cases h
  | succ n ih =>
    intro x1 x2 x3 x4 x5 x6 μ hρ h
    rw [g_X4_hang_77] at h
    refine j_iload F (pc := 77) (i := 6) (by decide +kernel) rfl ?_
    refine j_aload_n F (pc := 79) (q := 0) (by decide +kernel) rfl ?_
    refine j_getR F (pc := 80) (hk.r hρ r_0_2) fl_X4_25 (hk.s c_0) rfl (by decide +kernel) ?_
    refine j_getI F (pc := 83) fl_X4_191 ((hk.shipB (by decide : 4 ∈ z_SHIPS)).1 0 _ rfl) rfl (by decide +kernel) ?_
    refine j_icmp_ge F (pc := 86) (off := 25) (tgt := 111) (by decide +kernel) (by decide) (fun c => ?_) (fun c => ?_)
    · rw [if_pos c] at h
      refine j_iload F (pc := 111) (i := 4) (by decide +kernel) rfl ?_
      refine j_iconst F (pc := 113) (n := -1) (v := -1) (by decide +kernel) (by decide +kernel) ?_
      refine j_icmp_eq F (pc := 114) (off := 15) (tgt := 129) (by decide +kernel) (by decide) (fun c => ?_) (fun c => ?_)
      · rw [if_pos c] at h
        refine j_iconst F (pc := 129) (n := -1) (v := -1) (by decide +kernel) (by decide +kernel) ?_
        refine j_istore F (pc := 130) (i := 6) (L' := [some (.ref 0), some (.int x1), some (.int x2), some (.int x3), some (.int x4), some (.int x5), some (.int (-1 : Int32)), none, none, none]) (by decide +kernel) (by decide) rfl rfl ?_
        refine j_iconst F (pc := 132) (n := 0) (v := 0) (by decide +kernel) (by decide +kernel) ?_
        refine j_istore F (pc := 133) (i := 7) (L' := [some (.ref 0), some (.int x1), some (.int x2), some (.int x3), some (.int x4), some (.int x5), some (.int (-1 : Int32)), some (.int (0 : Int32)), none, none]) (by decide +kernel) (by decide) rfl rfl ?_
        refine j_iconst F (pc := 135) (n := 0) (v := 0) (by decide +kernel) (by decide +kernel) ?_
        refine j_istore F (pc := 136) (i := 8) (L' := [some (.ref 0), some (.int x1), some (.int x2), some (.int x3), some (.int x4), some (.int x5), some (.int (-1 : Int32)), some (.int (0 : Int32)), some (.int (0 : Int32)), none]) (by decide +kernel) (by decide) rfl rfl ?_
        refine j_mk F [true, true, true, true, false, true, true, true, true, false] (L' := [some (.ref 0), some (.int x1), some (.int x2), some (.int x3), none, some (.int x5), some (.int (-1 : Int32)), some (.int (0 : Int32)), some (.int (0 : Int32)), none]) rfl ?_
        refine u_X4_hang_138 F Rt hk  z_N _ _ _ _ _ _ _ _ hρ h
      · rw [if_neg c] at h
        refine j_aload_n F (pc := 117) (q := 0) (by decide +kernel) rfl ?_
        refine j_iload_n F (pc := 118) (q := 1) (by decide +kernel) rfl ?_
        refine j_iload_n F (pc := 119) (q := 2) (by decide +kernel) rfl ?_
        refine j_iload_n F (pc := 120) (q := 3) (by decide +kernel) rfl ?_
        refine j_iload F (pc := 121) (i := 4) (by decide +kernel) rfl ?_
        refine j_iload F (pc := 123) (i := 5) (by decide +kernel) rfl ?_
        obtain ⟨r38, μ39, hc41, h⟩ := z_b2_some h
        refine j_callVi F (pc := 125) (idx := 275) (As := [.int x1, .int x2, .int x3, .int x4, .int x5]) (st := []) (t_X4_hangsOn (G := E.1) hρ hk hc41) q_X4_hangsOn v_X4_hangsOn m_851 (hk.s c_0) rfl rfl (by decide) (Nat.le_of_ble_eq_true rfl) rfl (by decide +kernel) (fun s44 ν42 hq43 hp => ?_)
        obtain ⟨rfl, rfl⟩ := hp
        have hρ40 : μ39.2.2 = ρ := hq43.trans hρ
        exact j_iret (st := []) F Rt rfl (by decide +kernel) ⟨hρ40, _, rfl, (congrArg Prod.fst (Option.some.inj h)).symm, (congrArg Prod.snd (Option.some.inj h)).symm⟩
    · rw [if_neg c] at h
      refine j_aload_n F (pc := 89) (q := 0) (by decide +kernel) rfl ?_
      refine j_getR F (pc := 90) (hk.r hρ r_0_7) fl_X4_47 (hk.s c_0) rfl (by decide +kernel) ?_
      refine j_iload F (pc := 93) (i := 6) (by decide +kernel) rfl ?_
      refine j_aload_n F (pc := 95) (q := 0) (by decide +kernel) rfl ?_
      refine j_getR F (pc := 96) (hk.r hρ r_0_6) fl_X4_43 (hk.s c_0) rfl (by decide +kernel) ?_
      refine j_iload F (pc := 99) (i := 6) (by decide +kernel) rfl ?_
      obtain ⟨r45, μ46, hc48, h⟩ := z_b2_some h
      refine j_callVi F (pc := 101) (idx := 228) (As := [.int x6]) (st := [.int x6, .ref 49]) (t_X2_paidTo (G := E.1) hρ hk hc48) q_X2_paidTo v_X2_paidTo m_762 (hk.s c_28) rfl rfl (by decide) (Nat.le_of_ble_eq_true rfl) rfl (by decide +kernel) (fun s51 ν49 hq50 hp => ?_)
      obtain ⟨rfl, rfl⟩ := hp
      have hρ47 : μ46.2.2 = ρ := hq50.trans hρ
      obtain ⟨hg, h⟩ := z_ifs h
      refine j_iast F (pc := 104) (hk.s c_49) hg (by decide +kernel) ?_
      obtain ⟨μ52, e54, h⟩ := z_st_some h
      rw [← e54]
      have hρ53 : μ52.2.2 = ρ := by rw [e54]; exact hρ47
      refine j_iinc F (pc := 105) (i := 6) (n := 1) (v := 1) (L' := [some (.ref 0), some (.int x1), some (.int x2), some (.int x3), some (.int x4), some (.int x5), some (.int (x6 + (1 : Int32))), none, none, none]) (by decide +kernel) rfl (by decide +kernel) (by decide) rfl rfl ?_
      refine j_goto F (pc := 108) (off := -31) (tgt := 77) (by decide +kernel) (by decide) ?_
      exact ih _ _ _ _ _ _ _ hρ53 h
set_option maxHeartbeats 4000000 in
set_option maxRecDepth 100000 in
theorem u_X4_hang_26 {E : z_E} {ρ : Nat → Nat → Option Nat} {r : Int32} {μr : z_M} (F : z_F E RX4 cX4_hang 10 6) (Rt : z_R E (some .int) (fun v μ1 => μ1.2.2 = ρ ∧ ∃ r1, v = some (.int r1) ∧ r = r1 ∧ μr = μ1))  (hk : z_ok (z_sh E.1) ρ) : ∀ (x1 : Int32) (x2 : Int32) (x3 : Int32) (x4 : Int32) (x5 : Int32) (μ : z_M), μ.2.2 = ρ → g_X4_hang_26   x1 x2 x3 x4 x5 μ = some (r, μr) → z_J E 10 26 [some (.ref 0), some (.int x1), some (.int x2), some (.int x3), some (.int x4), some (.int x5), none, none, none, none] [] μ := by
  intro x1 x2 x3 x4 x5 μ hρ h
  unfold g_X4_hang_26 at h
  refine j_iload_n F (pc := 26) (q := 2) (by decide +kernel) rfl ?_
  obtain ⟨r8, μ9, hc11, h⟩ := z_b2_some h
  refine j_callSi F (pc := 27) (idx := 131) (As := [.int x2]) (st := []) (t_X4_isDay (G := E.1) hρ  hc11) q_X4_isDay m_580 m_579 rfl (by decide) (Nat.le_of_ble_eq_true rfl) rfl (by decide +kernel) (fun s14 ν12 hq13 hp => ?_)
  obtain ⟨rfl, rfl⟩ := hp
  have hρ10 : μ9.2.2 = ρ := hq13.trans hρ
  refine j_if_eq F (pc := 30) (off := 21) (tgt := 51) (by decide +kernel) (by decide) (fun c => ?_) (fun c => ?_)
  · rw [if_pos c] at h
    refine j_sipush F (pc := 51) (n := -1002) (v := -1002) (by decide +kernel) (by decide +kernel) ?_
    exact j_iret (st := []) F Rt rfl (by decide +kernel) ⟨hρ10, _, rfl, (congrArg Prod.fst (Option.some.inj h)).symm, (congrArg Prod.snd (Option.some.inj h)).symm⟩
  · rw [if_neg c] at h
    refine j_iload_n F (pc := 33) (q := 3) (by decide +kernel) rfl ?_
    obtain ⟨r15, μ16, hc18, h⟩ := z_b2_some h
    refine j_callSi F (pc := 34) (idx := 221) (As := [.int x3]) (st := []) (t_X4_isWay (G := E.1) hρ10  hc18) q_X4_isWay m_715 m_714 rfl (by decide) (Nat.le_of_ble_eq_true rfl) rfl (by decide +kernel) (fun s21 ν19 hq20 hp => ?_)
    obtain ⟨rfl, rfl⟩ := hp
    have hρ17 : μ16.2.2 = ρ := hq20.trans hρ10
    refine j_if_eq F (pc := 37) (off := 14) (tgt := 51) (by decide +kernel) (by decide) (fun c => ?_) (fun c => ?_)
    · rw [if_pos c] at h
      refine j_sipush F (pc := 51) (n := -1002) (v := -1002) (by decide +kernel) (by decide +kernel) ?_
      exact j_iret (st := []) F Rt rfl (by decide +kernel) ⟨hρ17, _, rfl, (congrArg Prod.fst (Option.some.inj h)).symm, (congrArg Prod.snd (Option.some.inj h)).symm⟩
    · rw [if_neg c] at h
      refine j_iload F (pc := 40) (i := 5) (by decide +kernel) rfl ?_
      refine j_if_lt F (pc := 42) (off := 9) (tgt := 51) (by decide +kernel) (by decide) (fun c => ?_) (fun c => ?_)
      · rw [if_pos c] at h
        refine j_sipush F (pc := 51) (n := -1002) (v := -1002) (by decide +kernel) (by decide +kernel) ?_
        exact j_iret (st := []) F Rt rfl (by decide +kernel) ⟨hρ17, _, rfl, (congrArg Prod.fst (Option.some.inj h)).symm, (congrArg Prod.snd (Option.some.inj h)).symm⟩
      · rw [if_neg c] at h
        refine j_iload F (pc := 45) (i := 5) (by decide +kernel) rfl ?_
        refine j_iconst F (pc := 47) (n := 3) (v := 3) (by decide +kernel) (by decide +kernel) ?_
        refine j_icmp_le F (pc := 48) (off := 7) (tgt := 55) (by decide +kernel) (by decide) (fun c => ?_) (fun c => ?_)
        · rw [if_pos c] at h
          refine j_aload_n F (pc := 55) (q := 0) (by decide +kernel) rfl ?_
          refine j_getR F (pc := 56) (hk.r hρ17 r_0_6) fl_X4_43 (hk.s c_0) rfl (by decide +kernel) ?_
          refine j_aload_n F (pc := 59) (q := 0) (by decide +kernel) rfl ?_
          refine j_getR F (pc := 60) (hk.r hρ17 r_0_0) fl_X4_11 (hk.s c_0) rfl (by decide +kernel) ?_
          refine j_iload_n F (pc := 63) (q := 1) (by decide +kernel) rfl ?_
          obtain ⟨hg, h⟩ := z_ifs h
          obtain ⟨r22, hr23, h⟩ := Option.bind_eq_some_iff.mp h
          have hb24 := hk.lawsAt hρ17 hr23
          refine j_aald F (pc := 64) (hk.s c_1) (by decide) hg hr23 (by decide +kernel) ?_
          refine j_aload_n F (pc := 65) (q := 0) (by decide +kernel) rfl ?_
          refine j_getR F (pc := 66) (hk.r hρ17 r_0_2) fl_X4_25 (hk.s c_0) rfl (by decide +kernel) ?_
          refine j_iload_n F (pc := 69) (q := 2) (by decide +kernel) rfl ?_
          refine j_iload_n F (pc := 70) (q := 3) (by decide +kernel) rfl ?_
          obtain ⟨μ26, hc28, h⟩ := z_b1_some h
          refine j_callVv F (pc := 71) (idx := 224) (As := [.ref r22, .ref 4, .int x2, .int x3]) (st := []) (t_X2_run (G := E.1) hρ17 hk hb24 (hk.shipB (by decide : 4 ∈ z_SHIPS)) hc28) q_X2_run v_X2_run m_717 (hk.s c_28) rfl rfl (by decide) (Nat.le_of_ble_eq_true rfl) rfl (by decide +kernel) (fun ν29 hq30 hp => ?_)
          subst hp
          have hρ27 : μ26.2.2 = ρ := hq30.trans hρ17
          refine j_iconst F (pc := 74) (n := 0) (v := 0) (by decide +kernel) (by decide +kernel) ?_
          refine j_istore F (pc := 75) (i := 6) (L' := [some (.ref 0), some (.int x1), some (.int x2), some (.int x3), some (.int x4), some (.int x5), some (.int (0 : Int32)), none, none, none]) (by decide +kernel) (by decide) rfl rfl ?_
          refine u_X4_hang_77 F Rt hk  z_N _ _ _ _ _ _ _ hρ27 h
        · rw [if_neg c] at h
          refine j_sipush F (pc := 51) (n := -1002) (v := -1002) (by decide +kernel) (by decide +kernel) ?_
          exact j_iret (st := []) F Rt rfl (by decide +kernel) ⟨hρ17, _, rfl, (congrArg Prod.fst (Option.some.inj h)).symm, (congrArg Prod.snd (Option.some.inj h)).symm⟩
set_option maxHeartbeats 4000000 in
set_option maxRecDepth 100000 in
theorem t_X4_hang {G : z_Gl} {ρ : Nat → Nat → Option Nat} {μ : z_M} {r : Int32} {μr : z_M} {x1 : Int32} {x2 : Int32} {x3 : Int32} {x4 : Int32} {x5 : Int32} (hρ : μ.2.2 = ρ) (hk : z_ok (z_sh G) ρ) (h : f_X4_hang x1 x2 x3 x4 x5 μ = some (r, μr)) : z_Ci G yX4_hang cX4_hang 10 (some .int) 6 [.ref 0, .int x1, .int x2, .int x3, .int x4, .int x5] μ (fun r1 μ1 => r = r1 ∧ μr = μ1) := by
  unfold z_Ci
  refine z_intro (by decide +kernel) (Nat.le_of_ble_eq_true rfl) (fun E hE F Rt => ?_)
  subst hE
  have F : z_F E RX4 cX4_hang 10 6 := F
  rw [hρ] at Rt
  unfold f_X4_hang at h
  show z_J E 10 0 [some (.ref 0), some (.int x1), some (.int x2), some (.int x3), some (.int x4), some (.int x5), none, none, none, none] [] μ
  refine j_iload_n F (pc := 0) (q := 1) (by decide +kernel) rfl ?_
  obtain ⟨r1, μ2, hc4, h⟩ := z_b2_some h
  refine j_callSi F (pc := 1) (idx := 67) (As := [.int x1]) (st := []) (t_X4_isLand (G := E.1) hρ  hc4) q_X4_isLand m_387 m_386 rfl (by decide) (Nat.le_of_ble_eq_true rfl) rfl (by decide +kernel) (fun s7 ν5 hq6 hp => ?_)
  obtain ⟨rfl, rfl⟩ := hp
  have hρ3 : μ2.2.2 = ρ := hq6.trans hρ
  refine j_if_eq F (pc := 4) (off := 18) (tgt := 22) (by decide +kernel) (by decide) (fun c => ?_) (fun c => ?_)
  · rw [if_pos c] at h
    refine j_sipush F (pc := 22) (n := -1001) (v := -1001) (by decide +kernel) (by decide +kernel) ?_
    exact j_iret (st := []) F Rt rfl (by decide +kernel) ⟨hρ3, _, rfl, (congrArg Prod.fst (Option.some.inj h)).symm, (congrArg Prod.snd (Option.some.inj h)).symm⟩
  · rw [if_neg c] at h
    refine j_iload F (pc := 7) (i := 4) (by decide +kernel) rfl ?_
    refine j_iconst F (pc := 9) (n := -1) (v := -1) (by decide +kernel) (by decide +kernel) ?_
    refine j_icmp_eq F (pc := 10) (off := 16) (tgt := 26) (by decide +kernel) (by decide) (fun c => ?_) (fun c => ?_)
    · rw [if_pos c] at h
      refine u_X4_hang_26 F Rt hk  _ _ _ _ _ _ hρ3 h
    · rw [if_neg c] at h
      refine j_aload_n F (pc := 13) (q := 0) (by decide +kernel) rfl ?_
      refine j_iload F (pc := 14) (i := 4) (by decide +kernel) rfl ?_
      obtain ⟨r55, μ56, hc58, h⟩ := z_b2_some h
      refine j_callVi F (pc := 16) (idx := 148) (As := [.int x4]) (st := []) (t_X4_isClaim (G := E.1) hρ3 hk hc58) q_X4_isClaim v_X4_isClaim m_605 (hk.s c_0) rfl rfl (by decide) (Nat.le_of_ble_eq_true rfl) rfl (by decide +kernel) (fun s61 ν59 hq60 hp => ?_)
      obtain ⟨rfl, rfl⟩ := hp
      have hρ57 : μ56.2.2 = ρ := hq60.trans hρ3
      refine j_if_ne F (pc := 19) (off := 7) (tgt := 26) (by decide +kernel) (by decide) (fun c => ?_) (fun c => ?_)
      · rw [if_neg c] at h
        refine u_X4_hang_26 F Rt hk  _ _ _ _ _ _ hρ57 h
      · rw [if_pos c] at h
        refine j_sipush F (pc := 22) (n := -1001) (v := -1001) (by decide +kernel) (by decide +kernel) ?_
        exact j_iret (st := []) F Rt rfl (by decide +kernel) ⟨hρ57, _, rfl, (congrArg Prod.fst (Option.some.inj h)).symm, (congrArg Prod.snd (Option.some.inj h)).symm⟩
/-- LastLent.isImage -/
def f_X4_isImage (x0 : Int32) (μ : z_M) : Option (Int32 × z_M) :=
  (some ((if x0 < 0 then (0 : Int32) else (if (2 : Int32) ≤ x0 then (0 : Int32) else (1 : Int32))), μ))
set_option maxHeartbeats 4000000 in
set_option maxRecDepth 100000 in
theorem t_X4_isImage {G : z_Gl} {ρ : Nat → Nat → Option Nat} {μ : z_M} {r : Int32} {μr : z_M} {x0 : Int32} (hρ : μ.2.2 = ρ)  (h : f_X4_isImage x0 μ = some (r, μr)) : z_Ci G yX4_isImage cX4_isImage 1 (some .boolean) 0 [.int x0] μ (fun r1 μ1 => r = r1 ∧ μr = μ1) := by
  unfold z_Ci
  refine z_intro (by decide +kernel) (Nat.le_of_ble_eq_true rfl) (fun E hE F Rt => ?_)
  subst hE
  have F : z_F E RX4 cX4_isImage 1 0 := F
  rw [hρ] at Rt
  unfold f_X4_isImage at h
  show z_J E 1 0 [some (.int x0)] [] μ
  refine j_iload_n F (pc := 0) (q := 0) (by decide +kernel) rfl ?_
  suffices hj : z_J E 1 14 [some (.int x0)] (.int (if x0 < 0 then (0 : Int32) else (if (2 : Int32) ≤ x0 then (0 : Int32) else (1 : Int32))) :: []) μ by
    refine j_if_lt F (pc := 1) (off := 12) (tgt := 13) (by decide +kernel) (by decide) (fun c0 => ?_) (fun c0 => ?_)
    · rw [if_pos c0] at hj
      refine j_iconst F (pc := 13) (n := 0) (v := 0) (by decide +kernel) (by decide +kernel) ?_
      exact hj
    · rw [if_neg c0] at hj
      refine j_iload_n F (pc := 4) (q := 0) (by decide +kernel) rfl ?_
      refine j_iconst F (pc := 5) (n := 2) (v := 2) (by decide +kernel) (by decide +kernel) ?_
      refine j_icmp_ge F (pc := 6) (off := 7) (tgt := 13) (by decide +kernel) (by decide) (fun c1 => ?_) (fun c1 => ?_)
      · rw [if_pos c1] at hj
        refine j_iconst F (pc := 13) (n := 0) (v := 0) (by decide +kernel) (by decide +kernel) ?_
        exact hj
      · rw [if_neg c1] at hj
        refine j_iconst F (pc := 9) (n := 1) (v := 1) (by decide +kernel) (by decide +kernel) ?_
        refine j_goto F (pc := 10) (off := 4) (tgt := 14) (by decide +kernel) (by decide) ?_
        exact hj
  exact j_iret (st := []) F Rt (z_nb (by repeat' (first | exact Or.inl rfl | exact Or.inr rfl | split))) (by decide +kernel) ⟨hρ, _, rfl, (congrArg Prod.fst (Option.some.inj h)).symm, (congrArg Prod.snd (Option.some.inj h)).symm⟩
/-- LastLent.keep -/
def f_X4_keep (x1 : Int32) (μ : z_M) : Option (Int32 × z_M) :=
  (z_b2 (f_X4_isImage (x1) μ) fun r1 μ2 => (if r1 = 0 then (some ((-1001 : Int32), μ2)) else (if z_in x1 2 then ((μ2.2.2 26 x1.toNatClampNeg).bind fun r8 => (z_b1 (f_X3_become (r8) (4) μ2) fun μ12 => (if z_in x1 2 then (z_st (z_si μ12 27 x1.toNatClampNeg ((1 : Int32) &&& 1)) fun μ17 => (some ((1 : Int32), μ17))) else none))) else none)))
set_option maxHeartbeats 4000000 in
set_option maxRecDepth 100000 in
theorem t_X4_keep {G : z_Gl} {ρ : Nat → Nat → Option Nat} {μ : z_M} {r : Int32} {μr : z_M} {x1 : Int32} (hρ : μ.2.2 = ρ) (hk : z_ok (z_sh G) ρ) (h : f_X4_keep x1 μ = some (r, μr)) : z_Ci G yX4_keep cX4_keep 2 (some .int) 3 [.ref 0, .int x1] μ (fun r1 μ1 => r = r1 ∧ μr = μ1) := by
  unfold z_Ci
  refine z_intro (by decide +kernel) (Nat.le_of_ble_eq_true rfl) (fun E hE F Rt => ?_)
  subst hE
  have F : z_F E RX4 cX4_keep 2 3 := F
  rw [hρ] at Rt
  unfold f_X4_keep at h
  show z_J E 2 0 [some (.ref 0), some (.int x1)] [] μ
  refine j_iload_n F (pc := 0) (q := 1) (by decide +kernel) rfl ?_
  obtain ⟨r1, μ2, hc4, h⟩ := z_b2_some h
  refine j_callSi F (pc := 1) (idx := 278) (As := [.int x1]) (st := []) (t_X4_isImage (G := E.1) hρ  hc4) q_X4_isImage m_863 m_862 rfl (by decide) (Nat.le_of_ble_eq_true rfl) rfl (by decide +kernel) (fun s7 ν5 hq6 hp => ?_)
  obtain ⟨rfl, rfl⟩ := hp
  have hρ3 : μ2.2.2 = ρ := hq6.trans hρ
  refine j_if_ne F (pc := 4) (off := 7) (tgt := 11) (by decide +kernel) (by decide) (fun c => ?_) (fun c => ?_)
  · rw [if_neg c] at h
    refine j_aload_n F (pc := 11) (q := 0) (by decide +kernel) rfl ?_
    refine j_getR F (pc := 12) (hk.r hρ3 r_0_4) fl_X4_32 (hk.s c_0) rfl (by decide +kernel) ?_
    refine j_iload_n F (pc := 15) (q := 1) (by decide +kernel) rfl ?_
    obtain ⟨hg, h⟩ := z_ifs h
    obtain ⟨r8, hr9, h⟩ := Option.bind_eq_some_iff.mp h
    have hb10 := hk.imgAt hρ3 hr9
    refine j_aald F (pc := 16) (hk.s c_26) (by decide) hg hr9 (by decide +kernel) ?_
    refine j_aload_n F (pc := 17) (q := 0) (by decide +kernel) rfl ?_
    refine j_getR F (pc := 18) (hk.r hρ3 r_0_2) fl_X4_25 (hk.s c_0) rfl (by decide +kernel) ?_
    obtain ⟨μ12, hc14, h⟩ := z_b1_some h
    refine j_callVv F (pc := 21) (idx := 253) (As := [.ref 4]) (st := []) (t_X3_become (G := E.1) hρ3 hb10 (hk.shipB (by decide : 4 ∈ z_SHIPS)) hc14) q_X3_become v_X3_become m_802 (hb10.1 0 _ rfl) rfl rfl (by decide) (Nat.le_of_ble_eq_true rfl) rfl (by decide +kernel) (fun ν15 hq16 hp => ?_)
    subst hp
    have hρ13 : μ12.2.2 = ρ := hq16.trans hρ3
    refine j_aload_n F (pc := 24) (q := 0) (by decide +kernel) rfl ?_
    refine j_getR F (pc := 25) (hk.r hρ13 r_0_5) fl_X4_36 (hk.s c_0) rfl (by decide +kernel) ?_
    refine j_iload_n F (pc := 28) (q := 1) (by decide +kernel) rfl ?_
    refine j_iconst F (pc := 29) (n := 1) (v := 1) (by decide +kernel) (by decide +kernel) ?_
    obtain ⟨hg, h⟩ := z_ifs h
    refine j_zast F (pc := 30) (hk.s c_27) hg (by decide +kernel) ?_
    obtain ⟨μ17, e19, h⟩ := z_st_some h
    rw [← e19]
    have hρ18 : μ17.2.2 = ρ := by rw [e19]; exact hρ13
    refine j_iconst F (pc := 31) (n := 1) (v := 1) (by decide +kernel) (by decide +kernel) ?_
    exact j_iret (st := []) F Rt rfl (by decide +kernel) ⟨hρ18, _, rfl, (congrArg Prod.fst (Option.some.inj h)).symm, (congrArg Prod.snd (Option.some.inj h)).symm⟩
  · rw [if_pos c] at h
    refine j_sipush F (pc := 7) (n := -1001) (v := -1001) (by decide +kernel) (by decide +kernel) ?_
    exact j_iret (st := []) F Rt rfl (by decide +kernel) ⟨hρ3, _, rfl, (congrArg Prod.fst (Option.some.inj h)).symm, (congrArg Prod.snd (Option.some.inj h)).symm⟩
/-- LastLent.goBack -/
def f_X4_goBack (x1 : Int32) (μ : z_M) : Option (Int32 × z_M) :=
  (z_b2 (f_X4_isImage (x1) μ) fun r1 μ2 => (if r1 = 0 then (some ((-1001 : Int32), μ2)) else (if z_in x1 2 then (if (μ2.1 27 x1.toNatClampNeg) = 0 then (some ((-1003 : Int32), μ2)) else (if z_in x1 2 then ((μ2.2.2 26 x1.toNatClampNeg).bind fun r8 => (z_b1 (f_X3_become (4) (r8) μ2) fun μ12 => (some ((1 : Int32), μ12)))) else none)) else none)))
set_option maxHeartbeats 4000000 in
set_option maxRecDepth 100000 in
theorem t_X4_goBack {G : z_Gl} {ρ : Nat → Nat → Option Nat} {μ : z_M} {r : Int32} {μr : z_M} {x1 : Int32} (hρ : μ.2.2 = ρ) (hk : z_ok (z_sh G) ρ) (h : f_X4_goBack x1 μ = some (r, μr)) : z_Ci G yX4_goBack cX4_goBack 2 (some .int) 3 [.ref 0, .int x1] μ (fun r1 μ1 => r = r1 ∧ μr = μ1) := by
  unfold z_Ci
  refine z_intro (by decide +kernel) (Nat.le_of_ble_eq_true rfl) (fun E hE F Rt => ?_)
  subst hE
  have F : z_F E RX4 cX4_goBack 2 3 := F
  rw [hρ] at Rt
  unfold f_X4_goBack at h
  show z_J E 2 0 [some (.ref 0), some (.int x1)] [] μ
  refine j_iload_n F (pc := 0) (q := 1) (by decide +kernel) rfl ?_
  obtain ⟨r1, μ2, hc4, h⟩ := z_b2_some h
  refine j_callSi F (pc := 1) (idx := 278) (As := [.int x1]) (st := []) (t_X4_isImage (G := E.1) hρ  hc4) q_X4_isImage m_863 m_862 rfl (by decide) (Nat.le_of_ble_eq_true rfl) rfl (by decide +kernel) (fun s7 ν5 hq6 hp => ?_)
  obtain ⟨rfl, rfl⟩ := hp
  have hρ3 : μ2.2.2 = ρ := hq6.trans hρ
  refine j_if_ne F (pc := 4) (off := 7) (tgt := 11) (by decide +kernel) (by decide) (fun c => ?_) (fun c => ?_)
  · rw [if_neg c] at h
    refine j_aload_n F (pc := 11) (q := 0) (by decide +kernel) rfl ?_
    refine j_getR F (pc := 12) (hk.r hρ3 r_0_5) fl_X4_36 (hk.s c_0) rfl (by decide +kernel) ?_
    refine j_iload_n F (pc := 15) (q := 1) (by decide +kernel) rfl ?_
    obtain ⟨hg, h⟩ := z_ifs h
    refine j_zald F (pc := 16) (hk.s c_27) hg (by decide +kernel) ?_
    refine j_if_ne F (pc := 17) (off := 7) (tgt := 24) (by decide +kernel) (by decide) (fun c => ?_) (fun c => ?_)
    · rw [if_neg c] at h
      refine j_aload_n F (pc := 24) (q := 0) (by decide +kernel) rfl ?_
      refine j_getR F (pc := 25) (hk.r hρ3 r_0_2) fl_X4_25 (hk.s c_0) rfl (by decide +kernel) ?_
      refine j_aload_n F (pc := 28) (q := 0) (by decide +kernel) rfl ?_
      refine j_getR F (pc := 29) (hk.r hρ3 r_0_4) fl_X4_32 (hk.s c_0) rfl (by decide +kernel) ?_
      refine j_iload_n F (pc := 32) (q := 1) (by decide +kernel) rfl ?_
      obtain ⟨hg, h⟩ := z_ifs h
      obtain ⟨r8, hr9, h⟩ := Option.bind_eq_some_iff.mp h
      have hb10 := hk.imgAt hρ3 hr9
      refine j_aald F (pc := 33) (hk.s c_26) (by decide) hg hr9 (by decide +kernel) ?_
      obtain ⟨μ12, hc14, h⟩ := z_b1_some h
      refine j_callVv F (pc := 34) (idx := 253) (As := [.ref r8]) (st := []) (t_X3_become (G := E.1) hρ3 (hk.shipB (by decide : 4 ∈ z_SHIPS)) hb10 hc14) q_X3_become v_X3_become m_802 ((hk.shipB (by decide : 4 ∈ z_SHIPS)).1 0 _ rfl) rfl rfl (by decide) (Nat.le_of_ble_eq_true rfl) rfl (by decide +kernel) (fun ν15 hq16 hp => ?_)
      subst hp
      have hρ13 : μ12.2.2 = ρ := hq16.trans hρ3
      refine j_iconst F (pc := 37) (n := 1) (v := 1) (by decide +kernel) (by decide +kernel) ?_
      exact j_iret (st := []) F Rt rfl (by decide +kernel) ⟨hρ13, _, rfl, (congrArg Prod.fst (Option.some.inj h)).symm, (congrArg Prod.snd (Option.some.inj h)).symm⟩
    · rw [if_pos c] at h
      refine j_sipush F (pc := 20) (n := -1003) (v := -1003) (by decide +kernel) (by decide +kernel) ?_
      exact j_iret (st := []) F Rt rfl (by decide +kernel) ⟨hρ3, _, rfl, (congrArg Prod.fst (Option.some.inj h)).symm, (congrArg Prod.snd (Option.some.inj h)).symm⟩
  · rw [if_pos c] at h
    refine j_sipush F (pc := 7) (n := -1001) (v := -1001) (by decide +kernel) (by decide +kernel) ?_
    exact j_iret (st := []) F Rt rfl (by decide +kernel) ⟨hρ3, _, rfl, (congrArg Prod.fst (Option.some.inj h)).symm, (congrArg Prod.snd (Option.some.inj h)).symm⟩
def g_X5_bare_65   : Nat → Int32 → z_M → Option z_M
  | 0, _, _ => none
  | n + 1, x1, μ => (if (5 : Int32) ≤ x1 then (some μ) else (if z_in x1 5 then (z_st (z_si μ 110 x1.toNatClampNeg (0 : Int32)) fun μ1 => (g_X5_bare_65   n ((x1 + (1 : Int32))) μ1)) else none))
def g_X5_bare_44   : Nat → Int32 → z_M → Option z_M
  | 0, _, _ => none
  | n + 1, x1, μ => (if (64 : Int32) ≤ x1 then (g_X5_bare_65   z_N ((0 : Int32)) μ) else (if z_in x1 64 then (z_st (z_si μ 109 x1.toNatClampNeg ((0 : Int32) &&& 1)) fun μ4 => (g_X5_bare_44   n ((x1 + (1 : Int32))) μ4)) else none))
def g_X5_bare_2   : Nat → Int32 → z_M → Option z_M
  | 0, _, _ => none
  | n + 1, x1, μ => (if (8 : Int32) ≤ x1 then (g_X5_bare_44   z_N ((0 : Int32)) μ) else (if z_in x1 8 then (z_st (z_si μ 105 x1.toNatClampNeg (0 : Int32)) fun μ7 => (if z_in x1 8 then (z_st (z_si μ7 106 x1.toNatClampNeg (0 : Int32)) fun μ10 => (if z_in x1 8 then (z_st (z_si μ10 107 x1.toNatClampNeg (0 : Int32)) fun μ13 => (if z_in x1 8 then (z_st (z_si μ13 108 x1.toNatClampNeg ((0 : Int32) &&& 1)) fun μ16 => (g_X5_bare_2   n ((x1 + (1 : Int32))) μ16)) else none)) else none)) else none)) else none))
def f_X5_bare  (μ : z_M) : Option z_M :=
  (g_X5_bare_2   z_N ((0 : Int32)) μ)
set_option maxHeartbeats 4000000 in
set_option maxRecDepth 100000 in
theorem u_X5_bare_65 {E : z_E} {ρ : Nat → Nat → Option Nat} {μr : z_M} (F : z_F E RX5 cX5_bare 2 0) (Rt : z_R E none (fun v μ1 => μ1.2.2 = ρ ∧ v = none ∧ μr = μ1))  (hk : z_ok (z_sh E.1) ρ) : ∀ (n : Nat) (x1 : Int32) (μ : z_M), μ.2.2 = ρ → g_X5_bare_65   n x1 μ = some μr → z_J E 2 65 [some (.ref 98), some (.int x1)] [] μ := by
  intro n
  induction n with
  | zero =>
    intro x1 μ hρ h
    rw [g_X5_bare_65] at h
    cases h
  | succ n ih =>
    intro x1 μ hρ h
    rw [g_X5_bare_65] at h
    refine j_iload_n F (pc := 65) (q := 1) (by decide +kernel) rfl ?_
    refine j_iconst F (pc := 66) (n := 5) (v := 5) (by decide +kernel) (by decide +kernel) ?_
    refine j_icmp_ge F (pc := 67) (off := 16) (tgt := 83) (by decide +kernel) (by decide) (fun c => ?_) (fun c => ?_)
    · rw [if_pos c] at h
      exact j_vret (st := []) F Rt (by decide +kernel) ⟨hρ, rfl, (Option.some.inj h).symm⟩
    · rw [if_neg c] at h
      refine j_aload_n F (pc := 70) (q := 0) (by decide +kernel) rfl ?_
      refine j_getR F (pc := 71) (hk.r hρ r_98_11) fl_X5_44 (hk.s c_98) rfl (by decide +kernel) ?_
      refine j_iload_n F (pc := 74) (q := 1) (by decide +kernel) rfl ?_
      refine j_iconst F (pc := 75) (n := 0) (v := 0) (by decide +kernel) (by decide +kernel) ?_
      obtain ⟨hg, h⟩ := z_ifs h
      refine j_iast F (pc := 76) (hk.s c_110) hg (by decide +kernel) ?_
      obtain ⟨μ1, e3, h⟩ := z_st_some h
      rw [← e3]
      have hρ2 : μ1.2.2 = ρ := by rw [e3]; exact hρ
      refine j_iinc F (pc := 77) (i := 1) (n := 1) (v := 1) (L' := [some (.ref 98), some (.int (x1 + (1 : Int32)))]) (by decide +kernel) rfl (by decide +kernel) (by decide) rfl rfl ?_
      refine j_goto F (pc := 80) (off := -15) (tgt := 65) (by decide +kernel) (by decide) ?_
      exact ih _ _ hρ2 h
set_option maxHeartbeats 4000000 in
set_option maxRecDepth 100000 in
theorem u_X5_bare_44 {E : z_E} {ρ : Nat → Nat → Option Nat} {μr : z_M} (F : z_F E RX5 cX5_bare 2 0) (Rt : z_R E none (fun v μ1 => μ1.2.2 = ρ ∧ v = none ∧ μr = μ1))  (hk : z_ok (z_sh E.1) ρ) : ∀ (n : Nat) (x1 : Int32) (μ : z_M), μ.2.2 = ρ → g_X5_bare_44   n x1 μ = some μr → z_J E 2 44 [some (.ref 98), some (.int x1)] [] μ := by
  intro n
  induction n with
  | zero =>
    intro x1 μ hρ h
    rw [g_X5_bare_44] at h
    cases h
  | succ n ih =>
    intro x1 μ hρ h
    rw [g_X5_bare_44] at h
    refine j_iload_n F (pc := 44) (q := 1) (by decide +kernel) rfl ?_
    refine j_bipush F (pc := 45) (n := 64) (v := 64) (by decide +kernel) (by decide +kernel) ?_
    refine j_icmp_ge F (pc := 47) (off := 16) (tgt := 63) (by decide +kernel) (by decide) (fun c => ?_) (fun c => ?_)
    · rw [if_pos c] at h
      refine j_iconst F (pc := 63) (n := 0) (v := 0) (by decide +kernel) (by decide +kernel) ?_
      refine j_istore_n F (pc := 64) (q := 1) (L' := [some (.ref 98), some (.int (0 : Int32))]) (by decide +kernel) (by decide) rfl rfl ?_
      refine u_X5_bare_65 F Rt hk  z_N _ _ hρ h
    · rw [if_neg c] at h
      refine j_aload_n F (pc := 50) (q := 0) (by decide +kernel) rfl ?_
      refine j_getR F (pc := 51) (hk.r hρ r_98_10) fl_X5_41 (hk.s c_98) rfl (by decide +kernel) ?_
      refine j_iload_n F (pc := 54) (q := 1) (by decide +kernel) rfl ?_
      refine j_iconst F (pc := 55) (n := 0) (v := 0) (by decide +kernel) (by decide +kernel) ?_
      obtain ⟨hg, h⟩ := z_ifs h
      refine j_zast F (pc := 56) (hk.s c_109) hg (by decide +kernel) ?_
      obtain ⟨μ4, e6, h⟩ := z_st_some h
      rw [← e6]
      have hρ5 : μ4.2.2 = ρ := by rw [e6]; exact hρ
      refine j_iinc F (pc := 57) (i := 1) (n := 1) (v := 1) (L' := [some (.ref 98), some (.int (x1 + (1 : Int32)))]) (by decide +kernel) rfl (by decide +kernel) (by decide) rfl rfl ?_
      refine j_goto F (pc := 60) (off := -16) (tgt := 44) (by decide +kernel) (by decide) ?_
      exact ih _ _ hρ5 h
set_option maxHeartbeats 4000000 in
set_option maxRecDepth 100000 in
theorem u_X5_bare_2 {E : z_E} {ρ : Nat → Nat → Option Nat} {μr : z_M} (F : z_F E RX5 cX5_bare 2 0) (Rt : z_R E none (fun v μ1 => μ1.2.2 = ρ ∧ v = none ∧ μr = μ1))  (hk : z_ok (z_sh E.1) ρ) : ∀ (n : Nat) (x1 : Int32) (μ : z_M), μ.2.2 = ρ → g_X5_bare_2   n x1 μ = some μr → z_J E 2 2 [some (.ref 98), some (.int x1)] [] μ := by
  intro n
  induction n with
  | zero =>
    intro x1 μ hρ h
    rw [g_X5_bare_2] at h
    cases h
  | succ n ih =>
    intro x1 μ hρ h
    rw [g_X5_bare_2] at h
    refine j_iload_n F (pc := 2) (q := 1) (by decide +kernel) rfl ?_
    refine j_bipush F (pc := 3) (n := 8) (v := 8) (by decide +kernel) (by decide +kernel) ?_
    refine j_icmp_ge F (pc := 5) (off := 37) (tgt := 42) (by decide +kernel) (by decide) (fun c => ?_) (fun c => ?_)
    · rw [if_pos c] at h
      refine j_iconst F (pc := 42) (n := 0) (v := 0) (by decide +kernel) (by decide +kernel) ?_
      refine j_istore_n F (pc := 43) (q := 1) (L' := [some (.ref 98), some (.int (0 : Int32))]) (by decide +kernel) (by decide) rfl rfl ?_
      refine u_X5_bare_44 F Rt hk  z_N _ _ hρ h
    · rw [if_neg c] at h
      refine j_aload_n F (pc := 8) (q := 0) (by decide +kernel) rfl ?_
      refine j_getR F (pc := 9) (hk.r hρ r_98_6) fl_X5_29 (hk.s c_98) rfl (by decide +kernel) ?_
      refine j_iload_n F (pc := 12) (q := 1) (by decide +kernel) rfl ?_
      refine j_iconst F (pc := 13) (n := 0) (v := 0) (by decide +kernel) (by decide +kernel) ?_
      obtain ⟨hg, h⟩ := z_ifs h
      refine j_iast F (pc := 14) (hk.s c_105) hg (by decide +kernel) ?_
      obtain ⟨μ7, e9, h⟩ := z_st_some h
      rw [← e9]
      have hρ8 : μ7.2.2 = ρ := by rw [e9]; exact hρ
      refine j_aload_n F (pc := 15) (q := 0) (by decide +kernel) rfl ?_
      refine j_getR F (pc := 16) (hk.r hρ8 r_98_7) fl_X5_32 (hk.s c_98) rfl (by decide +kernel) ?_
      refine j_iload_n F (pc := 19) (q := 1) (by decide +kernel) rfl ?_
      refine j_iconst F (pc := 20) (n := 0) (v := 0) (by decide +kernel) (by decide +kernel) ?_
      obtain ⟨hg, h⟩ := z_ifs h
      refine j_iast F (pc := 21) (hk.s c_106) hg (by decide +kernel) ?_
      obtain ⟨μ10, e12, h⟩ := z_st_some h
      rw [← e12]
      have hρ11 : μ10.2.2 = ρ := by rw [e12]; exact hρ8
      refine j_aload_n F (pc := 22) (q := 0) (by decide +kernel) rfl ?_
      refine j_getR F (pc := 23) (hk.r hρ11 r_98_8) fl_X5_35 (hk.s c_98) rfl (by decide +kernel) ?_
      refine j_iload_n F (pc := 26) (q := 1) (by decide +kernel) rfl ?_
      refine j_iconst F (pc := 27) (n := 0) (v := 0) (by decide +kernel) (by decide +kernel) ?_
      obtain ⟨hg, h⟩ := z_ifs h
      refine j_iast F (pc := 28) (hk.s c_107) hg (by decide +kernel) ?_
      obtain ⟨μ13, e15, h⟩ := z_st_some h
      rw [← e15]
      have hρ14 : μ13.2.2 = ρ := by rw [e15]; exact hρ11
      refine j_aload_n F (pc := 29) (q := 0) (by decide +kernel) rfl ?_
      refine j_getR F (pc := 30) (hk.r hρ14 r_98_9) fl_X5_38 (hk.s c_98) rfl (by decide +kernel) ?_
      refine j_iload_n F (pc := 33) (q := 1) (by decide +kernel) rfl ?_
      refine j_iconst F (pc := 34) (n := 0) (v := 0) (by decide +kernel) (by decide +kernel) ?_
      obtain ⟨hg, h⟩ := z_ifs h
      refine j_zast F (pc := 35) (hk.s c_108) hg (by decide +kernel) ?_
      obtain ⟨μ16, e18, h⟩ := z_st_some h
      rw [← e18]
      have hρ17 : μ16.2.2 = ρ := by rw [e18]; exact hρ14
      refine j_iinc F (pc := 36) (i := 1) (n := 1) (v := 1) (L' := [some (.ref 98), some (.int (x1 + (1 : Int32)))]) (by decide +kernel) rfl (by decide +kernel) (by decide) rfl rfl ?_
      refine j_goto F (pc := 39) (off := -37) (tgt := 2) (by decide +kernel) (by decide) ?_
      exact ih _ _ hρ17 h
set_option maxHeartbeats 4000000 in
set_option maxRecDepth 100000 in
theorem t_X5_bare {G : z_Gl} {ρ : Nat → Nat → Option Nat} {μ : z_M} {μr : z_M}  (hρ : μ.2.2 = ρ) (hk : z_ok (z_sh G) ρ) (h : f_X5_bare  μ = some μr) : z_Cv G yX5_bare cX5_bare 2 none 0 [.ref 98] μ (fun μ1 => μr = μ1) := by
  unfold z_Cv
  refine z_intro (by decide +kernel) (Nat.le_of_ble_eq_true rfl) (fun E hE F Rt => ?_)
  subst hE
  have F : z_F E RX5 cX5_bare 2 0 := F
  rw [hρ] at Rt
  unfold f_X5_bare at h
  show z_J E 2 0 [some (.ref 98), none] [] μ
  refine j_iconst F (pc := 0) (n := 0) (v := 0) (by decide +kernel) (by decide +kernel) ?_
  refine j_istore_n F (pc := 1) (q := 1) (L' := [some (.ref 98), some (.int (0 : Int32))]) (by decide +kernel) (by decide) rfl rfl ?_
  refine u_X5_bare_2 F Rt hk  z_N _ _ hρ h
/-- LastLentModel.areAlike -/
def f_X5_areAlike (x1 : Int32) (x2 : Int32) (x3 : Int32) (μ : z_M) : Option (Int32 × z_M) :=
  (if (¬ (x2 = x3) → z_in ((((64 : Int32) * x1) + ((8 : Int32) * x2)) + x3) 256) ∧ (¬ (x2 = x3) → ¬ ((μ.1 103 ((((64 : Int32) * x1) + ((8 : Int32) * x2)) + x3).toNatClampNeg) = 0) → z_in ((((64 : Int32) * x1) + ((8 : Int32) * x3)) + x2) 256) then (some ((if x2 = x3 then (1 : Int32) else (if (μ.1 103 ((((64 : Int32) * x1) + ((8 : Int32) * x2)) + x3).toNatClampNeg) = 0 then (0 : Int32) else (if (μ.1 103 ((((64 : Int32) * x1) + ((8 : Int32) * x3)) + x2).toNatClampNeg) = 0 then (0 : Int32) else (1 : Int32)))), μ)) else none)
set_option maxHeartbeats 4000000 in
set_option maxRecDepth 100000 in
theorem t_X5_areAlike {G : z_Gl} {ρ : Nat → Nat → Option Nat} {μ : z_M} {r : Int32} {μr : z_M} {x1 : Int32} {x2 : Int32} {x3 : Int32} (hρ : μ.2.2 = ρ) (hk : z_ok (z_sh G) ρ) (h : f_X5_areAlike x1 x2 x3 μ = some (r, μr)) : z_Ci G yX5_areAlike cX5_areAlike 4 (some .boolean) 0 [.ref 98, .int x1, .int x2, .int x3] μ (fun r1 μ1 => r = r1 ∧ μr = μ1) := by
  unfold z_Ci
  refine z_intro (by decide +kernel) (Nat.le_of_ble_eq_true rfl) (fun E hE F Rt => ?_)
  subst hE
  have F : z_F E RX5 cX5_areAlike 4 0 := F
  rw [hρ] at Rt
  unfold f_X5_areAlike at h
  show z_J E 4 0 [some (.ref 98), some (.int x1), some (.int x2), some (.int x3)] [] μ
  refine j_iload_n F (pc := 0) (q := 2) (by decide +kernel) rfl ?_
  refine j_iload_n F (pc := 1) (q := 3) (by decide +kernel) rfl ?_
  obtain ⟨hg, h⟩ := z_ifs h
  suffices hj : z_J E 4 48 [some (.ref 98), some (.int x1), some (.int x2), some (.int x3)] (.int (if x2 = x3 then (1 : Int32) else (if (μ.1 103 ((((64 : Int32) * x1) + ((8 : Int32) * x2)) + x3).toNatClampNeg) = 0 then (0 : Int32) else (if (μ.1 103 ((((64 : Int32) * x1) + ((8 : Int32) * x3)) + x2).toNatClampNeg) = 0 then (0 : Int32) else (1 : Int32)))) :: []) μ by
    refine j_icmp_eq F (pc := 2) (off := 41) (tgt := 43) (by decide +kernel) (by decide) (fun c0 => ?_) (fun c0 => ?_)
    · rw [if_pos c0] at hj
      refine j_iconst F (pc := 43) (n := 1) (v := 1) (by decide +kernel) (by decide +kernel) ?_
      refine j_goto F (pc := 44) (off := 4) (tgt := 48) (by decide +kernel) (by decide) ?_
      exact hj
    · rw [if_neg c0] at hj
      refine j_aload_n F (pc := 5) (q := 0) (by decide +kernel) rfl ?_
      refine j_getR F (pc := 6) (hk.r hρ r_98_4) fl_X5_23 (hk.s c_98) rfl (by decide +kernel) ?_
      refine j_bipush F (pc := 9) (n := 64) (v := 64) (by decide +kernel) (by decide +kernel) ?_
      refine j_iload_n F (pc := 11) (q := 1) (by decide +kernel) rfl ?_
      refine j_imul F (pc := 12) (by decide +kernel) ?_
      refine j_bipush F (pc := 13) (n := 8) (v := 8) (by decide +kernel) (by decide +kernel) ?_
      refine j_iload_n F (pc := 15) (q := 2) (by decide +kernel) rfl ?_
      refine j_imul F (pc := 16) (by decide +kernel) ?_
      refine j_iadd F (pc := 17) (by decide +kernel) ?_
      refine j_iload_n F (pc := 18) (q := 3) (by decide +kernel) rfl ?_
      refine j_iadd F (pc := 19) (by decide +kernel) ?_
      refine j_zald F (pc := 20) (hk.s c_103) (hg.1 c0) (by decide +kernel) ?_
      refine j_if_eq F (pc := 21) (off := 26) (tgt := 47) (by decide +kernel) (by decide) (fun c1 => ?_) (fun c1 => ?_)
      · rw [if_pos c1] at hj
        refine j_iconst F (pc := 47) (n := 0) (v := 0) (by decide +kernel) (by decide +kernel) ?_
        exact hj
      · rw [if_neg c1] at hj
        refine j_aload_n F (pc := 24) (q := 0) (by decide +kernel) rfl ?_
        refine j_getR F (pc := 25) (hk.r hρ r_98_4) fl_X5_23 (hk.s c_98) rfl (by decide +kernel) ?_
        refine j_bipush F (pc := 28) (n := 64) (v := 64) (by decide +kernel) (by decide +kernel) ?_
        refine j_iload_n F (pc := 30) (q := 1) (by decide +kernel) rfl ?_
        refine j_imul F (pc := 31) (by decide +kernel) ?_
        refine j_bipush F (pc := 32) (n := 8) (v := 8) (by decide +kernel) (by decide +kernel) ?_
        refine j_iload_n F (pc := 34) (q := 3) (by decide +kernel) rfl ?_
        refine j_imul F (pc := 35) (by decide +kernel) ?_
        refine j_iadd F (pc := 36) (by decide +kernel) ?_
        refine j_iload_n F (pc := 37) (q := 2) (by decide +kernel) rfl ?_
        refine j_iadd F (pc := 38) (by decide +kernel) ?_
        refine j_zald F (pc := 39) (hk.s c_103) (hg.2 c0 c1) (by decide +kernel) ?_
        refine j_if_eq F (pc := 40) (off := 7) (tgt := 47) (by decide +kernel) (by decide) (fun c2 => ?_) (fun c2 => ?_)
        · rw [if_pos c2] at hj
          refine j_iconst F (pc := 47) (n := 0) (v := 0) (by decide +kernel) (by decide +kernel) ?_
          exact hj
        · rw [if_neg c2] at hj
          refine j_iconst F (pc := 43) (n := 1) (v := 1) (by decide +kernel) (by decide +kernel) ?_
          refine j_goto F (pc := 44) (off := 4) (tgt := 48) (by decide +kernel) (by decide) ?_
          exact hj
  exact j_iret (st := []) F Rt (z_nb (by repeat' (first | exact Or.inl rfl | exact Or.inr rfl | split))) (by decide +kernel) ⟨hρ, _, rfl, (congrArg Prod.fst (Option.some.inj h)).symm, (congrArg Prod.snd (Option.some.inj h)).symm⟩
def g_X5_levelRanks_10  (k_2 : Int32 → Int32 → z_M → Option z_M) : Nat → Int32 → Int32 → Int32 → z_M → Option z_M
  | 0, _, _, _, _ => none
  | n + 1, x1, x2, x3, μ => (if (8 : Int32) ≤ x3 then (k_2 (x1) ((x2 + (1 : Int32))) μ) else (z_b2 (f_X5_areAlike (x1) (x2) (x3) μ) fun r1 μ2 => (if r1 = 0 then (g_X5_levelRanks_10  k_2 n (x1) (x2) ((x3 + (1 : Int32))) μ2) else (if z_in (((8 : Int32) * x1) + x3) 32 then (if z_in (((8 : Int32) * x1) + x2) 32 then (if (μ2.1 113 (((8 : Int32) * x1) + x2).toNatClampNeg) ≤ (μ2.1 113 (((8 : Int32) * x1) + x3).toNatClampNeg) then (g_X5_levelRanks_10  k_2 n (x1) (x2) ((x3 + (1 : Int32))) μ2) else (if z_in (((8 : Int32) * x1) + x2) 32 then (if z_in (((8 : Int32) * x1) + x3) 32 then (z_st (z_si μ2 113 (((8 : Int32) * x1) + x3).toNatClampNeg (μ2.1 113 (((8 : Int32) * x1) + x2).toNatClampNeg)) fun μ8 => (g_X5_levelRanks_10  k_2 n (x1) (x2) ((x3 + (1 : Int32))) μ8)) else none) else none)) else none) else none))))
def g_X5_levelRanks_2   : Nat → Int32 → Int32 → z_M → Option z_M
  | 0, _, _, _ => none
  | n + 1, x1, x2, μ => (if (8 : Int32) ≤ x2 then (some μ) else (g_X5_levelRanks_10  (fun (y13 : Int32) (y14 : Int32) (μ11 : z_M) => (g_X5_levelRanks_2   n (y13) (y14) μ11)) z_N (x1) (x2) ((0 : Int32)) μ))
def f_X5_levelRanks (x1 : Int32) (μ : z_M) : Option z_M :=
  (g_X5_levelRanks_2   z_N (x1) ((0 : Int32)) μ)
set_option maxHeartbeats 4000000 in
set_option maxRecDepth 100000 in
theorem u_X5_levelRanks_10 {E : z_E} {ρ : Nat → Nat → Option Nat} {μr : z_M} (F : z_F E RX5 cX5_levelRanks 4 1) (Rt : z_R E none (fun v μ1 => μ1.2.2 = ρ ∧ v = none ∧ μr = μ1))  (hk : z_ok (z_sh E.1) ρ) {k_2 : Int32 → Int32 → z_M → Option z_M} (hc_2 : ∀ (y1 : Int32) (y2 : Int32) (μ1 : z_M), μ1.2.2 = ρ → k_2 y1 y2 μ1 = some μr → z_J E 4 2 [some (.ref 98), some (.int y1), some (.int y2), none] [] μ1) : ∀ (n : Nat) (x1 : Int32) (x2 : Int32) (x3 : Int32) (μ : z_M), μ.2.2 = ρ → g_X5_levelRanks_10  k_2 n x1 x2 x3 μ = some μr → z_J E 4 10 [some (.ref 98), some (.int x1), some (.int x2), some (.int x3)] [] μ := by
  intro n
  induction n with
  | zero =>
    intro x1 x2 x3 μ hρ h
    rw [g_X5_levelRanks_10] at h
    cases h
  | succ n ih =>
    intro x1 x2 x3 μ hρ h
    rw [g_X5_levelRanks_10] at h
    refine j_iload_n F (pc := 10) (q := 3) (by decide +kernel) rfl ?_
    refine j_bipush F (pc := 11) (n := 8) (v := 8) (by decide +kernel) (by decide +kernel) ?_
    refine j_icmp_ge F (pc := 13) (off := 66) (tgt := 79) (by decide +kernel) (by decide) (fun c => ?_) (fun c => ?_)
    · rw [if_pos c] at h
      refine j_iinc F (pc := 79) (i := 2) (n := 1) (v := 1) (L' := [some (.ref 98), some (.int x1), some (.int (x2 + (1 : Int32))), some (.int x3)]) (by decide +kernel) rfl (by decide +kernel) (by decide) rfl rfl ?_
      refine j_goto F (pc := 82) (off := -80) (tgt := 2) (by decide +kernel) (by decide) ?_
      refine j_mk F [true, true, true, false] (L' := [some (.ref 98), some (.int x1), some (.int (x2 + (1 : Int32))), none]) rfl ?_
      exact hc_2 _ _ _ hρ h
    · rw [if_neg c] at h
      refine j_aload_n F (pc := 16) (q := 0) (by decide +kernel) rfl ?_
      refine j_iload_n F (pc := 17) (q := 1) (by decide +kernel) rfl ?_
      refine j_iload_n F (pc := 18) (q := 2) (by decide +kernel) rfl ?_
      refine j_iload_n F (pc := 19) (q := 3) (by decide +kernel) rfl ?_
      obtain ⟨r1, μ2, hc4, h⟩ := z_b2_some h
      refine j_callVi F (pc := 20) (idx := 253) (As := [.int x1, .int x2, .int x3]) (st := []) (t_X5_areAlike (G := E.1) hρ hk hc4) q_X5_areAlike v_X5_areAlike m_887 (hk.s c_98) rfl rfl (by decide) (Nat.le_of_ble_eq_true rfl) rfl (by decide +kernel) (fun s7 ν5 hq6 hp => ?_)
      obtain ⟨rfl, rfl⟩ := hp
      have hρ3 : μ2.2.2 = ρ := hq6.trans hρ
      refine j_if_eq F (pc := 23) (off := 50) (tgt := 73) (by decide +kernel) (by decide) (fun c => ?_) (fun c => ?_)
      · rw [if_pos c] at h
        refine j_iinc F (pc := 73) (i := 3) (n := 1) (v := 1) (L' := [some (.ref 98), some (.int x1), some (.int x2), some (.int (x3 + (1 : Int32)))]) (by decide +kernel) rfl (by decide +kernel) (by decide) rfl rfl ?_
        refine j_goto F (pc := 76) (off := -66) (tgt := 10) (by decide +kernel) (by decide) ?_
        exact ih _ _ _ _ hρ3 h
      · rw [if_neg c] at h
        refine j_aload_n F (pc := 26) (q := 0) (by decide +kernel) rfl ?_
        refine j_getR F (pc := 27) (hk.r hρ3 r_98_23) fl_X5_57 (hk.s c_98) rfl (by decide +kernel) ?_
        refine j_bipush F (pc := 30) (n := 8) (v := 8) (by decide +kernel) (by decide +kernel) ?_
        refine j_iload_n F (pc := 32) (q := 1) (by decide +kernel) rfl ?_
        refine j_imul F (pc := 33) (by decide +kernel) ?_
        refine j_iload_n F (pc := 34) (q := 3) (by decide +kernel) rfl ?_
        refine j_iadd F (pc := 35) (by decide +kernel) ?_
        obtain ⟨hg, h⟩ := z_ifs h
        refine j_iald F (pc := 36) (hk.s c_113) hg (by decide +kernel) ?_
        refine j_aload_n F (pc := 37) (q := 0) (by decide +kernel) rfl ?_
        refine j_getR F (pc := 38) (hk.r hρ3 r_98_23) fl_X5_57 (hk.s c_98) rfl (by decide +kernel) ?_
        refine j_bipush F (pc := 41) (n := 8) (v := 8) (by decide +kernel) (by decide +kernel) ?_
        refine j_iload_n F (pc := 43) (q := 1) (by decide +kernel) rfl ?_
        refine j_imul F (pc := 44) (by decide +kernel) ?_
        refine j_iload_n F (pc := 45) (q := 2) (by decide +kernel) rfl ?_
        refine j_iadd F (pc := 46) (by decide +kernel) ?_
        obtain ⟨hg, h⟩ := z_ifs h
        refine j_iald F (pc := 47) (hk.s c_113) hg (by decide +kernel) ?_
        refine j_icmp_ge F (pc := 48) (off := 25) (tgt := 73) (by decide +kernel) (by decide) (fun c => ?_) (fun c => ?_)
        · rw [if_pos c] at h
          refine j_iinc F (pc := 73) (i := 3) (n := 1) (v := 1) (L' := [some (.ref 98), some (.int x1), some (.int x2), some (.int (x3 + (1 : Int32)))]) (by decide +kernel) rfl (by decide +kernel) (by decide) rfl rfl ?_
          refine j_goto F (pc := 76) (off := -66) (tgt := 10) (by decide +kernel) (by decide) ?_
          exact ih _ _ _ _ hρ3 h
        · rw [if_neg c] at h
          refine j_aload_n F (pc := 51) (q := 0) (by decide +kernel) rfl ?_
          refine j_getR F (pc := 52) (hk.r hρ3 r_98_23) fl_X5_57 (hk.s c_98) rfl (by decide +kernel) ?_
          refine j_bipush F (pc := 55) (n := 8) (v := 8) (by decide +kernel) (by decide +kernel) ?_
          refine j_iload_n F (pc := 57) (q := 1) (by decide +kernel) rfl ?_
          refine j_imul F (pc := 58) (by decide +kernel) ?_
          refine j_iload_n F (pc := 59) (q := 3) (by decide +kernel) rfl ?_
          refine j_iadd F (pc := 60) (by decide +kernel) ?_
          refine j_aload_n F (pc := 61) (q := 0) (by decide +kernel) rfl ?_
          refine j_getR F (pc := 62) (hk.r hρ3 r_98_23) fl_X5_57 (hk.s c_98) rfl (by decide +kernel) ?_
          refine j_bipush F (pc := 65) (n := 8) (v := 8) (by decide +kernel) (by decide +kernel) ?_
          refine j_iload_n F (pc := 67) (q := 1) (by decide +kernel) rfl ?_
          refine j_imul F (pc := 68) (by decide +kernel) ?_
          refine j_iload_n F (pc := 69) (q := 2) (by decide +kernel) rfl ?_
          refine j_iadd F (pc := 70) (by decide +kernel) ?_
          obtain ⟨hg, h⟩ := z_ifs h
          refine j_iald F (pc := 71) (hk.s c_113) hg (by decide +kernel) ?_
          obtain ⟨hg, h⟩ := z_ifs h
          refine j_iast F (pc := 72) (hk.s c_113) hg (by decide +kernel) ?_
          obtain ⟨μ8, e10, h⟩ := z_st_some h
          rw [← e10]
          have hρ9 : μ8.2.2 = ρ := by rw [e10]; exact hρ3
          refine j_iinc F (pc := 73) (i := 3) (n := 1) (v := 1) (L' := [some (.ref 98), some (.int x1), some (.int x2), some (.int (x3 + (1 : Int32)))]) (by decide +kernel) rfl (by decide +kernel) (by decide) rfl rfl ?_
          refine j_goto F (pc := 76) (off := -66) (tgt := 10) (by decide +kernel) (by decide) ?_
          exact ih _ _ _ _ hρ9 h
set_option maxHeartbeats 4000000 in
set_option maxRecDepth 100000 in
theorem u_X5_levelRanks_2 {E : z_E} {ρ : Nat → Nat → Option Nat} {μr : z_M} (F : z_F E RX5 cX5_levelRanks 4 1) (Rt : z_R E none (fun v μ1 => μ1.2.2 = ρ ∧ v = none ∧ μr = μ1))  (hk : z_ok (z_sh E.1) ρ) : ∀ (n : Nat) (x1 : Int32) (x2 : Int32) (μ : z_M), μ.2.2 = ρ → g_X5_levelRanks_2   n x1 x2 μ = some μr → z_J E 4 2 [some (.ref 98), some (.int x1), some (.int x2), none] [] μ := by
  intro n
  induction n with
  | zero =>
    intro x1 x2 μ hρ h
    rw [g_X5_levelRanks_2] at h
    cases h
  | succ n ih =>
    intro x1 x2 μ hρ h
    rw [g_X5_levelRanks_2] at h
    refine j_iload_n F (pc := 2) (q := 2) (by decide +kernel) rfl ?_
    refine j_bipush F (pc := 3) (n := 8) (v := 8) (by decide +kernel) (by decide +kernel) ?_
    refine j_icmp_ge F (pc := 5) (off := 80) (tgt := 85) (by decide +kernel) (by decide) (fun c => ?_) (fun c => ?_)
    · rw [if_pos c] at h
      exact j_vret (st := []) F Rt (by decide +kernel) ⟨hρ, rfl, (Option.some.inj h).symm⟩
    · rw [if_neg c] at h
      refine j_iconst F (pc := 8) (n := 0) (v := 0) (by decide +kernel) (by decide +kernel) ?_
      refine j_istore_n F (pc := 9) (q := 3) (L' := [some (.ref 98), some (.int x1), some (.int x2), some (.int (0 : Int32))]) (by decide +kernel) (by decide) rfl rfl ?_
      refine u_X5_levelRanks_10 F Rt hk (fun y13 y14 μ11 hρ12 h => ?_) z_N _ _ _ _ hρ h
      exact ih _ _ _ hρ12 h
set_option maxHeartbeats 4000000 in
set_option maxRecDepth 100000 in
theorem t_X5_levelRanks {G : z_Gl} {ρ : Nat → Nat → Option Nat} {μ : z_M} {μr : z_M} {x1 : Int32} (hρ : μ.2.2 = ρ) (hk : z_ok (z_sh G) ρ) (h : f_X5_levelRanks x1 μ = some μr) : z_Cv G yX5_levelRanks cX5_levelRanks 4 none 1 [.ref 98, .int x1] μ (fun μ1 => μr = μ1) := by
  unfold z_Cv
  refine z_intro (by decide +kernel) (Nat.le_of_ble_eq_true rfl) (fun E hE F Rt => ?_)
  subst hE
  have F : z_F E RX5 cX5_levelRanks 4 1 := F
  rw [hρ] at Rt
  unfold f_X5_levelRanks at h
  show z_J E 4 0 [some (.ref 98), some (.int x1), none, none] [] μ
  refine j_iconst F (pc := 0) (n := 0) (v := 0) (by decide +kernel) (by decide +kernel) ?_
  refine j_istore_n F (pc := 1) (q := 2) (L' := [some (.ref 98), some (.int x1), some (.int (0 : Int32)), none]) (by decide +kernel) (by decide) rfl rfl ?_
  refine u_X5_levelRanks_2 F Rt hk  z_N _ _ _ hρ h
def g_X5_findRanks_76  (k_67 : Int32 → Int32 → Int32 → z_M → Option z_M) : Nat → Int32 → Int32 → Int32 → Int32 → z_M → Option z_M
  | 0, _, _, _, _, _ => none
  | n + 1, x1, x2, x3, x4, μ => (if (8 : Int32) ≤ x4 then (k_67 (x1) (x2) ((x3 + (1 : Int32))) μ) else (if z_in ((((64 : Int32) * x1) + ((8 : Int32) * x3)) + x4) 256 then (if (μ.1 112 ((((64 : Int32) * x1) + ((8 : Int32) * x3)) + x4).toNatClampNeg) = 0 then (g_X5_findRanks_76  k_67 n (x1) (x2) (x3) ((x4 + (1 : Int32))) μ) else (z_b2 (f_X5_areAlike (x1) (x3) (x4) μ) fun r7 μ8 => (if r7 = 0 then (if z_in (((8 : Int32) * x1) + x4) 32 then (if z_in (((8 : Int32) * x1) + x3) 32 then (if (μ8.1 113 (((8 : Int32) * x1) + x3).toNatClampNeg) < (μ8.1 113 (((8 : Int32) * x1) + x4).toNatClampNeg) then (g_X5_findRanks_76  k_67 n (x1) (x2) (x3) ((x4 + (1 : Int32))) μ8) else (if z_in (((8 : Int32) * x1) + x3) 32 then (if z_in (((8 : Int32) * x1) + x4) 32 then (z_st (z_si μ8 113 (((8 : Int32) * x1) + x4).toNatClampNeg ((μ8.1 113 (((8 : Int32) * x1) + x3).toNatClampNeg) + (1 : Int32))) fun μ14 => (g_X5_findRanks_76  k_67 n (x1) (x2) (x3) ((x4 + (1 : Int32))) μ14)) else none) else none)) else none) else none) else (g_X5_findRanks_76  k_67 n (x1) (x2) (x3) ((x4 + (1 : Int32))) μ8)))) else none))
def g_X5_findRanks_67  (k_59 : Int32 → Int32 → z_M → Option z_M) : Nat → Int32 → Int32 → Int32 → z_M → Option z_M
  | 0, _, _, _, _ => none
  | n + 1, x1, x2, x3, μ => (if (8 : Int32) ≤ x3 then (z_b1 (f_X5_levelRanks (x1) μ) fun μ2 => (k_59 (x1) ((x2 + (1 : Int32))) μ2)) else (g_X5_findRanks_76  (fun (y19 : Int32) (y20 : Int32) (y21 : Int32) (μ17 : z_M) => (g_X5_findRanks_67  k_59 n (y19) (y20) (y21) μ17)) z_N (x1) (x2) (x3) ((0 : Int32)) μ))
def g_X5_findRanks_59   : Nat → Int32 → Int32 → z_M → Option z_M
  | 0, _, _, _ => none
  | n + 1, x1, x2, μ => (if (8 : Int32) ≤ x2 then (some μ) else (g_X5_findRanks_67  (fun (y24 : Int32) (y25 : Int32) (μ22 : z_M) => (g_X5_findRanks_59   n (y24) (y25) μ22)) z_N (x1) (x2) ((0 : Int32)) μ))
def g_X5_findRanks_33   : Nat → Int32 → Int32 → z_M → Option z_M
  | 0, _, _, _ => none
  | n + 1, x1, x2, μ => (if (8 : Int32) ≤ x2 then (g_X5_findRanks_59   z_N (x1) ((0 : Int32)) μ) else (if z_in (((8 : Int32) * x1) + x2) 32 then (z_st (z_si μ 113 (((8 : Int32) * x1) + x2).toNatClampNeg (0 : Int32)) fun μ26 => (g_X5_findRanks_33   n (x1) ((x2 + (1 : Int32))) μ26)) else none))
def g_X5_findRanks_2   : Nat → Int32 → Int32 → z_M → Option z_M
  | 0, _, _, _ => none
  | n + 1, x1, x2, μ => (if (64 : Int32) ≤ x2 then (g_X5_findRanks_33   z_N (x1) ((0 : Int32)) μ) else (if z_in x2 64 then (if z_in (((64 : Int32) * x1) + x2) 256 then (z_st (z_si μ 112 (((64 : Int32) * x1) + x2).toNatClampNeg ((μ.1 109 x2.toNatClampNeg) &&& 1)) fun μ29 => (g_X5_findRanks_2   n (x1) ((x2 + (1 : Int32))) μ29)) else none) else none))
def f_X5_findRanks (x1 : Int32) (μ : z_M) : Option z_M :=
  (g_X5_findRanks_2   z_N (x1) ((0 : Int32)) μ)
set_option maxHeartbeats 4000000 in
set_option maxRecDepth 100000 in
theorem u_X5_findRanks_76 {E : z_E} {ρ : Nat → Nat → Option Nat} {μr : z_M} (F : z_F E RX5 cX5_findRanks 5 2) (Rt : z_R E none (fun v μ1 => μ1.2.2 = ρ ∧ v = none ∧ μr = μ1))  (hk : z_ok (z_sh E.1) ρ) {k_67 : Int32 → Int32 → Int32 → z_M → Option z_M} (hc_67 : ∀ (y1 : Int32) (y2 : Int32) (y3 : Int32) (μ1 : z_M), μ1.2.2 = ρ → k_67 y1 y2 y3 μ1 = some μr → z_J E 5 67 [some (.ref 98), some (.int y1), some (.int y2), some (.int y3), none] [] μ1) : ∀ (n : Nat) (x1 : Int32) (x2 : Int32) (x3 : Int32) (x4 : Int32) (μ : z_M), μ.2.2 = ρ → g_X5_findRanks_76  k_67 n x1 x2 x3 x4 μ = some μr → z_J E 5 76 [some (.ref 98), some (.int x1), some (.int x2), some (.int x3), some (.int x4)] [] μ := by
  intro n
  induction n with
  | zero =>
    intro x1 x2 x3 x4 μ hρ h
    rw [g_X5_findRanks_76] at h
    cases h
  | succ n ih =>
    intro x1 x2 x3 x4 μ hρ h
    rw [g_X5_findRanks_76] at h
    refine j_iload F (pc := 76) (i := 4) (by decide +kernel) rfl ?_
    refine j_bipush F (pc := 78) (n := 8) (v := 8) (by decide +kernel) (by decide +kernel) ?_
    refine j_icmp_ge F (pc := 80) (off := 91) (tgt := 171) (by decide +kernel) (by decide) (fun c => ?_) (fun c => ?_)
    · rw [if_pos c] at h
      refine j_iinc F (pc := 171) (i := 3) (n := 1) (v := 1) (L' := [some (.ref 98), some (.int x1), some (.int x2), some (.int (x3 + (1 : Int32))), some (.int x4)]) (by decide +kernel) rfl (by decide +kernel) (by decide) rfl rfl ?_
      refine j_goto F (pc := 174) (off := -107) (tgt := 67) (by decide +kernel) (by decide) ?_
      refine j_mk F [true, true, true, true, false] (L' := [some (.ref 98), some (.int x1), some (.int x2), some (.int (x3 + (1 : Int32))), none]) rfl ?_
      exact hc_67 _ _ _ _ hρ h
    · rw [if_neg c] at h
      refine j_aload_n F (pc := 83) (q := 0) (by decide +kernel) rfl ?_
      refine j_getR F (pc := 84) (hk.r hρ r_98_22) fl_X5_54 (hk.s c_98) rfl (by decide +kernel) ?_
      refine j_bipush F (pc := 87) (n := 64) (v := 64) (by decide +kernel) (by decide +kernel) ?_
      refine j_iload_n F (pc := 89) (q := 1) (by decide +kernel) rfl ?_
      refine j_imul F (pc := 90) (by decide +kernel) ?_
      refine j_bipush F (pc := 91) (n := 8) (v := 8) (by decide +kernel) (by decide +kernel) ?_
      refine j_iload_n F (pc := 93) (q := 3) (by decide +kernel) rfl ?_
      refine j_imul F (pc := 94) (by decide +kernel) ?_
      refine j_iadd F (pc := 95) (by decide +kernel) ?_
      refine j_iload F (pc := 96) (i := 4) (by decide +kernel) rfl ?_
      refine j_iadd F (pc := 98) (by decide +kernel) ?_
      obtain ⟨hg, h⟩ := z_ifs h
      refine j_zald F (pc := 99) (hk.s c_112) hg (by decide +kernel) ?_
      refine j_if_eq F (pc := 100) (off := 65) (tgt := 165) (by decide +kernel) (by decide) (fun c => ?_) (fun c => ?_)
      · rw [if_pos c] at h
        refine j_iinc F (pc := 165) (i := 4) (n := 1) (v := 1) (L' := [some (.ref 98), some (.int x1), some (.int x2), some (.int x3), some (.int (x4 + (1 : Int32)))]) (by decide +kernel) rfl (by decide +kernel) (by decide) rfl rfl ?_
        refine j_goto F (pc := 168) (off := -92) (tgt := 76) (by decide +kernel) (by decide) ?_
        exact ih _ _ _ _ _ hρ h
      · rw [if_neg c] at h
        refine j_aload_n F (pc := 103) (q := 0) (by decide +kernel) rfl ?_
        refine j_iload_n F (pc := 104) (q := 1) (by decide +kernel) rfl ?_
        refine j_iload_n F (pc := 105) (q := 3) (by decide +kernel) rfl ?_
        refine j_iload F (pc := 106) (i := 4) (by decide +kernel) rfl ?_
        obtain ⟨r7, μ8, hc10, h⟩ := z_b2_some h
        refine j_callVi F (pc := 108) (idx := 253) (As := [.int x1, .int x3, .int x4]) (st := []) (t_X5_areAlike (G := E.1) hρ hk hc10) q_X5_areAlike v_X5_areAlike m_887 (hk.s c_98) rfl rfl (by decide) (Nat.le_of_ble_eq_true rfl) rfl (by decide +kernel) (fun s13 ν11 hq12 hp => ?_)
        obtain ⟨rfl, rfl⟩ := hp
        have hρ9 : μ8.2.2 = ρ := hq12.trans hρ
        refine j_if_ne F (pc := 111) (off := 54) (tgt := 165) (by decide +kernel) (by decide) (fun c => ?_) (fun c => ?_)
        · rw [if_neg c] at h
          refine j_iinc F (pc := 165) (i := 4) (n := 1) (v := 1) (L' := [some (.ref 98), some (.int x1), some (.int x2), some (.int x3), some (.int (x4 + (1 : Int32)))]) (by decide +kernel) rfl (by decide +kernel) (by decide) rfl rfl ?_
          refine j_goto F (pc := 168) (off := -92) (tgt := 76) (by decide +kernel) (by decide) ?_
          exact ih _ _ _ _ _ hρ9 h
        · rw [if_pos c] at h
          refine j_aload_n F (pc := 114) (q := 0) (by decide +kernel) rfl ?_
          refine j_getR F (pc := 115) (hk.r hρ9 r_98_23) fl_X5_57 (hk.s c_98) rfl (by decide +kernel) ?_
          refine j_bipush F (pc := 118) (n := 8) (v := 8) (by decide +kernel) (by decide +kernel) ?_
          refine j_iload_n F (pc := 120) (q := 1) (by decide +kernel) rfl ?_
          refine j_imul F (pc := 121) (by decide +kernel) ?_
          refine j_iload F (pc := 122) (i := 4) (by decide +kernel) rfl ?_
          refine j_iadd F (pc := 124) (by decide +kernel) ?_
          obtain ⟨hg, h⟩ := z_ifs h
          refine j_iald F (pc := 125) (hk.s c_113) hg (by decide +kernel) ?_
          refine j_aload_n F (pc := 126) (q := 0) (by decide +kernel) rfl ?_
          refine j_getR F (pc := 127) (hk.r hρ9 r_98_23) fl_X5_57 (hk.s c_98) rfl (by decide +kernel) ?_
          refine j_bipush F (pc := 130) (n := 8) (v := 8) (by decide +kernel) (by decide +kernel) ?_
          refine j_iload_n F (pc := 132) (q := 1) (by decide +kernel) rfl ?_
          refine j_imul F (pc := 133) (by decide +kernel) ?_
          refine j_iload_n F (pc := 134) (q := 3) (by decide +kernel) rfl ?_
          refine j_iadd F (pc := 135) (by decide +kernel) ?_
          obtain ⟨hg, h⟩ := z_ifs h
          refine j_iald F (pc := 136) (hk.s c_113) hg (by decide +kernel) ?_
          refine j_icmp_gt F (pc := 137) (off := 28) (tgt := 165) (by decide +kernel) (by decide) (fun c => ?_) (fun c => ?_)
          · rw [if_pos c] at h
            refine j_iinc F (pc := 165) (i := 4) (n := 1) (v := 1) (L' := [some (.ref 98), some (.int x1), some (.int x2), some (.int x3), some (.int (x4 + (1 : Int32)))]) (by decide +kernel) rfl (by decide +kernel) (by decide) rfl rfl ?_
            refine j_goto F (pc := 168) (off := -92) (tgt := 76) (by decide +kernel) (by decide) ?_
            exact ih _ _ _ _ _ hρ9 h
          · rw [if_neg c] at h
            refine j_aload_n F (pc := 140) (q := 0) (by decide +kernel) rfl ?_
            refine j_getR F (pc := 141) (hk.r hρ9 r_98_23) fl_X5_57 (hk.s c_98) rfl (by decide +kernel) ?_
            refine j_bipush F (pc := 144) (n := 8) (v := 8) (by decide +kernel) (by decide +kernel) ?_
            refine j_iload_n F (pc := 146) (q := 1) (by decide +kernel) rfl ?_
            refine j_imul F (pc := 147) (by decide +kernel) ?_
            refine j_iload F (pc := 148) (i := 4) (by decide +kernel) rfl ?_
            refine j_iadd F (pc := 150) (by decide +kernel) ?_
            refine j_aload_n F (pc := 151) (q := 0) (by decide +kernel) rfl ?_
            refine j_getR F (pc := 152) (hk.r hρ9 r_98_23) fl_X5_57 (hk.s c_98) rfl (by decide +kernel) ?_
            refine j_bipush F (pc := 155) (n := 8) (v := 8) (by decide +kernel) (by decide +kernel) ?_
            refine j_iload_n F (pc := 157) (q := 1) (by decide +kernel) rfl ?_
            refine j_imul F (pc := 158) (by decide +kernel) ?_
            refine j_iload_n F (pc := 159) (q := 3) (by decide +kernel) rfl ?_
            refine j_iadd F (pc := 160) (by decide +kernel) ?_
            obtain ⟨hg, h⟩ := z_ifs h
            refine j_iald F (pc := 161) (hk.s c_113) hg (by decide +kernel) ?_
            refine j_iconst F (pc := 162) (n := 1) (v := 1) (by decide +kernel) (by decide +kernel) ?_
            refine j_iadd F (pc := 163) (by decide +kernel) ?_
            obtain ⟨hg, h⟩ := z_ifs h
            refine j_iast F (pc := 164) (hk.s c_113) hg (by decide +kernel) ?_
            obtain ⟨μ14, e16, h⟩ := z_st_some h
            rw [← e16]
            have hρ15 : μ14.2.2 = ρ := by rw [e16]; exact hρ9
            refine j_iinc F (pc := 165) (i := 4) (n := 1) (v := 1) (L' := [some (.ref 98), some (.int x1), some (.int x2), some (.int x3), some (.int (x4 + (1 : Int32)))]) (by decide +kernel) rfl (by decide +kernel) (by decide) rfl rfl ?_
            refine j_goto F (pc := 168) (off := -92) (tgt := 76) (by decide +kernel) (by decide) ?_
            exact ih _ _ _ _ _ hρ15 h
set_option maxHeartbeats 4000000 in
set_option maxRecDepth 100000 in
theorem u_X5_findRanks_67 {E : z_E} {ρ : Nat → Nat → Option Nat} {μr : z_M} (F : z_F E RX5 cX5_findRanks 5 2) (Rt : z_R E none (fun v μ1 => μ1.2.2 = ρ ∧ v = none ∧ μr = μ1))  (hk : z_ok (z_sh E.1) ρ) {k_59 : Int32 → Int32 → z_M → Option z_M} (hc_59 : ∀ (y1 : Int32) (y2 : Int32) (μ1 : z_M), μ1.2.2 = ρ → k_59 y1 y2 μ1 = some μr → z_J E 5 59 [some (.ref 98), some (.int y1), some (.int y2), none, none] [] μ1) : ∀ (n : Nat) (x1 : Int32) (x2 : Int32) (x3 : Int32) (μ : z_M), μ.2.2 = ρ → g_X5_findRanks_67  k_59 n x1 x2 x3 μ = some μr → z_J E 5 67 [some (.ref 98), some (.int x1), some (.int x2), some (.int x3), none] [] μ := by
  intro n
  induction n with
  | zero =>
    intro x1 x2 x3 μ hρ h
    rw [g_X5_findRanks_67] at h
    cases h
  | succ n ih =>
    intro x1 x2 x3 μ hρ h
    rw [g_X5_findRanks_67] at h
    refine j_iload_n F (pc := 67) (q := 3) (by decide +kernel) rfl ?_
    refine j_bipush F (pc := 68) (n := 8) (v := 8) (by decide +kernel) (by decide +kernel) ?_
    refine j_icmp_ge F (pc := 70) (off := 107) (tgt := 177) (by decide +kernel) (by decide) (fun c => ?_) (fun c => ?_)
    · rw [if_pos c] at h
      refine j_aload_n F (pc := 177) (q := 0) (by decide +kernel) rfl ?_
      refine j_iload_n F (pc := 178) (q := 1) (by decide +kernel) rfl ?_
      obtain ⟨μ2, hc4, h⟩ := z_b1_some h
      refine j_callVv F (pc := 179) (idx := 257) (As := [.int x1]) (st := []) (t_X5_levelRanks (G := E.1) hρ hk hc4) q_X5_levelRanks v_X5_levelRanks m_891 (hk.s c_98) rfl rfl (by decide) (Nat.le_of_ble_eq_true rfl) rfl (by decide +kernel) (fun ν5 hq6 hp => ?_)
      subst hp
      have hρ3 : μ2.2.2 = ρ := hq6.trans hρ
      refine j_iinc F (pc := 182) (i := 2) (n := 1) (v := 1) (L' := [some (.ref 98), some (.int x1), some (.int (x2 + (1 : Int32))), some (.int x3), none]) (by decide +kernel) rfl (by decide +kernel) (by decide) rfl rfl ?_
      refine j_goto F (pc := 185) (off := -126) (tgt := 59) (by decide +kernel) (by decide) ?_
      refine j_mk F [true, true, true, false, false] (L' := [some (.ref 98), some (.int x1), some (.int (x2 + (1 : Int32))), none, none]) rfl ?_
      exact hc_59 _ _ _ hρ3 h
    · rw [if_neg c] at h
      refine j_iconst F (pc := 73) (n := 0) (v := 0) (by decide +kernel) (by decide +kernel) ?_
      refine j_istore F (pc := 74) (i := 4) (L' := [some (.ref 98), some (.int x1), some (.int x2), some (.int x3), some (.int (0 : Int32))]) (by decide +kernel) (by decide) rfl rfl ?_
      refine u_X5_findRanks_76 F Rt hk (fun y19 y20 y21 μ17 hρ18 h => ?_) z_N _ _ _ _ _ hρ h
      exact ih _ _ _ _ hρ18 h
set_option maxHeartbeats 4000000 in
set_option maxRecDepth 100000 in
theorem u_X5_findRanks_59 {E : z_E} {ρ : Nat → Nat → Option Nat} {μr : z_M} (F : z_F E RX5 cX5_findRanks 5 2) (Rt : z_R E none (fun v μ1 => μ1.2.2 = ρ ∧ v = none ∧ μr = μ1))  (hk : z_ok (z_sh E.1) ρ) : ∀ (n : Nat) (x1 : Int32) (x2 : Int32) (μ : z_M), μ.2.2 = ρ → g_X5_findRanks_59   n x1 x2 μ = some μr → z_J E 5 59 [some (.ref 98), some (.int x1), some (.int x2), none, none] [] μ := by
  intro n
  induction n with
  | zero =>
    intro x1 x2 μ hρ h
    rw [g_X5_findRanks_59] at h
    cases h
  | succ n ih =>
    intro x1 x2 μ hρ h
    rw [g_X5_findRanks_59] at h
    refine j_iload_n F (pc := 59) (q := 2) (by decide +kernel) rfl ?_
    refine j_bipush F (pc := 60) (n := 8) (v := 8) (by decide +kernel) (by decide +kernel) ?_
    refine j_icmp_ge F (pc := 62) (off := 126) (tgt := 188) (by decide +kernel) (by decide) (fun c => ?_) (fun c => ?_)
    · rw [if_pos c] at h
      exact j_vret (st := []) F Rt (by decide +kernel) ⟨hρ, rfl, (Option.some.inj h).symm⟩
    · rw [if_neg c] at h
      refine j_iconst F (pc := 65) (n := 0) (v := 0) (by decide +kernel) (by decide +kernel) ?_
      refine j_istore_n F (pc := 66) (q := 3) (L' := [some (.ref 98), some (.int x1), some (.int x2), some (.int (0 : Int32)), none]) (by decide +kernel) (by decide) rfl rfl ?_
      refine u_X5_findRanks_67 F Rt hk (fun y24 y25 μ22 hρ23 h => ?_) z_N _ _ _ _ hρ h
      exact ih _ _ _ hρ23 h
set_option maxHeartbeats 4000000 in
set_option maxRecDepth 100000 in
theorem u_X5_findRanks_33 {E : z_E} {ρ : Nat → Nat → Option Nat} {μr : z_M} (F : z_F E RX5 cX5_findRanks 5 2) (Rt : z_R E none (fun v μ1 => μ1.2.2 = ρ ∧ v = none ∧ μr = μ1))  (hk : z_ok (z_sh E.1) ρ) : ∀ (n : Nat) (x1 : Int32) (x2 : Int32) (μ : z_M), μ.2.2 = ρ → g_X5_findRanks_33   n x1 x2 μ = some μr → z_J E 5 33 [some (.ref 98), some (.int x1), some (.int x2), none, none] [] μ := by
  intro n
  induction n with
  | zero =>
    intro x1 x2 μ hρ h
    rw [g_X5_findRanks_33] at h
    cases h
  | succ n ih =>
    intro x1 x2 μ hρ h
    rw [g_X5_findRanks_33] at h
    refine j_iload_n F (pc := 33) (q := 2) (by decide +kernel) rfl ?_
    refine j_bipush F (pc := 34) (n := 8) (v := 8) (by decide +kernel) (by decide +kernel) ?_
    refine j_icmp_ge F (pc := 36) (off := 21) (tgt := 57) (by decide +kernel) (by decide) (fun c => ?_) (fun c => ?_)
    · rw [if_pos c] at h
      refine j_iconst F (pc := 57) (n := 0) (v := 0) (by decide +kernel) (by decide +kernel) ?_
      refine j_istore_n F (pc := 58) (q := 2) (L' := [some (.ref 98), some (.int x1), some (.int (0 : Int32)), none, none]) (by decide +kernel) (by decide) rfl rfl ?_
      refine u_X5_findRanks_59 F Rt hk  z_N _ _ _ hρ h
    · rw [if_neg c] at h
      refine j_aload_n F (pc := 39) (q := 0) (by decide +kernel) rfl ?_
      refine j_getR F (pc := 40) (hk.r hρ r_98_23) fl_X5_57 (hk.s c_98) rfl (by decide +kernel) ?_
      refine j_bipush F (pc := 43) (n := 8) (v := 8) (by decide +kernel) (by decide +kernel) ?_
      refine j_iload_n F (pc := 45) (q := 1) (by decide +kernel) rfl ?_
      refine j_imul F (pc := 46) (by decide +kernel) ?_
      refine j_iload_n F (pc := 47) (q := 2) (by decide +kernel) rfl ?_
      refine j_iadd F (pc := 48) (by decide +kernel) ?_
      refine j_iconst F (pc := 49) (n := 0) (v := 0) (by decide +kernel) (by decide +kernel) ?_
      obtain ⟨hg, h⟩ := z_ifs h
      refine j_iast F (pc := 50) (hk.s c_113) hg (by decide +kernel) ?_
      obtain ⟨μ26, e28, h⟩ := z_st_some h
      rw [← e28]
      have hρ27 : μ26.2.2 = ρ := by rw [e28]; exact hρ
      refine j_iinc F (pc := 51) (i := 2) (n := 1) (v := 1) (L' := [some (.ref 98), some (.int x1), some (.int (x2 + (1 : Int32))), none, none]) (by decide +kernel) rfl (by decide +kernel) (by decide) rfl rfl ?_
      refine j_goto F (pc := 54) (off := -21) (tgt := 33) (by decide +kernel) (by decide) ?_
      exact ih _ _ _ hρ27 h
set_option maxHeartbeats 4000000 in
set_option maxRecDepth 100000 in
theorem u_X5_findRanks_2 {E : z_E} {ρ : Nat → Nat → Option Nat} {μr : z_M} (F : z_F E RX5 cX5_findRanks 5 2) (Rt : z_R E none (fun v μ1 => μ1.2.2 = ρ ∧ v = none ∧ μr = μ1))  (hk : z_ok (z_sh E.1) ρ) : ∀ (n : Nat) (x1 : Int32) (x2 : Int32) (μ : z_M), μ.2.2 = ρ → g_X5_findRanks_2   n x1 x2 μ = some μr → z_J E 5 2 [some (.ref 98), some (.int x1), some (.int x2), none, none] [] μ := by
  intro n
  induction n with
  | zero =>
    intro x1 x2 μ hρ h
    rw [g_X5_findRanks_2] at h
    cases h
  | succ n ih =>
    intro x1 x2 μ hρ h
    rw [g_X5_findRanks_2] at h
    refine j_iload_n F (pc := 2) (q := 2) (by decide +kernel) rfl ?_
    refine j_bipush F (pc := 3) (n := 64) (v := 64) (by decide +kernel) (by decide +kernel) ?_
    refine j_icmp_ge F (pc := 5) (off := 26) (tgt := 31) (by decide +kernel) (by decide) (fun c => ?_) (fun c => ?_)
    · rw [if_pos c] at h
      refine j_iconst F (pc := 31) (n := 0) (v := 0) (by decide +kernel) (by decide +kernel) ?_
      refine j_istore_n F (pc := 32) (q := 2) (L' := [some (.ref 98), some (.int x1), some (.int (0 : Int32)), none, none]) (by decide +kernel) (by decide) rfl rfl ?_
      refine u_X5_findRanks_33 F Rt hk  z_N _ _ _ hρ h
    · rw [if_neg c] at h
      refine j_aload_n F (pc := 8) (q := 0) (by decide +kernel) rfl ?_
      refine j_getR F (pc := 9) (hk.r hρ r_98_22) fl_X5_54 (hk.s c_98) rfl (by decide +kernel) ?_
      refine j_bipush F (pc := 12) (n := 64) (v := 64) (by decide +kernel) (by decide +kernel) ?_
      refine j_iload_n F (pc := 14) (q := 1) (by decide +kernel) rfl ?_
      refine j_imul F (pc := 15) (by decide +kernel) ?_
      refine j_iload_n F (pc := 16) (q := 2) (by decide +kernel) rfl ?_
      refine j_iadd F (pc := 17) (by decide +kernel) ?_
      refine j_aload_n F (pc := 18) (q := 0) (by decide +kernel) rfl ?_
      refine j_getR F (pc := 19) (hk.r hρ r_98_10) fl_X5_41 (hk.s c_98) rfl (by decide +kernel) ?_
      refine j_iload_n F (pc := 22) (q := 2) (by decide +kernel) rfl ?_
      obtain ⟨hg, h⟩ := z_ifs h
      refine j_zald F (pc := 23) (hk.s c_109) hg (by decide +kernel) ?_
      obtain ⟨hg, h⟩ := z_ifs h
      refine j_zast F (pc := 24) (hk.s c_112) hg (by decide +kernel) ?_
      obtain ⟨μ29, e31, h⟩ := z_st_some h
      rw [← e31]
      have hρ30 : μ29.2.2 = ρ := by rw [e31]; exact hρ
      refine j_iinc F (pc := 25) (i := 2) (n := 1) (v := 1) (L' := [some (.ref 98), some (.int x1), some (.int (x2 + (1 : Int32))), none, none]) (by decide +kernel) rfl (by decide +kernel) (by decide) rfl rfl ?_
      refine j_goto F (pc := 28) (off := -26) (tgt := 2) (by decide +kernel) (by decide) ?_
      exact ih _ _ _ hρ30 h
set_option maxHeartbeats 4000000 in
set_option maxRecDepth 100000 in
theorem t_X5_findRanks {G : z_Gl} {ρ : Nat → Nat → Option Nat} {μ : z_M} {μr : z_M} {x1 : Int32} (hρ : μ.2.2 = ρ) (hk : z_ok (z_sh G) ρ) (h : f_X5_findRanks x1 μ = some μr) : z_Cv G yX5_findRanks cX5_findRanks 5 none 2 [.ref 98, .int x1] μ (fun μ1 => μr = μ1) := by
  unfold z_Cv
  refine z_intro (by decide +kernel) (Nat.le_of_ble_eq_true rfl) (fun E hE F Rt => ?_)
  subst hE
  have F : z_F E RX5 cX5_findRanks 5 2 := F
  rw [hρ] at Rt
  unfold f_X5_findRanks at h
  show z_J E 5 0 [some (.ref 98), some (.int x1), none, none, none] [] μ
  refine j_iconst F (pc := 0) (n := 0) (v := 0) (by decide +kernel) (by decide +kernel) ?_
  refine j_istore_n F (pc := 1) (q := 2) (L' := [some (.ref 98), some (.int x1), some (.int (0 : Int32)), none, none]) (by decide +kernel) (by decide) rfl rfl ?_
  refine u_X5_findRanks_2 F Rt hk  z_N _ _ _ hρ h
