/-! functions and contracts, written by wip/whole/dec.py -/
def g_X5_goBack_273   : Nat → Int32 → Int32 → z_M → Option (Int32 × z_M)
  | 0, _, _, _ => none
  | n + 1, x2, x3, μ => (if (3 : Int32) ≤ x3 then (some ((1 : Int32), μ)) else (if z_in ((x2 + (117 : Int32)) + x3) 300 then (if z_in x3 3 then (z_st (z_si μ 125 x3.toNatClampNeg (μ.1 134 ((x2 + (117 : Int32)) + x3).toNatClampNeg)) fun μ16 => (g_X5_goBack_273   n (x2) ((x3 + (1 : Int32))) μ16)) else none) else none))
def g_X5_goBack_243   : Nat → Int32 → Int32 → z_M → Option (Int32 × z_M)
  | 0, _, _, _ => none
  | n + 1, x2, x3, μ => (if (5 : Int32) ≤ x3 then (g_X5_goBack_273   z_N (x2) ((0 : Int32)) μ) else (if z_in ((x2 + (112 : Int32)) + x3) 300 then (if z_in x3 5 then (z_st (z_si μ 124 x3.toNatClampNeg (μ.1 134 ((x2 + (112 : Int32)) + x3).toNatClampNeg)) fun μ19 => (g_X5_goBack_243   n (x2) ((x3 + (1 : Int32))) μ19)) else none) else none))
def g_X5_goBack_101   : Nat → Int32 → Int32 → z_M → Option (Int32 × z_M)
  | 0, _, _, _ => none
  | n + 1, x2, x3, μ => (if (14 : Int32) ≤ x3 then (g_X5_goBack_243   z_N (x2) ((0 : Int32)) μ) else (if z_in ((x2 + (14 : Int32)) + x3) 300 then (if z_in x3 15 then (z_st (z_si μ 116 x3.toNatClampNeg (μ.1 134 ((x2 + (14 : Int32)) + x3).toNatClampNeg)) fun μ22 => (if z_in ((x2 + (28 : Int32)) + x3) 300 then (if z_in x3 15 then (z_st (z_si μ22 117 x3.toNatClampNeg (μ22.1 134 ((x2 + (28 : Int32)) + x3).toNatClampNeg)) fun μ25 => (if z_in ((x2 + (42 : Int32)) + x3) 300 then (if z_in x3 15 then (z_st (z_si μ25 118 x3.toNatClampNeg (μ25.1 134 ((x2 + (42 : Int32)) + x3).toNatClampNeg)) fun μ28 => (if z_in ((x2 + (56 : Int32)) + x3) 300 then (if z_in x3 15 then (z_st (z_si μ28 119 x3.toNatClampNeg (μ28.1 134 ((x2 + (56 : Int32)) + x3).toNatClampNeg)) fun μ31 => (if z_in ((x2 + (70 : Int32)) + x3) 300 then (if z_in x3 15 then (z_st (z_si μ31 120 x3.toNatClampNeg ((if (μ31.1 134 ((x2 + (70 : Int32)) + x3).toNatClampNeg) = (1 : Int32) then (1 : Int32) else (0 : Int32)) &&& 1)) fun μ34 => (if z_in ((x2 + (84 : Int32)) + x3) 300 then (if z_in x3 15 then (z_st (z_si μ34 121 x3.toNatClampNeg (μ34.1 134 ((x2 + (84 : Int32)) + x3).toNatClampNeg)) fun μ37 => (if z_in ((x2 + (98 : Int32)) + x3) 300 then (if z_in x3 15 then (z_st (z_si μ37 122 x3.toNatClampNeg (μ37.1 134 ((x2 + (98 : Int32)) + x3).toNatClampNeg)) fun μ40 => (g_X5_goBack_101   n (x2) ((x3 + (1 : Int32))) μ40)) else none) else none)) else none) else none)) else none) else none)) else none) else none)) else none) else none)) else none) else none)) else none) else none))
def g_X5_goBack_54   : Nat → Int32 → Int32 → z_M → Option (Int32 × z_M)
  | 0, _, _, _ => none
  | n + 1, x2, x3, μ => (if (6 : Int32) ≤ x3 then (g_X5_goBack_101   z_N (x2) ((0 : Int32)) μ) else (if z_in ((x2 + (2 : Int32)) + x3) 300 then (if z_in x3 7 then (z_st (z_si μ 114 x3.toNatClampNeg (μ.1 134 ((x2 + (2 : Int32)) + x3).toNatClampNeg)) fun μ43 => (if z_in ((x2 + (8 : Int32)) + x3) 300 then (if z_in x3 7 then (z_st (z_si μ43 115 x3.toNatClampNeg (μ43.1 134 ((x2 + (8 : Int32)) + x3).toNatClampNeg)) fun μ46 => (g_X5_goBack_54   n (x2) ((x3 + (1 : Int32))) μ46)) else none) else none)) else none) else none))
def f_X5_goBack (x1 : Int32) (μ : z_M) : Option (Int32 × z_M) :=
  (z_b2 (f_X5_isImage (x1) μ) fun r1 μ2 => (if r1 = 0 then (some ((-1001 : Int32), μ2)) else (if z_in x1 2 then (if (μ2.1 135 x1.toNatClampNeg) = 0 then (some ((-1003 : Int32), μ2)) else (z_lt ((150 : Int32) * x1) fun x_8 => (if z_in x_8 300 then (z_st (z_si μ2 98 24 (μ2.1 134 x_8.toNatClampNeg)) fun μ10 => (if z_in (x_8 + (1 : Int32)) 300 then (z_st (z_si μ10 98 27 (μ10.1 134 (x_8 + (1 : Int32)).toNatClampNeg)) fun μ13 => (g_X5_goBack_54   z_N (x_8) ((0 : Int32)) μ13)) else none)) else none))) else none)))
set_option maxHeartbeats 4000000 in
set_option maxRecDepth 100000 in
theorem u_X5_goBack_273 {E : z_E} {ρ : Nat → Nat → Option Nat} {r : Int32} {μr : z_M} (F : z_F E RX5 cX5_goBack 4 2) (Rt : z_R E (some .int) (fun v μ1 => μ1.2.2 = ρ ∧ ∃ r1, v = some (.int r1) ∧ r = r1 ∧ μr = μ1))  (hk : z_ok (z_sh E.1) ρ) : ∀ (n : Nat) (x2 : Int32) (x3 : Int32) (μ : z_M), μ.2.2 = ρ → g_X5_goBack_273   n x2 x3 μ = some (r, μr) → z_J E 4 273 [some (.ref 98), none, some (.int x2), some (.int x3)] [] μ := by
  intro n
  induction n with
  | zero =>
    intro x2 x3 μ hρ h
    rw [g_X5_goBack_273] at h
    cases h
  | succ n ih =>
    intro x2 x3 μ hρ h
    rw [g_X5_goBack_273] at h
    refine j_iload_n F (pc := 273) (q := 3) (by decide +kernel) rfl ?_
    refine j_iconst F (pc := 274) (n := 3) (v := 3) (by decide +kernel) (by decide +kernel) ?_
    refine j_icmp_ge F (pc := 275) (off := 26) (tgt := 301) (by decide +kernel) (by decide) (fun c => ?_) (fun c => ?_)
    · rw [if_pos c] at h
      refine j_iconst F (pc := 301) (n := 1) (v := 1) (by decide +kernel) (by decide +kernel) ?_
      exact j_iret (st := []) F Rt rfl (by decide +kernel) ⟨hρ, _, rfl, (congrArg Prod.fst (Option.some.inj h)).symm, (congrArg Prod.snd (Option.some.inj h)).symm⟩
    · rw [if_neg c] at h
      refine j_aload_n F (pc := 278) (q := 0) (by decide +kernel) rfl ?_
      refine j_getR F (pc := 279) (hk.r hρ r_98_37) fl_X5_93 (hk.s c_98) rfl (by decide +kernel) ?_
      refine j_iload_n F (pc := 282) (q := 3) (by decide +kernel) rfl ?_
      refine j_aload_n F (pc := 283) (q := 0) (by decide +kernel) rfl ?_
      refine j_getR F (pc := 284) (hk.r hρ r_98_46) fl_X5_120 (hk.s c_98) rfl (by decide +kernel) ?_
      refine j_iload_n F (pc := 287) (q := 2) (by decide +kernel) rfl ?_
      refine j_bipush F (pc := 288) (n := 117) (v := 117) (by decide +kernel) (by decide +kernel) ?_
      refine j_iadd F (pc := 290) (by decide +kernel) ?_
      refine j_iload_n F (pc := 291) (q := 3) (by decide +kernel) rfl ?_
      refine j_iadd F (pc := 292) (by decide +kernel) ?_
      obtain ⟨hg, h⟩ := z_ifs h
      refine j_iald F (pc := 293) (hk.s c_134) hg (by decide +kernel) ?_
      obtain ⟨hg, h⟩ := z_ifs h
      refine j_iast F (pc := 294) (hk.s c_125) hg (by decide +kernel) ?_
      obtain ⟨μ16, e18, h⟩ := z_st_some h
      rw [← e18]
      have hρ17 : μ16.2.2 = ρ := by rw [e18]; exact hρ
      refine j_iinc F (pc := 295) (i := 3) (n := 1) (v := 1) (L' := [some (.ref 98), none, some (.int x2), some (.int (x3 + (1 : Int32)))]) (by decide +kernel) rfl (by decide +kernel) (by decide) rfl rfl ?_
      refine j_goto F (pc := 298) (off := -25) (tgt := 273) (by decide +kernel) (by decide) ?_
      exact ih _ _ _ hρ17 h
set_option maxHeartbeats 4000000 in
set_option maxRecDepth 100000 in
theorem u_X5_goBack_243 {E : z_E} {ρ : Nat → Nat → Option Nat} {r : Int32} {μr : z_M} (F : z_F E RX5 cX5_goBack 4 2) (Rt : z_R E (some .int) (fun v μ1 => μ1.2.2 = ρ ∧ ∃ r1, v = some (.int r1) ∧ r = r1 ∧ μr = μ1))  (hk : z_ok (z_sh E.1) ρ) : ∀ (n : Nat) (x2 : Int32) (x3 : Int32) (μ : z_M), μ.2.2 = ρ → g_X5_goBack_243   n x2 x3 μ = some (r, μr) → z_J E 4 243 [some (.ref 98), none, some (.int x2), some (.int x3)] [] μ := by
  intro n
  induction n with
  | zero =>
    intro x2 x3 μ hρ h
    rw [g_X5_goBack_243] at h
    cases h
  | succ n ih =>
    intro x2 x3 μ hρ h
    rw [g_X5_goBack_243] at h
    refine j_iload_n F (pc := 243) (q := 3) (by decide +kernel) rfl ?_
    refine j_iconst F (pc := 244) (n := 5) (v := 5) (by decide +kernel) (by decide +kernel) ?_
    refine j_icmp_ge F (pc := 245) (off := 26) (tgt := 271) (by decide +kernel) (by decide) (fun c => ?_) (fun c => ?_)
    · rw [if_pos c] at h
      refine j_iconst F (pc := 271) (n := 0) (v := 0) (by decide +kernel) (by decide +kernel) ?_
      refine j_istore_n F (pc := 272) (q := 3) (L' := [some (.ref 98), none, some (.int x2), some (.int (0 : Int32))]) (by decide +kernel) (by decide) rfl rfl ?_
      refine u_X5_goBack_273 F Rt hk  z_N _ _ _ hρ h
    · rw [if_neg c] at h
      refine j_aload_n F (pc := 248) (q := 0) (by decide +kernel) rfl ?_
      refine j_getR F (pc := 249) (hk.r hρ r_98_36) fl_X5_90 (hk.s c_98) rfl (by decide +kernel) ?_
      refine j_iload_n F (pc := 252) (q := 3) (by decide +kernel) rfl ?_
      refine j_aload_n F (pc := 253) (q := 0) (by decide +kernel) rfl ?_
      refine j_getR F (pc := 254) (hk.r hρ r_98_46) fl_X5_120 (hk.s c_98) rfl (by decide +kernel) ?_
      refine j_iload_n F (pc := 257) (q := 2) (by decide +kernel) rfl ?_
      refine j_bipush F (pc := 258) (n := 112) (v := 112) (by decide +kernel) (by decide +kernel) ?_
      refine j_iadd F (pc := 260) (by decide +kernel) ?_
      refine j_iload_n F (pc := 261) (q := 3) (by decide +kernel) rfl ?_
      refine j_iadd F (pc := 262) (by decide +kernel) ?_
      obtain ⟨hg, h⟩ := z_ifs h
      refine j_iald F (pc := 263) (hk.s c_134) hg (by decide +kernel) ?_
      obtain ⟨hg, h⟩ := z_ifs h
      refine j_iast F (pc := 264) (hk.s c_124) hg (by decide +kernel) ?_
      obtain ⟨μ19, e21, h⟩ := z_st_some h
      rw [← e21]
      have hρ20 : μ19.2.2 = ρ := by rw [e21]; exact hρ
      refine j_iinc F (pc := 265) (i := 3) (n := 1) (v := 1) (L' := [some (.ref 98), none, some (.int x2), some (.int (x3 + (1 : Int32)))]) (by decide +kernel) rfl (by decide +kernel) (by decide) rfl rfl ?_
      refine j_goto F (pc := 268) (off := -25) (tgt := 243) (by decide +kernel) (by decide) ?_
      exact ih _ _ _ hρ20 h
set_option maxHeartbeats 4000000 in
set_option maxRecDepth 100000 in
theorem u_X5_goBack_101 {E : z_E} {ρ : Nat → Nat → Option Nat} {r : Int32} {μr : z_M} (F : z_F E RX5 cX5_goBack 4 2) (Rt : z_R E (some .int) (fun v μ1 => μ1.2.2 = ρ ∧ ∃ r1, v = some (.int r1) ∧ r = r1 ∧ μr = μ1))  (hk : z_ok (z_sh E.1) ρ) : ∀ (n : Nat) (x2 : Int32) (x3 : Int32) (μ : z_M), μ.2.2 = ρ → g_X5_goBack_101   n x2 x3 μ = some (r, μr) → z_J E 4 101 [some (.ref 98), none, some (.int x2), some (.int x3)] [] μ := by
  intro n
  induction n with
  | zero =>
    intro x2 x3 μ hρ h
    rw [g_X5_goBack_101] at h
    cases h
  | succ n ih =>
    intro x2 x3 μ hρ h
    rw [g_X5_goBack_101] at h
    refine j_iload_n F (pc := 101) (q := 3) (by decide +kernel) rfl ?_
    refine j_bipush F (pc := 102) (n := 14) (v := 14) (by decide +kernel) (by decide +kernel) ?_
    refine j_icmp_ge F (pc := 104) (off := 137) (tgt := 241) (by decide +kernel) (by decide) (fun c => ?_) (fun c => ?_)
    · rw [if_pos c] at h
      refine j_iconst F (pc := 241) (n := 0) (v := 0) (by decide +kernel) (by decide +kernel) ?_
      refine j_istore_n F (pc := 242) (q := 3) (L' := [some (.ref 98), none, some (.int x2), some (.int (0 : Int32))]) (by decide +kernel) (by decide) rfl rfl ?_
      refine u_X5_goBack_243 F Rt hk  z_N _ _ _ hρ h
    · rw [if_neg c] at h
      refine j_aload_n F (pc := 107) (q := 0) (by decide +kernel) rfl ?_
      refine j_getR F (pc := 108) (hk.r hρ r_98_28) fl_X5_66 (hk.s c_98) rfl (by decide +kernel) ?_
      refine j_iload_n F (pc := 111) (q := 3) (by decide +kernel) rfl ?_
      refine j_aload_n F (pc := 112) (q := 0) (by decide +kernel) rfl ?_
      refine j_getR F (pc := 113) (hk.r hρ r_98_46) fl_X5_120 (hk.s c_98) rfl (by decide +kernel) ?_
      refine j_iload_n F (pc := 116) (q := 2) (by decide +kernel) rfl ?_
      refine j_bipush F (pc := 117) (n := 14) (v := 14) (by decide +kernel) (by decide +kernel) ?_
      refine j_iadd F (pc := 119) (by decide +kernel) ?_
      refine j_iload_n F (pc := 120) (q := 3) (by decide +kernel) rfl ?_
      refine j_iadd F (pc := 121) (by decide +kernel) ?_
      obtain ⟨hg, h⟩ := z_ifs h
      refine j_iald F (pc := 122) (hk.s c_134) hg (by decide +kernel) ?_
      obtain ⟨hg, h⟩ := z_ifs h
      refine j_iast F (pc := 123) (hk.s c_116) hg (by decide +kernel) ?_
      obtain ⟨μ22, e24, h⟩ := z_st_some h
      rw [← e24]
      have hρ23 : μ22.2.2 = ρ := by rw [e24]; exact hρ
      refine j_aload_n F (pc := 124) (q := 0) (by decide +kernel) rfl ?_
      refine j_getR F (pc := 125) (hk.r hρ23 r_98_29) fl_X5_69 (hk.s c_98) rfl (by decide +kernel) ?_
      refine j_iload_n F (pc := 128) (q := 3) (by decide +kernel) rfl ?_
      refine j_aload_n F (pc := 129) (q := 0) (by decide +kernel) rfl ?_
      refine j_getR F (pc := 130) (hk.r hρ23 r_98_46) fl_X5_120 (hk.s c_98) rfl (by decide +kernel) ?_
      refine j_iload_n F (pc := 133) (q := 2) (by decide +kernel) rfl ?_
      refine j_bipush F (pc := 134) (n := 28) (v := 28) (by decide +kernel) (by decide +kernel) ?_
      refine j_iadd F (pc := 136) (by decide +kernel) ?_
      refine j_iload_n F (pc := 137) (q := 3) (by decide +kernel) rfl ?_
      refine j_iadd F (pc := 138) (by decide +kernel) ?_
      obtain ⟨hg, h⟩ := z_ifs h
      refine j_iald F (pc := 139) (hk.s c_134) hg (by decide +kernel) ?_
      obtain ⟨hg, h⟩ := z_ifs h
      refine j_iast F (pc := 140) (hk.s c_117) hg (by decide +kernel) ?_
      obtain ⟨μ25, e27, h⟩ := z_st_some h
      rw [← e27]
      have hρ26 : μ25.2.2 = ρ := by rw [e27]; exact hρ23
      refine j_aload_n F (pc := 141) (q := 0) (by decide +kernel) rfl ?_
      refine j_getR F (pc := 142) (hk.r hρ26 r_98_30) fl_X5_72 (hk.s c_98) rfl (by decide +kernel) ?_
      refine j_iload_n F (pc := 145) (q := 3) (by decide +kernel) rfl ?_
      refine j_aload_n F (pc := 146) (q := 0) (by decide +kernel) rfl ?_
      refine j_getR F (pc := 147) (hk.r hρ26 r_98_46) fl_X5_120 (hk.s c_98) rfl (by decide +kernel) ?_
      refine j_iload_n F (pc := 150) (q := 2) (by decide +kernel) rfl ?_
      refine j_bipush F (pc := 151) (n := 42) (v := 42) (by decide +kernel) (by decide +kernel) ?_
      refine j_iadd F (pc := 153) (by decide +kernel) ?_
      refine j_iload_n F (pc := 154) (q := 3) (by decide +kernel) rfl ?_
      refine j_iadd F (pc := 155) (by decide +kernel) ?_
      obtain ⟨hg, h⟩ := z_ifs h
      refine j_iald F (pc := 156) (hk.s c_134) hg (by decide +kernel) ?_
      obtain ⟨hg, h⟩ := z_ifs h
      refine j_iast F (pc := 157) (hk.s c_118) hg (by decide +kernel) ?_
      obtain ⟨μ28, e30, h⟩ := z_st_some h
      rw [← e30]
      have hρ29 : μ28.2.2 = ρ := by rw [e30]; exact hρ26
      refine j_aload_n F (pc := 158) (q := 0) (by decide +kernel) rfl ?_
      refine j_getR F (pc := 159) (hk.r hρ29 r_98_31) fl_X5_75 (hk.s c_98) rfl (by decide +kernel) ?_
      refine j_iload_n F (pc := 162) (q := 3) (by decide +kernel) rfl ?_
      refine j_aload_n F (pc := 163) (q := 0) (by decide +kernel) rfl ?_
      refine j_getR F (pc := 164) (hk.r hρ29 r_98_46) fl_X5_120 (hk.s c_98) rfl (by decide +kernel) ?_
      refine j_iload_n F (pc := 167) (q := 2) (by decide +kernel) rfl ?_
      refine j_bipush F (pc := 168) (n := 56) (v := 56) (by decide +kernel) (by decide +kernel) ?_
      refine j_iadd F (pc := 170) (by decide +kernel) ?_
      refine j_iload_n F (pc := 171) (q := 3) (by decide +kernel) rfl ?_
      refine j_iadd F (pc := 172) (by decide +kernel) ?_
      obtain ⟨hg, h⟩ := z_ifs h
      refine j_iald F (pc := 173) (hk.s c_134) hg (by decide +kernel) ?_
      obtain ⟨hg, h⟩ := z_ifs h
      refine j_iast F (pc := 174) (hk.s c_119) hg (by decide +kernel) ?_
      obtain ⟨μ31, e33, h⟩ := z_st_some h
      rw [← e33]
      have hρ32 : μ31.2.2 = ρ := by rw [e33]; exact hρ29
      refine j_aload_n F (pc := 175) (q := 0) (by decide +kernel) rfl ?_
      refine j_getR F (pc := 176) (hk.r hρ32 r_98_32) fl_X5_78 (hk.s c_98) rfl (by decide +kernel) ?_
      refine j_iload_n F (pc := 179) (q := 3) (by decide +kernel) rfl ?_
      refine j_aload_n F (pc := 180) (q := 0) (by decide +kernel) rfl ?_
      refine j_getR F (pc := 181) (hk.r hρ32 r_98_46) fl_X5_120 (hk.s c_98) rfl (by decide +kernel) ?_
      refine j_iload_n F (pc := 184) (q := 2) (by decide +kernel) rfl ?_
      refine j_bipush F (pc := 185) (n := 70) (v := 70) (by decide +kernel) (by decide +kernel) ?_
      refine j_iadd F (pc := 187) (by decide +kernel) ?_
      refine j_iload_n F (pc := 188) (q := 3) (by decide +kernel) rfl ?_
      refine j_iadd F (pc := 189) (by decide +kernel) ?_
      obtain ⟨hg, h⟩ := z_ifs h
      refine j_iald F (pc := 190) (hk.s c_134) hg (by decide +kernel) ?_
      refine j_iconst F (pc := 191) (n := 1) (v := 1) (by decide +kernel) (by decide +kernel) ?_
      suffices hj : z_J E 4 200 [some (.ref 98), none, some (.int x2), some (.int x3)] (.int (if (μ31.1 134 ((x2 + (70 : Int32)) + x3).toNatClampNeg) = (1 : Int32) then (1 : Int32) else (0 : Int32)) :: [.int x3, .ref 120]) μ31 by
        refine j_icmp_ne F (pc := 192) (off := 7) (tgt := 199) (by decide +kernel) (by decide) (fun c0 => ?_) (fun c0 => ?_)
        · rw [if_neg c0] at hj
          refine j_iconst F (pc := 199) (n := 0) (v := 0) (by decide +kernel) (by decide +kernel) ?_
          exact hj
        · rw [if_pos c0] at hj
          refine j_iconst F (pc := 195) (n := 1) (v := 1) (by decide +kernel) (by decide +kernel) ?_
          refine j_goto F (pc := 196) (off := 4) (tgt := 200) (by decide +kernel) (by decide) ?_
          exact hj
      obtain ⟨hg, h⟩ := z_ifs h
      refine j_zast F (pc := 200) (hk.s c_120) hg (by decide +kernel) ?_
      obtain ⟨μ34, e36, h⟩ := z_st_some h
      rw [← e36]
      have hρ35 : μ34.2.2 = ρ := by rw [e36]; exact hρ32
      refine j_aload_n F (pc := 201) (q := 0) (by decide +kernel) rfl ?_
      refine j_getR F (pc := 202) (hk.r hρ35 r_98_33) fl_X5_81 (hk.s c_98) rfl (by decide +kernel) ?_
      refine j_iload_n F (pc := 205) (q := 3) (by decide +kernel) rfl ?_
      refine j_aload_n F (pc := 206) (q := 0) (by decide +kernel) rfl ?_
      refine j_getR F (pc := 207) (hk.r hρ35 r_98_46) fl_X5_120 (hk.s c_98) rfl (by decide +kernel) ?_
      refine j_iload_n F (pc := 210) (q := 2) (by decide +kernel) rfl ?_
      refine j_bipush F (pc := 211) (n := 84) (v := 84) (by decide +kernel) (by decide +kernel) ?_
      refine j_iadd F (pc := 213) (by decide +kernel) ?_
      refine j_iload_n F (pc := 214) (q := 3) (by decide +kernel) rfl ?_
      refine j_iadd F (pc := 215) (by decide +kernel) ?_
      obtain ⟨hg, h⟩ := z_ifs h
      refine j_iald F (pc := 216) (hk.s c_134) hg (by decide +kernel) ?_
      obtain ⟨hg, h⟩ := z_ifs h
      refine j_iast F (pc := 217) (hk.s c_121) hg (by decide +kernel) ?_
      obtain ⟨μ37, e39, h⟩ := z_st_some h
      rw [← e39]
      have hρ38 : μ37.2.2 = ρ := by rw [e39]; exact hρ35
      refine j_aload_n F (pc := 218) (q := 0) (by decide +kernel) rfl ?_
      refine j_getR F (pc := 219) (hk.r hρ38 r_98_34) fl_X5_84 (hk.s c_98) rfl (by decide +kernel) ?_
      refine j_iload_n F (pc := 222) (q := 3) (by decide +kernel) rfl ?_
      refine j_aload_n F (pc := 223) (q := 0) (by decide +kernel) rfl ?_
      refine j_getR F (pc := 224) (hk.r hρ38 r_98_46) fl_X5_120 (hk.s c_98) rfl (by decide +kernel) ?_
      refine j_iload_n F (pc := 227) (q := 2) (by decide +kernel) rfl ?_
      refine j_bipush F (pc := 228) (n := 98) (v := 98) (by decide +kernel) (by decide +kernel) ?_
      refine j_iadd F (pc := 230) (by decide +kernel) ?_
      refine j_iload_n F (pc := 231) (q := 3) (by decide +kernel) rfl ?_
      refine j_iadd F (pc := 232) (by decide +kernel) ?_
      obtain ⟨hg, h⟩ := z_ifs h
      refine j_iald F (pc := 233) (hk.s c_134) hg (by decide +kernel) ?_
      obtain ⟨hg, h⟩ := z_ifs h
      refine j_iast F (pc := 234) (hk.s c_122) hg (by decide +kernel) ?_
      obtain ⟨μ40, e42, h⟩ := z_st_some h
      rw [← e42]
      have hρ41 : μ40.2.2 = ρ := by rw [e42]; exact hρ38
      refine j_iinc F (pc := 235) (i := 3) (n := 1) (v := 1) (L' := [some (.ref 98), none, some (.int x2), some (.int (x3 + (1 : Int32)))]) (by decide +kernel) rfl (by decide +kernel) (by decide) rfl rfl ?_
      refine j_goto F (pc := 238) (off := -137) (tgt := 101) (by decide +kernel) (by decide) ?_
      exact ih _ _ _ hρ41 h
set_option maxHeartbeats 4000000 in
set_option maxRecDepth 100000 in
theorem u_X5_goBack_54 {E : z_E} {ρ : Nat → Nat → Option Nat} {r : Int32} {μr : z_M} (F : z_F E RX5 cX5_goBack 4 2) (Rt : z_R E (some .int) (fun v μ1 => μ1.2.2 = ρ ∧ ∃ r1, v = some (.int r1) ∧ r = r1 ∧ μr = μ1))  (hk : z_ok (z_sh E.1) ρ) : ∀ (n : Nat) (x2 : Int32) (x3 : Int32) (μ : z_M), μ.2.2 = ρ → g_X5_goBack_54   n x2 x3 μ = some (r, μr) → z_J E 4 54 [some (.ref 98), none, some (.int x2), some (.int x3)] [] μ := by
  intro n
  induction n with
  | zero =>
    intro x2 x3 μ hρ h
    rw [g_X5_goBack_54] at h
    cases h
  | succ n ih =>
    intro x2 x3 μ hρ h
    rw [g_X5_goBack_54] at h
    refine j_iload_n F (pc := 54) (q := 3) (by decide +kernel) rfl ?_
    refine j_bipush F (pc := 55) (n := 6) (v := 6) (by decide +kernel) (by decide +kernel) ?_
    refine j_icmp_ge F (pc := 57) (off := 42) (tgt := 99) (by decide +kernel) (by decide) (fun c => ?_) (fun c => ?_)
    · rw [if_pos c] at h
      refine j_iconst F (pc := 99) (n := 0) (v := 0) (by decide +kernel) (by decide +kernel) ?_
      refine j_istore_n F (pc := 100) (q := 3) (L' := [some (.ref 98), none, some (.int x2), some (.int (0 : Int32))]) (by decide +kernel) (by decide) rfl rfl ?_
      refine u_X5_goBack_101 F Rt hk  z_N _ _ _ hρ h
    · rw [if_neg c] at h
      refine j_aload_n F (pc := 60) (q := 0) (by decide +kernel) rfl ?_
      refine j_getR F (pc := 61) (hk.r hρ r_98_25) fl_X5_60 (hk.s c_98) rfl (by decide +kernel) ?_
      refine j_iload_n F (pc := 64) (q := 3) (by decide +kernel) rfl ?_
      refine j_aload_n F (pc := 65) (q := 0) (by decide +kernel) rfl ?_
      refine j_getR F (pc := 66) (hk.r hρ r_98_46) fl_X5_120 (hk.s c_98) rfl (by decide +kernel) ?_
      refine j_iload_n F (pc := 69) (q := 2) (by decide +kernel) rfl ?_
      refine j_iconst F (pc := 70) (n := 2) (v := 2) (by decide +kernel) (by decide +kernel) ?_
      refine j_iadd F (pc := 71) (by decide +kernel) ?_
      refine j_iload_n F (pc := 72) (q := 3) (by decide +kernel) rfl ?_
      refine j_iadd F (pc := 73) (by decide +kernel) ?_
      obtain ⟨hg, h⟩ := z_ifs h
      refine j_iald F (pc := 74) (hk.s c_134) hg (by decide +kernel) ?_
      obtain ⟨hg, h⟩ := z_ifs h
      refine j_iast F (pc := 75) (hk.s c_114) hg (by decide +kernel) ?_
      obtain ⟨μ43, e45, h⟩ := z_st_some h
      rw [← e45]
      have hρ44 : μ43.2.2 = ρ := by rw [e45]; exact hρ
      refine j_aload_n F (pc := 76) (q := 0) (by decide +kernel) rfl ?_
      refine j_getR F (pc := 77) (hk.r hρ44 r_98_26) fl_X5_63 (hk.s c_98) rfl (by decide +kernel) ?_
      refine j_iload_n F (pc := 80) (q := 3) (by decide +kernel) rfl ?_
      refine j_aload_n F (pc := 81) (q := 0) (by decide +kernel) rfl ?_
      refine j_getR F (pc := 82) (hk.r hρ44 r_98_46) fl_X5_120 (hk.s c_98) rfl (by decide +kernel) ?_
      refine j_iload_n F (pc := 85) (q := 2) (by decide +kernel) rfl ?_
      refine j_bipush F (pc := 86) (n := 8) (v := 8) (by decide +kernel) (by decide +kernel) ?_
      refine j_iadd F (pc := 88) (by decide +kernel) ?_
      refine j_iload_n F (pc := 89) (q := 3) (by decide +kernel) rfl ?_
      refine j_iadd F (pc := 90) (by decide +kernel) ?_
      obtain ⟨hg, h⟩ := z_ifs h
      refine j_iald F (pc := 91) (hk.s c_134) hg (by decide +kernel) ?_
      obtain ⟨hg, h⟩ := z_ifs h
      refine j_iast F (pc := 92) (hk.s c_115) hg (by decide +kernel) ?_
      obtain ⟨μ46, e48, h⟩ := z_st_some h
      rw [← e48]
      have hρ47 : μ46.2.2 = ρ := by rw [e48]; exact hρ44
      refine j_iinc F (pc := 93) (i := 3) (n := 1) (v := 1) (L' := [some (.ref 98), none, some (.int x2), some (.int (x3 + (1 : Int32)))]) (by decide +kernel) rfl (by decide +kernel) (by decide) rfl rfl ?_
      refine j_goto F (pc := 96) (off := -42) (tgt := 54) (by decide +kernel) (by decide) ?_
      exact ih _ _ _ hρ47 h
set_option maxHeartbeats 4000000 in
set_option maxRecDepth 100000 in
theorem t_X5_goBack {G : z_Gl} {ρ : Nat → Nat → Option Nat} {μ : z_M} {r : Int32} {μr : z_M} {x1 : Int32} (hρ : μ.2.2 = ρ) (hk : z_ok (z_sh G) ρ) (h : f_X5_goBack x1 μ = some (r, μr)) : z_Ci G yX5_goBack cX5_goBack 4 (some .int) 2 [.ref 98, .int x1] μ (fun r1 μ1 => r = r1 ∧ μr = μ1) := by
  unfold z_Ci
  refine z_intro (by decide +kernel) (Nat.le_of_ble_eq_true rfl) (fun E hE F Rt => ?_)
  subst hE
  have F : z_F E RX5 cX5_goBack 4 2 := F
  rw [hρ] at Rt
  unfold f_X5_goBack at h
  show z_J E 4 0 [some (.ref 98), some (.int x1), none, none] [] μ
  refine j_iload_n F (pc := 0) (q := 1) (by decide +kernel) rfl ?_
  obtain ⟨r1, μ2, hc4, h⟩ := z_b2_some h
  refine j_callSi F (pc := 1) (idx := 354) (As := [.int x1]) (st := []) (t_X5_isImage (G := E.1) hρ  hc4) q_X5_isImage m_1339 m_1338 rfl (by decide) (Nat.le_of_ble_eq_true rfl) rfl (by decide +kernel) (fun s7 ν5 hq6 hp => ?_)
  obtain ⟨rfl, rfl⟩ := hp
  have hρ3 : μ2.2.2 = ρ := hq6.trans hρ
  refine j_if_ne F (pc := 4) (off := 7) (tgt := 11) (by decide +kernel) (by decide) (fun c => ?_) (fun c => ?_)
  · rw [if_neg c] at h
    refine j_aload_n F (pc := 11) (q := 0) (by decide +kernel) rfl ?_
    refine j_getR F (pc := 12) (hk.r hρ3 r_98_47) fl_X5_123 (hk.s c_98) rfl (by decide +kernel) ?_
    refine j_iload_n F (pc := 15) (q := 1) (by decide +kernel) rfl ?_
    obtain ⟨hg, h⟩ := z_ifs h
    refine j_zald F (pc := 16) (hk.s c_135) hg (by decide +kernel) ?_
    refine j_if_ne F (pc := 17) (off := 7) (tgt := 24) (by decide +kernel) (by decide) (fun c => ?_) (fun c => ?_)
    · rw [if_neg c] at h
      refine j_sipush F (pc := 24) (n := 150) (v := 150) (by decide +kernel) (by decide +kernel) ?_
      refine j_iload_n F (pc := 27) (q := 1) (by decide +kernel) rfl ?_
      refine j_imul F (pc := 28) (by decide +kernel) ?_
      obtain ⟨x_8, e9, h⟩ := z_lt_some h
      rw [← e9]
      refine j_istore_n F (pc := 29) (q := 2) (L' := [some (.ref 98), some (.int x1), some (.int x_8), none]) (by decide +kernel) (by decide) rfl rfl ?_
      refine j_aload_n F (pc := 30) (q := 0) (by decide +kernel) rfl ?_
      refine j_aload_n F (pc := 31) (q := 0) (by decide +kernel) rfl ?_
      refine j_getR F (pc := 32) (hk.r hρ3 r_98_46) fl_X5_120 (hk.s c_98) rfl (by decide +kernel) ?_
      refine j_iload_n F (pc := 35) (q := 2) (by decide +kernel) rfl ?_
      obtain ⟨hg, h⟩ := z_ifs h
      refine j_iald F (pc := 36) (hk.s c_134) hg (by decide +kernel) ?_
      refine j_putI F (pc := 37) fl_X5_274 fp_X5_24 (hk.s c_98) rfl (by decide +kernel) ?_
      obtain ⟨μ10, e12, h⟩ := z_st_some h
      rw [← e12]
      have hρ11 : μ10.2.2 = ρ := by rw [e12]; exact hρ3
      refine j_aload_n F (pc := 40) (q := 0) (by decide +kernel) rfl ?_
      refine j_aload_n F (pc := 41) (q := 0) (by decide +kernel) rfl ?_
      refine j_getR F (pc := 42) (hk.r hρ11 r_98_46) fl_X5_120 (hk.s c_98) rfl (by decide +kernel) ?_
      refine j_iload_n F (pc := 45) (q := 2) (by decide +kernel) rfl ?_
      refine j_iconst F (pc := 46) (n := 1) (v := 1) (by decide +kernel) (by decide +kernel) ?_
      refine j_iadd F (pc := 47) (by decide +kernel) ?_
      obtain ⟨hg, h⟩ := z_ifs h
      refine j_iald F (pc := 48) (hk.s c_134) hg (by decide +kernel) ?_
      refine j_putI F (pc := 49) fl_X5_268 fp_X5_27 (hk.s c_98) rfl (by decide +kernel) ?_
      obtain ⟨μ13, e15, h⟩ := z_st_some h
      rw [← e15]
      have hρ14 : μ13.2.2 = ρ := by rw [e15]; exact hρ11
      refine j_iconst F (pc := 52) (n := 0) (v := 0) (by decide +kernel) (by decide +kernel) ?_
      refine j_istore_n F (pc := 53) (q := 3) (L' := [some (.ref 98), some (.int x1), some (.int x_8), some (.int (0 : Int32))]) (by decide +kernel) (by decide) rfl rfl ?_
      refine j_mk F [true, false, true, true] (L' := [some (.ref 98), none, some (.int x_8), some (.int (0 : Int32))]) rfl ?_
      refine u_X5_goBack_54 F Rt hk  z_N _ _ _ hρ14 h
    · rw [if_pos c] at h
      refine j_sipush F (pc := 20) (n := -1003) (v := -1003) (by decide +kernel) (by decide +kernel) ?_
      exact j_iret (st := []) F Rt rfl (by decide +kernel) ⟨hρ3, _, rfl, (congrArg Prod.fst (Option.some.inj h)).symm, (congrArg Prod.snd (Option.some.inj h)).symm⟩
  · rw [if_pos c] at h
    refine j_sipush F (pc := 7) (n := -1001) (v := -1001) (by decide +kernel) (by decide +kernel) ?_
    exact j_iret (st := []) F Rt rfl (by decide +kernel) ⟨hρ3, _, rfl, (congrArg Prod.fst (Option.some.inj h)).symm, (congrArg Prod.snd (Option.some.inj h)).symm⟩
