/-! functions and contracts, written by wip/whole/dec.py -/
def g_X5_more_294   : Nat → Int32 → Int32 → Int32 → Int32 → Int32 → Int32 → z_M → Option (Int32 × z_M)
  | 0, _, _, _, _, _, _, _ => none
  | n + 1, x4, x8, x9, x11, x12, x13, μ => (if (6 : Int32) ≤ x13 then (if z_in (1 : Int32) 5 then (if z_in (1 : Int32) 5 then (z_st (z_si μ 124 (1 : Int32).toNatClampNeg ((μ.1 124 (1 : Int32).toNatClampNeg) - x8)) fun μ85 => (z_st (z_si μ85 98 27 ((μ85.1 98 27) - (1 : Int32))) fun μ88 => (z_st (z_si μ88 98 24 ((μ88.1 98 24) - (1 : Int32))) fun μ91 => (some ((if x4 = (-1 : Int32) then x11 else x12), μ91))))) else none) else none) else (z_b2 (f_X5_having (x13) μ) fun r94 μ95 => (if z_in x13 6 then (z_lt ((r94 * ((100 : Int32) - x9)) - ((100 : Int32) * (μ95.1 132 x13.toNatClampNeg))) fun x_101 => (z_lt (x11 ||| (if x_101 ≤ 0 then (0 : Int32) else ((1 : Int32) <<< (x13 &&& 31)))) fun x_103 => (z_lt (if x13 = x4 then x_101 else x12) fun x_105 => (g_X5_more_294   n (x4) (x8) (x9) (x_103) (x_105) ((x13 + (1 : Int32))) μ95)))) else none)))
def g_X5_more_181   : Nat → Int32 → Int32 → Int32 → Int32 → Int32 → Int32 → Int32 → Int32 → Int32 → Int32 → z_M → Option (Int32 × z_M)
  | 0, _, _, _, _, _, _, _, _, _, _, _ => none
  | n + 1, x1, x2, x3, x4, x5, x6, x7, x8, x9, x11, μ => (if (6 : Int32) ≤ x11 then (if z_in (μ.1 98 24) 7 then (z_st (z_si μ 114 (μ.1 98 24).toNatClampNeg (x2 + (1 : Int32))) fun μ58 => (if z_in (μ58.1 98 24) 7 then (z_st (z_si μ58 115 (μ58.1 98 24).toNatClampNeg x6) fun μ61 => (z_st (z_si μ61 98 24 ((μ61.1 98 24) + (1 : Int32))) fun μ64 => (z_b1 (f_X5_putClaim ((0 : Int32)) (x5) (x6) (x7) ((1 : Int32)) ((0 : Int32)) μ64) fun μ68 => (if z_in ((μ68.1 98 27) - (1 : Int32)) 15 then (z_st (z_si μ68 122 ((μ68.1 98 27) - (1 : Int32)).toNatClampNeg x6) fun μ73 => (if z_in (1 : Int32) 5 then (if z_in (1 : Int32) 5 then (z_st (z_si μ73 124 (1 : Int32).toNatClampNeg ((μ73.1 124 (1 : Int32).toNatClampNeg) + x8)) fun μ76 => (z_b1 (f_X5_payOut (x1) (x6) (x3) μ76) fun μ80 => (g_X5_more_294   z_N (x4) (x8) (x9) ((0 : Int32)) ((0 : Int32)) ((0 : Int32)) μ80))) else none) else none)) else none)))) else none)) else none) else (z_b2 (f_X5_having (x11) μ) fun r107 μ108 => (if z_in x11 6 then (z_st (z_si μ108 132 x11.toNatClampNeg r107) fun μ114 => (g_X5_more_181   n (x1) (x2) (x3) (x4) (x5) (x6) (x7) (x8) (x9) ((x11 + (1 : Int32))) μ114)) else none)))
def g_X5_more_21   (x1 : Int32) (x2 : Int32) (x3 : Int32) (x4 : Int32) (x5 : Int32) (x6 : Int32) (x7 : Int32) (x8 : Int32) (x9 : Int32) (μ : z_M) : Option (Int32 × z_M) :=
  (z_b2 (f_X5_isHolder (x5) μ) fun r8 μ9 => (if r8 = 0 then (some ((-1001 : Int32), μ9)) else (z_b2 (f_X5_isGood (x2) (x3) μ9) fun r15 μ16 => (if r15 = 0 then (some ((-1002 : Int32), μ16)) else (z_b2 (f_X5_in ((x6).toInt64) (((x2 + (1 : Int32))).toInt64) ((999 : Int64)) μ16) fun r22 μ23 => (if r22 = 0 then (some ((-1002 : Int32), μ23)) else (z_b2 (f_X5_in ((x7).toInt64) ((1 : Int64)) ((999 : Int64)) μ23) fun r29 μ30 => (if r29 = 0 then (some ((-1002 : Int32), μ30)) else (z_b2 (f_X5_in ((x8).toInt64) ((0 : Int64)) ((9999 : Int64)) μ30) fun r36 μ37 => (if r36 = 0 then (some ((-1002 : Int32), μ37)) else (z_b2 (f_X5_in ((x9).toInt64) ((0 : Int64)) ((100 : Int64)) μ37) fun r43 μ44 => (if r43 = 0 then (some ((-1002 : Int32), μ44)) else (if (¬ ((μ44.1 98 24) ≤ 0) → z_in ((μ44.1 98 24) - (1 : Int32)) 7) then (z_lt (if (μ44.1 98 24) ≤ 0 then (0 : Int32) else (if (μ44.1 115 ((μ44.1 98 24) - (1 : Int32)).toNatClampNeg) ≤ x2 then (0 : Int32) else (1 : Int32))) fun x_50 => (if x_50 = 0 then (if (μ44.1 98 24) = (6 : Int32) then (some ((-1003 : Int32), μ44)) else (if (μ44.1 98 27) = (14 : Int32) then (some ((-1003 : Int32), μ44)) else (if z_in (1 : Int32) 5 then (if ((μ44.1 124 (1 : Int32).toNatClampNeg) + x8) ≤ (9999 : Int32) then (z_b1 (f_X5_payOut (x1) (x2) (x3) μ44) fun μ53 => (g_X5_more_181   z_N (x1) (x2) (x3) (x4) (x5) (x6) (x7) (x8) (x9) ((0 : Int32)) μ53)) else (some ((-1003 : Int32), μ44))) else none))) else (some ((-1003 : Int32), μ44)))) else none)))))))))))))
def f_X5_more (x1 : Int32) (x2 : Int32) (x3 : Int32) (x4 : Int32) (x5 : Int32) (x6 : Int32) (x7 : Int32) (x8 : Int32) (x9 : Int32) (μ : z_M) : Option (Int32 × z_M) :=
  (z_b2 (f_X5_isLand (x1) μ) fun r1 μ2 => (if r1 = 0 then (some ((-1001 : Int32), μ2)) else (if x4 = (-1 : Int32) then (g_X5_more_21   (x1) (x2) (x3) (x4) (x5) (x6) (x7) (x8) (x9) μ2) else (z_b2 (f_X5_isHolder (x4) μ2) fun r117 μ118 => (if r117 = 0 then (some ((-1001 : Int32), μ118)) else (g_X5_more_21   (x1) (x2) (x3) (x4) (x5) (x6) (x7) (x8) (x9) μ118))))))
set_option maxHeartbeats 4000000 in
set_option maxRecDepth 100000 in
theorem u_X5_more_294 {E : z_E} {ρ : Nat → Nat → Option Nat} {r : Int32} {μr : z_M} (F : z_F E RX5 cX5_more 15 6) (Rt : z_R E (some .int) (fun v μ1 => μ1.2.2 = ρ ∧ ∃ r1, v = some (.int r1) ∧ r = r1 ∧ μr = μ1))  (hk : z_ok (z_sh E.1) ρ) : ∀ (n : Nat) (x4 : Int32) (x8 : Int32) (x9 : Int32) (x11 : Int32) (x12 : Int32) (x13 : Int32) (μ : z_M), μ.2.2 = ρ → g_X5_more_294   n x4 x8 x9 x11 x12 x13 μ = some (r, μr) → z_J E 15 294 [some (.ref 98), none, none, none, some (.int x4), none, none, none, some (.int x8), some (.int x9), none, some (.int x11), some (.int x12), some (.int x13), none] [] μ := by
  intro n
  induction n with
  | zero =>
    intro x4 x8 x9 x11 x12 x13 μ hρ h
    rw [g_X5_more_294] at h
    cases h
  | succ n ih =>
    intro x4 x8 x9 x11 x12 x13 μ hρ h
    rw [g_X5_more_294] at h
    refine j_iload F (pc := 294) (i := 13) (by decide +kernel) rfl ?_
    refine j_bipush F (pc := 296) (n := 6) (v := 6) (by decide +kernel) (by decide +kernel) ?_
    refine j_icmp_ge F (pc := 298) (off := 68) (tgt := 366) (by decide +kernel) (by decide) (fun c => ?_) (fun c => ?_)
    · rw [if_pos c] at h
      refine j_aload_n F (pc := 366) (q := 0) (by decide +kernel) rfl ?_
      refine j_getR F (pc := 367) (hk.r hρ r_98_36) fl_X5_90 (hk.s c_98) rfl (by decide +kernel) ?_
      refine j_iconst F (pc := 370) (n := 1) (v := 1) (by decide +kernel) (by decide +kernel) ?_
      refine j_dup2 F (pc := 371) (by decide +kernel) rfl rfl ?_
      obtain ⟨hg, h⟩ := z_ifs h
      refine j_iald F (pc := 372) (hk.s c_124) hg (by decide +kernel) ?_
      refine j_iload F (pc := 373) (i := 8) (by decide +kernel) rfl ?_
      refine j_isub F (pc := 375) (by decide +kernel) ?_
      obtain ⟨hg, h⟩ := z_ifs h
      refine j_iast F (pc := 376) (hk.s c_124) hg (by decide +kernel) ?_
      obtain ⟨μ85, e87, h⟩ := z_st_some h
      rw [← e87]
      have hρ86 : μ85.2.2 = ρ := by rw [e87]; exact hρ
      refine j_aload_n F (pc := 377) (q := 0) (by decide +kernel) rfl ?_
      refine j_dup F (pc := 378) (by decide +kernel) rfl ?_
      refine j_getI F (pc := 379) fl_X5_268 (hk.s c_98) rfl (by decide +kernel) ?_
      refine j_iconst F (pc := 382) (n := 1) (v := 1) (by decide +kernel) (by decide +kernel) ?_
      refine j_isub F (pc := 383) (by decide +kernel) ?_
      refine j_putI F (pc := 384) fl_X5_268 fp_X5_27 (hk.s c_98) rfl (by decide +kernel) ?_
      obtain ⟨μ88, e90, h⟩ := z_st_some h
      rw [← e90]
      have hρ89 : μ88.2.2 = ρ := by rw [e90]; exact hρ86
      refine j_aload_n F (pc := 387) (q := 0) (by decide +kernel) rfl ?_
      refine j_dup F (pc := 388) (by decide +kernel) rfl ?_
      refine j_getI F (pc := 389) fl_X5_274 (hk.s c_98) rfl (by decide +kernel) ?_
      refine j_iconst F (pc := 392) (n := 1) (v := 1) (by decide +kernel) (by decide +kernel) ?_
      refine j_isub F (pc := 393) (by decide +kernel) ?_
      refine j_putI F (pc := 394) fl_X5_274 fp_X5_24 (hk.s c_98) rfl (by decide +kernel) ?_
      obtain ⟨μ91, e93, h⟩ := z_st_some h
      rw [← e93]
      have hρ92 : μ91.2.2 = ρ := by rw [e93]; exact hρ89
      refine j_iload F (pc := 397) (i := 4) (by decide +kernel) rfl ?_
      refine j_iconst F (pc := 399) (n := -1) (v := -1) (by decide +kernel) (by decide +kernel) ?_
      suffices hj : z_J E 15 410 [some (.ref 98), none, none, none, some (.int x4), none, none, none, some (.int x8), some (.int x9), none, some (.int x11), some (.int x12), some (.int x13), none] (.int (if x4 = (-1 : Int32) then x11 else x12) :: []) μ91 by
        refine j_icmp_ne F (pc := 400) (off := 8) (tgt := 408) (by decide +kernel) (by decide) (fun c0 => ?_) (fun c0 => ?_)
        · rw [if_neg c0] at hj
          refine j_iload F (pc := 408) (i := 12) (by decide +kernel) rfl ?_
          exact hj
        · rw [if_pos c0] at hj
          refine j_iload F (pc := 403) (i := 11) (by decide +kernel) rfl ?_
          refine j_goto F (pc := 405) (off := 5) (tgt := 410) (by decide +kernel) (by decide) ?_
          exact hj
      exact j_iret (st := []) F Rt rfl (by decide +kernel) ⟨hρ92, _, rfl, (congrArg Prod.fst (Option.some.inj h)).symm, (congrArg Prod.snd (Option.some.inj h)).symm⟩
    · rw [if_neg c] at h
      refine j_aload_n F (pc := 301) (q := 0) (by decide +kernel) rfl ?_
      refine j_iload F (pc := 302) (i := 13) (by decide +kernel) rfl ?_
      obtain ⟨r94, μ95, hc97, h⟩ := z_b2_some h
      refine j_callVi F (pc := 304) (idx := 343) (As := [.int x13]) (st := []) (t_X5_having (G := E.1) hρ hk hc97) q_X5_having v_X5_having m_1292 (hk.s c_98) rfl rfl (by decide) (Nat.le_of_ble_eq_true rfl) rfl (by decide +kernel) (fun s100 ν98 hq99 hp => ?_)
      obtain ⟨rfl, rfl⟩ := hp
      have hρ96 : μ95.2.2 = ρ := hq99.trans hρ
      refine j_bipush F (pc := 307) (n := 100) (v := 100) (by decide +kernel) (by decide +kernel) ?_
      refine j_iload F (pc := 309) (i := 9) (by decide +kernel) rfl ?_
      refine j_isub F (pc := 311) (by decide +kernel) ?_
      refine j_imul F (pc := 312) (by decide +kernel) ?_
      refine j_bipush F (pc := 313) (n := 100) (v := 100) (by decide +kernel) (by decide +kernel) ?_
      refine j_aload_n F (pc := 315) (q := 0) (by decide +kernel) rfl ?_
      refine j_getR F (pc := 316) (hk.r hρ96 r_98_44) fl_X5_114 (hk.s c_98) rfl (by decide +kernel) ?_
      refine j_iload F (pc := 319) (i := 13) (by decide +kernel) rfl ?_
      obtain ⟨hg, h⟩ := z_ifs h
      refine j_iald F (pc := 321) (hk.s c_132) hg (by decide +kernel) ?_
      refine j_imul F (pc := 322) (by decide +kernel) ?_
      refine j_isub F (pc := 323) (by decide +kernel) ?_
      obtain ⟨x_101, e102, h⟩ := z_lt_some h
      rw [← e102]
      refine j_istore F (pc := 324) (i := 14) (L' := [some (.ref 98), none, none, none, some (.int x4), none, none, none, some (.int x8), some (.int x9), none, some (.int x11), some (.int x12), some (.int x13), some (.int x_101)]) (by decide +kernel) (by decide) rfl rfl ?_
      refine j_iload F (pc := 326) (i := 11) (by decide +kernel) rfl ?_
      refine j_iload F (pc := 328) (i := 14) (by decide +kernel) rfl ?_
      suffices hj : z_J E 15 341 [some (.ref 98), none, none, none, some (.int x4), none, none, none, some (.int x8), some (.int x9), none, some (.int x11), some (.int x12), some (.int x13), some (.int x_101)] (.int (if x_101 ≤ 0 then (0 : Int32) else ((1 : Int32) <<< (x13 &&& 31))) :: [.int x11]) μ95 by
        refine j_if_le F (pc := 330) (off := 10) (tgt := 340) (by decide +kernel) (by decide) (fun c0 => ?_) (fun c0 => ?_)
        · rw [if_pos c0] at hj
          refine j_iconst F (pc := 340) (n := 0) (v := 0) (by decide +kernel) (by decide +kernel) ?_
          exact hj
        · rw [if_neg c0] at hj
          refine j_iconst F (pc := 333) (n := 1) (v := 1) (by decide +kernel) (by decide +kernel) ?_
          refine j_iload F (pc := 334) (i := 13) (by decide +kernel) rfl ?_
          refine j_ishl F (pc := 336) (by decide +kernel) ?_
          refine j_goto F (pc := 337) (off := 4) (tgt := 341) (by decide +kernel) (by decide) ?_
          exact hj
      refine j_ior F (pc := 341) (by decide +kernel) ?_
      obtain ⟨x_103, e104, h⟩ := z_lt_some h
      rw [← e104]
      refine j_istore F (pc := 342) (i := 11) (L' := [some (.ref 98), none, none, none, some (.int x4), none, none, none, some (.int x8), some (.int x9), none, some (.int x_103), some (.int x12), some (.int x13), some (.int x_101)]) (by decide +kernel) (by decide) rfl rfl ?_
      refine j_iload F (pc := 344) (i := 13) (by decide +kernel) rfl ?_
      refine j_iload F (pc := 346) (i := 4) (by decide +kernel) rfl ?_
      suffices hj : z_J E 15 358 [some (.ref 98), none, none, none, some (.int x4), none, none, none, some (.int x8), some (.int x9), none, some (.int x_103), some (.int x12), some (.int x13), some (.int x_101)] (.int (if x13 = x4 then x_101 else x12) :: []) μ95 by
        refine j_icmp_ne F (pc := 348) (off := 8) (tgt := 356) (by decide +kernel) (by decide) (fun c0 => ?_) (fun c0 => ?_)
        · rw [if_neg c0] at hj
          refine j_iload F (pc := 356) (i := 12) (by decide +kernel) rfl ?_
          exact hj
        · rw [if_pos c0] at hj
          refine j_iload F (pc := 351) (i := 14) (by decide +kernel) rfl ?_
          refine j_goto F (pc := 353) (off := 5) (tgt := 358) (by decide +kernel) (by decide) ?_
          exact hj
      obtain ⟨x_105, e106, h⟩ := z_lt_some h
      rw [← e106]
      refine j_istore F (pc := 358) (i := 12) (L' := [some (.ref 98), none, none, none, some (.int x4), none, none, none, some (.int x8), some (.int x9), none, some (.int x_103), some (.int x_105), some (.int x13), some (.int x_101)]) (by decide +kernel) (by decide) rfl rfl ?_
      refine j_iinc F (pc := 360) (i := 13) (n := 1) (v := 1) (L' := [some (.ref 98), none, none, none, some (.int x4), none, none, none, some (.int x8), some (.int x9), none, some (.int x_103), some (.int x_105), some (.int (x13 + (1 : Int32))), some (.int x_101)]) (by decide +kernel) rfl (by decide +kernel) (by decide) rfl rfl ?_
      refine j_goto F (pc := 363) (off := -69) (tgt := 294) (by decide +kernel) (by decide) ?_
      refine j_mk F [true, false, false, false, true, false, false, false, true, true, false, true, true, true, false] (L' := [some (.ref 98), none, none, none, some (.int x4), none, none, none, some (.int x8), some (.int x9), none, some (.int x_103), some (.int x_105), some (.int (x13 + (1 : Int32))), none]) rfl ?_
      exact ih _ _ _ _ _ _ _ hρ96 h
set_option maxHeartbeats 4000000 in
set_option maxRecDepth 100000 in
theorem u_X5_more_181 {E : z_E} {ρ : Nat → Nat → Option Nat} {r : Int32} {μr : z_M} (F : z_F E RX5 cX5_more 15 6) (Rt : z_R E (some .int) (fun v μ1 => μ1.2.2 = ρ ∧ ∃ r1, v = some (.int r1) ∧ r = r1 ∧ μr = μ1))  (hk : z_ok (z_sh E.1) ρ) : ∀ (n : Nat) (x1 : Int32) (x2 : Int32) (x3 : Int32) (x4 : Int32) (x5 : Int32) (x6 : Int32) (x7 : Int32) (x8 : Int32) (x9 : Int32) (x11 : Int32) (μ : z_M), μ.2.2 = ρ → g_X5_more_181   n x1 x2 x3 x4 x5 x6 x7 x8 x9 x11 μ = some (r, μr) → z_J E 15 181 [some (.ref 98), some (.int x1), some (.int x2), some (.int x3), some (.int x4), some (.int x5), some (.int x6), some (.int x7), some (.int x8), some (.int x9), none, some (.int x11), none, none, none] [] μ := by
  intro n
  induction n with
  | zero =>
    intro x1 x2 x3 x4 x5 x6 x7 x8 x9 x11 μ hρ h
    rw [g_X5_more_181] at h
    cases h
  | succ n ih =>
    intro x1 x2 x3 x4 x5 x6 x7 x8 x9 x11 μ hρ h
    rw [g_X5_more_181] at h
    refine j_iload F (pc := 181) (i := 11) (by decide +kernel) rfl ?_
    refine j_bipush F (pc := 183) (n := 6) (v := 6) (by decide +kernel) (by decide +kernel) ?_
    refine j_icmp_ge F (pc := 185) (off := 22) (tgt := 207) (by decide +kernel) (by decide) (fun c => ?_) (fun c => ?_)
    · rw [if_pos c] at h
      refine j_aload_n F (pc := 207) (q := 0) (by decide +kernel) rfl ?_
      refine j_getR F (pc := 208) (hk.r hρ r_98_25) fl_X5_60 (hk.s c_98) rfl (by decide +kernel) ?_
      refine j_aload_n F (pc := 211) (q := 0) (by decide +kernel) rfl ?_
      refine j_getI F (pc := 212) fl_X5_274 (hk.s c_98) rfl (by decide +kernel) ?_
      refine j_iload_n F (pc := 215) (q := 2) (by decide +kernel) rfl ?_
      refine j_iconst F (pc := 216) (n := 1) (v := 1) (by decide +kernel) (by decide +kernel) ?_
      refine j_iadd F (pc := 217) (by decide +kernel) ?_
      obtain ⟨hg, h⟩ := z_ifs h
      refine j_iast F (pc := 218) (hk.s c_114) hg (by decide +kernel) ?_
      obtain ⟨μ58, e60, h⟩ := z_st_some h
      rw [← e60]
      have hρ59 : μ58.2.2 = ρ := by rw [e60]; exact hρ
      refine j_aload_n F (pc := 219) (q := 0) (by decide +kernel) rfl ?_
      refine j_getR F (pc := 220) (hk.r hρ59 r_98_26) fl_X5_63 (hk.s c_98) rfl (by decide +kernel) ?_
      refine j_aload_n F (pc := 223) (q := 0) (by decide +kernel) rfl ?_
      refine j_getI F (pc := 224) fl_X5_274 (hk.s c_98) rfl (by decide +kernel) ?_
      refine j_iload F (pc := 227) (i := 6) (by decide +kernel) rfl ?_
      obtain ⟨hg, h⟩ := z_ifs h
      refine j_iast F (pc := 229) (hk.s c_115) hg (by decide +kernel) ?_
      obtain ⟨μ61, e63, h⟩ := z_st_some h
      rw [← e63]
      have hρ62 : μ61.2.2 = ρ := by rw [e63]; exact hρ59
      refine j_aload_n F (pc := 230) (q := 0) (by decide +kernel) rfl ?_
      refine j_dup F (pc := 231) (by decide +kernel) rfl ?_
      refine j_getI F (pc := 232) fl_X5_274 (hk.s c_98) rfl (by decide +kernel) ?_
      refine j_iconst F (pc := 235) (n := 1) (v := 1) (by decide +kernel) (by decide +kernel) ?_
      refine j_iadd F (pc := 236) (by decide +kernel) ?_
      refine j_putI F (pc := 237) fl_X5_274 fp_X5_24 (hk.s c_98) rfl (by decide +kernel) ?_
      obtain ⟨μ64, e66, h⟩ := z_st_some h
      rw [← e66]
      have hρ65 : μ64.2.2 = ρ := by rw [e66]; exact hρ62
      refine j_aload_n F (pc := 240) (q := 0) (by decide +kernel) rfl ?_
      refine j_iconst F (pc := 241) (n := 0) (v := 0) (by decide +kernel) (by decide +kernel) ?_
      refine j_iload F (pc := 242) (i := 5) (by decide +kernel) rfl ?_
      refine j_iload F (pc := 244) (i := 6) (by decide +kernel) rfl ?_
      refine j_iload F (pc := 246) (i := 7) (by decide +kernel) rfl ?_
      refine j_iconst F (pc := 248) (n := 1) (v := 1) (by decide +kernel) (by decide +kernel) ?_
      refine j_iconst F (pc := 249) (n := 0) (v := 0) (by decide +kernel) (by decide +kernel) ?_
      obtain ⟨μ68, hc70, h⟩ := z_b1_some h
      refine j_callVv F (pc := 250) (idx := 280) (As := [.int (0 : Int32), .int x5, .int x6, .int x7, .int (1 : Int32), .int (0 : Int32)]) (st := []) (t_X5_putClaim (G := E.1) hρ65 hk hc70) q_X5_putClaim v_X5_putClaim m_1172 (hk.s c_98) rfl rfl (by decide) (Nat.le_of_ble_eq_true rfl) rfl (by decide +kernel) (fun ν71 hq72 hp => ?_)
      subst hp
      have hρ69 : μ68.2.2 = ρ := hq72.trans hρ65
      refine j_aload_n F (pc := 253) (q := 0) (by decide +kernel) rfl ?_
      refine j_getR F (pc := 254) (hk.r hρ69 r_98_34) fl_X5_84 (hk.s c_98) rfl (by decide +kernel) ?_
      refine j_aload_n F (pc := 257) (q := 0) (by decide +kernel) rfl ?_
      refine j_getI F (pc := 258) fl_X5_268 (hk.s c_98) rfl (by decide +kernel) ?_
      refine j_iconst F (pc := 261) (n := 1) (v := 1) (by decide +kernel) (by decide +kernel) ?_
      refine j_isub F (pc := 262) (by decide +kernel) ?_
      refine j_iload F (pc := 263) (i := 6) (by decide +kernel) rfl ?_
      obtain ⟨hg, h⟩ := z_ifs h
      refine j_iast F (pc := 265) (hk.s c_122) hg (by decide +kernel) ?_
      obtain ⟨μ73, e75, h⟩ := z_st_some h
      rw [← e75]
      have hρ74 : μ73.2.2 = ρ := by rw [e75]; exact hρ69
      refine j_aload_n F (pc := 266) (q := 0) (by decide +kernel) rfl ?_
      refine j_getR F (pc := 267) (hk.r hρ74 r_98_36) fl_X5_90 (hk.s c_98) rfl (by decide +kernel) ?_
      refine j_iconst F (pc := 270) (n := 1) (v := 1) (by decide +kernel) (by decide +kernel) ?_
      refine j_dup2 F (pc := 271) (by decide +kernel) rfl rfl ?_
      obtain ⟨hg, h⟩ := z_ifs h
      refine j_iald F (pc := 272) (hk.s c_124) hg (by decide +kernel) ?_
      refine j_iload F (pc := 273) (i := 8) (by decide +kernel) rfl ?_
      refine j_iadd F (pc := 275) (by decide +kernel) ?_
      obtain ⟨hg, h⟩ := z_ifs h
      refine j_iast F (pc := 276) (hk.s c_124) hg (by decide +kernel) ?_
      obtain ⟨μ76, e78, h⟩ := z_st_some h
      rw [← e78]
      have hρ77 : μ76.2.2 = ρ := by rw [e78]; exact hρ74
      refine j_aload_n F (pc := 277) (q := 0) (by decide +kernel) rfl ?_
      refine j_iload_n F (pc := 278) (q := 1) (by decide +kernel) rfl ?_
      refine j_iload F (pc := 279) (i := 6) (by decide +kernel) rfl ?_
      refine j_iload_n F (pc := 281) (q := 3) (by decide +kernel) rfl ?_
      obtain ⟨μ80, hc82, h⟩ := z_b1_some h
      refine j_callVv F (pc := 282) (idx := 340) (As := [.int x1, .int x6, .int x3]) (st := []) (t_X5_payOut (G := E.1) hρ77 hk hc82) q_X5_payOut v_X5_payOut m_1256 (hk.s c_98) rfl rfl (by decide) (Nat.le_of_ble_eq_true rfl) rfl (by decide +kernel) (fun ν83 hq84 hp => ?_)
      subst hp
      have hρ81 : μ80.2.2 = ρ := hq84.trans hρ77
      refine j_iconst F (pc := 285) (n := 0) (v := 0) (by decide +kernel) (by decide +kernel) ?_
      refine j_istore F (pc := 286) (i := 11) (L' := [some (.ref 98), some (.int x1), some (.int x2), some (.int x3), some (.int x4), some (.int x5), some (.int x6), some (.int x7), some (.int x8), some (.int x9), none, some (.int (0 : Int32)), none, none, none]) (by decide +kernel) (by decide) rfl rfl ?_
      refine j_iconst F (pc := 288) (n := 0) (v := 0) (by decide +kernel) (by decide +kernel) ?_
      refine j_istore F (pc := 289) (i := 12) (L' := [some (.ref 98), some (.int x1), some (.int x2), some (.int x3), some (.int x4), some (.int x5), some (.int x6), some (.int x7), some (.int x8), some (.int x9), none, some (.int (0 : Int32)), some (.int (0 : Int32)), none, none]) (by decide +kernel) (by decide) rfl rfl ?_
      refine j_iconst F (pc := 291) (n := 0) (v := 0) (by decide +kernel) (by decide +kernel) ?_
      refine j_istore F (pc := 292) (i := 13) (L' := [some (.ref 98), some (.int x1), some (.int x2), some (.int x3), some (.int x4), some (.int x5), some (.int x6), some (.int x7), some (.int x8), some (.int x9), none, some (.int (0 : Int32)), some (.int (0 : Int32)), some (.int (0 : Int32)), none]) (by decide +kernel) (by decide) rfl rfl ?_
      refine j_mk F [true, false, false, false, true, false, false, false, true, true, false, true, true, true, false] (L' := [some (.ref 98), none, none, none, some (.int x4), none, none, none, some (.int x8), some (.int x9), none, some (.int (0 : Int32)), some (.int (0 : Int32)), some (.int (0 : Int32)), none]) rfl ?_
      refine u_X5_more_294 F Rt hk  z_N _ _ _ _ _ _ _ hρ81 h
    · rw [if_neg c] at h
      refine j_aload_n F (pc := 188) (q := 0) (by decide +kernel) rfl ?_
      refine j_getR F (pc := 189) (hk.r hρ r_98_44) fl_X5_114 (hk.s c_98) rfl (by decide +kernel) ?_
      refine j_iload F (pc := 192) (i := 11) (by decide +kernel) rfl ?_
      refine j_aload_n F (pc := 194) (q := 0) (by decide +kernel) rfl ?_
      refine j_iload F (pc := 195) (i := 11) (by decide +kernel) rfl ?_
      obtain ⟨r107, μ108, hc110, h⟩ := z_b2_some h
      refine j_callVi F (pc := 197) (idx := 343) (As := [.int x11]) (st := [.int x11, .ref 132]) (t_X5_having (G := E.1) hρ hk hc110) q_X5_having v_X5_having m_1292 (hk.s c_98) rfl rfl (by decide) (Nat.le_of_ble_eq_true rfl) rfl (by decide +kernel) (fun s113 ν111 hq112 hp => ?_)
      obtain ⟨rfl, rfl⟩ := hp
      have hρ109 : μ108.2.2 = ρ := hq112.trans hρ
      obtain ⟨hg, h⟩ := z_ifs h
      refine j_iast F (pc := 200) (hk.s c_132) hg (by decide +kernel) ?_
      obtain ⟨μ114, e116, h⟩ := z_st_some h
      rw [← e116]
      have hρ115 : μ114.2.2 = ρ := by rw [e116]; exact hρ109
      refine j_iinc F (pc := 201) (i := 11) (n := 1) (v := 1) (L' := [some (.ref 98), some (.int x1), some (.int x2), some (.int x3), some (.int x4), some (.int x5), some (.int x6), some (.int x7), some (.int x8), some (.int x9), none, some (.int (x11 + (1 : Int32))), none, none, none]) (by decide +kernel) rfl (by decide +kernel) (by decide) rfl rfl ?_
      refine j_goto F (pc := 204) (off := -23) (tgt := 181) (by decide +kernel) (by decide) ?_
      exact ih _ _ _ _ _ _ _ _ _ _ _ hρ115 h
set_option maxHeartbeats 4000000 in
set_option maxRecDepth 100000 in
theorem u_X5_more_21 {E : z_E} {ρ : Nat → Nat → Option Nat} {r : Int32} {μr : z_M} (F : z_F E RX5 cX5_more 15 6) (Rt : z_R E (some .int) (fun v μ1 => μ1.2.2 = ρ ∧ ∃ r1, v = some (.int r1) ∧ r = r1 ∧ μr = μ1))  (hk : z_ok (z_sh E.1) ρ) : ∀ (x1 : Int32) (x2 : Int32) (x3 : Int32) (x4 : Int32) (x5 : Int32) (x6 : Int32) (x7 : Int32) (x8 : Int32) (x9 : Int32) (μ : z_M), μ.2.2 = ρ → g_X5_more_21   x1 x2 x3 x4 x5 x6 x7 x8 x9 μ = some (r, μr) → z_J E 15 21 [some (.ref 98), some (.int x1), some (.int x2), some (.int x3), some (.int x4), some (.int x5), some (.int x6), some (.int x7), some (.int x8), some (.int x9), none, none, none, none, none] [] μ := by
  intro x1 x2 x3 x4 x5 x6 x7 x8 x9 μ hρ h
  unfold g_X5_more_21 at h
  refine j_iload F (pc := 21) (i := 5) (by decide +kernel) rfl ?_
  obtain ⟨r8, μ9, hc11, h⟩ := z_b2_some h
  refine j_callSi F (pc := 23) (idx := 277) (As := [.int x5]) (st := []) (t_X5_isHolder (G := E.1) hρ  hc11) q_X5_isHolder m_1169 m_1168 rfl (by decide) (Nat.le_of_ble_eq_true rfl) rfl (by decide +kernel) (fun s14 ν12 hq13 hp => ?_)
  obtain ⟨rfl, rfl⟩ := hp
  have hρ10 : μ9.2.2 = ρ := hq13.trans hρ
  refine j_if_ne F (pc := 26) (off := 7) (tgt := 33) (by decide +kernel) (by decide) (fun c => ?_) (fun c => ?_)
  · rw [if_neg c] at h
    refine j_iload_n F (pc := 33) (q := 2) (by decide +kernel) rfl ?_
    refine j_iload_n F (pc := 34) (q := 3) (by decide +kernel) rfl ?_
    obtain ⟨r15, μ16, hc18, h⟩ := z_b2_some h
    refine j_callSi F (pc := 35) (idx := 336) (As := [.int x2, .int x3]) (st := []) (t_X5_isGood (G := E.1) hρ10  hc18) q_X5_isGood m_1254 m_1253 rfl (by decide) (Nat.le_of_ble_eq_true rfl) rfl (by decide +kernel) (fun s21 ν19 hq20 hp => ?_)
    obtain ⟨rfl, rfl⟩ := hp
    have hρ17 : μ16.2.2 = ρ := hq20.trans hρ10
    refine j_if_eq F (pc := 38) (off := 58) (tgt := 96) (by decide +kernel) (by decide) (fun c => ?_) (fun c => ?_)
    · rw [if_pos c] at h
      refine j_sipush F (pc := 96) (n := -1002) (v := -1002) (by decide +kernel) (by decide +kernel) ?_
      exact j_iret (st := []) F Rt rfl (by decide +kernel) ⟨hρ17, _, rfl, (congrArg Prod.fst (Option.some.inj h)).symm, (congrArg Prod.snd (Option.some.inj h)).symm⟩
    · rw [if_neg c] at h
      refine j_iload F (pc := 41) (i := 6) (by decide +kernel) rfl ?_
      refine j_i2l F (pc := 43) (by decide +kernel) ?_
      refine j_iload_n F (pc := 44) (q := 2) (by decide +kernel) rfl ?_
      refine j_iconst F (pc := 45) (n := 1) (v := 1) (by decide +kernel) (by decide +kernel) ?_
      refine j_iadd F (pc := 46) (by decide +kernel) ?_
      refine j_i2l F (pc := 47) (by decide +kernel) ?_
      refine j_ldc2 F (pc := 48) m_1163 (by decide +kernel) ?_
      obtain ⟨r22, μ23, hc25, h⟩ := z_b2_some h
      refine j_callSi F (pc := 51) (idx := 138) (As := [.long (x6).toInt64, .long ((x2 + (1 : Int32))).toInt64, .long (999 : Int64)]) (st := []) (t_X5_in (G := E.1) hρ17  hc25) q_X5_in m_1050 m_1049 rfl (by decide) (Nat.le_of_ble_eq_true rfl) rfl (by decide +kernel) (fun s28 ν26 hq27 hp => ?_)
      obtain ⟨rfl, rfl⟩ := hp
      have hρ24 : μ23.2.2 = ρ := hq27.trans hρ17
      refine j_if_eq F (pc := 54) (off := 42) (tgt := 96) (by decide +kernel) (by decide) (fun c => ?_) (fun c => ?_)
      · rw [if_pos c] at h
        refine j_sipush F (pc := 96) (n := -1002) (v := -1002) (by decide +kernel) (by decide +kernel) ?_
        exact j_iret (st := []) F Rt rfl (by decide +kernel) ⟨hρ24, _, rfl, (congrArg Prod.fst (Option.some.inj h)).symm, (congrArg Prod.snd (Option.some.inj h)).symm⟩
      · rw [if_neg c] at h
        refine j_iload F (pc := 57) (i := 7) (by decide +kernel) rfl ?_
        refine j_i2l F (pc := 59) (by decide +kernel) ?_
        refine j_lconst F (pc := 60) (n := 1) (v := 1) (by decide +kernel) (by decide +kernel) ?_
        refine j_ldc2 F (pc := 61) m_1163 (by decide +kernel) ?_
        obtain ⟨r29, μ30, hc32, h⟩ := z_b2_some h
        refine j_callSi F (pc := 64) (idx := 138) (As := [.long (x7).toInt64, .long (1 : Int64), .long (999 : Int64)]) (st := []) (t_X5_in (G := E.1) hρ24  hc32) q_X5_in m_1050 m_1049 rfl (by decide) (Nat.le_of_ble_eq_true rfl) rfl (by decide +kernel) (fun s35 ν33 hq34 hp => ?_)
        obtain ⟨rfl, rfl⟩ := hp
        have hρ31 : μ30.2.2 = ρ := hq34.trans hρ24
        refine j_if_eq F (pc := 67) (off := 29) (tgt := 96) (by decide +kernel) (by decide) (fun c => ?_) (fun c => ?_)
        · rw [if_pos c] at h
          refine j_sipush F (pc := 96) (n := -1002) (v := -1002) (by decide +kernel) (by decide +kernel) ?_
          exact j_iret (st := []) F Rt rfl (by decide +kernel) ⟨hρ31, _, rfl, (congrArg Prod.fst (Option.some.inj h)).symm, (congrArg Prod.snd (Option.some.inj h)).symm⟩
        · rw [if_neg c] at h
          refine j_iload F (pc := 70) (i := 8) (by decide +kernel) rfl ?_
          refine j_i2l F (pc := 72) (by decide +kernel) ?_
          refine j_lconst F (pc := 73) (n := 0) (v := 0) (by decide +kernel) (by decide +kernel) ?_
          refine j_ldc2 F (pc := 74) m_1192 (by decide +kernel) ?_
          obtain ⟨r36, μ37, hc39, h⟩ := z_b2_some h
          refine j_callSi F (pc := 77) (idx := 138) (As := [.long (x8).toInt64, .long (0 : Int64), .long (9999 : Int64)]) (st := []) (t_X5_in (G := E.1) hρ31  hc39) q_X5_in m_1050 m_1049 rfl (by decide) (Nat.le_of_ble_eq_true rfl) rfl (by decide +kernel) (fun s42 ν40 hq41 hp => ?_)
          obtain ⟨rfl, rfl⟩ := hp
          have hρ38 : μ37.2.2 = ρ := hq41.trans hρ31
          refine j_if_eq F (pc := 80) (off := 16) (tgt := 96) (by decide +kernel) (by decide) (fun c => ?_) (fun c => ?_)
          · rw [if_pos c] at h
            refine j_sipush F (pc := 96) (n := -1002) (v := -1002) (by decide +kernel) (by decide +kernel) ?_
            exact j_iret (st := []) F Rt rfl (by decide +kernel) ⟨hρ38, _, rfl, (congrArg Prod.fst (Option.some.inj h)).symm, (congrArg Prod.snd (Option.some.inj h)).symm⟩
          · rw [if_neg c] at h
            refine j_iload F (pc := 83) (i := 9) (by decide +kernel) rfl ?_
            refine j_i2l F (pc := 85) (by decide +kernel) ?_
            refine j_lconst F (pc := 86) (n := 0) (v := 0) (by decide +kernel) (by decide +kernel) ?_
            refine j_ldc2 F (pc := 87) m_1325 (by decide +kernel) ?_
            obtain ⟨r43, μ44, hc46, h⟩ := z_b2_some h
            refine j_callSi F (pc := 90) (idx := 138) (As := [.long (x9).toInt64, .long (0 : Int64), .long (100 : Int64)]) (st := []) (t_X5_in (G := E.1) hρ38  hc46) q_X5_in m_1050 m_1049 rfl (by decide) (Nat.le_of_ble_eq_true rfl) rfl (by decide +kernel) (fun s49 ν47 hq48 hp => ?_)
            obtain ⟨rfl, rfl⟩ := hp
            have hρ45 : μ44.2.2 = ρ := hq48.trans hρ38
            refine j_if_ne F (pc := 93) (off := 7) (tgt := 100) (by decide +kernel) (by decide) (fun c => ?_) (fun c => ?_)
            · rw [if_neg c] at h
              refine j_aload_n F (pc := 100) (q := 0) (by decide +kernel) rfl ?_
              refine j_getI F (pc := 101) fl_X5_274 (hk.s c_98) rfl (by decide +kernel) ?_
              obtain ⟨hg, h⟩ := z_ifs h
              suffices hj : z_J E 15 127 [some (.ref 98), some (.int x1), some (.int x2), some (.int x3), some (.int x4), some (.int x5), some (.int x6), some (.int x7), some (.int x8), some (.int x9), none, none, none, none, none] (.int (if (μ44.1 98 24) ≤ 0 then (0 : Int32) else (if (μ44.1 115 ((μ44.1 98 24) - (1 : Int32)).toNatClampNeg) ≤ x2 then (0 : Int32) else (1 : Int32))) :: []) μ44 by
                refine j_if_le F (pc := 104) (off := 22) (tgt := 126) (by decide +kernel) (by decide) (fun c0 => ?_) (fun c0 => ?_)
                · rw [if_pos c0] at hj
                  refine j_iconst F (pc := 126) (n := 0) (v := 0) (by decide +kernel) (by decide +kernel) ?_
                  exact hj
                · rw [if_neg c0] at hj
                  refine j_aload_n F (pc := 107) (q := 0) (by decide +kernel) rfl ?_
                  refine j_getR F (pc := 108) (hk.r hρ45 r_98_26) fl_X5_63 (hk.s c_98) rfl (by decide +kernel) ?_
                  refine j_aload_n F (pc := 111) (q := 0) (by decide +kernel) rfl ?_
                  refine j_getI F (pc := 112) fl_X5_274 (hk.s c_98) rfl (by decide +kernel) ?_
                  refine j_iconst F (pc := 115) (n := 1) (v := 1) (by decide +kernel) (by decide +kernel) ?_
                  refine j_isub F (pc := 116) (by decide +kernel) ?_
                  refine j_iald F (pc := 117) (hk.s c_115) (hg c0) (by decide +kernel) ?_
                  refine j_iload_n F (pc := 118) (q := 2) (by decide +kernel) rfl ?_
                  refine j_icmp_le F (pc := 119) (off := 7) (tgt := 126) (by decide +kernel) (by decide) (fun c1 => ?_) (fun c1 => ?_)
                  · rw [if_pos c1] at hj
                    refine j_iconst F (pc := 126) (n := 0) (v := 0) (by decide +kernel) (by decide +kernel) ?_
                    exact hj
                  · rw [if_neg c1] at hj
                    refine j_iconst F (pc := 122) (n := 1) (v := 1) (by decide +kernel) (by decide +kernel) ?_
                    refine j_goto F (pc := 123) (off := 4) (tgt := 127) (by decide +kernel) (by decide) ?_
                    exact hj
              obtain ⟨x_50, e51, h⟩ := z_lt_some h
              rw [← e51]
              refine j_istore F (pc := 127) (i := 10) (L' := [some (.ref 98), some (.int x1), some (.int x2), some (.int x3), some (.int x4), some (.int x5), some (.int x6), some (.int x7), some (.int x8), some (.int x9), some (.int x_50), none, none, none, none]) (by decide +kernel) (by decide) rfl rfl ?_
              refine j_iload F (pc := 129) (i := 10) (by decide +kernel) rfl ?_
              refine j_if_ne F (pc := 131) (off := 36) (tgt := 167) (by decide +kernel) (by decide) (fun c => ?_) (fun c => ?_)
              · rw [if_neg c] at h
                refine j_sipush F (pc := 167) (n := -1003) (v := -1003) (by decide +kernel) (by decide +kernel) ?_
                exact j_iret (st := []) F Rt rfl (by decide +kernel) ⟨hρ45, _, rfl, (congrArg Prod.fst (Option.some.inj h)).symm, (congrArg Prod.snd (Option.some.inj h)).symm⟩
              · rw [if_pos c] at h
                refine j_aload_n F (pc := 134) (q := 0) (by decide +kernel) rfl ?_
                refine j_getI F (pc := 135) fl_X5_274 (hk.s c_98) rfl (by decide +kernel) ?_
                refine j_bipush F (pc := 138) (n := 6) (v := 6) (by decide +kernel) (by decide +kernel) ?_
                refine j_icmp_eq F (pc := 140) (off := 27) (tgt := 167) (by decide +kernel) (by decide) (fun c => ?_) (fun c => ?_)
                · rw [if_pos c] at h
                  refine j_sipush F (pc := 167) (n := -1003) (v := -1003) (by decide +kernel) (by decide +kernel) ?_
                  exact j_iret (st := []) F Rt rfl (by decide +kernel) ⟨hρ45, _, rfl, (congrArg Prod.fst (Option.some.inj h)).symm, (congrArg Prod.snd (Option.some.inj h)).symm⟩
                · rw [if_neg c] at h
                  refine j_aload_n F (pc := 143) (q := 0) (by decide +kernel) rfl ?_
                  refine j_getI F (pc := 144) fl_X5_268 (hk.s c_98) rfl (by decide +kernel) ?_
                  refine j_bipush F (pc := 147) (n := 14) (v := 14) (by decide +kernel) (by decide +kernel) ?_
                  refine j_icmp_eq F (pc := 149) (off := 18) (tgt := 167) (by decide +kernel) (by decide) (fun c => ?_) (fun c => ?_)
                  · rw [if_pos c] at h
                    refine j_sipush F (pc := 167) (n := -1003) (v := -1003) (by decide +kernel) (by decide +kernel) ?_
                    exact j_iret (st := []) F Rt rfl (by decide +kernel) ⟨hρ45, _, rfl, (congrArg Prod.fst (Option.some.inj h)).symm, (congrArg Prod.snd (Option.some.inj h)).symm⟩
                  · rw [if_neg c] at h
                    refine j_aload_n F (pc := 152) (q := 0) (by decide +kernel) rfl ?_
                    refine j_getR F (pc := 153) (hk.r hρ45 r_98_36) fl_X5_90 (hk.s c_98) rfl (by decide +kernel) ?_
                    refine j_iconst F (pc := 156) (n := 1) (v := 1) (by decide +kernel) (by decide +kernel) ?_
                    obtain ⟨hg, h⟩ := z_ifs h
                    refine j_iald F (pc := 157) (hk.s c_124) hg (by decide +kernel) ?_
                    refine j_iload F (pc := 158) (i := 8) (by decide +kernel) rfl ?_
                    refine j_iadd F (pc := 160) (by decide +kernel) ?_
                    refine j_sipush F (pc := 161) (n := 9999) (v := 9999) (by decide +kernel) (by decide +kernel) ?_
                    refine j_icmp_le F (pc := 164) (off := 7) (tgt := 171) (by decide +kernel) (by decide) (fun c => ?_) (fun c => ?_)
                    · rw [if_pos c] at h
                      refine j_aload_n F (pc := 171) (q := 0) (by decide +kernel) rfl ?_
                      refine j_iload_n F (pc := 172) (q := 1) (by decide +kernel) rfl ?_
                      refine j_iload_n F (pc := 173) (q := 2) (by decide +kernel) rfl ?_
                      refine j_iload_n F (pc := 174) (q := 3) (by decide +kernel) rfl ?_
                      obtain ⟨μ53, hc55, h⟩ := z_b1_some h
                      refine j_callVv F (pc := 175) (idx := 340) (As := [.int x1, .int x2, .int x3]) (st := []) (t_X5_payOut (G := E.1) hρ45 hk hc55) q_X5_payOut v_X5_payOut m_1256 (hk.s c_98) rfl rfl (by decide) (Nat.le_of_ble_eq_true rfl) rfl (by decide +kernel) (fun ν56 hq57 hp => ?_)
                      subst hp
                      have hρ54 : μ53.2.2 = ρ := hq57.trans hρ45
                      refine j_iconst F (pc := 178) (n := 0) (v := 0) (by decide +kernel) (by decide +kernel) ?_
                      refine j_istore F (pc := 179) (i := 11) (L' := [some (.ref 98), some (.int x1), some (.int x2), some (.int x3), some (.int x4), some (.int x5), some (.int x6), some (.int x7), some (.int x8), some (.int x9), some (.int x_50), some (.int (0 : Int32)), none, none, none]) (by decide +kernel) (by decide) rfl rfl ?_
                      refine j_mk F [true, true, true, true, true, true, true, true, true, true, false, true, false, false, false] (L' := [some (.ref 98), some (.int x1), some (.int x2), some (.int x3), some (.int x4), some (.int x5), some (.int x6), some (.int x7), some (.int x8), some (.int x9), none, some (.int (0 : Int32)), none, none, none]) rfl ?_
                      refine u_X5_more_181 F Rt hk  z_N _ _ _ _ _ _ _ _ _ _ _ hρ54 h
                    · rw [if_neg c] at h
                      refine j_sipush F (pc := 167) (n := -1003) (v := -1003) (by decide +kernel) (by decide +kernel) ?_
                      exact j_iret (st := []) F Rt rfl (by decide +kernel) ⟨hρ45, _, rfl, (congrArg Prod.fst (Option.some.inj h)).symm, (congrArg Prod.snd (Option.some.inj h)).symm⟩
            · rw [if_pos c] at h
              refine j_sipush F (pc := 96) (n := -1002) (v := -1002) (by decide +kernel) (by decide +kernel) ?_
              exact j_iret (st := []) F Rt rfl (by decide +kernel) ⟨hρ45, _, rfl, (congrArg Prod.fst (Option.some.inj h)).symm, (congrArg Prod.snd (Option.some.inj h)).symm⟩
  · rw [if_pos c] at h
    refine j_sipush F (pc := 29) (n := -1001) (v := -1001) (by decide +kernel) (by decide +kernel) ?_
    exact j_iret (st := []) F Rt rfl (by decide +kernel) ⟨hρ10, _, rfl, (congrArg Prod.fst (Option.some.inj h)).symm, (congrArg Prod.snd (Option.some.inj h)).symm⟩
set_option maxHeartbeats 4000000 in
set_option maxRecDepth 100000 in
theorem t_X5_more {G : z_Gl} {ρ : Nat → Nat → Option Nat} {μ : z_M} {r : Int32} {μr : z_M} {x1 : Int32} {x2 : Int32} {x3 : Int32} {x4 : Int32} {x5 : Int32} {x6 : Int32} {x7 : Int32} {x8 : Int32} {x9 : Int32} (hρ : μ.2.2 = ρ) (hk : z_ok (z_sh G) ρ) (h : f_X5_more x1 x2 x3 x4 x5 x6 x7 x8 x9 μ = some (r, μr)) : z_Ci G yX5_more cX5_more 15 (some .int) 6 [.ref 98, .int x1, .int x2, .int x3, .int x4, .int x5, .int x6, .int x7, .int x8, .int x9] μ (fun r1 μ1 => r = r1 ∧ μr = μ1) := by
  unfold z_Ci
  refine z_intro (by decide +kernel) (Nat.le_of_ble_eq_true rfl) (fun E hE F Rt => ?_)
  subst hE
  have F : z_F E RX5 cX5_more 15 6 := F
  rw [hρ] at Rt
  unfold f_X5_more at h
  show z_J E 15 0 [some (.ref 98), some (.int x1), some (.int x2), some (.int x3), some (.int x4), some (.int x5), some (.int x6), some (.int x7), some (.int x8), some (.int x9), none, none, none, none, none] [] μ
  refine j_iload_n F (pc := 0) (q := 1) (by decide +kernel) rfl ?_
  obtain ⟨r1, μ2, hc4, h⟩ := z_b2_some h
  refine j_callSi F (pc := 1) (idx := 246) (As := [.int x1]) (st := []) (t_X5_isLand (G := E.1) hρ  hc4) q_X5_isLand m_1058 m_1057 rfl (by decide) (Nat.le_of_ble_eq_true rfl) rfl (by decide +kernel) (fun s7 ν5 hq6 hp => ?_)
  obtain ⟨rfl, rfl⟩ := hp
  have hρ3 : μ2.2.2 = ρ := hq6.trans hρ
  refine j_if_eq F (pc := 4) (off := 25) (tgt := 29) (by decide +kernel) (by decide) (fun c => ?_) (fun c => ?_)
  · rw [if_pos c] at h
    refine j_sipush F (pc := 29) (n := -1001) (v := -1001) (by decide +kernel) (by decide +kernel) ?_
    exact j_iret (st := []) F Rt rfl (by decide +kernel) ⟨hρ3, _, rfl, (congrArg Prod.fst (Option.some.inj h)).symm, (congrArg Prod.snd (Option.some.inj h)).symm⟩
  · rw [if_neg c] at h
    refine j_iload F (pc := 7) (i := 4) (by decide +kernel) rfl ?_
    refine j_iconst F (pc := 9) (n := -1) (v := -1) (by decide +kernel) (by decide +kernel) ?_
    refine j_icmp_eq F (pc := 10) (off := 11) (tgt := 21) (by decide +kernel) (by decide) (fun c => ?_) (fun c => ?_)
    · rw [if_pos c] at h
      refine u_X5_more_21 F Rt hk  _ _ _ _ _ _ _ _ _ _ hρ3 h
    · rw [if_neg c] at h
      refine j_iload F (pc := 13) (i := 4) (by decide +kernel) rfl ?_
      obtain ⟨r117, μ118, hc120, h⟩ := z_b2_some h
      refine j_callSi F (pc := 15) (idx := 277) (As := [.int x4]) (st := []) (t_X5_isHolder (G := E.1) hρ3  hc120) q_X5_isHolder m_1169 m_1168 rfl (by decide) (Nat.le_of_ble_eq_true rfl) rfl (by decide +kernel) (fun s123 ν121 hq122 hp => ?_)
      obtain ⟨rfl, rfl⟩ := hp
      have hρ119 : μ118.2.2 = ρ := hq122.trans hρ3
      refine j_if_eq F (pc := 18) (off := 11) (tgt := 29) (by decide +kernel) (by decide) (fun c => ?_) (fun c => ?_)
      · rw [if_pos c] at h
        refine j_sipush F (pc := 29) (n := -1001) (v := -1001) (by decide +kernel) (by decide +kernel) ?_
        exact j_iret (st := []) F Rt rfl (by decide +kernel) ⟨hρ119, _, rfl, (congrArg Prod.fst (Option.some.inj h)).symm, (congrArg Prod.snd (Option.some.inj h)).symm⟩
      · rw [if_neg c] at h
        refine u_X5_more_21 F Rt hk  _ _ _ _ _ _ _ _ _ _ hρ119 h
def g_X5_hanging_169   : Nat → Int32 → Int32 → Int32 → z_M → Option (Int32 × z_M)
  | 0, _, _, _, _ => none
  | n + 1, x4, x9, x10, μ => (if (μ.1 98 27) ≤ x10 then (some (x9, μ)) else (if (¬ (x10 = x4) → z_in x10 15) ∧ (¬ (x10 = x4) → z_in x10 15) then (z_lt (if x10 = x4 then (0 : Int32) else ((μ.1 126 x10.toNatClampNeg) - (μ.1 133 x10.toNatClampNeg))) fun x_37 => (z_lt (x9 + (if 0 ≤ x_37 then x_37 else (-x_37))) fun x_39 => (g_X5_hanging_169   n (x4) (x_39) ((x10 + (1 : Int32))) μ))) else none))
def f_X5_hanging (x1 : Int32) (x2 : Int32) (x3 : Int32) (x4 : Int32) (x5 : Int32) (μ : z_M) : Option (Int32 × z_M) :=
  (if z_in x4 15 then (z_lt (μ.1 120 x4.toNatClampNeg) fun x_1 => (if z_in x4 15 then (z_lt (μ.1 118 x4.toNatClampNeg) fun x_3 => (if z_in x4 15 then (z_lt (μ.1 122 x4.toNatClampNeg) fun x_5 => (if z_in x4 15 then (z_st (z_si μ 123 x4.toNatClampNeg ((if x5 = 0 then (1 : Int32) else (0 : Int32)) &&& 1)) fun μ7 => (if z_in x4 15 then (z_st (z_si μ7 120 x4.toNatClampNeg ((if x5 = (1 : Int32) then (if x_1 = 0 then (1 : Int32) else (0 : Int32)) else x_1) &&& 1)) fun μ10 => (if z_in x4 15 then (z_st (z_si μ10 118 x4.toNatClampNeg (if x5 = (2 : Int32) then (if (999 : Int32) ≤ x_3 then x_3 else (x_3 + (1 : Int32))) else x_3)) fun μ13 => (if z_in x4 15 then (z_st (z_si μ13 122 x4.toNatClampNeg (if x5 = (3 : Int32) then x2 else x_5)) fun μ16 => (z_b1 (f_X5_payOut (x1) (x2) (x3) μ16) fun μ20 => (if z_in x4 15 then (z_st (z_si μ20 123 x4.toNatClampNeg ((0 : Int32) &&& 1)) fun μ25 => (if z_in x4 15 then (z_st (z_si μ25 120 x4.toNatClampNeg (x_1 &&& 1)) fun μ28 => (if z_in x4 15 then (z_st (z_si μ28 118 x4.toNatClampNeg x_3) fun μ31 => (if z_in x4 15 then (z_st (z_si μ31 122 x4.toNatClampNeg x_5) fun μ34 => (g_X5_hanging_169   z_N (x4) ((0 : Int32)) ((0 : Int32)) μ34)) else none)) else none)) else none)) else none))) else none)) else none)) else none)) else none)) else none)) else none)) else none)
set_option maxHeartbeats 4000000 in
set_option maxRecDepth 100000 in
theorem u_X5_hanging_169 {E : z_E} {ρ : Nat → Nat → Option Nat} {r : Int32} {μr : z_M} (F : z_F E RX5 cX5_hanging 12 6) (Rt : z_R E (some .int) (fun v μ1 => μ1.2.2 = ρ ∧ ∃ r1, v = some (.int r1) ∧ r = r1 ∧ μr = μ1))  (hk : z_ok (z_sh E.1) ρ) : ∀ (n : Nat) (x4 : Int32) (x9 : Int32) (x10 : Int32) (μ : z_M), μ.2.2 = ρ → g_X5_hanging_169   n x4 x9 x10 μ = some (r, μr) → z_J E 12 169 [some (.ref 98), none, none, none, some (.int x4), none, none, none, none, some (.int x9), some (.int x10), none] [] μ := by
  intro n
  induction n with
  | zero =>
    intro x4 x9 x10 μ hρ h
    rw [g_X5_hanging_169] at h
    cases h
  | succ n ih =>
    intro x4 x9 x10 μ hρ h
    rw [g_X5_hanging_169] at h
    refine j_iload F (pc := 169) (i := 10) (by decide +kernel) rfl ?_
    refine j_aload_n F (pc := 171) (q := 0) (by decide +kernel) rfl ?_
    refine j_getI F (pc := 172) fl_X5_268 (hk.s c_98) rfl (by decide +kernel) ?_
    refine j_icmp_ge F (pc := 175) (off := 55) (tgt := 230) (by decide +kernel) (by decide) (fun c => ?_) (fun c => ?_)
    · rw [if_pos c] at h
      refine j_iload F (pc := 230) (i := 9) (by decide +kernel) rfl ?_
      exact j_iret (st := []) F Rt rfl (by decide +kernel) ⟨hρ, _, rfl, (congrArg Prod.fst (Option.some.inj h)).symm, (congrArg Prod.snd (Option.some.inj h)).symm⟩
    · rw [if_neg c] at h
      refine j_iload F (pc := 178) (i := 10) (by decide +kernel) rfl ?_
      refine j_iload F (pc := 180) (i := 4) (by decide +kernel) rfl ?_
      obtain ⟨hg, h⟩ := z_ifs h
      suffices hj : z_J E 12 204 [some (.ref 98), none, none, none, some (.int x4), none, none, none, none, some (.int x9), some (.int x10), none] (.int (if x10 = x4 then (0 : Int32) else ((μ.1 126 x10.toNatClampNeg) - (μ.1 133 x10.toNatClampNeg))) :: []) μ by
        refine j_icmp_ne F (pc := 182) (off := 7) (tgt := 189) (by decide +kernel) (by decide) (fun c0 => ?_) (fun c0 => ?_)
        · rw [if_neg c0] at hj
          refine j_aload_n F (pc := 189) (q := 0) (by decide +kernel) rfl ?_
          refine j_getR F (pc := 190) (hk.r hρ r_98_38) fl_X5_96 (hk.s c_98) rfl (by decide +kernel) ?_
          refine j_iload F (pc := 193) (i := 10) (by decide +kernel) rfl ?_
          refine j_iald F (pc := 195) (hk.s c_126) (hg.1 c0) (by decide +kernel) ?_
          refine j_aload_n F (pc := 196) (q := 0) (by decide +kernel) rfl ?_
          refine j_getR F (pc := 197) (hk.r hρ r_98_45) fl_X5_117 (hk.s c_98) rfl (by decide +kernel) ?_
          refine j_iload F (pc := 200) (i := 10) (by decide +kernel) rfl ?_
          refine j_iald F (pc := 202) (hk.s c_133) (hg.2 c0) (by decide +kernel) ?_
          refine j_isub F (pc := 203) (by decide +kernel) ?_
          exact hj
        · rw [if_pos c0] at hj
          refine j_iconst F (pc := 185) (n := 0) (v := 0) (by decide +kernel) (by decide +kernel) ?_
          refine j_goto F (pc := 186) (off := 18) (tgt := 204) (by decide +kernel) (by decide) ?_
          exact hj
      obtain ⟨x_37, e38, h⟩ := z_lt_some h
      rw [← e38]
      refine j_istore F (pc := 204) (i := 11) (L' := [some (.ref 98), none, none, none, some (.int x4), none, none, none, none, some (.int x9), some (.int x10), some (.int x_37)]) (by decide +kernel) (by decide) rfl rfl ?_
      refine j_iload F (pc := 206) (i := 9) (by decide +kernel) rfl ?_
      refine j_iload F (pc := 208) (i := 11) (by decide +kernel) rfl ?_
      suffices hj : z_J E 12 221 [some (.ref 98), none, none, none, some (.int x4), none, none, none, none, some (.int x9), some (.int x10), some (.int x_37)] (.int (if 0 ≤ x_37 then x_37 else (-x_37)) :: [.int x9]) μ by
        refine j_if_ge F (pc := 210) (off := 9) (tgt := 219) (by decide +kernel) (by decide) (fun c0 => ?_) (fun c0 => ?_)
        · rw [if_pos c0] at hj
          refine j_iload F (pc := 219) (i := 11) (by decide +kernel) rfl ?_
          exact hj
        · rw [if_neg c0] at hj
          refine j_iload F (pc := 213) (i := 11) (by decide +kernel) rfl ?_
          refine j_ineg F (pc := 215) (by decide +kernel) ?_
          refine j_goto F (pc := 216) (off := 5) (tgt := 221) (by decide +kernel) (by decide) ?_
          exact hj
      refine j_iadd F (pc := 221) (by decide +kernel) ?_
      obtain ⟨x_39, e40, h⟩ := z_lt_some h
      rw [← e40]
      refine j_istore F (pc := 222) (i := 9) (L' := [some (.ref 98), none, none, none, some (.int x4), none, none, none, none, some (.int x_39), some (.int x10), some (.int x_37)]) (by decide +kernel) (by decide) rfl rfl ?_
      refine j_iinc F (pc := 224) (i := 10) (n := 1) (v := 1) (L' := [some (.ref 98), none, none, none, some (.int x4), none, none, none, none, some (.int x_39), some (.int (x10 + (1 : Int32))), some (.int x_37)]) (by decide +kernel) rfl (by decide +kernel) (by decide) rfl rfl ?_
      refine j_goto F (pc := 227) (off := -58) (tgt := 169) (by decide +kernel) (by decide) ?_
      refine j_mk F [true, false, false, false, true, false, false, false, false, true, true, false] (L' := [some (.ref 98), none, none, none, some (.int x4), none, none, none, none, some (.int x_39), some (.int (x10 + (1 : Int32))), none]) rfl ?_
      exact ih _ _ _ _ hρ h
set_option maxHeartbeats 4000000 in
set_option maxRecDepth 100000 in
theorem t_X5_hanging {G : z_Gl} {ρ : Nat → Nat → Option Nat} {μ : z_M} {r : Int32} {μr : z_M} {x1 : Int32} {x2 : Int32} {x3 : Int32} {x4 : Int32} {x5 : Int32} (hρ : μ.2.2 = ρ) (hk : z_ok (z_sh G) ρ) (h : f_X5_hanging x1 x2 x3 x4 x5 μ = some (r, μr)) : z_Ci G yX5_hanging cX5_hanging 12 (some .int) 6 [.ref 98, .int x1, .int x2, .int x3, .int x4, .int x5] μ (fun r1 μ1 => r = r1 ∧ μr = μ1) := by
  unfold z_Ci
  refine z_intro (by decide +kernel) (Nat.le_of_ble_eq_true rfl) (fun E hE F Rt => ?_)
  subst hE
  have F : z_F E RX5 cX5_hanging 12 6 := F
  rw [hρ] at Rt
  unfold f_X5_hanging at h
  show z_J E 12 0 [some (.ref 98), some (.int x1), some (.int x2), some (.int x3), some (.int x4), some (.int x5), none, none, none, none, none, none] [] μ
  refine j_aload_n F (pc := 0) (q := 0) (by decide +kernel) rfl ?_
  refine j_getR F (pc := 1) (hk.r hρ r_98_32) fl_X5_78 (hk.s c_98) rfl (by decide +kernel) ?_
  refine j_iload F (pc := 4) (i := 4) (by decide +kernel) rfl ?_
  obtain ⟨hg, h⟩ := z_ifs h
  refine j_zald F (pc := 6) (hk.s c_120) hg (by decide +kernel) ?_
  obtain ⟨x_1, e2, h⟩ := z_lt_some h
  rw [← e2]
  refine j_istore F (pc := 7) (i := 6) (L' := [some (.ref 98), some (.int x1), some (.int x2), some (.int x3), some (.int x4), some (.int x5), some (.int x_1), none, none, none, none, none]) (by decide +kernel) (by decide) rfl rfl ?_
  refine j_aload_n F (pc := 9) (q := 0) (by decide +kernel) rfl ?_
  refine j_getR F (pc := 10) (hk.r hρ r_98_30) fl_X5_72 (hk.s c_98) rfl (by decide +kernel) ?_
  refine j_iload F (pc := 13) (i := 4) (by decide +kernel) rfl ?_
  obtain ⟨hg, h⟩ := z_ifs h
  refine j_iald F (pc := 15) (hk.s c_118) hg (by decide +kernel) ?_
  obtain ⟨x_3, e4, h⟩ := z_lt_some h
  rw [← e4]
  refine j_istore F (pc := 16) (i := 7) (L' := [some (.ref 98), some (.int x1), some (.int x2), some (.int x3), some (.int x4), some (.int x5), some (.int x_1), some (.int x_3), none, none, none, none]) (by decide +kernel) (by decide) rfl rfl ?_
  refine j_aload_n F (pc := 18) (q := 0) (by decide +kernel) rfl ?_
  refine j_getR F (pc := 19) (hk.r hρ r_98_34) fl_X5_84 (hk.s c_98) rfl (by decide +kernel) ?_
  refine j_iload F (pc := 22) (i := 4) (by decide +kernel) rfl ?_
  obtain ⟨hg, h⟩ := z_ifs h
  refine j_iald F (pc := 24) (hk.s c_122) hg (by decide +kernel) ?_
  obtain ⟨x_5, e6, h⟩ := z_lt_some h
  rw [← e6]
  refine j_istore F (pc := 25) (i := 8) (L' := [some (.ref 98), some (.int x1), some (.int x2), some (.int x3), some (.int x4), some (.int x5), some (.int x_1), some (.int x_3), some (.int x_5), none, none, none]) (by decide +kernel) (by decide) rfl rfl ?_
  refine j_aload_n F (pc := 27) (q := 0) (by decide +kernel) rfl ?_
  refine j_getR F (pc := 28) (hk.r hρ r_98_35) fl_X5_87 (hk.s c_98) rfl (by decide +kernel) ?_
  refine j_iload F (pc := 31) (i := 4) (by decide +kernel) rfl ?_
  refine j_iload F (pc := 33) (i := 5) (by decide +kernel) rfl ?_
  suffices hj : z_J E 12 43 [some (.ref 98), some (.int x1), some (.int x2), some (.int x3), some (.int x4), some (.int x5), some (.int x_1), some (.int x_3), some (.int x_5), none, none, none] (.int (if x5 = 0 then (1 : Int32) else (0 : Int32)) :: [.int x4, .ref 123]) μ by
    refine j_if_ne F (pc := 35) (off := 7) (tgt := 42) (by decide +kernel) (by decide) (fun c0 => ?_) (fun c0 => ?_)
    · rw [if_neg c0] at hj
      refine j_iconst F (pc := 42) (n := 0) (v := 0) (by decide +kernel) (by decide +kernel) ?_
      exact hj
    · rw [if_pos c0] at hj
      refine j_iconst F (pc := 38) (n := 1) (v := 1) (by decide +kernel) (by decide +kernel) ?_
      refine j_goto F (pc := 39) (off := 4) (tgt := 43) (by decide +kernel) (by decide) ?_
      exact hj
  obtain ⟨hg, h⟩ := z_ifs h
  refine j_zast F (pc := 43) (hk.s c_123) hg (by decide +kernel) ?_
  obtain ⟨μ7, e9, h⟩ := z_st_some h
  rw [← e9]
  have hρ8 : μ7.2.2 = ρ := by rw [e9]; exact hρ
  refine j_aload_n F (pc := 44) (q := 0) (by decide +kernel) rfl ?_
  refine j_getR F (pc := 45) (hk.r hρ8 r_98_32) fl_X5_78 (hk.s c_98) rfl (by decide +kernel) ?_
  refine j_iload F (pc := 48) (i := 4) (by decide +kernel) rfl ?_
  refine j_iload F (pc := 50) (i := 5) (by decide +kernel) rfl ?_
  refine j_iconst F (pc := 52) (n := 1) (v := 1) (by decide +kernel) (by decide +kernel) ?_
  suffices hj : z_J E 12 71 [some (.ref 98), some (.int x1), some (.int x2), some (.int x3), some (.int x4), some (.int x5), some (.int x_1), some (.int x_3), some (.int x_5), none, none, none] (.int (if x5 = (1 : Int32) then (if x_1 = 0 then (1 : Int32) else (0 : Int32)) else x_1) :: [.int x4, .ref 120]) μ7 by
    refine j_icmp_ne F (pc := 53) (off := 16) (tgt := 69) (by decide +kernel) (by decide) (fun c0 => ?_) (fun c0 => ?_)
    · rw [if_neg c0] at hj
      refine j_iload F (pc := 69) (i := 6) (by decide +kernel) rfl ?_
      exact hj
    · rw [if_pos c0] at hj
      refine j_iload F (pc := 56) (i := 6) (by decide +kernel) rfl ?_
      refine j_if_ne F (pc := 58) (off := 7) (tgt := 65) (by decide +kernel) (by decide) (fun c1 => ?_) (fun c1 => ?_)
      · rw [if_neg c1] at hj
        refine j_iconst F (pc := 65) (n := 0) (v := 0) (by decide +kernel) (by decide +kernel) ?_
        refine j_goto F (pc := 66) (off := 5) (tgt := 71) (by decide +kernel) (by decide) ?_
        exact hj
      · rw [if_pos c1] at hj
        refine j_iconst F (pc := 61) (n := 1) (v := 1) (by decide +kernel) (by decide +kernel) ?_
        refine j_goto F (pc := 62) (off := 9) (tgt := 71) (by decide +kernel) (by decide) ?_
        exact hj
  obtain ⟨hg, h⟩ := z_ifs h
  refine j_zast F (pc := 71) (hk.s c_120) hg (by decide +kernel) ?_
  obtain ⟨μ10, e12, h⟩ := z_st_some h
  rw [← e12]
  have hρ11 : μ10.2.2 = ρ := by rw [e12]; exact hρ8
  refine j_aload_n F (pc := 72) (q := 0) (by decide +kernel) rfl ?_
  refine j_getR F (pc := 73) (hk.r hρ11 r_98_30) fl_X5_72 (hk.s c_98) rfl (by decide +kernel) ?_
  refine j_iload F (pc := 76) (i := 4) (by decide +kernel) rfl ?_
  refine j_iload F (pc := 78) (i := 5) (by decide +kernel) rfl ?_
  refine j_iconst F (pc := 80) (n := 2) (v := 2) (by decide +kernel) (by decide +kernel) ?_
  suffices hj : z_J E 12 101 [some (.ref 98), some (.int x1), some (.int x2), some (.int x3), some (.int x4), some (.int x5), some (.int x_1), some (.int x_3), some (.int x_5), none, none, none] (.int (if x5 = (2 : Int32) then (if (999 : Int32) ≤ x_3 then x_3 else (x_3 + (1 : Int32))) else x_3) :: [.int x4, .ref 118]) μ10 by
    refine j_icmp_ne F (pc := 81) (off := 18) (tgt := 99) (by decide +kernel) (by decide) (fun c0 => ?_) (fun c0 => ?_)
    · rw [if_neg c0] at hj
      refine j_iload F (pc := 99) (i := 7) (by decide +kernel) rfl ?_
      exact hj
    · rw [if_pos c0] at hj
      refine j_iload F (pc := 84) (i := 7) (by decide +kernel) rfl ?_
      refine j_sipush F (pc := 86) (n := 999) (v := 999) (by decide +kernel) (by decide +kernel) ?_
      refine j_icmp_ge F (pc := 89) (off := 10) (tgt := 99) (by decide +kernel) (by decide) (fun c1 => ?_) (fun c1 => ?_)
      · rw [if_pos c1] at hj
        refine j_iload F (pc := 99) (i := 7) (by decide +kernel) rfl ?_
        exact hj
      · rw [if_neg c1] at hj
        refine j_iload F (pc := 92) (i := 7) (by decide +kernel) rfl ?_
        refine j_iconst F (pc := 94) (n := 1) (v := 1) (by decide +kernel) (by decide +kernel) ?_
        refine j_iadd F (pc := 95) (by decide +kernel) ?_
        refine j_goto F (pc := 96) (off := 5) (tgt := 101) (by decide +kernel) (by decide) ?_
        exact hj
  obtain ⟨hg, h⟩ := z_ifs h
  refine j_iast F (pc := 101) (hk.s c_118) hg (by decide +kernel) ?_
  obtain ⟨μ13, e15, h⟩ := z_st_some h
  rw [← e15]
  have hρ14 : μ13.2.2 = ρ := by rw [e15]; exact hρ11
  refine j_aload_n F (pc := 102) (q := 0) (by decide +kernel) rfl ?_
  refine j_getR F (pc := 103) (hk.r hρ14 r_98_34) fl_X5_84 (hk.s c_98) rfl (by decide +kernel) ?_
  refine j_iload F (pc := 106) (i := 4) (by decide +kernel) rfl ?_
  refine j_iload F (pc := 108) (i := 5) (by decide +kernel) rfl ?_
  refine j_iconst F (pc := 110) (n := 3) (v := 3) (by decide +kernel) (by decide +kernel) ?_
  suffices hj : z_J E 12 120 [some (.ref 98), some (.int x1), some (.int x2), some (.int x3), some (.int x4), some (.int x5), some (.int x_1), some (.int x_3), some (.int x_5), none, none, none] (.int (if x5 = (3 : Int32) then x2 else x_5) :: [.int x4, .ref 122]) μ13 by
    refine j_icmp_ne F (pc := 111) (off := 7) (tgt := 118) (by decide +kernel) (by decide) (fun c0 => ?_) (fun c0 => ?_)
    · rw [if_neg c0] at hj
      refine j_iload F (pc := 118) (i := 8) (by decide +kernel) rfl ?_
      exact hj
    · rw [if_pos c0] at hj
      refine j_iload_n F (pc := 114) (q := 2) (by decide +kernel) rfl ?_
      refine j_goto F (pc := 115) (off := 5) (tgt := 120) (by decide +kernel) (by decide) ?_
      exact hj
  obtain ⟨hg, h⟩ := z_ifs h
  refine j_iast F (pc := 120) (hk.s c_122) hg (by decide +kernel) ?_
  obtain ⟨μ16, e18, h⟩ := z_st_some h
  rw [← e18]
  have hρ17 : μ16.2.2 = ρ := by rw [e18]; exact hρ14
  refine j_aload_n F (pc := 121) (q := 0) (by decide +kernel) rfl ?_
  refine j_iload_n F (pc := 122) (q := 1) (by decide +kernel) rfl ?_
  refine j_iload_n F (pc := 123) (q := 2) (by decide +kernel) rfl ?_
  refine j_iload_n F (pc := 124) (q := 3) (by decide +kernel) rfl ?_
  obtain ⟨μ20, hc22, h⟩ := z_b1_some h
  refine j_callVv F (pc := 125) (idx := 340) (As := [.int x1, .int x2, .int x3]) (st := []) (t_X5_payOut (G := E.1) hρ17 hk hc22) q_X5_payOut v_X5_payOut m_1256 (hk.s c_98) rfl rfl (by decide) (Nat.le_of_ble_eq_true rfl) rfl (by decide +kernel) (fun ν23 hq24 hp => ?_)
  subst hp
  have hρ21 : μ20.2.2 = ρ := hq24.trans hρ17
  refine j_aload_n F (pc := 128) (q := 0) (by decide +kernel) rfl ?_
  refine j_getR F (pc := 129) (hk.r hρ21 r_98_35) fl_X5_87 (hk.s c_98) rfl (by decide +kernel) ?_
  refine j_iload F (pc := 132) (i := 4) (by decide +kernel) rfl ?_
  refine j_iconst F (pc := 134) (n := 0) (v := 0) (by decide +kernel) (by decide +kernel) ?_
  obtain ⟨hg, h⟩ := z_ifs h
  refine j_zast F (pc := 135) (hk.s c_123) hg (by decide +kernel) ?_
  obtain ⟨μ25, e27, h⟩ := z_st_some h
  rw [← e27]
  have hρ26 : μ25.2.2 = ρ := by rw [e27]; exact hρ21
  refine j_aload_n F (pc := 136) (q := 0) (by decide +kernel) rfl ?_
  refine j_getR F (pc := 137) (hk.r hρ26 r_98_32) fl_X5_78 (hk.s c_98) rfl (by decide +kernel) ?_
  refine j_iload F (pc := 140) (i := 4) (by decide +kernel) rfl ?_
  refine j_iload F (pc := 142) (i := 6) (by decide +kernel) rfl ?_
  obtain ⟨hg, h⟩ := z_ifs h
  refine j_zast F (pc := 144) (hk.s c_120) hg (by decide +kernel) ?_
  obtain ⟨μ28, e30, h⟩ := z_st_some h
  rw [← e30]
  have hρ29 : μ28.2.2 = ρ := by rw [e30]; exact hρ26
  refine j_aload_n F (pc := 145) (q := 0) (by decide +kernel) rfl ?_
  refine j_getR F (pc := 146) (hk.r hρ29 r_98_30) fl_X5_72 (hk.s c_98) rfl (by decide +kernel) ?_
  refine j_iload F (pc := 149) (i := 4) (by decide +kernel) rfl ?_
  refine j_iload F (pc := 151) (i := 7) (by decide +kernel) rfl ?_
  obtain ⟨hg, h⟩ := z_ifs h
  refine j_iast F (pc := 153) (hk.s c_118) hg (by decide +kernel) ?_
  obtain ⟨μ31, e33, h⟩ := z_st_some h
  rw [← e33]
  have hρ32 : μ31.2.2 = ρ := by rw [e33]; exact hρ29
  refine j_aload_n F (pc := 154) (q := 0) (by decide +kernel) rfl ?_
  refine j_getR F (pc := 155) (hk.r hρ32 r_98_34) fl_X5_84 (hk.s c_98) rfl (by decide +kernel) ?_
  refine j_iload F (pc := 158) (i := 4) (by decide +kernel) rfl ?_
  refine j_iload F (pc := 160) (i := 8) (by decide +kernel) rfl ?_
  obtain ⟨hg, h⟩ := z_ifs h
  refine j_iast F (pc := 162) (hk.s c_122) hg (by decide +kernel) ?_
  obtain ⟨μ34, e36, h⟩ := z_st_some h
  rw [← e36]
  have hρ35 : μ34.2.2 = ρ := by rw [e36]; exact hρ32
  refine j_iconst F (pc := 163) (n := 0) (v := 0) (by decide +kernel) (by decide +kernel) ?_
  refine j_istore F (pc := 164) (i := 9) (L' := [some (.ref 98), some (.int x1), some (.int x2), some (.int x3), some (.int x4), some (.int x5), some (.int x_1), some (.int x_3), some (.int x_5), some (.int (0 : Int32)), none, none]) (by decide +kernel) (by decide) rfl rfl ?_
  refine j_iconst F (pc := 166) (n := 0) (v := 0) (by decide +kernel) (by decide +kernel) ?_
  refine j_istore F (pc := 167) (i := 10) (L' := [some (.ref 98), some (.int x1), some (.int x2), some (.int x3), some (.int x4), some (.int x5), some (.int x_1), some (.int x_3), some (.int x_5), some (.int (0 : Int32)), some (.int (0 : Int32)), none]) (by decide +kernel) (by decide) rfl rfl ?_
  refine j_mk F [true, false, false, false, true, false, false, false, false, true, true, false] (L' := [some (.ref 98), none, none, none, some (.int x4), none, none, none, none, some (.int (0 : Int32)), some (.int (0 : Int32)), none]) rfl ?_
  refine u_X5_hanging_169 F Rt hk  z_N _ _ _ _ hρ35 h
def g_X5_hang_117   : Nat → Int32 → Int32 → Int32 → Int32 → Int32 → Int32 → Int32 → z_M → Option (Int32 × z_M)
  | 0, _, _, _, _, _, _, _, _ => none
  | n + 1, x1, x2, x3, x5, x6, x7, x8, μ => (if (μ.1 98 27) ≤ x8 then (some (x6, μ)) else (z_b2 (f_X5_hanging (x1) (x2) (x3) (x8) (x5) μ) fun r28 μ29 => (z_lt (if r28 ≤ x7 then x6 else x8) fun x_35 => (z_lt (if r28 ≤ x7 then x7 else r28) fun x_37 => (g_X5_hang_117   n (x1) (x2) (x3) (x5) (x_35) (x_37) ((x8 + (1 : Int32))) μ29)))))
def g_X5_hang_61   : Nat → Int32 → Int32 → Int32 → Int32 → Int32 → Int32 → z_M → Option (Int32 × z_M)
  | 0, _, _, _, _, _, _, _ => none
  | n + 1, x1, x2, x3, x4, x5, x6, μ => (if (μ.1 98 27) ≤ x6 then (if x4 = (-1 : Int32) then (g_X5_hang_117   z_N (x1) (x2) (x3) (x5) ((-1 : Int32)) ((0 : Int32)) ((0 : Int32)) μ) else (z_b2 (f_X5_hanging (x1) (x2) (x3) (x4) (x5) μ) fun r39 μ40 => (some (r39, μ40)))) else (if z_in x6 15 then (if z_in x6 15 then (z_st (z_si μ 133 x6.toNatClampNeg (μ.1 126 x6.toNatClampNeg)) fun μ46 => (g_X5_hang_61   n (x1) (x2) (x3) (x4) (x5) ((x6 + (1 : Int32))) μ46)) else none) else none))
def g_X5_hang_26   (x1 : Int32) (x2 : Int32) (x3 : Int32) (x4 : Int32) (x5 : Int32) (μ : z_M) : Option (Int32 × z_M) :=
  (z_b2 (f_X5_isGood (x2) (x3) μ) fun r8 μ9 => (if r8 = 0 then (some ((-1002 : Int32), μ9)) else (z_b2 (f_X5_in ((x5).toInt64) ((0 : Int64)) ((3 : Int64)) μ9) fun r15 μ16 => (if r15 = 0 then (some ((-1002 : Int32), μ16)) else (z_b1 (f_X5_payOut (x1) (x2) (x3) μ16) fun μ23 => (g_X5_hang_61   z_N (x1) (x2) (x3) (x4) (x5) ((0 : Int32)) μ23))))))
def f_X5_hang (x1 : Int32) (x2 : Int32) (x3 : Int32) (x4 : Int32) (x5 : Int32) (μ : z_M) : Option (Int32 × z_M) :=
  (z_b2 (f_X5_isLand (x1) μ) fun r1 μ2 => (if r1 = 0 then (some ((-1001 : Int32), μ2)) else (if x4 = (-1 : Int32) then (g_X5_hang_26   (x1) (x2) (x3) (x4) (x5) μ2) else (z_b2 (f_X5_isClaim (x4) μ2) fun r49 μ50 => (if r49 = 0 then (some ((-1001 : Int32), μ50)) else (g_X5_hang_26   (x1) (x2) (x3) (x4) (x5) μ50))))))
set_option maxHeartbeats 4000000 in
set_option maxRecDepth 100000 in
theorem u_X5_hang_117 {E : z_E} {ρ : Nat → Nat → Option Nat} {r : Int32} {μr : z_M} (F : z_F E RX5 cX5_hang 10 7) (Rt : z_R E (some .int) (fun v μ1 => μ1.2.2 = ρ ∧ ∃ r1, v = some (.int r1) ∧ r = r1 ∧ μr = μ1))  (hk : z_ok (z_sh E.1) ρ) : ∀ (n : Nat) (x1 : Int32) (x2 : Int32) (x3 : Int32) (x5 : Int32) (x6 : Int32) (x7 : Int32) (x8 : Int32) (μ : z_M), μ.2.2 = ρ → g_X5_hang_117   n x1 x2 x3 x5 x6 x7 x8 μ = some (r, μr) → z_J E 10 117 [some (.ref 98), some (.int x1), some (.int x2), some (.int x3), none, some (.int x5), some (.int x6), some (.int x7), some (.int x8), none] [] μ := by
  intro n
  induction n with
  | zero =>
    intro x1 x2 x3 x5 x6 x7 x8 μ hρ h
    rw [g_X5_hang_117] at h
    cases h
  | succ n ih =>
    intro x1 x2 x3 x5 x6 x7 x8 μ hρ h
    rw [g_X5_hang_117] at h
    refine j_iload F (pc := 117) (i := 8) (by decide +kernel) rfl ?_
    refine j_aload_n F (pc := 119) (q := 0) (by decide +kernel) rfl ?_
    refine j_getI F (pc := 120) fl_X5_268 (hk.s c_98) rfl (by decide +kernel) ?_
    refine j_icmp_ge F (pc := 123) (off := 54) (tgt := 177) (by decide +kernel) (by decide) (fun c => ?_) (fun c => ?_)
    · rw [if_pos c] at h
      refine j_iload F (pc := 177) (i := 6) (by decide +kernel) rfl ?_
      exact j_iret (st := []) F Rt rfl (by decide +kernel) ⟨hρ, _, rfl, (congrArg Prod.fst (Option.some.inj h)).symm, (congrArg Prod.snd (Option.some.inj h)).symm⟩
    · rw [if_neg c] at h
      refine j_aload_n F (pc := 126) (q := 0) (by decide +kernel) rfl ?_
      refine j_iload_n F (pc := 127) (q := 1) (by decide +kernel) rfl ?_
      refine j_iload_n F (pc := 128) (q := 2) (by decide +kernel) rfl ?_
      refine j_iload_n F (pc := 129) (q := 3) (by decide +kernel) rfl ?_
      refine j_iload F (pc := 130) (i := 8) (by decide +kernel) rfl ?_
      refine j_iload F (pc := 132) (i := 5) (by decide +kernel) rfl ?_
      obtain ⟨r28, μ29, hc31, h⟩ := z_b2_some h
      refine j_callVi F (pc := 134) (idx := 350) (As := [.int x1, .int x2, .int x3, .int x8, .int x5]) (st := []) (t_X5_hanging (G := E.1) hρ hk hc31) q_X5_hanging v_X5_hanging m_1330 (hk.s c_98) rfl rfl (by decide) (Nat.le_of_ble_eq_true rfl) rfl (by decide +kernel) (fun s34 ν32 hq33 hp => ?_)
      obtain ⟨rfl, rfl⟩ := hp
      have hρ30 : μ29.2.2 = ρ := hq33.trans hρ
      refine j_istore F (pc := 137) (i := 9) (L' := [some (.ref 98), some (.int x1), some (.int x2), some (.int x3), none, some (.int x5), some (.int x6), some (.int x7), some (.int x8), some (.int r28)]) (by decide +kernel) (by decide) rfl rfl ?_
      refine j_iload F (pc := 139) (i := 9) (by decide +kernel) rfl ?_
      refine j_iload F (pc := 141) (i := 7) (by decide +kernel) rfl ?_
      suffices hj : z_J E 10 153 [some (.ref 98), some (.int x1), some (.int x2), some (.int x3), none, some (.int x5), some (.int x6), some (.int x7), some (.int x8), some (.int r28)] (.int (if r28 ≤ x7 then x6 else x8) :: []) μ29 by
        refine j_icmp_le F (pc := 143) (off := 8) (tgt := 151) (by decide +kernel) (by decide) (fun c0 => ?_) (fun c0 => ?_)
        · rw [if_pos c0] at hj
          refine j_iload F (pc := 151) (i := 6) (by decide +kernel) rfl ?_
          exact hj
        · rw [if_neg c0] at hj
          refine j_iload F (pc := 146) (i := 8) (by decide +kernel) rfl ?_
          refine j_goto F (pc := 148) (off := 5) (tgt := 153) (by decide +kernel) (by decide) ?_
          exact hj
      obtain ⟨x_35, e36, h⟩ := z_lt_some h
      rw [← e36]
      refine j_istore F (pc := 153) (i := 6) (L' := [some (.ref 98), some (.int x1), some (.int x2), some (.int x3), none, some (.int x5), some (.int x_35), some (.int x7), some (.int x8), some (.int r28)]) (by decide +kernel) (by decide) rfl rfl ?_
      refine j_iload F (pc := 155) (i := 9) (by decide +kernel) rfl ?_
      refine j_iload F (pc := 157) (i := 7) (by decide +kernel) rfl ?_
      suffices hj : z_J E 10 169 [some (.ref 98), some (.int x1), some (.int x2), some (.int x3), none, some (.int x5), some (.int x_35), some (.int x7), some (.int x8), some (.int r28)] (.int (if r28 ≤ x7 then x7 else r28) :: []) μ29 by
        refine j_icmp_le F (pc := 159) (off := 8) (tgt := 167) (by decide +kernel) (by decide) (fun c0 => ?_) (fun c0 => ?_)
        · rw [if_pos c0] at hj
          refine j_iload F (pc := 167) (i := 7) (by decide +kernel) rfl ?_
          exact hj
        · rw [if_neg c0] at hj
          refine j_iload F (pc := 162) (i := 9) (by decide +kernel) rfl ?_
          refine j_goto F (pc := 164) (off := 5) (tgt := 169) (by decide +kernel) (by decide) ?_
          exact hj
      obtain ⟨x_37, e38, h⟩ := z_lt_some h
      rw [← e38]
      refine j_istore F (pc := 169) (i := 7) (L' := [some (.ref 98), some (.int x1), some (.int x2), some (.int x3), none, some (.int x5), some (.int x_35), some (.int x_37), some (.int x8), some (.int r28)]) (by decide +kernel) (by decide) rfl rfl ?_
      refine j_iinc F (pc := 171) (i := 8) (n := 1) (v := 1) (L' := [some (.ref 98), some (.int x1), some (.int x2), some (.int x3), none, some (.int x5), some (.int x_35), some (.int x_37), some (.int (x8 + (1 : Int32))), some (.int r28)]) (by decide +kernel) rfl (by decide +kernel) (by decide) rfl rfl ?_
      refine j_goto F (pc := 174) (off := -57) (tgt := 117) (by decide +kernel) (by decide) ?_
      refine j_mk F [true, true, true, true, false, true, true, true, true, false] (L' := [some (.ref 98), some (.int x1), some (.int x2), some (.int x3), none, some (.int x5), some (.int x_35), some (.int x_37), some (.int (x8 + (1 : Int32))), none]) rfl ?_
      exact ih _ _ _ _ _ _ _ _ hρ30 h
set_option maxHeartbeats 4000000 in
set_option maxRecDepth 100000 in
theorem u_X5_hang_61 {E : z_E} {ρ : Nat → Nat → Option Nat} {r : Int32} {μr : z_M} (F : z_F E RX5 cX5_hang 10 7) (Rt : z_R E (some .int) (fun v μ1 => μ1.2.2 = ρ ∧ ∃ r1, v = some (.int r1) ∧ r = r1 ∧ μr = μ1))  (hk : z_ok (z_sh E.1) ρ) : ∀ (n : Nat) (x1 : Int32) (x2 : Int32) (x3 : Int32) (x4 : Int32) (x5 : Int32) (x6 : Int32) (μ : z_M), μ.2.2 = ρ → g_X5_hang_61   n x1 x2 x3 x4 x5 x6 μ = some (r, μr) → z_J E 10 61 [some (.ref 98), some (.int x1), some (.int x2), some (.int x3), some (.int x4), some (.int x5), some (.int x6), none, none, none] [] μ := by
  intro n
  induction n with
  | zero =>
    intro x1 x2 x3 x4 x5 x6 μ hρ h
    rw [g_X5_hang_61] at h
    cases h
  | succ n ih =>
    intro x1 x2 x3 x4 x5 x6 μ hρ h
    rw [g_X5_hang_61] at h
    refine j_iload F (pc := 61) (i := 6) (by decide +kernel) rfl ?_
    refine j_aload_n F (pc := 63) (q := 0) (by decide +kernel) rfl ?_
    refine j_getI F (pc := 64) fl_X5_268 (hk.s c_98) rfl (by decide +kernel) ?_
    refine j_icmp_ge F (pc := 67) (off := 23) (tgt := 90) (by decide +kernel) (by decide) (fun c => ?_) (fun c => ?_)
    · rw [if_pos c] at h
      refine j_iload F (pc := 90) (i := 4) (by decide +kernel) rfl ?_
      refine j_iconst F (pc := 92) (n := -1) (v := -1) (by decide +kernel) (by decide +kernel) ?_
      refine j_icmp_eq F (pc := 93) (off := 15) (tgt := 108) (by decide +kernel) (by decide) (fun c => ?_) (fun c => ?_)
      · rw [if_pos c] at h
        refine j_iconst F (pc := 108) (n := -1) (v := -1) (by decide +kernel) (by decide +kernel) ?_
        refine j_istore F (pc := 109) (i := 6) (L' := [some (.ref 98), some (.int x1), some (.int x2), some (.int x3), some (.int x4), some (.int x5), some (.int (-1 : Int32)), none, none, none]) (by decide +kernel) (by decide) rfl rfl ?_
        refine j_iconst F (pc := 111) (n := 0) (v := 0) (by decide +kernel) (by decide +kernel) ?_
        refine j_istore F (pc := 112) (i := 7) (L' := [some (.ref 98), some (.int x1), some (.int x2), some (.int x3), some (.int x4), some (.int x5), some (.int (-1 : Int32)), some (.int (0 : Int32)), none, none]) (by decide +kernel) (by decide) rfl rfl ?_
        refine j_iconst F (pc := 114) (n := 0) (v := 0) (by decide +kernel) (by decide +kernel) ?_
        refine j_istore F (pc := 115) (i := 8) (L' := [some (.ref 98), some (.int x1), some (.int x2), some (.int x3), some (.int x4), some (.int x5), some (.int (-1 : Int32)), some (.int (0 : Int32)), some (.int (0 : Int32)), none]) (by decide +kernel) (by decide) rfl rfl ?_
        refine j_mk F [true, true, true, true, false, true, true, true, true, false] (L' := [some (.ref 98), some (.int x1), some (.int x2), some (.int x3), none, some (.int x5), some (.int (-1 : Int32)), some (.int (0 : Int32)), some (.int (0 : Int32)), none]) rfl ?_
        refine u_X5_hang_117 F Rt hk  z_N _ _ _ _ _ _ _ _ hρ h
      · rw [if_neg c] at h
        refine j_aload_n F (pc := 96) (q := 0) (by decide +kernel) rfl ?_
        refine j_iload_n F (pc := 97) (q := 1) (by decide +kernel) rfl ?_
        refine j_iload_n F (pc := 98) (q := 2) (by decide +kernel) rfl ?_
        refine j_iload_n F (pc := 99) (q := 3) (by decide +kernel) rfl ?_
        refine j_iload F (pc := 100) (i := 4) (by decide +kernel) rfl ?_
        refine j_iload F (pc := 102) (i := 5) (by decide +kernel) rfl ?_
        obtain ⟨r39, μ40, hc42, h⟩ := z_b2_some h
        refine j_callVi F (pc := 104) (idx := 350) (As := [.int x1, .int x2, .int x3, .int x4, .int x5]) (st := []) (t_X5_hanging (G := E.1) hρ hk hc42) q_X5_hanging v_X5_hanging m_1330 (hk.s c_98) rfl rfl (by decide) (Nat.le_of_ble_eq_true rfl) rfl (by decide +kernel) (fun s45 ν43 hq44 hp => ?_)
        obtain ⟨rfl, rfl⟩ := hp
        have hρ41 : μ40.2.2 = ρ := hq44.trans hρ
        exact j_iret (st := []) F Rt rfl (by decide +kernel) ⟨hρ41, _, rfl, (congrArg Prod.fst (Option.some.inj h)).symm, (congrArg Prod.snd (Option.some.inj h)).symm⟩
    · rw [if_neg c] at h
      refine j_aload_n F (pc := 70) (q := 0) (by decide +kernel) rfl ?_
      refine j_getR F (pc := 71) (hk.r hρ r_98_45) fl_X5_117 (hk.s c_98) rfl (by decide +kernel) ?_
      refine j_iload F (pc := 74) (i := 6) (by decide +kernel) rfl ?_
      refine j_aload_n F (pc := 76) (q := 0) (by decide +kernel) rfl ?_
      refine j_getR F (pc := 77) (hk.r hρ r_98_38) fl_X5_96 (hk.s c_98) rfl (by decide +kernel) ?_
      refine j_iload F (pc := 80) (i := 6) (by decide +kernel) rfl ?_
      obtain ⟨hg, h⟩ := z_ifs h
      refine j_iald F (pc := 82) (hk.s c_126) hg (by decide +kernel) ?_
      obtain ⟨hg, h⟩ := z_ifs h
      refine j_iast F (pc := 83) (hk.s c_133) hg (by decide +kernel) ?_
      obtain ⟨μ46, e48, h⟩ := z_st_some h
      rw [← e48]
      have hρ47 : μ46.2.2 = ρ := by rw [e48]; exact hρ
      refine j_iinc F (pc := 84) (i := 6) (n := 1) (v := 1) (L' := [some (.ref 98), some (.int x1), some (.int x2), some (.int x3), some (.int x4), some (.int x5), some (.int (x6 + (1 : Int32))), none, none, none]) (by decide +kernel) rfl (by decide +kernel) (by decide) rfl rfl ?_
      refine j_goto F (pc := 87) (off := -26) (tgt := 61) (by decide +kernel) (by decide) ?_
      exact ih _ _ _ _ _ _ _ hρ47 h
set_option maxHeartbeats 4000000 in
set_option maxRecDepth 100000 in
theorem u_X5_hang_26 {E : z_E} {ρ : Nat → Nat → Option Nat} {r : Int32} {μr : z_M} (F : z_F E RX5 cX5_hang 10 7) (Rt : z_R E (some .int) (fun v μ1 => μ1.2.2 = ρ ∧ ∃ r1, v = some (.int r1) ∧ r = r1 ∧ μr = μ1))  (hk : z_ok (z_sh E.1) ρ) : ∀ (x1 : Int32) (x2 : Int32) (x3 : Int32) (x4 : Int32) (x5 : Int32) (μ : z_M), μ.2.2 = ρ → g_X5_hang_26   x1 x2 x3 x4 x5 μ = some (r, μr) → z_J E 10 26 [some (.ref 98), some (.int x1), some (.int x2), some (.int x3), some (.int x4), some (.int x5), none, none, none, none] [] μ := by
  intro x1 x2 x3 x4 x5 μ hρ h
  unfold g_X5_hang_26 at h
  refine j_iload_n F (pc := 26) (q := 2) (by decide +kernel) rfl ?_
  refine j_iload_n F (pc := 27) (q := 3) (by decide +kernel) rfl ?_
  obtain ⟨r8, μ9, hc11, h⟩ := z_b2_some h
  refine j_callSi F (pc := 28) (idx := 336) (As := [.int x2, .int x3]) (st := []) (t_X5_isGood (G := E.1) hρ  hc11) q_X5_isGood m_1254 m_1253 rfl (by decide) (Nat.le_of_ble_eq_true rfl) rfl (by decide +kernel) (fun s14 ν12 hq13 hp => ?_)
  obtain ⟨rfl, rfl⟩ := hp
  have hρ10 : μ9.2.2 = ρ := hq13.trans hρ
  refine j_if_eq F (pc := 31) (off := 16) (tgt := 47) (by decide +kernel) (by decide) (fun c => ?_) (fun c => ?_)
  · rw [if_pos c] at h
    refine j_sipush F (pc := 47) (n := -1002) (v := -1002) (by decide +kernel) (by decide +kernel) ?_
    exact j_iret (st := []) F Rt rfl (by decide +kernel) ⟨hρ10, _, rfl, (congrArg Prod.fst (Option.some.inj h)).symm, (congrArg Prod.snd (Option.some.inj h)).symm⟩
  · rw [if_neg c] at h
    refine j_iload F (pc := 34) (i := 5) (by decide +kernel) rfl ?_
    refine j_i2l F (pc := 36) (by decide +kernel) ?_
    refine j_lconst F (pc := 37) (n := 0) (v := 0) (by decide +kernel) (by decide +kernel) ?_
    refine j_ldc2 F (pc := 38) m_1060 (by decide +kernel) ?_
    obtain ⟨r15, μ16, hc18, h⟩ := z_b2_some h
    refine j_callSi F (pc := 41) (idx := 138) (As := [.long (x5).toInt64, .long (0 : Int64), .long (3 : Int64)]) (st := []) (t_X5_in (G := E.1) hρ10  hc18) q_X5_in m_1050 m_1049 rfl (by decide) (Nat.le_of_ble_eq_true rfl) rfl (by decide +kernel) (fun s21 ν19 hq20 hp => ?_)
    obtain ⟨rfl, rfl⟩ := hp
    have hρ17 : μ16.2.2 = ρ := hq20.trans hρ10
    refine j_if_ne F (pc := 44) (off := 7) (tgt := 51) (by decide +kernel) (by decide) (fun c => ?_) (fun c => ?_)
    · rw [if_neg c] at h
      refine j_aload_n F (pc := 51) (q := 0) (by decide +kernel) rfl ?_
      refine j_iload_n F (pc := 52) (q := 1) (by decide +kernel) rfl ?_
      refine j_iload_n F (pc := 53) (q := 2) (by decide +kernel) rfl ?_
      refine j_iload_n F (pc := 54) (q := 3) (by decide +kernel) rfl ?_
      obtain ⟨μ23, hc25, h⟩ := z_b1_some h
      refine j_callVv F (pc := 55) (idx := 340) (As := [.int x1, .int x2, .int x3]) (st := []) (t_X5_payOut (G := E.1) hρ17 hk hc25) q_X5_payOut v_X5_payOut m_1256 (hk.s c_98) rfl rfl (by decide) (Nat.le_of_ble_eq_true rfl) rfl (by decide +kernel) (fun ν26 hq27 hp => ?_)
      subst hp
      have hρ24 : μ23.2.2 = ρ := hq27.trans hρ17
      refine j_iconst F (pc := 58) (n := 0) (v := 0) (by decide +kernel) (by decide +kernel) ?_
      refine j_istore F (pc := 59) (i := 6) (L' := [some (.ref 98), some (.int x1), some (.int x2), some (.int x3), some (.int x4), some (.int x5), some (.int (0 : Int32)), none, none, none]) (by decide +kernel) (by decide) rfl rfl ?_
      refine u_X5_hang_61 F Rt hk  z_N _ _ _ _ _ _ _ hρ24 h
    · rw [if_pos c] at h
      refine j_sipush F (pc := 47) (n := -1002) (v := -1002) (by decide +kernel) (by decide +kernel) ?_
      exact j_iret (st := []) F Rt rfl (by decide +kernel) ⟨hρ17, _, rfl, (congrArg Prod.fst (Option.some.inj h)).symm, (congrArg Prod.snd (Option.some.inj h)).symm⟩
set_option maxHeartbeats 4000000 in
set_option maxRecDepth 100000 in
theorem t_X5_hang {G : z_Gl} {ρ : Nat → Nat → Option Nat} {μ : z_M} {r : Int32} {μr : z_M} {x1 : Int32} {x2 : Int32} {x3 : Int32} {x4 : Int32} {x5 : Int32} (hρ : μ.2.2 = ρ) (hk : z_ok (z_sh G) ρ) (h : f_X5_hang x1 x2 x3 x4 x5 μ = some (r, μr)) : z_Ci G yX5_hang cX5_hang 10 (some .int) 7 [.ref 98, .int x1, .int x2, .int x3, .int x4, .int x5] μ (fun r1 μ1 => r = r1 ∧ μr = μ1) := by
  unfold z_Ci
  refine z_intro (by decide +kernel) (Nat.le_of_ble_eq_true rfl) (fun E hE F Rt => ?_)
  subst hE
  have F : z_F E RX5 cX5_hang 10 7 := F
  rw [hρ] at Rt
  unfold f_X5_hang at h
  show z_J E 10 0 [some (.ref 98), some (.int x1), some (.int x2), some (.int x3), some (.int x4), some (.int x5), none, none, none, none] [] μ
  refine j_iload_n F (pc := 0) (q := 1) (by decide +kernel) rfl ?_
  obtain ⟨r1, μ2, hc4, h⟩ := z_b2_some h
  refine j_callSi F (pc := 1) (idx := 246) (As := [.int x1]) (st := []) (t_X5_isLand (G := E.1) hρ  hc4) q_X5_isLand m_1058 m_1057 rfl (by decide) (Nat.le_of_ble_eq_true rfl) rfl (by decide +kernel) (fun s7 ν5 hq6 hp => ?_)
  obtain ⟨rfl, rfl⟩ := hp
  have hρ3 : μ2.2.2 = ρ := hq6.trans hρ
  refine j_if_eq F (pc := 4) (off := 18) (tgt := 22) (by decide +kernel) (by decide) (fun c => ?_) (fun c => ?_)
  · rw [if_pos c] at h
    refine j_sipush F (pc := 22) (n := -1001) (v := -1001) (by decide +kernel) (by decide +kernel) ?_
    exact j_iret (st := []) F Rt rfl (by decide +kernel) ⟨hρ3, _, rfl, (congrArg Prod.fst (Option.some.inj h)).symm, (congrArg Prod.snd (Option.some.inj h)).symm⟩
  · rw [if_neg c] at h
    refine j_iload F (pc := 7) (i := 4) (by decide +kernel) rfl ?_
    refine j_iconst F (pc := 9) (n := -1) (v := -1) (by decide +kernel) (by decide +kernel) ?_
    refine j_icmp_eq F (pc := 10) (off := 16) (tgt := 26) (by decide +kernel) (by decide) (fun c => ?_) (fun c => ?_)
    · rw [if_pos c] at h
      refine u_X5_hang_26 F Rt hk  _ _ _ _ _ _ hρ3 h
    · rw [if_neg c] at h
      refine j_aload_n F (pc := 13) (q := 0) (by decide +kernel) rfl ?_
      refine j_iload F (pc := 14) (i := 4) (by decide +kernel) rfl ?_
      obtain ⟨r49, μ50, hc52, h⟩ := z_b2_some h
      refine j_callVi F (pc := 16) (idx := 284) (As := [.int x4]) (st := []) (t_X5_isClaim (G := E.1) hρ3 hk hc52) q_X5_isClaim v_X5_isClaim m_1180 (hk.s c_98) rfl rfl (by decide) (Nat.le_of_ble_eq_true rfl) rfl (by decide +kernel) (fun s55 ν53 hq54 hp => ?_)
      obtain ⟨rfl, rfl⟩ := hp
      have hρ51 : μ50.2.2 = ρ := hq54.trans hρ3
      refine j_if_ne F (pc := 19) (off := 7) (tgt := 26) (by decide +kernel) (by decide) (fun c => ?_) (fun c => ?_)
      · rw [if_neg c] at h
        refine u_X5_hang_26 F Rt hk  _ _ _ _ _ _ hρ51 h
      · rw [if_pos c] at h
        refine j_sipush F (pc := 22) (n := -1001) (v := -1001) (by decide +kernel) (by decide +kernel) ?_
        exact j_iret (st := []) F Rt rfl (by decide +kernel) ⟨hρ51, _, rfl, (congrArg Prod.fst (Option.some.inj h)).symm, (congrArg Prod.snd (Option.some.inj h)).symm⟩
/-- LastLentModel.isImage -/
def f_X5_isImage (x0 : Int32) (μ : z_M) : Option (Int32 × z_M) :=
  (z_b2 (f_X5_in ((x0).toInt64) ((0 : Int64)) ((1 : Int64)) μ) fun r1 μ2 => (if r1 = 0 ∨ r1 = 1 then some (r1, μ2) else none))
set_option maxHeartbeats 4000000 in
set_option maxRecDepth 100000 in
theorem t_X5_isImage {G : z_Gl} {ρ : Nat → Nat → Option Nat} {μ : z_M} {r : Int32} {μr : z_M} {x0 : Int32} (hρ : μ.2.2 = ρ)  (h : f_X5_isImage x0 μ = some (r, μr)) : z_Ci G yX5_isImage cX5_isImage 1 (some .boolean) 1 [.int x0] μ (fun r1 μ1 => r = r1 ∧ μr = μ1) := by
  unfold z_Ci
  refine z_intro (by decide +kernel) (Nat.le_of_ble_eq_true rfl) (fun E hE F Rt => ?_)
  subst hE
  have F : z_F E RX5 cX5_isImage 1 1 := F
  rw [hρ] at Rt
  unfold f_X5_isImage at h
  show z_J E 1 0 [some (.int x0)] [] μ
  refine j_iload_n F (pc := 0) (q := 0) (by decide +kernel) rfl ?_
  refine j_i2l F (pc := 1) (by decide +kernel) ?_
  refine j_lconst F (pc := 2) (n := 0) (v := 0) (by decide +kernel) (by decide +kernel) ?_
  refine j_lconst F (pc := 3) (n := 1) (v := 1) (by decide +kernel) (by decide +kernel) ?_
  obtain ⟨r1, μ2, hc4, h⟩ := z_b2_some h
  refine j_callSi F (pc := 4) (idx := 138) (As := [.long (x0).toInt64, .long (0 : Int64), .long (1 : Int64)]) (st := []) (t_X5_in (G := E.1) hρ  hc4) q_X5_in m_1050 m_1049 rfl (by decide) (Nat.le_of_ble_eq_true rfl) rfl (by decide +kernel) (fun s7 ν5 hq6 hp => ?_)
  obtain ⟨rfl, rfl⟩ := hp
  have hρ3 : μ2.2.2 = ρ := hq6.trans hρ
  obtain ⟨hg, h⟩ := z_ifs h
  exact j_iret (st := []) F Rt (z_nb hg) (by decide +kernel) ⟨hρ3, _, rfl, (congrArg Prod.fst (Option.some.inj h)).symm, (congrArg Prod.snd (Option.some.inj h)).symm⟩
def g_X5_keep_259   : Nat → Int32 → Int32 → Int32 → z_M → Option (Int32 × z_M)
  | 0, _, _, _, _ => none
  | n + 1, x1, x2, x3, μ => (if (3 : Int32) ≤ x3 then (if z_in x1 2 then (z_st (z_si μ 135 x1.toNatClampNeg ((1 : Int32) &&& 1)) fun μ16 => (some ((1 : Int32), μ16))) else none) else (if z_in x3 3 then (if z_in ((x2 + (117 : Int32)) + x3) 300 then (z_st (z_si μ 134 ((x2 + (117 : Int32)) + x3).toNatClampNeg (μ.1 125 x3.toNatClampNeg)) fun μ19 => (g_X5_keep_259   n (x1) (x2) ((x3 + (1 : Int32))) μ19)) else none) else none))
def g_X5_keep_229   : Nat → Int32 → Int32 → Int32 → z_M → Option (Int32 × z_M)
  | 0, _, _, _, _ => none
  | n + 1, x1, x2, x3, μ => (if (5 : Int32) ≤ x3 then (g_X5_keep_259   z_N (x1) (x2) ((0 : Int32)) μ) else (if z_in x3 5 then (if z_in ((x2 + (112 : Int32)) + x3) 300 then (z_st (z_si μ 134 ((x2 + (112 : Int32)) + x3).toNatClampNeg (μ.1 124 x3.toNatClampNeg)) fun μ22 => (g_X5_keep_229   n (x1) (x2) ((x3 + (1 : Int32))) μ22)) else none) else none))
def g_X5_keep_88   : Nat → Int32 → Int32 → Int32 → z_M → Option (Int32 × z_M)
  | 0, _, _, _, _ => none
  | n + 1, x1, x2, x3, μ => (if (14 : Int32) ≤ x3 then (g_X5_keep_229   z_N (x1) (x2) ((0 : Int32)) μ) else (if z_in x3 15 then (if z_in ((x2 + (14 : Int32)) + x3) 300 then (z_st (z_si μ 134 ((x2 + (14 : Int32)) + x3).toNatClampNeg (μ.1 116 x3.toNatClampNeg)) fun μ25 => (if z_in x3 15 then (if z_in ((x2 + (28 : Int32)) + x3) 300 then (z_st (z_si μ25 134 ((x2 + (28 : Int32)) + x3).toNatClampNeg (μ25.1 117 x3.toNatClampNeg)) fun μ28 => (if z_in x3 15 then (if z_in ((x2 + (42 : Int32)) + x3) 300 then (z_st (z_si μ28 134 ((x2 + (42 : Int32)) + x3).toNatClampNeg (μ28.1 118 x3.toNatClampNeg)) fun μ31 => (if z_in x3 15 then (if z_in ((x2 + (56 : Int32)) + x3) 300 then (z_st (z_si μ31 134 ((x2 + (56 : Int32)) + x3).toNatClampNeg (μ31.1 119 x3.toNatClampNeg)) fun μ34 => (if z_in x3 15 then (if z_in ((x2 + (70 : Int32)) + x3) 300 then (z_st (z_si μ34 134 ((x2 + (70 : Int32)) + x3).toNatClampNeg (if (μ34.1 120 x3.toNatClampNeg) = 0 then (0 : Int32) else (1 : Int32))) fun μ37 => (if z_in x3 15 then (if z_in ((x2 + (84 : Int32)) + x3) 300 then (z_st (z_si μ37 134 ((x2 + (84 : Int32)) + x3).toNatClampNeg (μ37.1 121 x3.toNatClampNeg)) fun μ40 => (if z_in x3 15 then (if z_in ((x2 + (98 : Int32)) + x3) 300 then (z_st (z_si μ40 134 ((x2 + (98 : Int32)) + x3).toNatClampNeg (μ40.1 122 x3.toNatClampNeg)) fun μ43 => (g_X5_keep_88   n (x1) (x2) ((x3 + (1 : Int32))) μ43)) else none) else none)) else none) else none)) else none) else none)) else none) else none)) else none) else none)) else none) else none)) else none) else none))
def g_X5_keep_41   : Nat → Int32 → Int32 → Int32 → z_M → Option (Int32 × z_M)
  | 0, _, _, _, _ => none
  | n + 1, x1, x2, x3, μ => (if (6 : Int32) ≤ x3 then (g_X5_keep_88   z_N (x1) (x2) ((0 : Int32)) μ) else (if z_in x3 7 then (if z_in ((x2 + (2 : Int32)) + x3) 300 then (z_st (z_si μ 134 ((x2 + (2 : Int32)) + x3).toNatClampNeg (μ.1 114 x3.toNatClampNeg)) fun μ46 => (if z_in x3 7 then (if z_in ((x2 + (8 : Int32)) + x3) 300 then (z_st (z_si μ46 134 ((x2 + (8 : Int32)) + x3).toNatClampNeg (μ46.1 115 x3.toNatClampNeg)) fun μ49 => (g_X5_keep_41   n (x1) (x2) ((x3 + (1 : Int32))) μ49)) else none) else none)) else none) else none))
def f_X5_keep (x1 : Int32) (μ : z_M) : Option (Int32 × z_M) :=
  (z_b2 (f_X5_isImage (x1) μ) fun r1 μ2 => (if r1 = 0 then (some ((-1001 : Int32), μ2)) else (z_lt ((150 : Int32) * x1) fun x_8 => (if z_in x_8 300 then (z_st (z_si μ2 134 x_8.toNatClampNeg (μ2.1 98 24)) fun μ10 => (if z_in (x_8 + (1 : Int32)) 300 then (z_st (z_si μ10 134 (x_8 + (1 : Int32)).toNatClampNeg (μ10.1 98 27)) fun μ13 => (g_X5_keep_41   z_N (x1) (x_8) ((0 : Int32)) μ13)) else none)) else none))))
set_option maxHeartbeats 4000000 in
set_option maxRecDepth 100000 in
theorem u_X5_keep_259 {E : z_E} {ρ : Nat → Nat → Option Nat} {r : Int32} {μr : z_M} (F : z_F E RX5 cX5_keep 4 2) (Rt : z_R E (some .int) (fun v μ1 => μ1.2.2 = ρ ∧ ∃ r1, v = some (.int r1) ∧ r = r1 ∧ μr = μ1))  (hk : z_ok (z_sh E.1) ρ) : ∀ (n : Nat) (x1 : Int32) (x2 : Int32) (x3 : Int32) (μ : z_M), μ.2.2 = ρ → g_X5_keep_259   n x1 x2 x3 μ = some (r, μr) → z_J E 4 259 [some (.ref 98), some (.int x1), some (.int x2), some (.int x3)] [] μ := by
  intro n
  induction n with
  | zero =>
    intro x1 x2 x3 μ hρ h
    rw [g_X5_keep_259] at h
    cases h
  | succ n ih =>
    intro x1 x2 x3 μ hρ h
    rw [g_X5_keep_259] at h
    refine j_iload_n F (pc := 259) (q := 3) (by decide +kernel) rfl ?_
    refine j_iconst F (pc := 260) (n := 3) (v := 3) (by decide +kernel) (by decide +kernel) ?_
    refine j_icmp_ge F (pc := 261) (off := 26) (tgt := 287) (by decide +kernel) (by decide) (fun c => ?_) (fun c => ?_)
    · rw [if_pos c] at h
      refine j_aload_n F (pc := 287) (q := 0) (by decide +kernel) rfl ?_
      refine j_getR F (pc := 288) (hk.r hρ r_98_47) fl_X5_123 (hk.s c_98) rfl (by decide +kernel) ?_
      refine j_iload_n F (pc := 291) (q := 1) (by decide +kernel) rfl ?_
      refine j_iconst F (pc := 292) (n := 1) (v := 1) (by decide +kernel) (by decide +kernel) ?_
      obtain ⟨hg, h⟩ := z_ifs h
      refine j_zast F (pc := 293) (hk.s c_135) hg (by decide +kernel) ?_
      obtain ⟨μ16, e18, h⟩ := z_st_some h
      rw [← e18]
      have hρ17 : μ16.2.2 = ρ := by rw [e18]; exact hρ
      refine j_iconst F (pc := 294) (n := 1) (v := 1) (by decide +kernel) (by decide +kernel) ?_
      exact j_iret (st := []) F Rt rfl (by decide +kernel) ⟨hρ17, _, rfl, (congrArg Prod.fst (Option.some.inj h)).symm, (congrArg Prod.snd (Option.some.inj h)).symm⟩
    · rw [if_neg c] at h
      refine j_aload_n F (pc := 264) (q := 0) (by decide +kernel) rfl ?_
      refine j_getR F (pc := 265) (hk.r hρ r_98_46) fl_X5_120 (hk.s c_98) rfl (by decide +kernel) ?_
      refine j_iload_n F (pc := 268) (q := 2) (by decide +kernel) rfl ?_
      refine j_bipush F (pc := 269) (n := 117) (v := 117) (by decide +kernel) (by decide +kernel) ?_
      refine j_iadd F (pc := 271) (by decide +kernel) ?_
      refine j_iload_n F (pc := 272) (q := 3) (by decide +kernel) rfl ?_
      refine j_iadd F (pc := 273) (by decide +kernel) ?_
      refine j_aload_n F (pc := 274) (q := 0) (by decide +kernel) rfl ?_
      refine j_getR F (pc := 275) (hk.r hρ r_98_37) fl_X5_93 (hk.s c_98) rfl (by decide +kernel) ?_
      refine j_iload_n F (pc := 278) (q := 3) (by decide +kernel) rfl ?_
      obtain ⟨hg, h⟩ := z_ifs h
      refine j_iald F (pc := 279) (hk.s c_125) hg (by decide +kernel) ?_
      obtain ⟨hg, h⟩ := z_ifs h
      refine j_iast F (pc := 280) (hk.s c_134) hg (by decide +kernel) ?_
      obtain ⟨μ19, e21, h⟩ := z_st_some h
      rw [← e21]
      have hρ20 : μ19.2.2 = ρ := by rw [e21]; exact hρ
      refine j_iinc F (pc := 281) (i := 3) (n := 1) (v := 1) (L' := [some (.ref 98), some (.int x1), some (.int x2), some (.int (x3 + (1 : Int32)))]) (by decide +kernel) rfl (by decide +kernel) (by decide) rfl rfl ?_
      refine j_goto F (pc := 284) (off := -25) (tgt := 259) (by decide +kernel) (by decide) ?_
      exact ih _ _ _ _ hρ20 h
set_option maxHeartbeats 4000000 in
set_option maxRecDepth 100000 in
theorem u_X5_keep_229 {E : z_E} {ρ : Nat → Nat → Option Nat} {r : Int32} {μr : z_M} (F : z_F E RX5 cX5_keep 4 2) (Rt : z_R E (some .int) (fun v μ1 => μ1.2.2 = ρ ∧ ∃ r1, v = some (.int r1) ∧ r = r1 ∧ μr = μ1))  (hk : z_ok (z_sh E.1) ρ) : ∀ (n : Nat) (x1 : Int32) (x2 : Int32) (x3 : Int32) (μ : z_M), μ.2.2 = ρ → g_X5_keep_229   n x1 x2 x3 μ = some (r, μr) → z_J E 4 229 [some (.ref 98), some (.int x1), some (.int x2), some (.int x3)] [] μ := by
  intro n
  induction n with
  | zero =>
    intro x1 x2 x3 μ hρ h
    rw [g_X5_keep_229] at h
    cases h
  | succ n ih =>
    intro x1 x2 x3 μ hρ h
    rw [g_X5_keep_229] at h
    refine j_iload_n F (pc := 229) (q := 3) (by decide +kernel) rfl ?_
    refine j_iconst F (pc := 230) (n := 5) (v := 5) (by decide +kernel) (by decide +kernel) ?_
    refine j_icmp_ge F (pc := 231) (off := 26) (tgt := 257) (by decide +kernel) (by decide) (fun c => ?_) (fun c => ?_)
    · rw [if_pos c] at h
      refine j_iconst F (pc := 257) (n := 0) (v := 0) (by decide +kernel) (by decide +kernel) ?_
      refine j_istore_n F (pc := 258) (q := 3) (L' := [some (.ref 98), some (.int x1), some (.int x2), some (.int (0 : Int32))]) (by decide +kernel) (by decide) rfl rfl ?_
      refine u_X5_keep_259 F Rt hk  z_N _ _ _ _ hρ h
    · rw [if_neg c] at h
      refine j_aload_n F (pc := 234) (q := 0) (by decide +kernel) rfl ?_
      refine j_getR F (pc := 235) (hk.r hρ r_98_46) fl_X5_120 (hk.s c_98) rfl (by decide +kernel) ?_
      refine j_iload_n F (pc := 238) (q := 2) (by decide +kernel) rfl ?_
      refine j_bipush F (pc := 239) (n := 112) (v := 112) (by decide +kernel) (by decide +kernel) ?_
      refine j_iadd F (pc := 241) (by decide +kernel) ?_
      refine j_iload_n F (pc := 242) (q := 3) (by decide +kernel) rfl ?_
      refine j_iadd F (pc := 243) (by decide +kernel) ?_
      refine j_aload_n F (pc := 244) (q := 0) (by decide +kernel) rfl ?_
      refine j_getR F (pc := 245) (hk.r hρ r_98_36) fl_X5_90 (hk.s c_98) rfl (by decide +kernel) ?_
      refine j_iload_n F (pc := 248) (q := 3) (by decide +kernel) rfl ?_
      obtain ⟨hg, h⟩ := z_ifs h
      refine j_iald F (pc := 249) (hk.s c_124) hg (by decide +kernel) ?_
      obtain ⟨hg, h⟩ := z_ifs h
      refine j_iast F (pc := 250) (hk.s c_134) hg (by decide +kernel) ?_
      obtain ⟨μ22, e24, h⟩ := z_st_some h
      rw [← e24]
      have hρ23 : μ22.2.2 = ρ := by rw [e24]; exact hρ
      refine j_iinc F (pc := 251) (i := 3) (n := 1) (v := 1) (L' := [some (.ref 98), some (.int x1), some (.int x2), some (.int (x3 + (1 : Int32)))]) (by decide +kernel) rfl (by decide +kernel) (by decide) rfl rfl ?_
      refine j_goto F (pc := 254) (off := -25) (tgt := 229) (by decide +kernel) (by decide) ?_
      exact ih _ _ _ _ hρ23 h
set_option maxHeartbeats 4000000 in
set_option maxRecDepth 100000 in
theorem u_X5_keep_88 {E : z_E} {ρ : Nat → Nat → Option Nat} {r : Int32} {μr : z_M} (F : z_F E RX5 cX5_keep 4 2) (Rt : z_R E (some .int) (fun v μ1 => μ1.2.2 = ρ ∧ ∃ r1, v = some (.int r1) ∧ r = r1 ∧ μr = μ1))  (hk : z_ok (z_sh E.1) ρ) : ∀ (n : Nat) (x1 : Int32) (x2 : Int32) (x3 : Int32) (μ : z_M), μ.2.2 = ρ → g_X5_keep_88   n x1 x2 x3 μ = some (r, μr) → z_J E 4 88 [some (.ref 98), some (.int x1), some (.int x2), some (.int x3)] [] μ := by
  intro n
  induction n with
  | zero =>
    intro x1 x2 x3 μ hρ h
    rw [g_X5_keep_88] at h
    cases h
  | succ n ih =>
    intro x1 x2 x3 μ hρ h
    rw [g_X5_keep_88] at h
    refine j_iload_n F (pc := 88) (q := 3) (by decide +kernel) rfl ?_
    refine j_bipush F (pc := 89) (n := 14) (v := 14) (by decide +kernel) (by decide +kernel) ?_
    refine j_icmp_ge F (pc := 91) (off := 136) (tgt := 227) (by decide +kernel) (by decide) (fun c => ?_) (fun c => ?_)
    · rw [if_pos c] at h
      refine j_iconst F (pc := 227) (n := 0) (v := 0) (by decide +kernel) (by decide +kernel) ?_
      refine j_istore_n F (pc := 228) (q := 3) (L' := [some (.ref 98), some (.int x1), some (.int x2), some (.int (0 : Int32))]) (by decide +kernel) (by decide) rfl rfl ?_
      refine u_X5_keep_229 F Rt hk  z_N _ _ _ _ hρ h
    · rw [if_neg c] at h
      refine j_aload_n F (pc := 94) (q := 0) (by decide +kernel) rfl ?_
      refine j_getR F (pc := 95) (hk.r hρ r_98_46) fl_X5_120 (hk.s c_98) rfl (by decide +kernel) ?_
      refine j_iload_n F (pc := 98) (q := 2) (by decide +kernel) rfl ?_
      refine j_bipush F (pc := 99) (n := 14) (v := 14) (by decide +kernel) (by decide +kernel) ?_
      refine j_iadd F (pc := 101) (by decide +kernel) ?_
      refine j_iload_n F (pc := 102) (q := 3) (by decide +kernel) rfl ?_
      refine j_iadd F (pc := 103) (by decide +kernel) ?_
      refine j_aload_n F (pc := 104) (q := 0) (by decide +kernel) rfl ?_
      refine j_getR F (pc := 105) (hk.r hρ r_98_28) fl_X5_66 (hk.s c_98) rfl (by decide +kernel) ?_
      refine j_iload_n F (pc := 108) (q := 3) (by decide +kernel) rfl ?_
      obtain ⟨hg, h⟩ := z_ifs h
      refine j_iald F (pc := 109) (hk.s c_116) hg (by decide +kernel) ?_
      obtain ⟨hg, h⟩ := z_ifs h
      refine j_iast F (pc := 110) (hk.s c_134) hg (by decide +kernel) ?_
      obtain ⟨μ25, e27, h⟩ := z_st_some h
      rw [← e27]
      have hρ26 : μ25.2.2 = ρ := by rw [e27]; exact hρ
      refine j_aload_n F (pc := 111) (q := 0) (by decide +kernel) rfl ?_
      refine j_getR F (pc := 112) (hk.r hρ26 r_98_46) fl_X5_120 (hk.s c_98) rfl (by decide +kernel) ?_
      refine j_iload_n F (pc := 115) (q := 2) (by decide +kernel) rfl ?_
      refine j_bipush F (pc := 116) (n := 28) (v := 28) (by decide +kernel) (by decide +kernel) ?_
      refine j_iadd F (pc := 118) (by decide +kernel) ?_
      refine j_iload_n F (pc := 119) (q := 3) (by decide +kernel) rfl ?_
      refine j_iadd F (pc := 120) (by decide +kernel) ?_
      refine j_aload_n F (pc := 121) (q := 0) (by decide +kernel) rfl ?_
      refine j_getR F (pc := 122) (hk.r hρ26 r_98_29) fl_X5_69 (hk.s c_98) rfl (by decide +kernel) ?_
      refine j_iload_n F (pc := 125) (q := 3) (by decide +kernel) rfl ?_
      obtain ⟨hg, h⟩ := z_ifs h
      refine j_iald F (pc := 126) (hk.s c_117) hg (by decide +kernel) ?_
      obtain ⟨hg, h⟩ := z_ifs h
      refine j_iast F (pc := 127) (hk.s c_134) hg (by decide +kernel) ?_
      obtain ⟨μ28, e30, h⟩ := z_st_some h
      rw [← e30]
      have hρ29 : μ28.2.2 = ρ := by rw [e30]; exact hρ26
      refine j_aload_n F (pc := 128) (q := 0) (by decide +kernel) rfl ?_
      refine j_getR F (pc := 129) (hk.r hρ29 r_98_46) fl_X5_120 (hk.s c_98) rfl (by decide +kernel) ?_
      refine j_iload_n F (pc := 132) (q := 2) (by decide +kernel) rfl ?_
      refine j_bipush F (pc := 133) (n := 42) (v := 42) (by decide +kernel) (by decide +kernel) ?_
      refine j_iadd F (pc := 135) (by decide +kernel) ?_
      refine j_iload_n F (pc := 136) (q := 3) (by decide +kernel) rfl ?_
      refine j_iadd F (pc := 137) (by decide +kernel) ?_
      refine j_aload_n F (pc := 138) (q := 0) (by decide +kernel) rfl ?_
      refine j_getR F (pc := 139) (hk.r hρ29 r_98_30) fl_X5_72 (hk.s c_98) rfl (by decide +kernel) ?_
      refine j_iload_n F (pc := 142) (q := 3) (by decide +kernel) rfl ?_
      obtain ⟨hg, h⟩ := z_ifs h
      refine j_iald F (pc := 143) (hk.s c_118) hg (by decide +kernel) ?_
      obtain ⟨hg, h⟩ := z_ifs h
      refine j_iast F (pc := 144) (hk.s c_134) hg (by decide +kernel) ?_
      obtain ⟨μ31, e33, h⟩ := z_st_some h
      rw [← e33]
      have hρ32 : μ31.2.2 = ρ := by rw [e33]; exact hρ29
      refine j_aload_n F (pc := 145) (q := 0) (by decide +kernel) rfl ?_
      refine j_getR F (pc := 146) (hk.r hρ32 r_98_46) fl_X5_120 (hk.s c_98) rfl (by decide +kernel) ?_
      refine j_iload_n F (pc := 149) (q := 2) (by decide +kernel) rfl ?_
      refine j_bipush F (pc := 150) (n := 56) (v := 56) (by decide +kernel) (by decide +kernel) ?_
      refine j_iadd F (pc := 152) (by decide +kernel) ?_
      refine j_iload_n F (pc := 153) (q := 3) (by decide +kernel) rfl ?_
      refine j_iadd F (pc := 154) (by decide +kernel) ?_
      refine j_aload_n F (pc := 155) (q := 0) (by decide +kernel) rfl ?_
      refine j_getR F (pc := 156) (hk.r hρ32 r_98_31) fl_X5_75 (hk.s c_98) rfl (by decide +kernel) ?_
      refine j_iload_n F (pc := 159) (q := 3) (by decide +kernel) rfl ?_
      obtain ⟨hg, h⟩ := z_ifs h
      refine j_iald F (pc := 160) (hk.s c_119) hg (by decide +kernel) ?_
      obtain ⟨hg, h⟩ := z_ifs h
      refine j_iast F (pc := 161) (hk.s c_134) hg (by decide +kernel) ?_
      obtain ⟨μ34, e36, h⟩ := z_st_some h
      rw [← e36]
      have hρ35 : μ34.2.2 = ρ := by rw [e36]; exact hρ32
      refine j_aload_n F (pc := 162) (q := 0) (by decide +kernel) rfl ?_
      refine j_getR F (pc := 163) (hk.r hρ35 r_98_46) fl_X5_120 (hk.s c_98) rfl (by decide +kernel) ?_
      refine j_iload_n F (pc := 166) (q := 2) (by decide +kernel) rfl ?_
      refine j_bipush F (pc := 167) (n := 70) (v := 70) (by decide +kernel) (by decide +kernel) ?_
      refine j_iadd F (pc := 169) (by decide +kernel) ?_
      refine j_iload_n F (pc := 170) (q := 3) (by decide +kernel) rfl ?_
      refine j_iadd F (pc := 171) (by decide +kernel) ?_
      refine j_aload_n F (pc := 172) (q := 0) (by decide +kernel) rfl ?_
      refine j_getR F (pc := 173) (hk.r hρ35 r_98_32) fl_X5_78 (hk.s c_98) rfl (by decide +kernel) ?_
      refine j_iload_n F (pc := 176) (q := 3) (by decide +kernel) rfl ?_
      obtain ⟨hg, h⟩ := z_ifs h
      refine j_zald F (pc := 177) (hk.s c_120) hg (by decide +kernel) ?_
      suffices hj : z_J E 4 186 [some (.ref 98), some (.int x1), some (.int x2), some (.int x3)] (.int (if (μ34.1 120 x3.toNatClampNeg) = 0 then (0 : Int32) else (1 : Int32)) :: [.int ((x2 + (70 : Int32)) + x3), .ref 134]) μ34 by
        refine j_if_eq F (pc := 178) (off := 7) (tgt := 185) (by decide +kernel) (by decide) (fun c0 => ?_) (fun c0 => ?_)
        · rw [if_pos c0] at hj
          refine j_iconst F (pc := 185) (n := 0) (v := 0) (by decide +kernel) (by decide +kernel) ?_
          exact hj
        · rw [if_neg c0] at hj
          refine j_iconst F (pc := 181) (n := 1) (v := 1) (by decide +kernel) (by decide +kernel) ?_
          refine j_goto F (pc := 182) (off := 4) (tgt := 186) (by decide +kernel) (by decide) ?_
          exact hj
      obtain ⟨hg, h⟩ := z_ifs h
      refine j_iast F (pc := 186) (hk.s c_134) hg (by decide +kernel) ?_
      obtain ⟨μ37, e39, h⟩ := z_st_some h
      rw [← e39]
      have hρ38 : μ37.2.2 = ρ := by rw [e39]; exact hρ35
      refine j_aload_n F (pc := 187) (q := 0) (by decide +kernel) rfl ?_
      refine j_getR F (pc := 188) (hk.r hρ38 r_98_46) fl_X5_120 (hk.s c_98) rfl (by decide +kernel) ?_
      refine j_iload_n F (pc := 191) (q := 2) (by decide +kernel) rfl ?_
      refine j_bipush F (pc := 192) (n := 84) (v := 84) (by decide +kernel) (by decide +kernel) ?_
      refine j_iadd F (pc := 194) (by decide +kernel) ?_
      refine j_iload_n F (pc := 195) (q := 3) (by decide +kernel) rfl ?_
      refine j_iadd F (pc := 196) (by decide +kernel) ?_
      refine j_aload_n F (pc := 197) (q := 0) (by decide +kernel) rfl ?_
      refine j_getR F (pc := 198) (hk.r hρ38 r_98_33) fl_X5_81 (hk.s c_98) rfl (by decide +kernel) ?_
      refine j_iload_n F (pc := 201) (q := 3) (by decide +kernel) rfl ?_
      obtain ⟨hg, h⟩ := z_ifs h
      refine j_iald F (pc := 202) (hk.s c_121) hg (by decide +kernel) ?_
      obtain ⟨hg, h⟩ := z_ifs h
      refine j_iast F (pc := 203) (hk.s c_134) hg (by decide +kernel) ?_
      obtain ⟨μ40, e42, h⟩ := z_st_some h
      rw [← e42]
      have hρ41 : μ40.2.2 = ρ := by rw [e42]; exact hρ38
      refine j_aload_n F (pc := 204) (q := 0) (by decide +kernel) rfl ?_
      refine j_getR F (pc := 205) (hk.r hρ41 r_98_46) fl_X5_120 (hk.s c_98) rfl (by decide +kernel) ?_
      refine j_iload_n F (pc := 208) (q := 2) (by decide +kernel) rfl ?_
      refine j_bipush F (pc := 209) (n := 98) (v := 98) (by decide +kernel) (by decide +kernel) ?_
      refine j_iadd F (pc := 211) (by decide +kernel) ?_
      refine j_iload_n F (pc := 212) (q := 3) (by decide +kernel) rfl ?_
      refine j_iadd F (pc := 213) (by decide +kernel) ?_
      refine j_aload_n F (pc := 214) (q := 0) (by decide +kernel) rfl ?_
      refine j_getR F (pc := 215) (hk.r hρ41 r_98_34) fl_X5_84 (hk.s c_98) rfl (by decide +kernel) ?_
      refine j_iload_n F (pc := 218) (q := 3) (by decide +kernel) rfl ?_
      obtain ⟨hg, h⟩ := z_ifs h
      refine j_iald F (pc := 219) (hk.s c_122) hg (by decide +kernel) ?_
      obtain ⟨hg, h⟩ := z_ifs h
      refine j_iast F (pc := 220) (hk.s c_134) hg (by decide +kernel) ?_
      obtain ⟨μ43, e45, h⟩ := z_st_some h
      rw [← e45]
      have hρ44 : μ43.2.2 = ρ := by rw [e45]; exact hρ41
      refine j_iinc F (pc := 221) (i := 3) (n := 1) (v := 1) (L' := [some (.ref 98), some (.int x1), some (.int x2), some (.int (x3 + (1 : Int32)))]) (by decide +kernel) rfl (by decide +kernel) (by decide) rfl rfl ?_
      refine j_goto F (pc := 224) (off := -136) (tgt := 88) (by decide +kernel) (by decide) ?_
      exact ih _ _ _ _ hρ44 h
set_option maxHeartbeats 4000000 in
set_option maxRecDepth 100000 in
theorem u_X5_keep_41 {E : z_E} {ρ : Nat → Nat → Option Nat} {r : Int32} {μr : z_M} (F : z_F E RX5 cX5_keep 4 2) (Rt : z_R E (some .int) (fun v μ1 => μ1.2.2 = ρ ∧ ∃ r1, v = some (.int r1) ∧ r = r1 ∧ μr = μ1))  (hk : z_ok (z_sh E.1) ρ) : ∀ (n : Nat) (x1 : Int32) (x2 : Int32) (x3 : Int32) (μ : z_M), μ.2.2 = ρ → g_X5_keep_41   n x1 x2 x3 μ = some (r, μr) → z_J E 4 41 [some (.ref 98), some (.int x1), some (.int x2), some (.int x3)] [] μ := by
  intro n
  induction n with
  | zero =>
    intro x1 x2 x3 μ hρ h
    rw [g_X5_keep_41] at h
    cases h
  | succ n ih =>
    intro x1 x2 x3 μ hρ h
    rw [g_X5_keep_41] at h
    refine j_iload_n F (pc := 41) (q := 3) (by decide +kernel) rfl ?_
    refine j_bipush F (pc := 42) (n := 6) (v := 6) (by decide +kernel) (by decide +kernel) ?_
    refine j_icmp_ge F (pc := 44) (off := 42) (tgt := 86) (by decide +kernel) (by decide) (fun c => ?_) (fun c => ?_)
    · rw [if_pos c] at h
      refine j_iconst F (pc := 86) (n := 0) (v := 0) (by decide +kernel) (by decide +kernel) ?_
      refine j_istore_n F (pc := 87) (q := 3) (L' := [some (.ref 98), some (.int x1), some (.int x2), some (.int (0 : Int32))]) (by decide +kernel) (by decide) rfl rfl ?_
      refine u_X5_keep_88 F Rt hk  z_N _ _ _ _ hρ h
    · rw [if_neg c] at h
      refine j_aload_n F (pc := 47) (q := 0) (by decide +kernel) rfl ?_
      refine j_getR F (pc := 48) (hk.r hρ r_98_46) fl_X5_120 (hk.s c_98) rfl (by decide +kernel) ?_
      refine j_iload_n F (pc := 51) (q := 2) (by decide +kernel) rfl ?_
      refine j_iconst F (pc := 52) (n := 2) (v := 2) (by decide +kernel) (by decide +kernel) ?_
      refine j_iadd F (pc := 53) (by decide +kernel) ?_
      refine j_iload_n F (pc := 54) (q := 3) (by decide +kernel) rfl ?_
      refine j_iadd F (pc := 55) (by decide +kernel) ?_
      refine j_aload_n F (pc := 56) (q := 0) (by decide +kernel) rfl ?_
      refine j_getR F (pc := 57) (hk.r hρ r_98_25) fl_X5_60 (hk.s c_98) rfl (by decide +kernel) ?_
      refine j_iload_n F (pc := 60) (q := 3) (by decide +kernel) rfl ?_
      obtain ⟨hg, h⟩ := z_ifs h
      refine j_iald F (pc := 61) (hk.s c_114) hg (by decide +kernel) ?_
      obtain ⟨hg, h⟩ := z_ifs h
      refine j_iast F (pc := 62) (hk.s c_134) hg (by decide +kernel) ?_
      obtain ⟨μ46, e48, h⟩ := z_st_some h
      rw [← e48]
      have hρ47 : μ46.2.2 = ρ := by rw [e48]; exact hρ
      refine j_aload_n F (pc := 63) (q := 0) (by decide +kernel) rfl ?_
      refine j_getR F (pc := 64) (hk.r hρ47 r_98_46) fl_X5_120 (hk.s c_98) rfl (by decide +kernel) ?_
      refine j_iload_n F (pc := 67) (q := 2) (by decide +kernel) rfl ?_
      refine j_bipush F (pc := 68) (n := 8) (v := 8) (by decide +kernel) (by decide +kernel) ?_
      refine j_iadd F (pc := 70) (by decide +kernel) ?_
      refine j_iload_n F (pc := 71) (q := 3) (by decide +kernel) rfl ?_
      refine j_iadd F (pc := 72) (by decide +kernel) ?_
      refine j_aload_n F (pc := 73) (q := 0) (by decide +kernel) rfl ?_
      refine j_getR F (pc := 74) (hk.r hρ47 r_98_26) fl_X5_63 (hk.s c_98) rfl (by decide +kernel) ?_
      refine j_iload_n F (pc := 77) (q := 3) (by decide +kernel) rfl ?_
      obtain ⟨hg, h⟩ := z_ifs h
      refine j_iald F (pc := 78) (hk.s c_115) hg (by decide +kernel) ?_
      obtain ⟨hg, h⟩ := z_ifs h
      refine j_iast F (pc := 79) (hk.s c_134) hg (by decide +kernel) ?_
      obtain ⟨μ49, e51, h⟩ := z_st_some h
      rw [← e51]
      have hρ50 : μ49.2.2 = ρ := by rw [e51]; exact hρ47
      refine j_iinc F (pc := 80) (i := 3) (n := 1) (v := 1) (L' := [some (.ref 98), some (.int x1), some (.int x2), some (.int (x3 + (1 : Int32)))]) (by decide +kernel) rfl (by decide +kernel) (by decide) rfl rfl ?_
      refine j_goto F (pc := 83) (off := -42) (tgt := 41) (by decide +kernel) (by decide) ?_
      exact ih _ _ _ _ hρ50 h
set_option maxHeartbeats 4000000 in
set_option maxRecDepth 100000 in
theorem t_X5_keep {G : z_Gl} {ρ : Nat → Nat → Option Nat} {μ : z_M} {r : Int32} {μr : z_M} {x1 : Int32} (hρ : μ.2.2 = ρ) (hk : z_ok (z_sh G) ρ) (h : f_X5_keep x1 μ = some (r, μr)) : z_Ci G yX5_keep cX5_keep 4 (some .int) 2 [.ref 98, .int x1] μ (fun r1 μ1 => r = r1 ∧ μr = μ1) := by
  unfold z_Ci
  refine z_intro (by decide +kernel) (Nat.le_of_ble_eq_true rfl) (fun E hE F Rt => ?_)
  subst hE
  have F : z_F E RX5 cX5_keep 4 2 := F
  rw [hρ] at Rt
  unfold f_X5_keep at h
  show z_J E 4 0 [some (.ref 98), some (.int x1), none, none] [] μ
  refine j_iload_n F (pc := 0) (q := 1) (by decide +kernel) rfl ?_
  obtain ⟨r1, μ2, hc4, h⟩ := z_b2_some h
  refine j_callSi F (pc := 1) (idx := 354) (As := [.int x1]) (st := []) (t_X5_isImage (G := E.1) hρ  hc4) q_X5_isImage m_1339 m_1338 rfl (by decide) (Nat.le_of_ble_eq_true rfl) rfl (by decide +kernel) (fun s7 ν5 hq6 hp => ?_)
  obtain ⟨rfl, rfl⟩ := hp
  have hρ3 : μ2.2.2 = ρ := hq6.trans hρ
  refine j_if_ne F (pc := 4) (off := 7) (tgt := 11) (by decide +kernel) (by decide) (fun c => ?_) (fun c => ?_)
  · rw [if_neg c] at h
    refine j_sipush F (pc := 11) (n := 150) (v := 150) (by decide +kernel) (by decide +kernel) ?_
    refine j_iload_n F (pc := 14) (q := 1) (by decide +kernel) rfl ?_
    refine j_imul F (pc := 15) (by decide +kernel) ?_
    obtain ⟨x_8, e9, h⟩ := z_lt_some h
    rw [← e9]
    refine j_istore_n F (pc := 16) (q := 2) (L' := [some (.ref 98), some (.int x1), some (.int x_8), none]) (by decide +kernel) (by decide) rfl rfl ?_
    refine j_aload_n F (pc := 17) (q := 0) (by decide +kernel) rfl ?_
    refine j_getR F (pc := 18) (hk.r hρ3 r_98_46) fl_X5_120 (hk.s c_98) rfl (by decide +kernel) ?_
    refine j_iload_n F (pc := 21) (q := 2) (by decide +kernel) rfl ?_
    refine j_aload_n F (pc := 22) (q := 0) (by decide +kernel) rfl ?_
    refine j_getI F (pc := 23) fl_X5_274 (hk.s c_98) rfl (by decide +kernel) ?_
    obtain ⟨hg, h⟩ := z_ifs h
    refine j_iast F (pc := 26) (hk.s c_134) hg (by decide +kernel) ?_
    obtain ⟨μ10, e12, h⟩ := z_st_some h
    rw [← e12]
    have hρ11 : μ10.2.2 = ρ := by rw [e12]; exact hρ3
    refine j_aload_n F (pc := 27) (q := 0) (by decide +kernel) rfl ?_
    refine j_getR F (pc := 28) (hk.r hρ11 r_98_46) fl_X5_120 (hk.s c_98) rfl (by decide +kernel) ?_
    refine j_iload_n F (pc := 31) (q := 2) (by decide +kernel) rfl ?_
    refine j_iconst F (pc := 32) (n := 1) (v := 1) (by decide +kernel) (by decide +kernel) ?_
    refine j_iadd F (pc := 33) (by decide +kernel) ?_
    refine j_aload_n F (pc := 34) (q := 0) (by decide +kernel) rfl ?_
    refine j_getI F (pc := 35) fl_X5_268 (hk.s c_98) rfl (by decide +kernel) ?_
    obtain ⟨hg, h⟩ := z_ifs h
    refine j_iast F (pc := 38) (hk.s c_134) hg (by decide +kernel) ?_
    obtain ⟨μ13, e15, h⟩ := z_st_some h
    rw [← e15]
    have hρ14 : μ13.2.2 = ρ := by rw [e15]; exact hρ11
    refine j_iconst F (pc := 39) (n := 0) (v := 0) (by decide +kernel) (by decide +kernel) ?_
    refine j_istore_n F (pc := 40) (q := 3) (L' := [some (.ref 98), some (.int x1), some (.int x_8), some (.int (0 : Int32))]) (by decide +kernel) (by decide) rfl rfl ?_
    refine u_X5_keep_41 F Rt hk  z_N _ _ _ _ hρ14 h
  · rw [if_pos c] at h
    refine j_sipush F (pc := 7) (n := -1001) (v := -1001) (by decide +kernel) (by decide +kernel) ?_
    exact j_iret (st := []) F Rt rfl (by decide +kernel) ⟨hρ3, _, rfl, (congrArg Prod.fst (Option.some.inj h)).symm, (congrArg Prod.snd (Option.some.inj h)).symm⟩
