/-! functions and contracts, written by wip/whole/dec.py -/
def g_X5_keepLaw_174  (k_165 : Int32 → Int32 → Int32 → z_M → Option z_M) : Nat → Int32 → Int32 → Int32 → Int32 → z_M → Option z_M
  | 0, _, _, _, _, _ => none
  | n + 1, x1, x2, x3, x4, μ => (if (8 : Int32) ≤ x4 then (k_165 (x1) (x2) ((x3 + (1 : Int32))) μ) else (if z_in ((((64 : Int32) * x1) + ((8 : Int32) * x3)) + x2) 256 then (if (¬ ((μ.1 103 ((((64 : Int32) * x1) + ((8 : Int32) * x3)) + x2).toNatClampNeg) = 0) → z_in ((((64 : Int32) * x1) + ((8 : Int32) * x2)) + x4) 256) then (z_lt (if (μ.1 103 ((((64 : Int32) * x1) + ((8 : Int32) * x3)) + x2).toNatClampNeg) = 0 then (0 : Int32) else (if (μ.1 103 ((((64 : Int32) * x1) + ((8 : Int32) * x2)) + x4).toNatClampNeg) = 0 then (0 : Int32) else (1 : Int32))) fun x_7 => (if z_in ((((64 : Int32) * x1) + ((8 : Int32) * x3)) + x4) 256 then (if z_in ((((64 : Int32) * x1) + ((8 : Int32) * x3)) + x4) 256 then (z_st (z_si μ 103 ((((64 : Int32) * x1) + ((8 : Int32) * x3)) + x4).toNatClampNeg ((if (μ.1 103 ((((64 : Int32) * x1) + ((8 : Int32) * x3)) + x4).toNatClampNeg) = 0 then (if x_7 = 0 then (0 : Int32) else (1 : Int32)) else (1 : Int32)) &&& 1)) fun μ9 => (g_X5_keepLaw_174  k_165 n (x1) (x2) (x3) ((x4 + (1 : Int32))) μ9)) else none) else none)) else none) else none))
def g_X5_keepLaw_165  (k_157 : Int32 → Int32 → z_M → Option z_M) : Nat → Int32 → Int32 → Int32 → z_M → Option z_M
  | 0, _, _, _, _ => none
  | n + 1, x1, x2, x3, μ => (if (8 : Int32) ≤ x3 then (k_157 (x1) ((x2 + (1 : Int32))) μ) else (g_X5_keepLaw_174  (fun (y14 : Int32) (y15 : Int32) (y16 : Int32) (μ12 : z_M) => (g_X5_keepLaw_165  k_157 n (y14) (y15) (y16) μ12)) z_N (x1) (x2) (x3) ((0 : Int32)) μ))
def g_X5_keepLaw_157   : Nat → Int32 → Int32 → z_M → Option z_M
  | 0, _, _, _ => none
  | n + 1, x1, x2, μ => (if (8 : Int32) ≤ x2 then (z_b1 (f_X5_findRanks (x1) μ) fun μ2 => (some μ2)) else (g_X5_keepLaw_165  (fun (y19 : Int32) (y20 : Int32) (μ17 : z_M) => (g_X5_keepLaw_157   n (y19) (y20) μ17)) z_N (x1) (x2) ((0 : Int32)) μ))
def g_X5_keepLaw_128   : Nat → Int32 → Int32 → z_M → Option z_M
  | 0, _, _, _ => none
  | n + 1, x1, x2, μ => (if (5 : Int32) ≤ x2 then (g_X5_keepLaw_157   z_N (x1) ((0 : Int32)) μ) else (if z_in x2 5 then (if z_in (((5 : Int32) * x1) + x2) 20 then (z_st (z_si μ 104 (((5 : Int32) * x1) + x2).toNatClampNeg (μ.1 110 x2.toNatClampNeg)) fun μ21 => (g_X5_keepLaw_128   n (x1) ((x2 + (1 : Int32))) μ21)) else none) else none))
def g_X5_keepLaw_97   : Nat → Int32 → Int32 → z_M → Option z_M
  | 0, _, _, _ => none
  | n + 1, x1, x2, μ => (if (64 : Int32) ≤ x2 then (g_X5_keepLaw_128   z_N (x1) ((0 : Int32)) μ) else (if z_in x2 64 then (if z_in (((64 : Int32) * x1) + x2) 256 then (z_st (z_si μ 103 (((64 : Int32) * x1) + x2).toNatClampNeg ((μ.1 109 x2.toNatClampNeg) &&& 1)) fun μ24 => (g_X5_keepLaw_97   n (x1) ((x2 + (1 : Int32))) μ24)) else none) else none))
def g_X5_keepLaw_2   : Nat → Int32 → Int32 → z_M → Option z_M
  | 0, _, _, _ => none
  | n + 1, x1, x2, μ => (if (8 : Int32) ≤ x2 then (g_X5_keepLaw_97   z_N (x1) ((0 : Int32)) μ) else (if z_in x2 8 then (if (¬ ((μ.1 105 x2.toNatClampNeg) = 0) → z_in x2 8) then (if z_in (((8 : Int32) * x1) + x2) 32 then (z_st (z_si μ 99 (((8 : Int32) * x1) + x2).toNatClampNeg (if (μ.1 105 x2.toNatClampNeg) = 0 then (1 : Int32) else (μ.1 105 x2.toNatClampNeg))) fun μ27 => (if z_in x2 8 then (if z_in (((8 : Int32) * x1) + x2) 32 then (z_st (z_si μ27 100 (((8 : Int32) * x1) + x2).toNatClampNeg (μ27.1 106 x2.toNatClampNeg)) fun μ30 => (if z_in x2 8 then (if z_in (((8 : Int32) * x1) + x2) 32 then (z_st (z_si μ30 101 (((8 : Int32) * x1) + x2).toNatClampNeg (μ30.1 107 x2.toNatClampNeg)) fun μ33 => (if z_in x2 8 then (if z_in (((8 : Int32) * x1) + x2) 32 then (z_st (z_si μ33 102 (((8 : Int32) * x1) + x2).toNatClampNeg ((μ33.1 108 x2.toNatClampNeg) &&& 1)) fun μ36 => (g_X5_keepLaw_2   n (x1) ((x2 + (1 : Int32))) μ36)) else none) else none)) else none) else none)) else none) else none)) else none) else none) else none))
def f_X5_keepLaw (x1 : Int32) (μ : z_M) : Option z_M :=
  (g_X5_keepLaw_2   z_N (x1) ((0 : Int32)) μ)
set_option maxHeartbeats 4000000 in
set_option maxRecDepth 100000 in
theorem u_X5_keepLaw_174 {E : z_E} {ρ : Nat → Nat → Option Nat} {μr : z_M} (F : z_F E RX5 cX5_keepLaw 6 3) (Rt : z_R E none (fun v μ1 => μ1.2.2 = ρ ∧ v = none ∧ μr = μ1))  (hk : z_ok (z_sh E.1) ρ) {k_165 : Int32 → Int32 → Int32 → z_M → Option z_M} (hc_165 : ∀ (y1 : Int32) (y2 : Int32) (y3 : Int32) (μ1 : z_M), μ1.2.2 = ρ → k_165 y1 y2 y3 μ1 = some μr → z_J E 6 165 [some (.ref 98), some (.int y1), some (.int y2), some (.int y3), none, none] [] μ1) : ∀ (n : Nat) (x1 : Int32) (x2 : Int32) (x3 : Int32) (x4 : Int32) (μ : z_M), μ.2.2 = ρ → g_X5_keepLaw_174  k_165 n x1 x2 x3 x4 μ = some μr → z_J E 6 174 [some (.ref 98), some (.int x1), some (.int x2), some (.int x3), some (.int x4), none] [] μ := by
  intro n
  induction n with
  | zero =>
    intro x1 x2 x3 x4 μ hρ h
    rw [g_X5_keepLaw_174] at h
    cases h
  | succ n ih =>
    intro x1 x2 x3 x4 μ hρ h
    rw [g_X5_keepLaw_174] at h
    refine j_iload F (pc := 174) (i := 4) (by decide +kernel) rfl ?_
    refine j_bipush F (pc := 176) (n := 8) (v := 8) (by decide +kernel) (by decide +kernel) ?_
    refine j_icmp_ge F (pc := 178) (off := 102) (tgt := 280) (by decide +kernel) (by decide) (fun c => ?_) (fun c => ?_)
    · rw [if_pos c] at h
      refine j_iinc F (pc := 280) (i := 3) (n := 1) (v := 1) (L' := [some (.ref 98), some (.int x1), some (.int x2), some (.int (x3 + (1 : Int32))), some (.int x4), none]) (by decide +kernel) rfl (by decide +kernel) (by decide) rfl rfl ?_
      refine j_goto F (pc := 283) (off := -118) (tgt := 165) (by decide +kernel) (by decide) ?_
      refine j_mk F [true, true, true, true, false, false] (L' := [some (.ref 98), some (.int x1), some (.int x2), some (.int (x3 + (1 : Int32))), none, none]) rfl ?_
      exact hc_165 _ _ _ _ hρ h
    · rw [if_neg c] at h
      refine j_aload_n F (pc := 181) (q := 0) (by decide +kernel) rfl ?_
      refine j_getR F (pc := 182) (hk.r hρ r_98_4) fl_X5_23 (hk.s c_98) rfl (by decide +kernel) ?_
      refine j_bipush F (pc := 185) (n := 64) (v := 64) (by decide +kernel) (by decide +kernel) ?_
      refine j_iload_n F (pc := 187) (q := 1) (by decide +kernel) rfl ?_
      refine j_imul F (pc := 188) (by decide +kernel) ?_
      refine j_bipush F (pc := 189) (n := 8) (v := 8) (by decide +kernel) (by decide +kernel) ?_
      refine j_iload_n F (pc := 191) (q := 3) (by decide +kernel) rfl ?_
      refine j_imul F (pc := 192) (by decide +kernel) ?_
      refine j_iadd F (pc := 193) (by decide +kernel) ?_
      refine j_iload_n F (pc := 194) (q := 2) (by decide +kernel) rfl ?_
      refine j_iadd F (pc := 195) (by decide +kernel) ?_
      obtain ⟨hg, h⟩ := z_ifs h
      refine j_zald F (pc := 196) (hk.s c_103) hg (by decide +kernel) ?_
      obtain ⟨hg, h⟩ := z_ifs h
      suffices hj : z_J E 6 225 [some (.ref 98), some (.int x1), some (.int x2), some (.int x3), some (.int x4), none] (.int (if (μ.1 103 ((((64 : Int32) * x1) + ((8 : Int32) * x3)) + x2).toNatClampNeg) = 0 then (0 : Int32) else (if (μ.1 103 ((((64 : Int32) * x1) + ((8 : Int32) * x2)) + x4).toNatClampNeg) = 0 then (0 : Int32) else (1 : Int32))) :: []) μ by
        refine j_if_eq F (pc := 197) (off := 27) (tgt := 224) (by decide +kernel) (by decide) (fun c0 => ?_) (fun c0 => ?_)
        · rw [if_pos c0] at hj
          refine j_iconst F (pc := 224) (n := 0) (v := 0) (by decide +kernel) (by decide +kernel) ?_
          exact hj
        · rw [if_neg c0] at hj
          refine j_aload_n F (pc := 200) (q := 0) (by decide +kernel) rfl ?_
          refine j_getR F (pc := 201) (hk.r hρ r_98_4) fl_X5_23 (hk.s c_98) rfl (by decide +kernel) ?_
          refine j_bipush F (pc := 204) (n := 64) (v := 64) (by decide +kernel) (by decide +kernel) ?_
          refine j_iload_n F (pc := 206) (q := 1) (by decide +kernel) rfl ?_
          refine j_imul F (pc := 207) (by decide +kernel) ?_
          refine j_bipush F (pc := 208) (n := 8) (v := 8) (by decide +kernel) (by decide +kernel) ?_
          refine j_iload_n F (pc := 210) (q := 2) (by decide +kernel) rfl ?_
          refine j_imul F (pc := 211) (by decide +kernel) ?_
          refine j_iadd F (pc := 212) (by decide +kernel) ?_
          refine j_iload F (pc := 213) (i := 4) (by decide +kernel) rfl ?_
          refine j_iadd F (pc := 215) (by decide +kernel) ?_
          refine j_zald F (pc := 216) (hk.s c_103) (hg c0) (by decide +kernel) ?_
          refine j_if_eq F (pc := 217) (off := 7) (tgt := 224) (by decide +kernel) (by decide) (fun c1 => ?_) (fun c1 => ?_)
          · rw [if_pos c1] at hj
            refine j_iconst F (pc := 224) (n := 0) (v := 0) (by decide +kernel) (by decide +kernel) ?_
            exact hj
          · rw [if_neg c1] at hj
            refine j_iconst F (pc := 220) (n := 1) (v := 1) (by decide +kernel) (by decide +kernel) ?_
            refine j_goto F (pc := 221) (off := 4) (tgt := 225) (by decide +kernel) (by decide) ?_
            exact hj
      obtain ⟨x_7, e8, h⟩ := z_lt_some h
      rw [← e8]
      refine j_istore F (pc := 225) (i := 5) (L' := [some (.ref 98), some (.int x1), some (.int x2), some (.int x3), some (.int x4), some (.int x_7)]) (by decide +kernel) (by decide) rfl rfl ?_
      refine j_aload_n F (pc := 227) (q := 0) (by decide +kernel) rfl ?_
      refine j_getR F (pc := 228) (hk.r hρ r_98_4) fl_X5_23 (hk.s c_98) rfl (by decide +kernel) ?_
      refine j_bipush F (pc := 231) (n := 64) (v := 64) (by decide +kernel) (by decide +kernel) ?_
      refine j_iload_n F (pc := 233) (q := 1) (by decide +kernel) rfl ?_
      refine j_imul F (pc := 234) (by decide +kernel) ?_
      refine j_bipush F (pc := 235) (n := 8) (v := 8) (by decide +kernel) (by decide +kernel) ?_
      refine j_iload_n F (pc := 237) (q := 3) (by decide +kernel) rfl ?_
      refine j_imul F (pc := 238) (by decide +kernel) ?_
      refine j_iadd F (pc := 239) (by decide +kernel) ?_
      refine j_iload F (pc := 240) (i := 4) (by decide +kernel) rfl ?_
      refine j_iadd F (pc := 242) (by decide +kernel) ?_
      refine j_aload_n F (pc := 243) (q := 0) (by decide +kernel) rfl ?_
      refine j_getR F (pc := 244) (hk.r hρ r_98_4) fl_X5_23 (hk.s c_98) rfl (by decide +kernel) ?_
      refine j_bipush F (pc := 247) (n := 64) (v := 64) (by decide +kernel) (by decide +kernel) ?_
      refine j_iload_n F (pc := 249) (q := 1) (by decide +kernel) rfl ?_
      refine j_imul F (pc := 250) (by decide +kernel) ?_
      refine j_bipush F (pc := 251) (n := 8) (v := 8) (by decide +kernel) (by decide +kernel) ?_
      refine j_iload_n F (pc := 253) (q := 3) (by decide +kernel) rfl ?_
      refine j_imul F (pc := 254) (by decide +kernel) ?_
      refine j_iadd F (pc := 255) (by decide +kernel) ?_
      refine j_iload F (pc := 256) (i := 4) (by decide +kernel) rfl ?_
      refine j_iadd F (pc := 258) (by decide +kernel) ?_
      obtain ⟨hg, h⟩ := z_ifs h
      refine j_zald F (pc := 259) (hk.s c_103) hg (by decide +kernel) ?_
      suffices hj : z_J E 6 273 [some (.ref 98), some (.int x1), some (.int x2), some (.int x3), some (.int x4), some (.int x_7)] (.int (if (μ.1 103 ((((64 : Int32) * x1) + ((8 : Int32) * x3)) + x4).toNatClampNeg) = 0 then (if x_7 = 0 then (0 : Int32) else (1 : Int32)) else (1 : Int32)) :: [.int ((((64 : Int32) * x1) + ((8 : Int32) * x3)) + x4), .ref 103]) μ by
        refine j_if_ne F (pc := 260) (off := 8) (tgt := 268) (by decide +kernel) (by decide) (fun c0 => ?_) (fun c0 => ?_)
        · rw [if_neg c0] at hj
          refine j_iconst F (pc := 268) (n := 1) (v := 1) (by decide +kernel) (by decide +kernel) ?_
          refine j_goto F (pc := 269) (off := 4) (tgt := 273) (by decide +kernel) (by decide) ?_
          exact hj
        · rw [if_pos c0] at hj
          refine j_iload F (pc := 263) (i := 5) (by decide +kernel) rfl ?_
          refine j_if_eq F (pc := 265) (off := 7) (tgt := 272) (by decide +kernel) (by decide) (fun c1 => ?_) (fun c1 => ?_)
          · rw [if_pos c1] at hj
            refine j_iconst F (pc := 272) (n := 0) (v := 0) (by decide +kernel) (by decide +kernel) ?_
            exact hj
          · rw [if_neg c1] at hj
            refine j_iconst F (pc := 268) (n := 1) (v := 1) (by decide +kernel) (by decide +kernel) ?_
            refine j_goto F (pc := 269) (off := 4) (tgt := 273) (by decide +kernel) (by decide) ?_
            exact hj
      obtain ⟨hg, h⟩ := z_ifs h
      refine j_zast F (pc := 273) (hk.s c_103) hg (by decide +kernel) ?_
      obtain ⟨μ9, e11, h⟩ := z_st_some h
      rw [← e11]
      have hρ10 : μ9.2.2 = ρ := by rw [e11]; exact hρ
      refine j_iinc F (pc := 274) (i := 4) (n := 1) (v := 1) (L' := [some (.ref 98), some (.int x1), some (.int x2), some (.int x3), some (.int (x4 + (1 : Int32))), some (.int x_7)]) (by decide +kernel) rfl (by decide +kernel) (by decide) rfl rfl ?_
      refine j_goto F (pc := 277) (off := -103) (tgt := 174) (by decide +kernel) (by decide) ?_
      refine j_mk F [true, true, true, true, true, false] (L' := [some (.ref 98), some (.int x1), some (.int x2), some (.int x3), some (.int (x4 + (1 : Int32))), none]) rfl ?_
      exact ih _ _ _ _ _ hρ10 h
set_option maxHeartbeats 4000000 in
set_option maxRecDepth 100000 in
theorem u_X5_keepLaw_165 {E : z_E} {ρ : Nat → Nat → Option Nat} {μr : z_M} (F : z_F E RX5 cX5_keepLaw 6 3) (Rt : z_R E none (fun v μ1 => μ1.2.2 = ρ ∧ v = none ∧ μr = μ1))  (hk : z_ok (z_sh E.1) ρ) {k_157 : Int32 → Int32 → z_M → Option z_M} (hc_157 : ∀ (y1 : Int32) (y2 : Int32) (μ1 : z_M), μ1.2.2 = ρ → k_157 y1 y2 μ1 = some μr → z_J E 6 157 [some (.ref 98), some (.int y1), some (.int y2), none, none, none] [] μ1) : ∀ (n : Nat) (x1 : Int32) (x2 : Int32) (x3 : Int32) (μ : z_M), μ.2.2 = ρ → g_X5_keepLaw_165  k_157 n x1 x2 x3 μ = some μr → z_J E 6 165 [some (.ref 98), some (.int x1), some (.int x2), some (.int x3), none, none] [] μ := by
  intro n
  induction n with
  | zero =>
    intro x1 x2 x3 μ hρ h
    rw [g_X5_keepLaw_165] at h
    cases h
  | succ n ih =>
    intro x1 x2 x3 μ hρ h
    rw [g_X5_keepLaw_165] at h
    refine j_iload_n F (pc := 165) (q := 3) (by decide +kernel) rfl ?_
    refine j_bipush F (pc := 166) (n := 8) (v := 8) (by decide +kernel) (by decide +kernel) ?_
    refine j_icmp_ge F (pc := 168) (off := 118) (tgt := 286) (by decide +kernel) (by decide) (fun c => ?_) (fun c => ?_)
    · rw [if_pos c] at h
      refine j_iinc F (pc := 286) (i := 2) (n := 1) (v := 1) (L' := [some (.ref 98), some (.int x1), some (.int (x2 + (1 : Int32))), some (.int x3), none, none]) (by decide +kernel) rfl (by decide +kernel) (by decide) rfl rfl ?_
      refine j_goto F (pc := 289) (off := -132) (tgt := 157) (by decide +kernel) (by decide) ?_
      refine j_mk F [true, true, true, false, false, false] (L' := [some (.ref 98), some (.int x1), some (.int (x2 + (1 : Int32))), none, none, none]) rfl ?_
      exact hc_157 _ _ _ hρ h
    · rw [if_neg c] at h
      refine j_iconst F (pc := 171) (n := 0) (v := 0) (by decide +kernel) (by decide +kernel) ?_
      refine j_istore F (pc := 172) (i := 4) (L' := [some (.ref 98), some (.int x1), some (.int x2), some (.int x3), some (.int (0 : Int32)), none]) (by decide +kernel) (by decide) rfl rfl ?_
      refine u_X5_keepLaw_174 F Rt hk (fun y14 y15 y16 μ12 hρ13 h => ?_) z_N _ _ _ _ _ hρ h
      exact ih _ _ _ _ hρ13 h
set_option maxHeartbeats 4000000 in
set_option maxRecDepth 100000 in
theorem u_X5_keepLaw_157 {E : z_E} {ρ : Nat → Nat → Option Nat} {μr : z_M} (F : z_F E RX5 cX5_keepLaw 6 3) (Rt : z_R E none (fun v μ1 => μ1.2.2 = ρ ∧ v = none ∧ μr = μ1))  (hk : z_ok (z_sh E.1) ρ) : ∀ (n : Nat) (x1 : Int32) (x2 : Int32) (μ : z_M), μ.2.2 = ρ → g_X5_keepLaw_157   n x1 x2 μ = some μr → z_J E 6 157 [some (.ref 98), some (.int x1), some (.int x2), none, none, none] [] μ := by
  intro n
  induction n with
  | zero =>
    intro x1 x2 μ hρ h
    rw [g_X5_keepLaw_157] at h
    cases h
  | succ n ih =>
    intro x1 x2 μ hρ h
    rw [g_X5_keepLaw_157] at h
    refine j_iload_n F (pc := 157) (q := 2) (by decide +kernel) rfl ?_
    refine j_bipush F (pc := 158) (n := 8) (v := 8) (by decide +kernel) (by decide +kernel) ?_
    refine j_icmp_ge F (pc := 160) (off := 132) (tgt := 292) (by decide +kernel) (by decide) (fun c => ?_) (fun c => ?_)
    · rw [if_pos c] at h
      refine j_aload_n F (pc := 292) (q := 0) (by decide +kernel) rfl ?_
      refine j_iload_n F (pc := 293) (q := 1) (by decide +kernel) rfl ?_
      obtain ⟨μ2, hc4, h⟩ := z_b1_some h
      refine j_callVv F (pc := 294) (idx := 148) (As := [.int x1]) (st := []) (t_X5_findRanks (G := E.1) hρ hk hc4) q_X5_findRanks v_X5_findRanks m_883 (hk.s c_98) rfl rfl (by decide) (Nat.le_of_ble_eq_true rfl) rfl (by decide +kernel) (fun ν5 hq6 hp => ?_)
      subst hp
      have hρ3 : μ2.2.2 = ρ := hq6.trans hρ
      exact j_vret (st := []) F Rt (by decide +kernel) ⟨hρ3, rfl, (Option.some.inj h).symm⟩
    · rw [if_neg c] at h
      refine j_iconst F (pc := 163) (n := 0) (v := 0) (by decide +kernel) (by decide +kernel) ?_
      refine j_istore_n F (pc := 164) (q := 3) (L' := [some (.ref 98), some (.int x1), some (.int x2), some (.int (0 : Int32)), none, none]) (by decide +kernel) (by decide) rfl rfl ?_
      refine u_X5_keepLaw_165 F Rt hk (fun y19 y20 μ17 hρ18 h => ?_) z_N _ _ _ _ hρ h
      exact ih _ _ _ hρ18 h
set_option maxHeartbeats 4000000 in
set_option maxRecDepth 100000 in
theorem u_X5_keepLaw_128 {E : z_E} {ρ : Nat → Nat → Option Nat} {μr : z_M} (F : z_F E RX5 cX5_keepLaw 6 3) (Rt : z_R E none (fun v μ1 => μ1.2.2 = ρ ∧ v = none ∧ μr = μ1))  (hk : z_ok (z_sh E.1) ρ) : ∀ (n : Nat) (x1 : Int32) (x2 : Int32) (μ : z_M), μ.2.2 = ρ → g_X5_keepLaw_128   n x1 x2 μ = some μr → z_J E 6 128 [some (.ref 98), some (.int x1), some (.int x2), none, none, none] [] μ := by
  intro n
  induction n with
  | zero =>
    intro x1 x2 μ hρ h
    rw [g_X5_keepLaw_128] at h
    cases h
  | succ n ih =>
    intro x1 x2 μ hρ h
    rw [g_X5_keepLaw_128] at h
    refine j_iload_n F (pc := 128) (q := 2) (by decide +kernel) rfl ?_
    refine j_iconst F (pc := 129) (n := 5) (v := 5) (by decide +kernel) (by decide +kernel) ?_
    refine j_icmp_ge F (pc := 130) (off := 25) (tgt := 155) (by decide +kernel) (by decide) (fun c => ?_) (fun c => ?_)
    · rw [if_pos c] at h
      refine j_iconst F (pc := 155) (n := 0) (v := 0) (by decide +kernel) (by decide +kernel) ?_
      refine j_istore_n F (pc := 156) (q := 2) (L' := [some (.ref 98), some (.int x1), some (.int (0 : Int32)), none, none, none]) (by decide +kernel) (by decide) rfl rfl ?_
      refine u_X5_keepLaw_157 F Rt hk  z_N _ _ _ hρ h
    · rw [if_neg c] at h
      refine j_aload_n F (pc := 133) (q := 0) (by decide +kernel) rfl ?_
      refine j_getR F (pc := 134) (hk.r hρ r_98_5) fl_X5_26 (hk.s c_98) rfl (by decide +kernel) ?_
      refine j_iconst F (pc := 137) (n := 5) (v := 5) (by decide +kernel) (by decide +kernel) ?_
      refine j_iload_n F (pc := 138) (q := 1) (by decide +kernel) rfl ?_
      refine j_imul F (pc := 139) (by decide +kernel) ?_
      refine j_iload_n F (pc := 140) (q := 2) (by decide +kernel) rfl ?_
      refine j_iadd F (pc := 141) (by decide +kernel) ?_
      refine j_aload_n F (pc := 142) (q := 0) (by decide +kernel) rfl ?_
      refine j_getR F (pc := 143) (hk.r hρ r_98_11) fl_X5_44 (hk.s c_98) rfl (by decide +kernel) ?_
      refine j_iload_n F (pc := 146) (q := 2) (by decide +kernel) rfl ?_
      obtain ⟨hg, h⟩ := z_ifs h
      refine j_iald F (pc := 147) (hk.s c_110) hg (by decide +kernel) ?_
      obtain ⟨hg, h⟩ := z_ifs h
      refine j_iast F (pc := 148) (hk.s c_104) hg (by decide +kernel) ?_
      obtain ⟨μ21, e23, h⟩ := z_st_some h
      rw [← e23]
      have hρ22 : μ21.2.2 = ρ := by rw [e23]; exact hρ
      refine j_iinc F (pc := 149) (i := 2) (n := 1) (v := 1) (L' := [some (.ref 98), some (.int x1), some (.int (x2 + (1 : Int32))), none, none, none]) (by decide +kernel) rfl (by decide +kernel) (by decide) rfl rfl ?_
      refine j_goto F (pc := 152) (off := -24) (tgt := 128) (by decide +kernel) (by decide) ?_
      exact ih _ _ _ hρ22 h
set_option maxHeartbeats 4000000 in
set_option maxRecDepth 100000 in
theorem u_X5_keepLaw_97 {E : z_E} {ρ : Nat → Nat → Option Nat} {μr : z_M} (F : z_F E RX5 cX5_keepLaw 6 3) (Rt : z_R E none (fun v μ1 => μ1.2.2 = ρ ∧ v = none ∧ μr = μ1))  (hk : z_ok (z_sh E.1) ρ) : ∀ (n : Nat) (x1 : Int32) (x2 : Int32) (μ : z_M), μ.2.2 = ρ → g_X5_keepLaw_97   n x1 x2 μ = some μr → z_J E 6 97 [some (.ref 98), some (.int x1), some (.int x2), none, none, none] [] μ := by
  intro n
  induction n with
  | zero =>
    intro x1 x2 μ hρ h
    rw [g_X5_keepLaw_97] at h
    cases h
  | succ n ih =>
    intro x1 x2 μ hρ h
    rw [g_X5_keepLaw_97] at h
    refine j_iload_n F (pc := 97) (q := 2) (by decide +kernel) rfl ?_
    refine j_bipush F (pc := 98) (n := 64) (v := 64) (by decide +kernel) (by decide +kernel) ?_
    refine j_icmp_ge F (pc := 100) (off := 26) (tgt := 126) (by decide +kernel) (by decide) (fun c => ?_) (fun c => ?_)
    · rw [if_pos c] at h
      refine j_iconst F (pc := 126) (n := 0) (v := 0) (by decide +kernel) (by decide +kernel) ?_
      refine j_istore_n F (pc := 127) (q := 2) (L' := [some (.ref 98), some (.int x1), some (.int (0 : Int32)), none, none, none]) (by decide +kernel) (by decide) rfl rfl ?_
      refine u_X5_keepLaw_128 F Rt hk  z_N _ _ _ hρ h
    · rw [if_neg c] at h
      refine j_aload_n F (pc := 103) (q := 0) (by decide +kernel) rfl ?_
      refine j_getR F (pc := 104) (hk.r hρ r_98_4) fl_X5_23 (hk.s c_98) rfl (by decide +kernel) ?_
      refine j_bipush F (pc := 107) (n := 64) (v := 64) (by decide +kernel) (by decide +kernel) ?_
      refine j_iload_n F (pc := 109) (q := 1) (by decide +kernel) rfl ?_
      refine j_imul F (pc := 110) (by decide +kernel) ?_
      refine j_iload_n F (pc := 111) (q := 2) (by decide +kernel) rfl ?_
      refine j_iadd F (pc := 112) (by decide +kernel) ?_
      refine j_aload_n F (pc := 113) (q := 0) (by decide +kernel) rfl ?_
      refine j_getR F (pc := 114) (hk.r hρ r_98_10) fl_X5_41 (hk.s c_98) rfl (by decide +kernel) ?_
      refine j_iload_n F (pc := 117) (q := 2) (by decide +kernel) rfl ?_
      obtain ⟨hg, h⟩ := z_ifs h
      refine j_zald F (pc := 118) (hk.s c_109) hg (by decide +kernel) ?_
      obtain ⟨hg, h⟩ := z_ifs h
      refine j_zast F (pc := 119) (hk.s c_103) hg (by decide +kernel) ?_
      obtain ⟨μ24, e26, h⟩ := z_st_some h
      rw [← e26]
      have hρ25 : μ24.2.2 = ρ := by rw [e26]; exact hρ
      refine j_iinc F (pc := 120) (i := 2) (n := 1) (v := 1) (L' := [some (.ref 98), some (.int x1), some (.int (x2 + (1 : Int32))), none, none, none]) (by decide +kernel) rfl (by decide +kernel) (by decide) rfl rfl ?_
      refine j_goto F (pc := 123) (off := -26) (tgt := 97) (by decide +kernel) (by decide) ?_
      exact ih _ _ _ hρ25 h
set_option maxHeartbeats 4000000 in
set_option maxRecDepth 100000 in
theorem u_X5_keepLaw_2 {E : z_E} {ρ : Nat → Nat → Option Nat} {μr : z_M} (F : z_F E RX5 cX5_keepLaw 6 3) (Rt : z_R E none (fun v μ1 => μ1.2.2 = ρ ∧ v = none ∧ μr = μ1))  (hk : z_ok (z_sh E.1) ρ) : ∀ (n : Nat) (x1 : Int32) (x2 : Int32) (μ : z_M), μ.2.2 = ρ → g_X5_keepLaw_2   n x1 x2 μ = some μr → z_J E 6 2 [some (.ref 98), some (.int x1), some (.int x2), none, none, none] [] μ := by
  intro n
  induction n with
  | zero =>
    intro x1 x2 μ hρ h
    rw [g_X5_keepLaw_2] at h
    cases h
  | succ n ih =>
    intro x1 x2 μ hρ h
    rw [g_X5_keepLaw_2] at h
    refine j_iload_n F (pc := 2) (q := 2) (by decide +kernel) rfl ?_
    refine j_bipush F (pc := 3) (n := 8) (v := 8) (by decide +kernel) (by decide +kernel) ?_
    refine j_icmp_ge F (pc := 5) (off := 90) (tgt := 95) (by decide +kernel) (by decide) (fun c => ?_) (fun c => ?_)
    · rw [if_pos c] at h
      refine j_iconst F (pc := 95) (n := 0) (v := 0) (by decide +kernel) (by decide +kernel) ?_
      refine j_istore_n F (pc := 96) (q := 2) (L' := [some (.ref 98), some (.int x1), some (.int (0 : Int32)), none, none, none]) (by decide +kernel) (by decide) rfl rfl ?_
      refine u_X5_keepLaw_97 F Rt hk  z_N _ _ _ hρ h
    · rw [if_neg c] at h
      refine j_aload_n F (pc := 8) (q := 0) (by decide +kernel) rfl ?_
      refine j_getR F (pc := 9) (hk.r hρ r_98_0) fl_X5_7 (hk.s c_98) rfl (by decide +kernel) ?_
      refine j_bipush F (pc := 12) (n := 8) (v := 8) (by decide +kernel) (by decide +kernel) ?_
      refine j_iload_n F (pc := 14) (q := 1) (by decide +kernel) rfl ?_
      refine j_imul F (pc := 15) (by decide +kernel) ?_
      refine j_iload_n F (pc := 16) (q := 2) (by decide +kernel) rfl ?_
      refine j_iadd F (pc := 17) (by decide +kernel) ?_
      refine j_aload_n F (pc := 18) (q := 0) (by decide +kernel) rfl ?_
      refine j_getR F (pc := 19) (hk.r hρ r_98_6) fl_X5_29 (hk.s c_98) rfl (by decide +kernel) ?_
      refine j_iload_n F (pc := 22) (q := 2) (by decide +kernel) rfl ?_
      obtain ⟨hg, h⟩ := z_ifs h
      refine j_iald F (pc := 23) (hk.s c_105) hg (by decide +kernel) ?_
      obtain ⟨hg, h⟩ := z_ifs h
      suffices hj : z_J E 6 37 [some (.ref 98), some (.int x1), some (.int x2), none, none, none] (.int (if (μ.1 105 x2.toNatClampNeg) = 0 then (1 : Int32) else (μ.1 105 x2.toNatClampNeg)) :: [.int (((8 : Int32) * x1) + x2), .ref 99]) μ by
        refine j_if_ne F (pc := 24) (off := 7) (tgt := 31) (by decide +kernel) (by decide) (fun c0 => ?_) (fun c0 => ?_)
        · rw [if_neg c0] at hj
          refine j_aload_n F (pc := 31) (q := 0) (by decide +kernel) rfl ?_
          refine j_getR F (pc := 32) (hk.r hρ r_98_6) fl_X5_29 (hk.s c_98) rfl (by decide +kernel) ?_
          refine j_iload_n F (pc := 35) (q := 2) (by decide +kernel) rfl ?_
          refine j_iald F (pc := 36) (hk.s c_105) (hg c0) (by decide +kernel) ?_
          exact hj
        · rw [if_pos c0] at hj
          refine j_iconst F (pc := 27) (n := 1) (v := 1) (by decide +kernel) (by decide +kernel) ?_
          refine j_goto F (pc := 28) (off := 9) (tgt := 37) (by decide +kernel) (by decide) ?_
          exact hj
      obtain ⟨hg, h⟩ := z_ifs h
      refine j_iast F (pc := 37) (hk.s c_99) hg (by decide +kernel) ?_
      obtain ⟨μ27, e29, h⟩ := z_st_some h
      rw [← e29]
      have hρ28 : μ27.2.2 = ρ := by rw [e29]; exact hρ
      refine j_aload_n F (pc := 38) (q := 0) (by decide +kernel) rfl ?_
      refine j_getR F (pc := 39) (hk.r hρ28 r_98_1) fl_X5_13 (hk.s c_98) rfl (by decide +kernel) ?_
      refine j_bipush F (pc := 42) (n := 8) (v := 8) (by decide +kernel) (by decide +kernel) ?_
      refine j_iload_n F (pc := 44) (q := 1) (by decide +kernel) rfl ?_
      refine j_imul F (pc := 45) (by decide +kernel) ?_
      refine j_iload_n F (pc := 46) (q := 2) (by decide +kernel) rfl ?_
      refine j_iadd F (pc := 47) (by decide +kernel) ?_
      refine j_aload_n F (pc := 48) (q := 0) (by decide +kernel) rfl ?_
      refine j_getR F (pc := 49) (hk.r hρ28 r_98_7) fl_X5_32 (hk.s c_98) rfl (by decide +kernel) ?_
      refine j_iload_n F (pc := 52) (q := 2) (by decide +kernel) rfl ?_
      obtain ⟨hg, h⟩ := z_ifs h
      refine j_iald F (pc := 53) (hk.s c_106) hg (by decide +kernel) ?_
      obtain ⟨hg, h⟩ := z_ifs h
      refine j_iast F (pc := 54) (hk.s c_100) hg (by decide +kernel) ?_
      obtain ⟨μ30, e32, h⟩ := z_st_some h
      rw [← e32]
      have hρ31 : μ30.2.2 = ρ := by rw [e32]; exact hρ28
      refine j_aload_n F (pc := 55) (q := 0) (by decide +kernel) rfl ?_
      refine j_getR F (pc := 56) (hk.r hρ31 r_98_2) fl_X5_16 (hk.s c_98) rfl (by decide +kernel) ?_
      refine j_bipush F (pc := 59) (n := 8) (v := 8) (by decide +kernel) (by decide +kernel) ?_
      refine j_iload_n F (pc := 61) (q := 1) (by decide +kernel) rfl ?_
      refine j_imul F (pc := 62) (by decide +kernel) ?_
      refine j_iload_n F (pc := 63) (q := 2) (by decide +kernel) rfl ?_
      refine j_iadd F (pc := 64) (by decide +kernel) ?_
      refine j_aload_n F (pc := 65) (q := 0) (by decide +kernel) rfl ?_
      refine j_getR F (pc := 66) (hk.r hρ31 r_98_8) fl_X5_35 (hk.s c_98) rfl (by decide +kernel) ?_
      refine j_iload_n F (pc := 69) (q := 2) (by decide +kernel) rfl ?_
      obtain ⟨hg, h⟩ := z_ifs h
      refine j_iald F (pc := 70) (hk.s c_107) hg (by decide +kernel) ?_
      obtain ⟨hg, h⟩ := z_ifs h
      refine j_iast F (pc := 71) (hk.s c_101) hg (by decide +kernel) ?_
      obtain ⟨μ33, e35, h⟩ := z_st_some h
      rw [← e35]
      have hρ34 : μ33.2.2 = ρ := by rw [e35]; exact hρ31
      refine j_aload_n F (pc := 72) (q := 0) (by decide +kernel) rfl ?_
      refine j_getR F (pc := 73) (hk.r hρ34 r_98_3) fl_X5_19 (hk.s c_98) rfl (by decide +kernel) ?_
      refine j_bipush F (pc := 76) (n := 8) (v := 8) (by decide +kernel) (by decide +kernel) ?_
      refine j_iload_n F (pc := 78) (q := 1) (by decide +kernel) rfl ?_
      refine j_imul F (pc := 79) (by decide +kernel) ?_
      refine j_iload_n F (pc := 80) (q := 2) (by decide +kernel) rfl ?_
      refine j_iadd F (pc := 81) (by decide +kernel) ?_
      refine j_aload_n F (pc := 82) (q := 0) (by decide +kernel) rfl ?_
      refine j_getR F (pc := 83) (hk.r hρ34 r_98_9) fl_X5_38 (hk.s c_98) rfl (by decide +kernel) ?_
      refine j_iload_n F (pc := 86) (q := 2) (by decide +kernel) rfl ?_
      obtain ⟨hg, h⟩ := z_ifs h
      refine j_zald F (pc := 87) (hk.s c_108) hg (by decide +kernel) ?_
      obtain ⟨hg, h⟩ := z_ifs h
      refine j_zast F (pc := 88) (hk.s c_102) hg (by decide +kernel) ?_
      obtain ⟨μ36, e38, h⟩ := z_st_some h
      rw [← e38]
      have hρ37 : μ36.2.2 = ρ := by rw [e38]; exact hρ34
      refine j_iinc F (pc := 89) (i := 2) (n := 1) (v := 1) (L' := [some (.ref 98), some (.int x1), some (.int (x2 + (1 : Int32))), none, none, none]) (by decide +kernel) rfl (by decide +kernel) (by decide) rfl rfl ?_
      refine j_goto F (pc := 92) (off := -90) (tgt := 2) (by decide +kernel) (by decide) ?_
      exact ih _ _ _ hρ37 h
set_option maxHeartbeats 4000000 in
set_option maxRecDepth 100000 in
theorem t_X5_keepLaw {G : z_Gl} {ρ : Nat → Nat → Option Nat} {μ : z_M} {μr : z_M} {x1 : Int32} (hρ : μ.2.2 = ρ) (hk : z_ok (z_sh G) ρ) (h : f_X5_keepLaw x1 μ = some μr) : z_Cv G yX5_keepLaw cX5_keepLaw 6 none 3 [.ref 98, .int x1] μ (fun μ1 => μr = μ1) := by
  unfold z_Cv
  refine z_intro (by decide +kernel) (Nat.le_of_ble_eq_true rfl) (fun E hE F Rt => ?_)
  subst hE
  have F : z_F E RX5 cX5_keepLaw 6 3 := F
  rw [hρ] at Rt
  unfold f_X5_keepLaw at h
  show z_J E 6 0 [some (.ref 98), some (.int x1), none, none, none, none] [] μ
  refine j_iconst F (pc := 0) (n := 0) (v := 0) (by decide +kernel) (by decide +kernel) ?_
  refine j_istore_n F (pc := 1) (q := 2) (L' := [some (.ref 98), some (.int x1), some (.int (0 : Int32)), none, none, none]) (by decide +kernel) (by decide) rfl rfl ?_
  refine u_X5_keepLaw_2 F Rt hk  z_N _ _ _ hρ h
def g_X5_beginImages_2   : Nat → Int32 → z_M → Option z_M
  | 0, _, _ => none
  | n + 1, x1, μ => (if (300 : Int32) ≤ x1 then (some μ) else (if z_in x1 300 then (z_st (z_si μ 134 x1.toNatClampNeg (0 : Int32)) fun μ1 => (g_X5_beginImages_2   n ((x1 + (1 : Int32))) μ1)) else none))
def f_X5_beginImages  (μ : z_M) : Option z_M :=
  (g_X5_beginImages_2   z_N ((0 : Int32)) μ)
set_option maxHeartbeats 4000000 in
set_option maxRecDepth 100000 in
theorem u_X5_beginImages_2 {E : z_E} {ρ : Nat → Nat → Option Nat} {μr : z_M} (F : z_F E RX5 cX5_beginImages 2 0) (Rt : z_R E none (fun v μ1 => μ1.2.2 = ρ ∧ v = none ∧ μr = μ1))  (hk : z_ok (z_sh E.1) ρ) : ∀ (n : Nat) (x1 : Int32) (μ : z_M), μ.2.2 = ρ → g_X5_beginImages_2   n x1 μ = some μr → z_J E 2 2 [some (.ref 98), some (.int x1)] [] μ := by
  intro n
  induction n with
  | zero =>
    intro x1 μ hρ h
    rw [g_X5_beginImages_2] at h
    cases h
  | succ n ih =>
    intro x1 μ hρ h
    rw [g_X5_beginImages_2] at h
    refine j_iload_n F (pc := 2) (q := 1) (by decide +kernel) rfl ?_
    refine j_sipush F (pc := 3) (n := 300) (v := 300) (by decide +kernel) (by decide +kernel) ?_
    refine j_icmp_ge F (pc := 6) (off := 16) (tgt := 22) (by decide +kernel) (by decide) (fun c => ?_) (fun c => ?_)
    · rw [if_pos c] at h
      exact j_vret (st := []) F Rt (by decide +kernel) ⟨hρ, rfl, (Option.some.inj h).symm⟩
    · rw [if_neg c] at h
      refine j_aload_n F (pc := 9) (q := 0) (by decide +kernel) rfl ?_
      refine j_getR F (pc := 10) (hk.r hρ r_98_46) fl_X5_120 (hk.s c_98) rfl (by decide +kernel) ?_
      refine j_iload_n F (pc := 13) (q := 1) (by decide +kernel) rfl ?_
      refine j_iconst F (pc := 14) (n := 0) (v := 0) (by decide +kernel) (by decide +kernel) ?_
      obtain ⟨hg, h⟩ := z_ifs h
      refine j_iast F (pc := 15) (hk.s c_134) hg (by decide +kernel) ?_
      obtain ⟨μ1, e3, h⟩ := z_st_some h
      rw [← e3]
      have hρ2 : μ1.2.2 = ρ := by rw [e3]; exact hρ
      refine j_iinc F (pc := 16) (i := 1) (n := 1) (v := 1) (L' := [some (.ref 98), some (.int (x1 + (1 : Int32)))]) (by decide +kernel) rfl (by decide +kernel) (by decide) rfl rfl ?_
      refine j_goto F (pc := 19) (off := -17) (tgt := 2) (by decide +kernel) (by decide) ?_
      exact ih _ _ hρ2 h
set_option maxHeartbeats 4000000 in
set_option maxRecDepth 100000 in
theorem t_X5_beginImages {G : z_Gl} {ρ : Nat → Nat → Option Nat} {μ : z_M} {μr : z_M}  (hρ : μ.2.2 = ρ) (hk : z_ok (z_sh G) ρ) (h : f_X5_beginImages  μ = some μr) : z_Cv G yX5_beginImages cX5_beginImages 2 none 0 [.ref 98] μ (fun μ1 => μr = μ1) := by
  unfold z_Cv
  refine z_intro (by decide +kernel) (Nat.le_of_ble_eq_true rfl) (fun E hE F Rt => ?_)
  subst hE
  have F : z_F E RX5 cX5_beginImages 2 0 := F
  rw [hρ] at Rt
  unfold f_X5_beginImages at h
  show z_J E 2 0 [some (.ref 98), none] [] μ
  refine j_iconst F (pc := 0) (n := 0) (v := 0) (by decide +kernel) (by decide +kernel) ?_
  refine j_istore_n F (pc := 1) (q := 1) (L' := [some (.ref 98), some (.int (0 : Int32))]) (by decide +kernel) (by decide) rfl rfl ?_
  refine u_X5_beginImages_2 F Rt hk  z_N _ _ hρ h
/-- LastLentModel.in -/
def f_X5_in (l0 : Int64) (l2 : Int64) (l4 : Int64) (μ : z_M) : Option (Int32 × z_M) :=
  (some ((if (lg_cmp l0 l2) < 0 then (0 : Int32) else (if 0 < (lg_cmp l0 l4) then (0 : Int32) else (1 : Int32))), μ))
set_option maxHeartbeats 4000000 in
set_option maxRecDepth 100000 in
theorem t_X5_in {G : z_Gl} {ρ : Nat → Nat → Option Nat} {μ : z_M} {r : Int32} {μr : z_M} {l0 : Int64} {l2 : Int64} {l4 : Int64} (hρ : μ.2.2 = ρ)  (h : f_X5_in l0 l2 l4 μ = some (r, μr)) : z_Ci G yX5_in cX5_in 6 (some .boolean) 0 [.long l0, .long l2, .long l4] μ (fun r1 μ1 => r = r1 ∧ μr = μ1) := by
  unfold z_Ci
  refine z_intro (by decide +kernel) (Nat.le_of_ble_eq_true rfl) (fun E hE F Rt => ?_)
  subst hE
  have F : z_F E RX5 cX5_in 6 0 := F
  rw [hρ] at Rt
  unfold f_X5_in at h
  show z_J E 6 0 [some (.long l0), none, some (.long l2), none, some (.long l4), none] [] μ
  refine j_lload_n F (pc := 0) (q := 0) (by decide +kernel) rfl ?_
  refine j_lload_n F (pc := 1) (q := 2) (by decide +kernel) rfl ?_
  refine j_lcmp F (pc := 2) (by decide +kernel) ?_
  suffices hj : z_J E 6 18 [some (.long l0), none, some (.long l2), none, some (.long l4), none] (.int (if (lg_cmp l0 l2) < 0 then (0 : Int32) else (if 0 < (lg_cmp l0 l4) then (0 : Int32) else (1 : Int32))) :: []) μ by
    refine j_if_lt F (pc := 3) (off := 14) (tgt := 17) (by decide +kernel) (by decide) (fun c0 => ?_) (fun c0 => ?_)
    · rw [if_pos c0] at hj
      refine j_iconst F (pc := 17) (n := 0) (v := 0) (by decide +kernel) (by decide +kernel) ?_
      exact hj
    · rw [if_neg c0] at hj
      refine j_lload_n F (pc := 6) (q := 0) (by decide +kernel) rfl ?_
      refine j_lload F (pc := 7) (i := 4) (by decide +kernel) rfl ?_
      refine j_lcmp F (pc := 9) (by decide +kernel) ?_
      refine j_if_gt F (pc := 10) (off := 7) (tgt := 17) (by decide +kernel) (by decide) (fun c1 => ?_) (fun c1 => ?_)
      · rw [if_pos c1] at hj
        refine j_iconst F (pc := 17) (n := 0) (v := 0) (by decide +kernel) (by decide +kernel) ?_
        exact hj
      · rw [if_neg c1] at hj
        refine j_iconst F (pc := 13) (n := 1) (v := 1) (by decide +kernel) (by decide +kernel) ?_
        refine j_goto F (pc := 14) (off := 4) (tgt := 18) (by decide +kernel) (by decide) ?_
        exact hj
  exact j_iret (st := []) F Rt (z_nb (by repeat' (first | exact Or.inl rfl | exact Or.inr rfl | split))) (by decide +kernel) ⟨hρ, _, rfl, (congrArg Prod.fst (Option.some.inj h)).symm, (congrArg Prod.snd (Option.some.inj h)).symm⟩
def g_X5_feed_37   : Nat → Int64 → Int32 → z_M → Option (Int32 × z_M)
  | 0, _, _, _ => none
  | n + 1, x2, x4, μ => (if x4 < 0 then (some ((μ.1 98 13), μ)) else (if z_in (μ.1 98 13) 240 then (z_st (z_si μ 111 (μ.1 98 13).toNatClampNeg (((x2 >>> (((8 : Int32) * x4).toInt64 &&& 63)) &&& (255 : Int64))).toInt32) fun μ10 => (z_st (z_si μ10 98 13 ((μ10.1 98 13) + (1 : Int32))) fun μ13 => (g_X5_feed_37   n (x2) ((x4 + (-1 : Int32))) μ13))) else none))
def f_X5_feed (x1 : Int32) (l2 : Int64) (μ : z_M) : Option (Int32 × z_M) :=
  (z_b2 (f_X5_in ((x1).toInt64) ((1 : Int64)) ((8 : Int64)) μ) fun r1 μ2 => (if r1 = 0 then (some ((-1002 : Int32), μ2)) else (if ((μ2.1 98 13) + x1) ≤ (240 : Int32) then (z_lt (x1 - (1 : Int32)) fun x_8 => (g_X5_feed_37   z_N (l2) (x_8) μ2)) else (some ((-1004 : Int32), μ2)))))
set_option maxHeartbeats 4000000 in
set_option maxRecDepth 100000 in
theorem u_X5_feed_37 {E : z_E} {ρ : Nat → Nat → Option Nat} {r : Int32} {μr : z_M} (F : z_F E RX5 cX5_feed 5 1) (Rt : z_R E (some .int) (fun v μ1 => μ1.2.2 = ρ ∧ ∃ r1, v = some (.int r1) ∧ r = r1 ∧ μr = μ1))  (hk : z_ok (z_sh E.1) ρ) : ∀ (n : Nat) (x2 : Int64) (x4 : Int32) (μ : z_M), μ.2.2 = ρ → g_X5_feed_37   n x2 x4 μ = some (r, μr) → z_J E 5 37 [some (.ref 98), none, some (.long x2), none, some (.int x4)] [] μ := by
  intro n
  induction n with
  | zero =>
    intro x2 x4 μ hρ h
    rw [g_X5_feed_37] at h
    cases h
  | succ n ih =>
    intro x2 x4 μ hρ h
    rw [g_X5_feed_37] at h
    refine j_iload F (pc := 37) (i := 4) (by decide +kernel) rfl ?_
    refine j_if_lt F (pc := 39) (off := 40) (tgt := 79) (by decide +kernel) (by decide) (fun c => ?_) (fun c => ?_)
    · rw [if_pos c] at h
      refine j_aload_n F (pc := 79) (q := 0) (by decide +kernel) rfl ?_
      refine j_getI F (pc := 80) fl_X5_153 (hk.s c_98) rfl (by decide +kernel) ?_
      exact j_iret (st := []) F Rt rfl (by decide +kernel) ⟨hρ, _, rfl, (congrArg Prod.fst (Option.some.inj h)).symm, (congrArg Prod.snd (Option.some.inj h)).symm⟩
    · rw [if_neg c] at h
      refine j_aload_n F (pc := 42) (q := 0) (by decide +kernel) rfl ?_
      refine j_getR F (pc := 43) (hk.r hρ r_98_12) fl_X5_47 (hk.s c_98) rfl (by decide +kernel) ?_
      refine j_aload_n F (pc := 46) (q := 0) (by decide +kernel) rfl ?_
      refine j_getI F (pc := 47) fl_X5_153 (hk.s c_98) rfl (by decide +kernel) ?_
      refine j_lload_n F (pc := 50) (q := 2) (by decide +kernel) rfl ?_
      refine j_bipush F (pc := 51) (n := 8) (v := 8) (by decide +kernel) (by decide +kernel) ?_
      refine j_iload F (pc := 53) (i := 4) (by decide +kernel) rfl ?_
      refine j_imul F (pc := 55) (by decide +kernel) ?_
      refine j_lshr F (pc := 56) (by decide +kernel) ?_
      refine j_ldc2 F (pc := 57) m_1052 (by decide +kernel) ?_
      refine j_land F (pc := 60) (by decide +kernel) ?_
      refine j_l2i F (pc := 61) (by decide +kernel) ?_
      obtain ⟨hg, h⟩ := z_ifs h
      refine j_iast F (pc := 62) (hk.s c_111) hg (by decide +kernel) ?_
      obtain ⟨μ10, e12, h⟩ := z_st_some h
      rw [← e12]
      have hρ11 : μ10.2.2 = ρ := by rw [e12]; exact hρ
      refine j_aload_n F (pc := 63) (q := 0) (by decide +kernel) rfl ?_
      refine j_dup F (pc := 64) (by decide +kernel) rfl ?_
      refine j_getI F (pc := 65) fl_X5_153 (hk.s c_98) rfl (by decide +kernel) ?_
      refine j_iconst F (pc := 68) (n := 1) (v := 1) (by decide +kernel) (by decide +kernel) ?_
      refine j_iadd F (pc := 69) (by decide +kernel) ?_
      refine j_putI F (pc := 70) fl_X5_153 fp_X5_13 (hk.s c_98) rfl (by decide +kernel) ?_
      obtain ⟨μ13, e15, h⟩ := z_st_some h
      rw [← e15]
      have hρ14 : μ13.2.2 = ρ := by rw [e15]; exact hρ11
      refine j_iinc F (pc := 73) (i := 4) (n := -1) (v := -1) (L' := [some (.ref 98), none, some (.long x2), none, some (.int (x4 + (-1 : Int32)))]) (by decide +kernel) rfl (by decide +kernel) (by decide) rfl rfl ?_
      refine j_goto F (pc := 76) (off := -39) (tgt := 37) (by decide +kernel) (by decide) ?_
      exact ih _ _ _ hρ14 h
set_option maxHeartbeats 4000000 in
set_option maxRecDepth 100000 in
theorem t_X5_feed {G : z_Gl} {ρ : Nat → Nat → Option Nat} {μ : z_M} {r : Int32} {μr : z_M} {x1 : Int32} {l2 : Int64} (hρ : μ.2.2 = ρ) (hk : z_ok (z_sh G) ρ) (h : f_X5_feed x1 l2 μ = some (r, μr)) : z_Ci G yX5_feed cX5_feed 5 (some .int) 1 [.ref 98, .int x1, .long l2] μ (fun r1 μ1 => r = r1 ∧ μr = μ1) := by
  unfold z_Ci
  refine z_intro (by decide +kernel) (Nat.le_of_ble_eq_true rfl) (fun E hE F Rt => ?_)
  subst hE
  have F : z_F E RX5 cX5_feed 5 1 := F
  rw [hρ] at Rt
  unfold f_X5_feed at h
  show z_J E 5 0 [some (.ref 98), some (.int x1), some (.long l2), none, none] [] μ
  refine j_iload_n F (pc := 0) (q := 1) (by decide +kernel) rfl ?_
  refine j_i2l F (pc := 1) (by decide +kernel) ?_
  refine j_lconst F (pc := 2) (n := 1) (v := 1) (by decide +kernel) (by decide +kernel) ?_
  refine j_ldc2 F (pc := 3) m_1048 (by decide +kernel) ?_
  obtain ⟨r1, μ2, hc4, h⟩ := z_b2_some h
  refine j_callSi F (pc := 6) (idx := 138) (As := [.long (x1).toInt64, .long (1 : Int64), .long (8 : Int64)]) (st := []) (t_X5_in (G := E.1) hρ  hc4) q_X5_in m_1050 m_1049 rfl (by decide) (Nat.le_of_ble_eq_true rfl) rfl (by decide +kernel) (fun s7 ν5 hq6 hp => ?_)
  obtain ⟨rfl, rfl⟩ := hp
  have hρ3 : μ2.2.2 = ρ := hq6.trans hρ
  refine j_if_ne F (pc := 9) (off := 7) (tgt := 16) (by decide +kernel) (by decide) (fun c => ?_) (fun c => ?_)
  · rw [if_neg c] at h
    refine j_aload_n F (pc := 16) (q := 0) (by decide +kernel) rfl ?_
    refine j_getI F (pc := 17) fl_X5_153 (hk.s c_98) rfl (by decide +kernel) ?_
    refine j_iload_n F (pc := 20) (q := 1) (by decide +kernel) rfl ?_
    refine j_iadd F (pc := 21) (by decide +kernel) ?_
    refine j_sipush F (pc := 22) (n := 240) (v := 240) (by decide +kernel) (by decide +kernel) ?_
    refine j_icmp_le F (pc := 25) (off := 7) (tgt := 32) (by decide +kernel) (by decide) (fun c => ?_) (fun c => ?_)
    · rw [if_pos c] at h
      refine j_iload_n F (pc := 32) (q := 1) (by decide +kernel) rfl ?_
      refine j_iconst F (pc := 33) (n := 1) (v := 1) (by decide +kernel) (by decide +kernel) ?_
      refine j_isub F (pc := 34) (by decide +kernel) ?_
      obtain ⟨x_8, e9, h⟩ := z_lt_some h
      rw [← e9]
      refine j_istore F (pc := 35) (i := 4) (L' := [some (.ref 98), some (.int x1), some (.long l2), none, some (.int x_8)]) (by decide +kernel) (by decide) rfl rfl ?_
      refine j_mk F [true, false, true, false, true] (L' := [some (.ref 98), none, some (.long l2), none, some (.int x_8)]) rfl ?_
      refine u_X5_feed_37 F Rt hk  z_N _ _ _ hρ3 h
    · rw [if_neg c] at h
      refine j_sipush F (pc := 28) (n := -1004) (v := -1004) (by decide +kernel) (by decide +kernel) ?_
      exact j_iret (st := []) F Rt rfl (by decide +kernel) ⟨hρ3, _, rfl, (congrArg Prod.fst (Option.some.inj h)).symm, (congrArg Prod.snd (Option.some.inj h)).symm⟩
  · rw [if_pos c] at h
    refine j_sipush F (pc := 12) (n := -1002) (v := -1002) (by decide +kernel) (by decide +kernel) ?_
    exact j_iret (st := []) F Rt rfl (by decide +kernel) ⟨hρ3, _, rfl, (congrArg Prod.fst (Option.some.inj h)).symm, (congrArg Prod.snd (Option.some.inj h)).symm⟩
/-- LastLentModel.isLand -/
def f_X5_isLand (x0 : Int32) (μ : z_M) : Option (Int32 × z_M) :=
  (z_b2 (f_X5_in ((x0).toInt64) ((0 : Int64)) ((3 : Int64)) μ) fun r1 μ2 => (if r1 = 0 ∨ r1 = 1 then some (r1, μ2) else none))
set_option maxHeartbeats 4000000 in
set_option maxRecDepth 100000 in
theorem t_X5_isLand {G : z_Gl} {ρ : Nat → Nat → Option Nat} {μ : z_M} {r : Int32} {μr : z_M} {x0 : Int32} (hρ : μ.2.2 = ρ)  (h : f_X5_isLand x0 μ = some (r, μr)) : z_Ci G yX5_isLand cX5_isLand 1 (some .boolean) 1 [.int x0] μ (fun r1 μ1 => r = r1 ∧ μr = μ1) := by
  unfold z_Ci
  refine z_intro (by decide +kernel) (Nat.le_of_ble_eq_true rfl) (fun E hE F Rt => ?_)
  subst hE
  have F : z_F E RX5 cX5_isLand 1 1 := F
  rw [hρ] at Rt
  unfold f_X5_isLand at h
  show z_J E 1 0 [some (.int x0)] [] μ
  refine j_iload_n F (pc := 0) (q := 0) (by decide +kernel) rfl ?_
  refine j_i2l F (pc := 1) (by decide +kernel) ?_
  refine j_lconst F (pc := 2) (n := 0) (v := 0) (by decide +kernel) (by decide +kernel) ?_
  refine j_ldc2 F (pc := 3) m_1060 (by decide +kernel) ?_
  obtain ⟨r1, μ2, hc4, h⟩ := z_b2_some h
  refine j_callSi F (pc := 6) (idx := 138) (As := [.long (x0).toInt64, .long (0 : Int64), .long (3 : Int64)]) (st := []) (t_X5_in (G := E.1) hρ  hc4) q_X5_in m_1050 m_1049 rfl (by decide) (Nat.le_of_ble_eq_true rfl) rfl (by decide +kernel) (fun s7 ν5 hq6 hp => ?_)
  obtain ⟨rfl, rfl⟩ := hp
  have hρ3 : μ2.2.2 = ρ := hq6.trans hρ
  obtain ⟨hg, h⟩ := z_ifs h
  exact j_iret (st := []) F Rt (z_nb hg) (by decide +kernel) ⟨hρ3, _, rfl, (congrArg Prod.fst (Option.some.inj h)).symm, (congrArg Prod.snd (Option.some.inj h)).symm⟩
def g_X5_here_38    (μ : z_M) : Option (Int32 × z_M) :=
  (if (¬ ((μ.1 98 13) ≤ (μ.1 98 15)) → z_in (μ.1 98 15) 240) then (some ((if (μ.1 98 13) ≤ (μ.1 98 15) then (-1 : Int32) else (μ.1 111 (μ.1 98 15).toNatClampNeg)), μ)) else none)
def g_X5_here_0   : Nat → z_M → Option (Int32 × z_M)
  | 0, _ => none
  | n + 1, μ => (if (μ.1 98 13) ≤ (μ.1 98 15) then (g_X5_here_38    μ) else (if z_in (μ.1 98 15) 240 then (if (μ.1 111 (μ.1 98 15).toNatClampNeg) = (32 : Int32) then (z_st (z_si μ 98 15 ((μ.1 98 15) + (1 : Int32))) fun μ1 => (g_X5_here_0   n  μ1)) else (g_X5_here_38    μ)) else none))
def f_X5_here  (μ : z_M) : Option (Int32 × z_M) :=
  (g_X5_here_0   z_N  μ)
set_option maxHeartbeats 4000000 in
set_option maxRecDepth 100000 in
theorem u_X5_here_38 {E : z_E} {ρ : Nat → Nat → Option Nat} {r : Int32} {μr : z_M} (F : z_F E RX5 cX5_here 1 0) (Rt : z_R E (some .int) (fun v μ1 => μ1.2.2 = ρ ∧ ∃ r1, v = some (.int r1) ∧ r = r1 ∧ μr = μ1))  (hk : z_ok (z_sh E.1) ρ) : ∀  (μ : z_M), μ.2.2 = ρ → g_X5_here_38    μ = some (r, μr) → z_J E 1 38 [some (.ref 98)] [] μ := by
  intro  μ hρ h
  unfold g_X5_here_38 at h
  refine j_aload_n F (pc := 38) (q := 0) (by decide +kernel) rfl ?_
  refine j_getI F (pc := 39) fl_X5_158 (hk.s c_98) rfl (by decide +kernel) ?_
  refine j_aload_n F (pc := 42) (q := 0) (by decide +kernel) rfl ?_
  refine j_getI F (pc := 43) fl_X5_153 (hk.s c_98) rfl (by decide +kernel) ?_
  obtain ⟨hg, h⟩ := z_ifs h
  suffices hj : z_J E 1 62 [some (.ref 98)] (.int (if (μ.1 98 13) ≤ (μ.1 98 15) then (-1 : Int32) else (μ.1 111 (μ.1 98 15).toNatClampNeg)) :: []) μ by
    refine j_icmp_ge F (pc := 46) (off := 15) (tgt := 61) (by decide +kernel) (by decide) (fun c0 => ?_) (fun c0 => ?_)
    · rw [if_pos c0] at hj
      refine j_iconst F (pc := 61) (n := -1) (v := -1) (by decide +kernel) (by decide +kernel) ?_
      exact hj
    · rw [if_neg c0] at hj
      refine j_aload_n F (pc := 49) (q := 0) (by decide +kernel) rfl ?_
      refine j_getR F (pc := 50) (hk.r hρ r_98_12) fl_X5_47 (hk.s c_98) rfl (by decide +kernel) ?_
      refine j_aload_n F (pc := 53) (q := 0) (by decide +kernel) rfl ?_
      refine j_getI F (pc := 54) fl_X5_158 (hk.s c_98) rfl (by decide +kernel) ?_
      refine j_iald F (pc := 57) (hk.s c_111) (hg c0) (by decide +kernel) ?_
      refine j_goto F (pc := 58) (off := 4) (tgt := 62) (by decide +kernel) (by decide) ?_
      exact hj
  exact j_iret (st := []) F Rt rfl (by decide +kernel) ⟨hρ, _, rfl, (congrArg Prod.fst (Option.some.inj h)).symm, (congrArg Prod.snd (Option.some.inj h)).symm⟩
set_option maxHeartbeats 4000000 in
set_option maxRecDepth 100000 in
theorem u_X5_here_0 {E : z_E} {ρ : Nat → Nat → Option Nat} {r : Int32} {μr : z_M} (F : z_F E RX5 cX5_here 1 0) (Rt : z_R E (some .int) (fun v μ1 => μ1.2.2 = ρ ∧ ∃ r1, v = some (.int r1) ∧ r = r1 ∧ μr = μ1))  (hk : z_ok (z_sh E.1) ρ) : ∀ (n : Nat)  (μ : z_M), μ.2.2 = ρ → g_X5_here_0   n  μ = some (r, μr) → z_J E 1 0 [some (.ref 98)] [] μ := by
  intro n
  induction n with
  | zero =>
    intro  μ hρ h
    rw [g_X5_here_0] at h
    cases h
  | succ n ih =>
    intro  μ hρ h
    rw [g_X5_here_0] at h
    refine j_aload_n F (pc := 0) (q := 0) (by decide +kernel) rfl ?_
    refine j_getI F (pc := 1) fl_X5_158 (hk.s c_98) rfl (by decide +kernel) ?_
    refine j_aload_n F (pc := 4) (q := 0) (by decide +kernel) rfl ?_
    refine j_getI F (pc := 5) fl_X5_153 (hk.s c_98) rfl (by decide +kernel) ?_
    refine j_icmp_ge F (pc := 8) (off := 30) (tgt := 38) (by decide +kernel) (by decide) (fun c => ?_) (fun c => ?_)
    · rw [if_pos c] at h
      refine u_X5_here_38 F Rt hk   _ hρ h
    · rw [if_neg c] at h
      refine j_aload_n F (pc := 11) (q := 0) (by decide +kernel) rfl ?_
      refine j_getR F (pc := 12) (hk.r hρ r_98_12) fl_X5_47 (hk.s c_98) rfl (by decide +kernel) ?_
      refine j_aload_n F (pc := 15) (q := 0) (by decide +kernel) rfl ?_
      refine j_getI F (pc := 16) fl_X5_158 (hk.s c_98) rfl (by decide +kernel) ?_
      obtain ⟨hg, h⟩ := z_ifs h
      refine j_iald F (pc := 19) (hk.s c_111) hg (by decide +kernel) ?_
      refine j_bipush F (pc := 20) (n := 32) (v := 32) (by decide +kernel) (by decide +kernel) ?_
      refine j_icmp_ne F (pc := 22) (off := 16) (tgt := 38) (by decide +kernel) (by decide) (fun c => ?_) (fun c => ?_)
      · rw [if_neg c] at h
        refine u_X5_here_38 F Rt hk   _ hρ h
      · rw [if_pos c] at h
        refine j_aload_n F (pc := 25) (q := 0) (by decide +kernel) rfl ?_
        refine j_dup F (pc := 26) (by decide +kernel) rfl ?_
        refine j_getI F (pc := 27) fl_X5_158 (hk.s c_98) rfl (by decide +kernel) ?_
        refine j_iconst F (pc := 30) (n := 1) (v := 1) (by decide +kernel) (by decide +kernel) ?_
        refine j_iadd F (pc := 31) (by decide +kernel) ?_
        refine j_putI F (pc := 32) fl_X5_158 fp_X5_15 (hk.s c_98) rfl (by decide +kernel) ?_
        obtain ⟨μ1, e3, h⟩ := z_st_some h
        rw [← e3]
        have hρ2 : μ1.2.2 = ρ := by rw [e3]; exact hρ
        refine j_goto F (pc := 35) (off := -35) (tgt := 0) (by decide +kernel) (by decide) ?_
        exact ih  _ hρ2 h
set_option maxHeartbeats 4000000 in
set_option maxRecDepth 100000 in
theorem t_X5_here {G : z_Gl} {ρ : Nat → Nat → Option Nat} {μ : z_M} {r : Int32} {μr : z_M}  (hρ : μ.2.2 = ρ) (hk : z_ok (z_sh G) ρ) (h : f_X5_here  μ = some (r, μr)) : z_Ci G yX5_here cX5_here 1 (some .int) 0 [.ref 98] μ (fun r1 μ1 => r = r1 ∧ μr = μ1) := by
  unfold z_Ci
  refine z_intro (by decide +kernel) (Nat.le_of_ble_eq_true rfl) (fun E hE F Rt => ?_)
  subst hE
  have F : z_F E RX5 cX5_here 1 0 := F
  rw [hρ] at Rt
  unfold f_X5_here at h
  show z_J E 1 0 [some (.ref 98)] [] μ
  refine u_X5_here_0 F Rt hk  z_N  _ hρ h
def g_X5_readWord_18   : Nat → z_M → Option z_M
  | 0, _ => none
  | n + 1, μ => (if (μ.1 98 13) ≤ (μ.1 98 17) then (some μ) else (if z_in (μ.1 98 17) 240 then (z_b2 (f_X5_in (((μ.1 111 (μ.1 98 17).toNatClampNeg)).toInt64) ((97 : Int64)) ((122 : Int64)) μ) fun r14 μ15 => (if r14 = 0 then (some μ15) else (if (((lg_cmp (μ15.2.1 98 16) (1000000000000 : Int64)) ≤ 0) → z_in (μ15.1 98 17) 240) then (z_st (z_sl μ15 98 16 (if (lg_cmp (μ15.2.1 98 16) (1000000000000 : Int64)) ≤ 0 then ((((27 : Int64) * (μ15.2.1 98 16)) + ((μ15.1 111 (μ15.1 98 17).toNatClampNeg)).toInt64) - (96 : Int64)) else (2000000000000 : Int64))) fun μ21 => (z_st (z_si μ21 98 17 ((μ21.1 98 17) + (1 : Int32))) fun μ24 => (g_X5_readWord_18   n  μ24))) else none))) else none))
def f_X5_readWord  (μ : z_M) : Option z_M :=
  (z_b2 (f_X5_here  μ) fun r1 μ2 => (z_st (z_sl μ2 98 16 (0 : Int64)) fun μ8 => (z_st (z_si μ8 98 17 (μ8.1 98 15)) fun μ11 => (g_X5_readWord_18   z_N  μ11))))
set_option maxHeartbeats 4000000 in
set_option maxRecDepth 100000 in
theorem u_X5_readWord_18 {E : z_E} {ρ : Nat → Nat → Option Nat} {μr : z_M} (F : z_F E RX5 cX5_readWord 2 1) (Rt : z_R E none (fun v μ1 => μ1.2.2 = ρ ∧ v = none ∧ μr = μ1))  (hk : z_ok (z_sh E.1) ρ) : ∀ (n : Nat)  (μ : z_M), μ.2.2 = ρ → g_X5_readWord_18   n  μ = some μr → z_J E 2 18 [some (.ref 98), none] [] μ := by
  intro n
  induction n with
  | zero =>
    intro  μ hρ h
    rw [g_X5_readWord_18] at h
    cases h
  | succ n ih =>
    intro  μ hρ h
    rw [g_X5_readWord_18] at h
    refine j_aload_n F (pc := 18) (q := 0) (by decide +kernel) rfl ?_
    refine j_getI F (pc := 19) fl_X5_169 (hk.s c_98) rfl (by decide +kernel) ?_
    refine j_aload_n F (pc := 22) (q := 0) (by decide +kernel) rfl ?_
    refine j_getI F (pc := 23) fl_X5_153 (hk.s c_98) rfl (by decide +kernel) ?_
    refine j_icmp_ge F (pc := 26) (off := 82) (tgt := 108) (by decide +kernel) (by decide) (fun c => ?_) (fun c => ?_)
    · rw [if_pos c] at h
      exact j_vret (st := []) F Rt (by decide +kernel) ⟨hρ, rfl, (Option.some.inj h).symm⟩
    · rw [if_neg c] at h
      refine j_aload_n F (pc := 29) (q := 0) (by decide +kernel) rfl ?_
      refine j_getR F (pc := 30) (hk.r hρ r_98_12) fl_X5_47 (hk.s c_98) rfl (by decide +kernel) ?_
      refine j_aload_n F (pc := 33) (q := 0) (by decide +kernel) rfl ?_
      refine j_getI F (pc := 34) fl_X5_169 (hk.s c_98) rfl (by decide +kernel) ?_
      obtain ⟨hg, h⟩ := z_ifs h
      refine j_iald F (pc := 37) (hk.s c_111) hg (by decide +kernel) ?_
      refine j_i2l F (pc := 38) (by decide +kernel) ?_
      refine j_ldc2 F (pc := 39) m_1073 (by decide +kernel) ?_
      refine j_ldc2 F (pc := 42) m_1074 (by decide +kernel) ?_
      obtain ⟨r14, μ15, hc17, h⟩ := z_b2_some h
      refine j_callSi F (pc := 45) (idx := 138) (As := [.long ((μ.1 111 (μ.1 98 17).toNatClampNeg)).toInt64, .long (97 : Int64), .long (122 : Int64)]) (st := []) (t_X5_in (G := E.1) hρ  hc17) q_X5_in m_1050 m_1049 rfl (by decide) (Nat.le_of_ble_eq_true rfl) rfl (by decide +kernel) (fun s20 ν18 hq19 hp => ?_)
      obtain ⟨rfl, rfl⟩ := hp
      have hρ16 : μ15.2.2 = ρ := hq19.trans hρ
      refine j_if_eq F (pc := 48) (off := 60) (tgt := 108) (by decide +kernel) (by decide) (fun c => ?_) (fun c => ?_)
      · rw [if_pos c] at h
        exact j_vret (st := []) F Rt (by decide +kernel) ⟨hρ16, rfl, (Option.some.inj h).symm⟩
      · rw [if_neg c] at h
        refine j_aload_n F (pc := 51) (q := 0) (by decide +kernel) rfl ?_
        refine j_aload_n F (pc := 52) (q := 0) (by decide +kernel) rfl ?_
        refine j_getL F (pc := 53) fl_X5_165 (hk.s c_98) rfl (by decide +kernel) ?_
        refine j_ldc2 F (pc := 56) m_1075 (by decide +kernel) ?_
        refine j_lcmp F (pc := 59) (by decide +kernel) ?_
        obtain ⟨hg, h⟩ := z_ifs h
        suffices hj : z_J E 2 92 [some (.ref 98), none] (.long (if (lg_cmp (μ15.2.1 98 16) (1000000000000 : Int64)) ≤ 0 then ((((27 : Int64) * (μ15.2.1 98 16)) + ((μ15.1 111 (μ15.1 98 17).toNatClampNeg)).toInt64) - (96 : Int64)) else (2000000000000 : Int64)) :: [.ref 98]) μ15 by
          refine j_if_le F (pc := 60) (off := 9) (tgt := 69) (by decide +kernel) (by decide) (fun c0 => ?_) (fun c0 => ?_)
          · rw [if_pos c0] at hj
            refine j_ldc2 F (pc := 69) m_1077 (by decide +kernel) ?_
            refine j_aload_n F (pc := 72) (q := 0) (by decide +kernel) rfl ?_
            refine j_getL F (pc := 73) fl_X5_165 (hk.s c_98) rfl (by decide +kernel) ?_
            refine j_lmul F (pc := 76) (by decide +kernel) ?_
            refine j_aload_n F (pc := 77) (q := 0) (by decide +kernel) rfl ?_
            refine j_getR F (pc := 78) (hk.r hρ16 r_98_12) fl_X5_47 (hk.s c_98) rfl (by decide +kernel) ?_
            refine j_aload_n F (pc := 81) (q := 0) (by decide +kernel) rfl ?_
            refine j_getI F (pc := 82) fl_X5_169 (hk.s c_98) rfl (by decide +kernel) ?_
            refine j_iald F (pc := 85) (hk.s c_111) (hg c0) (by decide +kernel) ?_
            refine j_i2l F (pc := 86) (by decide +kernel) ?_
            refine j_ladd F (pc := 87) (by decide +kernel) ?_
            refine j_ldc2 F (pc := 88) m_1078 (by decide +kernel) ?_
            refine j_lsub F (pc := 91) (by decide +kernel) ?_
            exact hj
          · rw [if_neg c0] at hj
            refine j_ldc2 F (pc := 63) m_1076 (by decide +kernel) ?_
            refine j_goto F (pc := 66) (off := 26) (tgt := 92) (by decide +kernel) (by decide) ?_
            exact hj
        refine j_putL F (pc := 92) fl_X5_165 fp_X5_16 (hk.s c_98) rfl (by decide +kernel) ?_
        obtain ⟨μ21, e23, h⟩ := z_st_some h
        rw [← e23]
        have hρ22 : μ21.2.2 = ρ := by rw [e23]; exact hρ16
        refine j_aload_n F (pc := 95) (q := 0) (by decide +kernel) rfl ?_
        refine j_dup F (pc := 96) (by decide +kernel) rfl ?_
        refine j_getI F (pc := 97) fl_X5_169 (hk.s c_98) rfl (by decide +kernel) ?_
        refine j_iconst F (pc := 100) (n := 1) (v := 1) (by decide +kernel) (by decide +kernel) ?_
        refine j_iadd F (pc := 101) (by decide +kernel) ?_
        refine j_putI F (pc := 102) fl_X5_169 fp_X5_17 (hk.s c_98) rfl (by decide +kernel) ?_
        obtain ⟨μ24, e26, h⟩ := z_st_some h
        rw [← e26]
        have hρ25 : μ24.2.2 = ρ := by rw [e26]; exact hρ22
        refine j_goto F (pc := 105) (off := -87) (tgt := 18) (by decide +kernel) (by decide) ?_
        exact ih  _ hρ25 h
set_option maxHeartbeats 4000000 in
set_option maxRecDepth 100000 in
theorem t_X5_readWord {G : z_Gl} {ρ : Nat → Nat → Option Nat} {μ : z_M} {μr : z_M}  (hρ : μ.2.2 = ρ) (hk : z_ok (z_sh G) ρ) (h : f_X5_readWord  μ = some μr) : z_Cv G yX5_readWord cX5_readWord 2 none 1 [.ref 98] μ (fun μ1 => μr = μ1) := by
  unfold z_Cv
  refine z_intro (by decide +kernel) (Nat.le_of_ble_eq_true rfl) (fun E hE F Rt => ?_)
  subst hE
  have F : z_F E RX5 cX5_readWord 2 1 := F
  rw [hρ] at Rt
  unfold f_X5_readWord at h
  show z_J E 2 0 [some (.ref 98), none] [] μ
  refine j_aload_n F (pc := 0) (q := 0) (by decide +kernel) rfl ?_
  obtain ⟨r1, μ2, hc4, h⟩ := z_b2_some h
  refine j_callVi F (pc := 1) (idx := 161) (As := []) (st := []) (t_X5_here (G := E.1) hρ hk hc4) q_X5_here v_X5_here m_1061 (hk.s c_98) rfl rfl (by decide) (Nat.le_of_ble_eq_true rfl) rfl (by decide +kernel) (fun s7 ν5 hq6 hp => ?_)
  obtain ⟨rfl, rfl⟩ := hp
  have hρ3 : μ2.2.2 = ρ := hq6.trans hρ
  refine j_istore_n F (pc := 4) (q := 1) (L' := [some (.ref 98), some (.int r1)]) (by decide +kernel) (by decide) rfl rfl ?_
  refine j_aload_n F (pc := 5) (q := 0) (by decide +kernel) rfl ?_
  refine j_lconst F (pc := 6) (n := 0) (v := 0) (by decide +kernel) (by decide +kernel) ?_
  refine j_putL F (pc := 7) fl_X5_165 fp_X5_16 (hk.s c_98) rfl (by decide +kernel) ?_
  obtain ⟨μ8, e10, h⟩ := z_st_some h
  rw [← e10]
  have hρ9 : μ8.2.2 = ρ := by rw [e10]; exact hρ3
  refine j_aload_n F (pc := 10) (q := 0) (by decide +kernel) rfl ?_
  refine j_aload_n F (pc := 11) (q := 0) (by decide +kernel) rfl ?_
  refine j_getI F (pc := 12) fl_X5_158 (hk.s c_98) rfl (by decide +kernel) ?_
  refine j_putI F (pc := 15) fl_X5_169 fp_X5_17 (hk.s c_98) rfl (by decide +kernel) ?_
  obtain ⟨μ11, e13, h⟩ := z_st_some h
  rw [← e13]
  have hρ12 : μ11.2.2 = ρ := by rw [e13]; exact hρ9
  refine j_mk F [true, false] (L' := [some (.ref 98), none]) rfl ?_
  refine u_X5_readWord_18 F Rt hk  z_N  _ hρ12 h
/-- LastLentModel.code -/
def f_X5_code (x0 : Int32) (x1 : Int32) (x2 : Int32) (x3 : Int32) (μ : z_M) : Option (Int64 × z_M) :=
  (some (((((27 : Int64) * ((((27 : Int64) * ((((27 : Int64) * ((x0).toInt64 - (96 : Int64))) + (x1).toInt64) - (96 : Int64))) + (x2).toInt64) - (96 : Int64))) + (x3).toInt64) - (96 : Int64)), μ))
set_option maxHeartbeats 4000000 in
set_option maxRecDepth 100000 in
theorem t_X5_code {G : z_Gl} {ρ : Nat → Nat → Option Nat} {μ : z_M} {r : Int64} {μr : z_M} {x0 : Int32} {x1 : Int32} {x2 : Int32} {x3 : Int32} (hρ : μ.2.2 = ρ)  (h : f_X5_code x0 x1 x2 x3 μ = some (r, μr)) : z_Cl G yX5_code cX5_code 4 (some .long) 0 [.int x0, .int x1, .int x2, .int x3] μ (fun r1 μ1 => r = r1 ∧ μr = μ1) := by
  unfold z_Cl
  refine z_intro (by decide +kernel) (Nat.le_of_ble_eq_true rfl) (fun E hE F Rt => ?_)
  subst hE
  have F : z_F E RX5 cX5_code 4 0 := F
  rw [hρ] at Rt
  unfold f_X5_code at h
  show z_J E 4 0 [some (.int x0), some (.int x1), some (.int x2), some (.int x3)] [] μ
  refine j_ldc2 F (pc := 0) m_1077 (by decide +kernel) ?_
  refine j_ldc2 F (pc := 3) m_1077 (by decide +kernel) ?_
  refine j_ldc2 F (pc := 6) m_1077 (by decide +kernel) ?_
  refine j_iload_n F (pc := 9) (q := 0) (by decide +kernel) rfl ?_
  refine j_i2l F (pc := 10) (by decide +kernel) ?_
  refine j_ldc2 F (pc := 11) m_1078 (by decide +kernel) ?_
  refine j_lsub F (pc := 14) (by decide +kernel) ?_
  refine j_lmul F (pc := 15) (by decide +kernel) ?_
  refine j_iload_n F (pc := 16) (q := 1) (by decide +kernel) rfl ?_
  refine j_i2l F (pc := 17) (by decide +kernel) ?_
  refine j_ladd F (pc := 18) (by decide +kernel) ?_
  refine j_ldc2 F (pc := 19) m_1078 (by decide +kernel) ?_
  refine j_lsub F (pc := 22) (by decide +kernel) ?_
  refine j_lmul F (pc := 23) (by decide +kernel) ?_
  refine j_iload_n F (pc := 24) (q := 2) (by decide +kernel) rfl ?_
  refine j_i2l F (pc := 25) (by decide +kernel) ?_
  refine j_ladd F (pc := 26) (by decide +kernel) ?_
  refine j_ldc2 F (pc := 27) m_1078 (by decide +kernel) ?_
  refine j_lsub F (pc := 30) (by decide +kernel) ?_
  refine j_lmul F (pc := 31) (by decide +kernel) ?_
  refine j_iload_n F (pc := 32) (q := 3) (by decide +kernel) rfl ?_
  refine j_i2l F (pc := 33) (by decide +kernel) ?_
  refine j_ladd F (pc := 34) (by decide +kernel) ?_
  refine j_ldc2 F (pc := 35) m_1078 (by decide +kernel) ?_
  refine j_lsub F (pc := 38) (by decide +kernel) ?_
  exact j_lret (st := []) F Rt (by decide +kernel) ⟨hρ, _, rfl, (congrArg Prod.fst (Option.some.inj h)).symm, (congrArg Prod.snd (Option.some.inj h)).symm⟩
/-- LastLentModel.longer -/
def f_X5_longer (l0 : Int64) (x2 : Int32) (μ : z_M) : Option (Int64 × z_M) :=
  (some (((((27 : Int64) * l0) + (x2).toInt64) - (96 : Int64)), μ))
set_option maxHeartbeats 4000000 in
set_option maxRecDepth 100000 in
theorem t_X5_longer {G : z_Gl} {ρ : Nat → Nat → Option Nat} {μ : z_M} {r : Int64} {μr : z_M} {l0 : Int64} {x2 : Int32} (hρ : μ.2.2 = ρ)  (h : f_X5_longer l0 x2 μ = some (r, μr)) : z_Cl G yX5_longer cX5_longer 3 (some .long) 0 [.long l0, .int x2] μ (fun r1 μ1 => r = r1 ∧ μr = μ1) := by
  unfold z_Cl
  refine z_intro (by decide +kernel) (Nat.le_of_ble_eq_true rfl) (fun E hE F Rt => ?_)
  subst hE
  have F : z_F E RX5 cX5_longer 3 0 := F
  rw [hρ] at Rt
  unfold f_X5_longer at h
  show z_J E 3 0 [some (.long l0), none, some (.int x2)] [] μ
  refine j_ldc2 F (pc := 0) m_1077 (by decide +kernel) ?_
  refine j_lload_n F (pc := 3) (q := 0) (by decide +kernel) rfl ?_
  refine j_lmul F (pc := 4) (by decide +kernel) ?_
  refine j_iload_n F (pc := 5) (q := 2) (by decide +kernel) rfl ?_
  refine j_i2l F (pc := 6) (by decide +kernel) ?_
  refine j_ladd F (pc := 7) (by decide +kernel) ?_
  refine j_ldc2 F (pc := 8) m_1078 (by decide +kernel) ?_
  refine j_lsub F (pc := 11) (by decide +kernel) ?_
  exact j_lret (st := []) F Rt (by decide +kernel) ⟨hρ, _, rfl, (congrArg Prod.fst (Option.some.inj h)).symm, (congrArg Prod.snd (Option.some.inj h)).symm⟩
def g_X5_clauseOf_292   (x5 : Int32) (xs0 : Int32) (μ : z_M) : Option (Int32 × z_M) :=
  (some ((if x5 < 0 then xs0 else x5), μ))
def g_X5_clauseOf_170   (x3 : Int64) (xs0 : Int32) (μ : z_M) : Option (Int32 × z_M) :=
  (if (lg_cmp (μ.2.1 98 16) x3) = 0 then (g_X5_clauseOf_292   (xs0) ((5 : Int32)) μ) else (z_b2 (f_X5_code ((100 : Int32)) ((105 : Int32)) ((101 : Int32)) ((115 : Int32)) μ) fun r99 μ100 => (if (lg_cmp (μ.2.1 98 16) r99) = 0 then (g_X5_clauseOf_292   (xs0) ((6 : Int32)) μ100) else (z_b2 (f_X5_code ((108 : Int32)) ((101 : Int32)) ((97 : Int32)) ((118 : Int32)) μ100) fun r106 μ107 => (z_b2 (f_X5_longer (r106) ((101 : Int32)) μ107) fun r113 μ114 => (if (lg_cmp (μ100.2.1 98 16) r113) = 0 then (g_X5_clauseOf_292   (xs0) ((7 : Int32)) μ114) else (z_b2 (f_X5_code ((115 : Int32)) ((97 : Int32)) ((108 : Int32)) ((101 : Int32)) μ114) fun r120 μ121 => (if (lg_cmp (μ114.2.1 98 16) r120) = 0 then (g_X5_clauseOf_292   (xs0) ((8 : Int32)) μ121) else (z_b2 (f_X5_code ((99 : Int32)) ((111 : Int32)) ((115 : Int32)) ((116 : Int32)) μ121) fun r127 μ128 => (z_b2 (f_X5_longer (r127) ((115 : Int32)) μ128) fun r134 μ135 => (if (lg_cmp (μ121.2.1 98 16) r134) = 0 then (g_X5_clauseOf_292   (xs0) ((9 : Int32)) μ135) else (g_X5_clauseOf_292   (xs0) ((-1 : Int32)) μ135))))))))))))
def f_X5_clauseOf  (μ : z_M) : Option (Int32 × z_M) :=
  (z_b2 (f_X5_code ((98 : Int32)) ((101 : Int32)) ((104 : Int32)) ((105 : Int32)) μ) fun r1 μ2 => (z_b2 (f_X5_longer (r1) ((110 : Int32)) μ2) fun r8 μ9 => (z_b2 (f_X5_longer (r8) ((100 : Int32)) μ9) fun r15 μ16 => (z_b2 (f_X5_code ((119 : Int32)) ((105 : Int32)) ((116 : Int32)) ((104 : Int32)) μ16) fun r22 μ23 => (z_b2 (f_X5_longer (r22) ((105 : Int32)) μ23) fun r29 μ30 => (z_b2 (f_X5_longer (r29) ((110 : Int32)) μ30) fun r36 μ37 => (z_b2 (f_X5_code ((114 : Int32)) ((105 : Int32)) ((100 : Int32)) ((101 : Int32)) μ37) fun r43 μ44 => (z_b2 (f_X5_longer (r43) ((115 : Int32)) μ44) fun r50 μ51 => (if (lg_cmp (μ37.2.1 98 16) r50) = 0 then (g_X5_clauseOf_170   (r36) ((0 : Int32)) μ51) else (z_b2 (f_X5_code ((97 : Int32)) ((104 : Int32)) ((101 : Int32)) ((97 : Int32)) μ51) fun r57 μ58 => (z_b2 (f_X5_longer (r57) ((100 : Int32)) μ58) fun r64 μ65 => (if (lg_cmp (μ51.2.1 98 16) r64) = 0 then (g_X5_clauseOf_170   (r36) ((1 : Int32)) μ65) else (z_b2 (f_X5_code ((102 : Int32)) ((105 : Int32)) ((114 : Int32)) ((115 : Int32)) μ65) fun r71 μ72 => (z_b2 (f_X5_longer (r71) ((116 : Int32)) μ72) fun r78 μ79 => (if (lg_cmp (μ65.2.1 98 16) r78) = 0 then (g_X5_clauseOf_170   (r36) ((2 : Int32)) μ79) else (if (lg_cmp (μ79.2.1 98 16) r15) = 0 then (g_X5_clauseOf_170   (r36) ((3 : Int32)) μ79) else (z_b2 (f_X5_code ((108 : Int32)) ((97 : Int32)) ((116 : Int32)) ((101 : Int32)) μ79) fun r85 μ86 => (z_b2 (f_X5_longer (r85) ((114 : Int32)) μ86) fun r92 μ93 => (if (lg_cmp (μ79.2.1 98 16) r92) = 0 then (g_X5_clauseOf_170   (r36) ((4 : Int32)) μ93) else (g_X5_clauseOf_170   (r36) ((-1 : Int32)) μ93))))))))))))))))))))
set_option maxHeartbeats 4000000 in
set_option maxRecDepth 100000 in
theorem u_X5_clauseOf_292 {E : z_E} {ρ : Nat → Nat → Option Nat} {r : Int32} {μr : z_M} (F : z_F E RX5 cX5_clauseOf 7 1) (Rt : z_R E (some .int) (fun v μ1 => μ1.2.2 = ρ ∧ ∃ r1, v = some (.int r1) ∧ r = r1 ∧ μr = μ1))  (hk : z_ok (z_sh E.1) ρ) : ∀ (x5 : Int32) (xs0 : Int32) (μ : z_M), μ.2.2 = ρ → g_X5_clauseOf_292   x5 xs0 μ = some (r, μr) → z_J E 7 292 [none, none, none, none, none, some (.int x5), none] [.int xs0] μ := by
  intro x5 xs0 μ hρ h
  unfold g_X5_clauseOf_292 at h
  refine j_istore F (pc := 292) (i := 6) (L' := [none, none, none, none, none, some (.int x5), some (.int xs0)]) (by decide +kernel) (by decide) rfl rfl ?_
  refine j_iload F (pc := 294) (i := 5) (by decide +kernel) rfl ?_
  suffices hj : z_J E 7 306 [none, none, none, none, none, some (.int x5), some (.int xs0)] (.int (if x5 < 0 then xs0 else x5) :: []) μ by
    refine j_if_lt F (pc := 296) (off := 8) (tgt := 304) (by decide +kernel) (by decide) (fun c0 => ?_) (fun c0 => ?_)
    · rw [if_pos c0] at hj
      refine j_iload F (pc := 304) (i := 6) (by decide +kernel) rfl ?_
      exact hj
    · rw [if_neg c0] at hj
      refine j_iload F (pc := 299) (i := 5) (by decide +kernel) rfl ?_
      refine j_goto F (pc := 301) (off := 5) (tgt := 306) (by decide +kernel) (by decide) ?_
      exact hj
  exact j_iret (st := []) F Rt rfl (by decide +kernel) ⟨hρ, _, rfl, (congrArg Prod.fst (Option.some.inj h)).symm, (congrArg Prod.snd (Option.some.inj h)).symm⟩
set_option maxHeartbeats 4000000 in
set_option maxRecDepth 100000 in
theorem u_X5_clauseOf_170 {E : z_E} {ρ : Nat → Nat → Option Nat} {r : Int32} {μr : z_M} (F : z_F E RX5 cX5_clauseOf 7 1) (Rt : z_R E (some .int) (fun v μ1 => μ1.2.2 = ρ ∧ ∃ r1, v = some (.int r1) ∧ r = r1 ∧ μr = μ1))  (hk : z_ok (z_sh E.1) ρ) : ∀ (x3 : Int64) (xs0 : Int32) (μ : z_M), μ.2.2 = ρ → g_X5_clauseOf_170   x3 xs0 μ = some (r, μr) → z_J E 7 170 [some (.ref 98), none, none, some (.long x3), none, none, none] [.int xs0] μ := by
  intro x3 xs0 μ hρ h
  unfold g_X5_clauseOf_170 at h
  refine j_istore F (pc := 170) (i := 5) (L' := [some (.ref 98), none, none, some (.long x3), none, some (.int xs0), none]) (by decide +kernel) (by decide) rfl rfl ?_
  refine j_aload_n F (pc := 172) (q := 0) (by decide +kernel) rfl ?_
  refine j_getL F (pc := 173) fl_X5_165 (hk.s c_98) rfl (by decide +kernel) ?_
  refine j_lload_n F (pc := 176) (q := 3) (by decide +kernel) rfl ?_
  refine j_lcmp F (pc := 177) (by decide +kernel) ?_
  refine j_if_ne F (pc := 178) (off := 7) (tgt := 185) (by decide +kernel) (by decide) (fun c => ?_) (fun c => ?_)
  · rw [if_neg c] at h
    refine j_aload_n F (pc := 185) (q := 0) (by decide +kernel) rfl ?_
    refine j_getL F (pc := 186) fl_X5_165 (hk.s c_98) rfl (by decide +kernel) ?_
    refine j_bipush F (pc := 189) (n := 100) (v := 100) (by decide +kernel) (by decide +kernel) ?_
    refine j_bipush F (pc := 191) (n := 105) (v := 105) (by decide +kernel) (by decide +kernel) ?_
    refine j_bipush F (pc := 193) (n := 101) (v := 101) (by decide +kernel) (by decide +kernel) ?_
    refine j_bipush F (pc := 195) (n := 115) (v := 115) (by decide +kernel) (by decide +kernel) ?_
    obtain ⟨r99, μ100, hc102, h⟩ := z_b2_some h
    refine j_callSl F (pc := 197) (idx := 184) (As := [.int (100 : Int32), .int (105 : Int32), .int (101 : Int32), .int (115 : Int32)]) (st := [.long (μ.2.1 98 16)]) (t_X5_code (G := E.1) hρ  hc102) q_X5_code m_1084 m_1083 rfl (by decide) (Nat.le_of_ble_eq_true rfl) rfl (by decide +kernel) (fun s105 ν103 hq104 hp => ?_)
    obtain ⟨rfl, rfl⟩ := hp
    have hρ101 : μ100.2.2 = ρ := hq104.trans hρ
    refine j_lcmp F (pc := 200) (by decide +kernel) ?_
    refine j_if_ne F (pc := 201) (off := 8) (tgt := 209) (by decide +kernel) (by decide) (fun c => ?_) (fun c => ?_)
    · rw [if_neg c] at h
      refine j_aload_n F (pc := 209) (q := 0) (by decide +kernel) rfl ?_
      refine j_getL F (pc := 210) fl_X5_165 (hk.s c_98) rfl (by decide +kernel) ?_
      refine j_bipush F (pc := 213) (n := 108) (v := 108) (by decide +kernel) (by decide +kernel) ?_
      refine j_bipush F (pc := 215) (n := 101) (v := 101) (by decide +kernel) (by decide +kernel) ?_
      refine j_bipush F (pc := 217) (n := 97) (v := 97) (by decide +kernel) (by decide +kernel) ?_
      refine j_bipush F (pc := 219) (n := 118) (v := 118) (by decide +kernel) (by decide +kernel) ?_
      obtain ⟨r106, μ107, hc109, h⟩ := z_b2_some h
      refine j_callSl F (pc := 221) (idx := 184) (As := [.int (108 : Int32), .int (101 : Int32), .int (97 : Int32), .int (118 : Int32)]) (st := [.long (μ100.2.1 98 16)]) (t_X5_code (G := E.1) hρ101  hc109) q_X5_code m_1084 m_1083 rfl (by decide) (Nat.le_of_ble_eq_true rfl) rfl (by decide +kernel) (fun s112 ν110 hq111 hp => ?_)
      obtain ⟨rfl, rfl⟩ := hp
      have hρ108 : μ107.2.2 = ρ := hq111.trans hρ101
      refine j_bipush F (pc := 224) (n := 101) (v := 101) (by decide +kernel) (by decide +kernel) ?_
      obtain ⟨r113, μ114, hc116, h⟩ := z_b2_some h
      refine j_callSl F (pc := 226) (idx := 188) (As := [.long r106, .int (101 : Int32)]) (st := [.long (μ100.2.1 98 16)]) (t_X5_longer (G := E.1) hρ108  hc116) q_X5_longer m_1087 m_1086 rfl (by decide) (Nat.le_of_ble_eq_true rfl) rfl (by decide +kernel) (fun s119 ν117 hq118 hp => ?_)
      obtain ⟨rfl, rfl⟩ := hp
      have hρ115 : μ114.2.2 = ρ := hq118.trans hρ108
      refine j_lcmp F (pc := 229) (by decide +kernel) ?_
      refine j_if_ne F (pc := 230) (off := 8) (tgt := 238) (by decide +kernel) (by decide) (fun c => ?_) (fun c => ?_)
      · rw [if_neg c] at h
        refine j_aload_n F (pc := 238) (q := 0) (by decide +kernel) rfl ?_
        refine j_getL F (pc := 239) fl_X5_165 (hk.s c_98) rfl (by decide +kernel) ?_
        refine j_bipush F (pc := 242) (n := 115) (v := 115) (by decide +kernel) (by decide +kernel) ?_
        refine j_bipush F (pc := 244) (n := 97) (v := 97) (by decide +kernel) (by decide +kernel) ?_
        refine j_bipush F (pc := 246) (n := 108) (v := 108) (by decide +kernel) (by decide +kernel) ?_
        refine j_bipush F (pc := 248) (n := 101) (v := 101) (by decide +kernel) (by decide +kernel) ?_
        obtain ⟨r120, μ121, hc123, h⟩ := z_b2_some h
        refine j_callSl F (pc := 250) (idx := 184) (As := [.int (115 : Int32), .int (97 : Int32), .int (108 : Int32), .int (101 : Int32)]) (st := [.long (μ114.2.1 98 16)]) (t_X5_code (G := E.1) hρ115  hc123) q_X5_code m_1084 m_1083 rfl (by decide) (Nat.le_of_ble_eq_true rfl) rfl (by decide +kernel) (fun s126 ν124 hq125 hp => ?_)
        obtain ⟨rfl, rfl⟩ := hp
        have hρ122 : μ121.2.2 = ρ := hq125.trans hρ115
        refine j_lcmp F (pc := 253) (by decide +kernel) ?_
        refine j_if_ne F (pc := 254) (off := 8) (tgt := 262) (by decide +kernel) (by decide) (fun c => ?_) (fun c => ?_)
        · rw [if_neg c] at h
          refine j_aload_n F (pc := 262) (q := 0) (by decide +kernel) rfl ?_
          refine j_getL F (pc := 263) fl_X5_165 (hk.s c_98) rfl (by decide +kernel) ?_
          refine j_bipush F (pc := 266) (n := 99) (v := 99) (by decide +kernel) (by decide +kernel) ?_
          refine j_bipush F (pc := 268) (n := 111) (v := 111) (by decide +kernel) (by decide +kernel) ?_
          refine j_bipush F (pc := 270) (n := 115) (v := 115) (by decide +kernel) (by decide +kernel) ?_
          refine j_bipush F (pc := 272) (n := 116) (v := 116) (by decide +kernel) (by decide +kernel) ?_
          obtain ⟨r127, μ128, hc130, h⟩ := z_b2_some h
          refine j_callSl F (pc := 274) (idx := 184) (As := [.int (99 : Int32), .int (111 : Int32), .int (115 : Int32), .int (116 : Int32)]) (st := [.long (μ121.2.1 98 16)]) (t_X5_code (G := E.1) hρ122  hc130) q_X5_code m_1084 m_1083 rfl (by decide) (Nat.le_of_ble_eq_true rfl) rfl (by decide +kernel) (fun s133 ν131 hq132 hp => ?_)
          obtain ⟨rfl, rfl⟩ := hp
          have hρ129 : μ128.2.2 = ρ := hq132.trans hρ122
          refine j_bipush F (pc := 277) (n := 115) (v := 115) (by decide +kernel) (by decide +kernel) ?_
          obtain ⟨r134, μ135, hc137, h⟩ := z_b2_some h
          refine j_callSl F (pc := 279) (idx := 188) (As := [.long r127, .int (115 : Int32)]) (st := [.long (μ121.2.1 98 16)]) (t_X5_longer (G := E.1) hρ129  hc137) q_X5_longer m_1087 m_1086 rfl (by decide) (Nat.le_of_ble_eq_true rfl) rfl (by decide +kernel) (fun s140 ν138 hq139 hp => ?_)
          obtain ⟨rfl, rfl⟩ := hp
          have hρ136 : μ135.2.2 = ρ := hq139.trans hρ129
          refine j_lcmp F (pc := 282) (by decide +kernel) ?_
          refine j_if_ne F (pc := 283) (off := 8) (tgt := 291) (by decide +kernel) (by decide) (fun c => ?_) (fun c => ?_)
          · rw [if_neg c] at h
            refine j_iconst F (pc := 291) (n := -1) (v := -1) (by decide +kernel) (by decide +kernel) ?_
            refine j_mk F [false, false, false, false, false, true, false] (L' := [none, none, none, none, none, some (.int xs0), none]) rfl ?_
            refine u_X5_clauseOf_292 F Rt hk  _ _ _ hρ136 h
          · rw [if_pos c] at h
            refine j_bipush F (pc := 286) (n := 9) (v := 9) (by decide +kernel) (by decide +kernel) ?_
            refine j_goto F (pc := 288) (off := 4) (tgt := 292) (by decide +kernel) (by decide) ?_
            refine j_mk F [false, false, false, false, false, true, false] (L' := [none, none, none, none, none, some (.int xs0), none]) rfl ?_
            refine u_X5_clauseOf_292 F Rt hk  _ _ _ hρ136 h
        · rw [if_pos c] at h
          refine j_bipush F (pc := 257) (n := 8) (v := 8) (by decide +kernel) (by decide +kernel) ?_
          refine j_goto F (pc := 259) (off := 33) (tgt := 292) (by decide +kernel) (by decide) ?_
          refine j_mk F [false, false, false, false, false, true, false] (L' := [none, none, none, none, none, some (.int xs0), none]) rfl ?_
          refine u_X5_clauseOf_292 F Rt hk  _ _ _ hρ122 h
      · rw [if_pos c] at h
        refine j_bipush F (pc := 233) (n := 7) (v := 7) (by decide +kernel) (by decide +kernel) ?_
        refine j_goto F (pc := 235) (off := 57) (tgt := 292) (by decide +kernel) (by decide) ?_
        refine j_mk F [false, false, false, false, false, true, false] (L' := [none, none, none, none, none, some (.int xs0), none]) rfl ?_
        refine u_X5_clauseOf_292 F Rt hk  _ _ _ hρ115 h
    · rw [if_pos c] at h
      refine j_bipush F (pc := 204) (n := 6) (v := 6) (by decide +kernel) (by decide +kernel) ?_
      refine j_goto F (pc := 206) (off := 86) (tgt := 292) (by decide +kernel) (by decide) ?_
      refine j_mk F [false, false, false, false, false, true, false] (L' := [none, none, none, none, none, some (.int xs0), none]) rfl ?_
      refine u_X5_clauseOf_292 F Rt hk  _ _ _ hρ101 h
  · rw [if_pos c] at h
    refine j_iconst F (pc := 181) (n := 5) (v := 5) (by decide +kernel) (by decide +kernel) ?_
    refine j_goto F (pc := 182) (off := 110) (tgt := 292) (by decide +kernel) (by decide) ?_
    refine j_mk F [false, false, false, false, false, true, false] (L' := [none, none, none, none, none, some (.int xs0), none]) rfl ?_
    refine u_X5_clauseOf_292 F Rt hk  _ _ _ hρ h
set_option maxHeartbeats 4000000 in
set_option maxRecDepth 100000 in
theorem t_X5_clauseOf {G : z_Gl} {ρ : Nat → Nat → Option Nat} {μ : z_M} {r : Int32} {μr : z_M}  (hρ : μ.2.2 = ρ) (hk : z_ok (z_sh G) ρ) (h : f_X5_clauseOf  μ = some (r, μr)) : z_Ci G yX5_clauseOf cX5_clauseOf 7 (some .int) 1 [.ref 98] μ (fun r1 μ1 => r = r1 ∧ μr = μ1) := by
  unfold z_Ci
  refine z_intro (by decide +kernel) (Nat.le_of_ble_eq_true rfl) (fun E hE F Rt => ?_)
  subst hE
  have F : z_F E RX5 cX5_clauseOf 7 1 := F
  rw [hρ] at Rt
  unfold f_X5_clauseOf at h
  show z_J E 7 0 [some (.ref 98), none, none, none, none, none, none] [] μ
  refine j_bipush F (pc := 0) (n := 98) (v := 98) (by decide +kernel) (by decide +kernel) ?_
  refine j_bipush F (pc := 2) (n := 101) (v := 101) (by decide +kernel) (by decide +kernel) ?_
  refine j_bipush F (pc := 4) (n := 104) (v := 104) (by decide +kernel) (by decide +kernel) ?_
  refine j_bipush F (pc := 6) (n := 105) (v := 105) (by decide +kernel) (by decide +kernel) ?_
  obtain ⟨r1, μ2, hc4, h⟩ := z_b2_some h
  refine j_callSl F (pc := 8) (idx := 184) (As := [.int (98 : Int32), .int (101 : Int32), .int (104 : Int32), .int (105 : Int32)]) (st := []) (t_X5_code (G := E.1) hρ  hc4) q_X5_code m_1084 m_1083 rfl (by decide) (Nat.le_of_ble_eq_true rfl) rfl (by decide +kernel) (fun s7 ν5 hq6 hp => ?_)
  obtain ⟨rfl, rfl⟩ := hp
  have hρ3 : μ2.2.2 = ρ := hq6.trans hρ
  refine j_bipush F (pc := 11) (n := 110) (v := 110) (by decide +kernel) (by decide +kernel) ?_
  obtain ⟨r8, μ9, hc11, h⟩ := z_b2_some h
  refine j_callSl F (pc := 13) (idx := 188) (As := [.long r1, .int (110 : Int32)]) (st := []) (t_X5_longer (G := E.1) hρ3  hc11) q_X5_longer m_1087 m_1086 rfl (by decide) (Nat.le_of_ble_eq_true rfl) rfl (by decide +kernel) (fun s14 ν12 hq13 hp => ?_)
  obtain ⟨rfl, rfl⟩ := hp
  have hρ10 : μ9.2.2 = ρ := hq13.trans hρ3
  refine j_bipush F (pc := 16) (n := 100) (v := 100) (by decide +kernel) (by decide +kernel) ?_
  obtain ⟨r15, μ16, hc18, h⟩ := z_b2_some h
  refine j_callSl F (pc := 18) (idx := 188) (As := [.long r8, .int (100 : Int32)]) (st := []) (t_X5_longer (G := E.1) hρ10  hc18) q_X5_longer m_1087 m_1086 rfl (by decide) (Nat.le_of_ble_eq_true rfl) rfl (by decide +kernel) (fun s21 ν19 hq20 hp => ?_)
  obtain ⟨rfl, rfl⟩ := hp
  have hρ17 : μ16.2.2 = ρ := hq20.trans hρ10
  refine j_lstore_n F (pc := 21) (q := 1) (L' := [some (.ref 98), some (.long r15), none, none, none, none, none]) (by decide +kernel) (by decide) rfl rfl ?_
  refine j_bipush F (pc := 22) (n := 119) (v := 119) (by decide +kernel) (by decide +kernel) ?_
  refine j_bipush F (pc := 24) (n := 105) (v := 105) (by decide +kernel) (by decide +kernel) ?_
  refine j_bipush F (pc := 26) (n := 116) (v := 116) (by decide +kernel) (by decide +kernel) ?_
  refine j_bipush F (pc := 28) (n := 104) (v := 104) (by decide +kernel) (by decide +kernel) ?_
  obtain ⟨r22, μ23, hc25, h⟩ := z_b2_some h
  refine j_callSl F (pc := 30) (idx := 184) (As := [.int (119 : Int32), .int (105 : Int32), .int (116 : Int32), .int (104 : Int32)]) (st := []) (t_X5_code (G := E.1) hρ17  hc25) q_X5_code m_1084 m_1083 rfl (by decide) (Nat.le_of_ble_eq_true rfl) rfl (by decide +kernel) (fun s28 ν26 hq27 hp => ?_)
  obtain ⟨rfl, rfl⟩ := hp
  have hρ24 : μ23.2.2 = ρ := hq27.trans hρ17
  refine j_bipush F (pc := 33) (n := 105) (v := 105) (by decide +kernel) (by decide +kernel) ?_
  obtain ⟨r29, μ30, hc32, h⟩ := z_b2_some h
  refine j_callSl F (pc := 35) (idx := 188) (As := [.long r22, .int (105 : Int32)]) (st := []) (t_X5_longer (G := E.1) hρ24  hc32) q_X5_longer m_1087 m_1086 rfl (by decide) (Nat.le_of_ble_eq_true rfl) rfl (by decide +kernel) (fun s35 ν33 hq34 hp => ?_)
  obtain ⟨rfl, rfl⟩ := hp
  have hρ31 : μ30.2.2 = ρ := hq34.trans hρ24
  refine j_bipush F (pc := 38) (n := 110) (v := 110) (by decide +kernel) (by decide +kernel) ?_
  obtain ⟨r36, μ37, hc39, h⟩ := z_b2_some h
  refine j_callSl F (pc := 40) (idx := 188) (As := [.long r29, .int (110 : Int32)]) (st := []) (t_X5_longer (G := E.1) hρ31  hc39) q_X5_longer m_1087 m_1086 rfl (by decide) (Nat.le_of_ble_eq_true rfl) rfl (by decide +kernel) (fun s42 ν40 hq41 hp => ?_)
  obtain ⟨rfl, rfl⟩ := hp
  have hρ38 : μ37.2.2 = ρ := hq41.trans hρ31
  refine j_lstore_n F (pc := 43) (q := 3) (L' := [some (.ref 98), some (.long r15), none, some (.long r36), none, none, none]) (by decide +kernel) (by decide) rfl rfl ?_
  refine j_aload_n F (pc := 44) (q := 0) (by decide +kernel) rfl ?_
  refine j_getL F (pc := 45) fl_X5_165 (hk.s c_98) rfl (by decide +kernel) ?_
  refine j_bipush F (pc := 48) (n := 114) (v := 114) (by decide +kernel) (by decide +kernel) ?_
  refine j_bipush F (pc := 50) (n := 105) (v := 105) (by decide +kernel) (by decide +kernel) ?_
  refine j_bipush F (pc := 52) (n := 100) (v := 100) (by decide +kernel) (by decide +kernel) ?_
  refine j_bipush F (pc := 54) (n := 101) (v := 101) (by decide +kernel) (by decide +kernel) ?_
  obtain ⟨r43, μ44, hc46, h⟩ := z_b2_some h
  refine j_callSl F (pc := 56) (idx := 184) (As := [.int (114 : Int32), .int (105 : Int32), .int (100 : Int32), .int (101 : Int32)]) (st := [.long (μ37.2.1 98 16)]) (t_X5_code (G := E.1) hρ38  hc46) q_X5_code m_1084 m_1083 rfl (by decide) (Nat.le_of_ble_eq_true rfl) rfl (by decide +kernel) (fun s49 ν47 hq48 hp => ?_)
  obtain ⟨rfl, rfl⟩ := hp
  have hρ45 : μ44.2.2 = ρ := hq48.trans hρ38
  refine j_bipush F (pc := 59) (n := 115) (v := 115) (by decide +kernel) (by decide +kernel) ?_
  obtain ⟨r50, μ51, hc53, h⟩ := z_b2_some h
  refine j_callSl F (pc := 61) (idx := 188) (As := [.long r43, .int (115 : Int32)]) (st := [.long (μ37.2.1 98 16)]) (t_X5_longer (G := E.1) hρ45  hc53) q_X5_longer m_1087 m_1086 rfl (by decide) (Nat.le_of_ble_eq_true rfl) rfl (by decide +kernel) (fun s56 ν54 hq55 hp => ?_)
  obtain ⟨rfl, rfl⟩ := hp
  have hρ52 : μ51.2.2 = ρ := hq55.trans hρ45
  refine j_lcmp F (pc := 64) (by decide +kernel) ?_
  refine j_if_ne F (pc := 65) (off := 7) (tgt := 72) (by decide +kernel) (by decide) (fun c => ?_) (fun c => ?_)
  · rw [if_neg c] at h
    refine j_aload_n F (pc := 72) (q := 0) (by decide +kernel) rfl ?_
    refine j_getL F (pc := 73) fl_X5_165 (hk.s c_98) rfl (by decide +kernel) ?_
    refine j_bipush F (pc := 76) (n := 97) (v := 97) (by decide +kernel) (by decide +kernel) ?_
    refine j_bipush F (pc := 78) (n := 104) (v := 104) (by decide +kernel) (by decide +kernel) ?_
    refine j_bipush F (pc := 80) (n := 101) (v := 101) (by decide +kernel) (by decide +kernel) ?_
    refine j_bipush F (pc := 82) (n := 97) (v := 97) (by decide +kernel) (by decide +kernel) ?_
    obtain ⟨r57, μ58, hc60, h⟩ := z_b2_some h
    refine j_callSl F (pc := 84) (idx := 184) (As := [.int (97 : Int32), .int (104 : Int32), .int (101 : Int32), .int (97 : Int32)]) (st := [.long (μ51.2.1 98 16)]) (t_X5_code (G := E.1) hρ52  hc60) q_X5_code m_1084 m_1083 rfl (by decide) (Nat.le_of_ble_eq_true rfl) rfl (by decide +kernel) (fun s63 ν61 hq62 hp => ?_)
    obtain ⟨rfl, rfl⟩ := hp
    have hρ59 : μ58.2.2 = ρ := hq62.trans hρ52
    refine j_bipush F (pc := 87) (n := 100) (v := 100) (by decide +kernel) (by decide +kernel) ?_
    obtain ⟨r64, μ65, hc67, h⟩ := z_b2_some h
    refine j_callSl F (pc := 89) (idx := 188) (As := [.long r57, .int (100 : Int32)]) (st := [.long (μ51.2.1 98 16)]) (t_X5_longer (G := E.1) hρ59  hc67) q_X5_longer m_1087 m_1086 rfl (by decide) (Nat.le_of_ble_eq_true rfl) rfl (by decide +kernel) (fun s70 ν68 hq69 hp => ?_)
    obtain ⟨rfl, rfl⟩ := hp
    have hρ66 : μ65.2.2 = ρ := hq69.trans hρ59
    refine j_lcmp F (pc := 92) (by decide +kernel) ?_
    refine j_if_ne F (pc := 93) (off := 7) (tgt := 100) (by decide +kernel) (by decide) (fun c => ?_) (fun c => ?_)
    · rw [if_neg c] at h
      refine j_aload_n F (pc := 100) (q := 0) (by decide +kernel) rfl ?_
      refine j_getL F (pc := 101) fl_X5_165 (hk.s c_98) rfl (by decide +kernel) ?_
      refine j_bipush F (pc := 104) (n := 102) (v := 102) (by decide +kernel) (by decide +kernel) ?_
      refine j_bipush F (pc := 106) (n := 105) (v := 105) (by decide +kernel) (by decide +kernel) ?_
      refine j_bipush F (pc := 108) (n := 114) (v := 114) (by decide +kernel) (by decide +kernel) ?_
      refine j_bipush F (pc := 110) (n := 115) (v := 115) (by decide +kernel) (by decide +kernel) ?_
      obtain ⟨r71, μ72, hc74, h⟩ := z_b2_some h
      refine j_callSl F (pc := 112) (idx := 184) (As := [.int (102 : Int32), .int (105 : Int32), .int (114 : Int32), .int (115 : Int32)]) (st := [.long (μ65.2.1 98 16)]) (t_X5_code (G := E.1) hρ66  hc74) q_X5_code m_1084 m_1083 rfl (by decide) (Nat.le_of_ble_eq_true rfl) rfl (by decide +kernel) (fun s77 ν75 hq76 hp => ?_)
      obtain ⟨rfl, rfl⟩ := hp
      have hρ73 : μ72.2.2 = ρ := hq76.trans hρ66
      refine j_bipush F (pc := 115) (n := 116) (v := 116) (by decide +kernel) (by decide +kernel) ?_
      obtain ⟨r78, μ79, hc81, h⟩ := z_b2_some h
      refine j_callSl F (pc := 117) (idx := 188) (As := [.long r71, .int (116 : Int32)]) (st := [.long (μ65.2.1 98 16)]) (t_X5_longer (G := E.1) hρ73  hc81) q_X5_longer m_1087 m_1086 rfl (by decide) (Nat.le_of_ble_eq_true rfl) rfl (by decide +kernel) (fun s84 ν82 hq83 hp => ?_)
      obtain ⟨rfl, rfl⟩ := hp
      have hρ80 : μ79.2.2 = ρ := hq83.trans hρ73
      refine j_lcmp F (pc := 120) (by decide +kernel) ?_
      refine j_if_ne F (pc := 121) (off := 7) (tgt := 128) (by decide +kernel) (by decide) (fun c => ?_) (fun c => ?_)
      · rw [if_neg c] at h
        refine j_aload_n F (pc := 128) (q := 0) (by decide +kernel) rfl ?_
        refine j_getL F (pc := 129) fl_X5_165 (hk.s c_98) rfl (by decide +kernel) ?_
        refine j_lload_n F (pc := 132) (q := 1) (by decide +kernel) rfl ?_
        refine j_lcmp F (pc := 133) (by decide +kernel) ?_
        refine j_if_ne F (pc := 134) (off := 7) (tgt := 141) (by decide +kernel) (by decide) (fun c => ?_) (fun c => ?_)
        · rw [if_neg c] at h
          refine j_aload_n F (pc := 141) (q := 0) (by decide +kernel) rfl ?_
          refine j_getL F (pc := 142) fl_X5_165 (hk.s c_98) rfl (by decide +kernel) ?_
          refine j_bipush F (pc := 145) (n := 108) (v := 108) (by decide +kernel) (by decide +kernel) ?_
          refine j_bipush F (pc := 147) (n := 97) (v := 97) (by decide +kernel) (by decide +kernel) ?_
          refine j_bipush F (pc := 149) (n := 116) (v := 116) (by decide +kernel) (by decide +kernel) ?_
          refine j_bipush F (pc := 151) (n := 101) (v := 101) (by decide +kernel) (by decide +kernel) ?_
          obtain ⟨r85, μ86, hc88, h⟩ := z_b2_some h
          refine j_callSl F (pc := 153) (idx := 184) (As := [.int (108 : Int32), .int (97 : Int32), .int (116 : Int32), .int (101 : Int32)]) (st := [.long (μ79.2.1 98 16)]) (t_X5_code (G := E.1) hρ80  hc88) q_X5_code m_1084 m_1083 rfl (by decide) (Nat.le_of_ble_eq_true rfl) rfl (by decide +kernel) (fun s91 ν89 hq90 hp => ?_)
          obtain ⟨rfl, rfl⟩ := hp
          have hρ87 : μ86.2.2 = ρ := hq90.trans hρ80
          refine j_bipush F (pc := 156) (n := 114) (v := 114) (by decide +kernel) (by decide +kernel) ?_
          obtain ⟨r92, μ93, hc95, h⟩ := z_b2_some h
          refine j_callSl F (pc := 158) (idx := 188) (As := [.long r85, .int (114 : Int32)]) (st := [.long (μ79.2.1 98 16)]) (t_X5_longer (G := E.1) hρ87  hc95) q_X5_longer m_1087 m_1086 rfl (by decide) (Nat.le_of_ble_eq_true rfl) rfl (by decide +kernel) (fun s98 ν96 hq97 hp => ?_)
          obtain ⟨rfl, rfl⟩ := hp
          have hρ94 : μ93.2.2 = ρ := hq97.trans hρ87
          refine j_lcmp F (pc := 161) (by decide +kernel) ?_
          refine j_if_ne F (pc := 162) (off := 7) (tgt := 169) (by decide +kernel) (by decide) (fun c => ?_) (fun c => ?_)
          · rw [if_neg c] at h
            refine j_iconst F (pc := 169) (n := -1) (v := -1) (by decide +kernel) (by decide +kernel) ?_
            refine j_mk F [true, false, false, true, false, false, false] (L' := [some (.ref 98), none, none, some (.long r36), none, none, none]) rfl ?_
            refine u_X5_clauseOf_170 F Rt hk  _ _ _ hρ94 h
          · rw [if_pos c] at h
            refine j_iconst F (pc := 165) (n := 4) (v := 4) (by decide +kernel) (by decide +kernel) ?_
            refine j_goto F (pc := 166) (off := 4) (tgt := 170) (by decide +kernel) (by decide) ?_
            refine j_mk F [true, false, false, true, false, false, false] (L' := [some (.ref 98), none, none, some (.long r36), none, none, none]) rfl ?_
            refine u_X5_clauseOf_170 F Rt hk  _ _ _ hρ94 h
        · rw [if_pos c] at h
          refine j_iconst F (pc := 137) (n := 3) (v := 3) (by decide +kernel) (by decide +kernel) ?_
          refine j_goto F (pc := 138) (off := 32) (tgt := 170) (by decide +kernel) (by decide) ?_
          refine j_mk F [true, false, false, true, false, false, false] (L' := [some (.ref 98), none, none, some (.long r36), none, none, none]) rfl ?_
          refine u_X5_clauseOf_170 F Rt hk  _ _ _ hρ80 h
      · rw [if_pos c] at h
        refine j_iconst F (pc := 124) (n := 2) (v := 2) (by decide +kernel) (by decide +kernel) ?_
        refine j_goto F (pc := 125) (off := 45) (tgt := 170) (by decide +kernel) (by decide) ?_
        refine j_mk F [true, false, false, true, false, false, false] (L' := [some (.ref 98), none, none, some (.long r36), none, none, none]) rfl ?_
        refine u_X5_clauseOf_170 F Rt hk  _ _ _ hρ80 h
    · rw [if_pos c] at h
      refine j_iconst F (pc := 96) (n := 1) (v := 1) (by decide +kernel) (by decide +kernel) ?_
      refine j_goto F (pc := 97) (off := 73) (tgt := 170) (by decide +kernel) (by decide) ?_
      refine j_mk F [true, false, false, true, false, false, false] (L' := [some (.ref 98), none, none, some (.long r36), none, none, none]) rfl ?_
      refine u_X5_clauseOf_170 F Rt hk  _ _ _ hρ66 h
  · rw [if_pos c] at h
    refine j_iconst F (pc := 68) (n := 0) (v := 0) (by decide +kernel) (by decide +kernel) ?_
    refine j_goto F (pc := 69) (off := 101) (tgt := 170) (by decide +kernel) (by decide) ?_
    refine j_mk F [true, false, false, true, false, false, false] (L' := [some (.ref 98), none, none, some (.long r36), none, none, none]) rfl ?_
    refine u_X5_clauseOf_170 F Rt hk  _ _ _ hρ52 h
def g_X5_kindOf_211   (x3 : Int32) (xs0 : Int32) (μ : z_M) : Option (Int32 × z_M) :=
  (some ((if x3 < 0 then xs0 else x3), μ))
def g_X5_kindOf_125   (x1 : Int64) (xs0 : Int32) (μ : z_M) : Option (Int32 × z_M) :=
  (z_b2 (f_X5_code ((110 : Int32)) ((101 : Int32)) ((101 : Int32)) ((100 : Int32)) μ) fun r64 μ65 => (if (lg_cmp (μ.2.1 98 16) r64) = 0 then (g_X5_kindOf_211   (xs0) ((4 : Int32)) μ65) else (if (lg_cmp (μ65.2.1 98 16) x1) = 0 then (g_X5_kindOf_211   (xs0) ((5 : Int32)) μ65) else (z_b2 (f_X5_code ((104 : Int32)) ((97 : Int32)) ((114 : Int32)) ((109 : Int32)) μ65) fun r71 μ72 => (if (lg_cmp (μ65.2.1 98 16) r71) = 0 then (g_X5_kindOf_211   (xs0) ((6 : Int32)) μ72) else (z_b2 (f_X5_code ((100 : Int32)) ((117 : Int32)) ((101 : Int32)) ((115 : Int32)) μ72) fun r78 μ79 => (if (lg_cmp (μ72.2.1 98 16) r78) = 0 then (g_X5_kindOf_211   (xs0) ((7 : Int32)) μ79) else (g_X5_kindOf_211   (xs0) ((-1 : Int32)) μ79))))))))
def f_X5_kindOf  (μ : z_M) : Option (Int32 × z_M) :=
  (z_b2 (f_X5_code ((112 : Int32)) ((108 : Int32)) ((101 : Int32)) ((100 : Int32)) μ) fun r1 μ2 => (z_b2 (f_X5_longer (r1) ((103 : Int32)) μ2) fun r8 μ9 => (z_b2 (f_X5_longer (r8) ((101 : Int32)) μ9) fun r15 μ16 => (z_b2 (f_X5_code ((119 : Int32)) ((97 : Int32)) ((103 : Int32)) ((101 : Int32)) μ16) fun r22 μ23 => (if (lg_cmp (μ16.2.1 98 16) r22) = 0 then (g_X5_kindOf_125   (r15) ((0 : Int32)) μ23) else (z_b2 (f_X5_code ((114 : Int32)) ((111 : Int32)) ((112 : Int32)) ((101 : Int32)) μ23) fun r29 μ30 => (if (lg_cmp (μ23.2.1 98 16) r29) = 0 then (g_X5_kindOf_125   (r15) ((1 : Int32)) μ30) else (z_b2 (f_X5_code ((112 : Int32)) ((105 : Int32)) ((108 : Int32)) ((111 : Int32)) μ30) fun r36 μ37 => (z_b2 (f_X5_longer (r36) ((116 : Int32)) μ37) fun r43 μ44 => (if (lg_cmp (μ30.2.1 98 16) r43) = 0 then (g_X5_kindOf_125   (r15) ((2 : Int32)) μ44) else (z_b2 (f_X5_code ((115 : Int32)) ((97 : Int32)) ((118 : Int32)) ((101 : Int32)) μ44) fun r50 μ51 => (z_b2 (f_X5_longer (r50) ((100 : Int32)) μ51) fun r57 μ58 => (if (lg_cmp (μ44.2.1 98 16) r57) = 0 then (g_X5_kindOf_125   (r15) ((3 : Int32)) μ58) else (g_X5_kindOf_125   (r15) ((-1 : Int32)) μ58))))))))))))))
set_option maxHeartbeats 4000000 in
set_option maxRecDepth 100000 in
theorem u_X5_kindOf_211 {E : z_E} {ρ : Nat → Nat → Option Nat} {r : Int32} {μr : z_M} (F : z_F E RX5 cX5_kindOf 5 1) (Rt : z_R E (some .int) (fun v μ1 => μ1.2.2 = ρ ∧ ∃ r1, v = some (.int r1) ∧ r = r1 ∧ μr = μ1))  (hk : z_ok (z_sh E.1) ρ) : ∀ (x3 : Int32) (xs0 : Int32) (μ : z_M), μ.2.2 = ρ → g_X5_kindOf_211   x3 xs0 μ = some (r, μr) → z_J E 5 211 [none, none, none, some (.int x3), none] [.int xs0] μ := by
  intro x3 xs0 μ hρ h
  unfold g_X5_kindOf_211 at h
  refine j_istore F (pc := 211) (i := 4) (L' := [none, none, none, some (.int x3), some (.int xs0)]) (by decide +kernel) (by decide) rfl rfl ?_
  refine j_iload_n F (pc := 213) (q := 3) (by decide +kernel) rfl ?_
  suffices hj : z_J E 5 223 [none, none, none, some (.int x3), some (.int xs0)] (.int (if x3 < 0 then xs0 else x3) :: []) μ by
    refine j_if_lt F (pc := 214) (off := 7) (tgt := 221) (by decide +kernel) (by decide) (fun c0 => ?_) (fun c0 => ?_)
    · rw [if_pos c0] at hj
      refine j_iload F (pc := 221) (i := 4) (by decide +kernel) rfl ?_
      exact hj
    · rw [if_neg c0] at hj
      refine j_iload_n F (pc := 217) (q := 3) (by decide +kernel) rfl ?_
      refine j_goto F (pc := 218) (off := 5) (tgt := 223) (by decide +kernel) (by decide) ?_
      exact hj
  exact j_iret (st := []) F Rt rfl (by decide +kernel) ⟨hρ, _, rfl, (congrArg Prod.fst (Option.some.inj h)).symm, (congrArg Prod.snd (Option.some.inj h)).symm⟩
set_option maxHeartbeats 4000000 in
set_option maxRecDepth 100000 in
theorem u_X5_kindOf_125 {E : z_E} {ρ : Nat → Nat → Option Nat} {r : Int32} {μr : z_M} (F : z_F E RX5 cX5_kindOf 5 1) (Rt : z_R E (some .int) (fun v μ1 => μ1.2.2 = ρ ∧ ∃ r1, v = some (.int r1) ∧ r = r1 ∧ μr = μ1))  (hk : z_ok (z_sh E.1) ρ) : ∀ (x1 : Int64) (xs0 : Int32) (μ : z_M), μ.2.2 = ρ → g_X5_kindOf_125   x1 xs0 μ = some (r, μr) → z_J E 5 125 [some (.ref 98), some (.long x1), none, none, none] [.int xs0] μ := by
  intro x1 xs0 μ hρ h
  unfold g_X5_kindOf_125 at h
  refine j_istore_n F (pc := 125) (q := 3) (L' := [some (.ref 98), some (.long x1), none, some (.int xs0), none]) (by decide +kernel) (by decide) rfl rfl ?_
  refine j_aload_n F (pc := 126) (q := 0) (by decide +kernel) rfl ?_
  refine j_getL F (pc := 127) fl_X5_165 (hk.s c_98) rfl (by decide +kernel) ?_
  refine j_bipush F (pc := 130) (n := 110) (v := 110) (by decide +kernel) (by decide +kernel) ?_
  refine j_bipush F (pc := 132) (n := 101) (v := 101) (by decide +kernel) (by decide +kernel) ?_
  refine j_bipush F (pc := 134) (n := 101) (v := 101) (by decide +kernel) (by decide +kernel) ?_
  refine j_bipush F (pc := 136) (n := 100) (v := 100) (by decide +kernel) (by decide +kernel) ?_
  obtain ⟨r64, μ65, hc67, h⟩ := z_b2_some h
  refine j_callSl F (pc := 138) (idx := 184) (As := [.int (110 : Int32), .int (101 : Int32), .int (101 : Int32), .int (100 : Int32)]) (st := [.long (μ.2.1 98 16)]) (t_X5_code (G := E.1) hρ  hc67) q_X5_code m_1084 m_1083 rfl (by decide) (Nat.le_of_ble_eq_true rfl) rfl (by decide +kernel) (fun s70 ν68 hq69 hp => ?_)
  obtain ⟨rfl, rfl⟩ := hp
  have hρ66 : μ65.2.2 = ρ := hq69.trans hρ
  refine j_lcmp F (pc := 141) (by decide +kernel) ?_
  refine j_if_ne F (pc := 142) (off := 7) (tgt := 149) (by decide +kernel) (by decide) (fun c => ?_) (fun c => ?_)
  · rw [if_neg c] at h
    refine j_aload_n F (pc := 149) (q := 0) (by decide +kernel) rfl ?_
    refine j_getL F (pc := 150) fl_X5_165 (hk.s c_98) rfl (by decide +kernel) ?_
    refine j_lload_n F (pc := 153) (q := 1) (by decide +kernel) rfl ?_
    refine j_lcmp F (pc := 154) (by decide +kernel) ?_
    refine j_if_ne F (pc := 155) (off := 7) (tgt := 162) (by decide +kernel) (by decide) (fun c => ?_) (fun c => ?_)
    · rw [if_neg c] at h
      refine j_aload_n F (pc := 162) (q := 0) (by decide +kernel) rfl ?_
      refine j_getL F (pc := 163) fl_X5_165 (hk.s c_98) rfl (by decide +kernel) ?_
      refine j_bipush F (pc := 166) (n := 104) (v := 104) (by decide +kernel) (by decide +kernel) ?_
      refine j_bipush F (pc := 168) (n := 97) (v := 97) (by decide +kernel) (by decide +kernel) ?_
      refine j_bipush F (pc := 170) (n := 114) (v := 114) (by decide +kernel) (by decide +kernel) ?_
      refine j_bipush F (pc := 172) (n := 109) (v := 109) (by decide +kernel) (by decide +kernel) ?_
      obtain ⟨r71, μ72, hc74, h⟩ := z_b2_some h
      refine j_callSl F (pc := 174) (idx := 184) (As := [.int (104 : Int32), .int (97 : Int32), .int (114 : Int32), .int (109 : Int32)]) (st := [.long (μ65.2.1 98 16)]) (t_X5_code (G := E.1) hρ66  hc74) q_X5_code m_1084 m_1083 rfl (by decide) (Nat.le_of_ble_eq_true rfl) rfl (by decide +kernel) (fun s77 ν75 hq76 hp => ?_)
      obtain ⟨rfl, rfl⟩ := hp
      have hρ73 : μ72.2.2 = ρ := hq76.trans hρ66
      refine j_lcmp F (pc := 177) (by decide +kernel) ?_
      refine j_if_ne F (pc := 178) (off := 8) (tgt := 186) (by decide +kernel) (by decide) (fun c => ?_) (fun c => ?_)
      · rw [if_neg c] at h
        refine j_aload_n F (pc := 186) (q := 0) (by decide +kernel) rfl ?_
        refine j_getL F (pc := 187) fl_X5_165 (hk.s c_98) rfl (by decide +kernel) ?_
        refine j_bipush F (pc := 190) (n := 100) (v := 100) (by decide +kernel) (by decide +kernel) ?_
        refine j_bipush F (pc := 192) (n := 117) (v := 117) (by decide +kernel) (by decide +kernel) ?_
        refine j_bipush F (pc := 194) (n := 101) (v := 101) (by decide +kernel) (by decide +kernel) ?_
        refine j_bipush F (pc := 196) (n := 115) (v := 115) (by decide +kernel) (by decide +kernel) ?_
        obtain ⟨r78, μ79, hc81, h⟩ := z_b2_some h
        refine j_callSl F (pc := 198) (idx := 184) (As := [.int (100 : Int32), .int (117 : Int32), .int (101 : Int32), .int (115 : Int32)]) (st := [.long (μ72.2.1 98 16)]) (t_X5_code (G := E.1) hρ73  hc81) q_X5_code m_1084 m_1083 rfl (by decide) (Nat.le_of_ble_eq_true rfl) rfl (by decide +kernel) (fun s84 ν82 hq83 hp => ?_)
        obtain ⟨rfl, rfl⟩ := hp
        have hρ80 : μ79.2.2 = ρ := hq83.trans hρ73
        refine j_lcmp F (pc := 201) (by decide +kernel) ?_
        refine j_if_ne F (pc := 202) (off := 8) (tgt := 210) (by decide +kernel) (by decide) (fun c => ?_) (fun c => ?_)
        · rw [if_neg c] at h
          refine j_iconst F (pc := 210) (n := -1) (v := -1) (by decide +kernel) (by decide +kernel) ?_
          refine j_mk F [false, false, false, true, false] (L' := [none, none, none, some (.int xs0), none]) rfl ?_
          refine u_X5_kindOf_211 F Rt hk  _ _ _ hρ80 h
        · rw [if_pos c] at h
          refine j_bipush F (pc := 205) (n := 7) (v := 7) (by decide +kernel) (by decide +kernel) ?_
          refine j_goto F (pc := 207) (off := 4) (tgt := 211) (by decide +kernel) (by decide) ?_
          refine j_mk F [false, false, false, true, false] (L' := [none, none, none, some (.int xs0), none]) rfl ?_
          refine u_X5_kindOf_211 F Rt hk  _ _ _ hρ80 h
      · rw [if_pos c] at h
        refine j_bipush F (pc := 181) (n := 6) (v := 6) (by decide +kernel) (by decide +kernel) ?_
        refine j_goto F (pc := 183) (off := 28) (tgt := 211) (by decide +kernel) (by decide) ?_
        refine j_mk F [false, false, false, true, false] (L' := [none, none, none, some (.int xs0), none]) rfl ?_
        refine u_X5_kindOf_211 F Rt hk  _ _ _ hρ73 h
    · rw [if_pos c] at h
      refine j_iconst F (pc := 158) (n := 5) (v := 5) (by decide +kernel) (by decide +kernel) ?_
      refine j_goto F (pc := 159) (off := 52) (tgt := 211) (by decide +kernel) (by decide) ?_
      refine j_mk F [false, false, false, true, false] (L' := [none, none, none, some (.int xs0), none]) rfl ?_
      refine u_X5_kindOf_211 F Rt hk  _ _ _ hρ66 h
  · rw [if_pos c] at h
    refine j_iconst F (pc := 145) (n := 4) (v := 4) (by decide +kernel) (by decide +kernel) ?_
    refine j_goto F (pc := 146) (off := 65) (tgt := 211) (by decide +kernel) (by decide) ?_
    refine j_mk F [false, false, false, true, false] (L' := [none, none, none, some (.int xs0), none]) rfl ?_
    refine u_X5_kindOf_211 F Rt hk  _ _ _ hρ66 h
set_option maxHeartbeats 4000000 in
set_option maxRecDepth 100000 in
theorem t_X5_kindOf {G : z_Gl} {ρ : Nat → Nat → Option Nat} {μ : z_M} {r : Int32} {μr : z_M}  (hρ : μ.2.2 = ρ) (hk : z_ok (z_sh G) ρ) (h : f_X5_kindOf  μ = some (r, μr)) : z_Ci G yX5_kindOf cX5_kindOf 5 (some .int) 1 [.ref 98] μ (fun r1 μ1 => r = r1 ∧ μr = μ1) := by
  unfold z_Ci
  refine z_intro (by decide +kernel) (Nat.le_of_ble_eq_true rfl) (fun E hE F Rt => ?_)
  subst hE
  have F : z_F E RX5 cX5_kindOf 5 1 := F
  rw [hρ] at Rt
  unfold f_X5_kindOf at h
  show z_J E 5 0 [some (.ref 98), none, none, none, none] [] μ
  refine j_bipush F (pc := 0) (n := 112) (v := 112) (by decide +kernel) (by decide +kernel) ?_
  refine j_bipush F (pc := 2) (n := 108) (v := 108) (by decide +kernel) (by decide +kernel) ?_
  refine j_bipush F (pc := 4) (n := 101) (v := 101) (by decide +kernel) (by decide +kernel) ?_
  refine j_bipush F (pc := 6) (n := 100) (v := 100) (by decide +kernel) (by decide +kernel) ?_
  obtain ⟨r1, μ2, hc4, h⟩ := z_b2_some h
  refine j_callSl F (pc := 8) (idx := 184) (As := [.int (112 : Int32), .int (108 : Int32), .int (101 : Int32), .int (100 : Int32)]) (st := []) (t_X5_code (G := E.1) hρ  hc4) q_X5_code m_1084 m_1083 rfl (by decide) (Nat.le_of_ble_eq_true rfl) rfl (by decide +kernel) (fun s7 ν5 hq6 hp => ?_)
  obtain ⟨rfl, rfl⟩ := hp
  have hρ3 : μ2.2.2 = ρ := hq6.trans hρ
  refine j_bipush F (pc := 11) (n := 103) (v := 103) (by decide +kernel) (by decide +kernel) ?_
  obtain ⟨r8, μ9, hc11, h⟩ := z_b2_some h
  refine j_callSl F (pc := 13) (idx := 188) (As := [.long r1, .int (103 : Int32)]) (st := []) (t_X5_longer (G := E.1) hρ3  hc11) q_X5_longer m_1087 m_1086 rfl (by decide) (Nat.le_of_ble_eq_true rfl) rfl (by decide +kernel) (fun s14 ν12 hq13 hp => ?_)
  obtain ⟨rfl, rfl⟩ := hp
  have hρ10 : μ9.2.2 = ρ := hq13.trans hρ3
  refine j_bipush F (pc := 16) (n := 101) (v := 101) (by decide +kernel) (by decide +kernel) ?_
  obtain ⟨r15, μ16, hc18, h⟩ := z_b2_some h
  refine j_callSl F (pc := 18) (idx := 188) (As := [.long r8, .int (101 : Int32)]) (st := []) (t_X5_longer (G := E.1) hρ10  hc18) q_X5_longer m_1087 m_1086 rfl (by decide) (Nat.le_of_ble_eq_true rfl) rfl (by decide +kernel) (fun s21 ν19 hq20 hp => ?_)
  obtain ⟨rfl, rfl⟩ := hp
  have hρ17 : μ16.2.2 = ρ := hq20.trans hρ10
  refine j_lstore_n F (pc := 21) (q := 1) (L' := [some (.ref 98), some (.long r15), none, none, none]) (by decide +kernel) (by decide) rfl rfl ?_
  refine j_aload_n F (pc := 22) (q := 0) (by decide +kernel) rfl ?_
  refine j_getL F (pc := 23) fl_X5_165 (hk.s c_98) rfl (by decide +kernel) ?_
  refine j_bipush F (pc := 26) (n := 119) (v := 119) (by decide +kernel) (by decide +kernel) ?_
  refine j_bipush F (pc := 28) (n := 97) (v := 97) (by decide +kernel) (by decide +kernel) ?_
  refine j_bipush F (pc := 30) (n := 103) (v := 103) (by decide +kernel) (by decide +kernel) ?_
  refine j_bipush F (pc := 32) (n := 101) (v := 101) (by decide +kernel) (by decide +kernel) ?_
  obtain ⟨r22, μ23, hc25, h⟩ := z_b2_some h
  refine j_callSl F (pc := 34) (idx := 184) (As := [.int (119 : Int32), .int (97 : Int32), .int (103 : Int32), .int (101 : Int32)]) (st := [.long (μ16.2.1 98 16)]) (t_X5_code (G := E.1) hρ17  hc25) q_X5_code m_1084 m_1083 rfl (by decide) (Nat.le_of_ble_eq_true rfl) rfl (by decide +kernel) (fun s28 ν26 hq27 hp => ?_)
  obtain ⟨rfl, rfl⟩ := hp
  have hρ24 : μ23.2.2 = ρ := hq27.trans hρ17
  refine j_lcmp F (pc := 37) (by decide +kernel) ?_
  refine j_if_ne F (pc := 38) (off := 7) (tgt := 45) (by decide +kernel) (by decide) (fun c => ?_) (fun c => ?_)
  · rw [if_neg c] at h
    refine j_aload_n F (pc := 45) (q := 0) (by decide +kernel) rfl ?_
    refine j_getL F (pc := 46) fl_X5_165 (hk.s c_98) rfl (by decide +kernel) ?_
    refine j_bipush F (pc := 49) (n := 114) (v := 114) (by decide +kernel) (by decide +kernel) ?_
    refine j_bipush F (pc := 51) (n := 111) (v := 111) (by decide +kernel) (by decide +kernel) ?_
    refine j_bipush F (pc := 53) (n := 112) (v := 112) (by decide +kernel) (by decide +kernel) ?_
    refine j_bipush F (pc := 55) (n := 101) (v := 101) (by decide +kernel) (by decide +kernel) ?_
    obtain ⟨r29, μ30, hc32, h⟩ := z_b2_some h
    refine j_callSl F (pc := 57) (idx := 184) (As := [.int (114 : Int32), .int (111 : Int32), .int (112 : Int32), .int (101 : Int32)]) (st := [.long (μ23.2.1 98 16)]) (t_X5_code (G := E.1) hρ24  hc32) q_X5_code m_1084 m_1083 rfl (by decide) (Nat.le_of_ble_eq_true rfl) rfl (by decide +kernel) (fun s35 ν33 hq34 hp => ?_)
    obtain ⟨rfl, rfl⟩ := hp
    have hρ31 : μ30.2.2 = ρ := hq34.trans hρ24
    refine j_lcmp F (pc := 60) (by decide +kernel) ?_
    refine j_if_ne F (pc := 61) (off := 7) (tgt := 68) (by decide +kernel) (by decide) (fun c => ?_) (fun c => ?_)
    · rw [if_neg c] at h
      refine j_aload_n F (pc := 68) (q := 0) (by decide +kernel) rfl ?_
      refine j_getL F (pc := 69) fl_X5_165 (hk.s c_98) rfl (by decide +kernel) ?_
      refine j_bipush F (pc := 72) (n := 112) (v := 112) (by decide +kernel) (by decide +kernel) ?_
      refine j_bipush F (pc := 74) (n := 105) (v := 105) (by decide +kernel) (by decide +kernel) ?_
      refine j_bipush F (pc := 76) (n := 108) (v := 108) (by decide +kernel) (by decide +kernel) ?_
      refine j_bipush F (pc := 78) (n := 111) (v := 111) (by decide +kernel) (by decide +kernel) ?_
      obtain ⟨r36, μ37, hc39, h⟩ := z_b2_some h
      refine j_callSl F (pc := 80) (idx := 184) (As := [.int (112 : Int32), .int (105 : Int32), .int (108 : Int32), .int (111 : Int32)]) (st := [.long (μ30.2.1 98 16)]) (t_X5_code (G := E.1) hρ31  hc39) q_X5_code m_1084 m_1083 rfl (by decide) (Nat.le_of_ble_eq_true rfl) rfl (by decide +kernel) (fun s42 ν40 hq41 hp => ?_)
      obtain ⟨rfl, rfl⟩ := hp
      have hρ38 : μ37.2.2 = ρ := hq41.trans hρ31
      refine j_bipush F (pc := 83) (n := 116) (v := 116) (by decide +kernel) (by decide +kernel) ?_
      obtain ⟨r43, μ44, hc46, h⟩ := z_b2_some h
      refine j_callSl F (pc := 85) (idx := 188) (As := [.long r36, .int (116 : Int32)]) (st := [.long (μ30.2.1 98 16)]) (t_X5_longer (G := E.1) hρ38  hc46) q_X5_longer m_1087 m_1086 rfl (by decide) (Nat.le_of_ble_eq_true rfl) rfl (by decide +kernel) (fun s49 ν47 hq48 hp => ?_)
      obtain ⟨rfl, rfl⟩ := hp
      have hρ45 : μ44.2.2 = ρ := hq48.trans hρ38
      refine j_lcmp F (pc := 88) (by decide +kernel) ?_
      refine j_if_ne F (pc := 89) (off := 7) (tgt := 96) (by decide +kernel) (by decide) (fun c => ?_) (fun c => ?_)
      · rw [if_neg c] at h
        refine j_aload_n F (pc := 96) (q := 0) (by decide +kernel) rfl ?_
        refine j_getL F (pc := 97) fl_X5_165 (hk.s c_98) rfl (by decide +kernel) ?_
        refine j_bipush F (pc := 100) (n := 115) (v := 115) (by decide +kernel) (by decide +kernel) ?_
        refine j_bipush F (pc := 102) (n := 97) (v := 97) (by decide +kernel) (by decide +kernel) ?_
        refine j_bipush F (pc := 104) (n := 118) (v := 118) (by decide +kernel) (by decide +kernel) ?_
        refine j_bipush F (pc := 106) (n := 101) (v := 101) (by decide +kernel) (by decide +kernel) ?_
        obtain ⟨r50, μ51, hc53, h⟩ := z_b2_some h
        refine j_callSl F (pc := 108) (idx := 184) (As := [.int (115 : Int32), .int (97 : Int32), .int (118 : Int32), .int (101 : Int32)]) (st := [.long (μ44.2.1 98 16)]) (t_X5_code (G := E.1) hρ45  hc53) q_X5_code m_1084 m_1083 rfl (by decide) (Nat.le_of_ble_eq_true rfl) rfl (by decide +kernel) (fun s56 ν54 hq55 hp => ?_)
        obtain ⟨rfl, rfl⟩ := hp
        have hρ52 : μ51.2.2 = ρ := hq55.trans hρ45
        refine j_bipush F (pc := 111) (n := 100) (v := 100) (by decide +kernel) (by decide +kernel) ?_
        obtain ⟨r57, μ58, hc60, h⟩ := z_b2_some h
        refine j_callSl F (pc := 113) (idx := 188) (As := [.long r50, .int (100 : Int32)]) (st := [.long (μ44.2.1 98 16)]) (t_X5_longer (G := E.1) hρ52  hc60) q_X5_longer m_1087 m_1086 rfl (by decide) (Nat.le_of_ble_eq_true rfl) rfl (by decide +kernel) (fun s63 ν61 hq62 hp => ?_)
        obtain ⟨rfl, rfl⟩ := hp
        have hρ59 : μ58.2.2 = ρ := hq62.trans hρ52
        refine j_lcmp F (pc := 116) (by decide +kernel) ?_
        refine j_if_ne F (pc := 117) (off := 7) (tgt := 124) (by decide +kernel) (by decide) (fun c => ?_) (fun c => ?_)
        · rw [if_neg c] at h
          refine j_iconst F (pc := 124) (n := -1) (v := -1) (by decide +kernel) (by decide +kernel) ?_
          refine u_X5_kindOf_125 F Rt hk  _ _ _ hρ59 h
        · rw [if_pos c] at h
          refine j_iconst F (pc := 120) (n := 3) (v := 3) (by decide +kernel) (by decide +kernel) ?_
          refine j_goto F (pc := 121) (off := 4) (tgt := 125) (by decide +kernel) (by decide) ?_
          refine u_X5_kindOf_125 F Rt hk  _ _ _ hρ59 h
      · rw [if_pos c] at h
        refine j_iconst F (pc := 92) (n := 2) (v := 2) (by decide +kernel) (by decide +kernel) ?_
        refine j_goto F (pc := 93) (off := 32) (tgt := 125) (by decide +kernel) (by decide) ?_
        refine u_X5_kindOf_125 F Rt hk  _ _ _ hρ45 h
    · rw [if_pos c] at h
      refine j_iconst F (pc := 64) (n := 1) (v := 1) (by decide +kernel) (by decide +kernel) ?_
      refine j_goto F (pc := 65) (off := 60) (tgt := 125) (by decide +kernel) (by decide) ?_
      refine u_X5_kindOf_125 F Rt hk  _ _ _ hρ31 h
  · rw [if_pos c] at h
    refine j_iconst F (pc := 41) (n := 0) (v := 0) (by decide +kernel) (by decide +kernel) ?_
    refine j_goto F (pc := 42) (off := 83) (tgt := 125) (by decide +kernel) (by decide) ?_
    refine u_X5_kindOf_125 F Rt hk  _ _ _ hρ24 h
/-- LastLentModel.fails -/
def f_X5_fails (x1 : Int32) (x2 : Int32) (μ : z_M) : Option (Int32 × z_M) :=
  (z_st (z_si μ 98 14 x2) fun μ1 => (some (x1, μ1)))
set_option maxHeartbeats 4000000 in
set_option maxRecDepth 100000 in
theorem t_X5_fails {G : z_Gl} {ρ : Nat → Nat → Option Nat} {μ : z_M} {r : Int32} {μr : z_M} {x1 : Int32} {x2 : Int32} (hρ : μ.2.2 = ρ) (hk : z_ok (z_sh G) ρ) (h : f_X5_fails x1 x2 μ = some (r, μr)) : z_Ci G yX5_fails cX5_fails 3 (some .int) 0 [.ref 98, .int x1, .int x2] μ (fun r1 μ1 => r = r1 ∧ μr = μ1) := by
  unfold z_Ci
  refine z_intro (by decide +kernel) (Nat.le_of_ble_eq_true rfl) (fun E hE F Rt => ?_)
  subst hE
  have F : z_F E RX5 cX5_fails 3 0 := F
  rw [hρ] at Rt
  unfold f_X5_fails at h
  show z_J E 3 0 [some (.ref 98), some (.int x1), some (.int x2)] [] μ
  refine j_aload_n F (pc := 0) (q := 0) (by decide +kernel) rfl ?_
  refine j_iload_n F (pc := 1) (q := 2) (by decide +kernel) rfl ?_
  refine j_putI F (pc := 2) fl_X5_50 fp_X5_14 (hk.s c_98) rfl (by decide +kernel) ?_
  obtain ⟨μ1, e3, h⟩ := z_st_some h
  rw [← e3]
  have hρ2 : μ1.2.2 = ρ := by rw [e3]; exact hρ
  refine j_iload_n F (pc := 5) (q := 1) (by decide +kernel) rfl ?_
  exact j_iret (st := []) F Rt rfl (by decide +kernel) ⟨hρ2, _, rfl, (congrArg Prod.fst (Option.some.inj h)).symm, (congrArg Prod.snd (Option.some.inj h)).symm⟩
/-- LastLentModel.takeKind -/
def f_X5_takeKind  (μ : z_M) : Option (Int32 × z_M) :=
  (z_b1 (f_X5_readWord  μ) fun μ2 => (z_b2 (f_X5_kindOf  μ2) fun r7 μ8 => (z_st (z_si μ8 98 19 r7) fun μ14 => (z_st (z_si μ14 98 20 (μ14.1 98 15)) fun μ17 => (if 0 ≤ (μ17.1 98 19) then (z_st (z_si μ17 98 15 (μ17.1 98 17)) fun μ20 => (some ((0 : Int32), μ20))) else (z_b2 (f_X5_fails ((1 : Int32)) ((μ17.1 98 15)) μ17) fun r23 μ24 => (some (r23, μ24))))))))
set_option maxHeartbeats 4000000 in
set_option maxRecDepth 100000 in
theorem t_X5_takeKind {G : z_Gl} {ρ : Nat → Nat → Option Nat} {μ : z_M} {r : Int32} {μr : z_M}  (hρ : μ.2.2 = ρ) (hk : z_ok (z_sh G) ρ) (h : f_X5_takeKind  μ = some (r, μr)) : z_Ci G yX5_takeKind cX5_takeKind 1 (some .int) 2 [.ref 98] μ (fun r1 μ1 => r = r1 ∧ μr = μ1) := by
  unfold z_Ci
  refine z_intro (by decide +kernel) (Nat.le_of_ble_eq_true rfl) (fun E hE F Rt => ?_)
  subst hE
  have F : z_F E RX5 cX5_takeKind 1 2 := F
  rw [hρ] at Rt
  unfold f_X5_takeKind at h
  show z_J E 1 0 [some (.ref 98)] [] μ
  refine j_aload_n F (pc := 0) (q := 0) (by decide +kernel) rfl ?_
  obtain ⟨μ2, hc4, h⟩ := z_b1_some h
  refine j_callVv F (pc := 1) (idx := 203) (As := []) (st := []) (t_X5_readWord (G := E.1) hρ hk hc4) q_X5_readWord v_X5_readWord m_1069 (hk.s c_98) rfl rfl (by decide) (Nat.le_of_ble_eq_true rfl) rfl (by decide +kernel) (fun ν5 hq6 hp => ?_)
  subst hp
  have hρ3 : μ2.2.2 = ρ := hq6.trans hρ
  refine j_aload_n F (pc := 4) (q := 0) (by decide +kernel) rfl ?_
  refine j_aload_n F (pc := 5) (q := 0) (by decide +kernel) rfl ?_
  obtain ⟨r7, μ8, hc10, h⟩ := z_b2_some h
  refine j_callVi F (pc := 6) (idx := 206) (As := []) (st := [.ref 98]) (t_X5_kindOf (G := E.1) hρ3 hk hc10) q_X5_kindOf v_X5_kindOf m_1101 (hk.s c_98) rfl rfl (by decide) (Nat.le_of_ble_eq_true rfl) rfl (by decide +kernel) (fun s13 ν11 hq12 hp => ?_)
  obtain ⟨rfl, rfl⟩ := hp
  have hρ9 : μ8.2.2 = ρ := hq12.trans hρ3
  refine j_putI F (pc := 9) fl_X5_209 fp_X5_19 (hk.s c_98) rfl (by decide +kernel) ?_
  obtain ⟨μ14, e16, h⟩ := z_st_some h
  rw [← e16]
  have hρ15 : μ14.2.2 = ρ := by rw [e16]; exact hρ9
  refine j_aload_n F (pc := 12) (q := 0) (by decide +kernel) rfl ?_
  refine j_aload_n F (pc := 13) (q := 0) (by decide +kernel) rfl ?_
  refine j_getI F (pc := 14) fl_X5_158 (hk.s c_98) rfl (by decide +kernel) ?_
  refine j_putI F (pc := 17) fl_X5_212 fp_X5_20 (hk.s c_98) rfl (by decide +kernel) ?_
  obtain ⟨μ17, e19, h⟩ := z_st_some h
  rw [← e19]
  have hρ18 : μ17.2.2 = ρ := by rw [e19]; exact hρ15
  refine j_aload_n F (pc := 20) (q := 0) (by decide +kernel) rfl ?_
  refine j_getI F (pc := 21) fl_X5_209 (hk.s c_98) rfl (by decide +kernel) ?_
  refine j_if_ge F (pc := 24) (off := 13) (tgt := 37) (by decide +kernel) (by decide) (fun c => ?_) (fun c => ?_)
  · rw [if_pos c] at h
    refine j_aload_n F (pc := 37) (q := 0) (by decide +kernel) rfl ?_
    refine j_aload_n F (pc := 38) (q := 0) (by decide +kernel) rfl ?_
    refine j_getI F (pc := 39) fl_X5_169 (hk.s c_98) rfl (by decide +kernel) ?_
    refine j_putI F (pc := 42) fl_X5_158 fp_X5_15 (hk.s c_98) rfl (by decide +kernel) ?_
    obtain ⟨μ20, e22, h⟩ := z_st_some h
    rw [← e22]
    have hρ21 : μ20.2.2 = ρ := by rw [e22]; exact hρ18
    refine j_iconst F (pc := 45) (n := 0) (v := 0) (by decide +kernel) (by decide +kernel) ?_
    exact j_iret (st := []) F Rt rfl (by decide +kernel) ⟨hρ21, _, rfl, (congrArg Prod.fst (Option.some.inj h)).symm, (congrArg Prod.snd (Option.some.inj h)).symm⟩
  · rw [if_neg c] at h
    refine j_aload_n F (pc := 27) (q := 0) (by decide +kernel) rfl ?_
    refine j_iconst F (pc := 28) (n := 1) (v := 1) (by decide +kernel) (by decide +kernel) ?_
    refine j_aload_n F (pc := 29) (q := 0) (by decide +kernel) rfl ?_
    refine j_getI F (pc := 30) fl_X5_158 (hk.s c_98) rfl (by decide +kernel) ?_
    obtain ⟨r23, μ24, hc26, h⟩ := z_b2_some h
    refine j_callVi F (pc := 33) (idx := 196) (As := [.int (1 : Int32), .int (μ17.1 98 15)]) (st := []) (t_X5_fails (G := E.1) hρ18 hk hc26) q_X5_fails v_X5_fails m_1089 (hk.s c_98) rfl rfl (by decide) (Nat.le_of_ble_eq_true rfl) rfl (by decide +kernel) (fun s29 ν27 hq28 hp => ?_)
    obtain ⟨rfl, rfl⟩ := hp
    have hρ25 : μ24.2.2 = ρ := hq28.trans hρ18
    exact j_iret (st := []) F Rt rfl (by decide +kernel) ⟨hρ25, _, rfl, (congrArg Prod.fst (Option.some.inj h)).symm, (congrArg Prod.snd (Option.some.inj h)).symm⟩
