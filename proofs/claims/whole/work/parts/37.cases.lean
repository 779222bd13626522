/-! THE LAW'S CASES: written by wip/whole/law.py -/
set_option maxHeartbeats 4000000 in
set_option maxRecDepth 100000 in
theorem lawc_0 {E : z_E} {b Ls i : Nat} {xs : Nat → Int32} {Inv : z_M → Prop} (F : z_F E RL cL_law 4 14) (S : z_SC E b Ls xs) (hsh : z_sh E.1 = z_SH) (hs0 : zs_0 Inv) (hix : ∀ j : Int32, 0 ≤ j → j < 10 → z_in (nI i + j) Ls) {μ : z_M} (hI : Inv μ) (hk : z_ok (z_sh E.1) μ.2.2) (hn : ∀ μ2, Inv μ2 → z_J E 4 1623 [some (.ref 999), some (.ref 0), some (.ref 98), some (.int (nI i))] [] μ2) : z_J E 4 172 [some (.ref 999), some (.ref 0), some (.ref 98), some (.int (nI i))] [] μ := by
  refine j_aload_n F (pc := 172) (q := 1) (by decide +kernel) rfl ?_
  refine j_aload_n F (pc := 173) (q := 0) (by decide +kernel) rfl ?_
  refine j_iload_n F (pc := 174) (q := 3) (by decide +kernel) rfl ?_
  refine j_iconst F (pc := 175) (n := 1) (v := 1) (by decide +kernel) (by decide +kernel) ?_
  refine j_iadd F (pc := 176) (by decide +kernel) ?_
  refine j_sld F (pc := 177) S (hix 1 (by decide) (by decide)) (by decide +kernel) ?_
  refine j_aload_n F (pc := 178) (q := 0) (by decide +kernel) rfl ?_
  refine j_iload_n F (pc := 179) (q := 3) (by decide +kernel) rfl ?_
  refine j_iconst F (pc := 180) (n := 2) (v := 2) (by decide +kernel) (by decide +kernel) ?_
  refine j_iadd F (pc := 181) (by decide +kernel) ?_
  refine j_sld F (pc := 182) S (hix 2 (by decide) (by decide)) (by decide +kernel) ?_
  refine j_i2l F (pc := 183) (by decide +kernel) ?_
  refine j_bipush F (pc := 184) (n := 32) (v := 32) (by decide +kernel) (by decide +kernel) ?_
  refine j_lshl F (pc := 186) (by decide +kernel) ?_
  refine j_aload_n F (pc := 187) (q := 0) (by decide +kernel) rfl ?_
  refine j_iload_n F (pc := 188) (q := 3) (by decide +kernel) rfl ?_
  refine j_iconst F (pc := 189) (n := 3) (v := 3) (by decide +kernel) (by decide +kernel) ?_
  refine j_iadd F (pc := 190) (by decide +kernel) ?_
  refine j_sld F (pc := 191) S (hix 3 (by decide) (by decide)) (by decide +kernel) ?_
  refine j_i2l F (pc := 192) (by decide +kernel) ?_
  refine j_ldc2 F (pc := 193) m_1345 (by decide +kernel) ?_
  refine j_land F (pc := 196) (by decide +kernel) ?_
  refine j_lor F (pc := 197) (by decide +kernel) ?_
  obtain ⟨r, μ1, μ2, h1, hok1, h2, hI2⟩ := (hs0 μ hI ((xs (nI i + (1 : Int32)).toNatClampNeg)) (((((xs (nI i + (2 : Int32)).toNatClampNeg)).toInt64 <<< ((32 : Int32).toInt64 &&& 63)) ||| (((xs (nI i + (3 : Int32)).toNatClampNeg)).toInt64 &&& (4294967295 : Int64)))))
  have hk1 : z_ok (z_sh E.1) μ1.2.2 := by rw [hsh]; exact hok1
  refine j_callVi F (pc := 198) (idx := 15) (As := [.int (xs (nI i + (1 : Int32)).toNatClampNeg), .long ((((xs (nI i + (2 : Int32)).toNatClampNeg)).toInt64 <<< ((32 : Int32).toInt64 &&& 63)) ||| (((xs (nI i + (3 : Int32)).toNatClampNeg)).toInt64 &&& (4294967295 : Int64)))]) (st := []) (t_X4_feed (G := E.1) rfl hk h1) q_X4_feed v_X4_feed m_374 (hk.s c_0) rfl rfl (by decide) (Nat.le_of_ble_eq_true rfl) rfl (by decide +kernel) (fun r0 ν hq hp => ?_)
  obtain ⟨rfl, rfl⟩ := hp
  refine j_aload_n F (pc := 201) (q := 2) (by decide +kernel) rfl ?_
  refine j_aload_n F (pc := 202) (q := 0) (by decide +kernel) rfl ?_
  refine j_iload_n F (pc := 203) (q := 3) (by decide +kernel) rfl ?_
  refine j_iconst F (pc := 204) (n := 1) (v := 1) (by decide +kernel) (by decide +kernel) ?_
  refine j_iadd F (pc := 205) (by decide +kernel) ?_
  refine j_sld F (pc := 206) S (hix 1 (by decide) (by decide)) (by decide +kernel) ?_
  refine j_aload_n F (pc := 207) (q := 0) (by decide +kernel) rfl ?_
  refine j_iload_n F (pc := 208) (q := 3) (by decide +kernel) rfl ?_
  refine j_iconst F (pc := 209) (n := 2) (v := 2) (by decide +kernel) (by decide +kernel) ?_
  refine j_iadd F (pc := 210) (by decide +kernel) ?_
  refine j_sld F (pc := 211) S (hix 2 (by decide) (by decide)) (by decide +kernel) ?_
  refine j_i2l F (pc := 212) (by decide +kernel) ?_
  refine j_bipush F (pc := 213) (n := 32) (v := 32) (by decide +kernel) (by decide +kernel) ?_
  refine j_lshl F (pc := 215) (by decide +kernel) ?_
  refine j_aload_n F (pc := 216) (q := 0) (by decide +kernel) rfl ?_
  refine j_iload_n F (pc := 217) (q := 3) (by decide +kernel) rfl ?_
  refine j_iconst F (pc := 218) (n := 3) (v := 3) (by decide +kernel) (by decide +kernel) ?_
  refine j_iadd F (pc := 219) (by decide +kernel) ?_
  refine j_sld F (pc := 220) S (hix 3 (by decide) (by decide)) (by decide +kernel) ?_
  refine j_i2l F (pc := 221) (by decide +kernel) ?_
  refine j_ldc2 F (pc := 222) m_1345 (by decide +kernel) ?_
  refine j_land F (pc := 225) (by decide +kernel) ?_
  refine j_lor F (pc := 226) (by decide +kernel) ?_
  refine j_callVi F (pc := 227) (idx := 19) (As := [.int (xs (nI i + (1 : Int32)).toNatClampNeg), .long ((((xs (nI i + (2 : Int32)).toNatClampNeg)).toInt64 <<< ((32 : Int32).toInt64 &&& 63)) ||| (((xs (nI i + (3 : Int32)).toNatClampNeg)).toInt64 &&& (4294967295 : Int64)))]) (st := [.int r]) (t_X5_feed (G := E.1) rfl hk1 h2) q_X5_feed v_X5_feed m_1044 (hk1.s c_98) rfl rfl (by decide) (Nat.le_of_ble_eq_true rfl) rfl (by decide +kernel) (fun r1 ν hq hp => ?_)
  obtain ⟨rfl, rfl⟩ := hp
  refine j_icmp_eq F (pc := 230) (off := 1393) (tgt := 1623) (by decide +kernel) (by decide) (fun c => ?_) (fun c => absurd rfl c)
  exact hn μ2 hI2
set_option maxHeartbeats 4000000 in
set_option maxRecDepth 100000 in
theorem lawc_1 {E : z_E} {b Ls i : Nat} {xs : Nat → Int32} {Inv : z_M → Prop} (F : z_F E RL cL_law 4 14) (S : z_SC E b Ls xs) (hsh : z_sh E.1 = z_SH) (hs1 : zs_1 Inv) (hix : ∀ j : Int32, 0 ≤ j → j < 10 → z_in (nI i + j) Ls) {μ : z_M} (hI : Inv μ) (hk : z_ok (z_sh E.1) μ.2.2) (hn : ∀ μ2, Inv μ2 → z_J E 4 1623 [some (.ref 999), some (.ref 0), some (.ref 98), some (.int (nI i))] [] μ2) : z_J E 4 235 [some (.ref 999), some (.ref 0), some (.ref 98), some (.int (nI i))] [] μ := by
  refine j_aload_n F (pc := 235) (q := 1) (by decide +kernel) rfl ?_
  refine j_aload_n F (pc := 236) (q := 0) (by decide +kernel) rfl ?_
  refine j_iload_n F (pc := 237) (q := 3) (by decide +kernel) rfl ?_
  refine j_iconst F (pc := 238) (n := 1) (v := 1) (by decide +kernel) (by decide +kernel) ?_
  refine j_iadd F (pc := 239) (by decide +kernel) ?_
  refine j_sld F (pc := 240) S (hix 1 (by decide) (by decide)) (by decide +kernel) ?_
  obtain ⟨r, μ1, μ2, h1, hok1, h2, hI2⟩ := (hs1 μ hI ((xs (nI i + (1 : Int32)).toNatClampNeg)))
  have hk1 : z_ok (z_sh E.1) μ1.2.2 := by rw [hsh]; exact hok1
  refine j_callV F (pc := 241) (idx := 20) (As := [.int (xs (nI i + (1 : Int32)).toNatClampNeg)]) (st := []) (t_X4_law (G := E.1) rfl hk h1) q_X4_law v_X4_law m_382 (hk.s c_0) rfl rfl (by decide) (Nat.le_of_ble_eq_true rfl) rfl (by decide +kernel) (fun v ν hp => ?_)
  obtain ⟨rfl, rfl⟩ := hp
  show z_J E 4 _ [some (.ref 999), some (.ref 0), some (.ref 98), some (.int (nI i))] [.int r] μ1
  refine j_aload_n F (pc := 244) (q := 2) (by decide +kernel) rfl ?_
  refine j_aload_n F (pc := 245) (q := 0) (by decide +kernel) rfl ?_
  refine j_iload_n F (pc := 246) (q := 3) (by decide +kernel) rfl ?_
  refine j_iconst F (pc := 247) (n := 1) (v := 1) (by decide +kernel) (by decide +kernel) ?_
  refine j_iadd F (pc := 248) (by decide +kernel) ?_
  refine j_sld F (pc := 249) S (hix 1 (by decide) (by decide)) (by decide +kernel) ?_
  refine j_callVi F (pc := 250) (idx := 24) (As := [.int (xs (nI i + (1 : Int32)).toNatClampNeg)]) (st := [.int r]) (t_X5_law (G := E.1) rfl hk1 h2) q_X5_law v_X5_law m_1053 (hk1.s c_98) rfl rfl (by decide) (Nat.le_of_ble_eq_true rfl) rfl (by decide +kernel) (fun r1 ν hq hp => ?_)
  obtain ⟨rfl, rfl⟩ := hp
  refine j_icmp_eq F (pc := 253) (off := 1370) (tgt := 1623) (by decide +kernel) (by decide) (fun c => ?_) (fun c => absurd rfl c)
  exact hn μ2 hI2
set_option maxHeartbeats 4000000 in
set_option maxRecDepth 100000 in
theorem lawc_2 {E : z_E} {b Ls i : Nat} {xs : Nat → Int32} {Inv : z_M → Prop} (F : z_F E RL cL_law 4 14) (S : z_SC E b Ls xs) (hsh : z_sh E.1 = z_SH) (hs2 : zs_2 Inv) (hix : ∀ j : Int32, 0 ≤ j → j < 10 → z_in (nI i + j) Ls) {μ : z_M} (hI : Inv μ) (hk : z_ok (z_sh E.1) μ.2.2) (hn : ∀ μ2, Inv μ2 → z_J E 4 1623 [some (.ref 999), some (.ref 0), some (.ref 98), some (.int (nI i))] [] μ2) : z_J E 4 258 [some (.ref 999), some (.ref 0), some (.ref 98), some (.int (nI i))] [] μ := by
  refine j_aload_n F (pc := 258) (q := 1) (by decide +kernel) rfl ?_
  obtain ⟨r, μ1, μ2, h1, hok1, h2, hI2⟩ := (hs2 μ hI )
  have hk1 : z_ok (z_sh E.1) μ1.2.2 := by rw [hsh]; exact hok1
  refine j_callVi F (pc := 259) (idx := 25) (As := []) (st := []) (t_X4_fault (G := E.1) rfl hk h1) q_X4_fault v_X4_fault m_555 (hk.s c_0) rfl rfl (by decide) (Nat.le_of_ble_eq_true rfl) rfl (by decide +kernel) (fun r0 ν hq hp => ?_)
  obtain ⟨rfl, rfl⟩ := hp
  refine j_aload_n F (pc := 262) (q := 2) (by decide +kernel) rfl ?_
  refine j_callVi F (pc := 263) (idx := 29) (As := []) (st := [.int r]) (t_X5_fault (G := E.1) rfl hk1 h2) q_X5_fault v_X5_fault m_1131 (hk1.s c_98) rfl rfl (by decide) (Nat.le_of_ble_eq_true rfl) rfl (by decide +kernel) (fun r1 ν hq hp => ?_)
  obtain ⟨rfl, rfl⟩ := hp
  refine j_icmp_eq F (pc := 266) (off := 1357) (tgt := 1623) (by decide +kernel) (by decide) (fun c => ?_) (fun c => absurd rfl c)
  exact hn μ2 hI2
set_option maxHeartbeats 4000000 in
set_option maxRecDepth 100000 in
theorem lawc_3 {E : z_E} {b Ls i : Nat} {xs : Nat → Int32} {Inv : z_M → Prop} (F : z_F E RL cL_law 4 14) (S : z_SC E b Ls xs) (hsh : z_sh E.1 = z_SH) (hs3 : zs_3 Inv) (hix : ∀ j : Int32, 0 ≤ j → j < 10 → z_in (nI i + j) Ls) {μ : z_M} (hI : Inv μ) (hk : z_ok (z_sh E.1) μ.2.2) (hn : ∀ μ2, Inv μ2 → z_J E 4 1623 [some (.ref 999), some (.ref 0), some (.ref 98), some (.int (nI i))] [] μ2) : z_J E 4 271 [some (.ref 999), some (.ref 0), some (.ref 98), some (.int (nI i))] [] μ := by
  refine j_aload_n F (pc := 271) (q := 1) (by decide +kernel) rfl ?_
  refine j_aload_n F (pc := 272) (q := 0) (by decide +kernel) rfl ?_
  refine j_iload_n F (pc := 273) (q := 3) (by decide +kernel) rfl ?_
  refine j_iconst F (pc := 274) (n := 1) (v := 1) (by decide +kernel) (by decide +kernel) ?_
  refine j_iadd F (pc := 275) (by decide +kernel) ?_
  refine j_sld F (pc := 276) S (hix 1 (by decide) (by decide)) (by decide +kernel) ?_
  refine j_aload_n F (pc := 277) (q := 0) (by decide +kernel) rfl ?_
  refine j_iload_n F (pc := 278) (q := 3) (by decide +kernel) rfl ?_
  refine j_iconst F (pc := 279) (n := 2) (v := 2) (by decide +kernel) (by decide +kernel) ?_
  refine j_iadd F (pc := 280) (by decide +kernel) ?_
  refine j_sld F (pc := 281) S (hix 2 (by decide) (by decide)) (by decide +kernel) ?_
  refine j_aload_n F (pc := 282) (q := 0) (by decide +kernel) rfl ?_
  refine j_iload_n F (pc := 283) (q := 3) (by decide +kernel) rfl ?_
  refine j_iconst F (pc := 284) (n := 3) (v := 3) (by decide +kernel) (by decide +kernel) ?_
  refine j_iadd F (pc := 285) (by decide +kernel) ?_
  refine j_sld F (pc := 286) S (hix 3 (by decide) (by decide)) (by decide +kernel) ?_
  obtain ⟨r, μ1, μ2, h1, hok1, h2, hI2⟩ := (hs3 μ hI ((xs (nI i + (1 : Int32)).toNatClampNeg)) ((xs (nI i + (2 : Int32)).toNatClampNeg)) ((xs (nI i + (3 : Int32)).toNatClampNeg)))
  have hk1 : z_ok (z_sh E.1) μ1.2.2 := by rw [hsh]; exact hok1
  refine j_callVi F (pc := 287) (idx := 30) (As := [.int (xs (nI i + (1 : Int32)).toNatClampNeg), .int (xs (nI i + (2 : Int32)).toNatClampNeg), .int (xs (nI i + (3 : Int32)).toNatClampNeg)]) (st := []) (t_X4_kind (G := E.1) rfl hk h1) q_X4_kind v_X4_kind m_559 (hk.s c_0) rfl rfl (by decide) (Nat.le_of_ble_eq_true rfl) rfl (by decide +kernel) (fun r0 ν hq hp => ?_)
  obtain ⟨rfl, rfl⟩ := hp
  refine j_aload_n F (pc := 290) (q := 2) (by decide +kernel) rfl ?_
  refine j_aload_n F (pc := 291) (q := 0) (by decide +kernel) rfl ?_
  refine j_iload_n F (pc := 292) (q := 3) (by decide +kernel) rfl ?_
  refine j_iconst F (pc := 293) (n := 1) (v := 1) (by decide +kernel) (by decide +kernel) ?_
  refine j_iadd F (pc := 294) (by decide +kernel) ?_
  refine j_sld F (pc := 295) S (hix 1 (by decide) (by decide)) (by decide +kernel) ?_
  refine j_aload_n F (pc := 296) (q := 0) (by decide +kernel) rfl ?_
  refine j_iload_n F (pc := 297) (q := 3) (by decide +kernel) rfl ?_
  refine j_iconst F (pc := 298) (n := 2) (v := 2) (by decide +kernel) (by decide +kernel) ?_
  refine j_iadd F (pc := 299) (by decide +kernel) ?_
  refine j_sld F (pc := 300) S (hix 2 (by decide) (by decide)) (by decide +kernel) ?_
  refine j_aload_n F (pc := 301) (q := 0) (by decide +kernel) rfl ?_
  refine j_iload_n F (pc := 302) (q := 3) (by decide +kernel) rfl ?_
  refine j_iconst F (pc := 303) (n := 3) (v := 3) (by decide +kernel) (by decide +kernel) ?_
  refine j_iadd F (pc := 304) (by decide +kernel) ?_
  refine j_sld F (pc := 305) S (hix 3 (by decide) (by decide)) (by decide +kernel) ?_
  refine j_callVi F (pc := 306) (idx := 34) (As := [.int (xs (nI i + (1 : Int32)).toNatClampNeg), .int (xs (nI i + (2 : Int32)).toNatClampNeg), .int (xs (nI i + (3 : Int32)).toNatClampNeg)]) (st := [.int r]) (t_X5_kind (G := E.1) rfl hk1 h2) q_X5_kind v_X5_kind m_1135 (hk1.s c_98) rfl rfl (by decide) (Nat.le_of_ble_eq_true rfl) rfl (by decide +kernel) (fun r1 ν hq hp => ?_)
  obtain ⟨rfl, rfl⟩ := hp
  refine j_icmp_eq F (pc := 309) (off := 1314) (tgt := 1623) (by decide +kernel) (by decide) (fun c => ?_) (fun c => absurd rfl c)
  exact hn μ2 hI2
set_option maxHeartbeats 4000000 in
set_option maxRecDepth 100000 in
theorem lawc_4 {E : z_E} {b Ls i : Nat} {xs : Nat → Int32} {Inv : z_M → Prop} (F : z_F E RL cL_law 4 14) (S : z_SC E b Ls xs) (hsh : z_sh E.1 = z_SH) (hs4 : zs_4 Inv) (hix : ∀ j : Int32, 0 ≤ j → j < 10 → z_in (nI i + j) Ls) {μ : z_M} (hI : Inv μ) (hk : z_ok (z_sh E.1) μ.2.2) (hn : ∀ μ2, Inv μ2 → z_J E 4 1623 [some (.ref 999), some (.ref 0), some (.ref 98), some (.int (nI i))] [] μ2) : z_J E 4 314 [some (.ref 999), some (.ref 0), some (.ref 98), some (.int (nI i))] [] μ := by
  refine j_aload_n F (pc := 314) (q := 1) (by decide +kernel) rfl ?_
  refine j_aload_n F (pc := 315) (q := 0) (by decide +kernel) rfl ?_
  refine j_iload_n F (pc := 316) (q := 3) (by decide +kernel) rfl ?_
  refine j_iconst F (pc := 317) (n := 1) (v := 1) (by decide +kernel) (by decide +kernel) ?_
  refine j_iadd F (pc := 318) (by decide +kernel) ?_
  refine j_sld F (pc := 319) S (hix 1 (by decide) (by decide)) (by decide +kernel) ?_
  refine j_aload_n F (pc := 320) (q := 0) (by decide +kernel) rfl ?_
  refine j_iload_n F (pc := 321) (q := 3) (by decide +kernel) rfl ?_
  refine j_iconst F (pc := 322) (n := 2) (v := 2) (by decide +kernel) (by decide +kernel) ?_
  refine j_iadd F (pc := 323) (by decide +kernel) ?_
  refine j_sld F (pc := 324) S (hix 2 (by decide) (by decide)) (by decide +kernel) ?_
  obtain ⟨r, μ1, μ2, h1, hok1, h2, hI2⟩ := (hs4 μ hI ((xs (nI i + (1 : Int32)).toNatClampNeg)) ((xs (nI i + (2 : Int32)).toNatClampNeg)))
  have hk1 : z_ok (z_sh E.1) μ1.2.2 := by rw [hsh]; exact hok1
  refine j_callVi F (pc := 325) (idx := 35) (As := [.int (xs (nI i + (1 : Int32)).toNatClampNeg), .int (xs (nI i + (2 : Int32)).toNatClampNeg)]) (st := []) (t_X4_rule (G := E.1) rfl hk h1) q_X4_rule v_X4_rule m_567 (hk.s c_0) rfl rfl (by decide) (Nat.le_of_ble_eq_true rfl) rfl (by decide +kernel) (fun r0 ν hq hp => ?_)
  obtain ⟨rfl, rfl⟩ := hp
  refine j_aload_n F (pc := 328) (q := 2) (by decide +kernel) rfl ?_
  refine j_aload_n F (pc := 329) (q := 0) (by decide +kernel) rfl ?_
  refine j_iload_n F (pc := 330) (q := 3) (by decide +kernel) rfl ?_
  refine j_iconst F (pc := 331) (n := 1) (v := 1) (by decide +kernel) (by decide +kernel) ?_
  refine j_iadd F (pc := 332) (by decide +kernel) ?_
  refine j_sld F (pc := 333) S (hix 1 (by decide) (by decide)) (by decide +kernel) ?_
  refine j_aload_n F (pc := 334) (q := 0) (by decide +kernel) rfl ?_
  refine j_iload_n F (pc := 335) (q := 3) (by decide +kernel) rfl ?_
  refine j_iconst F (pc := 336) (n := 2) (v := 2) (by decide +kernel) (by decide +kernel) ?_
  refine j_iadd F (pc := 337) (by decide +kernel) ?_
  refine j_sld F (pc := 338) S (hix 2 (by decide) (by decide)) (by decide +kernel) ?_
  refine j_callVi F (pc := 339) (idx := 39) (As := [.int (xs (nI i + (1 : Int32)).toNatClampNeg), .int (xs (nI i + (2 : Int32)).toNatClampNeg)]) (st := [.int r]) (t_X5_rule (G := E.1) rfl hk1 h2) q_X5_rule v_X5_rule m_1147 (hk1.s c_98) rfl rfl (by decide) (Nat.le_of_ble_eq_true rfl) rfl (by decide +kernel) (fun r1 ν hq hp => ?_)
  obtain ⟨rfl, rfl⟩ := hp
  refine j_icmp_eq F (pc := 342) (off := 1281) (tgt := 1623) (by decide +kernel) (by decide) (fun c => ?_) (fun c => absurd rfl c)
  exact hn μ2 hI2
set_option maxHeartbeats 4000000 in
set_option maxRecDepth 100000 in
theorem lawc_5 {E : z_E} {b Ls i : Nat} {xs : Nat → Int32} {Inv : z_M → Prop} (F : z_F E RL cL_law 4 14) (S : z_SC E b Ls xs) (hsh : z_sh E.1 = z_SH) (hs5 : zs_5 Inv) (hix : ∀ j : Int32, 0 ≤ j → j < 10 → z_in (nI i + j) Ls) {μ : z_M} (hI : Inv μ) (hk : z_ok (z_sh E.1) μ.2.2) (hn : ∀ μ2, Inv μ2 → z_J E 4 1623 [some (.ref 999), some (.ref 0), some (.ref 98), some (.int (nI i))] [] μ2) : z_J E 4 347 [some (.ref 999), some (.ref 0), some (.ref 98), some (.int (nI i))] [] μ := by
  refine j_aload_n F (pc := 347) (q := 1) (by decide +kernel) rfl ?_
  refine j_aload_n F (pc := 348) (q := 0) (by decide +kernel) rfl ?_
  refine j_iload_n F (pc := 349) (q := 3) (by decide +kernel) rfl ?_
  refine j_iconst F (pc := 350) (n := 1) (v := 1) (by decide +kernel) (by decide +kernel) ?_
  refine j_iadd F (pc := 351) (by decide +kernel) ?_
  refine j_sld F (pc := 352) S (hix 1 (by decide) (by decide)) (by decide +kernel) ?_
  refine j_aload_n F (pc := 353) (q := 0) (by decide +kernel) rfl ?_
  refine j_iload_n F (pc := 354) (q := 3) (by decide +kernel) rfl ?_
  refine j_iconst F (pc := 355) (n := 2) (v := 2) (by decide +kernel) (by decide +kernel) ?_
  refine j_iadd F (pc := 356) (by decide +kernel) ?_
  refine j_sld F (pc := 357) S (hix 2 (by decide) (by decide)) (by decide +kernel) ?_
  refine j_aload_n F (pc := 358) (q := 0) (by decide +kernel) rfl ?_
  refine j_iload_n F (pc := 359) (q := 3) (by decide +kernel) rfl ?_
  refine j_iconst F (pc := 360) (n := 3) (v := 3) (by decide +kernel) (by decide +kernel) ?_
  refine j_iadd F (pc := 361) (by decide +kernel) ?_
  refine j_sld F (pc := 362) S (hix 3 (by decide) (by decide)) (by decide +kernel) ?_
  obtain ⟨r, μ1, μ2, h1, hok1, h2, hI2⟩ := (hs5 μ hI ((xs (nI i + (1 : Int32)).toNatClampNeg)) ((xs (nI i + (2 : Int32)).toNatClampNeg)) ((xs (nI i + (3 : Int32)).toNatClampNeg)))
  have hk1 : z_ok (z_sh E.1) μ1.2.2 := by rw [hsh]; exact hok1
  refine j_callVi F (pc := 363) (idx := 40) (As := [.int (xs (nI i + (1 : Int32)).toNatClampNeg), .int (xs (nI i + (2 : Int32)).toNatClampNeg), .int (xs (nI i + (3 : Int32)).toNatClampNeg)]) (st := []) (t_X4_goes (G := E.1) rfl hk h1) q_X4_goes v_X4_goes m_571 (hk.s c_0) rfl rfl (by decide) (Nat.le_of_ble_eq_true rfl) rfl (by decide +kernel) (fun r0 ν hq hp => ?_)
  obtain ⟨rfl, rfl⟩ := hp
  refine j_aload_n F (pc := 366) (q := 2) (by decide +kernel) rfl ?_
  refine j_aload_n F (pc := 367) (q := 0) (by decide +kernel) rfl ?_
  refine j_iload_n F (pc := 368) (q := 3) (by decide +kernel) rfl ?_
  refine j_iconst F (pc := 369) (n := 1) (v := 1) (by decide +kernel) (by decide +kernel) ?_
  refine j_iadd F (pc := 370) (by decide +kernel) ?_
  refine j_sld F (pc := 371) S (hix 1 (by decide) (by decide)) (by decide +kernel) ?_
  refine j_aload_n F (pc := 372) (q := 0) (by decide +kernel) rfl ?_
  refine j_iload_n F (pc := 373) (q := 3) (by decide +kernel) rfl ?_
  refine j_iconst F (pc := 374) (n := 2) (v := 2) (by decide +kernel) (by decide +kernel) ?_
  refine j_iadd F (pc := 375) (by decide +kernel) ?_
  refine j_sld F (pc := 376) S (hix 2 (by decide) (by decide)) (by decide +kernel) ?_
  refine j_aload_n F (pc := 377) (q := 0) (by decide +kernel) rfl ?_
  refine j_iload_n F (pc := 378) (q := 3) (by decide +kernel) rfl ?_
  refine j_iconst F (pc := 379) (n := 3) (v := 3) (by decide +kernel) (by decide +kernel) ?_
  refine j_iadd F (pc := 380) (by decide +kernel) ?_
  refine j_sld F (pc := 381) S (hix 3 (by decide) (by decide)) (by decide +kernel) ?_
  refine j_callVi F (pc := 382) (idx := 43) (As := [.int (xs (nI i + (1 : Int32)).toNatClampNeg), .int (xs (nI i + (2 : Int32)).toNatClampNeg), .int (xs (nI i + (3 : Int32)).toNatClampNeg)]) (st := [.int r]) (t_X5_goes (G := E.1) rfl hk1 h2) q_X5_goes v_X5_goes m_1152 (hk1.s c_98) rfl rfl (by decide) (Nat.le_of_ble_eq_true rfl) rfl (by decide +kernel) (fun r1 ν hq hp => ?_)
  obtain ⟨rfl, rfl⟩ := hp
  refine j_icmp_eq F (pc := 385) (off := 1238) (tgt := 1623) (by decide +kernel) (by decide) (fun c => ?_) (fun c => absurd rfl c)
  exact hn μ2 hI2
set_option maxHeartbeats 4000000 in
set_option maxRecDepth 100000 in
theorem lawc_6 {E : z_E} {b Ls i : Nat} {xs : Nat → Int32} {Inv : z_M → Prop} (F : z_F E RL cL_law 4 14) (S : z_SC E b Ls xs) (hsh : z_sh E.1 = z_SH) (hs6 : zs_6 Inv) (hix : ∀ j : Int32, 0 ≤ j → j < 10 → z_in (nI i + j) Ls) {μ : z_M} (hI : Inv μ) (hk : z_ok (z_sh E.1) μ.2.2) (hn : ∀ μ2, Inv μ2 → z_J E 4 1623 [some (.ref 999), some (.ref 0), some (.ref 98), some (.int (nI i))] [] μ2) : z_J E 4 390 [some (.ref 999), some (.ref 0), some (.ref 98), some (.int (nI i))] [] μ := by
  refine j_aload_n F (pc := 390) (q := 1) (by decide +kernel) rfl ?_
  refine j_aload_n F (pc := 391) (q := 0) (by decide +kernel) rfl ?_
  refine j_iload_n F (pc := 392) (q := 3) (by decide +kernel) rfl ?_
  refine j_iconst F (pc := 393) (n := 1) (v := 1) (by decide +kernel) (by decide +kernel) ?_
  refine j_iadd F (pc := 394) (by decide +kernel) ?_
  refine j_sld F (pc := 395) S (hix 1 (by decide) (by decide)) (by decide +kernel) ?_
  refine j_aload_n F (pc := 396) (q := 0) (by decide +kernel) rfl ?_
  refine j_iload_n F (pc := 397) (q := 3) (by decide +kernel) rfl ?_
  refine j_iconst F (pc := 398) (n := 2) (v := 2) (by decide +kernel) (by decide +kernel) ?_
  refine j_iadd F (pc := 399) (by decide +kernel) ?_
  refine j_sld F (pc := 400) S (hix 2 (by decide) (by decide)) (by decide +kernel) ?_
  obtain ⟨r, μ1, μ2, h1, hok1, h2, hI2⟩ := (hs6 μ hI ((xs (nI i + (1 : Int32)).toNatClampNeg)) ((xs (nI i + (2 : Int32)).toNatClampNeg)))
  have hk1 : z_ok (z_sh E.1) μ1.2.2 := by rw [hsh]; exact hok1
  refine j_callVi F (pc := 401) (idx := 44) (As := [.int (xs (nI i + (1 : Int32)).toNatClampNeg), .int (xs (nI i + (2 : Int32)).toNatClampNeg)]) (st := []) (t_X4_voyage (G := E.1) rfl hk h1) q_X4_voyage v_X4_voyage m_575 (hk.s c_0) rfl rfl (by decide) (Nat.le_of_ble_eq_true rfl) rfl (by decide +kernel) (fun r0 ν hq hp => ?_)
  obtain ⟨rfl, rfl⟩ := hp
  refine j_aload_n F (pc := 404) (q := 2) (by decide +kernel) rfl ?_
  refine j_aload_n F (pc := 405) (q := 0) (by decide +kernel) rfl ?_
  refine j_iload_n F (pc := 406) (q := 3) (by decide +kernel) rfl ?_
  refine j_iconst F (pc := 407) (n := 1) (v := 1) (by decide +kernel) (by decide +kernel) ?_
  refine j_iadd F (pc := 408) (by decide +kernel) ?_
  refine j_sld F (pc := 409) S (hix 1 (by decide) (by decide)) (by decide +kernel) ?_
  refine j_aload_n F (pc := 410) (q := 0) (by decide +kernel) rfl ?_
  refine j_iload_n F (pc := 411) (q := 3) (by decide +kernel) rfl ?_
  refine j_iconst F (pc := 412) (n := 2) (v := 2) (by decide +kernel) (by decide +kernel) ?_
  refine j_iadd F (pc := 413) (by decide +kernel) ?_
  refine j_sld F (pc := 414) S (hix 2 (by decide) (by decide)) (by decide +kernel) ?_
  refine j_callVi F (pc := 415) (idx := 47) (As := [.int (xs (nI i + (1 : Int32)).toNatClampNeg), .int (xs (nI i + (2 : Int32)).toNatClampNeg)]) (st := [.int r]) (t_X5_voyage (G := E.1) rfl hk1 h2) q_X5_voyage v_X5_voyage m_1156 (hk1.s c_98) rfl rfl (by decide) (Nat.le_of_ble_eq_true rfl) rfl (by decide +kernel) (fun r1 ν hq hp => ?_)
  obtain ⟨rfl, rfl⟩ := hp
  refine j_icmp_eq F (pc := 418) (off := 1205) (tgt := 1623) (by decide +kernel) (by decide) (fun c => ?_) (fun c => absurd rfl c)
  exact hn μ2 hI2
set_option maxHeartbeats 4000000 in
set_option maxRecDepth 100000 in
theorem lawc_7 {E : z_E} {b Ls i : Nat} {xs : Nat → Int32} {Inv : z_M → Prop} (F : z_F E RL cL_law 4 14) (S : z_SC E b Ls xs) (hsh : z_sh E.1 = z_SH) (hs7 : zs_7 Inv) (hix : ∀ j : Int32, 0 ≤ j → j < 10 → z_in (nI i + j) Ls) {μ : z_M} (hI : Inv μ) (hk : z_ok (z_sh E.1) μ.2.2) (hn : ∀ μ2, Inv μ2 → z_J E 4 1623 [some (.ref 999), some (.ref 0), some (.ref 98), some (.int (nI i))] [] μ2) : z_J E 4 423 [some (.ref 999), some (.ref 0), some (.ref 98), some (.int (nI i))] [] μ := by
  refine j_aload_n F (pc := 423) (q := 1) (by decide +kernel) rfl ?_
  refine j_aload_n F (pc := 424) (q := 0) (by decide +kernel) rfl ?_
  refine j_iload_n F (pc := 425) (q := 3) (by decide +kernel) rfl ?_
  refine j_iconst F (pc := 426) (n := 1) (v := 1) (by decide +kernel) (by decide +kernel) ?_
  refine j_iadd F (pc := 427) (by decide +kernel) ?_
  refine j_sld F (pc := 428) S (hix 1 (by decide) (by decide)) (by decide +kernel) ?_
  refine j_aload_n F (pc := 429) (q := 0) (by decide +kernel) rfl ?_
  refine j_iload_n F (pc := 430) (q := 3) (by decide +kernel) rfl ?_
  refine j_iconst F (pc := 431) (n := 2) (v := 2) (by decide +kernel) (by decide +kernel) ?_
  refine j_iadd F (pc := 432) (by decide +kernel) ?_
  refine j_sld F (pc := 433) S (hix 2 (by decide) (by decide)) (by decide +kernel) ?_
  refine j_aload_n F (pc := 434) (q := 0) (by decide +kernel) rfl ?_
  refine j_iload_n F (pc := 435) (q := 3) (by decide +kernel) rfl ?_
  refine j_iconst F (pc := 436) (n := 3) (v := 3) (by decide +kernel) (by decide +kernel) ?_
  refine j_iadd F (pc := 437) (by decide +kernel) ?_
  refine j_sld F (pc := 438) S (hix 3 (by decide) (by decide)) (by decide +kernel) ?_
  refine j_aload_n F (pc := 439) (q := 0) (by decide +kernel) rfl ?_
  refine j_iload_n F (pc := 440) (q := 3) (by decide +kernel) rfl ?_
  refine j_iconst F (pc := 441) (n := 4) (v := 4) (by decide +kernel) (by decide +kernel) ?_
  refine j_iadd F (pc := 442) (by decide +kernel) ?_
  refine j_sld F (pc := 443) S (hix 4 (by decide) (by decide)) (by decide +kernel) ?_
  refine j_aload_n F (pc := 444) (q := 0) (by decide +kernel) rfl ?_
  refine j_iload_n F (pc := 445) (q := 3) (by decide +kernel) rfl ?_
  refine j_iconst F (pc := 446) (n := 5) (v := 5) (by decide +kernel) (by decide +kernel) ?_
  refine j_iadd F (pc := 447) (by decide +kernel) ?_
  refine j_sld F (pc := 448) S (hix 5 (by decide) (by decide)) (by decide +kernel) ?_
  suffices hj : z_J E 4 457 [some (.ref 999), some (.ref 0), some (.ref 98), some (.int (nI i))] (.int (if (xs (nI i + (5 : Int32)).toNatClampNeg) = 0 then (0 : Int32) else (1 : Int32)) :: [.int (xs (nI i + (4 : Int32)).toNatClampNeg), .int (xs (nI i + (3 : Int32)).toNatClampNeg), .int (xs (nI i + (2 : Int32)).toNatClampNeg), .int (xs (nI i + (1 : Int32)).toNatClampNeg), .ref 0]) μ by
    refine j_if_eq F (pc := 449) (off := 7) (tgt := 456) (by decide +kernel) (by decide) (fun c => ?_) (fun c => ?_)
    · rw [if_pos c] at hj
      refine j_iconst F (pc := 456) (n := 0) (v := 0) (by decide +kernel) (by decide +kernel) ?_
      exact hj
    · rw [if_neg c] at hj
      refine j_iconst F (pc := 452) (n := 1) (v := 1) (by decide +kernel) (by decide +kernel) ?_
      refine j_goto F (pc := 453) (off := 4) (tgt := 457) (by decide +kernel) (by decide) ?_
      exact hj
  refine j_aload_n F (pc := 457) (q := 0) (by decide +kernel) rfl ?_
  refine j_iload_n F (pc := 458) (q := 3) (by decide +kernel) rfl ?_
  refine j_bipush F (pc := 459) (n := 6) (v := 6) (by decide +kernel) (by decide +kernel) ?_
  refine j_iadd F (pc := 461) (by decide +kernel) ?_
  refine j_sld F (pc := 462) S (hix 6 (by decide) (by decide)) (by decide +kernel) ?_
  obtain ⟨r, μ1, μ2, h1, hok1, h2, hI2⟩ := (hs7 μ hI ((xs (nI i + (1 : Int32)).toNatClampNeg)) ((xs (nI i + (2 : Int32)).toNatClampNeg)) ((xs (nI i + (3 : Int32)).toNatClampNeg)) ((xs (nI i + (4 : Int32)).toNatClampNeg)) ((if (xs (nI i + (5 : Int32)).toNatClampNeg) = 0 then (0 : Int32) else (1 : Int32))) ((xs (nI i + (6 : Int32)).toNatClampNeg)) (by split <;> simp))
  have hk1 : z_ok (z_sh E.1) μ1.2.2 := by rw [hsh]; exact hok1
  refine j_callVi F (pc := 463) (idx := 48) (As := [.int (xs (nI i + (1 : Int32)).toNatClampNeg), .int (xs (nI i + (2 : Int32)).toNatClampNeg), .int (xs (nI i + (3 : Int32)).toNatClampNeg), .int (xs (nI i + (4 : Int32)).toNatClampNeg), .int (if (xs (nI i + (5 : Int32)).toNatClampNeg) = 0 then (0 : Int32) else (1 : Int32)), .int (xs (nI i + (6 : Int32)).toNatClampNeg)]) (st := []) (t_X4_claim (G := E.1) rfl hk h1) q_X4_claim v_X4_claim m_590 (hk.s c_0) rfl rfl (by decide) (Nat.le_of_ble_eq_true rfl) rfl (by decide +kernel) (fun r0 ν hq hp => ?_)
  obtain ⟨rfl, rfl⟩ := hp
  refine j_aload_n F (pc := 466) (q := 2) (by decide +kernel) rfl ?_
  refine j_aload_n F (pc := 467) (q := 0) (by decide +kernel) rfl ?_
  refine j_iload_n F (pc := 468) (q := 3) (by decide +kernel) rfl ?_
  refine j_iconst F (pc := 469) (n := 1) (v := 1) (by decide +kernel) (by decide +kernel) ?_
  refine j_iadd F (pc := 470) (by decide +kernel) ?_
  refine j_sld F (pc := 471) S (hix 1 (by decide) (by decide)) (by decide +kernel) ?_
  refine j_aload_n F (pc := 472) (q := 0) (by decide +kernel) rfl ?_
  refine j_iload_n F (pc := 473) (q := 3) (by decide +kernel) rfl ?_
  refine j_iconst F (pc := 474) (n := 2) (v := 2) (by decide +kernel) (by decide +kernel) ?_
  refine j_iadd F (pc := 475) (by decide +kernel) ?_
  refine j_sld F (pc := 476) S (hix 2 (by decide) (by decide)) (by decide +kernel) ?_
  refine j_aload_n F (pc := 477) (q := 0) (by decide +kernel) rfl ?_
  refine j_iload_n F (pc := 478) (q := 3) (by decide +kernel) rfl ?_
  refine j_iconst F (pc := 479) (n := 3) (v := 3) (by decide +kernel) (by decide +kernel) ?_
  refine j_iadd F (pc := 480) (by decide +kernel) ?_
  refine j_sld F (pc := 481) S (hix 3 (by decide) (by decide)) (by decide +kernel) ?_
  refine j_aload_n F (pc := 482) (q := 0) (by decide +kernel) rfl ?_
  refine j_iload_n F (pc := 483) (q := 3) (by decide +kernel) rfl ?_
  refine j_iconst F (pc := 484) (n := 4) (v := 4) (by decide +kernel) (by decide +kernel) ?_
  refine j_iadd F (pc := 485) (by decide +kernel) ?_
  refine j_sld F (pc := 486) S (hix 4 (by decide) (by decide)) (by decide +kernel) ?_
  refine j_aload_n F (pc := 487) (q := 0) (by decide +kernel) rfl ?_
  refine j_iload_n F (pc := 488) (q := 3) (by decide +kernel) rfl ?_
  refine j_iconst F (pc := 489) (n := 5) (v := 5) (by decide +kernel) (by decide +kernel) ?_
  refine j_iadd F (pc := 490) (by decide +kernel) ?_
  refine j_sld F (pc := 491) S (hix 5 (by decide) (by decide)) (by decide +kernel) ?_
  suffices hj : z_J E 4 500 [some (.ref 999), some (.ref 0), some (.ref 98), some (.int (nI i))] (.int (if (xs (nI i + (5 : Int32)).toNatClampNeg) = 0 then (0 : Int32) else (1 : Int32)) :: [.int (xs (nI i + (4 : Int32)).toNatClampNeg), .int (xs (nI i + (3 : Int32)).toNatClampNeg), .int (xs (nI i + (2 : Int32)).toNatClampNeg), .int (xs (nI i + (1 : Int32)).toNatClampNeg), .ref 98, .int r]) μ1 by
    refine j_if_eq F (pc := 492) (off := 7) (tgt := 499) (by decide +kernel) (by decide) (fun c => ?_) (fun c => ?_)
    · rw [if_pos c] at hj
      refine j_iconst F (pc := 499) (n := 0) (v := 0) (by decide +kernel) (by decide +kernel) ?_
      exact hj
    · rw [if_neg c] at hj
      refine j_iconst F (pc := 495) (n := 1) (v := 1) (by decide +kernel) (by decide +kernel) ?_
      refine j_goto F (pc := 496) (off := 4) (tgt := 500) (by decide +kernel) (by decide) ?_
      exact hj
  refine j_aload_n F (pc := 500) (q := 0) (by decide +kernel) rfl ?_
  refine j_iload_n F (pc := 501) (q := 3) (by decide +kernel) rfl ?_
  refine j_bipush F (pc := 502) (n := 6) (v := 6) (by decide +kernel) (by decide +kernel) ?_
  refine j_iadd F (pc := 504) (by decide +kernel) ?_
  refine j_sld F (pc := 505) S (hix 6 (by decide) (by decide)) (by decide +kernel) ?_
  refine j_callVi F (pc := 506) (idx := 52) (As := [.int (xs (nI i + (1 : Int32)).toNatClampNeg), .int (xs (nI i + (2 : Int32)).toNatClampNeg), .int (xs (nI i + (3 : Int32)).toNatClampNeg), .int (xs (nI i + (4 : Int32)).toNatClampNeg), .int (if (xs (nI i + (5 : Int32)).toNatClampNeg) = 0 then (0 : Int32) else (1 : Int32)), .int (xs (nI i + (6 : Int32)).toNatClampNeg)]) (st := [.int r]) (t_X5_claim (G := E.1) rfl hk1 h2) q_X5_claim v_X5_claim m_1164 (hk1.s c_98) rfl rfl (by decide) (Nat.le_of_ble_eq_true rfl) rfl (by decide +kernel) (fun r1 ν hq hp => ?_)
  obtain ⟨rfl, rfl⟩ := hp
  refine j_icmp_eq F (pc := 509) (off := 1114) (tgt := 1623) (by decide +kernel) (by decide) (fun c => ?_) (fun c => absurd rfl c)
  exact hn μ2 hI2
set_option maxHeartbeats 4000000 in
set_option maxRecDepth 100000 in
theorem lawc_8 {E : z_E} {b Ls i : Nat} {xs : Nat → Int32} {Inv : z_M → Prop} (F : z_F E RL cL_law 4 14) (S : z_SC E b Ls xs) (hsh : z_sh E.1 = z_SH) (hs8 : zs_8 Inv) (hix : ∀ j : Int32, 0 ≤ j → j < 10 → z_in (nI i + j) Ls) {μ : z_M} (hI : Inv μ) (hk : z_ok (z_sh E.1) μ.2.2) (hn : ∀ μ2, Inv μ2 → z_J E 4 1623 [some (.ref 999), some (.ref 0), some (.ref 98), some (.int (nI i))] [] μ2) : z_J E 4 514 [some (.ref 999), some (.ref 0), some (.ref 98), some (.int (nI i))] [] μ := by
  refine j_aload_n F (pc := 514) (q := 1) (by decide +kernel) rfl ?_
  refine j_aload_n F (pc := 515) (q := 0) (by decide +kernel) rfl ?_
  refine j_iload_n F (pc := 516) (q := 3) (by decide +kernel) rfl ?_
  refine j_iconst F (pc := 517) (n := 1) (v := 1) (by decide +kernel) (by decide +kernel) ?_
  refine j_iadd F (pc := 518) (by decide +kernel) ?_
  refine j_sld F (pc := 519) S (hix 1 (by decide) (by decide)) (by decide +kernel) ?_
  refine j_aload_n F (pc := 520) (q := 0) (by decide +kernel) rfl ?_
  refine j_iload_n F (pc := 521) (q := 3) (by decide +kernel) rfl ?_
  refine j_iconst F (pc := 522) (n := 2) (v := 2) (by decide +kernel) (by decide +kernel) ?_
  refine j_iadd F (pc := 523) (by decide +kernel) ?_
  refine j_sld F (pc := 524) S (hix 2 (by decide) (by decide)) (by decide +kernel) ?_
  obtain ⟨r, μ1, μ2, h1, hok1, h2, hI2⟩ := (hs8 μ hI ((xs (nI i + (1 : Int32)).toNatClampNeg)) ((xs (nI i + (2 : Int32)).toNatClampNeg)))
  have hk1 : z_ok (z_sh E.1) μ1.2.2 := by rw [hsh]; exact hok1
  refine j_callVi F (pc := 525) (idx := 53) (As := [.int (xs (nI i + (1 : Int32)).toNatClampNeg), .int (xs (nI i + (2 : Int32)).toNatClampNeg)]) (st := []) (t_X4_ask (G := E.1) rfl hk h1) q_X4_ask v_X4_ask m_601 (hk.s c_0) rfl rfl (by decide) (Nat.le_of_ble_eq_true rfl) rfl (by decide +kernel) (fun r0 ν hq hp => ?_)
  obtain ⟨rfl, rfl⟩ := hp
  refine j_aload_n F (pc := 528) (q := 2) (by decide +kernel) rfl ?_
  refine j_aload_n F (pc := 529) (q := 0) (by decide +kernel) rfl ?_
  refine j_iload_n F (pc := 530) (q := 3) (by decide +kernel) rfl ?_
  refine j_iconst F (pc := 531) (n := 1) (v := 1) (by decide +kernel) (by decide +kernel) ?_
  refine j_iadd F (pc := 532) (by decide +kernel) ?_
  refine j_sld F (pc := 533) S (hix 1 (by decide) (by decide)) (by decide +kernel) ?_
  refine j_aload_n F (pc := 534) (q := 0) (by decide +kernel) rfl ?_
  refine j_iload_n F (pc := 535) (q := 3) (by decide +kernel) rfl ?_
  refine j_iconst F (pc := 536) (n := 2) (v := 2) (by decide +kernel) (by decide +kernel) ?_
  refine j_iadd F (pc := 537) (by decide +kernel) ?_
  refine j_sld F (pc := 538) S (hix 2 (by decide) (by decide)) (by decide +kernel) ?_
  refine j_callVi F (pc := 539) (idx := 56) (As := [.int (xs (nI i + (1 : Int32)).toNatClampNeg), .int (xs (nI i + (2 : Int32)).toNatClampNeg)]) (st := [.int r]) (t_X5_ask (G := E.1) rfl hk1 h2) q_X5_ask v_X5_ask m_1176 (hk1.s c_98) rfl rfl (by decide) (Nat.le_of_ble_eq_true rfl) rfl (by decide +kernel) (fun r1 ν hq hp => ?_)
  obtain ⟨rfl, rfl⟩ := hp
  refine j_icmp_eq F (pc := 542) (off := 1081) (tgt := 1623) (by decide +kernel) (by decide) (fun c => ?_) (fun c => absurd rfl c)
  exact hn μ2 hI2
set_option maxHeartbeats 4000000 in
set_option maxRecDepth 100000 in
theorem lawc_9 {E : z_E} {b Ls i : Nat} {xs : Nat → Int32} {Inv : z_M → Prop} (F : z_F E RL cL_law 4 14) (S : z_SC E b Ls xs) (hsh : z_sh E.1 = z_SH) (hs9 : zs_9 Inv) (hix : ∀ j : Int32, 0 ≤ j → j < 10 → z_in (nI i + j) Ls) {μ : z_M} (hI : Inv μ) (hk : z_ok (z_sh E.1) μ.2.2) (hn : ∀ μ2, Inv μ2 → z_J E 4 1623 [some (.ref 999), some (.ref 0), some (.ref 98), some (.int (nI i))] [] μ2) : z_J E 4 547 [some (.ref 999), some (.ref 0), some (.ref 98), some (.int (nI i))] [] μ := by
  refine j_aload_n F (pc := 547) (q := 1) (by decide +kernel) rfl ?_
  refine j_aload_n F (pc := 548) (q := 0) (by decide +kernel) rfl ?_
  refine j_iload_n F (pc := 549) (q := 3) (by decide +kernel) rfl ?_
  refine j_iconst F (pc := 550) (n := 1) (v := 1) (by decide +kernel) (by decide +kernel) ?_
  refine j_iadd F (pc := 551) (by decide +kernel) ?_
  refine j_sld F (pc := 552) S (hix 1 (by decide) (by decide)) (by decide +kernel) ?_
  refine j_aload_n F (pc := 553) (q := 0) (by decide +kernel) rfl ?_
  refine j_iload_n F (pc := 554) (q := 3) (by decide +kernel) rfl ?_
  refine j_iconst F (pc := 555) (n := 2) (v := 2) (by decide +kernel) (by decide +kernel) ?_
  refine j_iadd F (pc := 556) (by decide +kernel) ?_
  refine j_sld F (pc := 557) S (hix 2 (by decide) (by decide)) (by decide +kernel) ?_
  obtain ⟨r, μ1, μ2, h1, hok1, h2, hI2⟩ := (hs9 μ hI ((xs (nI i + (1 : Int32)).toNatClampNeg)) ((xs (nI i + (2 : Int32)).toNatClampNeg)))
  have hk1 : z_ok (z_sh E.1) μ1.2.2 := by rw [hsh]; exact hok1
  refine j_callVi F (pc := 558) (idx := 57) (As := [.int (xs (nI i + (1 : Int32)).toNatClampNeg), .int (xs (nI i + (2 : Int32)).toNatClampNeg)]) (st := []) (t_X4_fund (G := E.1) rfl hk h1) q_X4_fund v_X4_fund m_609 (hk.s c_0) rfl rfl (by decide) (Nat.le_of_ble_eq_true rfl) rfl (by decide +kernel) (fun r0 ν hq hp => ?_)
  obtain ⟨rfl, rfl⟩ := hp
  refine j_aload_n F (pc := 561) (q := 2) (by decide +kernel) rfl ?_
  refine j_aload_n F (pc := 562) (q := 0) (by decide +kernel) rfl ?_
  refine j_iload_n F (pc := 563) (q := 3) (by decide +kernel) rfl ?_
  refine j_iconst F (pc := 564) (n := 1) (v := 1) (by decide +kernel) (by decide +kernel) ?_
  refine j_iadd F (pc := 565) (by decide +kernel) ?_
  refine j_sld F (pc := 566) S (hix 1 (by decide) (by decide)) (by decide +kernel) ?_
  refine j_aload_n F (pc := 567) (q := 0) (by decide +kernel) rfl ?_
  refine j_iload_n F (pc := 568) (q := 3) (by decide +kernel) rfl ?_
  refine j_iconst F (pc := 569) (n := 2) (v := 2) (by decide +kernel) (by decide +kernel) ?_
  refine j_iadd F (pc := 570) (by decide +kernel) ?_
  refine j_sld F (pc := 571) S (hix 2 (by decide) (by decide)) (by decide +kernel) ?_
  refine j_callVi F (pc := 572) (idx := 60) (As := [.int (xs (nI i + (1 : Int32)).toNatClampNeg), .int (xs (nI i + (2 : Int32)).toNatClampNeg)]) (st := [.int r]) (t_X5_fund (G := E.1) rfl hk1 h2) q_X5_fund v_X5_fund m_1185 (hk1.s c_98) rfl rfl (by decide) (Nat.le_of_ble_eq_true rfl) rfl (by decide +kernel) (fun r1 ν hq hp => ?_)
  obtain ⟨rfl, rfl⟩ := hp
  refine j_icmp_eq F (pc := 575) (off := 1048) (tgt := 1623) (by decide +kernel) (by decide) (fun c => ?_) (fun c => absurd rfl c)
  exact hn μ2 hI2
set_option maxHeartbeats 4000000 in
set_option maxRecDepth 100000 in
theorem lawc_10 {E : z_E} {b Ls i : Nat} {xs : Nat → Int32} {Inv : z_M → Prop} (F : z_F E RL cL_law 4 14) (S : z_SC E b Ls xs) (hsh : z_sh E.1 = z_SH) (hs10 : zs_10 Inv) (hix : ∀ j : Int32, 0 ≤ j → j < 10 → z_in (nI i + j) Ls) {μ : z_M} (hI : Inv μ) (hk : z_ok (z_sh E.1) μ.2.2) (hn : ∀ μ2, Inv μ2 → z_J E 4 1623 [some (.ref 999), some (.ref 0), some (.ref 98), some (.int (nI i))] [] μ2) : z_J E 4 580 [some (.ref 999), some (.ref 0), some (.ref 98), some (.int (nI i))] [] μ := by
  refine j_aload_n F (pc := 580) (q := 1) (by decide +kernel) rfl ?_
  refine j_aload_n F (pc := 581) (q := 0) (by decide +kernel) rfl ?_
  refine j_iload_n F (pc := 582) (q := 3) (by decide +kernel) rfl ?_
  refine j_iconst F (pc := 583) (n := 1) (v := 1) (by decide +kernel) (by decide +kernel) ?_
  refine j_iadd F (pc := 584) (by decide +kernel) ?_
  refine j_sld F (pc := 585) S (hix 1 (by decide) (by decide)) (by decide +kernel) ?_
  refine j_aload_n F (pc := 586) (q := 0) (by decide +kernel) rfl ?_
  refine j_iload_n F (pc := 587) (q := 3) (by decide +kernel) rfl ?_
  refine j_iconst F (pc := 588) (n := 2) (v := 2) (by decide +kernel) (by decide +kernel) ?_
  refine j_iadd F (pc := 589) (by decide +kernel) ?_
  refine j_sld F (pc := 590) S (hix 2 (by decide) (by decide)) (by decide +kernel) ?_
  obtain ⟨r, μ1, μ2, h1, hok1, h2, hI2⟩ := (hs10 μ hI ((xs (nI i + (1 : Int32)).toNatClampNeg)) ((xs (nI i + (2 : Int32)).toNatClampNeg)))
  have hk1 : z_ok (z_sh E.1) μ1.2.2 := by rw [hsh]; exact hok1
  refine j_callVi F (pc := 591) (idx := 61) (As := [.int (xs (nI i + (1 : Int32)).toNatClampNeg), .int (xs (nI i + (2 : Int32)).toNatClampNeg)]) (st := []) (t_X4_owner (G := E.1) rfl hk h1) q_X4_owner v_X4_owner m_616 (hk.s c_0) rfl rfl (by decide) (Nat.le_of_ble_eq_true rfl) rfl (by decide +kernel) (fun r0 ν hq hp => ?_)
  obtain ⟨rfl, rfl⟩ := hp
  refine j_aload_n F (pc := 594) (q := 2) (by decide +kernel) rfl ?_
  refine j_aload_n F (pc := 595) (q := 0) (by decide +kernel) rfl ?_
  refine j_iload_n F (pc := 596) (q := 3) (by decide +kernel) rfl ?_
  refine j_iconst F (pc := 597) (n := 1) (v := 1) (by decide +kernel) (by decide +kernel) ?_
  refine j_iadd F (pc := 598) (by decide +kernel) ?_
  refine j_sld F (pc := 599) S (hix 1 (by decide) (by decide)) (by decide +kernel) ?_
  refine j_aload_n F (pc := 600) (q := 0) (by decide +kernel) rfl ?_
  refine j_iload_n F (pc := 601) (q := 3) (by decide +kernel) rfl ?_
  refine j_iconst F (pc := 602) (n := 2) (v := 2) (by decide +kernel) (by decide +kernel) ?_
  refine j_iadd F (pc := 603) (by decide +kernel) ?_
  refine j_sld F (pc := 604) S (hix 2 (by decide) (by decide)) (by decide +kernel) ?_
  refine j_callVi F (pc := 605) (idx := 64) (As := [.int (xs (nI i + (1 : Int32)).toNatClampNeg), .int (xs (nI i + (2 : Int32)).toNatClampNeg)]) (st := [.int r]) (t_X5_owner (G := E.1) rfl hk1 h2) q_X5_owner v_X5_owner m_1193 (hk1.s c_98) rfl rfl (by decide) (Nat.le_of_ble_eq_true rfl) rfl (by decide +kernel) (fun r1 ν hq hp => ?_)
  obtain ⟨rfl, rfl⟩ := hp
  refine j_icmp_eq F (pc := 608) (off := 1015) (tgt := 1623) (by decide +kernel) (by decide) (fun c => ?_) (fun c => absurd rfl c)
  exact hn μ2 hI2
set_option maxHeartbeats 4000000 in
set_option maxRecDepth 100000 in
theorem lawc_11 {E : z_E} {b Ls i : Nat} {xs : Nat → Int32} {Inv : z_M → Prop} (F : z_F E RL cL_law 4 14) (S : z_SC E b Ls xs) (hsh : z_sh E.1 = z_SH) (hs11 : zs_11 Inv) (hix : ∀ j : Int32, 0 ≤ j → j < 10 → z_in (nI i + j) Ls) {μ : z_M} (hI : Inv μ) (hk : z_ok (z_sh E.1) μ.2.2) (hn : ∀ μ2, Inv μ2 → z_J E 4 1623 [some (.ref 999), some (.ref 0), some (.ref 98), some (.int (nI i))] [] μ2) : z_J E 4 613 [some (.ref 999), some (.ref 0), some (.ref 98), some (.int (nI i))] [] μ := by
  refine j_aload_n F (pc := 613) (q := 1) (by decide +kernel) rfl ?_
  refine j_aload_n F (pc := 614) (q := 0) (by decide +kernel) rfl ?_
  refine j_iload_n F (pc := 615) (q := 3) (by decide +kernel) rfl ?_
  refine j_iconst F (pc := 616) (n := 1) (v := 1) (by decide +kernel) (by decide +kernel) ?_
  refine j_iadd F (pc := 617) (by decide +kernel) ?_
  refine j_sld F (pc := 618) S (hix 1 (by decide) (by decide)) (by decide +kernel) ?_
  refine j_aload_n F (pc := 619) (q := 0) (by decide +kernel) rfl ?_
  refine j_iload_n F (pc := 620) (q := 3) (by decide +kernel) rfl ?_
  refine j_iconst F (pc := 621) (n := 2) (v := 2) (by decide +kernel) (by decide +kernel) ?_
  refine j_iadd F (pc := 622) (by decide +kernel) ?_
  refine j_sld F (pc := 623) S (hix 2 (by decide) (by decide)) (by decide +kernel) ?_
  obtain ⟨r, μ1, μ2, h1, hok1, h2, hI2⟩ := (hs11 μ hI ((xs (nI i + (1 : Int32)).toNatClampNeg)) ((xs (nI i + (2 : Int32)).toNatClampNeg)))
  have hk1 : z_ok (z_sh E.1) μ1.2.2 := by rw [hsh]; exact hok1
  refine j_callVi F (pc := 624) (idx := 65) (As := [.int (xs (nI i + (1 : Int32)).toNatClampNeg), .int (xs (nI i + (2 : Int32)).toNatClampNeg)]) (st := []) (t_X4_pass (G := E.1) rfl hk h1) q_X4_pass v_X4_pass m_623 (hk.s c_0) rfl rfl (by decide) (Nat.le_of_ble_eq_true rfl) rfl (by decide +kernel) (fun r0 ν hq hp => ?_)
  obtain ⟨rfl, rfl⟩ := hp
  refine j_aload_n F (pc := 627) (q := 2) (by decide +kernel) rfl ?_
  refine j_aload_n F (pc := 628) (q := 0) (by decide +kernel) rfl ?_
  refine j_iload_n F (pc := 629) (q := 3) (by decide +kernel) rfl ?_
  refine j_iconst F (pc := 630) (n := 1) (v := 1) (by decide +kernel) (by decide +kernel) ?_
  refine j_iadd F (pc := 631) (by decide +kernel) ?_
  refine j_sld F (pc := 632) S (hix 1 (by decide) (by decide)) (by decide +kernel) ?_
  refine j_aload_n F (pc := 633) (q := 0) (by decide +kernel) rfl ?_
  refine j_iload_n F (pc := 634) (q := 3) (by decide +kernel) rfl ?_
  refine j_iconst F (pc := 635) (n := 2) (v := 2) (by decide +kernel) (by decide +kernel) ?_
  refine j_iadd F (pc := 636) (by decide +kernel) ?_
  refine j_sld F (pc := 637) S (hix 2 (by decide) (by decide)) (by decide +kernel) ?_
  refine j_callVi F (pc := 638) (idx := 68) (As := [.int (xs (nI i + (1 : Int32)).toNatClampNeg), .int (xs (nI i + (2 : Int32)).toNatClampNeg)]) (st := [.int r]) (t_X5_pass (G := E.1) rfl hk1 h2) q_X5_pass v_X5_pass m_1201 (hk1.s c_98) rfl rfl (by decide) (Nat.le_of_ble_eq_true rfl) rfl (by decide +kernel) (fun r1 ν hq hp => ?_)
  obtain ⟨rfl, rfl⟩ := hp
  refine j_icmp_eq F (pc := 641) (off := 982) (tgt := 1623) (by decide +kernel) (by decide) (fun c => ?_) (fun c => absurd rfl c)
  exact hn μ2 hI2
set_option maxHeartbeats 4000000 in
set_option maxRecDepth 100000 in
theorem lawc_12 {E : z_E} {b Ls i : Nat} {xs : Nat → Int32} {Inv : z_M → Prop} (F : z_F E RL cL_law 4 14) (S : z_SC E b Ls xs) (hsh : z_sh E.1 = z_SH) (hs12 : zs_12 Inv) (hix : ∀ j : Int32, 0 ≤ j → j < 10 → z_in (nI i + j) Ls) {μ : z_M} (hI : Inv μ) (hk : z_ok (z_sh E.1) μ.2.2) (hn : ∀ μ2, Inv μ2 → z_J E 4 1623 [some (.ref 999), some (.ref 0), some (.ref 98), some (.int (nI i))] [] μ2) : z_J E 4 646 [some (.ref 999), some (.ref 0), some (.ref 98), some (.int (nI i))] [] μ := by
  refine j_aload_n F (pc := 646) (q := 1) (by decide +kernel) rfl ?_
  refine j_aload_n F (pc := 647) (q := 0) (by decide +kernel) rfl ?_
  refine j_iload_n F (pc := 648) (q := 3) (by decide +kernel) rfl ?_
  refine j_iconst F (pc := 649) (n := 1) (v := 1) (by decide +kernel) (by decide +kernel) ?_
  refine j_iadd F (pc := 650) (by decide +kernel) ?_
  refine j_sld F (pc := 651) S (hix 1 (by decide) (by decide)) (by decide +kernel) ?_
  refine j_aload_n F (pc := 652) (q := 0) (by decide +kernel) rfl ?_
  refine j_iload_n F (pc := 653) (q := 3) (by decide +kernel) rfl ?_
  refine j_iconst F (pc := 654) (n := 2) (v := 2) (by decide +kernel) (by decide +kernel) ?_
  refine j_iadd F (pc := 655) (by decide +kernel) ?_
  refine j_sld F (pc := 656) S (hix 2 (by decide) (by decide)) (by decide +kernel) ?_
  obtain ⟨r, μ1, μ2, h1, hok1, h2, hI2⟩ := (hs12 μ hI ((xs (nI i + (1 : Int32)).toNatClampNeg)) ((xs (nI i + (2 : Int32)).toNatClampNeg)))
  have hk1 : z_ok (z_sh E.1) μ1.2.2 := by rw [hsh]; exact hok1
  refine j_callVi F (pc := 657) (idx := 69) (As := [.int (xs (nI i + (1 : Int32)).toNatClampNeg), .int (xs (nI i + (2 : Int32)).toNatClampNeg)]) (st := []) (t_X4_told (G := E.1) rfl hk h1) q_X4_told v_X4_told m_627 (hk.s c_0) rfl rfl (by decide) (Nat.le_of_ble_eq_true rfl) rfl (by decide +kernel) (fun r0 ν hq hp => ?_)
  obtain ⟨rfl, rfl⟩ := hp
  refine j_aload_n F (pc := 660) (q := 2) (by decide +kernel) rfl ?_
  refine j_aload_n F (pc := 661) (q := 0) (by decide +kernel) rfl ?_
  refine j_iload_n F (pc := 662) (q := 3) (by decide +kernel) rfl ?_
  refine j_iconst F (pc := 663) (n := 1) (v := 1) (by decide +kernel) (by decide +kernel) ?_
  refine j_iadd F (pc := 664) (by decide +kernel) ?_
  refine j_sld F (pc := 665) S (hix 1 (by decide) (by decide)) (by decide +kernel) ?_
  refine j_aload_n F (pc := 666) (q := 0) (by decide +kernel) rfl ?_
  refine j_iload_n F (pc := 667) (q := 3) (by decide +kernel) rfl ?_
  refine j_iconst F (pc := 668) (n := 2) (v := 2) (by decide +kernel) (by decide +kernel) ?_
  refine j_iadd F (pc := 669) (by decide +kernel) ?_
  refine j_sld F (pc := 670) S (hix 2 (by decide) (by decide)) (by decide +kernel) ?_
  refine j_callVi F (pc := 671) (idx := 72) (As := [.int (xs (nI i + (1 : Int32)).toNatClampNeg), .int (xs (nI i + (2 : Int32)).toNatClampNeg)]) (st := [.int r]) (t_X5_told (G := E.1) rfl hk1 h2) q_X5_told v_X5_told m_1205 (hk1.s c_98) rfl rfl (by decide) (Nat.le_of_ble_eq_true rfl) rfl (by decide +kernel) (fun r1 ν hq hp => ?_)
  obtain ⟨rfl, rfl⟩ := hp
  refine j_icmp_eq F (pc := 674) (off := 949) (tgt := 1623) (by decide +kernel) (by decide) (fun c => ?_) (fun c => absurd rfl c)
  exact hn μ2 hI2
set_option maxHeartbeats 4000000 in
set_option maxRecDepth 100000 in
theorem lawc_13 {E : z_E} {b Ls i : Nat} {xs : Nat → Int32} {Inv : z_M → Prop} (F : z_F E RL cL_law 4 14) (S : z_SC E b Ls xs) (hsh : z_sh E.1 = z_SH) (hs13 : zs_13 Inv) (hix : ∀ j : Int32, 0 ≤ j → j < 10 → z_in (nI i + j) Ls) {μ : z_M} (hI : Inv μ) (hk : z_ok (z_sh E.1) μ.2.2) (hn : ∀ μ2, Inv μ2 → z_J E 4 1623 [some (.ref 999), some (.ref 0), some (.ref 98), some (.int (nI i))] [] μ2) : z_J E 4 679 [some (.ref 999), some (.ref 0), some (.ref 98), some (.int (nI i))] [] μ := by
  refine j_aload_n F (pc := 679) (q := 1) (by decide +kernel) rfl ?_
  refine j_aload_n F (pc := 680) (q := 0) (by decide +kernel) rfl ?_
  refine j_iload_n F (pc := 681) (q := 3) (by decide +kernel) rfl ?_
  refine j_iconst F (pc := 682) (n := 1) (v := 1) (by decide +kernel) (by decide +kernel) ?_
  refine j_iadd F (pc := 683) (by decide +kernel) ?_
  refine j_sld F (pc := 684) S (hix 1 (by decide) (by decide)) (by decide +kernel) ?_
  obtain ⟨r, μ1, μ2, h1, hok1, h2, hI2⟩ := (hs13 μ hI ((xs (nI i + (1 : Int32)).toNatClampNeg)))
  have hk1 : z_ok (z_sh E.1) μ1.2.2 := by rw [hsh]; exact hok1
  refine j_callVi F (pc := 685) (idx := 73) (As := [.int (xs (nI i + (1 : Int32)).toNatClampNeg)]) (st := []) (t_X4_count (G := E.1) rfl hk h1) q_X4_count v_X4_count m_635 (hk.s c_0) rfl rfl (by decide) (Nat.le_of_ble_eq_true rfl) rfl (by decide +kernel) (fun r0 ν hq hp => ?_)
  obtain ⟨rfl, rfl⟩ := hp
  refine j_aload_n F (pc := 688) (q := 2) (by decide +kernel) rfl ?_
  refine j_aload_n F (pc := 689) (q := 0) (by decide +kernel) rfl ?_
  refine j_iload_n F (pc := 690) (q := 3) (by decide +kernel) rfl ?_
  refine j_iconst F (pc := 691) (n := 1) (v := 1) (by decide +kernel) (by decide +kernel) ?_
  refine j_iadd F (pc := 692) (by decide +kernel) ?_
  refine j_sld F (pc := 693) S (hix 1 (by decide) (by decide)) (by decide +kernel) ?_
  refine j_callVi F (pc := 694) (idx := 76) (As := [.int (xs (nI i + (1 : Int32)).toNatClampNeg)]) (st := [.int r]) (t_X5_count (G := E.1) rfl hk1 h2) q_X5_count v_X5_count m_1213 (hk1.s c_98) rfl rfl (by decide) (Nat.le_of_ble_eq_true rfl) rfl (by decide +kernel) (fun r1 ν hq hp => ?_)
  obtain ⟨rfl, rfl⟩ := hp
  refine j_icmp_eq F (pc := 697) (off := 926) (tgt := 1623) (by decide +kernel) (by decide) (fun c => ?_) (fun c => absurd rfl c)
  exact hn μ2 hI2
set_option maxHeartbeats 4000000 in
set_option maxRecDepth 100000 in
theorem lawc_14 {E : z_E} {b Ls i : Nat} {xs : Nat → Int32} {Inv : z_M → Prop} (F : z_F E RL cL_law 4 14) (S : z_SC E b Ls xs) (hsh : z_sh E.1 = z_SH) (hs14 : zs_14 Inv) (hix : ∀ j : Int32, 0 ≤ j → j < 10 → z_in (nI i + j) Ls) {μ : z_M} (hI : Inv μ) (hk : z_ok (z_sh E.1) μ.2.2) (hn : ∀ μ2, Inv μ2 → z_J E 4 1623 [some (.ref 999), some (.ref 0), some (.ref 98), some (.int (nI i))] [] μ2) : z_J E 4 702 [some (.ref 999), some (.ref 0), some (.ref 98), some (.int (nI i))] [] μ := by
  refine j_aload_n F (pc := 702) (q := 1) (by decide +kernel) rfl ?_
  refine j_aload_n F (pc := 703) (q := 0) (by decide +kernel) rfl ?_
  refine j_iload_n F (pc := 704) (q := 3) (by decide +kernel) rfl ?_
  refine j_iconst F (pc := 705) (n := 1) (v := 1) (by decide +kernel) (by decide +kernel) ?_
  refine j_iadd F (pc := 706) (by decide +kernel) ?_
  refine j_sld F (pc := 707) S (hix 1 (by decide) (by decide)) (by decide +kernel) ?_
  refine j_aload_n F (pc := 708) (q := 0) (by decide +kernel) rfl ?_
  refine j_iload_n F (pc := 709) (q := 3) (by decide +kernel) rfl ?_
  refine j_iconst F (pc := 710) (n := 2) (v := 2) (by decide +kernel) (by decide +kernel) ?_
  refine j_iadd F (pc := 711) (by decide +kernel) ?_
  refine j_sld F (pc := 712) S (hix 2 (by decide) (by decide)) (by decide +kernel) ?_
  refine j_aload_n F (pc := 713) (q := 0) (by decide +kernel) rfl ?_
  refine j_iload_n F (pc := 714) (q := 3) (by decide +kernel) rfl ?_
  refine j_iconst F (pc := 715) (n := 3) (v := 3) (by decide +kernel) (by decide +kernel) ?_
  refine j_iadd F (pc := 716) (by decide +kernel) ?_
  refine j_sld F (pc := 717) S (hix 3 (by decide) (by decide)) (by decide +kernel) ?_
  obtain ⟨r, μ1, μ2, h1, hok1, h2, hI2⟩ := (hs14 μ hI ((xs (nI i + (1 : Int32)).toNatClampNeg)) ((xs (nI i + (2 : Int32)).toNatClampNeg)) ((xs (nI i + (3 : Int32)).toNatClampNeg)))
  have hk1 : z_ok (z_sh E.1) μ1.2.2 := by rw [hsh]; exact hok1
  refine j_callVi F (pc := 718) (idx := 77) (As := [.int (xs (nI i + (1 : Int32)).toNatClampNeg), .int (xs (nI i + (2 : Int32)).toNatClampNeg), .int (xs (nI i + (3 : Int32)).toNatClampNeg)]) (st := []) (t_X4_lives (G := E.1) rfl hk h1) q_X4_lives v_X4_lives m_642 (hk.s c_0) rfl rfl (by decide) (Nat.le_of_ble_eq_true rfl) rfl (by decide +kernel) (fun r0 ν hq hp => ?_)
  obtain ⟨rfl, rfl⟩ := hp
  refine j_aload_n F (pc := 721) (q := 2) (by decide +kernel) rfl ?_
  refine j_aload_n F (pc := 722) (q := 0) (by decide +kernel) rfl ?_
  refine j_iload_n F (pc := 723) (q := 3) (by decide +kernel) rfl ?_
  refine j_iconst F (pc := 724) (n := 1) (v := 1) (by decide +kernel) (by decide +kernel) ?_
  refine j_iadd F (pc := 725) (by decide +kernel) ?_
  refine j_sld F (pc := 726) S (hix 1 (by decide) (by decide)) (by decide +kernel) ?_
  refine j_aload_n F (pc := 727) (q := 0) (by decide +kernel) rfl ?_
  refine j_iload_n F (pc := 728) (q := 3) (by decide +kernel) rfl ?_
  refine j_iconst F (pc := 729) (n := 2) (v := 2) (by decide +kernel) (by decide +kernel) ?_
  refine j_iadd F (pc := 730) (by decide +kernel) ?_
  refine j_sld F (pc := 731) S (hix 2 (by decide) (by decide)) (by decide +kernel) ?_
  refine j_aload_n F (pc := 732) (q := 0) (by decide +kernel) rfl ?_
  refine j_iload_n F (pc := 733) (q := 3) (by decide +kernel) rfl ?_
  refine j_iconst F (pc := 734) (n := 3) (v := 3) (by decide +kernel) (by decide +kernel) ?_
  refine j_iadd F (pc := 735) (by decide +kernel) ?_
  refine j_sld F (pc := 736) S (hix 3 (by decide) (by decide)) (by decide +kernel) ?_
  refine j_callVi F (pc := 737) (idx := 80) (As := [.int (xs (nI i + (1 : Int32)).toNatClampNeg), .int (xs (nI i + (2 : Int32)).toNatClampNeg), .int (xs (nI i + (3 : Int32)).toNatClampNeg)]) (st := [.int r]) (t_X5_lives (G := E.1) rfl hk1 h2) q_X5_lives v_X5_lives m_1217 (hk1.s c_98) rfl rfl (by decide) (Nat.le_of_ble_eq_true rfl) rfl (by decide +kernel) (fun r1 ν hq hp => ?_)
  obtain ⟨rfl, rfl⟩ := hp
  refine j_icmp_eq F (pc := 740) (off := 883) (tgt := 1623) (by decide +kernel) (by decide) (fun c => ?_) (fun c => absurd rfl c)
  exact hn μ2 hI2
set_option maxHeartbeats 4000000 in
set_option maxRecDepth 100000 in
theorem lawc_15 {E : z_E} {b Ls i : Nat} {xs : Nat → Int32} {Inv : z_M → Prop} (F : z_F E RL cL_law 4 14) (S : z_SC E b Ls xs) (hsh : z_sh E.1 = z_SH) (hs15 : zs_15 Inv) (hix : ∀ j : Int32, 0 ≤ j → j < 10 → z_in (nI i + j) Ls) {μ : z_M} (hI : Inv μ) (hk : z_ok (z_sh E.1) μ.2.2) (hn : ∀ μ2, Inv μ2 → z_J E 4 1623 [some (.ref 999), some (.ref 0), some (.ref 98), some (.int (nI i))] [] μ2) : z_J E 4 745 [some (.ref 999), some (.ref 0), some (.ref 98), some (.int (nI i))] [] μ := by
  refine j_aload_n F (pc := 745) (q := 1) (by decide +kernel) rfl ?_
  refine j_aload_n F (pc := 746) (q := 0) (by decide +kernel) rfl ?_
  refine j_iload_n F (pc := 747) (q := 3) (by decide +kernel) rfl ?_
  refine j_iconst F (pc := 748) (n := 1) (v := 1) (by decide +kernel) (by decide +kernel) ?_
  refine j_iadd F (pc := 749) (by decide +kernel) ?_
  refine j_sld F (pc := 750) S (hix 1 (by decide) (by decide)) (by decide +kernel) ?_
  refine j_aload_n F (pc := 751) (q := 0) (by decide +kernel) rfl ?_
  refine j_iload_n F (pc := 752) (q := 3) (by decide +kernel) rfl ?_
  refine j_iconst F (pc := 753) (n := 2) (v := 2) (by decide +kernel) (by decide +kernel) ?_
  refine j_iadd F (pc := 754) (by decide +kernel) ?_
  refine j_sld F (pc := 755) S (hix 2 (by decide) (by decide)) (by decide +kernel) ?_
  obtain ⟨r, μ1, μ2, h1, hok1, h2, hI2⟩ := (hs15 μ hI ((xs (nI i + (1 : Int32)).toNatClampNeg)) ((xs (nI i + (2 : Int32)).toNatClampNeg)))
  have hk1 : z_ok (z_sh E.1) μ1.2.2 := by rw [hsh]; exact hok1
  refine j_callVi F (pc := 756) (idx := 81) (As := [.int (xs (nI i + (1 : Int32)).toNatClampNeg), .int (xs (nI i + (2 : Int32)).toNatClampNeg)]) (st := []) (t_X4_last (G := E.1) rfl hk h1) q_X4_last v_X4_last m_662 (hk.s c_0) rfl rfl (by decide) (Nat.le_of_ble_eq_true rfl) rfl (by decide +kernel) (fun r0 ν hq hp => ?_)
  obtain ⟨rfl, rfl⟩ := hp
  refine j_aload_n F (pc := 759) (q := 2) (by decide +kernel) rfl ?_
  refine j_aload_n F (pc := 760) (q := 0) (by decide +kernel) rfl ?_
  refine j_iload_n F (pc := 761) (q := 3) (by decide +kernel) rfl ?_
  refine j_iconst F (pc := 762) (n := 1) (v := 1) (by decide +kernel) (by decide +kernel) ?_
  refine j_iadd F (pc := 763) (by decide +kernel) ?_
  refine j_sld F (pc := 764) S (hix 1 (by decide) (by decide)) (by decide +kernel) ?_
  refine j_aload_n F (pc := 765) (q := 0) (by decide +kernel) rfl ?_
  refine j_iload_n F (pc := 766) (q := 3) (by decide +kernel) rfl ?_
  refine j_iconst F (pc := 767) (n := 2) (v := 2) (by decide +kernel) (by decide +kernel) ?_
  refine j_iadd F (pc := 768) (by decide +kernel) ?_
  refine j_sld F (pc := 769) S (hix 2 (by decide) (by decide)) (by decide +kernel) ?_
  refine j_callVi F (pc := 770) (idx := 84) (As := [.int (xs (nI i + (1 : Int32)).toNatClampNeg), .int (xs (nI i + (2 : Int32)).toNatClampNeg)]) (st := [.int r]) (t_X5_last (G := E.1) rfl hk1 h2) q_X5_last v_X5_last m_1225 (hk1.s c_98) rfl rfl (by decide) (Nat.le_of_ble_eq_true rfl) rfl (by decide +kernel) (fun r1 ν hq hp => ?_)
  obtain ⟨rfl, rfl⟩ := hp
  refine j_icmp_eq F (pc := 773) (off := 850) (tgt := 1623) (by decide +kernel) (by decide) (fun c => ?_) (fun c => absurd rfl c)
  exact hn μ2 hI2
set_option maxHeartbeats 4000000 in
set_option maxRecDepth 100000 in
theorem lawc_16 {E : z_E} {b Ls i : Nat} {xs : Nat → Int32} {Inv : z_M → Prop} (F : z_F E RL cL_law 4 14) (S : z_SC E b Ls xs) (hsh : z_sh E.1 = z_SH) (hs16 : zs_16 Inv) (hix : ∀ j : Int32, 0 ≤ j → j < 10 → z_in (nI i + j) Ls) {μ : z_M} (hI : Inv μ) (hk : z_ok (z_sh E.1) μ.2.2) (hn : ∀ μ2, Inv μ2 → z_J E 4 1623 [some (.ref 999), some (.ref 0), some (.ref 98), some (.int (nI i))] [] μ2) : z_J E 4 778 [some (.ref 999), some (.ref 0), some (.ref 98), some (.int (nI i))] [] μ := by
  refine j_aload_n F (pc := 778) (q := 1) (by decide +kernel) rfl ?_
  refine j_aload_n F (pc := 779) (q := 0) (by decide +kernel) rfl ?_
  refine j_iload_n F (pc := 780) (q := 3) (by decide +kernel) rfl ?_
  refine j_iconst F (pc := 781) (n := 1) (v := 1) (by decide +kernel) (by decide +kernel) ?_
  refine j_iadd F (pc := 782) (by decide +kernel) ?_
  refine j_sld F (pc := 783) S (hix 1 (by decide) (by decide)) (by decide +kernel) ?_
  refine j_aload_n F (pc := 784) (q := 0) (by decide +kernel) rfl ?_
  refine j_iload_n F (pc := 785) (q := 3) (by decide +kernel) rfl ?_
  refine j_iconst F (pc := 786) (n := 2) (v := 2) (by decide +kernel) (by decide +kernel) ?_
  refine j_iadd F (pc := 787) (by decide +kernel) ?_
  refine j_sld F (pc := 788) S (hix 2 (by decide) (by decide)) (by decide +kernel) ?_
  refine j_aload_n F (pc := 789) (q := 0) (by decide +kernel) rfl ?_
  refine j_iload_n F (pc := 790) (q := 3) (by decide +kernel) rfl ?_
  refine j_iconst F (pc := 791) (n := 3) (v := 3) (by decide +kernel) (by decide +kernel) ?_
  refine j_iadd F (pc := 792) (by decide +kernel) ?_
  refine j_sld F (pc := 793) S (hix 3 (by decide) (by decide)) (by decide +kernel) ?_
  obtain ⟨r, μ1, μ2, h1, hok1, h2, hI2⟩ := (hs16 μ hI ((xs (nI i + (1 : Int32)).toNatClampNeg)) ((xs (nI i + (2 : Int32)).toNatClampNeg)) ((xs (nI i + (3 : Int32)).toNatClampNeg)))
  have hk1 : z_ok (z_sh E.1) μ1.2.2 := by rw [hsh]; exact hok1
  refine j_callVi F (pc := 794) (idx := 85) (As := [.int (xs (nI i + (1 : Int32)).toNatClampNeg), .int (xs (nI i + (2 : Int32)).toNatClampNeg), .int (xs (nI i + (3 : Int32)).toNatClampNeg)]) (st := []) (t_X4_ahead (G := E.1) rfl hk h1) q_X4_ahead v_X4_ahead m_671 (hk.s c_0) rfl rfl (by decide) (Nat.le_of_ble_eq_true rfl) rfl (by decide +kernel) (fun r0 ν hq hp => ?_)
  obtain ⟨rfl, rfl⟩ := hp
  refine j_aload_n F (pc := 797) (q := 2) (by decide +kernel) rfl ?_
  refine j_aload_n F (pc := 798) (q := 0) (by decide +kernel) rfl ?_
  refine j_iload_n F (pc := 799) (q := 3) (by decide +kernel) rfl ?_
  refine j_iconst F (pc := 800) (n := 1) (v := 1) (by decide +kernel) (by decide +kernel) ?_
  refine j_iadd F (pc := 801) (by decide +kernel) ?_
  refine j_sld F (pc := 802) S (hix 1 (by decide) (by decide)) (by decide +kernel) ?_
  refine j_aload_n F (pc := 803) (q := 0) (by decide +kernel) rfl ?_
  refine j_iload_n F (pc := 804) (q := 3) (by decide +kernel) rfl ?_
  refine j_iconst F (pc := 805) (n := 2) (v := 2) (by decide +kernel) (by decide +kernel) ?_
  refine j_iadd F (pc := 806) (by decide +kernel) ?_
  refine j_sld F (pc := 807) S (hix 2 (by decide) (by decide)) (by decide +kernel) ?_
  refine j_aload_n F (pc := 808) (q := 0) (by decide +kernel) rfl ?_
  refine j_iload_n F (pc := 809) (q := 3) (by decide +kernel) rfl ?_
  refine j_iconst F (pc := 810) (n := 3) (v := 3) (by decide +kernel) (by decide +kernel) ?_
  refine j_iadd F (pc := 811) (by decide +kernel) ?_
  refine j_sld F (pc := 812) S (hix 3 (by decide) (by decide)) (by decide +kernel) ?_
  refine j_callVi F (pc := 813) (idx := 88) (As := [.int (xs (nI i + (1 : Int32)).toNatClampNeg), .int (xs (nI i + (2 : Int32)).toNatClampNeg), .int (xs (nI i + (3 : Int32)).toNatClampNeg)]) (st := [.int r]) (t_X5_ahead (G := E.1) rfl hk1 h2) q_X5_ahead v_X5_ahead m_1229 (hk1.s c_98) rfl rfl (by decide) (Nat.le_of_ble_eq_true rfl) rfl (by decide +kernel) (fun r1 ν hq hp => ?_)
  obtain ⟨rfl, rfl⟩ := hp
  refine j_icmp_eq F (pc := 816) (off := 807) (tgt := 1623) (by decide +kernel) (by decide) (fun c => ?_) (fun c => absurd rfl c)
  exact hn μ2 hI2
set_option maxHeartbeats 4000000 in
set_option maxRecDepth 100000 in
theorem lawc_17 {E : z_E} {b Ls i : Nat} {xs : Nat → Int32} {Inv : z_M → Prop} (F : z_F E RL cL_law 4 14) (S : z_SC E b Ls xs) (hsh : z_sh E.1 = z_SH) (hs17 : zs_17 Inv) (hix : ∀ j : Int32, 0 ≤ j → j < 10 → z_in (nI i + j) Ls) {μ : z_M} (hI : Inv μ) (hk : z_ok (z_sh E.1) μ.2.2) (hn : ∀ μ2, Inv μ2 → z_J E 4 1623 [some (.ref 999), some (.ref 0), some (.ref 98), some (.int (nI i))] [] μ2) : z_J E 4 821 [some (.ref 999), some (.ref 0), some (.ref 98), some (.int (nI i))] [] μ := by
  refine j_aload_n F (pc := 821) (q := 1) (by decide +kernel) rfl ?_
  refine j_aload_n F (pc := 822) (q := 0) (by decide +kernel) rfl ?_
  refine j_iload_n F (pc := 823) (q := 3) (by decide +kernel) rfl ?_
  refine j_iconst F (pc := 824) (n := 1) (v := 1) (by decide +kernel) (by decide +kernel) ?_
  refine j_iadd F (pc := 825) (by decide +kernel) ?_
  refine j_sld F (pc := 826) S (hix 1 (by decide) (by decide)) (by decide +kernel) ?_
  refine j_aload_n F (pc := 827) (q := 0) (by decide +kernel) rfl ?_
  refine j_iload_n F (pc := 828) (q := 3) (by decide +kernel) rfl ?_
  refine j_iconst F (pc := 829) (n := 2) (v := 2) (by decide +kernel) (by decide +kernel) ?_
  refine j_iadd F (pc := 830) (by decide +kernel) ?_
  refine j_sld F (pc := 831) S (hix 2 (by decide) (by decide)) (by decide +kernel) ?_
  refine j_aload_n F (pc := 832) (q := 0) (by decide +kernel) rfl ?_
  refine j_iload_n F (pc := 833) (q := 3) (by decide +kernel) rfl ?_
  refine j_iconst F (pc := 834) (n := 3) (v := 3) (by decide +kernel) (by decide +kernel) ?_
  refine j_iadd F (pc := 835) (by decide +kernel) ?_
  refine j_sld F (pc := 836) S (hix 3 (by decide) (by decide)) (by decide +kernel) ?_
  refine j_aload_n F (pc := 837) (q := 0) (by decide +kernel) rfl ?_
  refine j_iload_n F (pc := 838) (q := 3) (by decide +kernel) rfl ?_
  refine j_iconst F (pc := 839) (n := 4) (v := 4) (by decide +kernel) (by decide +kernel) ?_
  refine j_iadd F (pc := 840) (by decide +kernel) ?_
  refine j_sld F (pc := 841) S (hix 4 (by decide) (by decide)) (by decide +kernel) ?_
  obtain ⟨r, μ1, μ2, h1, hok1, h2, hI2⟩ := (hs17 μ hI ((xs (nI i + (1 : Int32)).toNatClampNeg)) ((xs (nI i + (2 : Int32)).toNatClampNeg)) ((xs (nI i + (3 : Int32)).toNatClampNeg)) ((xs (nI i + (4 : Int32)).toNatClampNeg)))
  have hk1 : z_ok (z_sh E.1) μ1.2.2 := by rw [hsh]; exact hok1
  refine j_callVi F (pc := 842) (idx := 89) (As := [.int (xs (nI i + (1 : Int32)).toNatClampNeg), .int (xs (nI i + (2 : Int32)).toNatClampNeg), .int (xs (nI i + (3 : Int32)).toNatClampNeg), .int (xs (nI i + (4 : Int32)).toNatClampNeg)]) (st := []) (t_X4_step (G := E.1) rfl hk h1) q_X4_step v_X4_step m_687 (hk.s c_0) rfl rfl (by decide) (Nat.le_of_ble_eq_true rfl) rfl (by decide +kernel) (fun r0 ν hq hp => ?_)
  obtain ⟨rfl, rfl⟩ := hp
  refine j_aload_n F (pc := 845) (q := 2) (by decide +kernel) rfl ?_
  refine j_aload_n F (pc := 846) (q := 0) (by decide +kernel) rfl ?_
  refine j_iload_n F (pc := 847) (q := 3) (by decide +kernel) rfl ?_
  refine j_iconst F (pc := 848) (n := 1) (v := 1) (by decide +kernel) (by decide +kernel) ?_
  refine j_iadd F (pc := 849) (by decide +kernel) ?_
  refine j_sld F (pc := 850) S (hix 1 (by decide) (by decide)) (by decide +kernel) ?_
  refine j_aload_n F (pc := 851) (q := 0) (by decide +kernel) rfl ?_
  refine j_iload_n F (pc := 852) (q := 3) (by decide +kernel) rfl ?_
  refine j_iconst F (pc := 853) (n := 2) (v := 2) (by decide +kernel) (by decide +kernel) ?_
  refine j_iadd F (pc := 854) (by decide +kernel) ?_
  refine j_sld F (pc := 855) S (hix 2 (by decide) (by decide)) (by decide +kernel) ?_
  refine j_aload_n F (pc := 856) (q := 0) (by decide +kernel) rfl ?_
  refine j_iload_n F (pc := 857) (q := 3) (by decide +kernel) rfl ?_
  refine j_iconst F (pc := 858) (n := 3) (v := 3) (by decide +kernel) (by decide +kernel) ?_
  refine j_iadd F (pc := 859) (by decide +kernel) ?_
  refine j_sld F (pc := 860) S (hix 3 (by decide) (by decide)) (by decide +kernel) ?_
  refine j_aload_n F (pc := 861) (q := 0) (by decide +kernel) rfl ?_
  refine j_iload_n F (pc := 862) (q := 3) (by decide +kernel) rfl ?_
  refine j_iconst F (pc := 863) (n := 4) (v := 4) (by decide +kernel) (by decide +kernel) ?_
  refine j_iadd F (pc := 864) (by decide +kernel) ?_
  refine j_sld F (pc := 865) S (hix 4 (by decide) (by decide)) (by decide +kernel) ?_
  refine j_callVi F (pc := 866) (idx := 93) (As := [.int (xs (nI i + (1 : Int32)).toNatClampNeg), .int (xs (nI i + (2 : Int32)).toNatClampNeg), .int (xs (nI i + (3 : Int32)).toNatClampNeg), .int (xs (nI i + (4 : Int32)).toNatClampNeg)]) (st := [.int r]) (t_X5_step (G := E.1) rfl hk1 h2) q_X5_step v_X5_step m_1237 (hk1.s c_98) rfl rfl (by decide) (Nat.le_of_ble_eq_true rfl) rfl (by decide +kernel) (fun r1 ν hq hp => ?_)
  obtain ⟨rfl, rfl⟩ := hp
  refine j_icmp_eq F (pc := 869) (off := 754) (tgt := 1623) (by decide +kernel) (by decide) (fun c => ?_) (fun c => absurd rfl c)
  exact hn μ2 hI2
set_option maxHeartbeats 4000000 in
set_option maxRecDepth 100000 in
theorem lawc_18 {E : z_E} {b Ls i : Nat} {xs : Nat → Int32} {Inv : z_M → Prop} (F : z_F E RL cL_law 4 14) (S : z_SC E b Ls xs) (hsh : z_sh E.1 = z_SH) (hs18 : zs_18 Inv) (hix : ∀ j : Int32, 0 ≤ j → j < 10 → z_in (nI i + j) Ls) {μ : z_M} (hI : Inv μ) (hk : z_ok (z_sh E.1) μ.2.2) (hn : ∀ μ2, Inv μ2 → z_J E 4 1623 [some (.ref 999), some (.ref 0), some (.ref 98), some (.int (nI i))] [] μ2) : z_J E 4 874 [some (.ref 999), some (.ref 0), some (.ref 98), some (.int (nI i))] [] μ := by
  refine j_aload_n F (pc := 874) (q := 1) (by decide +kernel) rfl ?_
  refine j_aload_n F (pc := 875) (q := 0) (by decide +kernel) rfl ?_
  refine j_iload_n F (pc := 876) (q := 3) (by decide +kernel) rfl ?_
  refine j_iconst F (pc := 877) (n := 1) (v := 1) (by decide +kernel) (by decide +kernel) ?_
  refine j_iadd F (pc := 878) (by decide +kernel) ?_
  refine j_sld F (pc := 879) S (hix 1 (by decide) (by decide)) (by decide +kernel) ?_
  refine j_aload_n F (pc := 880) (q := 0) (by decide +kernel) rfl ?_
  refine j_iload_n F (pc := 881) (q := 3) (by decide +kernel) rfl ?_
  refine j_iconst F (pc := 882) (n := 2) (v := 2) (by decide +kernel) (by decide +kernel) ?_
  refine j_iadd F (pc := 883) (by decide +kernel) ?_
  refine j_sld F (pc := 884) S (hix 2 (by decide) (by decide)) (by decide +kernel) ?_
  refine j_aload_n F (pc := 885) (q := 0) (by decide +kernel) rfl ?_
  refine j_iload_n F (pc := 886) (q := 3) (by decide +kernel) rfl ?_
  refine j_iconst F (pc := 887) (n := 3) (v := 3) (by decide +kernel) (by decide +kernel) ?_
  refine j_iadd F (pc := 888) (by decide +kernel) ?_
  refine j_sld F (pc := 889) S (hix 3 (by decide) (by decide)) (by decide +kernel) ?_
  refine j_aload_n F (pc := 890) (q := 0) (by decide +kernel) rfl ?_
  refine j_iload_n F (pc := 891) (q := 3) (by decide +kernel) rfl ?_
  refine j_iconst F (pc := 892) (n := 4) (v := 4) (by decide +kernel) (by decide +kernel) ?_
  refine j_iadd F (pc := 893) (by decide +kernel) ?_
  refine j_sld F (pc := 894) S (hix 4 (by decide) (by decide)) (by decide +kernel) ?_
  obtain ⟨r, μ1, μ2, h1, hok1, h2, hI2⟩ := (hs18 μ hI ((xs (nI i + (1 : Int32)).toNatClampNeg)) ((xs (nI i + (2 : Int32)).toNatClampNeg)) ((xs (nI i + (3 : Int32)).toNatClampNeg)) ((xs (nI i + (4 : Int32)).toNatClampNeg)))
  have hk1 : z_ok (z_sh E.1) μ1.2.2 := by rw [hsh]; exact hok1
  refine j_callVi F (pc := 895) (idx := 94) (As := [.int (xs (nI i + (1 : Int32)).toNatClampNeg), .int (xs (nI i + (2 : Int32)).toNatClampNeg), .int (xs (nI i + (3 : Int32)).toNatClampNeg), .int (xs (nI i + (4 : Int32)).toNatClampNeg)]) (st := []) (t_X4_paid (G := E.1) rfl hk h1) q_X4_paid v_X4_paid m_710 (hk.s c_0) rfl rfl (by decide) (Nat.le_of_ble_eq_true rfl) rfl (by decide +kernel) (fun r0 ν hq hp => ?_)
  obtain ⟨rfl, rfl⟩ := hp
  refine j_aload_n F (pc := 898) (q := 2) (by decide +kernel) rfl ?_
  refine j_aload_n F (pc := 899) (q := 0) (by decide +kernel) rfl ?_
  refine j_iload_n F (pc := 900) (q := 3) (by decide +kernel) rfl ?_
  refine j_iconst F (pc := 901) (n := 1) (v := 1) (by decide +kernel) (by decide +kernel) ?_
  refine j_iadd F (pc := 902) (by decide +kernel) ?_
  refine j_sld F (pc := 903) S (hix 1 (by decide) (by decide)) (by decide +kernel) ?_
  refine j_aload_n F (pc := 904) (q := 0) (by decide +kernel) rfl ?_
  refine j_iload_n F (pc := 905) (q := 3) (by decide +kernel) rfl ?_
  refine j_iconst F (pc := 906) (n := 2) (v := 2) (by decide +kernel) (by decide +kernel) ?_
  refine j_iadd F (pc := 907) (by decide +kernel) ?_
  refine j_sld F (pc := 908) S (hix 2 (by decide) (by decide)) (by decide +kernel) ?_
  refine j_aload_n F (pc := 909) (q := 0) (by decide +kernel) rfl ?_
  refine j_iload_n F (pc := 910) (q := 3) (by decide +kernel) rfl ?_
  refine j_iconst F (pc := 911) (n := 3) (v := 3) (by decide +kernel) (by decide +kernel) ?_
  refine j_iadd F (pc := 912) (by decide +kernel) ?_
  refine j_sld F (pc := 913) S (hix 3 (by decide) (by decide)) (by decide +kernel) ?_
  refine j_aload_n F (pc := 914) (q := 0) (by decide +kernel) rfl ?_
  refine j_iload_n F (pc := 915) (q := 3) (by decide +kernel) rfl ?_
  refine j_iconst F (pc := 916) (n := 4) (v := 4) (by decide +kernel) (by decide +kernel) ?_
  refine j_iadd F (pc := 917) (by decide +kernel) ?_
  refine j_sld F (pc := 918) S (hix 4 (by decide) (by decide)) (by decide +kernel) ?_
  refine j_callVi F (pc := 919) (idx := 97) (As := [.int (xs (nI i + (1 : Int32)).toNatClampNeg), .int (xs (nI i + (2 : Int32)).toNatClampNeg), .int (xs (nI i + (3 : Int32)).toNatClampNeg), .int (xs (nI i + (4 : Int32)).toNatClampNeg)]) (st := [.int r]) (t_X5_paid (G := E.1) rfl hk1 h2) q_X5_paid v_X5_paid m_1249 (hk1.s c_98) rfl rfl (by decide) (Nat.le_of_ble_eq_true rfl) rfl (by decide +kernel) (fun r1 ν hq hp => ?_)
  obtain ⟨rfl, rfl⟩ := hp
  refine j_icmp_eq F (pc := 922) (off := 701) (tgt := 1623) (by decide +kernel) (by decide) (fun c => ?_) (fun c => absurd rfl c)
  exact hn μ2 hI2
set_option maxHeartbeats 4000000 in
set_option maxRecDepth 100000 in
theorem lawc_19 {E : z_E} {b Ls i : Nat} {xs : Nat → Int32} {Inv : z_M → Prop} (F : z_F E RL cL_law 4 14) (S : z_SC E b Ls xs) (hsh : z_sh E.1 = z_SH) (hs19 : zs_19 Inv) (hix : ∀ j : Int32, 0 ≤ j → j < 10 → z_in (nI i + j) Ls) {μ : z_M} (hI : Inv μ) (hk : z_ok (z_sh E.1) μ.2.2) (hn : ∀ μ2, Inv μ2 → z_J E 4 1623 [some (.ref 999), some (.ref 0), some (.ref 98), some (.int (nI i))] [] μ2) : z_J E 4 927 [some (.ref 999), some (.ref 0), some (.ref 98), some (.int (nI i))] [] μ := by
  refine j_aload_n F (pc := 927) (q := 1) (by decide +kernel) rfl ?_
  refine j_aload_n F (pc := 928) (q := 0) (by decide +kernel) rfl ?_
  refine j_iload_n F (pc := 929) (q := 3) (by decide +kernel) rfl ?_
  refine j_iconst F (pc := 930) (n := 1) (v := 1) (by decide +kernel) (by decide +kernel) ?_
  refine j_iadd F (pc := 931) (by decide +kernel) ?_
  refine j_sld F (pc := 932) S (hix 1 (by decide) (by decide)) (by decide +kernel) ?_
  refine j_aload_n F (pc := 933) (q := 0) (by decide +kernel) rfl ?_
  refine j_iload_n F (pc := 934) (q := 3) (by decide +kernel) rfl ?_
  refine j_iconst F (pc := 935) (n := 2) (v := 2) (by decide +kernel) (by decide +kernel) ?_
  refine j_iadd F (pc := 936) (by decide +kernel) ?_
  refine j_sld F (pc := 937) S (hix 2 (by decide) (by decide)) (by decide +kernel) ?_
  refine j_aload_n F (pc := 938) (q := 0) (by decide +kernel) rfl ?_
  refine j_iload_n F (pc := 939) (q := 3) (by decide +kernel) rfl ?_
  refine j_iconst F (pc := 940) (n := 3) (v := 3) (by decide +kernel) (by decide +kernel) ?_
  refine j_iadd F (pc := 941) (by decide +kernel) ?_
  refine j_sld F (pc := 942) S (hix 3 (by decide) (by decide)) (by decide +kernel) ?_
  refine j_aload_n F (pc := 943) (q := 0) (by decide +kernel) rfl ?_
  refine j_iload_n F (pc := 944) (q := 3) (by decide +kernel) rfl ?_
  refine j_iconst F (pc := 945) (n := 4) (v := 4) (by decide +kernel) (by decide +kernel) ?_
  refine j_iadd F (pc := 946) (by decide +kernel) ?_
  refine j_sld F (pc := 947) S (hix 4 (by decide) (by decide)) (by decide +kernel) ?_
  obtain ⟨r, μ1, μ2, h1, hok1, h2, hI2⟩ := (hs19 μ hI ((xs (nI i + (1 : Int32)).toNatClampNeg)) ((xs (nI i + (2 : Int32)).toNatClampNeg)) ((xs (nI i + (3 : Int32)).toNatClampNeg)) ((xs (nI i + (4 : Int32)).toNatClampNeg)))
  have hk1 : z_ok (z_sh E.1) μ1.2.2 := by rw [hsh]; exact hok1
  refine j_callVi F (pc := 948) (idx := 98) (As := [.int (xs (nI i + (1 : Int32)).toNatClampNeg), .int (xs (nI i + (2 : Int32)).toNatClampNeg), .int (xs (nI i + (3 : Int32)).toNatClampNeg), .int (xs (nI i + (4 : Int32)).toNatClampNeg)]) (st := []) (t_X4_left (G := E.1) rfl hk h1) q_X4_left v_X4_left m_766 (hk.s c_0) rfl rfl (by decide) (Nat.le_of_ble_eq_true rfl) rfl (by decide +kernel) (fun r0 ν hq hp => ?_)
  obtain ⟨rfl, rfl⟩ := hp
  refine j_aload_n F (pc := 951) (q := 2) (by decide +kernel) rfl ?_
  refine j_aload_n F (pc := 952) (q := 0) (by decide +kernel) rfl ?_
  refine j_iload_n F (pc := 953) (q := 3) (by decide +kernel) rfl ?_
  refine j_iconst F (pc := 954) (n := 1) (v := 1) (by decide +kernel) (by decide +kernel) ?_
  refine j_iadd F (pc := 955) (by decide +kernel) ?_
  refine j_sld F (pc := 956) S (hix 1 (by decide) (by decide)) (by decide +kernel) ?_
  refine j_aload_n F (pc := 957) (q := 0) (by decide +kernel) rfl ?_
  refine j_iload_n F (pc := 958) (q := 3) (by decide +kernel) rfl ?_
  refine j_iconst F (pc := 959) (n := 2) (v := 2) (by decide +kernel) (by decide +kernel) ?_
  refine j_iadd F (pc := 960) (by decide +kernel) ?_
  refine j_sld F (pc := 961) S (hix 2 (by decide) (by decide)) (by decide +kernel) ?_
  refine j_aload_n F (pc := 962) (q := 0) (by decide +kernel) rfl ?_
  refine j_iload_n F (pc := 963) (q := 3) (by decide +kernel) rfl ?_
  refine j_iconst F (pc := 964) (n := 3) (v := 3) (by decide +kernel) (by decide +kernel) ?_
  refine j_iadd F (pc := 965) (by decide +kernel) ?_
  refine j_sld F (pc := 966) S (hix 3 (by decide) (by decide)) (by decide +kernel) ?_
  refine j_aload_n F (pc := 967) (q := 0) (by decide +kernel) rfl ?_
  refine j_iload_n F (pc := 968) (q := 3) (by decide +kernel) rfl ?_
  refine j_iconst F (pc := 969) (n := 4) (v := 4) (by decide +kernel) (by decide +kernel) ?_
  refine j_iadd F (pc := 970) (by decide +kernel) ?_
  refine j_sld F (pc := 971) S (hix 4 (by decide) (by decide)) (by decide +kernel) ?_
  refine j_callVi F (pc := 972) (idx := 101) (As := [.int (xs (nI i + (1 : Int32)).toNatClampNeg), .int (xs (nI i + (2 : Int32)).toNatClampNeg), .int (xs (nI i + (3 : Int32)).toNatClampNeg), .int (xs (nI i + (4 : Int32)).toNatClampNeg)]) (st := [.int r]) (t_X5_left (G := E.1) rfl hk1 h2) q_X5_left v_X5_left m_1284 (hk1.s c_98) rfl rfl (by decide) (Nat.le_of_ble_eq_true rfl) rfl (by decide +kernel) (fun r1 ν hq hp => ?_)
  obtain ⟨rfl, rfl⟩ := hp
  refine j_icmp_eq F (pc := 975) (off := 648) (tgt := 1623) (by decide +kernel) (by decide) (fun c => ?_) (fun c => absurd rfl c)
  exact hn μ2 hI2
set_option maxHeartbeats 4000000 in
set_option maxRecDepth 100000 in
theorem lawc_20 {E : z_E} {b Ls i : Nat} {xs : Nat → Int32} {Inv : z_M → Prop} (F : z_F E RL cL_law 4 14) (S : z_SC E b Ls xs) (hsh : z_sh E.1 = z_SH) (hs20 : zs_20 Inv) (hix : ∀ j : Int32, 0 ≤ j → j < 10 → z_in (nI i + j) Ls) {μ : z_M} (hI : Inv μ) (hk : z_ok (z_sh E.1) μ.2.2) (hn : ∀ μ2, Inv μ2 → z_J E 4 1623 [some (.ref 999), some (.ref 0), some (.ref 98), some (.int (nI i))] [] μ2) : z_J E 4 980 [some (.ref 999), some (.ref 0), some (.ref 98), some (.int (nI i))] [] μ := by
  refine j_aload_n F (pc := 980) (q := 1) (by decide +kernel) rfl ?_
  refine j_aload_n F (pc := 981) (q := 0) (by decide +kernel) rfl ?_
  refine j_iload_n F (pc := 982) (q := 3) (by decide +kernel) rfl ?_
  refine j_iconst F (pc := 983) (n := 1) (v := 1) (by decide +kernel) (by decide +kernel) ?_
  refine j_iadd F (pc := 984) (by decide +kernel) ?_
  refine j_sld F (pc := 985) S (hix 1 (by decide) (by decide)) (by decide +kernel) ?_
  refine j_aload_n F (pc := 986) (q := 0) (by decide +kernel) rfl ?_
  refine j_iload_n F (pc := 987) (q := 3) (by decide +kernel) rfl ?_
  refine j_iconst F (pc := 988) (n := 2) (v := 2) (by decide +kernel) (by decide +kernel) ?_
  refine j_iadd F (pc := 989) (by decide +kernel) ?_
  refine j_sld F (pc := 990) S (hix 2 (by decide) (by decide)) (by decide +kernel) ?_
  refine j_aload_n F (pc := 991) (q := 0) (by decide +kernel) rfl ?_
  refine j_iload_n F (pc := 992) (q := 3) (by decide +kernel) rfl ?_
  refine j_iconst F (pc := 993) (n := 3) (v := 3) (by decide +kernel) (by decide +kernel) ?_
  refine j_iadd F (pc := 994) (by decide +kernel) ?_
  refine j_sld F (pc := 995) S (hix 3 (by decide) (by decide)) (by decide +kernel) ?_
  refine j_aload_n F (pc := 996) (q := 0) (by decide +kernel) rfl ?_
  refine j_iload_n F (pc := 997) (q := 3) (by decide +kernel) rfl ?_
  refine j_iconst F (pc := 998) (n := 4) (v := 4) (by decide +kernel) (by decide +kernel) ?_
  refine j_iadd F (pc := 999) (by decide +kernel) ?_
  refine j_sld F (pc := 1000) S (hix 4 (by decide) (by decide)) (by decide +kernel) ?_
  obtain ⟨r, μ1, μ2, h1, hok1, h2, hI2⟩ := (hs20 μ hI ((xs (nI i + (1 : Int32)).toNatClampNeg)) ((xs (nI i + (2 : Int32)).toNatClampNeg)) ((xs (nI i + (3 : Int32)).toNatClampNeg)) ((xs (nI i + (4 : Int32)).toNatClampNeg)))
  have hk1 : z_ok (z_sh E.1) μ1.2.2 := by rw [hsh]; exact hok1
  refine j_callVi F (pc := 1001) (idx := 102) (As := [.int (xs (nI i + (1 : Int32)).toNatClampNeg), .int (xs (nI i + (2 : Int32)).toNatClampNeg), .int (xs (nI i + (3 : Int32)).toNatClampNeg), .int (xs (nI i + (4 : Int32)).toNatClampNeg)]) (st := []) (t_X4_has (G := E.1) rfl hk h1) q_X4_has v_X4_has m_770 (hk.s c_0) rfl rfl (by decide) (Nat.le_of_ble_eq_true rfl) rfl (by decide +kernel) (fun r0 ν hq hp => ?_)
  obtain ⟨rfl, rfl⟩ := hp
  refine j_aload_n F (pc := 1004) (q := 2) (by decide +kernel) rfl ?_
  refine j_aload_n F (pc := 1005) (q := 0) (by decide +kernel) rfl ?_
  refine j_iload_n F (pc := 1006) (q := 3) (by decide +kernel) rfl ?_
  refine j_iconst F (pc := 1007) (n := 1) (v := 1) (by decide +kernel) (by decide +kernel) ?_
  refine j_iadd F (pc := 1008) (by decide +kernel) ?_
  refine j_sld F (pc := 1009) S (hix 1 (by decide) (by decide)) (by decide +kernel) ?_
  refine j_aload_n F (pc := 1010) (q := 0) (by decide +kernel) rfl ?_
  refine j_iload_n F (pc := 1011) (q := 3) (by decide +kernel) rfl ?_
  refine j_iconst F (pc := 1012) (n := 2) (v := 2) (by decide +kernel) (by decide +kernel) ?_
  refine j_iadd F (pc := 1013) (by decide +kernel) ?_
  refine j_sld F (pc := 1014) S (hix 2 (by decide) (by decide)) (by decide +kernel) ?_
  refine j_aload_n F (pc := 1015) (q := 0) (by decide +kernel) rfl ?_
  refine j_iload_n F (pc := 1016) (q := 3) (by decide +kernel) rfl ?_
  refine j_iconst F (pc := 1017) (n := 3) (v := 3) (by decide +kernel) (by decide +kernel) ?_
  refine j_iadd F (pc := 1018) (by decide +kernel) ?_
  refine j_sld F (pc := 1019) S (hix 3 (by decide) (by decide)) (by decide +kernel) ?_
  refine j_aload_n F (pc := 1020) (q := 0) (by decide +kernel) rfl ?_
  refine j_iload_n F (pc := 1021) (q := 3) (by decide +kernel) rfl ?_
  refine j_iconst F (pc := 1022) (n := 4) (v := 4) (by decide +kernel) (by decide +kernel) ?_
  refine j_iadd F (pc := 1023) (by decide +kernel) ?_
  refine j_sld F (pc := 1024) S (hix 4 (by decide) (by decide)) (by decide +kernel) ?_
  refine j_callVi F (pc := 1025) (idx := 105) (As := [.int (xs (nI i + (1 : Int32)).toNatClampNeg), .int (xs (nI i + (2 : Int32)).toNatClampNeg), .int (xs (nI i + (3 : Int32)).toNatClampNeg), .int (xs (nI i + (4 : Int32)).toNatClampNeg)]) (st := [.int r]) (t_X5_has (G := E.1) rfl hk1 h2) q_X5_has v_X5_has m_1288 (hk1.s c_98) rfl rfl (by decide) (Nat.le_of_ble_eq_true rfl) rfl (by decide +kernel) (fun r1 ν hq hp => ?_)
  obtain ⟨rfl, rfl⟩ := hp
  refine j_icmp_eq F (pc := 1028) (off := 595) (tgt := 1623) (by decide +kernel) (by decide) (fun c => ?_) (fun c => absurd rfl c)
  exact hn μ2 hI2
set_option maxHeartbeats 4000000 in
set_option maxRecDepth 100000 in
theorem lawc_21 {E : z_E} {b Ls i : Nat} {xs : Nat → Int32} {Inv : z_M → Prop} (F : z_F E RL cL_law 4 14) (S : z_SC E b Ls xs) (hsh : z_sh E.1 = z_SH) (hs21 : zs_21 Inv) (hix : ∀ j : Int32, 0 ≤ j → j < 10 → z_in (nI i + j) Ls) {μ : z_M} (hI : Inv μ) (hk : z_ok (z_sh E.1) μ.2.2) (hn : ∀ μ2, Inv μ2 → z_J E 4 1623 [some (.ref 999), some (.ref 0), some (.ref 98), some (.int (nI i))] [] μ2) : z_J E 4 1033 [some (.ref 999), some (.ref 0), some (.ref 98), some (.int (nI i))] [] μ := by
  refine j_aload_n F (pc := 1033) (q := 1) (by decide +kernel) rfl ?_
  refine j_aload_n F (pc := 1034) (q := 0) (by decide +kernel) rfl ?_
  refine j_iload_n F (pc := 1035) (q := 3) (by decide +kernel) rfl ?_
  refine j_iconst F (pc := 1036) (n := 1) (v := 1) (by decide +kernel) (by decide +kernel) ?_
  refine j_iadd F (pc := 1037) (by decide +kernel) ?_
  refine j_sld F (pc := 1038) S (hix 1 (by decide) (by decide)) (by decide +kernel) ?_
  refine j_aload_n F (pc := 1039) (q := 0) (by decide +kernel) rfl ?_
  refine j_iload_n F (pc := 1040) (q := 3) (by decide +kernel) rfl ?_
  refine j_iconst F (pc := 1041) (n := 2) (v := 2) (by decide +kernel) (by decide +kernel) ?_
  refine j_iadd F (pc := 1042) (by decide +kernel) ?_
  refine j_sld F (pc := 1043) S (hix 2 (by decide) (by decide)) (by decide +kernel) ?_
  refine j_aload_n F (pc := 1044) (q := 0) (by decide +kernel) rfl ?_
  refine j_iload_n F (pc := 1045) (q := 3) (by decide +kernel) rfl ?_
  refine j_iconst F (pc := 1046) (n := 3) (v := 3) (by decide +kernel) (by decide +kernel) ?_
  refine j_iadd F (pc := 1047) (by decide +kernel) ?_
  refine j_sld F (pc := 1048) S (hix 3 (by decide) (by decide)) (by decide +kernel) ?_
  refine j_aload_n F (pc := 1049) (q := 0) (by decide +kernel) rfl ?_
  refine j_iload_n F (pc := 1050) (q := 3) (by decide +kernel) rfl ?_
  refine j_iconst F (pc := 1051) (n := 4) (v := 4) (by decide +kernel) (by decide +kernel) ?_
  refine j_iadd F (pc := 1052) (by decide +kernel) ?_
  refine j_sld F (pc := 1053) S (hix 4 (by decide) (by decide)) (by decide +kernel) ?_
  obtain ⟨r, μ1, μ2, h1, hok1, h2, hI2⟩ := (hs21 μ hI ((xs (nI i + (1 : Int32)).toNatClampNeg)) ((xs (nI i + (2 : Int32)).toNatClampNeg)) ((xs (nI i + (3 : Int32)).toNatClampNeg)) ((xs (nI i + (4 : Int32)).toNatClampNeg)))
  have hk1 : z_ok (z_sh E.1) μ1.2.2 := by rw [hsh]; exact hok1
  refine j_callVi F (pc := 1054) (idx := 106) (As := [.int (xs (nI i + (1 : Int32)).toNatClampNeg), .int (xs (nI i + (2 : Int32)).toNatClampNeg), .int (xs (nI i + (3 : Int32)).toNatClampNeg), .int (xs (nI i + (4 : Int32)).toNatClampNeg)]) (st := []) (t_X4_order (G := E.1) rfl hk h1) q_X4_order v_X4_order m_782 (hk.s c_0) rfl rfl (by decide) (Nat.le_of_ble_eq_true rfl) rfl (by decide +kernel) (fun r0 ν hq hp => ?_)
  obtain ⟨rfl, rfl⟩ := hp
  refine j_aload_n F (pc := 1057) (q := 2) (by decide +kernel) rfl ?_
  refine j_aload_n F (pc := 1058) (q := 0) (by decide +kernel) rfl ?_
  refine j_iload_n F (pc := 1059) (q := 3) (by decide +kernel) rfl ?_
  refine j_iconst F (pc := 1060) (n := 1) (v := 1) (by decide +kernel) (by decide +kernel) ?_
  refine j_iadd F (pc := 1061) (by decide +kernel) ?_
  refine j_sld F (pc := 1062) S (hix 1 (by decide) (by decide)) (by decide +kernel) ?_
  refine j_aload_n F (pc := 1063) (q := 0) (by decide +kernel) rfl ?_
  refine j_iload_n F (pc := 1064) (q := 3) (by decide +kernel) rfl ?_
  refine j_iconst F (pc := 1065) (n := 2) (v := 2) (by decide +kernel) (by decide +kernel) ?_
  refine j_iadd F (pc := 1066) (by decide +kernel) ?_
  refine j_sld F (pc := 1067) S (hix 2 (by decide) (by decide)) (by decide +kernel) ?_
  refine j_aload_n F (pc := 1068) (q := 0) (by decide +kernel) rfl ?_
  refine j_iload_n F (pc := 1069) (q := 3) (by decide +kernel) rfl ?_
  refine j_iconst F (pc := 1070) (n := 3) (v := 3) (by decide +kernel) (by decide +kernel) ?_
  refine j_iadd F (pc := 1071) (by decide +kernel) ?_
  refine j_sld F (pc := 1072) S (hix 3 (by decide) (by decide)) (by decide +kernel) ?_
  refine j_aload_n F (pc := 1073) (q := 0) (by decide +kernel) rfl ?_
  refine j_iload_n F (pc := 1074) (q := 3) (by decide +kernel) rfl ?_
  refine j_iconst F (pc := 1075) (n := 4) (v := 4) (by decide +kernel) (by decide +kernel) ?_
  refine j_iadd F (pc := 1076) (by decide +kernel) ?_
  refine j_sld F (pc := 1077) S (hix 4 (by decide) (by decide)) (by decide +kernel) ?_
  refine j_callVi F (pc := 1078) (idx := 109) (As := [.int (xs (nI i + (1 : Int32)).toNatClampNeg), .int (xs (nI i + (2 : Int32)).toNatClampNeg), .int (xs (nI i + (3 : Int32)).toNatClampNeg), .int (xs (nI i + (4 : Int32)).toNatClampNeg)]) (st := [.int r]) (t_X5_order (G := E.1) rfl hk1 h2) q_X5_order v_X5_order m_1296 (hk1.s c_98) rfl rfl (by decide) (Nat.le_of_ble_eq_true rfl) rfl (by decide +kernel) (fun r1 ν hq hp => ?_)
  obtain ⟨rfl, rfl⟩ := hp
  refine j_icmp_eq F (pc := 1081) (off := 542) (tgt := 1623) (by decide +kernel) (by decide) (fun c => ?_) (fun c => absurd rfl c)
  exact hn μ2 hI2
set_option maxHeartbeats 4000000 in
set_option maxRecDepth 100000 in
theorem lawc_22 {E : z_E} {b Ls i : Nat} {xs : Nat → Int32} {Inv : z_M → Prop} (F : z_F E RL cL_law 4 14) (S : z_SC E b Ls xs) (hsh : z_sh E.1 = z_SH) (hs22 : zs_22 Inv) (hix : ∀ j : Int32, 0 ≤ j → j < 10 → z_in (nI i + j) Ls) {μ : z_M} (hI : Inv μ) (hk : z_ok (z_sh E.1) μ.2.2) (hn : ∀ μ2, Inv μ2 → z_J E 4 1623 [some (.ref 999), some (.ref 0), some (.ref 98), some (.int (nI i))] [] μ2) : z_J E 4 1086 [some (.ref 999), some (.ref 0), some (.ref 98), some (.int (nI i))] [] μ := by
  refine j_aload_n F (pc := 1086) (q := 1) (by decide +kernel) rfl ?_
  refine j_aload_n F (pc := 1087) (q := 0) (by decide +kernel) rfl ?_
  refine j_iload_n F (pc := 1088) (q := 3) (by decide +kernel) rfl ?_
  refine j_iconst F (pc := 1089) (n := 1) (v := 1) (by decide +kernel) (by decide +kernel) ?_
  refine j_iadd F (pc := 1090) (by decide +kernel) ?_
  refine j_sld F (pc := 1091) S (hix 1 (by decide) (by decide)) (by decide +kernel) ?_
  refine j_aload_n F (pc := 1092) (q := 0) (by decide +kernel) rfl ?_
  refine j_iload_n F (pc := 1093) (q := 3) (by decide +kernel) rfl ?_
  refine j_iconst F (pc := 1094) (n := 2) (v := 2) (by decide +kernel) (by decide +kernel) ?_
  refine j_iadd F (pc := 1095) (by decide +kernel) ?_
  refine j_sld F (pc := 1096) S (hix 2 (by decide) (by decide)) (by decide +kernel) ?_
  refine j_aload_n F (pc := 1097) (q := 0) (by decide +kernel) rfl ?_
  refine j_iload_n F (pc := 1098) (q := 3) (by decide +kernel) rfl ?_
  refine j_iconst F (pc := 1099) (n := 3) (v := 3) (by decide +kernel) (by decide +kernel) ?_
  refine j_iadd F (pc := 1100) (by decide +kernel) ?_
  refine j_sld F (pc := 1101) S (hix 3 (by decide) (by decide)) (by decide +kernel) ?_
  refine j_aload_n F (pc := 1102) (q := 0) (by decide +kernel) rfl ?_
  refine j_iload_n F (pc := 1103) (q := 3) (by decide +kernel) rfl ?_
  refine j_iconst F (pc := 1104) (n := 4) (v := 4) (by decide +kernel) (by decide +kernel) ?_
  refine j_iadd F (pc := 1105) (by decide +kernel) ?_
  refine j_sld F (pc := 1106) S (hix 4 (by decide) (by decide)) (by decide +kernel) ?_
  refine j_aload_n F (pc := 1107) (q := 0) (by decide +kernel) rfl ?_
  refine j_iload_n F (pc := 1108) (q := 3) (by decide +kernel) rfl ?_
  refine j_iconst F (pc := 1109) (n := 5) (v := 5) (by decide +kernel) (by decide +kernel) ?_
  refine j_iadd F (pc := 1110) (by decide +kernel) ?_
  refine j_sld F (pc := 1111) S (hix 5 (by decide) (by decide)) (by decide +kernel) ?_
  obtain ⟨r, μ1, μ2, h1, hok1, h2, hI2⟩ := (hs22 μ hI ((xs (nI i + (1 : Int32)).toNatClampNeg)) ((xs (nI i + (2 : Int32)).toNatClampNeg)) ((xs (nI i + (3 : Int32)).toNatClampNeg)) ((xs (nI i + (4 : Int32)).toNatClampNeg)) ((xs (nI i + (5 : Int32)).toNatClampNeg)))
  have hk1 : z_ok (z_sh E.1) μ1.2.2 := by rw [hsh]; exact hok1
  refine j_callVi F (pc := 1112) (idx := 110) (As := [.int (xs (nI i + (1 : Int32)).toNatClampNeg), .int (xs (nI i + (2 : Int32)).toNatClampNeg), .int (xs (nI i + (3 : Int32)).toNatClampNeg), .int (xs (nI i + (4 : Int32)).toNatClampNeg), .int (xs (nI i + (5 : Int32)).toNatClampNeg)]) (st := []) (t_X4_back (G := E.1) rfl hk h1) q_X4_back v_X4_back m_786 (hk.s c_0) rfl rfl (by decide) (Nat.le_of_ble_eq_true rfl) rfl (by decide +kernel) (fun r0 ν hq hp => ?_)
  obtain ⟨rfl, rfl⟩ := hp
  refine j_aload_n F (pc := 1115) (q := 2) (by decide +kernel) rfl ?_
  refine j_aload_n F (pc := 1116) (q := 0) (by decide +kernel) rfl ?_
  refine j_iload_n F (pc := 1117) (q := 3) (by decide +kernel) rfl ?_
  refine j_iconst F (pc := 1118) (n := 1) (v := 1) (by decide +kernel) (by decide +kernel) ?_
  refine j_iadd F (pc := 1119) (by decide +kernel) ?_
  refine j_sld F (pc := 1120) S (hix 1 (by decide) (by decide)) (by decide +kernel) ?_
  refine j_aload_n F (pc := 1121) (q := 0) (by decide +kernel) rfl ?_
  refine j_iload_n F (pc := 1122) (q := 3) (by decide +kernel) rfl ?_
  refine j_iconst F (pc := 1123) (n := 2) (v := 2) (by decide +kernel) (by decide +kernel) ?_
  refine j_iadd F (pc := 1124) (by decide +kernel) ?_
  refine j_sld F (pc := 1125) S (hix 2 (by decide) (by decide)) (by decide +kernel) ?_
  refine j_aload_n F (pc := 1126) (q := 0) (by decide +kernel) rfl ?_
  refine j_iload_n F (pc := 1127) (q := 3) (by decide +kernel) rfl ?_
  refine j_iconst F (pc := 1128) (n := 3) (v := 3) (by decide +kernel) (by decide +kernel) ?_
  refine j_iadd F (pc := 1129) (by decide +kernel) ?_
  refine j_sld F (pc := 1130) S (hix 3 (by decide) (by decide)) (by decide +kernel) ?_
  refine j_aload_n F (pc := 1131) (q := 0) (by decide +kernel) rfl ?_
  refine j_iload_n F (pc := 1132) (q := 3) (by decide +kernel) rfl ?_
  refine j_iconst F (pc := 1133) (n := 4) (v := 4) (by decide +kernel) (by decide +kernel) ?_
  refine j_iadd F (pc := 1134) (by decide +kernel) ?_
  refine j_sld F (pc := 1135) S (hix 4 (by decide) (by decide)) (by decide +kernel) ?_
  refine j_aload_n F (pc := 1136) (q := 0) (by decide +kernel) rfl ?_
  refine j_iload_n F (pc := 1137) (q := 3) (by decide +kernel) rfl ?_
  refine j_iconst F (pc := 1138) (n := 5) (v := 5) (by decide +kernel) (by decide +kernel) ?_
  refine j_iadd F (pc := 1139) (by decide +kernel) ?_
  refine j_sld F (pc := 1140) S (hix 5 (by decide) (by decide)) (by decide +kernel) ?_
  refine j_callVi F (pc := 1141) (idx := 114) (As := [.int (xs (nI i + (1 : Int32)).toNatClampNeg), .int (xs (nI i + (2 : Int32)).toNatClampNeg), .int (xs (nI i + (3 : Int32)).toNatClampNeg), .int (xs (nI i + (4 : Int32)).toNatClampNeg), .int (xs (nI i + (5 : Int32)).toNatClampNeg)]) (st := [.int r]) (t_X5_back (G := E.1) rfl hk1 h2) q_X5_back v_X5_back m_1300 (hk1.s c_98) rfl rfl (by decide) (Nat.le_of_ble_eq_true rfl) rfl (by decide +kernel) (fun r1 ν hq hp => ?_)
  obtain ⟨rfl, rfl⟩ := hp
  refine j_icmp_eq F (pc := 1144) (off := 479) (tgt := 1623) (by decide +kernel) (by decide) (fun c => ?_) (fun c => absurd rfl c)
  exact hn μ2 hI2
set_option maxHeartbeats 4000000 in
set_option maxRecDepth 100000 in
theorem lawc_23 {E : z_E} {b Ls i : Nat} {xs : Nat → Int32} {Inv : z_M → Prop} (F : z_F E RL cL_law 4 14) (S : z_SC E b Ls xs) (hsh : z_sh E.1 = z_SH) (hs23 : zs_23 Inv) (hix : ∀ j : Int32, 0 ≤ j → j < 10 → z_in (nI i + j) Ls) {μ : z_M} (hI : Inv μ) (hk : z_ok (z_sh E.1) μ.2.2) (hn : ∀ μ2, Inv μ2 → z_J E 4 1623 [some (.ref 999), some (.ref 0), some (.ref 98), some (.int (nI i))] [] μ2) : z_J E 4 1149 [some (.ref 999), some (.ref 0), some (.ref 98), some (.int (nI i))] [] μ := by
  refine j_aload_n F (pc := 1149) (q := 1) (by decide +kernel) rfl ?_
  refine j_aload_n F (pc := 1150) (q := 0) (by decide +kernel) rfl ?_
  refine j_iload_n F (pc := 1151) (q := 3) (by decide +kernel) rfl ?_
  refine j_iconst F (pc := 1152) (n := 1) (v := 1) (by decide +kernel) (by decide +kernel) ?_
  refine j_iadd F (pc := 1153) (by decide +kernel) ?_
  refine j_sld F (pc := 1154) S (hix 1 (by decide) (by decide)) (by decide +kernel) ?_
  refine j_aload_n F (pc := 1155) (q := 0) (by decide +kernel) rfl ?_
  refine j_iload_n F (pc := 1156) (q := 3) (by decide +kernel) rfl ?_
  refine j_iconst F (pc := 1157) (n := 2) (v := 2) (by decide +kernel) (by decide +kernel) ?_
  refine j_iadd F (pc := 1158) (by decide +kernel) ?_
  refine j_sld F (pc := 1159) S (hix 2 (by decide) (by decide)) (by decide +kernel) ?_
  refine j_aload_n F (pc := 1160) (q := 0) (by decide +kernel) rfl ?_
  refine j_iload_n F (pc := 1161) (q := 3) (by decide +kernel) rfl ?_
  refine j_iconst F (pc := 1162) (n := 3) (v := 3) (by decide +kernel) (by decide +kernel) ?_
  refine j_iadd F (pc := 1163) (by decide +kernel) ?_
  refine j_sld F (pc := 1164) S (hix 3 (by decide) (by decide)) (by decide +kernel) ?_
  refine j_aload_n F (pc := 1165) (q := 0) (by decide +kernel) rfl ?_
  refine j_iload_n F (pc := 1166) (q := 3) (by decide +kernel) rfl ?_
  refine j_iconst F (pc := 1167) (n := 4) (v := 4) (by decide +kernel) (by decide +kernel) ?_
  refine j_iadd F (pc := 1168) (by decide +kernel) ?_
  refine j_sld F (pc := 1169) S (hix 4 (by decide) (by decide)) (by decide +kernel) ?_
  refine j_aload_n F (pc := 1170) (q := 0) (by decide +kernel) rfl ?_
  refine j_iload_n F (pc := 1171) (q := 3) (by decide +kernel) rfl ?_
  refine j_iconst F (pc := 1172) (n := 5) (v := 5) (by decide +kernel) (by decide +kernel) ?_
  refine j_iadd F (pc := 1173) (by decide +kernel) ?_
  refine j_sld F (pc := 1174) S (hix 5 (by decide) (by decide)) (by decide +kernel) ?_
  obtain ⟨r, μ1, μ2, h1, hok1, h2, hI2⟩ := (hs23 μ hI ((xs (nI i + (1 : Int32)).toNatClampNeg)) ((xs (nI i + (2 : Int32)).toNatClampNeg)) ((xs (nI i + (3 : Int32)).toNatClampNeg)) ((xs (nI i + (4 : Int32)).toNatClampNeg)) ((xs (nI i + (5 : Int32)).toNatClampNeg)))
  have hk1 : z_ok (z_sh E.1) μ1.2.2 := by rw [hsh]; exact hok1
  refine j_callVi F (pc := 1175) (idx := 115) (As := [.int (xs (nI i + (1 : Int32)).toNatClampNeg), .int (xs (nI i + (2 : Int32)).toNatClampNeg), .int (xs (nI i + (3 : Int32)).toNatClampNeg), .int (xs (nI i + (4 : Int32)).toNatClampNeg), .int (xs (nI i + (5 : Int32)).toNatClampNeg)]) (st := []) (t_X4_wake (G := E.1) rfl hk h1) q_X4_wake v_X4_wake m_798 (hk.s c_0) rfl rfl (by decide) (Nat.le_of_ble_eq_true rfl) rfl (by decide +kernel) (fun r0 ν hq hp => ?_)
  obtain ⟨rfl, rfl⟩ := hp
  refine j_aload_n F (pc := 1178) (q := 2) (by decide +kernel) rfl ?_
  refine j_aload_n F (pc := 1179) (q := 0) (by decide +kernel) rfl ?_
  refine j_iload_n F (pc := 1180) (q := 3) (by decide +kernel) rfl ?_
  refine j_iconst F (pc := 1181) (n := 1) (v := 1) (by decide +kernel) (by decide +kernel) ?_
  refine j_iadd F (pc := 1182) (by decide +kernel) ?_
  refine j_sld F (pc := 1183) S (hix 1 (by decide) (by decide)) (by decide +kernel) ?_
  refine j_aload_n F (pc := 1184) (q := 0) (by decide +kernel) rfl ?_
  refine j_iload_n F (pc := 1185) (q := 3) (by decide +kernel) rfl ?_
  refine j_iconst F (pc := 1186) (n := 2) (v := 2) (by decide +kernel) (by decide +kernel) ?_
  refine j_iadd F (pc := 1187) (by decide +kernel) ?_
  refine j_sld F (pc := 1188) S (hix 2 (by decide) (by decide)) (by decide +kernel) ?_
  refine j_aload_n F (pc := 1189) (q := 0) (by decide +kernel) rfl ?_
  refine j_iload_n F (pc := 1190) (q := 3) (by decide +kernel) rfl ?_
  refine j_iconst F (pc := 1191) (n := 3) (v := 3) (by decide +kernel) (by decide +kernel) ?_
  refine j_iadd F (pc := 1192) (by decide +kernel) ?_
  refine j_sld F (pc := 1193) S (hix 3 (by decide) (by decide)) (by decide +kernel) ?_
  refine j_aload_n F (pc := 1194) (q := 0) (by decide +kernel) rfl ?_
  refine j_iload_n F (pc := 1195) (q := 3) (by decide +kernel) rfl ?_
  refine j_iconst F (pc := 1196) (n := 4) (v := 4) (by decide +kernel) (by decide +kernel) ?_
  refine j_iadd F (pc := 1197) (by decide +kernel) ?_
  refine j_sld F (pc := 1198) S (hix 4 (by decide) (by decide)) (by decide +kernel) ?_
  refine j_aload_n F (pc := 1199) (q := 0) (by decide +kernel) rfl ?_
  refine j_iload_n F (pc := 1200) (q := 3) (by decide +kernel) rfl ?_
  refine j_iconst F (pc := 1201) (n := 5) (v := 5) (by decide +kernel) (by decide +kernel) ?_
  refine j_iadd F (pc := 1202) (by decide +kernel) ?_
  refine j_sld F (pc := 1203) S (hix 5 (by decide) (by decide)) (by decide +kernel) ?_
  refine j_callVi F (pc := 1204) (idx := 118) (As := [.int (xs (nI i + (1 : Int32)).toNatClampNeg), .int (xs (nI i + (2 : Int32)).toNatClampNeg), .int (xs (nI i + (3 : Int32)).toNatClampNeg), .int (xs (nI i + (4 : Int32)).toNatClampNeg), .int (xs (nI i + (5 : Int32)).toNatClampNeg)]) (st := [.int r]) (t_X5_wake (G := E.1) rfl hk1 h2) q_X5_wake v_X5_wake m_1304 (hk1.s c_98) rfl rfl (by decide) (Nat.le_of_ble_eq_true rfl) rfl (by decide +kernel) (fun r1 ν hq hp => ?_)
  obtain ⟨rfl, rfl⟩ := hp
  refine j_icmp_eq F (pc := 1207) (off := 416) (tgt := 1623) (by decide +kernel) (by decide) (fun c => ?_) (fun c => absurd rfl c)
  exact hn μ2 hI2
set_option maxHeartbeats 4000000 in
set_option maxRecDepth 100000 in
theorem lawc_24 {E : z_E} {b Ls i : Nat} {xs : Nat → Int32} {Inv : z_M → Prop} (F : z_F E RL cL_law 4 14) (S : z_SC E b Ls xs) (hsh : z_sh E.1 = z_SH) (hs24 : zs_24 Inv) (hix : ∀ j : Int32, 0 ≤ j → j < 10 → z_in (nI i + j) Ls) {μ : z_M} (hI : Inv μ) (hk : z_ok (z_sh E.1) μ.2.2) (hn : ∀ μ2, Inv μ2 → z_J E 4 1623 [some (.ref 999), some (.ref 0), some (.ref 98), some (.int (nI i))] [] μ2) : z_J E 4 1212 [some (.ref 999), some (.ref 0), some (.ref 98), some (.int (nI i))] [] μ := by
  refine j_aload_n F (pc := 1212) (q := 1) (by decide +kernel) rfl ?_
  refine j_aload_n F (pc := 1213) (q := 0) (by decide +kernel) rfl ?_
  refine j_iload_n F (pc := 1214) (q := 3) (by decide +kernel) rfl ?_
  refine j_iconst F (pc := 1215) (n := 1) (v := 1) (by decide +kernel) (by decide +kernel) ?_
  refine j_iadd F (pc := 1216) (by decide +kernel) ?_
  refine j_sld F (pc := 1217) S (hix 1 (by decide) (by decide)) (by decide +kernel) ?_
  refine j_aload_n F (pc := 1218) (q := 0) (by decide +kernel) rfl ?_
  refine j_iload_n F (pc := 1219) (q := 3) (by decide +kernel) rfl ?_
  refine j_iconst F (pc := 1220) (n := 2) (v := 2) (by decide +kernel) (by decide +kernel) ?_
  refine j_iadd F (pc := 1221) (by decide +kernel) ?_
  refine j_sld F (pc := 1222) S (hix 2 (by decide) (by decide)) (by decide +kernel) ?_
  refine j_aload_n F (pc := 1223) (q := 0) (by decide +kernel) rfl ?_
  refine j_iload_n F (pc := 1224) (q := 3) (by decide +kernel) rfl ?_
  refine j_iconst F (pc := 1225) (n := 3) (v := 3) (by decide +kernel) (by decide +kernel) ?_
  refine j_iadd F (pc := 1226) (by decide +kernel) ?_
  refine j_sld F (pc := 1227) S (hix 3 (by decide) (by decide)) (by decide +kernel) ?_
  refine j_aload_n F (pc := 1228) (q := 0) (by decide +kernel) rfl ?_
  refine j_iload_n F (pc := 1229) (q := 3) (by decide +kernel) rfl ?_
  refine j_iconst F (pc := 1230) (n := 4) (v := 4) (by decide +kernel) (by decide +kernel) ?_
  refine j_iadd F (pc := 1231) (by decide +kernel) ?_
  refine j_sld F (pc := 1232) S (hix 4 (by decide) (by decide)) (by decide +kernel) ?_
  obtain ⟨r, μ1, μ2, h1, hok1, h2, hI2⟩ := (hs24 μ hI ((xs (nI i + (1 : Int32)).toNatClampNeg)) ((xs (nI i + (2 : Int32)).toNatClampNeg)) ((xs (nI i + (3 : Int32)).toNatClampNeg)) ((xs (nI i + (4 : Int32)).toNatClampNeg)))
  have hk1 : z_ok (z_sh E.1) μ1.2.2 := by rw [hsh]; exact hok1
  refine j_callVi F (pc := 1233) (idx := 119) (As := [.int (xs (nI i + (1 : Int32)).toNatClampNeg), .int (xs (nI i + (2 : Int32)).toNatClampNeg), .int (xs (nI i + (3 : Int32)).toNatClampNeg), .int (xs (nI i + (4 : Int32)).toNatClampNeg)]) (st := []) (t_X4_best (G := E.1) rfl hk h1) q_X4_best v_X4_best m_807 (hk.s c_0) rfl rfl (by decide) (Nat.le_of_ble_eq_true rfl) rfl (by decide +kernel) (fun r0 ν hq hp => ?_)
  obtain ⟨rfl, rfl⟩ := hp
  refine j_aload_n F (pc := 1236) (q := 2) (by decide +kernel) rfl ?_
  refine j_aload_n F (pc := 1237) (q := 0) (by decide +kernel) rfl ?_
  refine j_iload_n F (pc := 1238) (q := 3) (by decide +kernel) rfl ?_
  refine j_iconst F (pc := 1239) (n := 1) (v := 1) (by decide +kernel) (by decide +kernel) ?_
  refine j_iadd F (pc := 1240) (by decide +kernel) ?_
  refine j_sld F (pc := 1241) S (hix 1 (by decide) (by decide)) (by decide +kernel) ?_
  refine j_aload_n F (pc := 1242) (q := 0) (by decide +kernel) rfl ?_
  refine j_iload_n F (pc := 1243) (q := 3) (by decide +kernel) rfl ?_
  refine j_iconst F (pc := 1244) (n := 2) (v := 2) (by decide +kernel) (by decide +kernel) ?_
  refine j_iadd F (pc := 1245) (by decide +kernel) ?_
  refine j_sld F (pc := 1246) S (hix 2 (by decide) (by decide)) (by decide +kernel) ?_
  refine j_aload_n F (pc := 1247) (q := 0) (by decide +kernel) rfl ?_
  refine j_iload_n F (pc := 1248) (q := 3) (by decide +kernel) rfl ?_
  refine j_iconst F (pc := 1249) (n := 3) (v := 3) (by decide +kernel) (by decide +kernel) ?_
  refine j_iadd F (pc := 1250) (by decide +kernel) ?_
  refine j_sld F (pc := 1251) S (hix 3 (by decide) (by decide)) (by decide +kernel) ?_
  refine j_aload_n F (pc := 1252) (q := 0) (by decide +kernel) rfl ?_
  refine j_iload_n F (pc := 1253) (q := 3) (by decide +kernel) rfl ?_
  refine j_iconst F (pc := 1254) (n := 4) (v := 4) (by decide +kernel) (by decide +kernel) ?_
  refine j_iadd F (pc := 1255) (by decide +kernel) ?_
  refine j_sld F (pc := 1256) S (hix 4 (by decide) (by decide)) (by decide +kernel) ?_
  refine j_callVi F (pc := 1257) (idx := 122) (As := [.int (xs (nI i + (1 : Int32)).toNatClampNeg), .int (xs (nI i + (2 : Int32)).toNatClampNeg), .int (xs (nI i + (3 : Int32)).toNatClampNeg), .int (xs (nI i + (4 : Int32)).toNatClampNeg)]) (st := [.int r]) (t_X5_best (G := E.1) rfl hk1 h2) q_X5_best v_X5_best m_1308 (hk1.s c_98) rfl rfl (by decide) (Nat.le_of_ble_eq_true rfl) rfl (by decide +kernel) (fun r1 ν hq hp => ?_)
  obtain ⟨rfl, rfl⟩ := hp
  refine j_icmp_eq F (pc := 1260) (off := 363) (tgt := 1623) (by decide +kernel) (by decide) (fun c => ?_) (fun c => absurd rfl c)
  exact hn μ2 hI2
set_option maxHeartbeats 4000000 in
set_option maxRecDepth 100000 in
theorem lawc_25 {E : z_E} {b Ls i : Nat} {xs : Nat → Int32} {Inv : z_M → Prop} (F : z_F E RL cL_law 4 14) (S : z_SC E b Ls xs) (hsh : z_sh E.1 = z_SH) (hs25 : zs_25 Inv) (hix : ∀ j : Int32, 0 ≤ j → j < 10 → z_in (nI i + j) Ls) {μ : z_M} (hI : Inv μ) (hk : z_ok (z_sh E.1) μ.2.2) (hn : ∀ μ2, Inv μ2 → z_J E 4 1623 [some (.ref 999), some (.ref 0), some (.ref 98), some (.int (nI i))] [] μ2) : z_J E 4 1265 [some (.ref 999), some (.ref 0), some (.ref 98), some (.int (nI i))] [] μ := by
  refine j_aload_n F (pc := 1265) (q := 1) (by decide +kernel) rfl ?_
  refine j_aload_n F (pc := 1266) (q := 0) (by decide +kernel) rfl ?_
  refine j_iload_n F (pc := 1267) (q := 3) (by decide +kernel) rfl ?_
  refine j_iconst F (pc := 1268) (n := 1) (v := 1) (by decide +kernel) (by decide +kernel) ?_
  refine j_iadd F (pc := 1269) (by decide +kernel) ?_
  refine j_sld F (pc := 1270) S (hix 1 (by decide) (by decide)) (by decide +kernel) ?_
  refine j_aload_n F (pc := 1271) (q := 0) (by decide +kernel) rfl ?_
  refine j_iload_n F (pc := 1272) (q := 3) (by decide +kernel) rfl ?_
  refine j_iconst F (pc := 1273) (n := 2) (v := 2) (by decide +kernel) (by decide +kernel) ?_
  refine j_iadd F (pc := 1274) (by decide +kernel) ?_
  refine j_sld F (pc := 1275) S (hix 2 (by decide) (by decide)) (by decide +kernel) ?_
  refine j_aload_n F (pc := 1276) (q := 0) (by decide +kernel) rfl ?_
  refine j_iload_n F (pc := 1277) (q := 3) (by decide +kernel) rfl ?_
  refine j_iconst F (pc := 1278) (n := 3) (v := 3) (by decide +kernel) (by decide +kernel) ?_
  refine j_iadd F (pc := 1279) (by decide +kernel) ?_
  refine j_sld F (pc := 1280) S (hix 3 (by decide) (by decide)) (by decide +kernel) ?_
  refine j_aload_n F (pc := 1281) (q := 0) (by decide +kernel) rfl ?_
  refine j_iload_n F (pc := 1282) (q := 3) (by decide +kernel) rfl ?_
  refine j_iconst F (pc := 1283) (n := 4) (v := 4) (by decide +kernel) (by decide +kernel) ?_
  refine j_iadd F (pc := 1284) (by decide +kernel) ?_
  refine j_sld F (pc := 1285) S (hix 4 (by decide) (by decide)) (by decide +kernel) ?_
  refine j_aload_n F (pc := 1286) (q := 0) (by decide +kernel) rfl ?_
  refine j_iload_n F (pc := 1287) (q := 3) (by decide +kernel) rfl ?_
  refine j_iconst F (pc := 1288) (n := 5) (v := 5) (by decide +kernel) (by decide +kernel) ?_
  refine j_iadd F (pc := 1289) (by decide +kernel) ?_
  refine j_sld F (pc := 1290) S (hix 5 (by decide) (by decide)) (by decide +kernel) ?_
  refine j_aload_n F (pc := 1291) (q := 0) (by decide +kernel) rfl ?_
  refine j_iload_n F (pc := 1292) (q := 3) (by decide +kernel) rfl ?_
  refine j_bipush F (pc := 1293) (n := 6) (v := 6) (by decide +kernel) (by decide +kernel) ?_
  refine j_iadd F (pc := 1295) (by decide +kernel) ?_
  refine j_sld F (pc := 1296) S (hix 6 (by decide) (by decide)) (by decide +kernel) ?_
  obtain ⟨r, μ1, μ2, h1, hok1, h2, hI2⟩ := (hs25 μ hI ((xs (nI i + (1 : Int32)).toNatClampNeg)) ((xs (nI i + (2 : Int32)).toNatClampNeg)) ((xs (nI i + (3 : Int32)).toNatClampNeg)) ((xs (nI i + (4 : Int32)).toNatClampNeg)) ((xs (nI i + (5 : Int32)).toNatClampNeg)) ((xs (nI i + (6 : Int32)).toNatClampNeg)))
  have hk1 : z_ok (z_sh E.1) μ1.2.2 := by rw [hsh]; exact hok1
  refine j_callVi F (pc := 1297) (idx := 123) (As := [.int (xs (nI i + (1 : Int32)).toNatClampNeg), .int (xs (nI i + (2 : Int32)).toNatClampNeg), .int (xs (nI i + (3 : Int32)).toNatClampNeg), .int (xs (nI i + (4 : Int32)).toNatClampNeg), .int (xs (nI i + (5 : Int32)).toNatClampNeg), .int (xs (nI i + (6 : Int32)).toNatClampNeg)]) (st := []) (t_X4_buy (G := E.1) rfl hk h1) q_X4_buy v_X4_buy m_811 (hk.s c_0) rfl rfl (by decide) (Nat.le_of_ble_eq_true rfl) rfl (by decide +kernel) (fun r0 ν hq hp => ?_)
  obtain ⟨rfl, rfl⟩ := hp
  refine j_aload_n F (pc := 1300) (q := 2) (by decide +kernel) rfl ?_
  refine j_aload_n F (pc := 1301) (q := 0) (by decide +kernel) rfl ?_
  refine j_iload_n F (pc := 1302) (q := 3) (by decide +kernel) rfl ?_
  refine j_iconst F (pc := 1303) (n := 1) (v := 1) (by decide +kernel) (by decide +kernel) ?_
  refine j_iadd F (pc := 1304) (by decide +kernel) ?_
  refine j_sld F (pc := 1305) S (hix 1 (by decide) (by decide)) (by decide +kernel) ?_
  refine j_aload_n F (pc := 1306) (q := 0) (by decide +kernel) rfl ?_
  refine j_iload_n F (pc := 1307) (q := 3) (by decide +kernel) rfl ?_
  refine j_iconst F (pc := 1308) (n := 2) (v := 2) (by decide +kernel) (by decide +kernel) ?_
  refine j_iadd F (pc := 1309) (by decide +kernel) ?_
  refine j_sld F (pc := 1310) S (hix 2 (by decide) (by decide)) (by decide +kernel) ?_
  refine j_aload_n F (pc := 1311) (q := 0) (by decide +kernel) rfl ?_
  refine j_iload_n F (pc := 1312) (q := 3) (by decide +kernel) rfl ?_
  refine j_iconst F (pc := 1313) (n := 3) (v := 3) (by decide +kernel) (by decide +kernel) ?_
  refine j_iadd F (pc := 1314) (by decide +kernel) ?_
  refine j_sld F (pc := 1315) S (hix 3 (by decide) (by decide)) (by decide +kernel) ?_
  refine j_aload_n F (pc := 1316) (q := 0) (by decide +kernel) rfl ?_
  refine j_iload_n F (pc := 1317) (q := 3) (by decide +kernel) rfl ?_
  refine j_iconst F (pc := 1318) (n := 4) (v := 4) (by decide +kernel) (by decide +kernel) ?_
  refine j_iadd F (pc := 1319) (by decide +kernel) ?_
  refine j_sld F (pc := 1320) S (hix 4 (by decide) (by decide)) (by decide +kernel) ?_
  refine j_aload_n F (pc := 1321) (q := 0) (by decide +kernel) rfl ?_
  refine j_iload_n F (pc := 1322) (q := 3) (by decide +kernel) rfl ?_
  refine j_iconst F (pc := 1323) (n := 5) (v := 5) (by decide +kernel) (by decide +kernel) ?_
  refine j_iadd F (pc := 1324) (by decide +kernel) ?_
  refine j_sld F (pc := 1325) S (hix 5 (by decide) (by decide)) (by decide +kernel) ?_
  refine j_aload_n F (pc := 1326) (q := 0) (by decide +kernel) rfl ?_
  refine j_iload_n F (pc := 1327) (q := 3) (by decide +kernel) rfl ?_
  refine j_bipush F (pc := 1328) (n := 6) (v := 6) (by decide +kernel) (by decide +kernel) ?_
  refine j_iadd F (pc := 1330) (by decide +kernel) ?_
  refine j_sld F (pc := 1331) S (hix 6 (by decide) (by decide)) (by decide +kernel) ?_
  refine j_callVi F (pc := 1332) (idx := 127) (As := [.int (xs (nI i + (1 : Int32)).toNatClampNeg), .int (xs (nI i + (2 : Int32)).toNatClampNeg), .int (xs (nI i + (3 : Int32)).toNatClampNeg), .int (xs (nI i + (4 : Int32)).toNatClampNeg), .int (xs (nI i + (5 : Int32)).toNatClampNeg), .int (xs (nI i + (6 : Int32)).toNatClampNeg)]) (st := [.int r]) (t_X5_buy (G := E.1) rfl hk1 h2) q_X5_buy v_X5_buy m_1312 (hk1.s c_98) rfl rfl (by decide) (Nat.le_of_ble_eq_true rfl) rfl (by decide +kernel) (fun r1 ν hq hp => ?_)
  obtain ⟨rfl, rfl⟩ := hp
  refine j_icmp_eq F (pc := 1335) (off := 288) (tgt := 1623) (by decide +kernel) (by decide) (fun c => ?_) (fun c => absurd rfl c)
  exact hn μ2 hI2
set_option maxHeartbeats 4000000 in
set_option maxRecDepth 100000 in
theorem lawc_26 {E : z_E} {b Ls i : Nat} {xs : Nat → Int32} {Inv : z_M → Prop} (F : z_F E RL cL_law 4 14) (S : z_SC E b Ls xs) (hsh : z_sh E.1 = z_SH) (hs26 : zs_26 Inv) (hix : ∀ j : Int32, 0 ≤ j → j < 10 → z_in (nI i + j) Ls) {μ : z_M} (hI : Inv μ) (hk : z_ok (z_sh E.1) μ.2.2) (hn : ∀ μ2, Inv μ2 → z_J E 4 1623 [some (.ref 999), some (.ref 0), some (.ref 98), some (.int (nI i))] [] μ2) : z_J E 4 1340 [some (.ref 999), some (.ref 0), some (.ref 98), some (.int (nI i))] [] μ := by
  refine j_aload_n F (pc := 1340) (q := 1) (by decide +kernel) rfl ?_
  refine j_aload_n F (pc := 1341) (q := 0) (by decide +kernel) rfl ?_
  refine j_iload_n F (pc := 1342) (q := 3) (by decide +kernel) rfl ?_
  refine j_iconst F (pc := 1343) (n := 1) (v := 1) (by decide +kernel) (by decide +kernel) ?_
  refine j_iadd F (pc := 1344) (by decide +kernel) ?_
  refine j_sld F (pc := 1345) S (hix 1 (by decide) (by decide)) (by decide +kernel) ?_
  refine j_aload_n F (pc := 1346) (q := 0) (by decide +kernel) rfl ?_
  refine j_iload_n F (pc := 1347) (q := 3) (by decide +kernel) rfl ?_
  refine j_iconst F (pc := 1348) (n := 2) (v := 2) (by decide +kernel) (by decide +kernel) ?_
  refine j_iadd F (pc := 1349) (by decide +kernel) ?_
  refine j_sld F (pc := 1350) S (hix 2 (by decide) (by decide)) (by decide +kernel) ?_
  refine j_aload_n F (pc := 1351) (q := 0) (by decide +kernel) rfl ?_
  refine j_iload_n F (pc := 1352) (q := 3) (by decide +kernel) rfl ?_
  refine j_iconst F (pc := 1353) (n := 3) (v := 3) (by decide +kernel) (by decide +kernel) ?_
  refine j_iadd F (pc := 1354) (by decide +kernel) ?_
  refine j_sld F (pc := 1355) S (hix 3 (by decide) (by decide)) (by decide +kernel) ?_
  refine j_aload_n F (pc := 1356) (q := 0) (by decide +kernel) rfl ?_
  refine j_iload_n F (pc := 1357) (q := 3) (by decide +kernel) rfl ?_
  refine j_iconst F (pc := 1358) (n := 4) (v := 4) (by decide +kernel) (by decide +kernel) ?_
  refine j_iadd F (pc := 1359) (by decide +kernel) ?_
  refine j_sld F (pc := 1360) S (hix 4 (by decide) (by decide)) (by decide +kernel) ?_
  refine j_aload_n F (pc := 1361) (q := 0) (by decide +kernel) rfl ?_
  refine j_iload_n F (pc := 1362) (q := 3) (by decide +kernel) rfl ?_
  refine j_iconst F (pc := 1363) (n := 5) (v := 5) (by decide +kernel) (by decide +kernel) ?_
  refine j_iadd F (pc := 1364) (by decide +kernel) ?_
  refine j_sld F (pc := 1365) S (hix 5 (by decide) (by decide)) (by decide +kernel) ?_
  obtain ⟨r, μ1, μ2, h1, hok1, h2, hI2⟩ := (hs26 μ hI ((xs (nI i + (1 : Int32)).toNatClampNeg)) ((xs (nI i + (2 : Int32)).toNatClampNeg)) ((xs (nI i + (3 : Int32)).toNatClampNeg)) ((xs (nI i + (4 : Int32)).toNatClampNeg)) ((xs (nI i + (5 : Int32)).toNatClampNeg)))
  have hk1 : z_ok (z_sh E.1) μ1.2.2 := by rw [hsh]; exact hok1
  refine j_callVi F (pc := 1366) (idx := 128) (As := [.int (xs (nI i + (1 : Int32)).toNatClampNeg), .int (xs (nI i + (2 : Int32)).toNatClampNeg), .int (xs (nI i + (3 : Int32)).toNatClampNeg), .int (xs (nI i + (4 : Int32)).toNatClampNeg), .int (xs (nI i + (5 : Int32)).toNatClampNeg)]) (st := []) (t_X4_clear (G := E.1) rfl hk h1) q_X4_clear v_X4_clear m_815 (hk.s c_0) rfl rfl (by decide) (Nat.le_of_ble_eq_true rfl) rfl (by decide +kernel) (fun r0 ν hq hp => ?_)
  obtain ⟨rfl, rfl⟩ := hp
  refine j_aload_n F (pc := 1369) (q := 2) (by decide +kernel) rfl ?_
  refine j_aload_n F (pc := 1370) (q := 0) (by decide +kernel) rfl ?_
  refine j_iload_n F (pc := 1371) (q := 3) (by decide +kernel) rfl ?_
  refine j_iconst F (pc := 1372) (n := 1) (v := 1) (by decide +kernel) (by decide +kernel) ?_
  refine j_iadd F (pc := 1373) (by decide +kernel) ?_
  refine j_sld F (pc := 1374) S (hix 1 (by decide) (by decide)) (by decide +kernel) ?_
  refine j_aload_n F (pc := 1375) (q := 0) (by decide +kernel) rfl ?_
  refine j_iload_n F (pc := 1376) (q := 3) (by decide +kernel) rfl ?_
  refine j_iconst F (pc := 1377) (n := 2) (v := 2) (by decide +kernel) (by decide +kernel) ?_
  refine j_iadd F (pc := 1378) (by decide +kernel) ?_
  refine j_sld F (pc := 1379) S (hix 2 (by decide) (by decide)) (by decide +kernel) ?_
  refine j_aload_n F (pc := 1380) (q := 0) (by decide +kernel) rfl ?_
  refine j_iload_n F (pc := 1381) (q := 3) (by decide +kernel) rfl ?_
  refine j_iconst F (pc := 1382) (n := 3) (v := 3) (by decide +kernel) (by decide +kernel) ?_
  refine j_iadd F (pc := 1383) (by decide +kernel) ?_
  refine j_sld F (pc := 1384) S (hix 3 (by decide) (by decide)) (by decide +kernel) ?_
  refine j_aload_n F (pc := 1385) (q := 0) (by decide +kernel) rfl ?_
  refine j_iload_n F (pc := 1386) (q := 3) (by decide +kernel) rfl ?_
  refine j_iconst F (pc := 1387) (n := 4) (v := 4) (by decide +kernel) (by decide +kernel) ?_
  refine j_iadd F (pc := 1388) (by decide +kernel) ?_
  refine j_sld F (pc := 1389) S (hix 4 (by decide) (by decide)) (by decide +kernel) ?_
  refine j_aload_n F (pc := 1390) (q := 0) (by decide +kernel) rfl ?_
  refine j_iload_n F (pc := 1391) (q := 3) (by decide +kernel) rfl ?_
  refine j_iconst F (pc := 1392) (n := 5) (v := 5) (by decide +kernel) (by decide +kernel) ?_
  refine j_iadd F (pc := 1393) (by decide +kernel) ?_
  refine j_sld F (pc := 1394) S (hix 5 (by decide) (by decide)) (by decide +kernel) ?_
  refine j_callVi F (pc := 1395) (idx := 131) (As := [.int (xs (nI i + (1 : Int32)).toNatClampNeg), .int (xs (nI i + (2 : Int32)).toNatClampNeg), .int (xs (nI i + (3 : Int32)).toNatClampNeg), .int (xs (nI i + (4 : Int32)).toNatClampNeg), .int (xs (nI i + (5 : Int32)).toNatClampNeg)]) (st := [.int r]) (t_X5_clear (G := E.1) rfl hk1 h2) q_X5_clear v_X5_clear m_1317 (hk1.s c_98) rfl rfl (by decide) (Nat.le_of_ble_eq_true rfl) rfl (by decide +kernel) (fun r1 ν hq hp => ?_)
  obtain ⟨rfl, rfl⟩ := hp
  refine j_icmp_eq F (pc := 1398) (off := 225) (tgt := 1623) (by decide +kernel) (by decide) (fun c => ?_) (fun c => absurd rfl c)
  exact hn μ2 hI2
set_option maxHeartbeats 4000000 in
set_option maxRecDepth 100000 in
theorem lawc_27 {E : z_E} {b Ls i : Nat} {xs : Nat → Int32} {Inv : z_M → Prop} (F : z_F E RL cL_law 4 14) (S : z_SC E b Ls xs) (hsh : z_sh E.1 = z_SH) (hs27 : zs_27 Inv) (hix : ∀ j : Int32, 0 ≤ j → j < 10 → z_in (nI i + j) Ls) {μ : z_M} (hI : Inv μ) (hk : z_ok (z_sh E.1) μ.2.2) (hn : ∀ μ2, Inv μ2 → z_J E 4 1623 [some (.ref 999), some (.ref 0), some (.ref 98), some (.int (nI i))] [] μ2) : z_J E 4 1403 [some (.ref 999), some (.ref 0), some (.ref 98), some (.int (nI i))] [] μ := by
  refine j_aload_n F (pc := 1403) (q := 1) (by decide +kernel) rfl ?_
  refine j_aload_n F (pc := 1404) (q := 0) (by decide +kernel) rfl ?_
  refine j_iload_n F (pc := 1405) (q := 3) (by decide +kernel) rfl ?_
  refine j_iconst F (pc := 1406) (n := 1) (v := 1) (by decide +kernel) (by decide +kernel) ?_
  refine j_iadd F (pc := 1407) (by decide +kernel) ?_
  refine j_sld F (pc := 1408) S (hix 1 (by decide) (by decide)) (by decide +kernel) ?_
  refine j_aload_n F (pc := 1409) (q := 0) (by decide +kernel) rfl ?_
  refine j_iload_n F (pc := 1410) (q := 3) (by decide +kernel) rfl ?_
  refine j_iconst F (pc := 1411) (n := 2) (v := 2) (by decide +kernel) (by decide +kernel) ?_
  refine j_iadd F (pc := 1412) (by decide +kernel) ?_
  refine j_sld F (pc := 1413) S (hix 2 (by decide) (by decide)) (by decide +kernel) ?_
  refine j_aload_n F (pc := 1414) (q := 0) (by decide +kernel) rfl ?_
  refine j_iload_n F (pc := 1415) (q := 3) (by decide +kernel) rfl ?_
  refine j_iconst F (pc := 1416) (n := 3) (v := 3) (by decide +kernel) (by decide +kernel) ?_
  refine j_iadd F (pc := 1417) (by decide +kernel) ?_
  refine j_sld F (pc := 1418) S (hix 3 (by decide) (by decide)) (by decide +kernel) ?_
  refine j_aload_n F (pc := 1419) (q := 0) (by decide +kernel) rfl ?_
  refine j_iload_n F (pc := 1420) (q := 3) (by decide +kernel) rfl ?_
  refine j_iconst F (pc := 1421) (n := 4) (v := 4) (by decide +kernel) (by decide +kernel) ?_
  refine j_iadd F (pc := 1422) (by decide +kernel) ?_
  refine j_sld F (pc := 1423) S (hix 4 (by decide) (by decide)) (by decide +kernel) ?_
  refine j_aload_n F (pc := 1424) (q := 0) (by decide +kernel) rfl ?_
  refine j_iload_n F (pc := 1425) (q := 3) (by decide +kernel) rfl ?_
  refine j_iconst F (pc := 1426) (n := 5) (v := 5) (by decide +kernel) (by decide +kernel) ?_
  refine j_iadd F (pc := 1427) (by decide +kernel) ?_
  refine j_sld F (pc := 1428) S (hix 5 (by decide) (by decide)) (by decide +kernel) ?_
  refine j_aload_n F (pc := 1429) (q := 0) (by decide +kernel) rfl ?_
  refine j_iload_n F (pc := 1430) (q := 3) (by decide +kernel) rfl ?_
  refine j_bipush F (pc := 1431) (n := 6) (v := 6) (by decide +kernel) (by decide +kernel) ?_
  refine j_iadd F (pc := 1433) (by decide +kernel) ?_
  refine j_sld F (pc := 1434) S (hix 6 (by decide) (by decide)) (by decide +kernel) ?_
  refine j_aload_n F (pc := 1435) (q := 0) (by decide +kernel) rfl ?_
  refine j_iload_n F (pc := 1436) (q := 3) (by decide +kernel) rfl ?_
  refine j_bipush F (pc := 1437) (n := 7) (v := 7) (by decide +kernel) (by decide +kernel) ?_
  refine j_iadd F (pc := 1439) (by decide +kernel) ?_
  refine j_sld F (pc := 1440) S (hix 7 (by decide) (by decide)) (by decide +kernel) ?_
  refine j_aload_n F (pc := 1441) (q := 0) (by decide +kernel) rfl ?_
  refine j_iload_n F (pc := 1442) (q := 3) (by decide +kernel) rfl ?_
  refine j_bipush F (pc := 1443) (n := 8) (v := 8) (by decide +kernel) (by decide +kernel) ?_
  refine j_iadd F (pc := 1445) (by decide +kernel) ?_
  refine j_sld F (pc := 1446) S (hix 8 (by decide) (by decide)) (by decide +kernel) ?_
  refine j_aload_n F (pc := 1447) (q := 0) (by decide +kernel) rfl ?_
  refine j_iload_n F (pc := 1448) (q := 3) (by decide +kernel) rfl ?_
  refine j_bipush F (pc := 1449) (n := 9) (v := 9) (by decide +kernel) (by decide +kernel) ?_
  refine j_iadd F (pc := 1451) (by decide +kernel) ?_
  refine j_sld F (pc := 1452) S (hix 9 (by decide) (by decide)) (by decide +kernel) ?_
  obtain ⟨r, μ1, μ2, h1, hok1, h2, hI2⟩ := (hs27 μ hI ((xs (nI i + (1 : Int32)).toNatClampNeg)) ((xs (nI i + (2 : Int32)).toNatClampNeg)) ((xs (nI i + (3 : Int32)).toNatClampNeg)) ((xs (nI i + (4 : Int32)).toNatClampNeg)) ((xs (nI i + (5 : Int32)).toNatClampNeg)) ((xs (nI i + (6 : Int32)).toNatClampNeg)) ((xs (nI i + (7 : Int32)).toNatClampNeg)) ((xs (nI i + (8 : Int32)).toNatClampNeg)) ((xs (nI i + (9 : Int32)).toNatClampNeg)))
  have hk1 : z_ok (z_sh E.1) μ1.2.2 := by rw [hsh]; exact hok1
  refine j_callVi F (pc := 1453) (idx := 132) (As := [.int (xs (nI i + (1 : Int32)).toNatClampNeg), .int (xs (nI i + (2 : Int32)).toNatClampNeg), .int (xs (nI i + (3 : Int32)).toNatClampNeg), .int (xs (nI i + (4 : Int32)).toNatClampNeg), .int (xs (nI i + (5 : Int32)).toNatClampNeg), .int (xs (nI i + (6 : Int32)).toNatClampNeg), .int (xs (nI i + (7 : Int32)).toNatClampNeg), .int (xs (nI i + (8 : Int32)).toNatClampNeg), .int (xs (nI i + (9 : Int32)).toNatClampNeg)]) (st := []) (t_X4_more (G := E.1) rfl hk h1) q_X4_more v_X4_more m_827 (hk.s c_0) rfl rfl (by decide) (Nat.le_of_ble_eq_true rfl) rfl (by decide +kernel) (fun r0 ν hq hp => ?_)
  obtain ⟨rfl, rfl⟩ := hp
  refine j_aload_n F (pc := 1456) (q := 2) (by decide +kernel) rfl ?_
  refine j_aload_n F (pc := 1457) (q := 0) (by decide +kernel) rfl ?_
  refine j_iload_n F (pc := 1458) (q := 3) (by decide +kernel) rfl ?_
  refine j_iconst F (pc := 1459) (n := 1) (v := 1) (by decide +kernel) (by decide +kernel) ?_
  refine j_iadd F (pc := 1460) (by decide +kernel) ?_
  refine j_sld F (pc := 1461) S (hix 1 (by decide) (by decide)) (by decide +kernel) ?_
  refine j_aload_n F (pc := 1462) (q := 0) (by decide +kernel) rfl ?_
  refine j_iload_n F (pc := 1463) (q := 3) (by decide +kernel) rfl ?_
  refine j_iconst F (pc := 1464) (n := 2) (v := 2) (by decide +kernel) (by decide +kernel) ?_
  refine j_iadd F (pc := 1465) (by decide +kernel) ?_
  refine j_sld F (pc := 1466) S (hix 2 (by decide) (by decide)) (by decide +kernel) ?_
  refine j_aload_n F (pc := 1467) (q := 0) (by decide +kernel) rfl ?_
  refine j_iload_n F (pc := 1468) (q := 3) (by decide +kernel) rfl ?_
  refine j_iconst F (pc := 1469) (n := 3) (v := 3) (by decide +kernel) (by decide +kernel) ?_
  refine j_iadd F (pc := 1470) (by decide +kernel) ?_
  refine j_sld F (pc := 1471) S (hix 3 (by decide) (by decide)) (by decide +kernel) ?_
  refine j_aload_n F (pc := 1472) (q := 0) (by decide +kernel) rfl ?_
  refine j_iload_n F (pc := 1473) (q := 3) (by decide +kernel) rfl ?_
  refine j_iconst F (pc := 1474) (n := 4) (v := 4) (by decide +kernel) (by decide +kernel) ?_
  refine j_iadd F (pc := 1475) (by decide +kernel) ?_
  refine j_sld F (pc := 1476) S (hix 4 (by decide) (by decide)) (by decide +kernel) ?_
  refine j_aload_n F (pc := 1477) (q := 0) (by decide +kernel) rfl ?_
  refine j_iload_n F (pc := 1478) (q := 3) (by decide +kernel) rfl ?_
  refine j_iconst F (pc := 1479) (n := 5) (v := 5) (by decide +kernel) (by decide +kernel) ?_
  refine j_iadd F (pc := 1480) (by decide +kernel) ?_
  refine j_sld F (pc := 1481) S (hix 5 (by decide) (by decide)) (by decide +kernel) ?_
  refine j_aload_n F (pc := 1482) (q := 0) (by decide +kernel) rfl ?_
  refine j_iload_n F (pc := 1483) (q := 3) (by decide +kernel) rfl ?_
  refine j_bipush F (pc := 1484) (n := 6) (v := 6) (by decide +kernel) (by decide +kernel) ?_
  refine j_iadd F (pc := 1486) (by decide +kernel) ?_
  refine j_sld F (pc := 1487) S (hix 6 (by decide) (by decide)) (by decide +kernel) ?_
  refine j_aload_n F (pc := 1488) (q := 0) (by decide +kernel) rfl ?_
  refine j_iload_n F (pc := 1489) (q := 3) (by decide +kernel) rfl ?_
  refine j_bipush F (pc := 1490) (n := 7) (v := 7) (by decide +kernel) (by decide +kernel) ?_
  refine j_iadd F (pc := 1492) (by decide +kernel) ?_
  refine j_sld F (pc := 1493) S (hix 7 (by decide) (by decide)) (by decide +kernel) ?_
  refine j_aload_n F (pc := 1494) (q := 0) (by decide +kernel) rfl ?_
  refine j_iload_n F (pc := 1495) (q := 3) (by decide +kernel) rfl ?_
  refine j_bipush F (pc := 1496) (n := 8) (v := 8) (by decide +kernel) (by decide +kernel) ?_
  refine j_iadd F (pc := 1498) (by decide +kernel) ?_
  refine j_sld F (pc := 1499) S (hix 8 (by decide) (by decide)) (by decide +kernel) ?_
  refine j_aload_n F (pc := 1500) (q := 0) (by decide +kernel) rfl ?_
  refine j_iload_n F (pc := 1501) (q := 3) (by decide +kernel) rfl ?_
  refine j_bipush F (pc := 1502) (n := 9) (v := 9) (by decide +kernel) (by decide +kernel) ?_
  refine j_iadd F (pc := 1504) (by decide +kernel) ?_
  refine j_sld F (pc := 1505) S (hix 9 (by decide) (by decide)) (by decide +kernel) ?_
  refine j_callVi F (pc := 1506) (idx := 136) (As := [.int (xs (nI i + (1 : Int32)).toNatClampNeg), .int (xs (nI i + (2 : Int32)).toNatClampNeg), .int (xs (nI i + (3 : Int32)).toNatClampNeg), .int (xs (nI i + (4 : Int32)).toNatClampNeg), .int (xs (nI i + (5 : Int32)).toNatClampNeg), .int (xs (nI i + (6 : Int32)).toNatClampNeg), .int (xs (nI i + (7 : Int32)).toNatClampNeg), .int (xs (nI i + (8 : Int32)).toNatClampNeg), .int (xs (nI i + (9 : Int32)).toNatClampNeg)]) (st := [.int r]) (t_X5_more (G := E.1) rfl hk1 h2) q_X5_more v_X5_more m_1321 (hk1.s c_98) rfl rfl (by decide) (Nat.le_of_ble_eq_true rfl) rfl (by decide +kernel) (fun r1 ν hq hp => ?_)
  obtain ⟨rfl, rfl⟩ := hp
  refine j_icmp_eq F (pc := 1509) (off := 114) (tgt := 1623) (by decide +kernel) (by decide) (fun c => ?_) (fun c => absurd rfl c)
  exact hn μ2 hI2
set_option maxHeartbeats 4000000 in
set_option maxRecDepth 100000 in
theorem lawc_28 {E : z_E} {b Ls i : Nat} {xs : Nat → Int32} {Inv : z_M → Prop} (F : z_F E RL cL_law 4 14) (S : z_SC E b Ls xs) (hsh : z_sh E.1 = z_SH) (hs28 : zs_28 Inv) (hix : ∀ j : Int32, 0 ≤ j → j < 10 → z_in (nI i + j) Ls) {μ : z_M} (hI : Inv μ) (hk : z_ok (z_sh E.1) μ.2.2) (hn : ∀ μ2, Inv μ2 → z_J E 4 1623 [some (.ref 999), some (.ref 0), some (.ref 98), some (.int (nI i))] [] μ2) : z_J E 4 1514 [some (.ref 999), some (.ref 0), some (.ref 98), some (.int (nI i))] [] μ := by
  refine j_aload_n F (pc := 1514) (q := 1) (by decide +kernel) rfl ?_
  refine j_aload_n F (pc := 1515) (q := 0) (by decide +kernel) rfl ?_
  refine j_iload_n F (pc := 1516) (q := 3) (by decide +kernel) rfl ?_
  refine j_iconst F (pc := 1517) (n := 1) (v := 1) (by decide +kernel) (by decide +kernel) ?_
  refine j_iadd F (pc := 1518) (by decide +kernel) ?_
  refine j_sld F (pc := 1519) S (hix 1 (by decide) (by decide)) (by decide +kernel) ?_
  refine j_aload_n F (pc := 1520) (q := 0) (by decide +kernel) rfl ?_
  refine j_iload_n F (pc := 1521) (q := 3) (by decide +kernel) rfl ?_
  refine j_iconst F (pc := 1522) (n := 2) (v := 2) (by decide +kernel) (by decide +kernel) ?_
  refine j_iadd F (pc := 1523) (by decide +kernel) ?_
  refine j_sld F (pc := 1524) S (hix 2 (by decide) (by decide)) (by decide +kernel) ?_
  refine j_aload_n F (pc := 1525) (q := 0) (by decide +kernel) rfl ?_
  refine j_iload_n F (pc := 1526) (q := 3) (by decide +kernel) rfl ?_
  refine j_iconst F (pc := 1527) (n := 3) (v := 3) (by decide +kernel) (by decide +kernel) ?_
  refine j_iadd F (pc := 1528) (by decide +kernel) ?_
  refine j_sld F (pc := 1529) S (hix 3 (by decide) (by decide)) (by decide +kernel) ?_
  refine j_aload_n F (pc := 1530) (q := 0) (by decide +kernel) rfl ?_
  refine j_iload_n F (pc := 1531) (q := 3) (by decide +kernel) rfl ?_
  refine j_iconst F (pc := 1532) (n := 4) (v := 4) (by decide +kernel) (by decide +kernel) ?_
  refine j_iadd F (pc := 1533) (by decide +kernel) ?_
  refine j_sld F (pc := 1534) S (hix 4 (by decide) (by decide)) (by decide +kernel) ?_
  refine j_aload_n F (pc := 1535) (q := 0) (by decide +kernel) rfl ?_
  refine j_iload_n F (pc := 1536) (q := 3) (by decide +kernel) rfl ?_
  refine j_iconst F (pc := 1537) (n := 5) (v := 5) (by decide +kernel) (by decide +kernel) ?_
  refine j_iadd F (pc := 1538) (by decide +kernel) ?_
  refine j_sld F (pc := 1539) S (hix 5 (by decide) (by decide)) (by decide +kernel) ?_
  obtain ⟨r, μ1, μ2, h1, hok1, h2, hI2⟩ := (hs28 μ hI ((xs (nI i + (1 : Int32)).toNatClampNeg)) ((xs (nI i + (2 : Int32)).toNatClampNeg)) ((xs (nI i + (3 : Int32)).toNatClampNeg)) ((xs (nI i + (4 : Int32)).toNatClampNeg)) ((xs (nI i + (5 : Int32)).toNatClampNeg)))
  have hk1 : z_ok (z_sh E.1) μ1.2.2 := by rw [hsh]; exact hok1
  refine j_callVi F (pc := 1540) (idx := 137) (As := [.int (xs (nI i + (1 : Int32)).toNatClampNeg), .int (xs (nI i + (2 : Int32)).toNatClampNeg), .int (xs (nI i + (3 : Int32)).toNatClampNeg), .int (xs (nI i + (4 : Int32)).toNatClampNeg), .int (xs (nI i + (5 : Int32)).toNatClampNeg)]) (st := []) (t_X4_hang (G := E.1) rfl hk h1) q_X4_hang v_X4_hang m_847 (hk.s c_0) rfl rfl (by decide) (Nat.le_of_ble_eq_true rfl) rfl (by decide +kernel) (fun r0 ν hq hp => ?_)
  obtain ⟨rfl, rfl⟩ := hp
  refine j_aload_n F (pc := 1543) (q := 2) (by decide +kernel) rfl ?_
  refine j_aload_n F (pc := 1544) (q := 0) (by decide +kernel) rfl ?_
  refine j_iload_n F (pc := 1545) (q := 3) (by decide +kernel) rfl ?_
  refine j_iconst F (pc := 1546) (n := 1) (v := 1) (by decide +kernel) (by decide +kernel) ?_
  refine j_iadd F (pc := 1547) (by decide +kernel) ?_
  refine j_sld F (pc := 1548) S (hix 1 (by decide) (by decide)) (by decide +kernel) ?_
  refine j_aload_n F (pc := 1549) (q := 0) (by decide +kernel) rfl ?_
  refine j_iload_n F (pc := 1550) (q := 3) (by decide +kernel) rfl ?_
  refine j_iconst F (pc := 1551) (n := 2) (v := 2) (by decide +kernel) (by decide +kernel) ?_
  refine j_iadd F (pc := 1552) (by decide +kernel) ?_
  refine j_sld F (pc := 1553) S (hix 2 (by decide) (by decide)) (by decide +kernel) ?_
  refine j_aload_n F (pc := 1554) (q := 0) (by decide +kernel) rfl ?_
  refine j_iload_n F (pc := 1555) (q := 3) (by decide +kernel) rfl ?_
  refine j_iconst F (pc := 1556) (n := 3) (v := 3) (by decide +kernel) (by decide +kernel) ?_
  refine j_iadd F (pc := 1557) (by decide +kernel) ?_
  refine j_sld F (pc := 1558) S (hix 3 (by decide) (by decide)) (by decide +kernel) ?_
  refine j_aload_n F (pc := 1559) (q := 0) (by decide +kernel) rfl ?_
  refine j_iload_n F (pc := 1560) (q := 3) (by decide +kernel) rfl ?_
  refine j_iconst F (pc := 1561) (n := 4) (v := 4) (by decide +kernel) (by decide +kernel) ?_
  refine j_iadd F (pc := 1562) (by decide +kernel) ?_
  refine j_sld F (pc := 1563) S (hix 4 (by decide) (by decide)) (by decide +kernel) ?_
  refine j_aload_n F (pc := 1564) (q := 0) (by decide +kernel) rfl ?_
  refine j_iload_n F (pc := 1565) (q := 3) (by decide +kernel) rfl ?_
  refine j_iconst F (pc := 1566) (n := 5) (v := 5) (by decide +kernel) (by decide +kernel) ?_
  refine j_iadd F (pc := 1567) (by decide +kernel) ?_
  refine j_sld F (pc := 1568) S (hix 5 (by decide) (by decide)) (by decide +kernel) ?_
  refine j_callVi F (pc := 1569) (idx := 140) (As := [.int (xs (nI i + (1 : Int32)).toNatClampNeg), .int (xs (nI i + (2 : Int32)).toNatClampNeg), .int (xs (nI i + (3 : Int32)).toNatClampNeg), .int (xs (nI i + (4 : Int32)).toNatClampNeg), .int (xs (nI i + (5 : Int32)).toNatClampNeg)]) (st := [.int r]) (t_X5_hang (G := E.1) rfl hk1 h2) q_X5_hang v_X5_hang m_1326 (hk1.s c_98) rfl rfl (by decide) (Nat.le_of_ble_eq_true rfl) rfl (by decide +kernel) (fun r1 ν hq hp => ?_)
  obtain ⟨rfl, rfl⟩ := hp
  refine j_icmp_eq F (pc := 1572) (off := 51) (tgt := 1623) (by decide +kernel) (by decide) (fun c => ?_) (fun c => absurd rfl c)
  exact hn μ2 hI2
set_option maxHeartbeats 4000000 in
set_option maxRecDepth 100000 in
theorem lawc_29 {E : z_E} {b Ls i : Nat} {xs : Nat → Int32} {Inv : z_M → Prop} (F : z_F E RL cL_law 4 14) (S : z_SC E b Ls xs) (hsh : z_sh E.1 = z_SH) (hs29 : zs_29 Inv) (hix : ∀ j : Int32, 0 ≤ j → j < 10 → z_in (nI i + j) Ls) {μ : z_M} (hI : Inv μ) (hk : z_ok (z_sh E.1) μ.2.2) (hn : ∀ μ2, Inv μ2 → z_J E 4 1623 [some (.ref 999), some (.ref 0), some (.ref 98), some (.int (nI i))] [] μ2) : z_J E 4 1577 [some (.ref 999), some (.ref 0), some (.ref 98), some (.int (nI i))] [] μ := by
  refine j_aload_n F (pc := 1577) (q := 1) (by decide +kernel) rfl ?_
  refine j_aload_n F (pc := 1578) (q := 0) (by decide +kernel) rfl ?_
  refine j_iload_n F (pc := 1579) (q := 3) (by decide +kernel) rfl ?_
  refine j_iconst F (pc := 1580) (n := 1) (v := 1) (by decide +kernel) (by decide +kernel) ?_
  refine j_iadd F (pc := 1581) (by decide +kernel) ?_
  refine j_sld F (pc := 1582) S (hix 1 (by decide) (by decide)) (by decide +kernel) ?_
  obtain ⟨r, μ1, μ2, h1, hok1, h2, hI2⟩ := (hs29 μ hI ((xs (nI i + (1 : Int32)).toNatClampNeg)))
  have hk1 : z_ok (z_sh E.1) μ1.2.2 := by rw [hsh]; exact hok1
  refine j_callVi F (pc := 1583) (idx := 141) (As := [.int (xs (nI i + (1 : Int32)).toNatClampNeg)]) (st := []) (t_X4_keep (G := E.1) rfl hk h1) q_X4_keep v_X4_keep m_858 (hk.s c_0) rfl rfl (by decide) (Nat.le_of_ble_eq_true rfl) rfl (by decide +kernel) (fun r0 ν hq hp => ?_)
  obtain ⟨rfl, rfl⟩ := hp
  refine j_aload_n F (pc := 1586) (q := 2) (by decide +kernel) rfl ?_
  refine j_aload_n F (pc := 1587) (q := 0) (by decide +kernel) rfl ?_
  refine j_iload_n F (pc := 1588) (q := 3) (by decide +kernel) rfl ?_
  refine j_iconst F (pc := 1589) (n := 1) (v := 1) (by decide +kernel) (by decide +kernel) ?_
  refine j_iadd F (pc := 1590) (by decide +kernel) ?_
  refine j_sld F (pc := 1591) S (hix 1 (by decide) (by decide)) (by decide +kernel) ?_
  refine j_callVi F (pc := 1592) (idx := 144) (As := [.int (xs (nI i + (1 : Int32)).toNatClampNeg)]) (st := [.int r]) (t_X5_keep (G := E.1) rfl hk1 h2) q_X5_keep v_X5_keep m_1334 (hk1.s c_98) rfl rfl (by decide) (Nat.le_of_ble_eq_true rfl) rfl (by decide +kernel) (fun r1 ν hq hp => ?_)
  obtain ⟨rfl, rfl⟩ := hp
  refine j_icmp_eq F (pc := 1595) (off := 28) (tgt := 1623) (by decide +kernel) (by decide) (fun c => ?_) (fun c => absurd rfl c)
  exact hn μ2 hI2
set_option maxHeartbeats 4000000 in
set_option maxRecDepth 100000 in
theorem lawc_30 {E : z_E} {b Ls i : Nat} {xs : Nat → Int32} {Inv : z_M → Prop} (F : z_F E RL cL_law 4 14) (S : z_SC E b Ls xs) (hsh : z_sh E.1 = z_SH) (hs30 : zs_30 Inv) (hix : ∀ j : Int32, 0 ≤ j → j < 10 → z_in (nI i + j) Ls) {μ : z_M} (hI : Inv μ) (hk : z_ok (z_sh E.1) μ.2.2) (hn : ∀ μ2, Inv μ2 → z_J E 4 1623 [some (.ref 999), some (.ref 0), some (.ref 98), some (.int (nI i))] [] μ2) : z_J E 4 1600 [some (.ref 999), some (.ref 0), some (.ref 98), some (.int (nI i))] [] μ := by
  refine j_aload_n F (pc := 1600) (q := 1) (by decide +kernel) rfl ?_
  refine j_aload_n F (pc := 1601) (q := 0) (by decide +kernel) rfl ?_
  refine j_iload_n F (pc := 1602) (q := 3) (by decide +kernel) rfl ?_
  refine j_iconst F (pc := 1603) (n := 1) (v := 1) (by decide +kernel) (by decide +kernel) ?_
  refine j_iadd F (pc := 1604) (by decide +kernel) ?_
  refine j_sld F (pc := 1605) S (hix 1 (by decide) (by decide)) (by decide +kernel) ?_
  obtain ⟨r, μ1, μ2, h1, hok1, h2, hI2⟩ := (hs30 μ hI ((xs (nI i + (1 : Int32)).toNatClampNeg)))
  have hk1 : z_ok (z_sh E.1) μ1.2.2 := by rw [hsh]; exact hok1
  refine j_callVi F (pc := 1606) (idx := 145) (As := [.int (xs (nI i + (1 : Int32)).toNatClampNeg)]) (st := []) (t_X4_goBack (G := E.1) rfl hk h1) q_X4_goBack v_X4_goBack m_865 (hk.s c_0) rfl rfl (by decide) (Nat.le_of_ble_eq_true rfl) rfl (by decide +kernel) (fun r0 ν hq hp => ?_)
  obtain ⟨rfl, rfl⟩ := hp
  refine j_aload_n F (pc := 1609) (q := 2) (by decide +kernel) rfl ?_
  refine j_aload_n F (pc := 1610) (q := 0) (by decide +kernel) rfl ?_
  refine j_iload_n F (pc := 1611) (q := 3) (by decide +kernel) rfl ?_
  refine j_iconst F (pc := 1612) (n := 1) (v := 1) (by decide +kernel) (by decide +kernel) ?_
  refine j_iadd F (pc := 1613) (by decide +kernel) ?_
  refine j_sld F (pc := 1614) S (hix 1 (by decide) (by decide)) (by decide +kernel) ?_
  refine j_callVi F (pc := 1615) (idx := 148) (As := [.int (xs (nI i + (1 : Int32)).toNatClampNeg)]) (st := [.int r]) (t_X5_goBack (G := E.1) rfl hk1 h2) q_X5_goBack v_X5_goBack m_1341 (hk1.s c_98) rfl rfl (by decide) (Nat.le_of_ble_eq_true rfl) rfl (by decide +kernel) (fun r1 ν hq hp => ?_)
  obtain ⟨rfl, rfl⟩ := hp
  refine j_icmp_eq F (pc := 1618) (off := 5) (tgt := 1623) (by decide +kernel) (by decide) (fun c => ?_) (fun c => absurd rfl c)
  exact hn μ2 hI2
