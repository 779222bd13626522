/-! constructors of the inner classes: written by wip/whole/ctor.py -/
theorem z_olr {n i : Nat} (h : i < n) : z_ol n (.ref i) := Or.inl h
theorem m_97 : Cond.instanceMethod objectInit ∈ z_T := z_T_in 97 (by decide +kernel) (by decide +kernel)
theorem m_98 : Cond.code objectInit ⟨#[0xb1]⟩ 1 none ∈ z_T := z_T_in 98 (by decide +kernel) (by decide +kernel)
theorem m_106 : Cond.methodLink RX1 3 objectInit ∈ z_T := z_T_in 106 (by decide +kernel) (by decide +kernel)
theorem m_138 : Cond.arrayClass .int ∈ z_T := z_T_in 138 (by decide +kernel) (by decide +kernel)
theorem m_144 : Cond.methodLink RX3 3 objectInit ∈ z_T := z_T_in 144 (by decide +kernel) (by decide +kernel)
theorem m_209 : Cond.methodLink RX2 3 objectInit ∈ z_T := z_T_in 209 (by decide +kernel) (by decide +kernel)
theorem m_210 : Cond.classLink RX2 42 "[[I" ∈ z_T := z_T_in 210 (by decide +kernel) (by decide +kernel)
theorem m_270 : Cond.methodLink RX0 3 objectInit ∈ z_T := z_T_in 270 (by decide +kernel) (by decide +kernel)
theorem m_271 : Cond.methodLink RX0 24 yX0_tellNothing ∈ z_T := z_T_in 271 (by decide +kernel) (by decide +kernel)
theorem fp_X3_3 : z_fp 3 3 true (.array .int) := ⟨RX3, TX3, 13, tyX3, rfl, by decide +kernel, rfl, by decide +kernel, tyX3_ok, nmX3⟩
theorem fp_X3_4 : z_fp 3 4 true (.array .int) := ⟨RX3, TX3, 13, tyX3, rfl, by decide +kernel, rfl, by decide +kernel, tyX3_ok, nmX3⟩
theorem fp_X3_5 : z_fp 3 5 true (.array .int) := ⟨RX3, TX3, 13, tyX3, rfl, by decide +kernel, rfl, by decide +kernel, tyX3_ok, nmX3⟩
theorem fp_X3_6 : z_fp 3 6 true (.array .int) := ⟨RX3, TX3, 13, tyX3, rfl, by decide +kernel, rfl, by decide +kernel, tyX3_ok, nmX3⟩
theorem fp_X3_7 : z_fp 3 7 true (.array .int) := ⟨RX3, TX3, 13, tyX3, rfl, by decide +kernel, rfl, by decide +kernel, tyX3_ok, nmX3⟩
theorem fp_X3_8 : z_fp 3 8 true (.array .int) := ⟨RX3, TX3, 13, tyX3, rfl, by decide +kernel, rfl, by decide +kernel, tyX3_ok, nmX3⟩
theorem fp_X3_9 : z_fp 3 9 true (.array .int) := ⟨RX3, TX3, 13, tyX3, rfl, by decide +kernel, rfl, by decide +kernel, tyX3_ok, nmX3⟩
theorem fp_X3_10 : z_fp 3 10 true (.array .int) := ⟨RX3, TX3, 13, tyX3, rfl, by decide +kernel, rfl, by decide +kernel, tyX3_ok, nmX3⟩
theorem fp_X3_11 : z_fp 3 11 true (.array .int) := ⟨RX3, TX3, 13, tyX3, rfl, by decide +kernel, rfl, by decide +kernel, tyX3_ok, nmX3⟩
theorem fp_X3_12 : z_fp 3 12 true (.array .int) := ⟨RX3, TX3, 13, tyX3, rfl, by decide +kernel, rfl, by decide +kernel, tyX3_ok, nmX3⟩
theorem fp_X1_0 : z_fp 1 0 true (.array .int) := ⟨RX1, TX1, 9, tyX1, rfl, by decide +kernel, rfl, by decide +kernel, tyX1_ok, nmX1⟩
theorem fp_X2_0 : z_fp 2 0 true (.array .int) := ⟨RX2, TX2, 16, tyX2, rfl, by decide +kernel, rfl, by decide +kernel, tyX2_ok, nmX2⟩
theorem fp_X2_3 : z_fp 2 3 true (.array .int) := ⟨RX2, TX2, 16, tyX2, rfl, by decide +kernel, rfl, by decide +kernel, tyX2_ok, nmX2⟩
theorem fp_X2_4 : z_fp 2 4 true (.array .int) := ⟨RX2, TX2, 16, tyX2, rfl, by decide +kernel, rfl, by decide +kernel, tyX2_ok, nmX2⟩
theorem fp_X2_5 : z_fp 2 5 true (.array .int) := ⟨RX2, TX2, 16, tyX2, rfl, by decide +kernel, rfl, by decide +kernel, tyX2_ok, nmX2⟩
theorem fp_X2_6 : z_fp 2 6 true (.array .int) := ⟨RX2, TX2, 16, tyX2, rfl, by decide +kernel, rfl, by decide +kernel, tyX2_ok, nmX2⟩
theorem fp_X2_7 : z_fp 2 7 true (.array .int) := ⟨RX2, TX2, 16, tyX2, rfl, by decide +kernel, rfl, by decide +kernel, tyX2_ok, nmX2⟩
theorem fp_X2_8 : z_fp 2 8 true (.array .int) := ⟨RX2, TX2, 16, tyX2, rfl, by decide +kernel, rfl, by decide +kernel, tyX2_ok, nmX2⟩
theorem fp_X2_9 : z_fp 2 9 true (.array .int) := ⟨RX2, TX2, 16, tyX2, rfl, by decide +kernel, rfl, by decide +kernel, tyX2_ok, nmX2⟩
theorem fp_X2_10 : z_fp 2 10 true (.array .int) := ⟨RX2, TX2, 16, tyX2, rfl, by decide +kernel, rfl, by decide +kernel, tyX2_ok, nmX2⟩
theorem fp_X2_11 : z_fp 2 11 true (.array .int) := ⟨RX2, TX2, 16, tyX2, rfl, by decide +kernel, rfl, by decide +kernel, tyX2_ok, nmX2⟩
theorem fp_X2_12 : z_fp 2 12 true (.array (.array .int)) := ⟨RX2, TX2, 16, tyX2, rfl, by decide +kernel, rfl, by decide +kernel, tyX2_ok, nmX2⟩
theorem fp_X2_13 : z_fp 2 13 true (.array .int) := ⟨RX2, TX2, 16, tyX2, rfl, by decide +kernel, rfl, by decide +kernel, tyX2_ok, nmX2⟩
theorem fp_X2_14 : z_fp 2 14 true (.array .int) := ⟨RX2, TX2, 16, tyX2, rfl, by decide +kernel, rfl, by decide +kernel, tyX2_ok, nmX2⟩
theorem fp_X2_15 : z_fp 2 15 true (.array .int) := ⟨RX2, TX2, 16, tyX2, rfl, by decide +kernel, rfl, by decide +kernel, tyX2_ok, nmX2⟩
theorem fp_X0_0 : z_fp 0 0 true (.array .int) := ⟨RX0, TX0, 13, tyX0, rfl, by decide +kernel, rfl, by decide +kernel, tyX0_ok, nmX0⟩
theorem fp_X0_1 : z_fp 0 1 true (.array .int) := ⟨RX0, TX0, 13, tyX0, rfl, by decide +kernel, rfl, by decide +kernel, tyX0_ok, nmX0⟩
theorem fp_X0_2 : z_fp 0 2 true (.array .int) := ⟨RX0, TX0, 13, tyX0, rfl, by decide +kernel, rfl, by decide +kernel, tyX0_ok, nmX0⟩
theorem fp_X0_3 : z_fp 0 3 true (.array .int) := ⟨RX0, TX0, 13, tyX0, rfl, by decide +kernel, rfl, by decide +kernel, tyX0_ok, nmX0⟩
def f_X3_init (o : Nat) (μ : z_M) : Option z_M :=
  (z_st (z_sr μ o 3 (some (o + 1))) fun μ11 => (z_st (z_sr μ11 o 4 (some (o + 2))) fun μ24 => (z_st (z_sr μ24 o 5 (some (o + 3))) fun μ37 => (z_st (z_sr μ37 o 6 (some (o + 4))) fun μ50 => (z_st (z_sr μ50 o 7 (some (o + 5))) fun μ63 => (z_st (z_sr μ63 o 8 (some (o + 6))) fun μ76 => (z_st (z_sr μ76 o 9 (some (o + 7))) fun μ89 => (z_st (z_sr μ89 o 10 (some (o + 8))) fun μ102 => (z_st (z_sr μ102 o 11 (some (o + 9))) fun μ115 => (z_st (z_sr μ115 o 12 (some (o + 10))) fun μ128 => (some μ128)))))))))))
set_option maxHeartbeats 4000000 in
set_option maxRecDepth 100000 in
theorem t_X3_init {G : z_Gl} {μ μr : z_M} {o : Nat} (hn : (z_sh G).length = (o + 1)) (h5 : (o + 11) < 500) (hs : (z_sh G)[o]? = some (.inr (3, [0, 0, 0, 2, 2, 2, 2, 2, 2, 2, 2, 2, 2]))) (hfr : z_fr μ (o + 1)) (h : f_X3_init o μ = some μr) : z_CN G yX3_init cX3_init 1 1 10 104 o μ [.inl (0, 6), .inl (0, 6), .inl (0, 14), .inl (0, 14), .inl (0, 14), .inl (0, 14), .inl (0, 14), .inl (0, 14), .inl (0, 5), .inl (0, 3)] μr := by
  refine z_introN (by decide +kernel) rfl (by decide) (fun E hE F Rt hc hin hY => ?_)
  subst hE
  have F : z_F E RX3 cX3_init 1 1 := F
  unfold f_X3_init at h
  show z_J E 1 0 [some (.ref o)] [] μ
  refine j_aload_n F (pc := 0) (q := 0) (by decide +kernel) rfl ?_
  refine j_objI F (pc := 1) (idx := 3) ⟨m_144, m_97, m_98⟩ (by decide) (Nat.le_of_ble_eq_true rfl) (by decide +kernel) ?_
  refine j_aload_n F (pc := 4) (q := 0) (by decide +kernel) rfl ?_
  refine j_bipush F (pc := 5) (n := 6) (v := 6) (by decide +kernel) (by decide +kernel) ?_
  refine j_newaI F (pc := 7) (n := (o + 1)) (N := 6) hn (by omega) hfr ⟨(z_olr (by omega)), trivial⟩ ⟨(z_olr (by omega)), trivial⟩ (by decide +kernel) (by decide) (by decide) (by rw [hc.1, hc.2.2.1]; decide) (by rw [hc.2.1, hc.2.2.2]; decide) m_138 (by decide +kernel) (fun E1 g2 F3 => ?_)
  have hn6 : (z_sh E1.1).length = (o + 2) := g2.len hn
  have Rt4 := g2.rn (by omega) Rt
  have hc5 := g2.cn hc
  have hs7 := g2.get hs
  have hin8 := g2.nm hin
  have hY9 : z_Y (z_St E1) := by rw [g2.st]; exact hY
  have hfr10 : z_fr μ (o + 2) := hfr.up (by omega)
  refine j_putRF F3 (pc := 9) (Or.inr ⟨_, rfl⟩) hin8 (fun _ _ _ h => by cases h; rfl) fl_X3_9 fp_X3_3 hs7 rfl (by decide +kernel) ?_
  obtain ⟨μ11, e12, h⟩ := z_st_some h
  rw [← e12]
  have hfr13 : z_fr μ11 (o + 2) := by rw [e12]; exact hfr10.sr (by omega) (by omega)
  refine j_aload_n F3 (pc := 12) (q := 0) (by decide +kernel) rfl ?_
  refine j_bipush F3 (pc := 13) (n := 6) (v := 6) (by decide +kernel) (by decide +kernel) ?_
  refine j_newaI F3 (pc := 15) (n := (o + 2)) (N := 6) hn6 (by omega) hfr13 ⟨(z_olr (by omega)), trivial⟩ ⟨(z_olr (by omega)), trivial⟩ (by decide +kernel) (by decide) (by decide) (by rw [hc5.1, hc5.2.2.1]; decide) (by rw [hc5.2.1, hc5.2.2.2]; decide) m_138 (by decide +kernel) (fun E14 g15 F16 => ?_)
  have hn19 : (z_sh E14.1).length = (o + 3) := g15.len hn6
  have Rt17 := g15.rn (by omega) Rt4
  have hc18 := g15.cn hc5
  have hs20 := g15.get hs7
  have hin21 := g15.nm hin8
  have hY22 : z_Y (z_St E14) := by rw [g15.st]; exact hY9
  have hfr23 : z_fr μ11 (o + 3) := hfr13.up (by omega)
  refine j_putRF F16 (pc := 17) (Or.inr ⟨_, rfl⟩) hin21 (fun _ _ _ h => by cases h; rfl) fl_X3_15 fp_X3_4 hs20 rfl (by decide +kernel) ?_
  obtain ⟨μ24, e25, h⟩ := z_st_some h
  rw [← e25]
  have hfr26 : z_fr μ24 (o + 3) := by rw [e25]; exact hfr23.sr (by omega) (by omega)
  refine j_aload_n F16 (pc := 20) (q := 0) (by decide +kernel) rfl ?_
  refine j_bipush F16 (pc := 21) (n := 14) (v := 14) (by decide +kernel) (by decide +kernel) ?_
  refine j_newaI F16 (pc := 23) (n := (o + 3)) (N := 14) hn19 (by omega) hfr26 ⟨(z_olr (by omega)), trivial⟩ ⟨(z_olr (by omega)), trivial⟩ (by decide +kernel) (by decide) (by decide) (by rw [hc18.1, hc18.2.2.1]; decide) (by rw [hc18.2.1, hc18.2.2.2]; decide) m_138 (by decide +kernel) (fun E27 g28 F29 => ?_)
  have hn32 : (z_sh E27.1).length = (o + 4) := g28.len hn19
  have Rt30 := g28.rn (by omega) Rt17
  have hc31 := g28.cn hc18
  have hs33 := g28.get hs20
  have hin34 := g28.nm hin21
  have hY35 : z_Y (z_St E27) := by rw [g28.st]; exact hY22
  have hfr36 : z_fr μ24 (o + 4) := hfr26.up (by omega)
  refine j_putRF F29 (pc := 25) (Or.inr ⟨_, rfl⟩) hin34 (fun _ _ _ h => by cases h; rfl) fl_X3_18 fp_X3_5 hs33 rfl (by decide +kernel) ?_
  obtain ⟨μ37, e38, h⟩ := z_st_some h
  rw [← e38]
  have hfr39 : z_fr μ37 (o + 4) := by rw [e38]; exact hfr36.sr (by omega) (by omega)
  refine j_aload_n F29 (pc := 28) (q := 0) (by decide +kernel) rfl ?_
  refine j_bipush F29 (pc := 29) (n := 14) (v := 14) (by decide +kernel) (by decide +kernel) ?_
  refine j_newaI F29 (pc := 31) (n := (o + 4)) (N := 14) hn32 (by omega) hfr39 ⟨(z_olr (by omega)), trivial⟩ ⟨(z_olr (by omega)), trivial⟩ (by decide +kernel) (by decide) (by decide) (by rw [hc31.1, hc31.2.2.1]; decide) (by rw [hc31.2.1, hc31.2.2.2]; decide) m_138 (by decide +kernel) (fun E40 g41 F42 => ?_)
  have hn45 : (z_sh E40.1).length = (o + 5) := g41.len hn32
  have Rt43 := g41.rn (by omega) Rt30
  have hc44 := g41.cn hc31
  have hs46 := g41.get hs33
  have hin47 := g41.nm hin34
  have hY48 : z_Y (z_St E40) := by rw [g41.st]; exact hY35
  have hfr49 : z_fr μ37 (o + 5) := hfr39.up (by omega)
  refine j_putRF F42 (pc := 33) (Or.inr ⟨_, rfl⟩) hin47 (fun _ _ _ h => by cases h; rfl) fl_X3_21 fp_X3_6 hs46 rfl (by decide +kernel) ?_
  obtain ⟨μ50, e51, h⟩ := z_st_some h
  rw [← e51]
  have hfr52 : z_fr μ50 (o + 5) := by rw [e51]; exact hfr49.sr (by omega) (by omega)
  refine j_aload_n F42 (pc := 36) (q := 0) (by decide +kernel) rfl ?_
  refine j_bipush F42 (pc := 37) (n := 14) (v := 14) (by decide +kernel) (by decide +kernel) ?_
  refine j_newaI F42 (pc := 39) (n := (o + 5)) (N := 14) hn45 (by omega) hfr52 ⟨(z_olr (by omega)), trivial⟩ ⟨(z_olr (by omega)), trivial⟩ (by decide +kernel) (by decide) (by decide) (by rw [hc44.1, hc44.2.2.1]; decide) (by rw [hc44.2.1, hc44.2.2.2]; decide) m_138 (by decide +kernel) (fun E53 g54 F55 => ?_)
  have hn58 : (z_sh E53.1).length = (o + 6) := g54.len hn45
  have Rt56 := g54.rn (by omega) Rt43
  have hc57 := g54.cn hc44
  have hs59 := g54.get hs46
  have hin60 := g54.nm hin47
  have hY61 : z_Y (z_St E53) := by rw [g54.st]; exact hY48
  have hfr62 : z_fr μ50 (o + 6) := hfr52.up (by omega)
  refine j_putRF F55 (pc := 41) (Or.inr ⟨_, rfl⟩) hin60 (fun _ _ _ h => by cases h; rfl) fl_X3_24 fp_X3_7 hs59 rfl (by decide +kernel) ?_
  obtain ⟨μ63, e64, h⟩ := z_st_some h
  rw [← e64]
  have hfr65 : z_fr μ63 (o + 6) := by rw [e64]; exact hfr62.sr (by omega) (by omega)
  refine j_aload_n F55 (pc := 44) (q := 0) (by decide +kernel) rfl ?_
  refine j_bipush F55 (pc := 45) (n := 14) (v := 14) (by decide +kernel) (by decide +kernel) ?_
  refine j_newaI F55 (pc := 47) (n := (o + 6)) (N := 14) hn58 (by omega) hfr65 ⟨(z_olr (by omega)), trivial⟩ ⟨(z_olr (by omega)), trivial⟩ (by decide +kernel) (by decide) (by decide) (by rw [hc57.1, hc57.2.2.1]; decide) (by rw [hc57.2.1, hc57.2.2.2]; decide) m_138 (by decide +kernel) (fun E66 g67 F68 => ?_)
  have hn71 : (z_sh E66.1).length = (o + 7) := g67.len hn58
  have Rt69 := g67.rn (by omega) Rt56
  have hc70 := g67.cn hc57
  have hs72 := g67.get hs59
  have hin73 := g67.nm hin60
  have hY74 : z_Y (z_St E66) := by rw [g67.st]; exact hY61
  have hfr75 : z_fr μ63 (o + 7) := hfr65.up (by omega)
  refine j_putRF F68 (pc := 49) (Or.inr ⟨_, rfl⟩) hin73 (fun _ _ _ h => by cases h; rfl) fl_X3_27 fp_X3_8 hs72 rfl (by decide +kernel) ?_
  obtain ⟨μ76, e77, h⟩ := z_st_some h
  rw [← e77]
  have hfr78 : z_fr μ76 (o + 7) := by rw [e77]; exact hfr75.sr (by omega) (by omega)
  refine j_aload_n F68 (pc := 52) (q := 0) (by decide +kernel) rfl ?_
  refine j_bipush F68 (pc := 53) (n := 14) (v := 14) (by decide +kernel) (by decide +kernel) ?_
  refine j_newaI F68 (pc := 55) (n := (o + 7)) (N := 14) hn71 (by omega) hfr78 ⟨(z_olr (by omega)), trivial⟩ ⟨(z_olr (by omega)), trivial⟩ (by decide +kernel) (by decide) (by decide) (by rw [hc70.1, hc70.2.2.1]; decide) (by rw [hc70.2.1, hc70.2.2.2]; decide) m_138 (by decide +kernel) (fun E79 g80 F81 => ?_)
  have hn84 : (z_sh E79.1).length = (o + 8) := g80.len hn71
  have Rt82 := g80.rn (by omega) Rt69
  have hc83 := g80.cn hc70
  have hs85 := g80.get hs72
  have hin86 := g80.nm hin73
  have hY87 : z_Y (z_St E79) := by rw [g80.st]; exact hY74
  have hfr88 : z_fr μ76 (o + 8) := hfr78.up (by omega)
  refine j_putRF F81 (pc := 57) (Or.inr ⟨_, rfl⟩) hin86 (fun _ _ _ h => by cases h; rfl) fl_X3_30 fp_X3_9 hs85 rfl (by decide +kernel) ?_
  obtain ⟨μ89, e90, h⟩ := z_st_some h
  rw [← e90]
  have hfr91 : z_fr μ89 (o + 8) := by rw [e90]; exact hfr88.sr (by omega) (by omega)
  refine j_aload_n F81 (pc := 60) (q := 0) (by decide +kernel) rfl ?_
  refine j_bipush F81 (pc := 61) (n := 14) (v := 14) (by decide +kernel) (by decide +kernel) ?_
  refine j_newaI F81 (pc := 63) (n := (o + 8)) (N := 14) hn84 (by omega) hfr91 ⟨(z_olr (by omega)), trivial⟩ ⟨(z_olr (by omega)), trivial⟩ (by decide +kernel) (by decide) (by decide) (by rw [hc83.1, hc83.2.2.1]; decide) (by rw [hc83.2.1, hc83.2.2.2]; decide) m_138 (by decide +kernel) (fun E92 g93 F94 => ?_)
  have hn97 : (z_sh E92.1).length = (o + 9) := g93.len hn84
  have Rt95 := g93.rn (by omega) Rt82
  have hc96 := g93.cn hc83
  have hs98 := g93.get hs85
  have hin99 := g93.nm hin86
  have hY100 : z_Y (z_St E92) := by rw [g93.st]; exact hY87
  have hfr101 : z_fr μ89 (o + 9) := hfr91.up (by omega)
  refine j_putRF F94 (pc := 65) (Or.inr ⟨_, rfl⟩) hin99 (fun _ _ _ h => by cases h; rfl) fl_X3_33 fp_X3_10 hs98 rfl (by decide +kernel) ?_
  obtain ⟨μ102, e103, h⟩ := z_st_some h
  rw [← e103]
  have hfr104 : z_fr μ102 (o + 9) := by rw [e103]; exact hfr101.sr (by omega) (by omega)
  refine j_aload_n F94 (pc := 68) (q := 0) (by decide +kernel) rfl ?_
  refine j_iconst F94 (pc := 69) (n := 5) (v := 5) (by decide +kernel) (by decide +kernel) ?_
  refine j_newaI F94 (pc := 70) (n := (o + 9)) (N := 5) hn97 (by omega) hfr104 ⟨(z_olr (by omega)), trivial⟩ ⟨(z_olr (by omega)), trivial⟩ (by decide +kernel) (by decide) (by decide) (by rw [hc96.1, hc96.2.2.1]; decide) (by rw [hc96.2.1, hc96.2.2.2]; decide) m_138 (by decide +kernel) (fun E105 g106 F107 => ?_)
  have hn110 : (z_sh E105.1).length = (o + 10) := g106.len hn97
  have Rt108 := g106.rn (by omega) Rt95
  have hc109 := g106.cn hc96
  have hs111 := g106.get hs98
  have hin112 := g106.nm hin99
  have hY113 : z_Y (z_St E105) := by rw [g106.st]; exact hY100
  have hfr114 : z_fr μ102 (o + 10) := hfr104.up (by omega)
  refine j_putRF F107 (pc := 72) (Or.inr ⟨_, rfl⟩) hin112 (fun _ _ _ h => by cases h; rfl) fl_X3_36 fp_X3_11 hs111 rfl (by decide +kernel) ?_
  obtain ⟨μ115, e116, h⟩ := z_st_some h
  rw [← e116]
  have hfr117 : z_fr μ115 (o + 10) := by rw [e116]; exact hfr114.sr (by omega) (by omega)
  refine j_aload_n F107 (pc := 75) (q := 0) (by decide +kernel) rfl ?_
  refine j_iconst F107 (pc := 76) (n := 3) (v := 3) (by decide +kernel) (by decide +kernel) ?_
  refine j_newaI F107 (pc := 77) (n := (o + 10)) (N := 3) hn110 (by omega) hfr117 ⟨(z_olr (by omega)), trivial⟩ ⟨(z_olr (by omega)), trivial⟩ (by decide +kernel) (by decide) (by decide) (by rw [hc109.1, hc109.2.2.1]; decide) (by rw [hc109.2.1, hc109.2.2.2]; decide) m_138 (by decide +kernel) (fun E118 g119 F120 => ?_)
  have hn123 : (z_sh E118.1).length = (o + 11) := g119.len hn110
  have Rt121 := g119.rn (by omega) Rt108
  have hc122 := g119.cn hc109
  have hs124 := g119.get hs111
  have hin125 := g119.nm hin112
  have hY126 : z_Y (z_St E118) := by rw [g119.st]; exact hY113
  have hfr127 : z_fr μ115 (o + 11) := hfr117.up (by omega)
  refine j_putRF F120 (pc := 79) (Or.inr ⟨_, rfl⟩) hin125 (fun _ _ _ h => by cases h; rfl) fl_X3_39 fp_X3_12 hs124 rfl (by decide +kernel) ?_
  obtain ⟨μ128, e129, h⟩ := z_st_some h
  rw [← e129]
  have hfr130 : z_fr μ128 (o + 11) := by rw [e129]; exact hfr127.sr (by omega) (by omega)
  have hsh : z_sh E118.1 = z_sh E.1 ++ [.inl (0, 6), .inl (0, 6), .inl (0, 14), .inl (0, 14), .inl (0, 14), .inl (0, 14), .inl (0, 14), .inl (0, 14), .inl (0, 5), .inl (0, 3)] := by
    rw [g119.sh, g106.sh, g93.sh, g80.sh, g67.sh, g54.sh, g41.sh, g28.sh, g15.sh, g2.sh]
    try simp only [List.append_assoc, List.cons_append, List.nil_append, z_rowS]
  cases h
  exact j_nret F120 Rt121 hc122 hsh (by decide +kernel)
set_option maxHeartbeats 4000000 in
set_option maxRecDepth 100000 in
theorem fr_X3_init {μ μr : z_M} {o : Nat} (h5 : (o + 11) < 500) (hfr : z_fr μ (o + 1)) (h : f_X3_init o μ = some μr) : z_fr μr (o + 11) := by
  unfold f_X3_init at h
  have hfr := hfr.up (show (o + 1) ≤ (o + 11) by omega)
  obtain ⟨m0, e0, h⟩ := z_st_some h
  have hfr : z_fr m0 (o + 11) := by rw [e0]; exact hfr.sr (by omega) (by omega)
  obtain ⟨m1, e1, h⟩ := z_st_some h
  have hfr : z_fr m1 (o + 11) := by rw [e1]; exact hfr.sr (by omega) (by omega)
  obtain ⟨m2, e2, h⟩ := z_st_some h
  have hfr : z_fr m2 (o + 11) := by rw [e2]; exact hfr.sr (by omega) (by omega)
  obtain ⟨m3, e3, h⟩ := z_st_some h
  have hfr : z_fr m3 (o + 11) := by rw [e3]; exact hfr.sr (by omega) (by omega)
  obtain ⟨m4, e4, h⟩ := z_st_some h
  have hfr : z_fr m4 (o + 11) := by rw [e4]; exact hfr.sr (by omega) (by omega)
  obtain ⟨m5, e5, h⟩ := z_st_some h
  have hfr : z_fr m5 (o + 11) := by rw [e5]; exact hfr.sr (by omega) (by omega)
  obtain ⟨m6, e6, h⟩ := z_st_some h
  have hfr : z_fr m6 (o + 11) := by rw [e6]; exact hfr.sr (by omega) (by omega)
  obtain ⟨m7, e7, h⟩ := z_st_some h
  have hfr : z_fr m7 (o + 11) := by rw [e7]; exact hfr.sr (by omega) (by omega)
  obtain ⟨m8, e8, h⟩ := z_st_some h
  have hfr : z_fr m8 (o + 11) := by rw [e8]; exact hfr.sr (by omega) (by omega)
  obtain ⟨m9, e9, h⟩ := z_st_some h
  have hfr : z_fr m9 (o + 11) := by rw [e9]; exact hfr.sr (by omega) (by omega)
  cases h
  exact hfr
def f_X1_init (μ : z_M) : Option z_M :=
  (z_st (z_sr μ 2 0 (some 3)) fun μ11 => (z_st (z_si μ11 2 2 (0 : Int32)) fun μ14 => (z_st (z_si μ14 2 3 (-1 : Int32)) fun μ17 => (some μ17))))
set_option maxHeartbeats 4000000 in
set_option maxRecDepth 100000 in
theorem t_X1_init {G : z_Gl} {μ μr : z_M} (hn : (z_sh G).length = 3) (h5 : 4 < 500) (hs : (z_sh G)[2]? = some (.inr (1, [2, 0, 0, 0, 0, 0, 0, 0, 0]))) (hfr : z_fr μ 3) (h : f_X1_init μ = some μr) : z_CN G yX1_init cX1_init 1 1 1 240 2 μ [.inl (0, 240)] μr := by
  refine z_introN (by decide +kernel) rfl (by decide) (fun E hE F Rt hc hin hY => ?_)
  subst hE
  have F : z_F E RX1 cX1_init 1 1 := F
  unfold f_X1_init at h
  show z_J E 1 0 [some (.ref 2)] [] μ
  refine j_aload_n F (pc := 0) (q := 0) (by decide +kernel) rfl ?_
  refine j_objI F (pc := 1) (idx := 3) ⟨m_106, m_97, m_98⟩ (by decide) (Nat.le_of_ble_eq_true rfl) (by decide +kernel) ?_
  refine j_aload_n F (pc := 4) (q := 0) (by decide +kernel) rfl ?_
  refine j_sipush F (pc := 5) (n := 240) (v := 240) (by decide +kernel) (by decide +kernel) ?_
  refine j_newaI F (pc := 8) (n := 3) (N := 240) hn (by omega) hfr ⟨(z_olr (by omega)), trivial⟩ ⟨(z_olr (by omega)), trivial⟩ (by decide +kernel) (by decide) (by decide) (by rw [hc.1, hc.2.2.1]; decide) (by rw [hc.2.1, hc.2.2.2]; decide) m_138 (by decide +kernel) (fun E1 g2 F3 => ?_)
  have hn6 : (z_sh E1.1).length = 4 := g2.len hn
  have Rt4 := g2.rn (by omega) Rt
  have hc5 := g2.cn hc
  have hs7 := g2.get hs
  have hin8 := g2.nm hin
  have hY9 : z_Y (z_St E1) := by rw [g2.st]; exact hY
  have hfr10 : z_fr μ 4 := hfr.up (by omega)
  refine j_putRF F3 (pc := 10) (Or.inr ⟨_, rfl⟩) hin8 (fun _ _ _ h => by cases h; rfl) fl_X1_9 fp_X1_0 hs7 rfl (by decide +kernel) ?_
  obtain ⟨μ11, e12, h⟩ := z_st_some h
  rw [← e12]
  have hfr13 : z_fr μ11 4 := by rw [e12]; exact hfr10.sr (by omega) (by omega)
  refine j_aload_n F3 (pc := 13) (q := 0) (by decide +kernel) rfl ?_
  refine j_iconst F3 (pc := 14) (n := 0) (v := 0) (by decide +kernel) (by decide +kernel) ?_
  refine j_putI F3 (pc := 15) fl_X1_15 fp_X1_2 hs7 rfl (by decide +kernel) ?_
  obtain ⟨μ14, e15, h⟩ := z_st_some h
  rw [← e15]
  have hfr16 : z_fr μ14 4 := by rw [e15]; exact hfr13.si (by omega)
  refine j_aload_n F3 (pc := 18) (q := 0) (by decide +kernel) rfl ?_
  refine j_iconst F3 (pc := 19) (n := -1) (v := -1) (by decide +kernel) (by decide +kernel) ?_
  refine j_putI F3 (pc := 20) fl_X1_19 fp_X1_3 hs7 rfl (by decide +kernel) ?_
  obtain ⟨μ17, e18, h⟩ := z_st_some h
  rw [← e18]
  have hfr19 : z_fr μ17 4 := by rw [e18]; exact hfr16.si (by omega)
  have hsh : z_sh E1.1 = z_sh E.1 ++ [.inl (0, 240)] := by
    rw [g2.sh]
    try simp only [List.append_assoc, List.cons_append, List.nil_append, z_rowS]
  cases h
  exact j_nret F3 Rt4 hc5 hsh (by decide +kernel)
set_option maxHeartbeats 4000000 in
set_option maxRecDepth 100000 in
theorem fr_X1_init {μ μr : z_M} (h5 : 4 < 500) (hfr : z_fr μ 3) (h : f_X1_init μ = some μr) : z_fr μr 4 := by
  unfold f_X1_init at h
  have hfr := hfr.up (show 3 ≤ 4 by omega)
  obtain ⟨m0, e0, h⟩ := z_st_some h
  have hfr : z_fr m0 4 := by rw [e0]; exact hfr.sr (by omega) (by omega)
  obtain ⟨m1, e1, h⟩ := z_st_some h
  have hfr : z_fr m1 4 := by rw [e1]; exact hfr.si (by omega)
  obtain ⟨m2, e2, h⟩ := z_st_some h
  have hfr : z_fr m2 4 := by rw [e2]; exact hfr.si (by omega)
  cases h
  exact hfr
def f_X2_init (μ : z_M) : Option z_M :=
  (z_st (z_sr μ 28 0 (some 29)) fun μ11 => (z_st (z_sr μ11 28 3 (some 30)) fun μ24 => (z_st (z_sr μ24 28 4 (some 31)) fun μ37 => (z_st (z_sr μ37 28 5 (some 32)) fun μ50 => (z_st (z_sr μ50 28 6 (some 33)) fun μ63 => (z_st (z_sr μ63 28 7 (some 34)) fun μ76 => (z_st (z_sr μ76 28 8 (some 35)) fun μ89 => (z_st (z_sr μ89 28 9 (some 36)) fun μ102 => (z_st (z_sr μ102 28 10 (some 37)) fun μ115 => (z_st (z_sr μ115 28 11 (some 38)) fun μ128 => (z_st (z_rows μ128 39) fun μ143 => (z_st (z_sr μ143 28 12 (some 39)) fun μ146 => (z_st (z_sr μ146 28 13 (some 46)) fun μ159 => (z_st (z_sr μ159 28 14 (some 47)) fun μ172 => (z_st (z_sr μ172 28 15 (some 48)) fun μ185 => (some μ185))))))))))))))))
set_option maxHeartbeats 4000000 in
set_option maxRecDepth 100000 in
theorem t_X2_init {G : z_Gl} {μ μr : z_M} (hn : (z_sh G).length = 29) (h5 : 49 < 500) (hs : (z_sh G)[28]? = some (.inr (2, [2, 0, 0, 2, 2, 2, 2, 2, 2, 2, 2, 2, 2, 2, 2, 2]))) (hfr : z_fr μ 29) (h : f_X2_init μ = some μr) : z_CN G yX2_init cX2_init 1 1 20 206 28 μ [.inl (0, 14), .inl (0, 14), .inl (0, 14), .inl (0, 14), .inl (0, 14), .inl (0, 14), .inl (0, 5), .inl (0, 5), .inl (0, 5), .inl (0, 5), .inl (4, 6), .inl (0, 14), .inl (0, 14), .inl (0, 14), .inl (0, 14), .inl (0, 14), .inl (0, 14), .inl (0, 6), .inl (0, 3), .inl (0, 3)] μr := by
  refine z_introN (by decide +kernel) rfl (by decide) (fun E hE F Rt hc hin hY => ?_)
  subst hE
  have F : z_F E RX2 cX2_init 1 1 := F
  unfold f_X2_init at h
  show z_J E 1 0 [some (.ref 28)] [] μ
  refine j_aload_n F (pc := 0) (q := 0) (by decide +kernel) rfl ?_
  refine j_objI F (pc := 1) (idx := 3) ⟨m_209, m_97, m_98⟩ (by decide) (Nat.le_of_ble_eq_true rfl) (by decide +kernel) ?_
  refine j_aload_n F (pc := 4) (q := 0) (by decide +kernel) rfl ?_
  refine j_bipush F (pc := 5) (n := 14) (v := 14) (by decide +kernel) (by decide +kernel) ?_
  refine j_newaI F (pc := 7) (n := 29) (N := 14) hn (by omega) hfr ⟨(z_olr (by omega)), trivial⟩ ⟨(z_olr (by omega)), trivial⟩ (by decide +kernel) (by decide) (by decide) (by rw [hc.1, hc.2.2.1]; decide) (by rw [hc.2.1, hc.2.2.2]; decide) m_138 (by decide +kernel) (fun E1 g2 F3 => ?_)
  have hn6 : (z_sh E1.1).length = 30 := g2.len hn
  have Rt4 := g2.rn (by omega) Rt
  have hc5 := g2.cn hc
  have hs7 := g2.get hs
  have hin8 := g2.nm hin
  have hY9 : z_Y (z_St E1) := by rw [g2.st]; exact hY
  have hfr10 : z_fr μ 30 := hfr.up (by omega)
  refine j_putRF F3 (pc := 9) (Or.inr ⟨_, rfl⟩) hin8 (fun _ _ _ h => by cases h; rfl) fl_X2_9 fp_X2_0 hs7 rfl (by decide +kernel) ?_
  obtain ⟨μ11, e12, h⟩ := z_st_some h
  rw [← e12]
  have hfr13 : z_fr μ11 30 := by rw [e12]; exact hfr10.sr (by omega) (by omega)
  refine j_aload_n F3 (pc := 12) (q := 0) (by decide +kernel) rfl ?_
  refine j_bipush F3 (pc := 13) (n := 14) (v := 14) (by decide +kernel) (by decide +kernel) ?_
  refine j_newaI F3 (pc := 15) (n := 30) (N := 14) hn6 (by omega) hfr13 ⟨(z_olr (by omega)), trivial⟩ ⟨(z_olr (by omega)), trivial⟩ (by decide +kernel) (by decide) (by decide) (by rw [hc5.1, hc5.2.2.1]; decide) (by rw [hc5.2.1, hc5.2.2.2]; decide) m_138 (by decide +kernel) (fun E14 g15 F16 => ?_)
  have hn19 : (z_sh E14.1).length = 31 := g15.len hn6
  have Rt17 := g15.rn (by omega) Rt4
  have hc18 := g15.cn hc5
  have hs20 := g15.get hs7
  have hin21 := g15.nm hin8
  have hY22 : z_Y (z_St E14) := by rw [g15.st]; exact hY9
  have hfr23 : z_fr μ11 31 := hfr13.up (by omega)
  refine j_putRF F16 (pc := 17) (Or.inr ⟨_, rfl⟩) hin21 (fun _ _ _ h => by cases h; rfl) fl_X2_15 fp_X2_3 hs20 rfl (by decide +kernel) ?_
  obtain ⟨μ24, e25, h⟩ := z_st_some h
  rw [← e25]
  have hfr26 : z_fr μ24 31 := by rw [e25]; exact hfr23.sr (by omega) (by omega)
  refine j_aload_n F16 (pc := 20) (q := 0) (by decide +kernel) rfl ?_
  refine j_bipush F16 (pc := 21) (n := 14) (v := 14) (by decide +kernel) (by decide +kernel) ?_
  refine j_newaI F16 (pc := 23) (n := 31) (N := 14) hn19 (by omega) hfr26 ⟨(z_olr (by omega)), trivial⟩ ⟨(z_olr (by omega)), trivial⟩ (by decide +kernel) (by decide) (by decide) (by rw [hc18.1, hc18.2.2.1]; decide) (by rw [hc18.2.1, hc18.2.2.2]; decide) m_138 (by decide +kernel) (fun E27 g28 F29 => ?_)
  have hn32 : (z_sh E27.1).length = 32 := g28.len hn19
  have Rt30 := g28.rn (by omega) Rt17
  have hc31 := g28.cn hc18
  have hs33 := g28.get hs20
  have hin34 := g28.nm hin21
  have hY35 : z_Y (z_St E27) := by rw [g28.st]; exact hY22
  have hfr36 : z_fr μ24 32 := hfr26.up (by omega)
  refine j_putRF F29 (pc := 25) (Or.inr ⟨_, rfl⟩) hin34 (fun _ _ _ h => by cases h; rfl) fl_X2_18 fp_X2_4 hs33 rfl (by decide +kernel) ?_
  obtain ⟨μ37, e38, h⟩ := z_st_some h
  rw [← e38]
  have hfr39 : z_fr μ37 32 := by rw [e38]; exact hfr36.sr (by omega) (by omega)
  refine j_aload_n F29 (pc := 28) (q := 0) (by decide +kernel) rfl ?_
  refine j_bipush F29 (pc := 29) (n := 14) (v := 14) (by decide +kernel) (by decide +kernel) ?_
  refine j_newaI F29 (pc := 31) (n := 32) (N := 14) hn32 (by omega) hfr39 ⟨(z_olr (by omega)), trivial⟩ ⟨(z_olr (by omega)), trivial⟩ (by decide +kernel) (by decide) (by decide) (by rw [hc31.1, hc31.2.2.1]; decide) (by rw [hc31.2.1, hc31.2.2.2]; decide) m_138 (by decide +kernel) (fun E40 g41 F42 => ?_)
  have hn45 : (z_sh E40.1).length = 33 := g41.len hn32
  have Rt43 := g41.rn (by omega) Rt30
  have hc44 := g41.cn hc31
  have hs46 := g41.get hs33
  have hin47 := g41.nm hin34
  have hY48 : z_Y (z_St E40) := by rw [g41.st]; exact hY35
  have hfr49 : z_fr μ37 33 := hfr39.up (by omega)
  refine j_putRF F42 (pc := 33) (Or.inr ⟨_, rfl⟩) hin47 (fun _ _ _ h => by cases h; rfl) fl_X2_21 fp_X2_5 hs46 rfl (by decide +kernel) ?_
  obtain ⟨μ50, e51, h⟩ := z_st_some h
  rw [← e51]
  have hfr52 : z_fr μ50 33 := by rw [e51]; exact hfr49.sr (by omega) (by omega)
  refine j_aload_n F42 (pc := 36) (q := 0) (by decide +kernel) rfl ?_
  refine j_bipush F42 (pc := 37) (n := 14) (v := 14) (by decide +kernel) (by decide +kernel) ?_
  refine j_newaI F42 (pc := 39) (n := 33) (N := 14) hn45 (by omega) hfr52 ⟨(z_olr (by omega)), trivial⟩ ⟨(z_olr (by omega)), trivial⟩ (by decide +kernel) (by decide) (by decide) (by rw [hc44.1, hc44.2.2.1]; decide) (by rw [hc44.2.1, hc44.2.2.2]; decide) m_138 (by decide +kernel) (fun E53 g54 F55 => ?_)
  have hn58 : (z_sh E53.1).length = 34 := g54.len hn45
  have Rt56 := g54.rn (by omega) Rt43
  have hc57 := g54.cn hc44
  have hs59 := g54.get hs46
  have hin60 := g54.nm hin47
  have hY61 : z_Y (z_St E53) := by rw [g54.st]; exact hY48
  have hfr62 : z_fr μ50 34 := hfr52.up (by omega)
  refine j_putRF F55 (pc := 41) (Or.inr ⟨_, rfl⟩) hin60 (fun _ _ _ h => by cases h; rfl) fl_X2_24 fp_X2_6 hs59 rfl (by decide +kernel) ?_
  obtain ⟨μ63, e64, h⟩ := z_st_some h
  rw [← e64]
  have hfr65 : z_fr μ63 34 := by rw [e64]; exact hfr62.sr (by omega) (by omega)
  refine j_aload_n F55 (pc := 44) (q := 0) (by decide +kernel) rfl ?_
  refine j_bipush F55 (pc := 45) (n := 14) (v := 14) (by decide +kernel) (by decide +kernel) ?_
  refine j_newaI F55 (pc := 47) (n := 34) (N := 14) hn58 (by omega) hfr65 ⟨(z_olr (by omega)), trivial⟩ ⟨(z_olr (by omega)), trivial⟩ (by decide +kernel) (by decide) (by decide) (by rw [hc57.1, hc57.2.2.1]; decide) (by rw [hc57.2.1, hc57.2.2.2]; decide) m_138 (by decide +kernel) (fun E66 g67 F68 => ?_)
  have hn71 : (z_sh E66.1).length = 35 := g67.len hn58
  have Rt69 := g67.rn (by omega) Rt56
  have hc70 := g67.cn hc57
  have hs72 := g67.get hs59
  have hin73 := g67.nm hin60
  have hY74 : z_Y (z_St E66) := by rw [g67.st]; exact hY61
  have hfr75 : z_fr μ63 35 := hfr65.up (by omega)
  refine j_putRF F68 (pc := 49) (Or.inr ⟨_, rfl⟩) hin73 (fun _ _ _ h => by cases h; rfl) fl_X2_27 fp_X2_7 hs72 rfl (by decide +kernel) ?_
  obtain ⟨μ76, e77, h⟩ := z_st_some h
  rw [← e77]
  have hfr78 : z_fr μ76 35 := by rw [e77]; exact hfr75.sr (by omega) (by omega)
  refine j_aload_n F68 (pc := 52) (q := 0) (by decide +kernel) rfl ?_
  refine j_iconst F68 (pc := 53) (n := 5) (v := 5) (by decide +kernel) (by decide +kernel) ?_
  refine j_newaI F68 (pc := 54) (n := 35) (N := 5) hn71 (by omega) hfr78 ⟨(z_olr (by omega)), trivial⟩ ⟨(z_olr (by omega)), trivial⟩ (by decide +kernel) (by decide) (by decide) (by rw [hc70.1, hc70.2.2.1]; decide) (by rw [hc70.2.1, hc70.2.2.2]; decide) m_138 (by decide +kernel) (fun E79 g80 F81 => ?_)
  have hn84 : (z_sh E79.1).length = 36 := g80.len hn71
  have Rt82 := g80.rn (by omega) Rt69
  have hc83 := g80.cn hc70
  have hs85 := g80.get hs72
  have hin86 := g80.nm hin73
  have hY87 : z_Y (z_St E79) := by rw [g80.st]; exact hY74
  have hfr88 : z_fr μ76 36 := hfr78.up (by omega)
  refine j_putRF F81 (pc := 56) (Or.inr ⟨_, rfl⟩) hin86 (fun _ _ _ h => by cases h; rfl) fl_X2_30 fp_X2_8 hs85 rfl (by decide +kernel) ?_
  obtain ⟨μ89, e90, h⟩ := z_st_some h
  rw [← e90]
  have hfr91 : z_fr μ89 36 := by rw [e90]; exact hfr88.sr (by omega) (by omega)
  refine j_aload_n F81 (pc := 59) (q := 0) (by decide +kernel) rfl ?_
  refine j_iconst F81 (pc := 60) (n := 5) (v := 5) (by decide +kernel) (by decide +kernel) ?_
  refine j_newaI F81 (pc := 61) (n := 36) (N := 5) hn84 (by omega) hfr91 ⟨(z_olr (by omega)), trivial⟩ ⟨(z_olr (by omega)), trivial⟩ (by decide +kernel) (by decide) (by decide) (by rw [hc83.1, hc83.2.2.1]; decide) (by rw [hc83.2.1, hc83.2.2.2]; decide) m_138 (by decide +kernel) (fun E92 g93 F94 => ?_)
  have hn97 : (z_sh E92.1).length = 37 := g93.len hn84
  have Rt95 := g93.rn (by omega) Rt82
  have hc96 := g93.cn hc83
  have hs98 := g93.get hs85
  have hin99 := g93.nm hin86
  have hY100 : z_Y (z_St E92) := by rw [g93.st]; exact hY87
  have hfr101 : z_fr μ89 37 := hfr91.up (by omega)
  refine j_putRF F94 (pc := 63) (Or.inr ⟨_, rfl⟩) hin99 (fun _ _ _ h => by cases h; rfl) fl_X2_33 fp_X2_9 hs98 rfl (by decide +kernel) ?_
  obtain ⟨μ102, e103, h⟩ := z_st_some h
  rw [← e103]
  have hfr104 : z_fr μ102 37 := by rw [e103]; exact hfr101.sr (by omega) (by omega)
  refine j_aload_n F94 (pc := 66) (q := 0) (by decide +kernel) rfl ?_
  refine j_iconst F94 (pc := 67) (n := 5) (v := 5) (by decide +kernel) (by decide +kernel) ?_
  refine j_newaI F94 (pc := 68) (n := 37) (N := 5) hn97 (by omega) hfr104 ⟨(z_olr (by omega)), trivial⟩ ⟨(z_olr (by omega)), trivial⟩ (by decide +kernel) (by decide) (by decide) (by rw [hc96.1, hc96.2.2.1]; decide) (by rw [hc96.2.1, hc96.2.2.2]; decide) m_138 (by decide +kernel) (fun E105 g106 F107 => ?_)
  have hn110 : (z_sh E105.1).length = 38 := g106.len hn97
  have Rt108 := g106.rn (by omega) Rt95
  have hc109 := g106.cn hc96
  have hs111 := g106.get hs98
  have hin112 := g106.nm hin99
  have hY113 : z_Y (z_St E105) := by rw [g106.st]; exact hY100
  have hfr114 : z_fr μ102 38 := hfr104.up (by omega)
  refine j_putRF F107 (pc := 70) (Or.inr ⟨_, rfl⟩) hin112 (fun _ _ _ h => by cases h; rfl) fl_X2_36 fp_X2_10 hs111 rfl (by decide +kernel) ?_
  obtain ⟨μ115, e116, h⟩ := z_st_some h
  rw [← e116]
  have hfr117 : z_fr μ115 38 := by rw [e116]; exact hfr114.sr (by omega) (by omega)
  refine j_aload_n F107 (pc := 73) (q := 0) (by decide +kernel) rfl ?_
  refine j_iconst F107 (pc := 74) (n := 5) (v := 5) (by decide +kernel) (by decide +kernel) ?_
  refine j_newaI F107 (pc := 75) (n := 38) (N := 5) hn110 (by omega) hfr117 ⟨(z_olr (by omega)), trivial⟩ ⟨(z_olr (by omega)), trivial⟩ (by decide +kernel) (by decide) (by decide) (by rw [hc109.1, hc109.2.2.1]; decide) (by rw [hc109.2.1, hc109.2.2.2]; decide) m_138 (by decide +kernel) (fun E118 g119 F120 => ?_)
  have hn123 : (z_sh E118.1).length = 39 := g119.len hn110
  have Rt121 := g119.rn (by omega) Rt108
  have hc122 := g119.cn hc109
  have hs124 := g119.get hs111
  have hin125 := g119.nm hin112
  have hY126 : z_Y (z_St E118) := by rw [g119.st]; exact hY113
  have hfr127 : z_fr μ115 39 := hfr117.up (by omega)
  refine j_putRF F120 (pc := 77) (Or.inr ⟨_, rfl⟩) hin125 (fun _ _ _ h => by cases h; rfl) fl_X2_39 fp_X2_11 hs124 rfl (by decide +kernel) ?_
  obtain ⟨μ128, e129, h⟩ := z_st_some h
  rw [← e129]
  have hfr130 : z_fr μ128 39 := by rw [e129]; exact hfr127.sr (by omega) (by omega)
  refine j_aload_n F120 (pc := 80) (q := 0) (by decide +kernel) rfl ?_
  refine j_bipush F120 (pc := 81) (n := 6) (v := 6) (by decide +kernel) (by decide +kernel) ?_
  refine j_bipush F120 (pc := 83) (n := 14) (v := 14) (by decide +kernel) (by decide +kernel) ?_
  refine j_mna F120 (pc := 85) (n := 39) (idx := 42) hY126.2.2 m_210 m_138 hn123 (by omega) hfr130 ⟨(z_olr (by omega)), trivial⟩ ⟨(z_olr (by omega)), trivial⟩ (by rw [hc122.1, hc122.2.2.1]; decide) (by rw [hc122.2.1, hc122.2.2.2]; decide) (by decide +kernel) (fun E131 g132 F133 => ?_)
  have hn139 : (z_sh E131.1).length = 46 := g132.len hn123
  have Rt137 := g132.rn (by omega) Rt121
  have hc138 := g132.cn hc122
  have hs140 := g132.get hs124
  have hin141 := g132.nm hin125
  have hY142 : z_Y (z_St E131) := by rw [g132.st]; exact hY126
  obtain ⟨μ143, e144, h⟩ := z_st_some h
  rw [← e144]
  have hfr145 : z_fr μ143 46 := by rw [e144]; exact hfr130.rows
  refine j_putRF F133 (pc := 89) (Or.inr ⟨_, rfl⟩) hin141 (fun _ _ _ h => by cases h; rfl) fl_X2_44 fp_X2_12 hs140 rfl (by decide +kernel) ?_
  obtain ⟨μ146, e147, h⟩ := z_st_some h
  rw [← e147]
  have hfr148 : z_fr μ146 46 := by rw [e147]; exact hfr145.sr (by omega) (by omega)
  refine j_aload_n F133 (pc := 92) (q := 0) (by decide +kernel) rfl ?_
  refine j_bipush F133 (pc := 93) (n := 6) (v := 6) (by decide +kernel) (by decide +kernel) ?_
  refine j_newaI F133 (pc := 95) (n := 46) (N := 6) hn139 (by omega) hfr148 ⟨(z_olr (by omega)), trivial⟩ ⟨(z_olr (by omega)), trivial⟩ (by decide +kernel) (by decide) (by decide) (by rw [hc138.1, hc138.2.2.1]; decide) (by rw [hc138.2.1, hc138.2.2.2]; decide) m_138 (by decide +kernel) (fun E149 g150 F151 => ?_)
  have hn154 : (z_sh E149.1).length = 47 := g150.len hn139
  have Rt152 := g150.rn (by omega) Rt137
  have hc153 := g150.cn hc138
  have hs155 := g150.get hs140
  have hin156 := g150.nm hin141
  have hY157 : z_Y (z_St E149) := by rw [g150.st]; exact hY142
  have hfr158 : z_fr μ146 47 := hfr148.up (by omega)
  refine j_putRF F151 (pc := 97) (Or.inr ⟨_, rfl⟩) hin156 (fun _ _ _ h => by cases h; rfl) fl_X2_47 fp_X2_13 hs155 rfl (by decide +kernel) ?_
  obtain ⟨μ159, e160, h⟩ := z_st_some h
  rw [← e160]
  have hfr161 : z_fr μ159 47 := by rw [e160]; exact hfr158.sr (by omega) (by omega)
  refine j_aload_n F151 (pc := 100) (q := 0) (by decide +kernel) rfl ?_
  refine j_iconst F151 (pc := 101) (n := 3) (v := 3) (by decide +kernel) (by decide +kernel) ?_
  refine j_newaI F151 (pc := 102) (n := 47) (N := 3) hn154 (by omega) hfr161 ⟨(z_olr (by omega)), trivial⟩ ⟨(z_olr (by omega)), trivial⟩ (by decide +kernel) (by decide) (by decide) (by rw [hc153.1, hc153.2.2.1]; decide) (by rw [hc153.2.1, hc153.2.2.2]; decide) m_138 (by decide +kernel) (fun E162 g163 F164 => ?_)
  have hn167 : (z_sh E162.1).length = 48 := g163.len hn154
  have Rt165 := g163.rn (by omega) Rt152
  have hc166 := g163.cn hc153
  have hs168 := g163.get hs155
  have hin169 := g163.nm hin156
  have hY170 : z_Y (z_St E162) := by rw [g163.st]; exact hY157
  have hfr171 : z_fr μ159 48 := hfr161.up (by omega)
  refine j_putRF F164 (pc := 104) (Or.inr ⟨_, rfl⟩) hin169 (fun _ _ _ h => by cases h; rfl) fl_X2_50 fp_X2_14 hs168 rfl (by decide +kernel) ?_
  obtain ⟨μ172, e173, h⟩ := z_st_some h
  rw [← e173]
  have hfr174 : z_fr μ172 48 := by rw [e173]; exact hfr171.sr (by omega) (by omega)
  refine j_aload_n F164 (pc := 107) (q := 0) (by decide +kernel) rfl ?_
  refine j_iconst F164 (pc := 108) (n := 3) (v := 3) (by decide +kernel) (by decide +kernel) ?_
  refine j_newaI F164 (pc := 109) (n := 48) (N := 3) hn167 (by omega) hfr174 ⟨(z_olr (by omega)), trivial⟩ ⟨(z_olr (by omega)), trivial⟩ (by decide +kernel) (by decide) (by decide) (by rw [hc166.1, hc166.2.2.1]; decide) (by rw [hc166.2.1, hc166.2.2.2]; decide) m_138 (by decide +kernel) (fun E175 g176 F177 => ?_)
  have hn180 : (z_sh E175.1).length = 49 := g176.len hn167
  have Rt178 := g176.rn (by omega) Rt165
  have hc179 := g176.cn hc166
  have hs181 := g176.get hs168
  have hin182 := g176.nm hin169
  have hY183 : z_Y (z_St E175) := by rw [g176.st]; exact hY170
  have hfr184 : z_fr μ172 49 := hfr174.up (by omega)
  refine j_putRF F177 (pc := 111) (Or.inr ⟨_, rfl⟩) hin182 (fun _ _ _ h => by cases h; rfl) fl_X2_53 fp_X2_15 hs181 rfl (by decide +kernel) ?_
  obtain ⟨μ185, e186, h⟩ := z_st_some h
  rw [← e186]
  have hfr187 : z_fr μ185 49 := by rw [e186]; exact hfr184.sr (by omega) (by omega)
  have hsh : z_sh E175.1 = z_sh E.1 ++ [.inl (0, 14), .inl (0, 14), .inl (0, 14), .inl (0, 14), .inl (0, 14), .inl (0, 14), .inl (0, 5), .inl (0, 5), .inl (0, 5), .inl (0, 5), .inl (4, 6), .inl (0, 14), .inl (0, 14), .inl (0, 14), .inl (0, 14), .inl (0, 14), .inl (0, 14), .inl (0, 6), .inl (0, 3), .inl (0, 3)] := by
    rw [g176.sh, g163.sh, g150.sh, g132.sh, g119.sh, g106.sh, g93.sh, g80.sh, g67.sh, g54.sh, g41.sh, g28.sh, g15.sh, g2.sh]
    try simp only [List.append_assoc, List.cons_append, List.nil_append, z_rowS]
  cases h
  exact j_nret F177 Rt178 hc179 hsh (by decide +kernel)
set_option maxHeartbeats 4000000 in
set_option maxRecDepth 100000 in
theorem fr_X2_init {μ μr : z_M} (h5 : 49 < 500) (hfr : z_fr μ 29) (h : f_X2_init μ = some μr) : z_fr μr 49 := by
  unfold f_X2_init at h
  obtain ⟨m0, e0, h⟩ := z_st_some h
  have hfr : z_fr m0 30 := by rw [e0]; exact (hfr.up (show _ ≤ 30 by omega)).sr (by omega) (by omega)
  obtain ⟨m1, e1, h⟩ := z_st_some h
  have hfr : z_fr m1 31 := by rw [e1]; exact (hfr.up (show _ ≤ 31 by omega)).sr (by omega) (by omega)
  obtain ⟨m2, e2, h⟩ := z_st_some h
  have hfr : z_fr m2 32 := by rw [e2]; exact (hfr.up (show _ ≤ 32 by omega)).sr (by omega) (by omega)
  obtain ⟨m3, e3, h⟩ := z_st_some h
  have hfr : z_fr m3 33 := by rw [e3]; exact (hfr.up (show _ ≤ 33 by omega)).sr (by omega) (by omega)
  obtain ⟨m4, e4, h⟩ := z_st_some h
  have hfr : z_fr m4 34 := by rw [e4]; exact (hfr.up (show _ ≤ 34 by omega)).sr (by omega) (by omega)
  obtain ⟨m5, e5, h⟩ := z_st_some h
  have hfr : z_fr m5 35 := by rw [e5]; exact (hfr.up (show _ ≤ 35 by omega)).sr (by omega) (by omega)
  obtain ⟨m6, e6, h⟩ := z_st_some h
  have hfr : z_fr m6 36 := by rw [e6]; exact (hfr.up (show _ ≤ 36 by omega)).sr (by omega) (by omega)
  obtain ⟨m7, e7, h⟩ := z_st_some h
  have hfr : z_fr m7 37 := by rw [e7]; exact (hfr.up (show _ ≤ 37 by omega)).sr (by omega) (by omega)
  obtain ⟨m8, e8, h⟩ := z_st_some h
  have hfr : z_fr m8 38 := by rw [e8]; exact (hfr.up (show _ ≤ 38 by omega)).sr (by omega) (by omega)
  obtain ⟨m9, e9, h⟩ := z_st_some h
  have hfr : z_fr m9 39 := by rw [e9]; exact (hfr.up (show _ ≤ 39 by omega)).sr (by omega) (by omega)
  obtain ⟨m10, e10, h⟩ := z_st_some h
  have hfr : z_fr m10 46 := by rw [e10]; exact (hfr.up (show _ ≤ 39 by omega)).rows
  obtain ⟨m11, e11, h⟩ := z_st_some h
  have hfr : z_fr m11 46 := by rw [e11]; exact (hfr.up (show _ ≤ 46 by omega)).sr (by omega) (by omega)
  obtain ⟨m12, e12, h⟩ := z_st_some h
  have hfr : z_fr m12 47 := by rw [e12]; exact (hfr.up (show _ ≤ 47 by omega)).sr (by omega) (by omega)
  obtain ⟨m13, e13, h⟩ := z_st_some h
  have hfr : z_fr m13 48 := by rw [e13]; exact (hfr.up (show _ ≤ 48 by omega)).sr (by omega) (by omega)
  obtain ⟨m14, e14, h⟩ := z_st_some h
  have hfr : z_fr m14 49 := by rw [e14]; exact (hfr.up (show _ ≤ 49 by omega)).sr (by omega) (by omega)
  cases h
  exact hfr
def f_X0_init (o : Nat) (μ : z_M) : Option z_M :=
  (z_st (z_sr μ o 0 (some (o + 1))) fun μ11 => (z_st (z_sr μ11 o 1 (some (o + 2))) fun μ24 => (z_st (z_sr μ24 o 2 (some (o + 3))) fun μ37 => (z_st (z_sr μ37 o 3 (some (o + 4))) fun μ50 => (z_b1 (f_X0_tellNothing o  μ50) fun μ53 => (some μ53))))))
set_option maxHeartbeats 4000000 in
set_option maxRecDepth 100000 in
theorem t_X0_init {G : z_Gl} {μ μr : z_M} {o : Nat} (hn : (z_sh G).length = (o + 1)) (h5 : (o + 5) < 500) (hs : (z_sh G)[o]? = some (.inr (0, [2, 2, 2, 2, 0, 0, 0, 0, 0, 0, 0, 0, 0]))) (hfr : z_fr μ (o + 1)) (h : f_X0_init o μ = some μr) : z_CN G yX0_init cX0_init 1 1 4 32 o μ [.inl (0, 8), .inl (0, 8), .inl (0, 8), .inl (0, 8)] μr := by
  refine z_introN (by decide +kernel) rfl (by decide) (fun E hE F Rt hc hin hY => ?_)
  subst hE
  have F : z_F E RX0 cX0_init 1 1 := F
  unfold f_X0_init at h
  show z_J E 1 0 [some (.ref o)] [] μ
  refine j_aload_n F (pc := 0) (q := 0) (by decide +kernel) rfl ?_
  refine j_objI F (pc := 1) (idx := 3) ⟨m_270, m_97, m_98⟩ (by decide) (Nat.le_of_ble_eq_true rfl) (by decide +kernel) ?_
  refine j_aload_n F (pc := 4) (q := 0) (by decide +kernel) rfl ?_
  refine j_bipush F (pc := 5) (n := 8) (v := 8) (by decide +kernel) (by decide +kernel) ?_
  refine j_newaI F (pc := 7) (n := (o + 1)) (N := 8) hn (by omega) hfr ⟨(z_olr (by omega)), trivial⟩ ⟨(z_olr (by omega)), trivial⟩ (by decide +kernel) (by decide) (by decide) (by rw [hc.1, hc.2.2.1]; decide) (by rw [hc.2.1, hc.2.2.2]; decide) m_138 (by decide +kernel) (fun E1 g2 F3 => ?_)
  have hn6 : (z_sh E1.1).length = (o + 2) := g2.len hn
  have Rt4 := g2.rn (by omega) Rt
  have hc5 := g2.cn hc
  have hs7 := g2.get hs
  have hin8 := g2.nm hin
  have hY9 : z_Y (z_St E1) := by rw [g2.st]; exact hY
  have hfr10 : z_fr μ (o + 2) := hfr.up (by omega)
  refine j_putRF F3 (pc := 9) (Or.inr ⟨_, rfl⟩) hin8 (fun _ _ _ h => by cases h; rfl) fl_X0_9 fp_X0_0 hs7 rfl (by decide +kernel) ?_
  obtain ⟨μ11, e12, h⟩ := z_st_some h
  rw [← e12]
  have hfr13 : z_fr μ11 (o + 2) := by rw [e12]; exact hfr10.sr (by omega) (by omega)
  refine j_aload_n F3 (pc := 12) (q := 0) (by decide +kernel) rfl ?_
  refine j_bipush F3 (pc := 13) (n := 8) (v := 8) (by decide +kernel) (by decide +kernel) ?_
  refine j_newaI F3 (pc := 15) (n := (o + 2)) (N := 8) hn6 (by omega) hfr13 ⟨(z_olr (by omega)), trivial⟩ ⟨(z_olr (by omega)), trivial⟩ (by decide +kernel) (by decide) (by decide) (by rw [hc5.1, hc5.2.2.1]; decide) (by rw [hc5.2.1, hc5.2.2.2]; decide) m_138 (by decide +kernel) (fun E14 g15 F16 => ?_)
  have hn19 : (z_sh E14.1).length = (o + 3) := g15.len hn6
  have Rt17 := g15.rn (by omega) Rt4
  have hc18 := g15.cn hc5
  have hs20 := g15.get hs7
  have hin21 := g15.nm hin8
  have hY22 : z_Y (z_St E14) := by rw [g15.st]; exact hY9
  have hfr23 : z_fr μ11 (o + 3) := hfr13.up (by omega)
  refine j_putRF F16 (pc := 17) (Or.inr ⟨_, rfl⟩) hin21 (fun _ _ _ h => by cases h; rfl) fl_X0_15 fp_X0_1 hs20 rfl (by decide +kernel) ?_
  obtain ⟨μ24, e25, h⟩ := z_st_some h
  rw [← e25]
  have hfr26 : z_fr μ24 (o + 3) := by rw [e25]; exact hfr23.sr (by omega) (by omega)
  refine j_aload_n F16 (pc := 20) (q := 0) (by decide +kernel) rfl ?_
  refine j_bipush F16 (pc := 21) (n := 8) (v := 8) (by decide +kernel) (by decide +kernel) ?_
  refine j_newaI F16 (pc := 23) (n := (o + 3)) (N := 8) hn19 (by omega) hfr26 ⟨(z_olr (by omega)), trivial⟩ ⟨(z_olr (by omega)), trivial⟩ (by decide +kernel) (by decide) (by decide) (by rw [hc18.1, hc18.2.2.1]; decide) (by rw [hc18.2.1, hc18.2.2.2]; decide) m_138 (by decide +kernel) (fun E27 g28 F29 => ?_)
  have hn32 : (z_sh E27.1).length = (o + 4) := g28.len hn19
  have Rt30 := g28.rn (by omega) Rt17
  have hc31 := g28.cn hc18
  have hs33 := g28.get hs20
  have hin34 := g28.nm hin21
  have hY35 : z_Y (z_St E27) := by rw [g28.st]; exact hY22
  have hfr36 : z_fr μ24 (o + 4) := hfr26.up (by omega)
  refine j_putRF F29 (pc := 25) (Or.inr ⟨_, rfl⟩) hin34 (fun _ _ _ h => by cases h; rfl) fl_X0_18 fp_X0_2 hs33 rfl (by decide +kernel) ?_
  obtain ⟨μ37, e38, h⟩ := z_st_some h
  rw [← e38]
  have hfr39 : z_fr μ37 (o + 4) := by rw [e38]; exact hfr36.sr (by omega) (by omega)
  refine j_aload_n F29 (pc := 28) (q := 0) (by decide +kernel) rfl ?_
  refine j_bipush F29 (pc := 29) (n := 8) (v := 8) (by decide +kernel) (by decide +kernel) ?_
  refine j_newaI F29 (pc := 31) (n := (o + 4)) (N := 8) hn32 (by omega) hfr39 ⟨(z_olr (by omega)), trivial⟩ ⟨(z_olr (by omega)), trivial⟩ (by decide +kernel) (by decide) (by decide) (by rw [hc31.1, hc31.2.2.1]; decide) (by rw [hc31.2.1, hc31.2.2.2]; decide) m_138 (by decide +kernel) (fun E40 g41 F42 => ?_)
  have hn45 : (z_sh E40.1).length = (o + 5) := g41.len hn32
  have Rt43 := g41.rn (by omega) Rt30
  have hc44 := g41.cn hc31
  have hs46 := g41.get hs33
  have hin47 := g41.nm hin34
  have hY48 : z_Y (z_St E40) := by rw [g41.st]; exact hY35
  have hfr49 : z_fr μ37 (o + 5) := hfr39.up (by omega)
  refine j_putRF F42 (pc := 33) (Or.inr ⟨_, rfl⟩) hin47 (fun _ _ _ h => by cases h; rfl) fl_X0_21 fp_X0_3 hs46 rfl (by decide +kernel) ?_
  obtain ⟨μ50, e51, h⟩ := z_st_some h
  rw [← e51]
  have hfr52 : z_fr μ50 (o + 5) := by rw [e51]; exact hfr49.sr (by omega) (by omega)
  refine j_aload_n F42 (pc := 36) (q := 0) (by decide +kernel) rfl ?_
  obtain ⟨μ53, hx54, h⟩ := z_b1_some h
  have hshB : z_sh E40.1 = z_sh E.1 ++ [.inl (0, 8), .inl (0, 8), .inl (0, 8), .inl (0, 8)] := by
    rw [g41.sh, g28.sh, g15.sh, g2.sh]
    simp only [List.append_assoc, List.cons_append, List.nil_append]
  have hB : z_blk z_lawS z_lawR (z_sh E40.1) μ50.2.2 o := by
    refine ⟨fun j x hj => ?_, fun k r hk => ?_⟩
    · match j, hj with
      | 0, hj => cases hj; exact hs46
      | j + 1, hj =>
        have hj2 : j < 4 := by have := (List.getElem?_eq_some_iff.mp hj).1; simp [z_lawS] at this; omega
        rw [hshB, List.getElem?_append_right (by rw [hn]; omega), hn, show o + (j + 1) - (o + 1) = j by omega]
        have hx : z_lawS[j + 1]? = some x := hj
        rw [← hx]
        match j, hj2 with
        | 0, _ => rfl
        | 1, _ => rfl
        | 2, _ => rfl
        | 3, _ => rfl
    · match k, hk with
      | 0, hk => cases hk; simp only [e51, e38, e25, e12]; simp [z_sr, va_up]
      | 1, hk => cases hk; simp only [e51, e38, e25, e12]; simp [z_sr, va_up]
      | 2, hk => cases hk; simp only [e51, e38, e25, e12]; simp [z_sr, va_up]
      | 3, hk => cases hk; simp only [e51, e38, e25, e12]; simp [z_sr, va_up]
      | k + 4, hk =>
        exfalso
        match k, hk with
        | 0, hk => cases hk
        | 1, hk => cases hk
        | 2, hk => cases hk
        | 3, hk => cases hk
        | 4, hk => cases hk
        | 5, hk => cases hk
        | 6, hk => cases hk
        | 7, hk => cases hk
        | 8, hk => cases hk
        | k + 9, hk => simp [z_lawR] at hk
  refine j_callVv F42 (pc := 37) (idx := 24) (As := []) (st := []) (t_X0_tellNothing (G := E40.1) rfl hB hx54) q_X0_tellNothing v_X0_tellNothing m_271 hs46 rfl rfl (by decide) (Nat.le_of_ble_eq_true rfl) rfl (by decide +kernel) (fun ν56 hq55 hp => ?_)
  subst hp
  have hsh : z_sh E40.1 = z_sh E.1 ++ [.inl (0, 8), .inl (0, 8), .inl (0, 8), .inl (0, 8)] := by
    rw [g41.sh, g28.sh, g15.sh, g2.sh]
    try simp only [List.append_assoc, List.cons_append, List.nil_append, z_rowS]
  cases h
  exact j_nret F42 Rt43 hc44 hsh (by decide +kernel)
