/-! LastLent(): written by wip/whole/ctor.py -/
theorem m_96 : Cond.methodLink RX4 1 objectInit ∈ z_T := z_T_in 96 (by decide +kernel) (by decide +kernel)
theorem m_99 : Cond.classLink RX4 9 "LastLent$Law" ∈ z_T := z_T_in 99 (by decide +kernel) (by decide +kernel)
theorem m_101 : Cond.classLink RX4 15 RX1 ∈ z_T := z_T_in 101 (by decide +kernel) (by decide +kernel)
theorem m_102 : Cond.instantiable RX1 9 ∈ z_T := z_T_in 102 (by decide +kernel) (by decide +kernel)
theorem m_104 : Cond.instanceMethod yX1_init ∈ z_T := z_T_in 104 (by decide +kernel) (by decide +kernel)
theorem m_105 : Cond.code yX1_init cX1_init 1 none ∈ z_T := z_T_in 105 (by decide +kernel) (by decide +kernel)
theorem m_139 : Cond.classLink RX4 22 "LastLent$Ship" ∈ z_T := z_T_in 139 (by decide +kernel) (by decide +kernel)
theorem m_140 : Cond.instantiable RX3 13 ∈ z_T := z_T_in 140 (by decide +kernel) (by decide +kernel)
theorem m_142 : Cond.instanceMethod yX3_init ∈ z_T := z_T_in 142 (by decide +kernel) (by decide +kernel)
theorem m_143 : Cond.code yX3_init cX3_init 1 none ∈ z_T := z_T_in 143 (by decide +kernel) (by decide +kernel)
theorem m_204 : Cond.classLink RX4 40 RX2 ∈ z_T := z_T_in 204 (by decide +kernel) (by decide +kernel)
theorem m_205 : Cond.instantiable RX2 16 ∈ z_T := z_T_in 205 (by decide +kernel) (by decide +kernel)
theorem m_207 : Cond.instanceMethod yX2_init ∈ z_T := z_T_in 207 (by decide +kernel) (by decide +kernel)
theorem m_208 : Cond.code yX2_init cX2_init 1 none ∈ z_T := z_T_in 208 (by decide +kernel) (by decide +kernel)
theorem m_265 : Cond.arrayClass .boolean ∈ z_T := z_T_in 265 (by decide +kernel) (by decide +kernel)
theorem m_266 : Cond.instantiable RX0 13 ∈ z_T := z_T_in 266 (by decide +kernel) (by decide +kernel)
theorem m_267 : Cond.methodLink RX4 54 yX0_init ∈ z_T := z_T_in 267 (by decide +kernel) (by decide +kernel)
theorem m_268 : Cond.instanceMethod yX0_init ∈ z_T := z_T_in 268 (by decide +kernel) (by decide +kernel)
theorem m_269 : Cond.code yX0_init cX0_init 1 none ∈ z_T := z_T_in 269 (by decide +kernel) (by decide +kernel)
theorem fp_X4_0 : z_fp 4 0 true (.array (.object "LastLent$Law")) := ⟨RX4, TX4, 10, tyX4, rfl, by decide +kernel, rfl, by decide +kernel, tyX4_ok, nmX4⟩
theorem fp_X4_1 : z_fp 4 1 true (.object "LastLent$LawText") := ⟨RX4, TX4, 10, tyX4, rfl, by decide +kernel, rfl, by decide +kernel, tyX4_ok, nmX4⟩
theorem fp_X4_2 : z_fp 4 2 true (.object "LastLent$Ship") := ⟨RX4, TX4, 10, tyX4, rfl, by decide +kernel, rfl, by decide +kernel, tyX4_ok, nmX4⟩
theorem fp_X4_3 : z_fp 4 3 true (.object "LastLent$Ship") := ⟨RX4, TX4, 10, tyX4, rfl, by decide +kernel, rfl, by decide +kernel, tyX4_ok, nmX4⟩
theorem fp_X4_4 : z_fp 4 4 true (.array (.object "LastLent$Ship")) := ⟨RX4, TX4, 10, tyX4, rfl, by decide +kernel, rfl, by decide +kernel, tyX4_ok, nmX4⟩
theorem fp_X4_5 : z_fp 4 5 true (.array .boolean) := ⟨RX4, TX4, 10, tyX4, rfl, by decide +kernel, rfl, by decide +kernel, tyX4_ok, nmX4⟩
theorem fp_X4_6 : z_fp 4 6 true (.object "LastLent$PayOut") := ⟨RX4, TX4, 10, tyX4, rfl, by decide +kernel, rfl, by decide +kernel, tyX4_ok, nmX4⟩
theorem fp_X4_7 : z_fp 4 7 true (.array .int) := ⟨RX4, TX4, 10, tyX4, rfl, by decide +kernel, rfl, by decide +kernel, tyX4_ok, nmX4⟩
theorem fp_X4_8 : z_fp 4 8 true (.array .int) := ⟨RX4, TX4, 10, tyX4, rfl, by decide +kernel, rfl, by decide +kernel, tyX4_ok, nmX4⟩
theorem q_X1_init : z_Yc yX1_init cX1_init 1 none 0 := ⟨m_105, m_79, ⟨by decide +kernel, by decide +kernel, by decide +kernel⟩, by decide⟩
theorem q_X3_init : z_Yc yX3_init cX3_init 1 none 0 := ⟨m_143, m_80, ⟨by decide +kernel, by decide +kernel, by decide +kernel⟩, by decide⟩
theorem q_X2_init : z_Yc yX2_init cX2_init 1 none 0 := ⟨m_208, m_81, ⟨by decide +kernel, by decide +kernel, by decide +kernel⟩, by decide⟩
theorem q_X0_init : z_Yc yX0_init cX0_init 1 none 0 := ⟨m_269, m_82, ⟨by decide +kernel, by decide +kernel, by decide +kernel⟩, by decide⟩
theorem tn_frame (o : Nat) : ∀ (n : Nat) (x : Int32) (μ μr : z_M), g_X0_tellNothing_2 o n x μ = some μr → (∀ i : Nat, i < o ∨ o + 5 ≤ i → μr.1 i = μ.1 i) ∧ μr.2 = μ.2 := by
  intro n
  induction n with
  | zero =>
    intro x μ μr h
    rw [g_X0_tellNothing_2] at h
    cases h
  | succ n ih =>
    intro x μ μr h
    rw [g_X0_tellNothing_2] at h
    simp only [z_st] at h
    split at h
    · cases h
      refine ⟨fun i hi => ?_, rfl⟩
      have : i ≠ o := by omega
      simp [z_si, this]
    · obtain ⟨-, h⟩ := z_ifs h
      obtain ⟨-, h⟩ := z_ifs h
      obtain ⟨-, h⟩ := z_ifs h
      obtain ⟨-, h⟩ := z_ifs h
      obtain ⟨h1, h2⟩ := ih _ _ _ h
      refine ⟨fun i hi => ?_, h2⟩
      rw [h1 i hi]
      have a1 : i ≠ o + 1 := by omega
      have a2 : i ≠ o + 2 := by omega
      have a3 : i ≠ o + 3 := by omega
      have a4 : i ≠ o + 4 := by omega
      simp [z_si, a1, a2, a3, a4]
theorem tn_eff {o : Nat} {μ μr : z_M} (h : f_X0_tellNothing o μ = some μr) : (∀ i : Nat, i < o ∨ o + 5 ≤ i → μr.1 i = μ.1 i) ∧ μr.2 = μ.2 := tn_frame o _ _ _ _ h
theorem fr_X0_init {μ μr : z_M} {o : Nat} (h5 : (o + 5) < 500) (hfr : z_fr μ (o + 1)) (h : f_X0_init o μ = some μr) : z_fr μr (o + 5) := by
  unfold f_X0_init at h
  have hfr := hfr.up (show o + 1 ≤ o + 5 by omega)
  obtain ⟨m0, e0, h⟩ := z_st_some h
  have hfr : z_fr m0 (o + 5) := by rw [e0]; exact hfr.sr (by omega) (by omega)
  obtain ⟨m1, e1, h⟩ := z_st_some h
  have hfr : z_fr m1 (o + 5) := by rw [e1]; exact hfr.sr (by omega) (by omega)
  obtain ⟨m2, e2, h⟩ := z_st_some h
  have hfr : z_fr m2 (o + 5) := by rw [e2]; exact hfr.sr (by omega) (by omega)
  obtain ⟨m3, e3, h⟩ := z_st_some h
  have hfr : z_fr m3 (o + 5) := by rw [e3]; exact hfr.sr (by omega) (by omega)
  obtain ⟨m4, e4, h⟩ := z_b1_some h
  cases h
  obtain ⟨g1, g2⟩ := tn_eff e4
  refine ⟨fun i hi k => ?_, fun i k r hr => hfr.2 i k r (by rw [← g2]; exact hr)⟩
  rw [g1 i (Or.inr hi), g2]
  exact hfr.1 i hi k
set_option maxHeartbeats 4000000 in
set_option maxRecDepth 100000 in
theorem ff_X0_init {μ μr : z_M} {o : Nat} (h : f_X0_init o μ = some μr) : ∀ i : Nat, i ≠ o → μr.2.2 i = μ.2.2 i := by
  intro i hi
  unfold f_X0_init at h
  simp only [z_st] at h
  obtain ⟨m4, e4, h⟩ := z_b1_some h
  cases h
  rw [(tn_eff e4).2]
  simp [z_sr, hi]
set_option maxHeartbeats 4000000 in
set_option maxRecDepth 100000 in
theorem ff_X1_init {μ μr : z_M} (h : f_X1_init μ = some μr) : ∀ i : Nat, i ≠ 2 → μr.2.2 i = μ.2.2 i := by
  intro i hi
  unfold f_X1_init at h
  simp only [z_st] at h
  cases h
  simp [z_sr, z_si, z_rows, hi]
set_option maxHeartbeats 4000000 in
set_option maxRecDepth 100000 in
theorem ff_X2_init {μ μr : z_M} (h : f_X2_init μ = some μr) : ∀ i : Nat, i ≠ 28 ∧ i ≠ 39 → μr.2.2 i = μ.2.2 i := by
  intro i hi
  obtain ⟨hi, hi2⟩ := hi
  unfold f_X2_init at h
  simp only [z_st] at h
  cases h
  simp [z_sr, z_si, z_rows, hi, hi2]
set_option maxHeartbeats 4000000 in
set_option maxRecDepth 100000 in
theorem ff_X3_init {μ μr : z_M} {o : Nat} (h : f_X3_init o μ = some μr) : ∀ i : Nat, i ≠ o → μr.2.2 i = μ.2.2 i := by
  intro i hi
  unfold f_X3_init at h
  simp only [z_st] at h
  cases h
  simp [z_sr, z_si, z_rows, hi]
def f_X4_init (μ : z_M) : Option z_M :=
  (z_st (z_sr μ 0 0 (some 1)) fun μ12 => (z_b1 (f_X1_init μ12) fun μ28 => (z_st (z_sr μ28 0 1 (some 2)) fun μ43 => (z_b1 (f_X3_init (4) μ43) fun μ60 => (z_st (z_sr μ60 0 2 (some 4)) fun μ76 => (z_b1 (f_X3_init (15) μ76) fun μ94 => (z_st (z_sr μ94 0 3 (some 15)) fun μ111 => (z_st (z_sr μ111 0 4 (some 26)) fun μ130 => (z_st (z_sr μ130 0 5 (some 27)) fun μ150 => (z_b1 (f_X2_init μ150) fun μ171 => (z_st (z_sr μ171 0 6 (some 28)) fun μ191 => (z_st (z_sr μ191 0 7 (some 49)) fun μ212 => (z_st (z_sr μ212 0 8 (some 50)) fun μ233 => (z_b1 (f_X0_init (51) μ233) fun μ255 => (z_st (z_sr μ255 0 9 (some 51)) fun μ276 => (z_b1 (f_X0_init (56) μ276) fun μ299 => (z_st (z_sr μ299 1 0 (some 56)) fun μ321 => (z_b1 (f_X0_init (61) μ321) fun μ345 => (z_st (z_sr μ345 1 1 (some 61)) fun μ368 => (z_b1 (f_X0_init (66) μ368) fun μ393 => (z_st (z_sr μ393 1 2 (some 66)) fun μ417 => (z_b1 (f_X0_init (71) μ417) fun μ443 => (z_st (z_sr μ443 1 3 (some 71)) fun μ468 => (z_b1 (f_X3_init (76) μ468) fun μ495 => (z_st (z_sr μ495 26 0 (some 76)) fun μ521 => (z_b1 (f_X3_init (87) μ521) fun μ549 => (z_st (z_sr μ549 26 1 (some 87)) fun μ576 => (some μ576))))))))))))))))))))))))))))
set_option maxHeartbeats 4000000 in
set_option maxRecDepth 100000 in
theorem t_X4_init {G : z_Gl} {μ μr : z_M} (hn : (z_sh G).length = 1) (h5 : 98 < 500) (hs : (z_sh G)[0]? = some (.inr (4, [2, 2, 2, 2, 2, 2, 2, 2, 2, 2]))) (hfr : z_fr μ 1) (h : f_X4_init μ = some μr) : z_CN G yX4_init cX4_init 2 2 97 1192 0 μ [.inl (2, 4), .inr (1, [2, 0, 0, 0, 0, 0, 0, 0, 0]), .inl (0, 240), .inr (3, [0, 0, 0, 2, 2, 2, 2, 2, 2, 2, 2, 2, 2]), .inl (0, 6), .inl (0, 6), .inl (0, 14), .inl (0, 14), .inl (0, 14), .inl (0, 14), .inl (0, 14), .inl (0, 14), .inl (0, 5), .inl (0, 3), .inr (3, [0, 0, 0, 2, 2, 2, 2, 2, 2, 2, 2, 2, 2]), .inl (0, 6), .inl (0, 6), .inl (0, 14), .inl (0, 14), .inl (0, 14), .inl (0, 14), .inl (0, 14), .inl (0, 14), .inl (0, 5), .inl (0, 3), .inl (3, 2), .inl (1, 2), .inr (2, [2, 0, 0, 2, 2, 2, 2, 2, 2, 2, 2, 2, 2, 2, 2, 2]), .inl (0, 14), .inl (0, 14), .inl (0, 14), .inl (0, 14), .inl (0, 14), .inl (0, 14), .inl (0, 5), .inl (0, 5), .inl (0, 5), .inl (0, 5), .inl (4, 6), .inl (0, 14), .inl (0, 14), .inl (0, 14), .inl (0, 14), .inl (0, 14), .inl (0, 14), .inl (0, 6), .inl (0, 3), .inl (0, 3), .inl (0, 14), .inl (0, 6), .inr (0, [2, 2, 2, 2, 0, 0, 0, 0, 0, 0, 0, 0, 0]), .inl (0, 8), .inl (0, 8), .inl (0, 8), .inl (0, 8), .inr (0, [2, 2, 2, 2, 0, 0, 0, 0, 0, 0, 0, 0, 0]), .inl (0, 8), .inl (0, 8), .inl (0, 8), .inl (0, 8), .inr (0, [2, 2, 2, 2, 0, 0, 0, 0, 0, 0, 0, 0, 0]), .inl (0, 8), .inl (0, 8), .inl (0, 8), .inl (0, 8), .inr (0, [2, 2, 2, 2, 0, 0, 0, 0, 0, 0, 0, 0, 0]), .inl (0, 8), .inl (0, 8), .inl (0, 8), .inl (0, 8), .inr (0, [2, 2, 2, 2, 0, 0, 0, 0, 0, 0, 0, 0, 0]), .inl (0, 8), .inl (0, 8), .inl (0, 8), .inl (0, 8), .inr (3, [0, 0, 0, 2, 2, 2, 2, 2, 2, 2, 2, 2, 2]), .inl (0, 6), .inl (0, 6), .inl (0, 14), .inl (0, 14), .inl (0, 14), .inl (0, 14), .inl (0, 14), .inl (0, 14), .inl (0, 5), .inl (0, 3), .inr (3, [0, 0, 0, 2, 2, 2, 2, 2, 2, 2, 2, 2, 2]), .inl (0, 6), .inl (0, 6), .inl (0, 14), .inl (0, 14), .inl (0, 14), .inl (0, 14), .inl (0, 14), .inl (0, 14), .inl (0, 5), .inl (0, 3)] μr := by
  refine z_introN (by decide +kernel) rfl (by decide) (fun E hE F Rt hc hin hY => ?_)
  subst hE
  have F : z_F E RX4 cX4_init 2 2 := F
  unfold f_X4_init at h
  show z_J E 2 0 [some (.ref 0), none] [] μ
  refine j_aload_n F (pc := 0) (q := 0) (by decide +kernel) rfl ?_
  refine j_objI F (pc := 1) (idx := 1) ⟨m_96, m_97, m_98⟩ (by decide) (Nat.le_of_ble_eq_true rfl) (by decide +kernel) ?_
  refine j_aload_n F (pc := 4) (q := 0) (by decide +kernel) rfl ?_
  refine j_iconst F (pc := 5) (n := 4) (v := 4) (by decide +kernel) (by decide +kernel) ?_
  refine j_newq F (pc := 6) (n := 1) (N := 4) (idx := 9) (t := 2) (C := "LastLent$Law") (Or.inl ⟨rfl, rfl⟩) hY.1 m_99 hn (by omega) hfr ⟨(z_olr (by omega)), trivial⟩ ⟨(z_olr (by omega)), trivial⟩ (by decide +kernel) (by decide) (by decide) (by rw [hc.1, hc.2.2.1]; decide) (by rw [hc.2.1, hc.2.2.2]; decide) (by decide +kernel) (fun E1 g2 F3 => ?_)
  have hn6 : (z_sh E1.1).length = 2 := g2.len hn
  have Rt4 := g2.rn (by omega) Rt
  have hc5 := g2.cn hc
  have hs7 := g2.get hs
  have hin8 := g2.nm hin
  have hY9 : z_Y (z_St E1) := by rw [g2.st]; exact hY
  have hfr10 : z_fr μ 2 := hfr.up (by omega)
  have ho11 : (z_sh E1.1)[1]? = some (.inl (2, 4)) := by rw [g2.sh, List.getElem?_append_right (by rw [hn]; omega), hn]; rfl
  refine j_putRF F3 (pc := 9) (Or.inr ⟨_, rfl⟩) hin8 (fun _ _ _ h => by cases h; rfl) fl_X4_11 fp_X4_0 hs7 rfl (by decide +kernel) ?_
  obtain ⟨μ12, e13, h⟩ := z_st_some h
  rw [← e13]
  have hfr14 : z_fr μ12 2 := by rw [e13]; exact hfr10.sr (by omega) (by omega)
  have hkr15 : μ12.2.2 0 0 = some 1 := by rw [e13]; simp [z_sr, va_up]
  refine j_aload_n F3 (pc := 12) (q := 0) (by decide +kernel) rfl ?_
  refine j_new F3 (pc := 13) (n := 2) (N := 9) (ci := 1) (idx := 15) (ks0 := [2, 0, 0, 0, 0, 0, 0, 0, 0]) tyX1 rfl iX1 tyX1_ok m_101 m_102 m_79 (by decide +kernel) hn6 (by omega) hfr14 ⟨(z_olr (by omega)), trivial⟩ ⟨(z_olr (by omega)), trivial⟩ (by rw [hc5.1, hc5.2.2.1]; decide) (by rw [hc5.2.1, hc5.2.2.2]; decide) (by decide +kernel) (fun E16 g17 F18 => ?_)
  have hn21 : (z_sh E16.1).length = 3 := g17.len hn6
  have Rt19 := g17.rn (by omega) Rt4
  have hc20 := g17.cn hc5
  have hs22 := g17.get hs7
  have hin23 := g17.nm hin8
  have hY24 : z_Y (z_St E16) := by rw [g17.st]; exact hY9
  have ho25 := g17.get ho11
  have hfr26 : z_fr μ12 3 := hfr14.up (by omega)
  have ho27 : (z_sh E16.1)[2]? = some (.inr (1, [2, 0, 0, 0, 0, 0, 0, 0, 0])) := by rw [g17.sh, List.getElem?_append_right (by rw [hn6]; omega), hn6]; rfl
  refine j_dup F18 (pc := 16) (by decide +kernel) rfl ?_
  obtain ⟨μ28, hx29, h⟩ := z_b1_some h
  refine j_init F18 (pc := 17) (idx := 17) (n := 3) (t_X1_init (G := E16.1) hn21 (by omega) ho27 hfr26 hx29) q_X1_init m_104 rfl (Or.inr (by decide +kernel)) hY24 hn21 ⟨(z_olr (by omega)), trivial⟩ ⟨(z_olr (by omega)), ⟨(z_olr (by omega)), trivial⟩⟩ (by decide) (Nat.le_of_ble_eq_true rfl) (by rw [hc20.1, hc20.2.2.1]; decide) (by rw [hc20.2.1, hc20.2.2.2]; decide) (by decide +kernel) (fun E30 g31 F32 => ?_)
  have hn36 : (z_sh E30.1).length = 4 := g31.len hn21
  have Rt34 := g31.rn (by omega) Rt19
  have hc35 := g31.cn hc20
  have hs37 := g31.get hs22
  have hin38 := g31.nm hin23
  have hY39 : z_Y (z_St E30) := by rw [g31.st]; exact hY24
  have ho40 := g31.get ho25
  have ho41 := g31.get ho27
  have hfr33 : z_fr μ28 4 := fr_X1_init (by omega) hfr26 hx29
  have hkr42 : μ28.2.2 0 0 = some 1 := by rw [ff_X1_init hx29 0 (by decide)]; exact hkr15
  refine j_putRF F32 (pc := 20) (Or.inl ⟨_, rfl⟩) hin38 (fun _ _ _ h => by cases h; rfl) fl_X4_18 fp_X4_1 hs37 rfl (by decide +kernel) ?_
  obtain ⟨μ43, e44, h⟩ := z_st_some h
  rw [← e44]
  have hfr45 : z_fr μ43 4 := by rw [e44]; exact hfr33.sr (by omega) (by omega)
  have hkr46 : μ43.2.2 0 0 = some 1 := by rw [e44]; simpa [z_sr, z_si, va_up, z_rows] using hkr42
  refine j_aload_n F32 (pc := 23) (q := 0) (by decide +kernel) rfl ?_
  refine j_new F32 (pc := 24) (n := 4) (N := 13) (ci := 3) (idx := 22) (ks0 := [0, 0, 0, 2, 2, 2, 2, 2, 2, 2, 2, 2, 2]) tyX3 rfl iX3 tyX3_ok m_139 m_140 m_80 (by decide +kernel) hn36 (by omega) hfr45 ⟨(z_olr (by omega)), trivial⟩ ⟨(z_olr (by omega)), trivial⟩ (by rw [hc35.1, hc35.2.2.1]; decide) (by rw [hc35.2.1, hc35.2.2.2]; decide) (by decide +kernel) (fun E47 g48 F49 => ?_)
  have hn52 : (z_sh E47.1).length = 5 := g48.len hn36
  have Rt50 := g48.rn (by omega) Rt34
  have hc51 := g48.cn hc35
  have hs53 := g48.get hs37
  have hin54 := g48.nm hin38
  have hY55 : z_Y (z_St E47) := by rw [g48.st]; exact hY39
  have ho56 := g48.get ho40
  have ho57 := g48.get ho41
  have hfr58 : z_fr μ43 5 := hfr45.up (by omega)
  have ho59 : (z_sh E47.1)[4]? = some (.inr (3, [0, 0, 0, 2, 2, 2, 2, 2, 2, 2, 2, 2, 2])) := by rw [g48.sh, List.getElem?_append_right (by rw [hn36]; omega), hn36]; rfl
  refine j_dup F49 (pc := 27) (by decide +kernel) rfl ?_
  obtain ⟨μ60, hx61, h⟩ := z_b1_some h
  refine j_init F49 (pc := 28) (idx := 24) (n := 5) (t_X3_init (G := E47.1) (o := 4) hn52 (by omega) ho59 hfr58 hx61) q_X3_init m_142 rfl (Or.inr (by decide +kernel)) hY55 hn52 ⟨(z_olr (by omega)), trivial⟩ ⟨(z_olr (by omega)), ⟨(z_olr (by omega)), trivial⟩⟩ (by decide) (Nat.le_of_ble_eq_true rfl) (by rw [hc51.1, hc51.2.2.1]; decide) (by rw [hc51.2.1, hc51.2.2.2]; decide) (by decide +kernel) (fun E62 g63 F64 => ?_)
  have hn68 : (z_sh E62.1).length = 15 := g63.len hn52
  have Rt66 := g63.rn (by omega) Rt50
  have hc67 := g63.cn hc51
  have hs69 := g63.get hs53
  have hin70 := g63.nm hin54
  have hY71 : z_Y (z_St E62) := by rw [g63.st]; exact hY55
  have ho72 := g63.get ho56
  have ho73 := g63.get ho57
  have ho74 := g63.get ho59
  have hfr65 : z_fr μ60 15 := fr_X3_init (by omega) hfr58 hx61
  have hkr75 : μ60.2.2 0 0 = some 1 := by rw [ff_X3_init hx61 0 (by decide)]; exact hkr46
  refine j_putRF F64 (pc := 31) (Or.inl ⟨_, rfl⟩) hin70 (fun _ _ _ h => by cases h; rfl) fl_X4_25 fp_X4_2 hs69 rfl (by decide +kernel) ?_
  obtain ⟨μ76, e77, h⟩ := z_st_some h
  rw [← e77]
  have hfr78 : z_fr μ76 15 := by rw [e77]; exact hfr65.sr (by omega) (by omega)
  have hkr79 : μ76.2.2 0 0 = some 1 := by rw [e77]; simpa [z_sr, z_si, va_up, z_rows] using hkr75
  refine j_aload_n F64 (pc := 34) (q := 0) (by decide +kernel) rfl ?_
  refine j_new F64 (pc := 35) (n := 15) (N := 13) (ci := 3) (idx := 22) (ks0 := [0, 0, 0, 2, 2, 2, 2, 2, 2, 2, 2, 2, 2]) tyX3 rfl iX3 tyX3_ok m_139 m_140 m_80 (by decide +kernel) hn68 (by omega) hfr78 ⟨(z_olr (by omega)), trivial⟩ ⟨(z_olr (by omega)), trivial⟩ (by rw [hc67.1, hc67.2.2.1]; decide) (by rw [hc67.2.1, hc67.2.2.2]; decide) (by decide +kernel) (fun E80 g81 F82 => ?_)
  have hn85 : (z_sh E80.1).length = 16 := g81.len hn68
  have Rt83 := g81.rn (by omega) Rt66
  have hc84 := g81.cn hc67
  have hs86 := g81.get hs69
  have hin87 := g81.nm hin70
  have hY88 : z_Y (z_St E80) := by rw [g81.st]; exact hY71
  have ho89 := g81.get ho72
  have ho90 := g81.get ho73
  have ho91 := g81.get ho74
  have hfr92 : z_fr μ76 16 := hfr78.up (by omega)
  have ho93 : (z_sh E80.1)[15]? = some (.inr (3, [0, 0, 0, 2, 2, 2, 2, 2, 2, 2, 2, 2, 2])) := by rw [g81.sh, List.getElem?_append_right (by rw [hn68]; omega), hn68]; rfl
  refine j_dup F82 (pc := 38) (by decide +kernel) rfl ?_
  obtain ⟨μ94, hx95, h⟩ := z_b1_some h
  refine j_init F82 (pc := 39) (idx := 24) (n := 16) (t_X3_init (G := E80.1) (o := 15) hn85 (by omega) ho93 hfr92 hx95) q_X3_init m_142 rfl (Or.inr (by decide +kernel)) hY88 hn85 ⟨(z_olr (by omega)), trivial⟩ ⟨(z_olr (by omega)), ⟨(z_olr (by omega)), trivial⟩⟩ (by decide) (Nat.le_of_ble_eq_true rfl) (by rw [hc84.1, hc84.2.2.1]; decide) (by rw [hc84.2.1, hc84.2.2.2]; decide) (by decide +kernel) (fun E96 g97 F98 => ?_)
  have hn102 : (z_sh E96.1).length = 26 := g97.len hn85
  have Rt100 := g97.rn (by omega) Rt83
  have hc101 := g97.cn hc84
  have hs103 := g97.get hs86
  have hin104 := g97.nm hin87
  have hY105 : z_Y (z_St E96) := by rw [g97.st]; exact hY88
  have ho106 := g97.get ho89
  have ho107 := g97.get ho90
  have ho108 := g97.get ho91
  have ho109 := g97.get ho93
  have hfr99 : z_fr μ94 26 := fr_X3_init (by omega) hfr92 hx95
  have hkr110 : μ94.2.2 0 0 = some 1 := by rw [ff_X3_init hx95 0 (by decide)]; exact hkr79
  refine j_putRF F98 (pc := 42) (Or.inl ⟨_, rfl⟩) hin104 (fun _ _ _ h => by cases h; rfl) fl_X4_29 fp_X4_3 hs103 rfl (by decide +kernel) ?_
  obtain ⟨μ111, e112, h⟩ := z_st_some h
  rw [← e112]
  have hfr113 : z_fr μ111 26 := by rw [e112]; exact hfr99.sr (by omega) (by omega)
  have hkr114 : μ111.2.2 0 0 = some 1 := by rw [e112]; simpa [z_sr, z_si, va_up, z_rows] using hkr110
  refine j_aload_n F98 (pc := 45) (q := 0) (by decide +kernel) rfl ?_
  refine j_iconst F98 (pc := 46) (n := 2) (v := 2) (by decide +kernel) (by decide +kernel) ?_
  refine j_newq F98 (pc := 47) (n := 26) (N := 2) (idx := 22) (t := 3) (C := "LastLent$Ship") (Or.inr ⟨rfl, rfl⟩) hY105.2.1 m_139 hn102 (by omega) hfr113 ⟨(z_olr (by omega)), trivial⟩ ⟨(z_olr (by omega)), trivial⟩ (by decide +kernel) (by decide) (by decide) (by rw [hc101.1, hc101.2.2.1]; decide) (by rw [hc101.2.1, hc101.2.2.2]; decide) (by decide +kernel) (fun E115 g116 F117 => ?_)
  have hn120 : (z_sh E115.1).length = 27 := g116.len hn102
  have Rt118 := g116.rn (by omega) Rt100
  have hc119 := g116.cn hc101
  have hs121 := g116.get hs103
  have hin122 := g116.nm hin104
  have hY123 : z_Y (z_St E115) := by rw [g116.st]; exact hY105
  have ho124 := g116.get ho106
  have ho125 := g116.get ho107
  have ho126 := g116.get ho108
  have ho127 := g116.get ho109
  have hfr128 : z_fr μ111 27 := hfr113.up (by omega)
  have ho129 : (z_sh E115.1)[26]? = some (.inl (3, 2)) := by rw [g116.sh, List.getElem?_append_right (by rw [hn102]; omega), hn102]; rfl
  refine j_putRF F117 (pc := 50) (Or.inr ⟨_, rfl⟩) hin122 (fun _ _ _ h => by cases h; rfl) fl_X4_32 fp_X4_4 hs121 rfl (by decide +kernel) ?_
  obtain ⟨μ130, e131, h⟩ := z_st_some h
  rw [← e131]
  have hfr132 : z_fr μ130 27 := by rw [e131]; exact hfr128.sr (by omega) (by omega)
  have hkr133 : μ130.2.2 0 0 = some 1 := by rw [e131]; simpa [z_sr, z_si, va_up, z_rows] using hkr114
  have hkr134 : μ130.2.2 0 4 = some 26 := by rw [e131]; simp [z_sr, va_up]
  refine j_aload_n F117 (pc := 53) (q := 0) (by decide +kernel) rfl ?_
  refine j_iconst F117 (pc := 54) (n := 2) (v := 2) (by decide +kernel) (by decide +kernel) ?_
  refine j_newaZ F117 (pc := 55) (n := 27) (N := 2) hn120 (by omega) hfr132 ⟨(z_olr (by omega)), trivial⟩ ⟨(z_olr (by omega)), trivial⟩ (by decide +kernel) (by decide) (by decide) (by rw [hc119.1, hc119.2.2.1]; decide) (by rw [hc119.2.1, hc119.2.2.2]; decide) m_265 (by decide +kernel) (fun E135 g136 F137 => ?_)
  have hn140 : (z_sh E135.1).length = 28 := g136.len hn120
  have Rt138 := g136.rn (by omega) Rt118
  have hc139 := g136.cn hc119
  have hs141 := g136.get hs121
  have hin142 := g136.nm hin122
  have hY143 : z_Y (z_St E135) := by rw [g136.st]; exact hY123
  have ho144 := g136.get ho124
  have ho145 := g136.get ho125
  have ho146 := g136.get ho126
  have ho147 := g136.get ho127
  have ho148 := g136.get ho129
  have hfr149 : z_fr μ130 28 := hfr132.up (by omega)
  refine j_putRF F137 (pc := 57) (Or.inr ⟨_, rfl⟩) hin142 (fun _ _ _ h => by cases h; rfl) fl_X4_36 fp_X4_5 hs141 rfl (by decide +kernel) ?_
  obtain ⟨μ150, e151, h⟩ := z_st_some h
  rw [← e151]
  have hfr152 : z_fr μ150 28 := by rw [e151]; exact hfr149.sr (by omega) (by omega)
  have hkr153 : μ150.2.2 0 0 = some 1 := by rw [e151]; simpa [z_sr, z_si, va_up, z_rows] using hkr133
  have hkr154 : μ150.2.2 0 4 = some 26 := by rw [e151]; simpa [z_sr, z_si, va_up, z_rows] using hkr134
  refine j_aload_n F137 (pc := 60) (q := 0) (by decide +kernel) rfl ?_
  refine j_new F137 (pc := 61) (n := 28) (N := 16) (ci := 2) (idx := 40) (ks0 := [2, 0, 0, 2, 2, 2, 2, 2, 2, 2, 2, 2, 2, 2, 2, 2]) tyX2 rfl iX2 tyX2_ok m_204 m_205 m_81 (by decide +kernel) hn140 (by omega) hfr152 ⟨(z_olr (by omega)), trivial⟩ ⟨(z_olr (by omega)), trivial⟩ (by rw [hc139.1, hc139.2.2.1]; decide) (by rw [hc139.2.1, hc139.2.2.2]; decide) (by decide +kernel) (fun E155 g156 F157 => ?_)
  have hn160 : (z_sh E155.1).length = 29 := g156.len hn140
  have Rt158 := g156.rn (by omega) Rt138
  have hc159 := g156.cn hc139
  have hs161 := g156.get hs141
  have hin162 := g156.nm hin142
  have hY163 : z_Y (z_St E155) := by rw [g156.st]; exact hY143
  have ho164 := g156.get ho144
  have ho165 := g156.get ho145
  have ho166 := g156.get ho146
  have ho167 := g156.get ho147
  have ho168 := g156.get ho148
  have hfr169 : z_fr μ150 29 := hfr152.up (by omega)
  have ho170 : (z_sh E155.1)[28]? = some (.inr (2, [2, 0, 0, 2, 2, 2, 2, 2, 2, 2, 2, 2, 2, 2, 2, 2])) := by rw [g156.sh, List.getElem?_append_right (by rw [hn140]; omega), hn140]; rfl
  refine j_dup F157 (pc := 64) (by decide +kernel) rfl ?_
  obtain ⟨μ171, hx172, h⟩ := z_b1_some h
  refine j_init F157 (pc := 65) (idx := 42) (n := 29) (t_X2_init (G := E155.1) hn160 (by omega) ho170 hfr169 hx172) q_X2_init m_207 rfl (Or.inr (by decide +kernel)) hY163 hn160 ⟨(z_olr (by omega)), trivial⟩ ⟨(z_olr (by omega)), ⟨(z_olr (by omega)), trivial⟩⟩ (by decide) (Nat.le_of_ble_eq_true rfl) (by rw [hc159.1, hc159.2.2.1]; decide) (by rw [hc159.2.1, hc159.2.2.2]; decide) (by decide +kernel) (fun E173 g174 F175 => ?_)
  have hn179 : (z_sh E173.1).length = 49 := g174.len hn160
  have Rt177 := g174.rn (by omega) Rt158
  have hc178 := g174.cn hc159
  have hs180 := g174.get hs161
  have hin181 := g174.nm hin162
  have hY182 : z_Y (z_St E173) := by rw [g174.st]; exact hY163
  have ho183 := g174.get ho164
  have ho184 := g174.get ho165
  have ho185 := g174.get ho166
  have ho186 := g174.get ho167
  have ho187 := g174.get ho168
  have ho188 := g174.get ho170
  have hfr176 : z_fr μ171 49 := fr_X2_init (by omega) hfr169 hx172
  have hkr189 : μ171.2.2 0 0 = some 1 := by rw [ff_X2_init hx172 0 (by decide)]; exact hkr153
  have hkr190 : μ171.2.2 0 4 = some 26 := by rw [ff_X2_init hx172 0 (by decide)]; exact hkr154
  refine j_putRF F175 (pc := 68) (Or.inl ⟨_, rfl⟩) hin181 (fun _ _ _ h => by cases h; rfl) fl_X4_43 fp_X4_6 hs180 rfl (by decide +kernel) ?_
  obtain ⟨μ191, e192, h⟩ := z_st_some h
  rw [← e192]
  have hfr193 : z_fr μ191 49 := by rw [e192]; exact hfr176.sr (by omega) (by omega)
  have hkr194 : μ191.2.2 0 0 = some 1 := by rw [e192]; simpa [z_sr, z_si, va_up, z_rows] using hkr189
  have hkr195 : μ191.2.2 0 4 = some 26 := by rw [e192]; simpa [z_sr, z_si, va_up, z_rows] using hkr190
  refine j_aload_n F175 (pc := 71) (q := 0) (by decide +kernel) rfl ?_
  refine j_bipush F175 (pc := 72) (n := 14) (v := 14) (by decide +kernel) (by decide +kernel) ?_
  refine j_newaI F175 (pc := 74) (n := 49) (N := 14) hn179 (by omega) hfr193 ⟨(z_olr (by omega)), trivial⟩ ⟨(z_olr (by omega)), trivial⟩ (by decide +kernel) (by decide) (by decide) (by rw [hc178.1, hc178.2.2.1]; decide) (by rw [hc178.2.1, hc178.2.2.2]; decide) m_138 (by decide +kernel) (fun E196 g197 F198 => ?_)
  have hn201 : (z_sh E196.1).length = 50 := g197.len hn179
  have Rt199 := g197.rn (by omega) Rt177
  have hc200 := g197.cn hc178
  have hs202 := g197.get hs180
  have hin203 := g197.nm hin181
  have hY204 : z_Y (z_St E196) := by rw [g197.st]; exact hY182
  have ho205 := g197.get ho183
  have ho206 := g197.get ho184
  have ho207 := g197.get ho185
  have ho208 := g197.get ho186
  have ho209 := g197.get ho187
  have ho210 := g197.get ho188
  have hfr211 : z_fr μ191 50 := hfr193.up (by omega)
  refine j_putRF F198 (pc := 76) (Or.inr ⟨_, rfl⟩) hin203 (fun _ _ _ h => by cases h; rfl) fl_X4_47 fp_X4_7 hs202 rfl (by decide +kernel) ?_
  obtain ⟨μ212, e213, h⟩ := z_st_some h
  rw [← e213]
  have hfr214 : z_fr μ212 50 := by rw [e213]; exact hfr211.sr (by omega) (by omega)
  have hkr215 : μ212.2.2 0 0 = some 1 := by rw [e213]; simpa [z_sr, z_si, va_up, z_rows] using hkr194
  have hkr216 : μ212.2.2 0 4 = some 26 := by rw [e213]; simpa [z_sr, z_si, va_up, z_rows] using hkr195
  refine j_aload_n F198 (pc := 79) (q := 0) (by decide +kernel) rfl ?_
  refine j_bipush F198 (pc := 80) (n := 6) (v := 6) (by decide +kernel) (by decide +kernel) ?_
  refine j_newaI F198 (pc := 82) (n := 50) (N := 6) hn201 (by omega) hfr214 ⟨(z_olr (by omega)), trivial⟩ ⟨(z_olr (by omega)), trivial⟩ (by decide +kernel) (by decide) (by decide) (by rw [hc200.1, hc200.2.2.1]; decide) (by rw [hc200.2.1, hc200.2.2.2]; decide) m_138 (by decide +kernel) (fun E217 g218 F219 => ?_)
  have hn222 : (z_sh E217.1).length = 51 := g218.len hn201
  have Rt220 := g218.rn (by omega) Rt199
  have hc221 := g218.cn hc200
  have hs223 := g218.get hs202
  have hin224 := g218.nm hin203
  have hY225 : z_Y (z_St E217) := by rw [g218.st]; exact hY204
  have ho226 := g218.get ho205
  have ho227 := g218.get ho206
  have ho228 := g218.get ho207
  have ho229 := g218.get ho208
  have ho230 := g218.get ho209
  have ho231 := g218.get ho210
  have hfr232 : z_fr μ212 51 := hfr214.up (by omega)
  refine j_putRF F219 (pc := 84) (Or.inr ⟨_, rfl⟩) hin224 (fun _ _ _ h => by cases h; rfl) fl_X4_51 fp_X4_8 hs223 rfl (by decide +kernel) ?_
  obtain ⟨μ233, e234, h⟩ := z_st_some h
  rw [← e234]
  have hfr235 : z_fr μ233 51 := by rw [e234]; exact hfr232.sr (by omega) (by omega)
  have hkr236 : μ233.2.2 0 0 = some 1 := by rw [e234]; simpa [z_sr, z_si, va_up, z_rows] using hkr215
  have hkr237 : μ233.2.2 0 4 = some 26 := by rw [e234]; simpa [z_sr, z_si, va_up, z_rows] using hkr216
  refine j_aload_n F219 (pc := 87) (q := 0) (by decide +kernel) rfl ?_
  refine j_new F219 (pc := 88) (n := 51) (N := 13) (ci := 0) (idx := 9) (ks0 := [2, 2, 2, 2, 0, 0, 0, 0, 0, 0, 0, 0, 0]) tyX0 rfl iX0 tyX0_ok m_99 m_266 m_82 (by decide +kernel) hn222 (by omega) hfr235 ⟨(z_olr (by omega)), trivial⟩ ⟨(z_olr (by omega)), trivial⟩ (by rw [hc221.1, hc221.2.2.1]; decide) (by rw [hc221.2.1, hc221.2.2.2]; decide) (by decide +kernel) (fun E238 g239 F240 => ?_)
  have hn243 : (z_sh E238.1).length = 52 := g239.len hn222
  have Rt241 := g239.rn (by omega) Rt220
  have hc242 := g239.cn hc221
  have hs244 := g239.get hs223
  have hin245 := g239.nm hin224
  have hY246 : z_Y (z_St E238) := by rw [g239.st]; exact hY225
  have ho247 := g239.get ho226
  have ho248 := g239.get ho227
  have ho249 := g239.get ho228
  have ho250 := g239.get ho229
  have ho251 := g239.get ho230
  have ho252 := g239.get ho231
  have hfr253 : z_fr μ233 52 := hfr235.up (by omega)
  have ho254 : (z_sh E238.1)[51]? = some (.inr (0, [2, 2, 2, 2, 0, 0, 0, 0, 0, 0, 0, 0, 0])) := by rw [g239.sh, List.getElem?_append_right (by rw [hn222]; omega), hn222]; rfl
  refine j_dup F240 (pc := 91) (by decide +kernel) rfl ?_
  obtain ⟨μ255, hx256, h⟩ := z_b1_some h
  refine j_init F240 (pc := 92) (idx := 54) (n := 52) (t_X0_init (G := E238.1) (o := 51) hn243 (by omega) ho254 hfr253 hx256) q_X0_init m_268 rfl (Or.inl m_267) hY246 hn243 ⟨(z_olr (by omega)), trivial⟩ ⟨(z_olr (by omega)), ⟨(z_olr (by omega)), trivial⟩⟩ (by decide) (Nat.le_of_ble_eq_true rfl) (by rw [hc242.1, hc242.2.2.1]; decide) (by rw [hc242.2.1, hc242.2.2.2]; decide) (by decide +kernel) (fun E257 g258 F259 => ?_)
  have hn263 : (z_sh E257.1).length = 56 := g258.len hn243
  have Rt261 := g258.rn (by omega) Rt241
  have hc262 := g258.cn hc242
  have hs264 := g258.get hs244
  have hin265 := g258.nm hin245
  have hY266 : z_Y (z_St E257) := by rw [g258.st]; exact hY246
  have ho267 := g258.get ho247
  have ho268 := g258.get ho248
  have ho269 := g258.get ho249
  have ho270 := g258.get ho250
  have ho271 := g258.get ho251
  have ho272 := g258.get ho252
  have ho273 := g258.get ho254
  have hfr260 : z_fr μ255 56 := fr_X0_init (by omega) hfr253 hx256
  have hkr274 : μ255.2.2 0 0 = some 1 := by rw [ff_X0_init hx256 0 (by decide)]; exact hkr236
  have hkr275 : μ255.2.2 0 4 = some 26 := by rw [ff_X0_init hx256 0 (by decide)]; exact hkr237
  refine j_putR F259 (pc := 95) (Or.inl ⟨_, rfl⟩) fl_X4_55 fp_X4_9 hs264 rfl (by decide +kernel) ?_
  obtain ⟨μ276, e277, h⟩ := z_st_some h
  rw [← e277]
  have hfr278 : z_fr μ276 56 := by rw [e277]; exact hfr260.sr (by omega) (by omega)
  have hkr279 : μ276.2.2 0 0 = some 1 := by rw [e277]; simpa [z_sr, z_si, va_up, z_rows] using hkr274
  have hkr280 : μ276.2.2 0 4 = some 26 := by rw [e277]; simpa [z_sr, z_si, va_up, z_rows] using hkr275
  refine j_iconst F259 (pc := 98) (n := 0) (v := 0) (by decide +kernel) (by decide +kernel) ?_
  refine j_istore_n F259 (pc := 99) (q := 1) (L' := [some (.ref 0), some (.int (0 : Int32))]) (by decide +kernel) (by decide) rfl rfl ?_
  refine j_iload_n F259 (pc := 100) (q := 1) (by decide +kernel) rfl ?_
  refine j_iconst F259 (pc := 101) (n := 4) (v := 4) (by decide +kernel) (by decide +kernel) ?_
  refine j_icmp_ge F259 (pc := 102) (off := 22) (tgt := 124) (by decide +kernel) (by decide) (fun c => absurd c (by decide)) (fun c => ?_)
  refine j_aload_n F259 (pc := 105) (q := 0) (by decide +kernel) rfl ?_
  refine j_getR F259 (pc := 106) (r := 1) hkr279 fl_X4_11 hs264 rfl (by decide +kernel) ?_
  refine j_iload_n F259 (pc := 109) (q := 1) (by decide +kernel) rfl ?_
  refine j_new F259 (pc := 110) (n := 56) (N := 13) (ci := 0) (idx := 9) (ks0 := [2, 2, 2, 2, 0, 0, 0, 0, 0, 0, 0, 0, 0]) tyX0 rfl iX0 tyX0_ok m_99 m_266 m_82 (by decide +kernel) hn263 (by omega) hfr278 ⟨(z_olr (by omega)), ⟨trivial, trivial⟩⟩ ⟨trivial, ⟨(z_olr (by omega)), trivial⟩⟩ (by rw [hc262.1, hc262.2.2.1]; decide) (by rw [hc262.2.1, hc262.2.2.2]; decide) (by decide +kernel) (fun E281 g282 F283 => ?_)
  have hn286 : (z_sh E281.1).length = 57 := g282.len hn263
  have Rt284 := g282.rn (by omega) Rt261
  have hc285 := g282.cn hc262
  have hs287 := g282.get hs264
  have hin288 := g282.nm hin265
  have hY289 : z_Y (z_St E281) := by rw [g282.st]; exact hY266
  have ho290 := g282.get ho267
  have ho291 := g282.get ho268
  have ho292 := g282.get ho269
  have ho293 := g282.get ho270
  have ho294 := g282.get ho271
  have ho295 := g282.get ho272
  have ho296 := g282.get ho273
  have hfr297 : z_fr μ276 57 := hfr278.up (by omega)
  have ho298 : (z_sh E281.1)[56]? = some (.inr (0, [2, 2, 2, 2, 0, 0, 0, 0, 0, 0, 0, 0, 0])) := by rw [g282.sh, List.getElem?_append_right (by rw [hn263]; omega), hn263]; rfl
  refine j_dup F283 (pc := 113) (by decide +kernel) rfl ?_
  obtain ⟨μ299, hx300, h⟩ := z_b1_some h
  refine j_init F283 (pc := 114) (idx := 54) (n := 57) (t_X0_init (G := E281.1) (o := 56) hn286 (by omega) ho298 hfr297 hx300) q_X0_init m_268 rfl (Or.inl m_267) hY289 hn286 ⟨(z_olr (by omega)), ⟨trivial, trivial⟩⟩ ⟨(z_olr (by omega)), ⟨trivial, ⟨(z_olr (by omega)), trivial⟩⟩⟩ (by decide) (Nat.le_of_ble_eq_true rfl) (by rw [hc285.1, hc285.2.2.1]; decide) (by rw [hc285.2.1, hc285.2.2.2]; decide) (by decide +kernel) (fun E301 g302 F303 => ?_)
  have hn307 : (z_sh E301.1).length = 61 := g302.len hn286
  have Rt305 := g302.rn (by omega) Rt284
  have hc306 := g302.cn hc285
  have hs308 := g302.get hs287
  have hin309 := g302.nm hin288
  have hY310 : z_Y (z_St E301) := by rw [g302.st]; exact hY289
  have ho311 := g302.get ho290
  have ho312 := g302.get ho291
  have ho313 := g302.get ho292
  have ho314 := g302.get ho293
  have ho315 := g302.get ho294
  have ho316 := g302.get ho295
  have ho317 := g302.get ho296
  have ho318 := g302.get ho298
  have hfr304 : z_fr μ299 61 := fr_X0_init (by omega) hfr297 hx300
  have hkr319 : μ299.2.2 0 0 = some 1 := by rw [ff_X0_init hx300 0 (by decide)]; exact hkr279
  have hkr320 : μ299.2.2 0 4 = some 26 := by rw [ff_X0_init hx300 0 (by decide)]; exact hkr280
  refine j_aast F303 (pc := 117) (t := 2) (RX0, TX0, 13) ho311 (Or.inl ⟨rfl, rfl⟩) (show z_in (0 : Int32) 4 by decide) ho318 (by decide +kernel) ?_
  show z_J E301 2 _ _ _ (z_sr μ299 1 0 (some 56))
  obtain ⟨μ321, e322, h⟩ := z_st_some h
  rw [← e322]
  have hfr323 : z_fr μ321 61 := by rw [e322]; exact hfr304.sr (by omega) (by omega)
  have hkr324 : μ321.2.2 0 0 = some 1 := by rw [e322]; simpa [z_sr, z_si, va_up, z_rows] using hkr319
  have hkr325 : μ321.2.2 0 4 = some 26 := by rw [e322]; simpa [z_sr, z_si, va_up, z_rows] using hkr320
  refine j_iinc F303 (pc := 118) (i := 1) (n := 1) (v := 1) (L' := [some (.ref 0), some (.int (1 : Int32))]) (by decide +kernel) rfl (by decide +kernel) (by decide) rfl rfl ?_
  refine j_goto F303 (pc := 121) (off := -21) (tgt := 100) (by decide +kernel) (by decide) ?_
  refine j_iload_n F303 (pc := 100) (q := 1) (by decide +kernel) rfl ?_
  refine j_iconst F303 (pc := 101) (n := 4) (v := 4) (by decide +kernel) (by decide +kernel) ?_
  refine j_icmp_ge F303 (pc := 102) (off := 22) (tgt := 124) (by decide +kernel) (by decide) (fun c => absurd c (by decide)) (fun c => ?_)
  refine j_aload_n F303 (pc := 105) (q := 0) (by decide +kernel) rfl ?_
  refine j_getR F303 (pc := 106) (r := 1) hkr324 fl_X4_11 hs308 rfl (by decide +kernel) ?_
  refine j_iload_n F303 (pc := 109) (q := 1) (by decide +kernel) rfl ?_
  refine j_new F303 (pc := 110) (n := 61) (N := 13) (ci := 0) (idx := 9) (ks0 := [2, 2, 2, 2, 0, 0, 0, 0, 0, 0, 0, 0, 0]) tyX0 rfl iX0 tyX0_ok m_99 m_266 m_82 (by decide +kernel) hn307 (by omega) hfr323 ⟨(z_olr (by omega)), ⟨trivial, trivial⟩⟩ ⟨trivial, ⟨(z_olr (by omega)), trivial⟩⟩ (by rw [hc306.1, hc306.2.2.1]; decide) (by rw [hc306.2.1, hc306.2.2.2]; decide) (by decide +kernel) (fun E326 g327 F328 => ?_)
  have hn331 : (z_sh E326.1).length = 62 := g327.len hn307
  have Rt329 := g327.rn (by omega) Rt305
  have hc330 := g327.cn hc306
  have hs332 := g327.get hs308
  have hin333 := g327.nm hin309
  have hY334 : z_Y (z_St E326) := by rw [g327.st]; exact hY310
  have ho335 := g327.get ho311
  have ho336 := g327.get ho312
  have ho337 := g327.get ho313
  have ho338 := g327.get ho314
  have ho339 := g327.get ho315
  have ho340 := g327.get ho316
  have ho341 := g327.get ho317
  have ho342 := g327.get ho318
  have hfr343 : z_fr μ321 62 := hfr323.up (by omega)
  have ho344 : (z_sh E326.1)[61]? = some (.inr (0, [2, 2, 2, 2, 0, 0, 0, 0, 0, 0, 0, 0, 0])) := by rw [g327.sh, List.getElem?_append_right (by rw [hn307]; omega), hn307]; rfl
  refine j_dup F328 (pc := 113) (by decide +kernel) rfl ?_
  obtain ⟨μ345, hx346, h⟩ := z_b1_some h
  refine j_init F328 (pc := 114) (idx := 54) (n := 62) (t_X0_init (G := E326.1) (o := 61) hn331 (by omega) ho344 hfr343 hx346) q_X0_init m_268 rfl (Or.inl m_267) hY334 hn331 ⟨(z_olr (by omega)), ⟨trivial, trivial⟩⟩ ⟨(z_olr (by omega)), ⟨trivial, ⟨(z_olr (by omega)), trivial⟩⟩⟩ (by decide) (Nat.le_of_ble_eq_true rfl) (by rw [hc330.1, hc330.2.2.1]; decide) (by rw [hc330.2.1, hc330.2.2.2]; decide) (by decide +kernel) (fun E347 g348 F349 => ?_)
  have hn353 : (z_sh E347.1).length = 66 := g348.len hn331
  have Rt351 := g348.rn (by omega) Rt329
  have hc352 := g348.cn hc330
  have hs354 := g348.get hs332
  have hin355 := g348.nm hin333
  have hY356 : z_Y (z_St E347) := by rw [g348.st]; exact hY334
  have ho357 := g348.get ho335
  have ho358 := g348.get ho336
  have ho359 := g348.get ho337
  have ho360 := g348.get ho338
  have ho361 := g348.get ho339
  have ho362 := g348.get ho340
  have ho363 := g348.get ho341
  have ho364 := g348.get ho342
  have ho365 := g348.get ho344
  have hfr350 : z_fr μ345 66 := fr_X0_init (by omega) hfr343 hx346
  have hkr366 : μ345.2.2 0 0 = some 1 := by rw [ff_X0_init hx346 0 (by decide)]; exact hkr324
  have hkr367 : μ345.2.2 0 4 = some 26 := by rw [ff_X0_init hx346 0 (by decide)]; exact hkr325
  refine j_aast F349 (pc := 117) (t := 2) (RX0, TX0, 13) ho357 (Or.inl ⟨rfl, rfl⟩) (show z_in (1 : Int32) 4 by decide) ho365 (by decide +kernel) ?_
  show z_J E347 2 _ _ _ (z_sr μ345 1 1 (some 61))
  obtain ⟨μ368, e369, h⟩ := z_st_some h
  rw [← e369]
  have hfr370 : z_fr μ368 66 := by rw [e369]; exact hfr350.sr (by omega) (by omega)
  have hkr371 : μ368.2.2 0 0 = some 1 := by rw [e369]; simpa [z_sr, z_si, va_up, z_rows] using hkr366
  have hkr372 : μ368.2.2 0 4 = some 26 := by rw [e369]; simpa [z_sr, z_si, va_up, z_rows] using hkr367
  refine j_iinc F349 (pc := 118) (i := 1) (n := 1) (v := 1) (L' := [some (.ref 0), some (.int (2 : Int32))]) (by decide +kernel) rfl (by decide +kernel) (by decide) rfl rfl ?_
  refine j_goto F349 (pc := 121) (off := -21) (tgt := 100) (by decide +kernel) (by decide) ?_
  refine j_iload_n F349 (pc := 100) (q := 1) (by decide +kernel) rfl ?_
  refine j_iconst F349 (pc := 101) (n := 4) (v := 4) (by decide +kernel) (by decide +kernel) ?_
  refine j_icmp_ge F349 (pc := 102) (off := 22) (tgt := 124) (by decide +kernel) (by decide) (fun c => absurd c (by decide)) (fun c => ?_)
  refine j_aload_n F349 (pc := 105) (q := 0) (by decide +kernel) rfl ?_
  refine j_getR F349 (pc := 106) (r := 1) hkr371 fl_X4_11 hs354 rfl (by decide +kernel) ?_
  refine j_iload_n F349 (pc := 109) (q := 1) (by decide +kernel) rfl ?_
  refine j_new F349 (pc := 110) (n := 66) (N := 13) (ci := 0) (idx := 9) (ks0 := [2, 2, 2, 2, 0, 0, 0, 0, 0, 0, 0, 0, 0]) tyX0 rfl iX0 tyX0_ok m_99 m_266 m_82 (by decide +kernel) hn353 (by omega) hfr370 ⟨(z_olr (by omega)), ⟨trivial, trivial⟩⟩ ⟨trivial, ⟨(z_olr (by omega)), trivial⟩⟩ (by rw [hc352.1, hc352.2.2.1]; decide) (by rw [hc352.2.1, hc352.2.2.2]; decide) (by decide +kernel) (fun E373 g374 F375 => ?_)
  have hn378 : (z_sh E373.1).length = 67 := g374.len hn353
  have Rt376 := g374.rn (by omega) Rt351
  have hc377 := g374.cn hc352
  have hs379 := g374.get hs354
  have hin380 := g374.nm hin355
  have hY381 : z_Y (z_St E373) := by rw [g374.st]; exact hY356
  have ho382 := g374.get ho357
  have ho383 := g374.get ho358
  have ho384 := g374.get ho359
  have ho385 := g374.get ho360
  have ho386 := g374.get ho361
  have ho387 := g374.get ho362
  have ho388 := g374.get ho363
  have ho389 := g374.get ho364
  have ho390 := g374.get ho365
  have hfr391 : z_fr μ368 67 := hfr370.up (by omega)
  have ho392 : (z_sh E373.1)[66]? = some (.inr (0, [2, 2, 2, 2, 0, 0, 0, 0, 0, 0, 0, 0, 0])) := by rw [g374.sh, List.getElem?_append_right (by rw [hn353]; omega), hn353]; rfl
  refine j_dup F375 (pc := 113) (by decide +kernel) rfl ?_
  obtain ⟨μ393, hx394, h⟩ := z_b1_some h
  refine j_init F375 (pc := 114) (idx := 54) (n := 67) (t_X0_init (G := E373.1) (o := 66) hn378 (by omega) ho392 hfr391 hx394) q_X0_init m_268 rfl (Or.inl m_267) hY381 hn378 ⟨(z_olr (by omega)), ⟨trivial, trivial⟩⟩ ⟨(z_olr (by omega)), ⟨trivial, ⟨(z_olr (by omega)), trivial⟩⟩⟩ (by decide) (Nat.le_of_ble_eq_true rfl) (by rw [hc377.1, hc377.2.2.1]; decide) (by rw [hc377.2.1, hc377.2.2.2]; decide) (by decide +kernel) (fun E395 g396 F397 => ?_)
  have hn401 : (z_sh E395.1).length = 71 := g396.len hn378
  have Rt399 := g396.rn (by omega) Rt376
  have hc400 := g396.cn hc377
  have hs402 := g396.get hs379
  have hin403 := g396.nm hin380
  have hY404 : z_Y (z_St E395) := by rw [g396.st]; exact hY381
  have ho405 := g396.get ho382
  have ho406 := g396.get ho383
  have ho407 := g396.get ho384
  have ho408 := g396.get ho385
  have ho409 := g396.get ho386
  have ho410 := g396.get ho387
  have ho411 := g396.get ho388
  have ho412 := g396.get ho389
  have ho413 := g396.get ho390
  have ho414 := g396.get ho392
  have hfr398 : z_fr μ393 71 := fr_X0_init (by omega) hfr391 hx394
  have hkr415 : μ393.2.2 0 0 = some 1 := by rw [ff_X0_init hx394 0 (by decide)]; exact hkr371
  have hkr416 : μ393.2.2 0 4 = some 26 := by rw [ff_X0_init hx394 0 (by decide)]; exact hkr372
  refine j_aast F397 (pc := 117) (t := 2) (RX0, TX0, 13) ho405 (Or.inl ⟨rfl, rfl⟩) (show z_in (2 : Int32) 4 by decide) ho414 (by decide +kernel) ?_
  show z_J E395 2 _ _ _ (z_sr μ393 1 2 (some 66))
  obtain ⟨μ417, e418, h⟩ := z_st_some h
  rw [← e418]
  have hfr419 : z_fr μ417 71 := by rw [e418]; exact hfr398.sr (by omega) (by omega)
  have hkr420 : μ417.2.2 0 0 = some 1 := by rw [e418]; simpa [z_sr, z_si, va_up, z_rows] using hkr415
  have hkr421 : μ417.2.2 0 4 = some 26 := by rw [e418]; simpa [z_sr, z_si, va_up, z_rows] using hkr416
  refine j_iinc F397 (pc := 118) (i := 1) (n := 1) (v := 1) (L' := [some (.ref 0), some (.int (3 : Int32))]) (by decide +kernel) rfl (by decide +kernel) (by decide) rfl rfl ?_
  refine j_goto F397 (pc := 121) (off := -21) (tgt := 100) (by decide +kernel) (by decide) ?_
  refine j_iload_n F397 (pc := 100) (q := 1) (by decide +kernel) rfl ?_
  refine j_iconst F397 (pc := 101) (n := 4) (v := 4) (by decide +kernel) (by decide +kernel) ?_
  refine j_icmp_ge F397 (pc := 102) (off := 22) (tgt := 124) (by decide +kernel) (by decide) (fun c => absurd c (by decide)) (fun c => ?_)
  refine j_aload_n F397 (pc := 105) (q := 0) (by decide +kernel) rfl ?_
  refine j_getR F397 (pc := 106) (r := 1) hkr420 fl_X4_11 hs402 rfl (by decide +kernel) ?_
  refine j_iload_n F397 (pc := 109) (q := 1) (by decide +kernel) rfl ?_
  refine j_new F397 (pc := 110) (n := 71) (N := 13) (ci := 0) (idx := 9) (ks0 := [2, 2, 2, 2, 0, 0, 0, 0, 0, 0, 0, 0, 0]) tyX0 rfl iX0 tyX0_ok m_99 m_266 m_82 (by decide +kernel) hn401 (by omega) hfr419 ⟨(z_olr (by omega)), ⟨trivial, trivial⟩⟩ ⟨trivial, ⟨(z_olr (by omega)), trivial⟩⟩ (by rw [hc400.1, hc400.2.2.1]; decide) (by rw [hc400.2.1, hc400.2.2.2]; decide) (by decide +kernel) (fun E422 g423 F424 => ?_)
  have hn427 : (z_sh E422.1).length = 72 := g423.len hn401
  have Rt425 := g423.rn (by omega) Rt399
  have hc426 := g423.cn hc400
  have hs428 := g423.get hs402
  have hin429 := g423.nm hin403
  have hY430 : z_Y (z_St E422) := by rw [g423.st]; exact hY404
  have ho431 := g423.get ho405
  have ho432 := g423.get ho406
  have ho433 := g423.get ho407
  have ho434 := g423.get ho408
  have ho435 := g423.get ho409
  have ho436 := g423.get ho410
  have ho437 := g423.get ho411
  have ho438 := g423.get ho412
  have ho439 := g423.get ho413
  have ho440 := g423.get ho414
  have hfr441 : z_fr μ417 72 := hfr419.up (by omega)
  have ho442 : (z_sh E422.1)[71]? = some (.inr (0, [2, 2, 2, 2, 0, 0, 0, 0, 0, 0, 0, 0, 0])) := by rw [g423.sh, List.getElem?_append_right (by rw [hn401]; omega), hn401]; rfl
  refine j_dup F424 (pc := 113) (by decide +kernel) rfl ?_
  obtain ⟨μ443, hx444, h⟩ := z_b1_some h
  refine j_init F424 (pc := 114) (idx := 54) (n := 72) (t_X0_init (G := E422.1) (o := 71) hn427 (by omega) ho442 hfr441 hx444) q_X0_init m_268 rfl (Or.inl m_267) hY430 hn427 ⟨(z_olr (by omega)), ⟨trivial, trivial⟩⟩ ⟨(z_olr (by omega)), ⟨trivial, ⟨(z_olr (by omega)), trivial⟩⟩⟩ (by decide) (Nat.le_of_ble_eq_true rfl) (by rw [hc426.1, hc426.2.2.1]; decide) (by rw [hc426.2.1, hc426.2.2.2]; decide) (by decide +kernel) (fun E445 g446 F447 => ?_)
  have hn451 : (z_sh E445.1).length = 76 := g446.len hn427
  have Rt449 := g446.rn (by omega) Rt425
  have hc450 := g446.cn hc426
  have hs452 := g446.get hs428
  have hin453 := g446.nm hin429
  have hY454 : z_Y (z_St E445) := by rw [g446.st]; exact hY430
  have ho455 := g446.get ho431
  have ho456 := g446.get ho432
  have ho457 := g446.get ho433
  have ho458 := g446.get ho434
  have ho459 := g446.get ho435
  have ho460 := g446.get ho436
  have ho461 := g446.get ho437
  have ho462 := g446.get ho438
  have ho463 := g446.get ho439
  have ho464 := g446.get ho440
  have ho465 := g446.get ho442
  have hfr448 : z_fr μ443 76 := fr_X0_init (by omega) hfr441 hx444
  have hkr466 : μ443.2.2 0 0 = some 1 := by rw [ff_X0_init hx444 0 (by decide)]; exact hkr420
  have hkr467 : μ443.2.2 0 4 = some 26 := by rw [ff_X0_init hx444 0 (by decide)]; exact hkr421
  refine j_aast F447 (pc := 117) (t := 2) (RX0, TX0, 13) ho455 (Or.inl ⟨rfl, rfl⟩) (show z_in (3 : Int32) 4 by decide) ho465 (by decide +kernel) ?_
  show z_J E445 2 _ _ _ (z_sr μ443 1 3 (some 71))
  obtain ⟨μ468, e469, h⟩ := z_st_some h
  rw [← e469]
  have hfr470 : z_fr μ468 76 := by rw [e469]; exact hfr448.sr (by omega) (by omega)
  have hkr471 : μ468.2.2 0 0 = some 1 := by rw [e469]; simpa [z_sr, z_si, va_up, z_rows] using hkr466
  have hkr472 : μ468.2.2 0 4 = some 26 := by rw [e469]; simpa [z_sr, z_si, va_up, z_rows] using hkr467
  refine j_iinc F447 (pc := 118) (i := 1) (n := 1) (v := 1) (L' := [some (.ref 0), some (.int (4 : Int32))]) (by decide +kernel) rfl (by decide +kernel) (by decide) rfl rfl ?_
  refine j_goto F447 (pc := 121) (off := -21) (tgt := 100) (by decide +kernel) (by decide) ?_
  refine j_iload_n F447 (pc := 100) (q := 1) (by decide +kernel) rfl ?_
  refine j_iconst F447 (pc := 101) (n := 4) (v := 4) (by decide +kernel) (by decide +kernel) ?_
  refine j_icmp_ge F447 (pc := 102) (off := 22) (tgt := 124) (by decide +kernel) (by decide) (fun c => ?_) (fun c => absurd (by decide) c)
  refine j_iconst F447 (pc := 124) (n := 0) (v := 0) (by decide +kernel) (by decide +kernel) ?_
  refine j_istore_n F447 (pc := 125) (q := 1) (L' := [some (.ref 0), some (.int (0 : Int32))]) (by decide +kernel) (by decide) rfl rfl ?_
  refine j_iload_n F447 (pc := 126) (q := 1) (by decide +kernel) rfl ?_
  refine j_iconst F447 (pc := 127) (n := 2) (v := 2) (by decide +kernel) (by decide +kernel) ?_
  refine j_icmp_ge F447 (pc := 128) (off := 22) (tgt := 150) (by decide +kernel) (by decide) (fun c => absurd c (by decide)) (fun c => ?_)
  refine j_aload_n F447 (pc := 131) (q := 0) (by decide +kernel) rfl ?_
  refine j_getR F447 (pc := 132) (r := 26) hkr472 fl_X4_32 hs452 rfl (by decide +kernel) ?_
  refine j_iload_n F447 (pc := 135) (q := 1) (by decide +kernel) rfl ?_
  refine j_new F447 (pc := 136) (n := 76) (N := 13) (ci := 3) (idx := 22) (ks0 := [0, 0, 0, 2, 2, 2, 2, 2, 2, 2, 2, 2, 2]) tyX3 rfl iX3 tyX3_ok m_139 m_140 m_80 (by decide +kernel) hn451 (by omega) hfr470 ⟨(z_olr (by omega)), ⟨trivial, trivial⟩⟩ ⟨trivial, ⟨(z_olr (by omega)), trivial⟩⟩ (by rw [hc450.1, hc450.2.2.1]; decide) (by rw [hc450.2.1, hc450.2.2.2]; decide) (by decide +kernel) (fun E473 g474 F475 => ?_)
  have hn478 : (z_sh E473.1).length = 77 := g474.len hn451
  have Rt476 := g474.rn (by omega) Rt449
  have hc477 := g474.cn hc450
  have hs479 := g474.get hs452
  have hin480 := g474.nm hin453
  have hY481 : z_Y (z_St E473) := by rw [g474.st]; exact hY454
  have ho482 := g474.get ho455
  have ho483 := g474.get ho456
  have ho484 := g474.get ho457
  have ho485 := g474.get ho458
  have ho486 := g474.get ho459
  have ho487 := g474.get ho460
  have ho488 := g474.get ho461
  have ho489 := g474.get ho462
  have ho490 := g474.get ho463
  have ho491 := g474.get ho464
  have ho492 := g474.get ho465
  have hfr493 : z_fr μ468 77 := hfr470.up (by omega)
  have ho494 : (z_sh E473.1)[76]? = some (.inr (3, [0, 0, 0, 2, 2, 2, 2, 2, 2, 2, 2, 2, 2])) := by rw [g474.sh, List.getElem?_append_right (by rw [hn451]; omega), hn451]; rfl
  refine j_dup F475 (pc := 139) (by decide +kernel) rfl ?_
  obtain ⟨μ495, hx496, h⟩ := z_b1_some h
  refine j_init F475 (pc := 140) (idx := 24) (n := 77) (t_X3_init (G := E473.1) (o := 76) hn478 (by omega) ho494 hfr493 hx496) q_X3_init m_142 rfl (Or.inr (by decide +kernel)) hY481 hn478 ⟨(z_olr (by omega)), ⟨trivial, trivial⟩⟩ ⟨(z_olr (by omega)), ⟨trivial, ⟨(z_olr (by omega)), trivial⟩⟩⟩ (by decide) (Nat.le_of_ble_eq_true rfl) (by rw [hc477.1, hc477.2.2.1]; decide) (by rw [hc477.2.1, hc477.2.2.2]; decide) (by decide +kernel) (fun E497 g498 F499 => ?_)
  have hn503 : (z_sh E497.1).length = 87 := g498.len hn478
  have Rt501 := g498.rn (by omega) Rt476
  have hc502 := g498.cn hc477
  have hs504 := g498.get hs479
  have hin505 := g498.nm hin480
  have hY506 : z_Y (z_St E497) := by rw [g498.st]; exact hY481
  have ho507 := g498.get ho482
  have ho508 := g498.get ho483
  have ho509 := g498.get ho484
  have ho510 := g498.get ho485
  have ho511 := g498.get ho486
  have ho512 := g498.get ho487
  have ho513 := g498.get ho488
  have ho514 := g498.get ho489
  have ho515 := g498.get ho490
  have ho516 := g498.get ho491
  have ho517 := g498.get ho492
  have ho518 := g498.get ho494
  have hfr500 : z_fr μ495 87 := fr_X3_init (by omega) hfr493 hx496
  have hkr519 : μ495.2.2 0 0 = some 1 := by rw [ff_X3_init hx496 0 (by decide)]; exact hkr471
  have hkr520 : μ495.2.2 0 4 = some 26 := by rw [ff_X3_init hx496 0 (by decide)]; exact hkr472
  refine j_aast F499 (pc := 143) (t := 3) (RX0, TX0, 13) ho511 (Or.inr ⟨rfl, rfl⟩) (show z_in (0 : Int32) 2 by decide) ho518 (by decide +kernel) ?_
  show z_J E497 2 _ _ _ (z_sr μ495 26 0 (some 76))
  obtain ⟨μ521, e522, h⟩ := z_st_some h
  rw [← e522]
  have hfr523 : z_fr μ521 87 := by rw [e522]; exact hfr500.sr (by omega) (by omega)
  have hkr524 : μ521.2.2 0 0 = some 1 := by rw [e522]; simpa [z_sr, z_si, va_up, z_rows] using hkr519
  have hkr525 : μ521.2.2 0 4 = some 26 := by rw [e522]; simpa [z_sr, z_si, va_up, z_rows] using hkr520
  refine j_iinc F499 (pc := 144) (i := 1) (n := 1) (v := 1) (L' := [some (.ref 0), some (.int (1 : Int32))]) (by decide +kernel) rfl (by decide +kernel) (by decide) rfl rfl ?_
  refine j_goto F499 (pc := 147) (off := -21) (tgt := 126) (by decide +kernel) (by decide) ?_
  refine j_iload_n F499 (pc := 126) (q := 1) (by decide +kernel) rfl ?_
  refine j_iconst F499 (pc := 127) (n := 2) (v := 2) (by decide +kernel) (by decide +kernel) ?_
  refine j_icmp_ge F499 (pc := 128) (off := 22) (tgt := 150) (by decide +kernel) (by decide) (fun c => absurd c (by decide)) (fun c => ?_)
  refine j_aload_n F499 (pc := 131) (q := 0) (by decide +kernel) rfl ?_
  refine j_getR F499 (pc := 132) (r := 26) hkr525 fl_X4_32 hs504 rfl (by decide +kernel) ?_
  refine j_iload_n F499 (pc := 135) (q := 1) (by decide +kernel) rfl ?_
  refine j_new F499 (pc := 136) (n := 87) (N := 13) (ci := 3) (idx := 22) (ks0 := [0, 0, 0, 2, 2, 2, 2, 2, 2, 2, 2, 2, 2]) tyX3 rfl iX3 tyX3_ok m_139 m_140 m_80 (by decide +kernel) hn503 (by omega) hfr523 ⟨(z_olr (by omega)), ⟨trivial, trivial⟩⟩ ⟨trivial, ⟨(z_olr (by omega)), trivial⟩⟩ (by rw [hc502.1, hc502.2.2.1]; decide) (by rw [hc502.2.1, hc502.2.2.2]; decide) (by decide +kernel) (fun E526 g527 F528 => ?_)
  have hn531 : (z_sh E526.1).length = 88 := g527.len hn503
  have Rt529 := g527.rn (by omega) Rt501
  have hc530 := g527.cn hc502
  have hs532 := g527.get hs504
  have hin533 := g527.nm hin505
  have hY534 : z_Y (z_St E526) := by rw [g527.st]; exact hY506
  have ho535 := g527.get ho507
  have ho536 := g527.get ho508
  have ho537 := g527.get ho509
  have ho538 := g527.get ho510
  have ho539 := g527.get ho511
  have ho540 := g527.get ho512
  have ho541 := g527.get ho513
  have ho542 := g527.get ho514
  have ho543 := g527.get ho515
  have ho544 := g527.get ho516
  have ho545 := g527.get ho517
  have ho546 := g527.get ho518
  have hfr547 : z_fr μ521 88 := hfr523.up (by omega)
  have ho548 : (z_sh E526.1)[87]? = some (.inr (3, [0, 0, 0, 2, 2, 2, 2, 2, 2, 2, 2, 2, 2])) := by rw [g527.sh, List.getElem?_append_right (by rw [hn503]; omega), hn503]; rfl
  refine j_dup F528 (pc := 139) (by decide +kernel) rfl ?_
  obtain ⟨μ549, hx550, h⟩ := z_b1_some h
  refine j_init F528 (pc := 140) (idx := 24) (n := 88) (t_X3_init (G := E526.1) (o := 87) hn531 (by omega) ho548 hfr547 hx550) q_X3_init m_142 rfl (Or.inr (by decide +kernel)) hY534 hn531 ⟨(z_olr (by omega)), ⟨trivial, trivial⟩⟩ ⟨(z_olr (by omega)), ⟨trivial, ⟨(z_olr (by omega)), trivial⟩⟩⟩ (by decide) (Nat.le_of_ble_eq_true rfl) (by rw [hc530.1, hc530.2.2.1]; decide) (by rw [hc530.2.1, hc530.2.2.2]; decide) (by decide +kernel) (fun E551 g552 F553 => ?_)
  have hn557 : (z_sh E551.1).length = 98 := g552.len hn531
  have Rt555 := g552.rn (by omega) Rt529
  have hc556 := g552.cn hc530
  have hs558 := g552.get hs532
  have hin559 := g552.nm hin533
  have hY560 : z_Y (z_St E551) := by rw [g552.st]; exact hY534
  have ho561 := g552.get ho535
  have ho562 := g552.get ho536
  have ho563 := g552.get ho537
  have ho564 := g552.get ho538
  have ho565 := g552.get ho539
  have ho566 := g552.get ho540
  have ho567 := g552.get ho541
  have ho568 := g552.get ho542
  have ho569 := g552.get ho543
  have ho570 := g552.get ho544
  have ho571 := g552.get ho545
  have ho572 := g552.get ho546
  have ho573 := g552.get ho548
  have hfr554 : z_fr μ549 98 := fr_X3_init (by omega) hfr547 hx550
  have hkr574 : μ549.2.2 0 0 = some 1 := by rw [ff_X3_init hx550 0 (by decide)]; exact hkr524
  have hkr575 : μ549.2.2 0 4 = some 26 := by rw [ff_X3_init hx550 0 (by decide)]; exact hkr525
  refine j_aast F553 (pc := 143) (t := 3) (RX0, TX0, 13) ho565 (Or.inr ⟨rfl, rfl⟩) (show z_in (1 : Int32) 2 by decide) ho573 (by decide +kernel) ?_
  show z_J E551 2 _ _ _ (z_sr μ549 26 1 (some 87))
  obtain ⟨μ576, e577, h⟩ := z_st_some h
  rw [← e577]
  have hfr578 : z_fr μ576 98 := by rw [e577]; exact hfr554.sr (by omega) (by omega)
  have hkr579 : μ576.2.2 0 0 = some 1 := by rw [e577]; simpa [z_sr, z_si, va_up, z_rows] using hkr574
  have hkr580 : μ576.2.2 0 4 = some 26 := by rw [e577]; simpa [z_sr, z_si, va_up, z_rows] using hkr575
  refine j_iinc F553 (pc := 144) (i := 1) (n := 1) (v := 1) (L' := [some (.ref 0), some (.int (2 : Int32))]) (by decide +kernel) rfl (by decide +kernel) (by decide) rfl rfl ?_
  refine j_goto F553 (pc := 147) (off := -21) (tgt := 126) (by decide +kernel) (by decide) ?_
  refine j_iload_n F553 (pc := 126) (q := 1) (by decide +kernel) rfl ?_
  refine j_iconst F553 (pc := 127) (n := 2) (v := 2) (by decide +kernel) (by decide +kernel) ?_
  refine j_icmp_ge F553 (pc := 128) (off := 22) (tgt := 150) (by decide +kernel) (by decide) (fun c => ?_) (fun c => absurd (by decide) c)
  have hsh : z_sh E551.1 = z_sh E.1 ++ [.inl (2, 4), .inr (1, [2, 0, 0, 0, 0, 0, 0, 0, 0]), .inl (0, 240), .inr (3, [0, 0, 0, 2, 2, 2, 2, 2, 2, 2, 2, 2, 2]), .inl (0, 6), .inl (0, 6), .inl (0, 14), .inl (0, 14), .inl (0, 14), .inl (0, 14), .inl (0, 14), .inl (0, 14), .inl (0, 5), .inl (0, 3), .inr (3, [0, 0, 0, 2, 2, 2, 2, 2, 2, 2, 2, 2, 2]), .inl (0, 6), .inl (0, 6), .inl (0, 14), .inl (0, 14), .inl (0, 14), .inl (0, 14), .inl (0, 14), .inl (0, 14), .inl (0, 5), .inl (0, 3), .inl (3, 2), .inl (1, 2), .inr (2, [2, 0, 0, 2, 2, 2, 2, 2, 2, 2, 2, 2, 2, 2, 2, 2]), .inl (0, 14), .inl (0, 14), .inl (0, 14), .inl (0, 14), .inl (0, 14), .inl (0, 14), .inl (0, 5), .inl (0, 5), .inl (0, 5), .inl (0, 5), .inl (4, 6), .inl (0, 14), .inl (0, 14), .inl (0, 14), .inl (0, 14), .inl (0, 14), .inl (0, 14), .inl (0, 6), .inl (0, 3), .inl (0, 3), .inl (0, 14), .inl (0, 6), .inr (0, [2, 2, 2, 2, 0, 0, 0, 0, 0, 0, 0, 0, 0]), .inl (0, 8), .inl (0, 8), .inl (0, 8), .inl (0, 8), .inr (0, [2, 2, 2, 2, 0, 0, 0, 0, 0, 0, 0, 0, 0]), .inl (0, 8), .inl (0, 8), .inl (0, 8), .inl (0, 8), .inr (0, [2, 2, 2, 2, 0, 0, 0, 0, 0, 0, 0, 0, 0]), .inl (0, 8), .inl (0, 8), .inl (0, 8), .inl (0, 8), .inr (0, [2, 2, 2, 2, 0, 0, 0, 0, 0, 0, 0, 0, 0]), .inl (0, 8), .inl (0, 8), .inl (0, 8), .inl (0, 8), .inr (0, [2, 2, 2, 2, 0, 0, 0, 0, 0, 0, 0, 0, 0]), .inl (0, 8), .inl (0, 8), .inl (0, 8), .inl (0, 8), .inr (3, [0, 0, 0, 2, 2, 2, 2, 2, 2, 2, 2, 2, 2]), .inl (0, 6), .inl (0, 6), .inl (0, 14), .inl (0, 14), .inl (0, 14), .inl (0, 14), .inl (0, 14), .inl (0, 14), .inl (0, 5), .inl (0, 3), .inr (3, [0, 0, 0, 2, 2, 2, 2, 2, 2, 2, 2, 2, 2]), .inl (0, 6), .inl (0, 6), .inl (0, 14), .inl (0, 14), .inl (0, 14), .inl (0, 14), .inl (0, 14), .inl (0, 14), .inl (0, 5), .inl (0, 3)] := by
    rw [g552.sh, g527.sh, g498.sh, g474.sh, g446.sh, g423.sh, g396.sh, g374.sh, g348.sh, g327.sh, g302.sh, g282.sh, g258.sh, g239.sh, g218.sh, g197.sh, g174.sh, g156.sh, g136.sh, g116.sh, g97.sh, g81.sh, g63.sh, g48.sh, g31.sh, g17.sh, g2.sh]
    try simp only [List.append_assoc, List.cons_append, List.nil_append, z_rowS]
  cases h
  exact j_nret F553 Rt555 hc556 hsh (by decide +kernel)
