/-! LastLentModel(): written by wip/whole/ctor.py -/
theorem m_45 : Cond.selects RX5 yX5_beginImages yX5_beginImages ∈ z_T := z_T_in 45 (by decide +kernel) (by decide +kernel)
theorem m_874 : Cond.methodLink RX5 1 objectInit ∈ z_T := z_T_in 874 (by decide +kernel) (by decide +kernel)
theorem m_895 : Cond.methodLink RX5 133 yX5_beginImages ∈ z_T := z_T_in 895 (by decide +kernel) (by decide +kernel)
theorem m_897 : Cond.instanceMethod yX5_beginImages ∈ z_T := z_T_in 897 (by decide +kernel) (by decide +kernel)
theorem m_898 : Cond.code yX5_beginImages cX5_beginImages 2 none ∈ z_T := z_T_in 898 (by decide +kernel) (by decide +kernel)
theorem fp_X5_0 : z_fp 5 0 true (.array .int) := ⟨RX5, TX5, 48, tyX5, rfl, by decide +kernel, rfl, by decide +kernel, tyX5_ok, nmX5⟩
theorem fp_X5_1 : z_fp 5 1 true (.array .int) := ⟨RX5, TX5, 48, tyX5, rfl, by decide +kernel, rfl, by decide +kernel, tyX5_ok, nmX5⟩
theorem fp_X5_2 : z_fp 5 2 true (.array .int) := ⟨RX5, TX5, 48, tyX5, rfl, by decide +kernel, rfl, by decide +kernel, tyX5_ok, nmX5⟩
theorem fp_X5_3 : z_fp 5 3 true (.array .boolean) := ⟨RX5, TX5, 48, tyX5, rfl, by decide +kernel, rfl, by decide +kernel, tyX5_ok, nmX5⟩
theorem fp_X5_4 : z_fp 5 4 true (.array .boolean) := ⟨RX5, TX5, 48, tyX5, rfl, by decide +kernel, rfl, by decide +kernel, tyX5_ok, nmX5⟩
theorem fp_X5_5 : z_fp 5 5 true (.array .int) := ⟨RX5, TX5, 48, tyX5, rfl, by decide +kernel, rfl, by decide +kernel, tyX5_ok, nmX5⟩
theorem fp_X5_6 : z_fp 5 6 true (.array .int) := ⟨RX5, TX5, 48, tyX5, rfl, by decide +kernel, rfl, by decide +kernel, tyX5_ok, nmX5⟩
theorem fp_X5_7 : z_fp 5 7 true (.array .int) := ⟨RX5, TX5, 48, tyX5, rfl, by decide +kernel, rfl, by decide +kernel, tyX5_ok, nmX5⟩
theorem fp_X5_8 : z_fp 5 8 true (.array .int) := ⟨RX5, TX5, 48, tyX5, rfl, by decide +kernel, rfl, by decide +kernel, tyX5_ok, nmX5⟩
theorem fp_X5_9 : z_fp 5 9 true (.array .boolean) := ⟨RX5, TX5, 48, tyX5, rfl, by decide +kernel, rfl, by decide +kernel, tyX5_ok, nmX5⟩
theorem fp_X5_10 : z_fp 5 10 true (.array .boolean) := ⟨RX5, TX5, 48, tyX5, rfl, by decide +kernel, rfl, by decide +kernel, tyX5_ok, nmX5⟩
theorem fp_X5_11 : z_fp 5 11 true (.array .int) := ⟨RX5, TX5, 48, tyX5, rfl, by decide +kernel, rfl, by decide +kernel, tyX5_ok, nmX5⟩
theorem fp_X5_12 : z_fp 5 12 true (.array .int) := ⟨RX5, TX5, 48, tyX5, rfl, by decide +kernel, rfl, by decide +kernel, tyX5_ok, nmX5⟩
theorem fp_X5_22 : z_fp 5 22 true (.array .boolean) := ⟨RX5, TX5, 48, tyX5, rfl, by decide +kernel, rfl, by decide +kernel, tyX5_ok, nmX5⟩
theorem fp_X5_23 : z_fp 5 23 true (.array .int) := ⟨RX5, TX5, 48, tyX5, rfl, by decide +kernel, rfl, by decide +kernel, tyX5_ok, nmX5⟩
theorem fp_X5_25 : z_fp 5 25 true (.array .int) := ⟨RX5, TX5, 48, tyX5, rfl, by decide +kernel, rfl, by decide +kernel, tyX5_ok, nmX5⟩
theorem fp_X5_26 : z_fp 5 26 true (.array .int) := ⟨RX5, TX5, 48, tyX5, rfl, by decide +kernel, rfl, by decide +kernel, tyX5_ok, nmX5⟩
theorem fp_X5_28 : z_fp 5 28 true (.array .int) := ⟨RX5, TX5, 48, tyX5, rfl, by decide +kernel, rfl, by decide +kernel, tyX5_ok, nmX5⟩
theorem fp_X5_29 : z_fp 5 29 true (.array .int) := ⟨RX5, TX5, 48, tyX5, rfl, by decide +kernel, rfl, by decide +kernel, tyX5_ok, nmX5⟩
theorem fp_X5_30 : z_fp 5 30 true (.array .int) := ⟨RX5, TX5, 48, tyX5, rfl, by decide +kernel, rfl, by decide +kernel, tyX5_ok, nmX5⟩
theorem fp_X5_31 : z_fp 5 31 true (.array .int) := ⟨RX5, TX5, 48, tyX5, rfl, by decide +kernel, rfl, by decide +kernel, tyX5_ok, nmX5⟩
theorem fp_X5_32 : z_fp 5 32 true (.array .boolean) := ⟨RX5, TX5, 48, tyX5, rfl, by decide +kernel, rfl, by decide +kernel, tyX5_ok, nmX5⟩
theorem fp_X5_33 : z_fp 5 33 true (.array .int) := ⟨RX5, TX5, 48, tyX5, rfl, by decide +kernel, rfl, by decide +kernel, tyX5_ok, nmX5⟩
theorem fp_X5_34 : z_fp 5 34 true (.array .int) := ⟨RX5, TX5, 48, tyX5, rfl, by decide +kernel, rfl, by decide +kernel, tyX5_ok, nmX5⟩
theorem fp_X5_35 : z_fp 5 35 true (.array .boolean) := ⟨RX5, TX5, 48, tyX5, rfl, by decide +kernel, rfl, by decide +kernel, tyX5_ok, nmX5⟩
theorem fp_X5_36 : z_fp 5 36 true (.array .int) := ⟨RX5, TX5, 48, tyX5, rfl, by decide +kernel, rfl, by decide +kernel, tyX5_ok, nmX5⟩
theorem fp_X5_37 : z_fp 5 37 true (.array .int) := ⟨RX5, TX5, 48, tyX5, rfl, by decide +kernel, rfl, by decide +kernel, tyX5_ok, nmX5⟩
theorem fp_X5_38 : z_fp 5 38 true (.array .int) := ⟨RX5, TX5, 48, tyX5, rfl, by decide +kernel, rfl, by decide +kernel, tyX5_ok, nmX5⟩
theorem fp_X5_39 : z_fp 5 39 true (.array .int) := ⟨RX5, TX5, 48, tyX5, rfl, by decide +kernel, rfl, by decide +kernel, tyX5_ok, nmX5⟩
theorem fp_X5_40 : z_fp 5 40 true (.array .int) := ⟨RX5, TX5, 48, tyX5, rfl, by decide +kernel, rfl, by decide +kernel, tyX5_ok, nmX5⟩
theorem fp_X5_41 : z_fp 5 41 true (.array .int) := ⟨RX5, TX5, 48, tyX5, rfl, by decide +kernel, rfl, by decide +kernel, tyX5_ok, nmX5⟩
theorem fp_X5_42 : z_fp 5 42 true (.array .boolean) := ⟨RX5, TX5, 48, tyX5, rfl, by decide +kernel, rfl, by decide +kernel, tyX5_ok, nmX5⟩
theorem fp_X5_43 : z_fp 5 43 true (.array .int) := ⟨RX5, TX5, 48, tyX5, rfl, by decide +kernel, rfl, by decide +kernel, tyX5_ok, nmX5⟩
theorem fp_X5_44 : z_fp 5 44 true (.array .int) := ⟨RX5, TX5, 48, tyX5, rfl, by decide +kernel, rfl, by decide +kernel, tyX5_ok, nmX5⟩
theorem fp_X5_45 : z_fp 5 45 true (.array .int) := ⟨RX5, TX5, 48, tyX5, rfl, by decide +kernel, rfl, by decide +kernel, tyX5_ok, nmX5⟩
theorem fp_X5_46 : z_fp 5 46 true (.array .int) := ⟨RX5, TX5, 48, tyX5, rfl, by decide +kernel, rfl, by decide +kernel, tyX5_ok, nmX5⟩
theorem fp_X5_47 : z_fp 5 47 true (.array .boolean) := ⟨RX5, TX5, 48, tyX5, rfl, by decide +kernel, rfl, by decide +kernel, tyX5_ok, nmX5⟩
theorem q_X5_beginImages : z_Yc yX5_beginImages cX5_beginImages 2 none 0 := ⟨m_898, m_83, ⟨by decide +kernel, by decide +kernel, by decide +kernel⟩, by decide⟩
theorem v_X5_beginImages : z_Yv yX5_beginImages := ⟨m_897, m_45⟩
theorem z_sr_at (μ : z_M) (i k j : Nat) (x : Option Nat) : (z_sr μ i k x).2.2 i j = if j = k then x else μ.2.2 i j := by
  by_cases h : j = k <;> simp [z_sr, va_up, h]
theorem z_sr_ne {μ : z_M} {i k a : Nat} {x : Option Nat} (h : a ≠ i) : (z_sr μ i k x).2.2 a = μ.2.2 a := if_neg h
theorem z_si_rr (μ : z_M) (i k : Nat) (x : Int32) : (z_si μ i k x).2.2 = μ.2.2 := rfl
def z_RL5 : List (Nat × Nat × Nat) := [(98, 0, 99), (98, 1, 100), (98, 2, 101), (98, 3, 102), (98, 4, 103), (98, 5, 104), (98, 6, 105), (98, 7, 106), (98, 8, 107), (98, 9, 108), (98, 10, 109), (98, 11, 110), (98, 12, 111), (98, 22, 112), (98, 23, 113), (98, 25, 114), (98, 26, 115), (98, 28, 116), (98, 29, 117), (98, 30, 118), (98, 31, 119), (98, 32, 120), (98, 33, 121), (98, 34, 122), (98, 35, 123), (98, 36, 124), (98, 37, 125), (98, 38, 126), (98, 39, 127), (98, 40, 128), (98, 41, 129), (98, 42, 130), (98, 43, 131), (98, 44, 132), (98, 45, 133), (98, 46, 134), (98, 47, 135)]
theorem rl_split : ∀ q ∈ z_RL, q.1 = 98 → q ∈ z_RL5 := by decide +kernel
/-- the class's references stand -/
def z_okC (ρ : Nat → Nat → Option Nat) : Prop := (∀ q ∈ z_RL, q.1 ≠ 98 → ρ q.1 q.2.1 = some q.2.2) ∧ (∀ r, ρ 0 9 = some r → r ∈ z_LAWS) ∧ (∀ k r, ρ 1 k = some r → r ∈ z_LAWS) ∧ (∀ k r, ρ 26 k = some r → r ∈ [76, 87]) ∧ (∀ k r, ρ 39 k = some r → r ∈ [40, 41, 42, 43, 44, 45])
theorem z_ok_of {sh : List z_H} {ρ ρ' : Nat → Nat → Option Nat} (hs : sh = z_SH) (h : z_okC ρ) (ho : ∀ i : Nat, i ≠ 98 → ρ' i = ρ i) (hm : ∀ q ∈ z_RL5, ρ' q.1 q.2.1 = some q.2.2) : z_ok sh ρ' := by
  obtain ⟨h1, h2, h3, h4, h5⟩ := h
  refine ⟨hs, fun q hq => ?_, fun r hr => h2 r (by rw [← ho 0 (by decide)]; exact hr), fun k r hr => h3 k r (by rw [← ho 1 (by decide)]; exact hr), fun k r hr => h4 k r (by rw [← ho 26 (by decide)]; exact hr), fun k r hr => h5 k r (by rw [← ho 39 (by decide)]; exact hr)⟩
  by_cases h98 : q.1 = 98
  · exact hm q (rl_split q hq h98)
  · rw [ho q.1 h98]
    exact h1 q hq h98
def f_X5_init (μ : z_M) : Option z_M :=
  (z_st (z_sr μ 98 0 (some 99)) fun μ11 => (z_st (z_sr μ11 98 1 (some 100)) fun μ24 => (z_st (z_sr μ24 98 2 (some 101)) fun μ37 => (z_st (z_sr μ37 98 3 (some 102)) fun μ50 => (z_st (z_sr μ50 98 4 (some 103)) fun μ63 => (z_st (z_sr μ63 98 5 (some 104)) fun μ76 => (z_st (z_sr μ76 98 6 (some 105)) fun μ89 => (z_st (z_sr μ89 98 7 (some 106)) fun μ102 => (z_st (z_sr μ102 98 8 (some 107)) fun μ115 => (z_st (z_sr μ115 98 9 (some 108)) fun μ128 => (z_st (z_sr μ128 98 10 (some 109)) fun μ141 => (z_st (z_sr μ141 98 11 (some 110)) fun μ154 => (z_st (z_sr μ154 98 12 (some 111)) fun μ167 => (z_st (z_si μ167 98 14 (-1 : Int32)) fun μ170 => (z_st (z_sr μ170 98 22 (some 112)) fun μ183 => (z_st (z_sr μ183 98 23 (some 113)) fun μ196 => (z_st (z_sr μ196 98 25 (some 114)) fun μ209 => (z_st (z_sr μ209 98 26 (some 115)) fun μ222 => (z_st (z_sr μ222 98 28 (some 116)) fun μ235 => (z_st (z_sr μ235 98 29 (some 117)) fun μ248 => (z_st (z_sr μ248 98 30 (some 118)) fun μ261 => (z_st (z_sr μ261 98 31 (some 119)) fun μ274 => (z_st (z_sr μ274 98 32 (some 120)) fun μ287 => (z_st (z_sr μ287 98 33 (some 121)) fun μ300 => (z_st (z_sr μ300 98 34 (some 122)) fun μ313 => (z_st (z_sr μ313 98 35 (some 123)) fun μ326 => (z_st (z_sr μ326 98 36 (some 124)) fun μ339 => (z_st (z_sr μ339 98 37 (some 125)) fun μ352 => (z_st (z_sr μ352 98 38 (some 126)) fun μ365 => (z_st (z_sr μ365 98 39 (some 127)) fun μ378 => (z_st (z_sr μ378 98 40 (some 128)) fun μ391 => (z_st (z_sr μ391 98 41 (some 129)) fun μ404 => (z_st (z_sr μ404 98 42 (some 130)) fun μ417 => (z_st (z_sr μ417 98 43 (some 131)) fun μ430 => (z_st (z_sr μ430 98 44 (some 132)) fun μ443 => (z_st (z_sr μ443 98 45 (some 133)) fun μ456 => (z_st (z_sr μ456 98 46 (some 134)) fun μ469 => (z_st (z_sr μ469 98 47 (some 135)) fun μ482 => (z_b1 (f_X5_bare  μ482) fun μ485 => (z_b1 (f_X5_keepLaw (0 : Int32) μ485) fun μ490 => (z_b1 (f_X5_bare  μ490) fun μ495 => (z_b1 (f_X5_keepLaw (1 : Int32) μ495) fun μ500 => (z_b1 (f_X5_bare  μ500) fun μ505 => (z_b1 (f_X5_keepLaw (2 : Int32) μ505) fun μ510 => (z_b1 (f_X5_bare  μ510) fun μ515 => (z_b1 (f_X5_keepLaw (3 : Int32) μ515) fun μ520 => (z_b1 (f_X5_beginImages  μ520) fun μ525 => (some μ525))))))))))))))))))))))))))))))))))))))))))))))))
set_option maxHeartbeats 4000000 in
set_option maxRecDepth 100000 in
theorem t_X5_init {G : z_Gl} {μ μr : z_M} (hn : (z_sh G).length = 99) (h5 : 136 < 500) (hs : (z_sh G)[98]? = some (.inr (5, [2, 2, 2, 2, 2, 2, 2, 2, 2, 2, 2, 2, 2, 0, 0, 0, 1, 0, 0, 0, 0, 0, 2, 2, 0, 2, 2, 0, 2, 2, 2, 2, 2, 2, 2, 2, 2, 2, 2, 2, 2, 2, 2, 2, 2, 2, 2, 2]))) (hfr : z_fr μ 99) (hsh0 : z_sh G = z_SH.take 99) (hokC : z_okC μ.2.2) (h : f_X5_init μ = some μr) : z_CN G yX5_init cX5_init 2 4 37 1546 98 μ [.inl (0, 32), .inl (0, 32), .inl (0, 32), .inl (1, 32), .inl (1, 256), .inl (0, 20), .inl (0, 8), .inl (0, 8), .inl (0, 8), .inl (1, 8), .inl (1, 64), .inl (0, 5), .inl (0, 240), .inl (1, 256), .inl (0, 32), .inl (0, 7), .inl (0, 7), .inl (0, 15), .inl (0, 15), .inl (0, 15), .inl (0, 15), .inl (1, 15), .inl (0, 15), .inl (0, 15), .inl (1, 15), .inl (0, 5), .inl (0, 3), .inl (0, 15), .inl (0, 5), .inl (0, 5), .inl (0, 3), .inl (1, 15), .inl (0, 5), .inl (0, 6), .inl (0, 15), .inl (0, 300), .inl (1, 2)] μr := by
  refine z_introN (by decide +kernel) rfl (by decide) (fun E hE F Rt hc hin hY => ?_)
  subst hE
  have F : z_F E RX5 cX5_init 2 4 := F
  unfold f_X5_init at h
  show z_J E 2 0 [some (.ref 98), none] [] μ
  refine j_aload_n F (pc := 0) (q := 0) (by decide +kernel) rfl ?_
  refine j_objI F (pc := 1) (idx := 1) ⟨m_874, m_97, m_98⟩ (by decide) (Nat.le_of_ble_eq_true rfl) (by decide +kernel) ?_
  refine j_aload_n F (pc := 4) (q := 0) (by decide +kernel) rfl ?_
  refine j_bipush F (pc := 5) (n := 32) (v := 32) (by decide +kernel) (by decide +kernel) ?_
  refine j_newaI F (pc := 7) (n := 99) (N := 32) hn (by omega) hfr ⟨(z_olr (by omega)), trivial⟩ ⟨(z_olr (by omega)), trivial⟩ (by decide +kernel) (by decide) (by decide) (by rw [hc.1, hc.2.2.1]; decide) (by rw [hc.2.1, hc.2.2.2]; decide) m_138 (by decide +kernel) (fun E1 g2 F3 => ?_)
  have hn6 : (z_sh E1.1).length = 100 := g2.len hn
  have Rt4 := g2.rn (by omega) Rt
  have hc5 := g2.cn hc
  have hs7 := g2.get hs
  have hin8 := g2.nm hin
  have hY9 : z_Y (z_St E1) := by rw [g2.st]; exact hY
  have hfr10 : z_fr μ 100 := hfr.up (by omega)
  refine j_putRF F3 (pc := 9) (Or.inr ⟨_, rfl⟩) hin8 (fun _ _ _ h => by cases h; rfl) fl_X5_7 fp_X5_0 hs7 rfl (by decide +kernel) ?_
  obtain ⟨μ11, e12, h⟩ := z_st_some h
  rw [← e12]
  have hfr13 : z_fr μ11 100 := by rw [e12]; exact hfr10.sr (by omega) (by omega)
  refine j_aload_n F3 (pc := 12) (q := 0) (by decide +kernel) rfl ?_
  refine j_bipush F3 (pc := 13) (n := 32) (v := 32) (by decide +kernel) (by decide +kernel) ?_
  refine j_newaI F3 (pc := 15) (n := 100) (N := 32) hn6 (by omega) hfr13 ⟨(z_olr (by omega)), trivial⟩ ⟨(z_olr (by omega)), trivial⟩ (by decide +kernel) (by decide) (by decide) (by rw [hc5.1, hc5.2.2.1]; decide) (by rw [hc5.2.1, hc5.2.2.2]; decide) m_138 (by decide +kernel) (fun E14 g15 F16 => ?_)
  have hn19 : (z_sh E14.1).length = 101 := g15.len hn6
  have Rt17 := g15.rn (by omega) Rt4
  have hc18 := g15.cn hc5
  have hs20 := g15.get hs7
  have hin21 := g15.nm hin8
  have hY22 : z_Y (z_St E14) := by rw [g15.st]; exact hY9
  have hfr23 : z_fr μ11 101 := hfr13.up (by omega)
  refine j_putRF F16 (pc := 17) (Or.inr ⟨_, rfl⟩) hin21 (fun _ _ _ h => by cases h; rfl) fl_X5_13 fp_X5_1 hs20 rfl (by decide +kernel) ?_
  obtain ⟨μ24, e25, h⟩ := z_st_some h
  rw [← e25]
  have hfr26 : z_fr μ24 101 := by rw [e25]; exact hfr23.sr (by omega) (by omega)
  refine j_aload_n F16 (pc := 20) (q := 0) (by decide +kernel) rfl ?_
  refine j_bipush F16 (pc := 21) (n := 32) (v := 32) (by decide +kernel) (by decide +kernel) ?_
  refine j_newaI F16 (pc := 23) (n := 101) (N := 32) hn19 (by omega) hfr26 ⟨(z_olr (by omega)), trivial⟩ ⟨(z_olr (by omega)), trivial⟩ (by decide +kernel) (by decide) (by decide) (by rw [hc18.1, hc18.2.2.1]; decide) (by rw [hc18.2.1, hc18.2.2.2]; decide) m_138 (by decide +kernel) (fun E27 g28 F29 => ?_)
  have hn32 : (z_sh E27.1).length = 102 := g28.len hn19
  have Rt30 := g28.rn (by omega) Rt17
  have hc31 := g28.cn hc18
  have hs33 := g28.get hs20
  have hin34 := g28.nm hin21
  have hY35 : z_Y (z_St E27) := by rw [g28.st]; exact hY22
  have hfr36 : z_fr μ24 102 := hfr26.up (by omega)
  refine j_putRF F29 (pc := 25) (Or.inr ⟨_, rfl⟩) hin34 (fun _ _ _ h => by cases h; rfl) fl_X5_16 fp_X5_2 hs33 rfl (by decide +kernel) ?_
  obtain ⟨μ37, e38, h⟩ := z_st_some h
  rw [← e38]
  have hfr39 : z_fr μ37 102 := by rw [e38]; exact hfr36.sr (by omega) (by omega)
  refine j_aload_n F29 (pc := 28) (q := 0) (by decide +kernel) rfl ?_
  refine j_bipush F29 (pc := 29) (n := 32) (v := 32) (by decide +kernel) (by decide +kernel) ?_
  refine j_newaZ F29 (pc := 31) (n := 102) (N := 32) hn32 (by omega) hfr39 ⟨(z_olr (by omega)), trivial⟩ ⟨(z_olr (by omega)), trivial⟩ (by decide +kernel) (by decide) (by decide) (by rw [hc31.1, hc31.2.2.1]; decide) (by rw [hc31.2.1, hc31.2.2.2]; decide) m_265 (by decide +kernel) (fun E40 g41 F42 => ?_)
  have hn45 : (z_sh E40.1).length = 103 := g41.len hn32
  have Rt43 := g41.rn (by omega) Rt30
  have hc44 := g41.cn hc31
  have hs46 := g41.get hs33
  have hin47 := g41.nm hin34
  have hY48 : z_Y (z_St E40) := by rw [g41.st]; exact hY35
  have hfr49 : z_fr μ37 103 := hfr39.up (by omega)
  refine j_putRF F42 (pc := 33) (Or.inr ⟨_, rfl⟩) hin47 (fun _ _ _ h => by cases h; rfl) fl_X5_19 fp_X5_3 hs46 rfl (by decide +kernel) ?_
  obtain ⟨μ50, e51, h⟩ := z_st_some h
  rw [← e51]
  have hfr52 : z_fr μ50 103 := by rw [e51]; exact hfr49.sr (by omega) (by omega)
  refine j_aload_n F42 (pc := 36) (q := 0) (by decide +kernel) rfl ?_
  refine j_sipush F42 (pc := 37) (n := 256) (v := 256) (by decide +kernel) (by decide +kernel) ?_
  refine j_newaZ F42 (pc := 40) (n := 103) (N := 256) hn45 (by omega) hfr52 ⟨(z_olr (by omega)), trivial⟩ ⟨(z_olr (by omega)), trivial⟩ (by decide +kernel) (by decide) (by decide) (by rw [hc44.1, hc44.2.2.1]; decide) (by rw [hc44.2.1, hc44.2.2.2]; decide) m_265 (by decide +kernel) (fun E53 g54 F55 => ?_)
  have hn58 : (z_sh E53.1).length = 104 := g54.len hn45
  have Rt56 := g54.rn (by omega) Rt43
  have hc57 := g54.cn hc44
  have hs59 := g54.get hs46
  have hin60 := g54.nm hin47
  have hY61 : z_Y (z_St E53) := by rw [g54.st]; exact hY48
  have hfr62 : z_fr μ50 104 := hfr52.up (by omega)
  refine j_putRF F55 (pc := 42) (Or.inr ⟨_, rfl⟩) hin60 (fun _ _ _ h => by cases h; rfl) fl_X5_23 fp_X5_4 hs59 rfl (by decide +kernel) ?_
  obtain ⟨μ63, e64, h⟩ := z_st_some h
  rw [← e64]
  have hfr65 : z_fr μ63 104 := by rw [e64]; exact hfr62.sr (by omega) (by omega)
  refine j_aload_n F55 (pc := 45) (q := 0) (by decide +kernel) rfl ?_
  refine j_bipush F55 (pc := 46) (n := 20) (v := 20) (by decide +kernel) (by decide +kernel) ?_
  refine j_newaI F55 (pc := 48) (n := 104) (N := 20) hn58 (by omega) hfr65 ⟨(z_olr (by omega)), trivial⟩ ⟨(z_olr (by omega)), trivial⟩ (by decide +kernel) (by decide) (by decide) (by rw [hc57.1, hc57.2.2.1]; decide) (by rw [hc57.2.1, hc57.2.2.2]; decide) m_138 (by decide +kernel) (fun E66 g67 F68 => ?_)
  have hn71 : (z_sh E66.1).length = 105 := g67.len hn58
  have Rt69 := g67.rn (by omega) Rt56
  have hc70 := g67.cn hc57
  have hs72 := g67.get hs59
  have hin73 := g67.nm hin60
  have hY74 : z_Y (z_St E66) := by rw [g67.st]; exact hY61
  have hfr75 : z_fr μ63 105 := hfr65.up (by omega)
  refine j_putRF F68 (pc := 50) (Or.inr ⟨_, rfl⟩) hin73 (fun _ _ _ h => by cases h; rfl) fl_X5_26 fp_X5_5 hs72 rfl (by decide +kernel) ?_
  obtain ⟨μ76, e77, h⟩ := z_st_some h
  rw [← e77]
  have hfr78 : z_fr μ76 105 := by rw [e77]; exact hfr75.sr (by omega) (by omega)
  refine j_aload_n F68 (pc := 53) (q := 0) (by decide +kernel) rfl ?_
  refine j_bipush F68 (pc := 54) (n := 8) (v := 8) (by decide +kernel) (by decide +kernel) ?_
  refine j_newaI F68 (pc := 56) (n := 105) (N := 8) hn71 (by omega) hfr78 ⟨(z_olr (by omega)), trivial⟩ ⟨(z_olr (by omega)), trivial⟩ (by decide +kernel) (by decide) (by decide) (by rw [hc70.1, hc70.2.2.1]; decide) (by rw [hc70.2.1, hc70.2.2.2]; decide) m_138 (by decide +kernel) (fun E79 g80 F81 => ?_)
  have hn84 : (z_sh E79.1).length = 106 := g80.len hn71
  have Rt82 := g80.rn (by omega) Rt69
  have hc83 := g80.cn hc70
  have hs85 := g80.get hs72
  have hin86 := g80.nm hin73
  have hY87 : z_Y (z_St E79) := by rw [g80.st]; exact hY74
  have hfr88 : z_fr μ76 106 := hfr78.up (by omega)
  refine j_putRF F81 (pc := 58) (Or.inr ⟨_, rfl⟩) hin86 (fun _ _ _ h => by cases h; rfl) fl_X5_29 fp_X5_6 hs85 rfl (by decide +kernel) ?_
  obtain ⟨μ89, e90, h⟩ := z_st_some h
  rw [← e90]
  have hfr91 : z_fr μ89 106 := by rw [e90]; exact hfr88.sr (by omega) (by omega)
  refine j_aload_n F81 (pc := 61) (q := 0) (by decide +kernel) rfl ?_
  refine j_bipush F81 (pc := 62) (n := 8) (v := 8) (by decide +kernel) (by decide +kernel) ?_
  refine j_newaI F81 (pc := 64) (n := 106) (N := 8) hn84 (by omega) hfr91 ⟨(z_olr (by omega)), trivial⟩ ⟨(z_olr (by omega)), trivial⟩ (by decide +kernel) (by decide) (by decide) (by rw [hc83.1, hc83.2.2.1]; decide) (by rw [hc83.2.1, hc83.2.2.2]; decide) m_138 (by decide +kernel) (fun E92 g93 F94 => ?_)
  have hn97 : (z_sh E92.1).length = 107 := g93.len hn84
  have Rt95 := g93.rn (by omega) Rt82
  have hc96 := g93.cn hc83
  have hs98 := g93.get hs85
  have hin99 := g93.nm hin86
  have hY100 : z_Y (z_St E92) := by rw [g93.st]; exact hY87
  have hfr101 : z_fr μ89 107 := hfr91.up (by omega)
  refine j_putRF F94 (pc := 66) (Or.inr ⟨_, rfl⟩) hin99 (fun _ _ _ h => by cases h; rfl) fl_X5_32 fp_X5_7 hs98 rfl (by decide +kernel) ?_
  obtain ⟨μ102, e103, h⟩ := z_st_some h
  rw [← e103]
  have hfr104 : z_fr μ102 107 := by rw [e103]; exact hfr101.sr (by omega) (by omega)
  refine j_aload_n F94 (pc := 69) (q := 0) (by decide +kernel) rfl ?_
  refine j_bipush F94 (pc := 70) (n := 8) (v := 8) (by decide +kernel) (by decide +kernel) ?_
  refine j_newaI F94 (pc := 72) (n := 107) (N := 8) hn97 (by omega) hfr104 ⟨(z_olr (by omega)), trivial⟩ ⟨(z_olr (by omega)), trivial⟩ (by decide +kernel) (by decide) (by decide) (by rw [hc96.1, hc96.2.2.1]; decide) (by rw [hc96.2.1, hc96.2.2.2]; decide) m_138 (by decide +kernel) (fun E105 g106 F107 => ?_)
  have hn110 : (z_sh E105.1).length = 108 := g106.len hn97
  have Rt108 := g106.rn (by omega) Rt95
  have hc109 := g106.cn hc96
  have hs111 := g106.get hs98
  have hin112 := g106.nm hin99
  have hY113 : z_Y (z_St E105) := by rw [g106.st]; exact hY100
  have hfr114 : z_fr μ102 108 := hfr104.up (by omega)
  refine j_putRF F107 (pc := 74) (Or.inr ⟨_, rfl⟩) hin112 (fun _ _ _ h => by cases h; rfl) fl_X5_35 fp_X5_8 hs111 rfl (by decide +kernel) ?_
  obtain ⟨μ115, e116, h⟩ := z_st_some h
  rw [← e116]
  have hfr117 : z_fr μ115 108 := by rw [e116]; exact hfr114.sr (by omega) (by omega)
  refine j_aload_n F107 (pc := 77) (q := 0) (by decide +kernel) rfl ?_
  refine j_bipush F107 (pc := 78) (n := 8) (v := 8) (by decide +kernel) (by decide +kernel) ?_
  refine j_newaZ F107 (pc := 80) (n := 108) (N := 8) hn110 (by omega) hfr117 ⟨(z_olr (by omega)), trivial⟩ ⟨(z_olr (by omega)), trivial⟩ (by decide +kernel) (by decide) (by decide) (by rw [hc109.1, hc109.2.2.1]; decide) (by rw [hc109.2.1, hc109.2.2.2]; decide) m_265 (by decide +kernel) (fun E118 g119 F120 => ?_)
  have hn123 : (z_sh E118.1).length = 109 := g119.len hn110
  have Rt121 := g119.rn (by omega) Rt108
  have hc122 := g119.cn hc109
  have hs124 := g119.get hs111
  have hin125 := g119.nm hin112
  have hY126 : z_Y (z_St E118) := by rw [g119.st]; exact hY113
  have hfr127 : z_fr μ115 109 := hfr117.up (by omega)
  refine j_putRF F120 (pc := 82) (Or.inr ⟨_, rfl⟩) hin125 (fun _ _ _ h => by cases h; rfl) fl_X5_38 fp_X5_9 hs124 rfl (by decide +kernel) ?_
  obtain ⟨μ128, e129, h⟩ := z_st_some h
  rw [← e129]
  have hfr130 : z_fr μ128 109 := by rw [e129]; exact hfr127.sr (by omega) (by omega)
  refine j_aload_n F120 (pc := 85) (q := 0) (by decide +kernel) rfl ?_
  refine j_bipush F120 (pc := 86) (n := 64) (v := 64) (by decide +kernel) (by decide +kernel) ?_
  refine j_newaZ F120 (pc := 88) (n := 109) (N := 64) hn123 (by omega) hfr130 ⟨(z_olr (by omega)), trivial⟩ ⟨(z_olr (by omega)), trivial⟩ (by decide +kernel) (by decide) (by decide) (by rw [hc122.1, hc122.2.2.1]; decide) (by rw [hc122.2.1, hc122.2.2.2]; decide) m_265 (by decide +kernel) (fun E131 g132 F133 => ?_)
  have hn136 : (z_sh E131.1).length = 110 := g132.len hn123
  have Rt134 := g132.rn (by omega) Rt121
  have hc135 := g132.cn hc122
  have hs137 := g132.get hs124
  have hin138 := g132.nm hin125
  have hY139 : z_Y (z_St E131) := by rw [g132.st]; exact hY126
  have hfr140 : z_fr μ128 110 := hfr130.up (by omega)
  refine j_putRF F133 (pc := 90) (Or.inr ⟨_, rfl⟩) hin138 (fun _ _ _ h => by cases h; rfl) fl_X5_41 fp_X5_10 hs137 rfl (by decide +kernel) ?_
  obtain ⟨μ141, e142, h⟩ := z_st_some h
  rw [← e142]
  have hfr143 : z_fr μ141 110 := by rw [e142]; exact hfr140.sr (by omega) (by omega)
  refine j_aload_n F133 (pc := 93) (q := 0) (by decide +kernel) rfl ?_
  refine j_iconst F133 (pc := 94) (n := 5) (v := 5) (by decide +kernel) (by decide +kernel) ?_
  refine j_newaI F133 (pc := 95) (n := 110) (N := 5) hn136 (by omega) hfr143 ⟨(z_olr (by omega)), trivial⟩ ⟨(z_olr (by omega)), trivial⟩ (by decide +kernel) (by decide) (by decide) (by rw [hc135.1, hc135.2.2.1]; decide) (by rw [hc135.2.1, hc135.2.2.2]; decide) m_138 (by decide +kernel) (fun E144 g145 F146 => ?_)
  have hn149 : (z_sh E144.1).length = 111 := g145.len hn136
  have Rt147 := g145.rn (by omega) Rt134
  have hc148 := g145.cn hc135
  have hs150 := g145.get hs137
  have hin151 := g145.nm hin138
  have hY152 : z_Y (z_St E144) := by rw [g145.st]; exact hY139
  have hfr153 : z_fr μ141 111 := hfr143.up (by omega)
  refine j_putRF F146 (pc := 97) (Or.inr ⟨_, rfl⟩) hin151 (fun _ _ _ h => by cases h; rfl) fl_X5_44 fp_X5_11 hs150 rfl (by decide +kernel) ?_
  obtain ⟨μ154, e155, h⟩ := z_st_some h
  rw [← e155]
  have hfr156 : z_fr μ154 111 := by rw [e155]; exact hfr153.sr (by omega) (by omega)
  refine j_aload_n F146 (pc := 100) (q := 0) (by decide +kernel) rfl ?_
  refine j_sipush F146 (pc := 101) (n := 240) (v := 240) (by decide +kernel) (by decide +kernel) ?_
  refine j_newaI F146 (pc := 104) (n := 111) (N := 240) hn149 (by omega) hfr156 ⟨(z_olr (by omega)), trivial⟩ ⟨(z_olr (by omega)), trivial⟩ (by decide +kernel) (by decide) (by decide) (by rw [hc148.1, hc148.2.2.1]; decide) (by rw [hc148.2.1, hc148.2.2.2]; decide) m_138 (by decide +kernel) (fun E157 g158 F159 => ?_)
  have hn162 : (z_sh E157.1).length = 112 := g158.len hn149
  have Rt160 := g158.rn (by omega) Rt147
  have hc161 := g158.cn hc148
  have hs163 := g158.get hs150
  have hin164 := g158.nm hin151
  have hY165 : z_Y (z_St E157) := by rw [g158.st]; exact hY152
  have hfr166 : z_fr μ154 112 := hfr156.up (by omega)
  refine j_putRF F159 (pc := 106) (Or.inr ⟨_, rfl⟩) hin164 (fun _ _ _ h => by cases h; rfl) fl_X5_47 fp_X5_12 hs163 rfl (by decide +kernel) ?_
  obtain ⟨μ167, e168, h⟩ := z_st_some h
  rw [← e168]
  have hfr169 : z_fr μ167 112 := by rw [e168]; exact hfr166.sr (by omega) (by omega)
  refine j_aload_n F159 (pc := 109) (q := 0) (by decide +kernel) rfl ?_
  refine j_iconst F159 (pc := 110) (n := -1) (v := -1) (by decide +kernel) (by decide +kernel) ?_
  refine j_putI F159 (pc := 111) fl_X5_50 fp_X5_14 hs163 rfl (by decide +kernel) ?_
  obtain ⟨μ170, e171, h⟩ := z_st_some h
  rw [← e171]
  have hfr172 : z_fr μ170 112 := by rw [e171]; exact hfr169.si (by omega)
  refine j_aload_n F159 (pc := 114) (q := 0) (by decide +kernel) rfl ?_
  refine j_sipush F159 (pc := 115) (n := 256) (v := 256) (by decide +kernel) (by decide +kernel) ?_
  refine j_newaZ F159 (pc := 118) (n := 112) (N := 256) hn162 (by omega) hfr172 ⟨(z_olr (by omega)), trivial⟩ ⟨(z_olr (by omega)), trivial⟩ (by decide +kernel) (by decide) (by decide) (by rw [hc161.1, hc161.2.2.1]; decide) (by rw [hc161.2.1, hc161.2.2.2]; decide) m_265 (by decide +kernel) (fun E173 g174 F175 => ?_)
  have hn178 : (z_sh E173.1).length = 113 := g174.len hn162
  have Rt176 := g174.rn (by omega) Rt160
  have hc177 := g174.cn hc161
  have hs179 := g174.get hs163
  have hin180 := g174.nm hin164
  have hY181 : z_Y (z_St E173) := by rw [g174.st]; exact hY165
  have hfr182 : z_fr μ170 113 := hfr172.up (by omega)
  refine j_putRF F175 (pc := 120) (Or.inr ⟨_, rfl⟩) hin180 (fun _ _ _ h => by cases h; rfl) fl_X5_54 fp_X5_22 hs179 rfl (by decide +kernel) ?_
  obtain ⟨μ183, e184, h⟩ := z_st_some h
  rw [← e184]
  have hfr185 : z_fr μ183 113 := by rw [e184]; exact hfr182.sr (by omega) (by omega)
  refine j_aload_n F175 (pc := 123) (q := 0) (by decide +kernel) rfl ?_
  refine j_bipush F175 (pc := 124) (n := 32) (v := 32) (by decide +kernel) (by decide +kernel) ?_
  refine j_newaI F175 (pc := 126) (n := 113) (N := 32) hn178 (by omega) hfr185 ⟨(z_olr (by omega)), trivial⟩ ⟨(z_olr (by omega)), trivial⟩ (by decide +kernel) (by decide) (by decide) (by rw [hc177.1, hc177.2.2.1]; decide) (by rw [hc177.2.1, hc177.2.2.2]; decide) m_138 (by decide +kernel) (fun E186 g187 F188 => ?_)
  have hn191 : (z_sh E186.1).length = 114 := g187.len hn178
  have Rt189 := g187.rn (by omega) Rt176
  have hc190 := g187.cn hc177
  have hs192 := g187.get hs179
  have hin193 := g187.nm hin180
  have hY194 : z_Y (z_St E186) := by rw [g187.st]; exact hY181
  have hfr195 : z_fr μ183 114 := hfr185.up (by omega)
  refine j_putRF F188 (pc := 128) (Or.inr ⟨_, rfl⟩) hin193 (fun _ _ _ h => by cases h; rfl) fl_X5_57 fp_X5_23 hs192 rfl (by decide +kernel) ?_
  obtain ⟨μ196, e197, h⟩ := z_st_some h
  rw [← e197]
  have hfr198 : z_fr μ196 114 := by rw [e197]; exact hfr195.sr (by omega) (by omega)
  refine j_aload_n F188 (pc := 131) (q := 0) (by decide +kernel) rfl ?_
  refine j_bipush F188 (pc := 132) (n := 7) (v := 7) (by decide +kernel) (by decide +kernel) ?_
  refine j_newaI F188 (pc := 134) (n := 114) (N := 7) hn191 (by omega) hfr198 ⟨(z_olr (by omega)), trivial⟩ ⟨(z_olr (by omega)), trivial⟩ (by decide +kernel) (by decide) (by decide) (by rw [hc190.1, hc190.2.2.1]; decide) (by rw [hc190.2.1, hc190.2.2.2]; decide) m_138 (by decide +kernel) (fun E199 g200 F201 => ?_)
  have hn204 : (z_sh E199.1).length = 115 := g200.len hn191
  have Rt202 := g200.rn (by omega) Rt189
  have hc203 := g200.cn hc190
  have hs205 := g200.get hs192
  have hin206 := g200.nm hin193
  have hY207 : z_Y (z_St E199) := by rw [g200.st]; exact hY194
  have hfr208 : z_fr μ196 115 := hfr198.up (by omega)
  refine j_putRF F201 (pc := 136) (Or.inr ⟨_, rfl⟩) hin206 (fun _ _ _ h => by cases h; rfl) fl_X5_60 fp_X5_25 hs205 rfl (by decide +kernel) ?_
  obtain ⟨μ209, e210, h⟩ := z_st_some h
  rw [← e210]
  have hfr211 : z_fr μ209 115 := by rw [e210]; exact hfr208.sr (by omega) (by omega)
  refine j_aload_n F201 (pc := 139) (q := 0) (by decide +kernel) rfl ?_
  refine j_bipush F201 (pc := 140) (n := 7) (v := 7) (by decide +kernel) (by decide +kernel) ?_
  refine j_newaI F201 (pc := 142) (n := 115) (N := 7) hn204 (by omega) hfr211 ⟨(z_olr (by omega)), trivial⟩ ⟨(z_olr (by omega)), trivial⟩ (by decide +kernel) (by decide) (by decide) (by rw [hc203.1, hc203.2.2.1]; decide) (by rw [hc203.2.1, hc203.2.2.2]; decide) m_138 (by decide +kernel) (fun E212 g213 F214 => ?_)
  have hn217 : (z_sh E212.1).length = 116 := g213.len hn204
  have Rt215 := g213.rn (by omega) Rt202
  have hc216 := g213.cn hc203
  have hs218 := g213.get hs205
  have hin219 := g213.nm hin206
  have hY220 : z_Y (z_St E212) := by rw [g213.st]; exact hY207
  have hfr221 : z_fr μ209 116 := hfr211.up (by omega)
  refine j_putRF F214 (pc := 144) (Or.inr ⟨_, rfl⟩) hin219 (fun _ _ _ h => by cases h; rfl) fl_X5_63 fp_X5_26 hs218 rfl (by decide +kernel) ?_
  obtain ⟨μ222, e223, h⟩ := z_st_some h
  rw [← e223]
  have hfr224 : z_fr μ222 116 := by rw [e223]; exact hfr221.sr (by omega) (by omega)
  refine j_aload_n F214 (pc := 147) (q := 0) (by decide +kernel) rfl ?_
  refine j_bipush F214 (pc := 148) (n := 15) (v := 15) (by decide +kernel) (by decide +kernel) ?_
  refine j_newaI F214 (pc := 150) (n := 116) (N := 15) hn217 (by omega) hfr224 ⟨(z_olr (by omega)), trivial⟩ ⟨(z_olr (by omega)), trivial⟩ (by decide +kernel) (by decide) (by decide) (by rw [hc216.1, hc216.2.2.1]; decide) (by rw [hc216.2.1, hc216.2.2.2]; decide) m_138 (by decide +kernel) (fun E225 g226 F227 => ?_)
  have hn230 : (z_sh E225.1).length = 117 := g226.len hn217
  have Rt228 := g226.rn (by omega) Rt215
  have hc229 := g226.cn hc216
  have hs231 := g226.get hs218
  have hin232 := g226.nm hin219
  have hY233 : z_Y (z_St E225) := by rw [g226.st]; exact hY220
  have hfr234 : z_fr μ222 117 := hfr224.up (by omega)
  refine j_putRF F227 (pc := 152) (Or.inr ⟨_, rfl⟩) hin232 (fun _ _ _ h => by cases h; rfl) fl_X5_66 fp_X5_28 hs231 rfl (by decide +kernel) ?_
  obtain ⟨μ235, e236, h⟩ := z_st_some h
  rw [← e236]
  have hfr237 : z_fr μ235 117 := by rw [e236]; exact hfr234.sr (by omega) (by omega)
  refine j_aload_n F227 (pc := 155) (q := 0) (by decide +kernel) rfl ?_
  refine j_bipush F227 (pc := 156) (n := 15) (v := 15) (by decide +kernel) (by decide +kernel) ?_
  refine j_newaI F227 (pc := 158) (n := 117) (N := 15) hn230 (by omega) hfr237 ⟨(z_olr (by omega)), trivial⟩ ⟨(z_olr (by omega)), trivial⟩ (by decide +kernel) (by decide) (by decide) (by rw [hc229.1, hc229.2.2.1]; decide) (by rw [hc229.2.1, hc229.2.2.2]; decide) m_138 (by decide +kernel) (fun E238 g239 F240 => ?_)
  have hn243 : (z_sh E238.1).length = 118 := g239.len hn230
  have Rt241 := g239.rn (by omega) Rt228
  have hc242 := g239.cn hc229
  have hs244 := g239.get hs231
  have hin245 := g239.nm hin232
  have hY246 : z_Y (z_St E238) := by rw [g239.st]; exact hY233
  have hfr247 : z_fr μ235 118 := hfr237.up (by omega)
  refine j_putRF F240 (pc := 160) (Or.inr ⟨_, rfl⟩) hin245 (fun _ _ _ h => by cases h; rfl) fl_X5_69 fp_X5_29 hs244 rfl (by decide +kernel) ?_
  obtain ⟨μ248, e249, h⟩ := z_st_some h
  rw [← e249]
  have hfr250 : z_fr μ248 118 := by rw [e249]; exact hfr247.sr (by omega) (by omega)
  refine j_aload_n F240 (pc := 163) (q := 0) (by decide +kernel) rfl ?_
  refine j_bipush F240 (pc := 164) (n := 15) (v := 15) (by decide +kernel) (by decide +kernel) ?_
  refine j_newaI F240 (pc := 166) (n := 118) (N := 15) hn243 (by omega) hfr250 ⟨(z_olr (by omega)), trivial⟩ ⟨(z_olr (by omega)), trivial⟩ (by decide +kernel) (by decide) (by decide) (by rw [hc242.1, hc242.2.2.1]; decide) (by rw [hc242.2.1, hc242.2.2.2]; decide) m_138 (by decide +kernel) (fun E251 g252 F253 => ?_)
  have hn256 : (z_sh E251.1).length = 119 := g252.len hn243
  have Rt254 := g252.rn (by omega) Rt241
  have hc255 := g252.cn hc242
  have hs257 := g252.get hs244
  have hin258 := g252.nm hin245
  have hY259 : z_Y (z_St E251) := by rw [g252.st]; exact hY246
  have hfr260 : z_fr μ248 119 := hfr250.up (by omega)
  refine j_putRF F253 (pc := 168) (Or.inr ⟨_, rfl⟩) hin258 (fun _ _ _ h => by cases h; rfl) fl_X5_72 fp_X5_30 hs257 rfl (by decide +kernel) ?_
  obtain ⟨μ261, e262, h⟩ := z_st_some h
  rw [← e262]
  have hfr263 : z_fr μ261 119 := by rw [e262]; exact hfr260.sr (by omega) (by omega)
  refine j_aload_n F253 (pc := 171) (q := 0) (by decide +kernel) rfl ?_
  refine j_bipush F253 (pc := 172) (n := 15) (v := 15) (by decide +kernel) (by decide +kernel) ?_
  refine j_newaI F253 (pc := 174) (n := 119) (N := 15) hn256 (by omega) hfr263 ⟨(z_olr (by omega)), trivial⟩ ⟨(z_olr (by omega)), trivial⟩ (by decide +kernel) (by decide) (by decide) (by rw [hc255.1, hc255.2.2.1]; decide) (by rw [hc255.2.1, hc255.2.2.2]; decide) m_138 (by decide +kernel) (fun E264 g265 F266 => ?_)
  have hn269 : (z_sh E264.1).length = 120 := g265.len hn256
  have Rt267 := g265.rn (by omega) Rt254
  have hc268 := g265.cn hc255
  have hs270 := g265.get hs257
  have hin271 := g265.nm hin258
  have hY272 : z_Y (z_St E264) := by rw [g265.st]; exact hY259
  have hfr273 : z_fr μ261 120 := hfr263.up (by omega)
  refine j_putRF F266 (pc := 176) (Or.inr ⟨_, rfl⟩) hin271 (fun _ _ _ h => by cases h; rfl) fl_X5_75 fp_X5_31 hs270 rfl (by decide +kernel) ?_
  obtain ⟨μ274, e275, h⟩ := z_st_some h
  rw [← e275]
  have hfr276 : z_fr μ274 120 := by rw [e275]; exact hfr273.sr (by omega) (by omega)
  refine j_aload_n F266 (pc := 179) (q := 0) (by decide +kernel) rfl ?_
  refine j_bipush F266 (pc := 180) (n := 15) (v := 15) (by decide +kernel) (by decide +kernel) ?_
  refine j_newaZ F266 (pc := 182) (n := 120) (N := 15) hn269 (by omega) hfr276 ⟨(z_olr (by omega)), trivial⟩ ⟨(z_olr (by omega)), trivial⟩ (by decide +kernel) (by decide) (by decide) (by rw [hc268.1, hc268.2.2.1]; decide) (by rw [hc268.2.1, hc268.2.2.2]; decide) m_265 (by decide +kernel) (fun E277 g278 F279 => ?_)
  have hn282 : (z_sh E277.1).length = 121 := g278.len hn269
  have Rt280 := g278.rn (by omega) Rt267
  have hc281 := g278.cn hc268
  have hs283 := g278.get hs270
  have hin284 := g278.nm hin271
  have hY285 : z_Y (z_St E277) := by rw [g278.st]; exact hY272
  have hfr286 : z_fr μ274 121 := hfr276.up (by omega)
  refine j_putRF F279 (pc := 184) (Or.inr ⟨_, rfl⟩) hin284 (fun _ _ _ h => by cases h; rfl) fl_X5_78 fp_X5_32 hs283 rfl (by decide +kernel) ?_
  obtain ⟨μ287, e288, h⟩ := z_st_some h
  rw [← e288]
  have hfr289 : z_fr μ287 121 := by rw [e288]; exact hfr286.sr (by omega) (by omega)
  refine j_aload_n F279 (pc := 187) (q := 0) (by decide +kernel) rfl ?_
  refine j_bipush F279 (pc := 188) (n := 15) (v := 15) (by decide +kernel) (by decide +kernel) ?_
  refine j_newaI F279 (pc := 190) (n := 121) (N := 15) hn282 (by omega) hfr289 ⟨(z_olr (by omega)), trivial⟩ ⟨(z_olr (by omega)), trivial⟩ (by decide +kernel) (by decide) (by decide) (by rw [hc281.1, hc281.2.2.1]; decide) (by rw [hc281.2.1, hc281.2.2.2]; decide) m_138 (by decide +kernel) (fun E290 g291 F292 => ?_)
  have hn295 : (z_sh E290.1).length = 122 := g291.len hn282
  have Rt293 := g291.rn (by omega) Rt280
  have hc294 := g291.cn hc281
  have hs296 := g291.get hs283
  have hin297 := g291.nm hin284
  have hY298 : z_Y (z_St E290) := by rw [g291.st]; exact hY285
  have hfr299 : z_fr μ287 122 := hfr289.up (by omega)
  refine j_putRF F292 (pc := 192) (Or.inr ⟨_, rfl⟩) hin297 (fun _ _ _ h => by cases h; rfl) fl_X5_81 fp_X5_33 hs296 rfl (by decide +kernel) ?_
  obtain ⟨μ300, e301, h⟩ := z_st_some h
  rw [← e301]
  have hfr302 : z_fr μ300 122 := by rw [e301]; exact hfr299.sr (by omega) (by omega)
  refine j_aload_n F292 (pc := 195) (q := 0) (by decide +kernel) rfl ?_
  refine j_bipush F292 (pc := 196) (n := 15) (v := 15) (by decide +kernel) (by decide +kernel) ?_
  refine j_newaI F292 (pc := 198) (n := 122) (N := 15) hn295 (by omega) hfr302 ⟨(z_olr (by omega)), trivial⟩ ⟨(z_olr (by omega)), trivial⟩ (by decide +kernel) (by decide) (by decide) (by rw [hc294.1, hc294.2.2.1]; decide) (by rw [hc294.2.1, hc294.2.2.2]; decide) m_138 (by decide +kernel) (fun E303 g304 F305 => ?_)
  have hn308 : (z_sh E303.1).length = 123 := g304.len hn295
  have Rt306 := g304.rn (by omega) Rt293
  have hc307 := g304.cn hc294
  have hs309 := g304.get hs296
  have hin310 := g304.nm hin297
  have hY311 : z_Y (z_St E303) := by rw [g304.st]; exact hY298
  have hfr312 : z_fr μ300 123 := hfr302.up (by omega)
  refine j_putRF F305 (pc := 200) (Or.inr ⟨_, rfl⟩) hin310 (fun _ _ _ h => by cases h; rfl) fl_X5_84 fp_X5_34 hs309 rfl (by decide +kernel) ?_
  obtain ⟨μ313, e314, h⟩ := z_st_some h
  rw [← e314]
  have hfr315 : z_fr μ313 123 := by rw [e314]; exact hfr312.sr (by omega) (by omega)
  refine j_aload_n F305 (pc := 203) (q := 0) (by decide +kernel) rfl ?_
  refine j_bipush F305 (pc := 204) (n := 15) (v := 15) (by decide +kernel) (by decide +kernel) ?_
  refine j_newaZ F305 (pc := 206) (n := 123) (N := 15) hn308 (by omega) hfr315 ⟨(z_olr (by omega)), trivial⟩ ⟨(z_olr (by omega)), trivial⟩ (by decide +kernel) (by decide) (by decide) (by rw [hc307.1, hc307.2.2.1]; decide) (by rw [hc307.2.1, hc307.2.2.2]; decide) m_265 (by decide +kernel) (fun E316 g317 F318 => ?_)
  have hn321 : (z_sh E316.1).length = 124 := g317.len hn308
  have Rt319 := g317.rn (by omega) Rt306
  have hc320 := g317.cn hc307
  have hs322 := g317.get hs309
  have hin323 := g317.nm hin310
  have hY324 : z_Y (z_St E316) := by rw [g317.st]; exact hY311
  have hfr325 : z_fr μ313 124 := hfr315.up (by omega)
  refine j_putRF F318 (pc := 208) (Or.inr ⟨_, rfl⟩) hin323 (fun _ _ _ h => by cases h; rfl) fl_X5_87 fp_X5_35 hs322 rfl (by decide +kernel) ?_
  obtain ⟨μ326, e327, h⟩ := z_st_some h
  rw [← e327]
  have hfr328 : z_fr μ326 124 := by rw [e327]; exact hfr325.sr (by omega) (by omega)
  refine j_aload_n F318 (pc := 211) (q := 0) (by decide +kernel) rfl ?_
  refine j_iconst F318 (pc := 212) (n := 5) (v := 5) (by decide +kernel) (by decide +kernel) ?_
  refine j_newaI F318 (pc := 213) (n := 124) (N := 5) hn321 (by omega) hfr328 ⟨(z_olr (by omega)), trivial⟩ ⟨(z_olr (by omega)), trivial⟩ (by decide +kernel) (by decide) (by decide) (by rw [hc320.1, hc320.2.2.1]; decide) (by rw [hc320.2.1, hc320.2.2.2]; decide) m_138 (by decide +kernel) (fun E329 g330 F331 => ?_)
  have hn334 : (z_sh E329.1).length = 125 := g330.len hn321
  have Rt332 := g330.rn (by omega) Rt319
  have hc333 := g330.cn hc320
  have hs335 := g330.get hs322
  have hin336 := g330.nm hin323
  have hY337 : z_Y (z_St E329) := by rw [g330.st]; exact hY324
  have hfr338 : z_fr μ326 125 := hfr328.up (by omega)
  refine j_putRF F331 (pc := 215) (Or.inr ⟨_, rfl⟩) hin336 (fun _ _ _ h => by cases h; rfl) fl_X5_90 fp_X5_36 hs335 rfl (by decide +kernel) ?_
  obtain ⟨μ339, e340, h⟩ := z_st_some h
  rw [← e340]
  have hfr341 : z_fr μ339 125 := by rw [e340]; exact hfr338.sr (by omega) (by omega)
  refine j_aload_n F331 (pc := 218) (q := 0) (by decide +kernel) rfl ?_
  refine j_iconst F331 (pc := 219) (n := 3) (v := 3) (by decide +kernel) (by decide +kernel) ?_
  refine j_newaI F331 (pc := 220) (n := 125) (N := 3) hn334 (by omega) hfr341 ⟨(z_olr (by omega)), trivial⟩ ⟨(z_olr (by omega)), trivial⟩ (by decide +kernel) (by decide) (by decide) (by rw [hc333.1, hc333.2.2.1]; decide) (by rw [hc333.2.1, hc333.2.2.2]; decide) m_138 (by decide +kernel) (fun E342 g343 F344 => ?_)
  have hn347 : (z_sh E342.1).length = 126 := g343.len hn334
  have Rt345 := g343.rn (by omega) Rt332
  have hc346 := g343.cn hc333
  have hs348 := g343.get hs335
  have hin349 := g343.nm hin336
  have hY350 : z_Y (z_St E342) := by rw [g343.st]; exact hY337
  have hfr351 : z_fr μ339 126 := hfr341.up (by omega)
  refine j_putRF F344 (pc := 222) (Or.inr ⟨_, rfl⟩) hin349 (fun _ _ _ h => by cases h; rfl) fl_X5_93 fp_X5_37 hs348 rfl (by decide +kernel) ?_
  obtain ⟨μ352, e353, h⟩ := z_st_some h
  rw [← e353]
  have hfr354 : z_fr μ352 126 := by rw [e353]; exact hfr351.sr (by omega) (by omega)
  refine j_aload_n F344 (pc := 225) (q := 0) (by decide +kernel) rfl ?_
  refine j_bipush F344 (pc := 226) (n := 15) (v := 15) (by decide +kernel) (by decide +kernel) ?_
  refine j_newaI F344 (pc := 228) (n := 126) (N := 15) hn347 (by omega) hfr354 ⟨(z_olr (by omega)), trivial⟩ ⟨(z_olr (by omega)), trivial⟩ (by decide +kernel) (by decide) (by decide) (by rw [hc346.1, hc346.2.2.1]; decide) (by rw [hc346.2.1, hc346.2.2.2]; decide) m_138 (by decide +kernel) (fun E355 g356 F357 => ?_)
  have hn360 : (z_sh E355.1).length = 127 := g356.len hn347
  have Rt358 := g356.rn (by omega) Rt345
  have hc359 := g356.cn hc346
  have hs361 := g356.get hs348
  have hin362 := g356.nm hin349
  have hY363 : z_Y (z_St E355) := by rw [g356.st]; exact hY350
  have hfr364 : z_fr μ352 127 := hfr354.up (by omega)
  refine j_putRF F357 (pc := 230) (Or.inr ⟨_, rfl⟩) hin362 (fun _ _ _ h => by cases h; rfl) fl_X5_96 fp_X5_38 hs361 rfl (by decide +kernel) ?_
  obtain ⟨μ365, e366, h⟩ := z_st_some h
  rw [← e366]
  have hfr367 : z_fr μ365 127 := by rw [e366]; exact hfr364.sr (by omega) (by omega)
  refine j_aload_n F357 (pc := 233) (q := 0) (by decide +kernel) rfl ?_
  refine j_iconst F357 (pc := 234) (n := 5) (v := 5) (by decide +kernel) (by decide +kernel) ?_
  refine j_newaI F357 (pc := 235) (n := 127) (N := 5) hn360 (by omega) hfr367 ⟨(z_olr (by omega)), trivial⟩ ⟨(z_olr (by omega)), trivial⟩ (by decide +kernel) (by decide) (by decide) (by rw [hc359.1, hc359.2.2.1]; decide) (by rw [hc359.2.1, hc359.2.2.2]; decide) m_138 (by decide +kernel) (fun E368 g369 F370 => ?_)
  have hn373 : (z_sh E368.1).length = 128 := g369.len hn360
  have Rt371 := g369.rn (by omega) Rt358
  have hc372 := g369.cn hc359
  have hs374 := g369.get hs361
  have hin375 := g369.nm hin362
  have hY376 : z_Y (z_St E368) := by rw [g369.st]; exact hY363
  have hfr377 : z_fr μ365 128 := hfr367.up (by omega)
  refine j_putRF F370 (pc := 237) (Or.inr ⟨_, rfl⟩) hin375 (fun _ _ _ h => by cases h; rfl) fl_X5_99 fp_X5_39 hs374 rfl (by decide +kernel) ?_
  obtain ⟨μ378, e379, h⟩ := z_st_some h
  rw [← e379]
  have hfr380 : z_fr μ378 128 := by rw [e379]; exact hfr377.sr (by omega) (by omega)
  refine j_aload_n F370 (pc := 240) (q := 0) (by decide +kernel) rfl ?_
  refine j_iconst F370 (pc := 241) (n := 5) (v := 5) (by decide +kernel) (by decide +kernel) ?_
  refine j_newaI F370 (pc := 242) (n := 128) (N := 5) hn373 (by omega) hfr380 ⟨(z_olr (by omega)), trivial⟩ ⟨(z_olr (by omega)), trivial⟩ (by decide +kernel) (by decide) (by decide) (by rw [hc372.1, hc372.2.2.1]; decide) (by rw [hc372.2.1, hc372.2.2.2]; decide) m_138 (by decide +kernel) (fun E381 g382 F383 => ?_)
  have hn386 : (z_sh E381.1).length = 129 := g382.len hn373
  have Rt384 := g382.rn (by omega) Rt371
  have hc385 := g382.cn hc372
  have hs387 := g382.get hs374
  have hin388 := g382.nm hin375
  have hY389 : z_Y (z_St E381) := by rw [g382.st]; exact hY376
  have hfr390 : z_fr μ378 129 := hfr380.up (by omega)
  refine j_putRF F383 (pc := 244) (Or.inr ⟨_, rfl⟩) hin388 (fun _ _ _ h => by cases h; rfl) fl_X5_102 fp_X5_40 hs387 rfl (by decide +kernel) ?_
  obtain ⟨μ391, e392, h⟩ := z_st_some h
  rw [← e392]
  have hfr393 : z_fr μ391 129 := by rw [e392]; exact hfr390.sr (by omega) (by omega)
  refine j_aload_n F383 (pc := 247) (q := 0) (by decide +kernel) rfl ?_
  refine j_iconst F383 (pc := 248) (n := 3) (v := 3) (by decide +kernel) (by decide +kernel) ?_
  refine j_newaI F383 (pc := 249) (n := 129) (N := 3) hn386 (by omega) hfr393 ⟨(z_olr (by omega)), trivial⟩ ⟨(z_olr (by omega)), trivial⟩ (by decide +kernel) (by decide) (by decide) (by rw [hc385.1, hc385.2.2.1]; decide) (by rw [hc385.2.1, hc385.2.2.2]; decide) m_138 (by decide +kernel) (fun E394 g395 F396 => ?_)
  have hn399 : (z_sh E394.1).length = 130 := g395.len hn386
  have Rt397 := g395.rn (by omega) Rt384
  have hc398 := g395.cn hc385
  have hs400 := g395.get hs387
  have hin401 := g395.nm hin388
  have hY402 : z_Y (z_St E394) := by rw [g395.st]; exact hY389
  have hfr403 : z_fr μ391 130 := hfr393.up (by omega)
  refine j_putRF F396 (pc := 251) (Or.inr ⟨_, rfl⟩) hin401 (fun _ _ _ h => by cases h; rfl) fl_X5_105 fp_X5_41 hs400 rfl (by decide +kernel) ?_
  obtain ⟨μ404, e405, h⟩ := z_st_some h
  rw [← e405]
  have hfr406 : z_fr μ404 130 := by rw [e405]; exact hfr403.sr (by omega) (by omega)
  refine j_aload_n F396 (pc := 254) (q := 0) (by decide +kernel) rfl ?_
  refine j_bipush F396 (pc := 255) (n := 15) (v := 15) (by decide +kernel) (by decide +kernel) ?_
  refine j_newaZ F396 (pc := 257) (n := 130) (N := 15) hn399 (by omega) hfr406 ⟨(z_olr (by omega)), trivial⟩ ⟨(z_olr (by omega)), trivial⟩ (by decide +kernel) (by decide) (by decide) (by rw [hc398.1, hc398.2.2.1]; decide) (by rw [hc398.2.1, hc398.2.2.2]; decide) m_265 (by decide +kernel) (fun E407 g408 F409 => ?_)
  have hn412 : (z_sh E407.1).length = 131 := g408.len hn399
  have Rt410 := g408.rn (by omega) Rt397
  have hc411 := g408.cn hc398
  have hs413 := g408.get hs400
  have hin414 := g408.nm hin401
  have hY415 : z_Y (z_St E407) := by rw [g408.st]; exact hY402
  have hfr416 : z_fr μ404 131 := hfr406.up (by omega)
  refine j_putRF F409 (pc := 259) (Or.inr ⟨_, rfl⟩) hin414 (fun _ _ _ h => by cases h; rfl) fl_X5_108 fp_X5_42 hs413 rfl (by decide +kernel) ?_
  obtain ⟨μ417, e418, h⟩ := z_st_some h
  rw [← e418]
  have hfr419 : z_fr μ417 131 := by rw [e418]; exact hfr416.sr (by omega) (by omega)
  refine j_aload_n F409 (pc := 262) (q := 0) (by decide +kernel) rfl ?_
  refine j_iconst F409 (pc := 263) (n := 5) (v := 5) (by decide +kernel) (by decide +kernel) ?_
  refine j_newaI F409 (pc := 264) (n := 131) (N := 5) hn412 (by omega) hfr419 ⟨(z_olr (by omega)), trivial⟩ ⟨(z_olr (by omega)), trivial⟩ (by decide +kernel) (by decide) (by decide) (by rw [hc411.1, hc411.2.2.1]; decide) (by rw [hc411.2.1, hc411.2.2.2]; decide) m_138 (by decide +kernel) (fun E420 g421 F422 => ?_)
  have hn425 : (z_sh E420.1).length = 132 := g421.len hn412
  have Rt423 := g421.rn (by omega) Rt410
  have hc424 := g421.cn hc411
  have hs426 := g421.get hs413
  have hin427 := g421.nm hin414
  have hY428 : z_Y (z_St E420) := by rw [g421.st]; exact hY415
  have hfr429 : z_fr μ417 132 := hfr419.up (by omega)
  refine j_putRF F422 (pc := 266) (Or.inr ⟨_, rfl⟩) hin427 (fun _ _ _ h => by cases h; rfl) fl_X5_111 fp_X5_43 hs426 rfl (by decide +kernel) ?_
  obtain ⟨μ430, e431, h⟩ := z_st_some h
  rw [← e431]
  have hfr432 : z_fr μ430 132 := by rw [e431]; exact hfr429.sr (by omega) (by omega)
  refine j_aload_n F422 (pc := 269) (q := 0) (by decide +kernel) rfl ?_
  refine j_bipush F422 (pc := 270) (n := 6) (v := 6) (by decide +kernel) (by decide +kernel) ?_
  refine j_newaI F422 (pc := 272) (n := 132) (N := 6) hn425 (by omega) hfr432 ⟨(z_olr (by omega)), trivial⟩ ⟨(z_olr (by omega)), trivial⟩ (by decide +kernel) (by decide) (by decide) (by rw [hc424.1, hc424.2.2.1]; decide) (by rw [hc424.2.1, hc424.2.2.2]; decide) m_138 (by decide +kernel) (fun E433 g434 F435 => ?_)
  have hn438 : (z_sh E433.1).length = 133 := g434.len hn425
  have Rt436 := g434.rn (by omega) Rt423
  have hc437 := g434.cn hc424
  have hs439 := g434.get hs426
  have hin440 := g434.nm hin427
  have hY441 : z_Y (z_St E433) := by rw [g434.st]; exact hY428
  have hfr442 : z_fr μ430 133 := hfr432.up (by omega)
  refine j_putRF F435 (pc := 274) (Or.inr ⟨_, rfl⟩) hin440 (fun _ _ _ h => by cases h; rfl) fl_X5_114 fp_X5_44 hs439 rfl (by decide +kernel) ?_
  obtain ⟨μ443, e444, h⟩ := z_st_some h
  rw [← e444]
  have hfr445 : z_fr μ443 133 := by rw [e444]; exact hfr442.sr (by omega) (by omega)
  refine j_aload_n F435 (pc := 277) (q := 0) (by decide +kernel) rfl ?_
  refine j_bipush F435 (pc := 278) (n := 15) (v := 15) (by decide +kernel) (by decide +kernel) ?_
  refine j_newaI F435 (pc := 280) (n := 133) (N := 15) hn438 (by omega) hfr445 ⟨(z_olr (by omega)), trivial⟩ ⟨(z_olr (by omega)), trivial⟩ (by decide +kernel) (by decide) (by decide) (by rw [hc437.1, hc437.2.2.1]; decide) (by rw [hc437.2.1, hc437.2.2.2]; decide) m_138 (by decide +kernel) (fun E446 g447 F448 => ?_)
  have hn451 : (z_sh E446.1).length = 134 := g447.len hn438
  have Rt449 := g447.rn (by omega) Rt436
  have hc450 := g447.cn hc437
  have hs452 := g447.get hs439
  have hin453 := g447.nm hin440
  have hY454 : z_Y (z_St E446) := by rw [g447.st]; exact hY441
  have hfr455 : z_fr μ443 134 := hfr445.up (by omega)
  refine j_putRF F448 (pc := 282) (Or.inr ⟨_, rfl⟩) hin453 (fun _ _ _ h => by cases h; rfl) fl_X5_117 fp_X5_45 hs452 rfl (by decide +kernel) ?_
  obtain ⟨μ456, e457, h⟩ := z_st_some h
  rw [← e457]
  have hfr458 : z_fr μ456 134 := by rw [e457]; exact hfr455.sr (by omega) (by omega)
  refine j_aload_n F448 (pc := 285) (q := 0) (by decide +kernel) rfl ?_
  refine j_sipush F448 (pc := 286) (n := 300) (v := 300) (by decide +kernel) (by decide +kernel) ?_
  refine j_newaI F448 (pc := 289) (n := 134) (N := 300) hn451 (by omega) hfr458 ⟨(z_olr (by omega)), trivial⟩ ⟨(z_olr (by omega)), trivial⟩ (by decide +kernel) (by decide) (by decide) (by rw [hc450.1, hc450.2.2.1]; decide) (by rw [hc450.2.1, hc450.2.2.2]; decide) m_138 (by decide +kernel) (fun E459 g460 F461 => ?_)
  have hn464 : (z_sh E459.1).length = 135 := g460.len hn451
  have Rt462 := g460.rn (by omega) Rt449
  have hc463 := g460.cn hc450
  have hs465 := g460.get hs452
  have hin466 := g460.nm hin453
  have hY467 : z_Y (z_St E459) := by rw [g460.st]; exact hY454
  have hfr468 : z_fr μ456 135 := hfr458.up (by omega)
  refine j_putRF F461 (pc := 291) (Or.inr ⟨_, rfl⟩) hin466 (fun _ _ _ h => by cases h; rfl) fl_X5_120 fp_X5_46 hs465 rfl (by decide +kernel) ?_
  obtain ⟨μ469, e470, h⟩ := z_st_some h
  rw [← e470]
  have hfr471 : z_fr μ469 135 := by rw [e470]; exact hfr468.sr (by omega) (by omega)
  refine j_aload_n F461 (pc := 294) (q := 0) (by decide +kernel) rfl ?_
  refine j_iconst F461 (pc := 295) (n := 2) (v := 2) (by decide +kernel) (by decide +kernel) ?_
  refine j_newaZ F461 (pc := 296) (n := 135) (N := 2) hn464 (by omega) hfr471 ⟨(z_olr (by omega)), trivial⟩ ⟨(z_olr (by omega)), trivial⟩ (by decide +kernel) (by decide) (by decide) (by rw [hc463.1, hc463.2.2.1]; decide) (by rw [hc463.2.1, hc463.2.2.2]; decide) m_265 (by decide +kernel) (fun E472 g473 F474 => ?_)
  have hn477 : (z_sh E472.1).length = 136 := g473.len hn464
  have Rt475 := g473.rn (by omega) Rt462
  have hc476 := g473.cn hc463
  have hs478 := g473.get hs465
  have hin479 := g473.nm hin466
  have hY480 : z_Y (z_St E472) := by rw [g473.st]; exact hY467
  have hfr481 : z_fr μ469 136 := hfr471.up (by omega)
  refine j_putRF F474 (pc := 298) (Or.inr ⟨_, rfl⟩) hin479 (fun _ _ _ h => by cases h; rfl) fl_X5_123 fp_X5_47 hs478 rfl (by decide +kernel) ?_
  obtain ⟨μ482, e483, h⟩ := z_st_some h
  rw [← e483]
  have hfr484 : z_fr μ482 136 := by rw [e483]; exact hfr481.sr (by omega) (by omega)
  refine j_iconst F474 (pc := 301) (n := 0) (v := 0) (by decide +kernel) (by decide +kernel) ?_
  refine j_istore_n F474 (pc := 302) (q := 1) (L' := [some (.ref 98), some (.int (0 : Int32))]) (by decide +kernel) (by decide) rfl rfl ?_
  refine j_iload_n F474 (pc := 303) (q := 1) (by decide +kernel) rfl ?_
  refine j_iconst F474 (pc := 304) (n := 4) (v := 4) (by decide +kernel) (by decide +kernel) ?_
  refine j_icmp_ge F474 (pc := 305) (off := 18) (tgt := 323) (by decide +kernel) (by decide) (fun c => absurd c (by decide)) (fun c => ?_)
  refine j_aload_n F474 (pc := 308) (q := 0) (by decide +kernel) rfl ?_
  have hshB : z_sh E472.1 = z_SH := by
    rw [g473.sh, g460.sh, g447.sh, g434.sh, g421.sh, g408.sh, g395.sh, g382.sh, g369.sh, g356.sh, g343.sh, g330.sh, g317.sh, g304.sh, g291.sh, g278.sh, g265.sh, g252.sh, g239.sh, g226.sh, g213.sh, g200.sh, g187.sh, g174.sh, g158.sh, g145.sh, g132.sh, g119.sh, g106.sh, g93.sh, g80.sh, g67.sh, g54.sh, g41.sh, g28.sh, g15.sh, g2.sh, hsh0]
    decide +kernel
  have hk0 : z_ok (z_sh E472.1) μ482.2.2 := by
    refine z_ok_of hshB hokC (fun i hi => ?_) ?_
    · simp only [e483, e470, e457, e444, e431, e418, e405, e392, e379, e366, e353, e340, e327, e314, e301, e288, e275, e262, e249, e236, e223, e210, e197, e184, e171, e168, e155, e142, e129, e116, e103, e90, e77, e64, e51, e38, e25, e12, z_sr_ne hi, z_si_rr]
    · unfold z_RL5
      simp only [List.forall_mem_cons]
      refine ⟨?_, ?_, ?_, ?_, ?_, ?_, ?_, ?_, ?_, ?_, ?_, ?_, ?_, ?_, ?_, ?_, ?_, ?_, ?_, ?_, ?_, ?_, ?_, ?_, ?_, ?_, ?_, ?_, ?_, ?_, ?_, ?_, ?_, ?_, ?_, ?_, ?_, fun q hq => absurd hq List.not_mem_nil⟩ <;> simp [e483, e470, e457, e444, e431, e418, e405, e392, e379, e366, e353, e340, e327, e314, e301, e288, e275, e262, e249, e236, e223, e210, e197, e184, e171, e168, e155, e142, e129, e116, e103, e90, e77, e64, e51, e38, e25, e12, z_sr_at, z_si_rr]
  obtain ⟨μ485, hx486, h⟩ := z_b1_some h
  refine j_callVv F474 (pc := 309) (idx := 126) (As := []) (st := []) (t_X5_bare (G := E472.1) rfl hk0 hx486) q_X5_bare v_X5_bare m_875 hs478 rfl rfl (by decide) (Nat.le_of_ble_eq_true rfl) rfl (by decide +kernel) (fun ν488 hq487 hp => ?_)
  subst hp
  have hk489 : z_ok (z_sh E472.1) μ485.2.2 := by rw [hq487]; exact hk0
  refine j_aload_n F474 (pc := 312) (q := 0) (by decide +kernel) rfl ?_
  refine j_iload_n F474 (pc := 313) (q := 1) (by decide +kernel) rfl ?_
  obtain ⟨μ490, hx491, h⟩ := z_b1_some h
  refine j_callVv F474 (pc := 314) (idx := 129) (As := [.int (0 : Int32)]) (st := []) (t_X5_keepLaw (G := E472.1) rfl hk489 hx491) q_X5_keepLaw v_X5_keepLaw m_879 hs478 rfl rfl (by decide) (Nat.le_of_ble_eq_true rfl) rfl (by decide +kernel) (fun ν493 hq492 hp => ?_)
  subst hp
  have hk494 : z_ok (z_sh E472.1) μ490.2.2 := by rw [hq492]; exact hk489
  refine j_iinc F474 (pc := 317) (i := 1) (n := 1) (v := 1) (L' := [some (.ref 98), some (.int (1 : Int32))]) (by decide +kernel) rfl (by decide +kernel) (by decide) rfl rfl ?_
  refine j_goto F474 (pc := 320) (off := -17) (tgt := 303) (by decide +kernel) (by decide) ?_
  refine j_iload_n F474 (pc := 303) (q := 1) (by decide +kernel) rfl ?_
  refine j_iconst F474 (pc := 304) (n := 4) (v := 4) (by decide +kernel) (by decide +kernel) ?_
  refine j_icmp_ge F474 (pc := 305) (off := 18) (tgt := 323) (by decide +kernel) (by decide) (fun c => absurd c (by decide)) (fun c => ?_)
  refine j_aload_n F474 (pc := 308) (q := 0) (by decide +kernel) rfl ?_
  obtain ⟨μ495, hx496, h⟩ := z_b1_some h
  refine j_callVv F474 (pc := 309) (idx := 126) (As := []) (st := []) (t_X5_bare (G := E472.1) rfl hk494 hx496) q_X5_bare v_X5_bare m_875 hs478 rfl rfl (by decide) (Nat.le_of_ble_eq_true rfl) rfl (by decide +kernel) (fun ν498 hq497 hp => ?_)
  subst hp
  have hk499 : z_ok (z_sh E472.1) μ495.2.2 := by rw [hq497]; exact hk494
  refine j_aload_n F474 (pc := 312) (q := 0) (by decide +kernel) rfl ?_
  refine j_iload_n F474 (pc := 313) (q := 1) (by decide +kernel) rfl ?_
  obtain ⟨μ500, hx501, h⟩ := z_b1_some h
  refine j_callVv F474 (pc := 314) (idx := 129) (As := [.int (1 : Int32)]) (st := []) (t_X5_keepLaw (G := E472.1) rfl hk499 hx501) q_X5_keepLaw v_X5_keepLaw m_879 hs478 rfl rfl (by decide) (Nat.le_of_ble_eq_true rfl) rfl (by decide +kernel) (fun ν503 hq502 hp => ?_)
  subst hp
  have hk504 : z_ok (z_sh E472.1) μ500.2.2 := by rw [hq502]; exact hk499
  refine j_iinc F474 (pc := 317) (i := 1) (n := 1) (v := 1) (L' := [some (.ref 98), some (.int (2 : Int32))]) (by decide +kernel) rfl (by decide +kernel) (by decide) rfl rfl ?_
  refine j_goto F474 (pc := 320) (off := -17) (tgt := 303) (by decide +kernel) (by decide) ?_
  refine j_iload_n F474 (pc := 303) (q := 1) (by decide +kernel) rfl ?_
  refine j_iconst F474 (pc := 304) (n := 4) (v := 4) (by decide +kernel) (by decide +kernel) ?_
  refine j_icmp_ge F474 (pc := 305) (off := 18) (tgt := 323) (by decide +kernel) (by decide) (fun c => absurd c (by decide)) (fun c => ?_)
  refine j_aload_n F474 (pc := 308) (q := 0) (by decide +kernel) rfl ?_
  obtain ⟨μ505, hx506, h⟩ := z_b1_some h
  refine j_callVv F474 (pc := 309) (idx := 126) (As := []) (st := []) (t_X5_bare (G := E472.1) rfl hk504 hx506) q_X5_bare v_X5_bare m_875 hs478 rfl rfl (by decide) (Nat.le_of_ble_eq_true rfl) rfl (by decide +kernel) (fun ν508 hq507 hp => ?_)
  subst hp
  have hk509 : z_ok (z_sh E472.1) μ505.2.2 := by rw [hq507]; exact hk504
  refine j_aload_n F474 (pc := 312) (q := 0) (by decide +kernel) rfl ?_
  refine j_iload_n F474 (pc := 313) (q := 1) (by decide +kernel) rfl ?_
  obtain ⟨μ510, hx511, h⟩ := z_b1_some h
  refine j_callVv F474 (pc := 314) (idx := 129) (As := [.int (2 : Int32)]) (st := []) (t_X5_keepLaw (G := E472.1) rfl hk509 hx511) q_X5_keepLaw v_X5_keepLaw m_879 hs478 rfl rfl (by decide) (Nat.le_of_ble_eq_true rfl) rfl (by decide +kernel) (fun ν513 hq512 hp => ?_)
  subst hp
  have hk514 : z_ok (z_sh E472.1) μ510.2.2 := by rw [hq512]; exact hk509
  refine j_iinc F474 (pc := 317) (i := 1) (n := 1) (v := 1) (L' := [some (.ref 98), some (.int (3 : Int32))]) (by decide +kernel) rfl (by decide +kernel) (by decide) rfl rfl ?_
  refine j_goto F474 (pc := 320) (off := -17) (tgt := 303) (by decide +kernel) (by decide) ?_
  refine j_iload_n F474 (pc := 303) (q := 1) (by decide +kernel) rfl ?_
  refine j_iconst F474 (pc := 304) (n := 4) (v := 4) (by decide +kernel) (by decide +kernel) ?_
  refine j_icmp_ge F474 (pc := 305) (off := 18) (tgt := 323) (by decide +kernel) (by decide) (fun c => absurd c (by decide)) (fun c => ?_)
  refine j_aload_n F474 (pc := 308) (q := 0) (by decide +kernel) rfl ?_
  obtain ⟨μ515, hx516, h⟩ := z_b1_some h
  refine j_callVv F474 (pc := 309) (idx := 126) (As := []) (st := []) (t_X5_bare (G := E472.1) rfl hk514 hx516) q_X5_bare v_X5_bare m_875 hs478 rfl rfl (by decide) (Nat.le_of_ble_eq_true rfl) rfl (by decide +kernel) (fun ν518 hq517 hp => ?_)
  subst hp
  have hk519 : z_ok (z_sh E472.1) μ515.2.2 := by rw [hq517]; exact hk514
  refine j_aload_n F474 (pc := 312) (q := 0) (by decide +kernel) rfl ?_
  refine j_iload_n F474 (pc := 313) (q := 1) (by decide +kernel) rfl ?_
  obtain ⟨μ520, hx521, h⟩ := z_b1_some h
  refine j_callVv F474 (pc := 314) (idx := 129) (As := [.int (3 : Int32)]) (st := []) (t_X5_keepLaw (G := E472.1) rfl hk519 hx521) q_X5_keepLaw v_X5_keepLaw m_879 hs478 rfl rfl (by decide) (Nat.le_of_ble_eq_true rfl) rfl (by decide +kernel) (fun ν523 hq522 hp => ?_)
  subst hp
  have hk524 : z_ok (z_sh E472.1) μ520.2.2 := by rw [hq522]; exact hk519
  refine j_iinc F474 (pc := 317) (i := 1) (n := 1) (v := 1) (L' := [some (.ref 98), some (.int (4 : Int32))]) (by decide +kernel) rfl (by decide +kernel) (by decide) rfl rfl ?_
  refine j_goto F474 (pc := 320) (off := -17) (tgt := 303) (by decide +kernel) (by decide) ?_
  refine j_iload_n F474 (pc := 303) (q := 1) (by decide +kernel) rfl ?_
  refine j_iconst F474 (pc := 304) (n := 4) (v := 4) (by decide +kernel) (by decide +kernel) ?_
  refine j_icmp_ge F474 (pc := 305) (off := 18) (tgt := 323) (by decide +kernel) (by decide) (fun c => ?_) (fun c => absurd (by decide) c)
  refine j_aload_n F474 (pc := 323) (q := 0) (by decide +kernel) rfl ?_
  obtain ⟨μ525, hx526, h⟩ := z_b1_some h
  refine j_callVv F474 (pc := 324) (idx := 133) (As := []) (st := []) (t_X5_beginImages (G := E472.1) rfl hk524 hx526) q_X5_beginImages v_X5_beginImages m_895 hs478 rfl rfl (by decide) (Nat.le_of_ble_eq_true rfl) rfl (by decide +kernel) (fun ν528 hq527 hp => ?_)
  subst hp
  have hk529 : z_ok (z_sh E472.1) μ525.2.2 := by rw [hq527]; exact hk524
  have hsh : z_sh E472.1 = z_sh E.1 ++ [.inl (0, 32), .inl (0, 32), .inl (0, 32), .inl (1, 32), .inl (1, 256), .inl (0, 20), .inl (0, 8), .inl (0, 8), .inl (0, 8), .inl (1, 8), .inl (1, 64), .inl (0, 5), .inl (0, 240), .inl (1, 256), .inl (0, 32), .inl (0, 7), .inl (0, 7), .inl (0, 15), .inl (0, 15), .inl (0, 15), .inl (0, 15), .inl (1, 15), .inl (0, 15), .inl (0, 15), .inl (1, 15), .inl (0, 5), .inl (0, 3), .inl (0, 15), .inl (0, 5), .inl (0, 5), .inl (0, 3), .inl (1, 15), .inl (0, 5), .inl (0, 6), .inl (0, 15), .inl (0, 300), .inl (1, 2)] := by
    rw [g473.sh, g460.sh, g447.sh, g434.sh, g421.sh, g408.sh, g395.sh, g382.sh, g369.sh, g356.sh, g343.sh, g330.sh, g317.sh, g304.sh, g291.sh, g278.sh, g265.sh, g252.sh, g239.sh, g226.sh, g213.sh, g200.sh, g187.sh, g174.sh, g158.sh, g145.sh, g132.sh, g119.sh, g106.sh, g93.sh, g80.sh, g67.sh, g54.sh, g41.sh, g28.sh, g15.sh, g2.sh]
    try simp only [List.append_assoc, List.cons_append, List.nil_append, z_rowS]
  cases h
  exact j_nret F474 Rt475 hc476 hsh (by decide +kernel)
