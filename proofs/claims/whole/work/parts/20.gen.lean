/-! functions and contracts, written by wip/whole/dec.py -/
def g_X5_why_114   (x3 : Int32) (x4 : Int32) (μ : z_M) : Option (Int32 × z_M) :=
  (if z_in x4 32 then (if (¬ ((μ.1 102 x4.toNatClampNeg) = 0) → z_in x3 15) then (some ((if (μ.1 102 x4.toNatClampNeg) = 0 then (0 : Int32) else (if (μ.1 120 x3.toNatClampNeg) = 0 then (4 : Int32) else (0 : Int32))), μ)) else none) else none)
def g_X5_why_79   (x1 : Int32) (x2 : Int32) (x3 : Int32) (x4 : Int32) (μ : z_M) : Option (Int32 × z_M) :=
  (if z_in (((5 : Int32) * x1) + (2 : Int32)) 20 then (if (μ.1 104 (((5 : Int32) * x1) + (2 : Int32)).toNatClampNeg) = (1 : Int32) then (if z_in x3 15 then (if (μ.1 122 x3.toNatClampNeg) < 0 then (some ((3 : Int32), μ)) else (if z_in x3 15 then (if (μ.1 122 x3.toNatClampNeg) ≤ x2 then (g_X5_why_114   (x3) (x4) μ) else (some ((3 : Int32), μ))) else none)) else none) else (g_X5_why_114   (x3) (x4) μ)) else none)
def f_X5_why (x1 : Int32) (x2 : Int32) (x3 : Int32) (μ : z_M) : Option (Int32 × z_M) :=
  (if z_in x3 15 then (z_lt (((8 : Int32) * x1) + (μ.1 116 x3.toNatClampNeg)) fun x_1 => (if z_in x3 15 then (if (μ.1 118 x3.toNatClampNeg) ≤ x2 then (if z_in x3 15 then (if z_in x_1 32 then (z_lt ((μ.1 118 x3.toNatClampNeg) + (μ.1 101 x_1.toNatClampNeg)) fun x_3 => (if z_in x_1 32 then (if (μ.1 101 x_1.toNatClampNeg) ≤ 0 then (g_X5_why_79   (x1) (x2) (x3) (x_1) μ) else (if x2 ≤ x_3 then (g_X5_why_79   (x1) (x2) (x3) (x_1) μ) else (if z_in x3 15 then (if (μ.1 122 x3.toNatClampNeg) < 0 then (some ((2 : Int32), μ)) else (if z_in x3 15 then (if (μ.1 122 x3.toNatClampNeg) ≤ x_3 then (g_X5_why_79   (x1) (x2) (x3) (x_1) μ) else (some ((2 : Int32), μ))) else none)) else none))) else none)) else none) else none) else (some ((1 : Int32), μ))) else none)) else none)
set_option maxHeartbeats 4000000 in
set_option maxRecDepth 100000 in
theorem u_X5_why_114 {E : z_E} {ρ : Nat → Nat → Option Nat} {r : Int32} {μr : z_M} (F : z_F E RX5 cX5_why 6 0) (Rt : z_R E (some .int) (fun v μ1 => μ1.2.2 = ρ ∧ ∃ r1, v = some (.int r1) ∧ r = r1 ∧ μr = μ1))  (hk : z_ok (z_sh E.1) ρ) : ∀ (x3 : Int32) (x4 : Int32) (μ : z_M), μ.2.2 = ρ → g_X5_why_114   x3 x4 μ = some (r, μr) → z_J E 6 114 [some (.ref 98), none, none, some (.int x3), some (.int x4), none] [] μ := by
  intro x3 x4 μ hρ h
  unfold g_X5_why_114 at h
  refine j_aload_n F (pc := 114) (q := 0) (by decide +kernel) rfl ?_
  refine j_getR F (pc := 115) (hk.r hρ r_98_3) fl_X5_19 (hk.s c_98) rfl (by decide +kernel) ?_
  refine j_iload F (pc := 118) (i := 4) (by decide +kernel) rfl ?_
  obtain ⟨hg, h⟩ := z_ifs h
  refine j_zald F (pc := 120) (hk.s c_102) hg (by decide +kernel) ?_
  obtain ⟨hg, h⟩ := z_ifs h
  suffices hj : z_J E 6 138 [some (.ref 98), none, none, some (.int x3), some (.int x4), none] (.int (if (μ.1 102 x4.toNatClampNeg) = 0 then (0 : Int32) else (if (μ.1 120 x3.toNatClampNeg) = 0 then (4 : Int32) else (0 : Int32))) :: []) μ by
    refine j_if_eq F (pc := 121) (off := 16) (tgt := 137) (by decide +kernel) (by decide) (fun c0 => ?_) (fun c0 => ?_)
    · rw [if_pos c0] at hj
      refine j_iconst F (pc := 137) (n := 0) (v := 0) (by decide +kernel) (by decide +kernel) ?_
      exact hj
    · rw [if_neg c0] at hj
      refine j_aload_n F (pc := 124) (q := 0) (by decide +kernel) rfl ?_
      refine j_getR F (pc := 125) (hk.r hρ r_98_32) fl_X5_78 (hk.s c_98) rfl (by decide +kernel) ?_
      refine j_iload_n F (pc := 128) (q := 3) (by decide +kernel) rfl ?_
      refine j_zald F (pc := 129) (hk.s c_120) (hg c0) (by decide +kernel) ?_
      refine j_if_ne F (pc := 130) (off := 7) (tgt := 137) (by decide +kernel) (by decide) (fun c1 => ?_) (fun c1 => ?_)
      · rw [if_neg c1] at hj
        refine j_iconst F (pc := 137) (n := 0) (v := 0) (by decide +kernel) (by decide +kernel) ?_
        exact hj
      · rw [if_pos c1] at hj
        refine j_iconst F (pc := 133) (n := 4) (v := 4) (by decide +kernel) (by decide +kernel) ?_
        refine j_goto F (pc := 134) (off := 4) (tgt := 138) (by decide +kernel) (by decide) ?_
        exact hj
  exact j_iret (st := []) F Rt rfl (by decide +kernel) ⟨hρ, _, rfl, (congrArg Prod.fst (Option.some.inj h)).symm, (congrArg Prod.snd (Option.some.inj h)).symm⟩
set_option maxHeartbeats 4000000 in
set_option maxRecDepth 100000 in
theorem u_X5_why_79 {E : z_E} {ρ : Nat → Nat → Option Nat} {r : Int32} {μr : z_M} (F : z_F E RX5 cX5_why 6 0) (Rt : z_R E (some .int) (fun v μ1 => μ1.2.2 = ρ ∧ ∃ r1, v = some (.int r1) ∧ r = r1 ∧ μr = μ1))  (hk : z_ok (z_sh E.1) ρ) : ∀ (x1 : Int32) (x2 : Int32) (x3 : Int32) (x4 : Int32) (μ : z_M), μ.2.2 = ρ → g_X5_why_79   x1 x2 x3 x4 μ = some (r, μr) → z_J E 6 79 [some (.ref 98), some (.int x1), some (.int x2), some (.int x3), some (.int x4), none] [] μ := by
  intro x1 x2 x3 x4 μ hρ h
  unfold g_X5_why_79 at h
  refine j_aload_n F (pc := 79) (q := 0) (by decide +kernel) rfl ?_
  refine j_getR F (pc := 80) (hk.r hρ r_98_5) fl_X5_26 (hk.s c_98) rfl (by decide +kernel) ?_
  refine j_iconst F (pc := 83) (n := 5) (v := 5) (by decide +kernel) (by decide +kernel) ?_
  refine j_iload_n F (pc := 84) (q := 1) (by decide +kernel) rfl ?_
  refine j_imul F (pc := 85) (by decide +kernel) ?_
  refine j_iconst F (pc := 86) (n := 2) (v := 2) (by decide +kernel) (by decide +kernel) ?_
  refine j_iadd F (pc := 87) (by decide +kernel) ?_
  obtain ⟨hg, h⟩ := z_ifs h
  refine j_iald F (pc := 88) (hk.s c_104) hg (by decide +kernel) ?_
  refine j_iconst F (pc := 89) (n := 1) (v := 1) (by decide +kernel) (by decide +kernel) ?_
  refine j_icmp_ne F (pc := 90) (off := 24) (tgt := 114) (by decide +kernel) (by decide) (fun c => ?_) (fun c => ?_)
  · rw [if_neg c] at h
    refine j_mk F [true, false, false, true, true, false] (L' := [some (.ref 98), none, none, some (.int x3), some (.int x4), none]) rfl ?_
    refine u_X5_why_114 F Rt hk  _ _ _ hρ h
  · rw [if_pos c] at h
    refine j_aload_n F (pc := 93) (q := 0) (by decide +kernel) rfl ?_
    refine j_getR F (pc := 94) (hk.r hρ r_98_34) fl_X5_84 (hk.s c_98) rfl (by decide +kernel) ?_
    refine j_iload_n F (pc := 97) (q := 3) (by decide +kernel) rfl ?_
    obtain ⟨hg, h⟩ := z_ifs h
    refine j_iald F (pc := 98) (hk.s c_122) hg (by decide +kernel) ?_
    refine j_if_lt F (pc := 99) (off := 13) (tgt := 112) (by decide +kernel) (by decide) (fun c => ?_) (fun c => ?_)
    · rw [if_pos c] at h
      refine j_iconst F (pc := 112) (n := 3) (v := 3) (by decide +kernel) (by decide +kernel) ?_
      exact j_iret (st := []) F Rt rfl (by decide +kernel) ⟨hρ, _, rfl, (congrArg Prod.fst (Option.some.inj h)).symm, (congrArg Prod.snd (Option.some.inj h)).symm⟩
    · rw [if_neg c] at h
      refine j_aload_n F (pc := 102) (q := 0) (by decide +kernel) rfl ?_
      refine j_getR F (pc := 103) (hk.r hρ r_98_34) fl_X5_84 (hk.s c_98) rfl (by decide +kernel) ?_
      refine j_iload_n F (pc := 106) (q := 3) (by decide +kernel) rfl ?_
      obtain ⟨hg, h⟩ := z_ifs h
      refine j_iald F (pc := 107) (hk.s c_122) hg (by decide +kernel) ?_
      refine j_iload_n F (pc := 108) (q := 2) (by decide +kernel) rfl ?_
      refine j_icmp_le F (pc := 109) (off := 5) (tgt := 114) (by decide +kernel) (by decide) (fun c => ?_) (fun c => ?_)
      · rw [if_pos c] at h
        refine j_mk F [true, false, false, true, true, false] (L' := [some (.ref 98), none, none, some (.int x3), some (.int x4), none]) rfl ?_
        refine u_X5_why_114 F Rt hk  _ _ _ hρ h
      · rw [if_neg c] at h
        refine j_iconst F (pc := 112) (n := 3) (v := 3) (by decide +kernel) (by decide +kernel) ?_
        exact j_iret (st := []) F Rt rfl (by decide +kernel) ⟨hρ, _, rfl, (congrArg Prod.fst (Option.some.inj h)).symm, (congrArg Prod.snd (Option.some.inj h)).symm⟩
set_option maxHeartbeats 4000000 in
set_option maxRecDepth 100000 in
theorem t_X5_why {G : z_Gl} {ρ : Nat → Nat → Option Nat} {μ : z_M} {r : Int32} {μr : z_M} {x1 : Int32} {x2 : Int32} {x3 : Int32} (hρ : μ.2.2 = ρ) (hk : z_ok (z_sh G) ρ) (h : f_X5_why x1 x2 x3 μ = some (r, μr)) : z_Ci G yX5_why cX5_why 6 (some .int) 0 [.ref 98, .int x1, .int x2, .int x3] μ (fun r1 μ1 => r = r1 ∧ μr = μ1) := by
  unfold z_Ci
  refine z_intro (by decide +kernel) (Nat.le_of_ble_eq_true rfl) (fun E hE F Rt => ?_)
  subst hE
  have F : z_F E RX5 cX5_why 6 0 := F
  rw [hρ] at Rt
  unfold f_X5_why at h
  show z_J E 6 0 [some (.ref 98), some (.int x1), some (.int x2), some (.int x3), none, none] [] μ
  refine j_bipush F (pc := 0) (n := 8) (v := 8) (by decide +kernel) (by decide +kernel) ?_
  refine j_iload_n F (pc := 2) (q := 1) (by decide +kernel) rfl ?_
  refine j_imul F (pc := 3) (by decide +kernel) ?_
  refine j_aload_n F (pc := 4) (q := 0) (by decide +kernel) rfl ?_
  refine j_getR F (pc := 5) (hk.r hρ r_98_28) fl_X5_66 (hk.s c_98) rfl (by decide +kernel) ?_
  refine j_iload_n F (pc := 8) (q := 3) (by decide +kernel) rfl ?_
  obtain ⟨hg, h⟩ := z_ifs h
  refine j_iald F (pc := 9) (hk.s c_116) hg (by decide +kernel) ?_
  refine j_iadd F (pc := 10) (by decide +kernel) ?_
  obtain ⟨x_1, e2, h⟩ := z_lt_some h
  rw [← e2]
  refine j_istore F (pc := 11) (i := 4) (L' := [some (.ref 98), some (.int x1), some (.int x2), some (.int x3), some (.int x_1), none]) (by decide +kernel) (by decide) rfl rfl ?_
  refine j_aload_n F (pc := 13) (q := 0) (by decide +kernel) rfl ?_
  refine j_getR F (pc := 14) (hk.r hρ r_98_30) fl_X5_72 (hk.s c_98) rfl (by decide +kernel) ?_
  refine j_iload_n F (pc := 17) (q := 3) (by decide +kernel) rfl ?_
  obtain ⟨hg, h⟩ := z_ifs h
  refine j_iald F (pc := 18) (hk.s c_118) hg (by decide +kernel) ?_
  refine j_iload_n F (pc := 19) (q := 2) (by decide +kernel) rfl ?_
  refine j_icmp_le F (pc := 20) (off := 5) (tgt := 25) (by decide +kernel) (by decide) (fun c => ?_) (fun c => ?_)
  · rw [if_pos c] at h
    refine j_aload_n F (pc := 25) (q := 0) (by decide +kernel) rfl ?_
    refine j_getR F (pc := 26) (hk.r hρ r_98_30) fl_X5_72 (hk.s c_98) rfl (by decide +kernel) ?_
    refine j_iload_n F (pc := 29) (q := 3) (by decide +kernel) rfl ?_
    obtain ⟨hg, h⟩ := z_ifs h
    refine j_iald F (pc := 30) (hk.s c_118) hg (by decide +kernel) ?_
    refine j_aload_n F (pc := 31) (q := 0) (by decide +kernel) rfl ?_
    refine j_getR F (pc := 32) (hk.r hρ r_98_2) fl_X5_16 (hk.s c_98) rfl (by decide +kernel) ?_
    refine j_iload F (pc := 35) (i := 4) (by decide +kernel) rfl ?_
    obtain ⟨hg, h⟩ := z_ifs h
    refine j_iald F (pc := 37) (hk.s c_101) hg (by decide +kernel) ?_
    refine j_iadd F (pc := 38) (by decide +kernel) ?_
    obtain ⟨x_3, e4, h⟩ := z_lt_some h
    rw [← e4]
    refine j_istore F (pc := 39) (i := 5) (L' := [some (.ref 98), some (.int x1), some (.int x2), some (.int x3), some (.int x_1), some (.int x_3)]) (by decide +kernel) (by decide) rfl rfl ?_
    refine j_aload_n F (pc := 41) (q := 0) (by decide +kernel) rfl ?_
    refine j_getR F (pc := 42) (hk.r hρ r_98_2) fl_X5_16 (hk.s c_98) rfl (by decide +kernel) ?_
    refine j_iload F (pc := 45) (i := 4) (by decide +kernel) rfl ?_
    obtain ⟨hg, h⟩ := z_ifs h
    refine j_iald F (pc := 47) (hk.s c_101) hg (by decide +kernel) ?_
    refine j_if_le F (pc := 48) (off := 31) (tgt := 79) (by decide +kernel) (by decide) (fun c => ?_) (fun c => ?_)
    · rw [if_pos c] at h
      refine j_mk F [true, true, true, true, true, false] (L' := [some (.ref 98), some (.int x1), some (.int x2), some (.int x3), some (.int x_1), none]) rfl ?_
      refine u_X5_why_79 F Rt hk  _ _ _ _ _ hρ h
    · rw [if_neg c] at h
      refine j_iload F (pc := 51) (i := 5) (by decide +kernel) rfl ?_
      refine j_iload_n F (pc := 53) (q := 2) (by decide +kernel) rfl ?_
      refine j_icmp_ge F (pc := 54) (off := 25) (tgt := 79) (by decide +kernel) (by decide) (fun c => ?_) (fun c => ?_)
      · rw [if_pos c] at h
        refine j_mk F [true, true, true, true, true, false] (L' := [some (.ref 98), some (.int x1), some (.int x2), some (.int x3), some (.int x_1), none]) rfl ?_
        refine u_X5_why_79 F Rt hk  _ _ _ _ _ hρ h
      · rw [if_neg c] at h
        refine j_aload_n F (pc := 57) (q := 0) (by decide +kernel) rfl ?_
        refine j_getR F (pc := 58) (hk.r hρ r_98_34) fl_X5_84 (hk.s c_98) rfl (by decide +kernel) ?_
        refine j_iload_n F (pc := 61) (q := 3) (by decide +kernel) rfl ?_
        obtain ⟨hg, h⟩ := z_ifs h
        refine j_iald F (pc := 62) (hk.s c_122) hg (by decide +kernel) ?_
        refine j_if_lt F (pc := 63) (off := 14) (tgt := 77) (by decide +kernel) (by decide) (fun c => ?_) (fun c => ?_)
        · rw [if_pos c] at h
          refine j_iconst F (pc := 77) (n := 2) (v := 2) (by decide +kernel) (by decide +kernel) ?_
          exact j_iret (st := []) F Rt rfl (by decide +kernel) ⟨hρ, _, rfl, (congrArg Prod.fst (Option.some.inj h)).symm, (congrArg Prod.snd (Option.some.inj h)).symm⟩
        · rw [if_neg c] at h
          refine j_aload_n F (pc := 66) (q := 0) (by decide +kernel) rfl ?_
          refine j_getR F (pc := 67) (hk.r hρ r_98_34) fl_X5_84 (hk.s c_98) rfl (by decide +kernel) ?_
          refine j_iload_n F (pc := 70) (q := 3) (by decide +kernel) rfl ?_
          obtain ⟨hg, h⟩ := z_ifs h
          refine j_iald F (pc := 71) (hk.s c_122) hg (by decide +kernel) ?_
          refine j_iload F (pc := 72) (i := 5) (by decide +kernel) rfl ?_
          refine j_icmp_le F (pc := 74) (off := 5) (tgt := 79) (by decide +kernel) (by decide) (fun c => ?_) (fun c => ?_)
          · rw [if_pos c] at h
            refine j_mk F [true, true, true, true, true, false] (L' := [some (.ref 98), some (.int x1), some (.int x2), some (.int x3), some (.int x_1), none]) rfl ?_
            refine u_X5_why_79 F Rt hk  _ _ _ _ _ hρ h
          · rw [if_neg c] at h
            refine j_iconst F (pc := 77) (n := 2) (v := 2) (by decide +kernel) (by decide +kernel) ?_
            exact j_iret (st := []) F Rt rfl (by decide +kernel) ⟨hρ, _, rfl, (congrArg Prod.fst (Option.some.inj h)).symm, (congrArg Prod.snd (Option.some.inj h)).symm⟩
  · rw [if_neg c] at h
    refine j_iconst F (pc := 23) (n := 1) (v := 1) (by decide +kernel) (by decide +kernel) ?_
    exact j_iret (st := []) F Rt rfl (by decide +kernel) ⟨hρ, _, rfl, (congrArg Prod.fst (Option.some.inj h)).symm, (congrArg Prod.snd (Option.some.inj h)).symm⟩
/-- LastLentModel.lives -/
def f_X5_lives (x1 : Int32) (x2 : Int32) (x3 : Int32) (μ : z_M) : Option (Int32 × z_M) :=
  (z_b2 (f_X5_isLand (x1) μ) fun r1 μ2 => (if r1 = 0 then (some ((-1001 : Int32), μ2)) else (z_b2 (f_X5_isClaim (x3) μ2) fun r8 μ9 => (if r8 = 0 then (some ((-1001 : Int32), μ9)) else (z_b2 (f_X5_isDay (x2) μ9) fun r15 μ16 => (if r15 = 0 then (some ((-1002 : Int32), μ16)) else (z_b2 (f_X5_why (x1) (x2) (x3) μ16) fun r22 μ23 => (some (r22, μ23)))))))))
set_option maxHeartbeats 4000000 in
set_option maxRecDepth 100000 in
theorem t_X5_lives {G : z_Gl} {ρ : Nat → Nat → Option Nat} {μ : z_M} {r : Int32} {μr : z_M} {x1 : Int32} {x2 : Int32} {x3 : Int32} (hρ : μ.2.2 = ρ) (hk : z_ok (z_sh G) ρ) (h : f_X5_lives x1 x2 x3 μ = some (r, μr)) : z_Ci G yX5_lives cX5_lives 4 (some .int) 2 [.ref 98, .int x1, .int x2, .int x3] μ (fun r1 μ1 => r = r1 ∧ μr = μ1) := by
  unfold z_Ci
  refine z_intro (by decide +kernel) (Nat.le_of_ble_eq_true rfl) (fun E hE F Rt => ?_)
  subst hE
  have F : z_F E RX5 cX5_lives 4 2 := F
  rw [hρ] at Rt
  unfold f_X5_lives at h
  show z_J E 4 0 [some (.ref 98), some (.int x1), some (.int x2), some (.int x3)] [] μ
  refine j_iload_n F (pc := 0) (q := 1) (by decide +kernel) rfl ?_
  obtain ⟨r1, μ2, hc4, h⟩ := z_b2_some h
  refine j_callSi F (pc := 1) (idx := 246) (As := [.int x1]) (st := []) (t_X5_isLand (G := E.1) hρ  hc4) q_X5_isLand m_1058 m_1057 rfl (by decide) (Nat.le_of_ble_eq_true rfl) rfl (by decide +kernel) (fun s7 ν5 hq6 hp => ?_)
  obtain ⟨rfl, rfl⟩ := hp
  have hρ3 : μ2.2.2 = ρ := hq6.trans hρ
  refine j_if_eq F (pc := 4) (off := 11) (tgt := 15) (by decide +kernel) (by decide) (fun c => ?_) (fun c => ?_)
  · rw [if_pos c] at h
    refine j_sipush F (pc := 15) (n := -1001) (v := -1001) (by decide +kernel) (by decide +kernel) ?_
    exact j_iret (st := []) F Rt rfl (by decide +kernel) ⟨hρ3, _, rfl, (congrArg Prod.fst (Option.some.inj h)).symm, (congrArg Prod.snd (Option.some.inj h)).symm⟩
  · rw [if_neg c] at h
    refine j_aload_n F (pc := 7) (q := 0) (by decide +kernel) rfl ?_
    refine j_iload_n F (pc := 8) (q := 3) (by decide +kernel) rfl ?_
    obtain ⟨r8, μ9, hc11, h⟩ := z_b2_some h
    refine j_callVi F (pc := 9) (idx := 284) (As := [.int x3]) (st := []) (t_X5_isClaim (G := E.1) hρ3 hk hc11) q_X5_isClaim v_X5_isClaim m_1180 (hk.s c_98) rfl rfl (by decide) (Nat.le_of_ble_eq_true rfl) rfl (by decide +kernel) (fun s14 ν12 hq13 hp => ?_)
    obtain ⟨rfl, rfl⟩ := hp
    have hρ10 : μ9.2.2 = ρ := hq13.trans hρ3
    refine j_if_ne F (pc := 12) (off := 7) (tgt := 19) (by decide +kernel) (by decide) (fun c => ?_) (fun c => ?_)
    · rw [if_neg c] at h
      refine j_iload_n F (pc := 19) (q := 2) (by decide +kernel) rfl ?_
      obtain ⟨r15, μ16, hc18, h⟩ := z_b2_some h
      refine j_callSi F (pc := 20) (idx := 271) (As := [.int x2]) (st := []) (t_X5_isDay (G := E.1) hρ10  hc18) q_X5_isDay m_1161 m_1160 rfl (by decide) (Nat.le_of_ble_eq_true rfl) rfl (by decide +kernel) (fun s21 ν19 hq20 hp => ?_)
      obtain ⟨rfl, rfl⟩ := hp
      have hρ17 : μ16.2.2 = ρ := hq20.trans hρ10
      refine j_if_eq F (pc := 23) (off := 13) (tgt := 36) (by decide +kernel) (by decide) (fun c => ?_) (fun c => ?_)
      · rw [if_pos c] at h
        refine j_sipush F (pc := 36) (n := -1002) (v := -1002) (by decide +kernel) (by decide +kernel) ?_
        exact j_iret (st := []) F Rt rfl (by decide +kernel) ⟨hρ17, _, rfl, (congrArg Prod.fst (Option.some.inj h)).symm, (congrArg Prod.snd (Option.some.inj h)).symm⟩
      · rw [if_neg c] at h
        refine j_aload_n F (pc := 26) (q := 0) (by decide +kernel) rfl ?_
        refine j_iload_n F (pc := 27) (q := 1) (by decide +kernel) rfl ?_
        refine j_iload_n F (pc := 28) (q := 2) (by decide +kernel) rfl ?_
        refine j_iload_n F (pc := 29) (q := 3) (by decide +kernel) rfl ?_
        obtain ⟨r22, μ23, hc25, h⟩ := z_b2_some h
        refine j_callVi F (pc := 30) (idx := 302) (As := [.int x1, .int x2, .int x3]) (st := []) (t_X5_why (G := E.1) hρ17 hk hc25) q_X5_why v_X5_why m_1221 (hk.s c_98) rfl rfl (by decide) (Nat.le_of_ble_eq_true rfl) rfl (by decide +kernel) (fun s28 ν26 hq27 hp => ?_)
        obtain ⟨rfl, rfl⟩ := hp
        have hρ24 : μ23.2.2 = ρ := hq27.trans hρ17
        refine j_goto F (pc := 33) (off := 6) (tgt := 39) (by decide +kernel) (by decide) ?_
        exact j_iret (st := []) F Rt rfl (by decide +kernel) ⟨hρ24, _, rfl, (congrArg Prod.fst (Option.some.inj h)).symm, (congrArg Prod.snd (Option.some.inj h)).symm⟩
    · rw [if_pos c] at h
      refine j_sipush F (pc := 15) (n := -1001) (v := -1001) (by decide +kernel) (by decide +kernel) ?_
      exact j_iret (st := []) F Rt rfl (by decide +kernel) ⟨hρ10, _, rfl, (congrArg Prod.fst (Option.some.inj h)).symm, (congrArg Prod.snd (Option.some.inj h)).symm⟩
def g_X5_last_23   : Nat → Int32 → Int32 → Int32 → z_M → Option (Int32 × z_M)
  | 0, _, _, _, _ => none
  | n + 1, x1, x2, x3, μ => (if x3 < 0 then (some ((-1 : Int32), μ)) else (z_b2 (f_X5_why (x1) (x3) (x2) μ) fun r15 μ16 => (if r15 = 0 then (some (x3, μ16)) else (g_X5_last_23   n (x1) (x2) ((x3 + (-1 : Int32))) μ16))))
def f_X5_last (x1 : Int32) (x2 : Int32) (μ : z_M) : Option (Int32 × z_M) :=
  (z_b2 (f_X5_isLand (x1) μ) fun r1 μ2 => (if r1 = 0 then (some ((-1001 : Int32), μ2)) else (z_b2 (f_X5_isClaim (x2) μ2) fun r8 μ9 => (if r8 = 0 then (some ((-1001 : Int32), μ9)) else (g_X5_last_23   z_N (x1) (x2) ((999 : Int32)) μ9)))))
set_option maxHeartbeats 4000000 in
set_option maxRecDepth 100000 in
theorem u_X5_last_23 {E : z_E} {ρ : Nat → Nat → Option Nat} {r : Int32} {μr : z_M} (F : z_F E RX5 cX5_last 4 2) (Rt : z_R E (some .int) (fun v μ1 => μ1.2.2 = ρ ∧ ∃ r1, v = some (.int r1) ∧ r = r1 ∧ μr = μ1))  (hk : z_ok (z_sh E.1) ρ) : ∀ (n : Nat) (x1 : Int32) (x2 : Int32) (x3 : Int32) (μ : z_M), μ.2.2 = ρ → g_X5_last_23   n x1 x2 x3 μ = some (r, μr) → z_J E 4 23 [some (.ref 98), some (.int x1), some (.int x2), some (.int x3)] [] μ := by
  intro n
  induction n with
  | zero =>
    intro x1 x2 x3 μ hρ h
    rw [g_X5_last_23] at h
    cases h
  | succ n ih =>
    intro x1 x2 x3 μ hρ h
    rw [g_X5_last_23] at h
    refine j_iload_n F (pc := 23) (q := 3) (by decide +kernel) rfl ?_
    refine j_if_lt F (pc := 24) (off := 21) (tgt := 45) (by decide +kernel) (by decide) (fun c => ?_) (fun c => ?_)
    · rw [if_pos c] at h
      refine j_iconst F (pc := 45) (n := -1) (v := -1) (by decide +kernel) (by decide +kernel) ?_
      exact j_iret (st := []) F Rt rfl (by decide +kernel) ⟨hρ, _, rfl, (congrArg Prod.fst (Option.some.inj h)).symm, (congrArg Prod.snd (Option.some.inj h)).symm⟩
    · rw [if_neg c] at h
      refine j_aload_n F (pc := 27) (q := 0) (by decide +kernel) rfl ?_
      refine j_iload_n F (pc := 28) (q := 1) (by decide +kernel) rfl ?_
      refine j_iload_n F (pc := 29) (q := 3) (by decide +kernel) rfl ?_
      refine j_iload_n F (pc := 30) (q := 2) (by decide +kernel) rfl ?_
      obtain ⟨r15, μ16, hc18, h⟩ := z_b2_some h
      refine j_callVi F (pc := 31) (idx := 302) (As := [.int x1, .int x3, .int x2]) (st := []) (t_X5_why (G := E.1) hρ hk hc18) q_X5_why v_X5_why m_1221 (hk.s c_98) rfl rfl (by decide) (Nat.le_of_ble_eq_true rfl) rfl (by decide +kernel) (fun s21 ν19 hq20 hp => ?_)
      obtain ⟨rfl, rfl⟩ := hp
      have hρ17 : μ16.2.2 = ρ := hq20.trans hρ
      refine j_if_ne F (pc := 34) (off := 5) (tgt := 39) (by decide +kernel) (by decide) (fun c => ?_) (fun c => ?_)
      · rw [if_neg c] at h
        refine j_iinc F (pc := 39) (i := 3) (n := -1) (v := -1) (L' := [some (.ref 98), some (.int x1), some (.int x2), some (.int (x3 + (-1 : Int32)))]) (by decide +kernel) rfl (by decide +kernel) (by decide) rfl rfl ?_
        refine j_goto F (pc := 42) (off := -19) (tgt := 23) (by decide +kernel) (by decide) ?_
        exact ih _ _ _ _ hρ17 h
      · rw [if_pos c] at h
        refine j_iload_n F (pc := 37) (q := 3) (by decide +kernel) rfl ?_
        exact j_iret (st := []) F Rt rfl (by decide +kernel) ⟨hρ17, _, rfl, (congrArg Prod.fst (Option.some.inj h)).symm, (congrArg Prod.snd (Option.some.inj h)).symm⟩
set_option maxHeartbeats 4000000 in
set_option maxRecDepth 100000 in
theorem t_X5_last {G : z_Gl} {ρ : Nat → Nat → Option Nat} {μ : z_M} {r : Int32} {μr : z_M} {x1 : Int32} {x2 : Int32} (hρ : μ.2.2 = ρ) (hk : z_ok (z_sh G) ρ) (h : f_X5_last x1 x2 μ = some (r, μr)) : z_Ci G yX5_last cX5_last 4 (some .int) 2 [.ref 98, .int x1, .int x2] μ (fun r1 μ1 => r = r1 ∧ μr = μ1) := by
  unfold z_Ci
  refine z_intro (by decide +kernel) (Nat.le_of_ble_eq_true rfl) (fun E hE F Rt => ?_)
  subst hE
  have F : z_F E RX5 cX5_last 4 2 := F
  rw [hρ] at Rt
  unfold f_X5_last at h
  show z_J E 4 0 [some (.ref 98), some (.int x1), some (.int x2), none] [] μ
  refine j_iload_n F (pc := 0) (q := 1) (by decide +kernel) rfl ?_
  obtain ⟨r1, μ2, hc4, h⟩ := z_b2_some h
  refine j_callSi F (pc := 1) (idx := 246) (As := [.int x1]) (st := []) (t_X5_isLand (G := E.1) hρ  hc4) q_X5_isLand m_1058 m_1057 rfl (by decide) (Nat.le_of_ble_eq_true rfl) rfl (by decide +kernel) (fun s7 ν5 hq6 hp => ?_)
  obtain ⟨rfl, rfl⟩ := hp
  have hρ3 : μ2.2.2 = ρ := hq6.trans hρ
  refine j_if_eq F (pc := 4) (off := 11) (tgt := 15) (by decide +kernel) (by decide) (fun c => ?_) (fun c => ?_)
  · rw [if_pos c] at h
    refine j_sipush F (pc := 15) (n := -1001) (v := -1001) (by decide +kernel) (by decide +kernel) ?_
    exact j_iret (st := []) F Rt rfl (by decide +kernel) ⟨hρ3, _, rfl, (congrArg Prod.fst (Option.some.inj h)).symm, (congrArg Prod.snd (Option.some.inj h)).symm⟩
  · rw [if_neg c] at h
    refine j_aload_n F (pc := 7) (q := 0) (by decide +kernel) rfl ?_
    refine j_iload_n F (pc := 8) (q := 2) (by decide +kernel) rfl ?_
    obtain ⟨r8, μ9, hc11, h⟩ := z_b2_some h
    refine j_callVi F (pc := 9) (idx := 284) (As := [.int x2]) (st := []) (t_X5_isClaim (G := E.1) hρ3 hk hc11) q_X5_isClaim v_X5_isClaim m_1180 (hk.s c_98) rfl rfl (by decide) (Nat.le_of_ble_eq_true rfl) rfl (by decide +kernel) (fun s14 ν12 hq13 hp => ?_)
    obtain ⟨rfl, rfl⟩ := hp
    have hρ10 : μ9.2.2 = ρ := hq13.trans hρ3
    refine j_if_ne F (pc := 12) (off := 7) (tgt := 19) (by decide +kernel) (by decide) (fun c => ?_) (fun c => ?_)
    · rw [if_neg c] at h
      refine j_sipush F (pc := 19) (n := 999) (v := 999) (by decide +kernel) (by decide +kernel) ?_
      refine j_istore_n F (pc := 22) (q := 3) (L' := [some (.ref 98), some (.int x1), some (.int x2), some (.int (999 : Int32))]) (by decide +kernel) (by decide) rfl rfl ?_
      refine u_X5_last_23 F Rt hk  z_N _ _ _ _ hρ10 h
    · rw [if_pos c] at h
      refine j_sipush F (pc := 15) (n := -1001) (v := -1001) (by decide +kernel) (by decide +kernel) ?_
      exact j_iret (st := []) F Rt rfl (by decide +kernel) ⟨hρ10, _, rfl, (congrArg Prod.fst (Option.some.inj h)).symm, (congrArg Prod.snd (Option.some.inj h)).symm⟩
def g_X5_order2_87  (k_88 : Int32 → Int32 → Int32 → Int32 → z_M → Option (Int32 × z_M)) (x1 : Int32) (x2 : Int32) (x3 : Int32) (μ : z_M) : Option (Int32 × z_M) :=
  (k_88 (x1) (x2) (x3) ((0 : Int32)) μ)
def g_X5_order2_88   (x1 : Int32) (x2 : Int32) (x3 : Int32) (xs0 : Int32) (μ : z_M) : Option (Int32 × z_M) :=
  (if xs0 = 0 then (if z_in x3 15 then (if z_in (((8 : Int32) * x1) + (μ.1 116 x3.toNatClampNeg)) 32 then (if z_in x2 15 then (if z_in (((8 : Int32) * x1) + (μ.1 116 x2.toNatClampNeg)) 32 then (z_lt ((μ.1 113 (((8 : Int32) * x1) + (μ.1 116 x3.toNatClampNeg)).toNatClampNeg) - (μ.1 113 (((8 : Int32) * x1) + (μ.1 116 x2.toNatClampNeg)).toNatClampNeg)) fun x_11 => (if x_11 = 0 then (if z_in (((5 : Int32) * x1) + (1 : Int32)) 20 then (z_lt (μ.1 104 (((5 : Int32) * x1) + (1 : Int32)).toNatClampNeg) fun x_13 => (if (¬ (x_13 = 0) → ¬ (x_13 = (1 : Int32)) → z_in x3 15) ∧ (¬ (x_13 = 0) → ¬ (x_13 = (1 : Int32)) → z_in x2 15) ∧ (¬ (x_13 = 0) → (x_13 = (1 : Int32)) → z_in x2 15) ∧ (¬ (x_13 = 0) → (x_13 = (1 : Int32)) → z_in x3 15) then (z_lt (if x_13 = 0 then (0 : Int32) else (if x_13 = (1 : Int32) then ((μ.1 118 x2.toNatClampNeg) - (μ.1 118 x3.toNatClampNeg)) else ((μ.1 118 x3.toNatClampNeg) - (μ.1 118 x2.toNatClampNeg)))) fun x_15 => (some ((if x_15 ≤ 0 then (if 0 ≤ x_15 then (0 : Int32) else (-1 : Int32)) else (1 : Int32)), μ))) else none)) else none) else (some ((if x_11 ≤ 0 then (-1 : Int32) else (1 : Int32)), μ)))) else none) else none) else none) else none) else (some ((if xs0 ≤ 0 then (-1 : Int32) else (1 : Int32)), μ)))
def f_X5_order2 (x1 : Int32) (x2 : Int32) (x3 : Int32) (μ : z_M) : Option (Int32 × z_M) :=
  (if z_in x2 15 then (if z_in (((8 : Int32) * x1) + (μ.1 116 x2.toNatClampNeg)) 32 then (z_lt (μ.1 100 (((8 : Int32) * x1) + (μ.1 116 x2.toNatClampNeg)).toNatClampNeg) fun x_1 => (if z_in x3 15 then (if z_in (((8 : Int32) * x1) + (μ.1 116 x3.toNatClampNeg)) 32 then (z_lt (μ.1 100 (((8 : Int32) * x1) + (μ.1 116 x3.toNatClampNeg)).toNatClampNeg) fun x_3 => (if x_1 = x_3 then (if z_in ((5 : Int32) * x1) 20 then (if (μ.1 104 ((5 : Int32) * x1).toNatClampNeg) = (1 : Int32) then (if x_1 = 0 then (z_b2 (f_X5_voyageOf (x2) μ) fun r23 μ24 => (z_b2 (f_X5_voyageOf (x3) μ24) fun r30 μ31 => (g_X5_order2_88   (x1) (x2) (x3) ((r23 - r30)) μ31))) else (g_X5_order2_87  (fun (y19 : Int32) (y20 : Int32) (y21 : Int32) (y22 : Int32) (μ17 : z_M) => (g_X5_order2_88   (y19) (y20) (y21) (y22) μ17)) (x1) (x2) (x3) μ)) else (g_X5_order2_87  (fun (y7 : Int32) (y8 : Int32) (y9 : Int32) (y10 : Int32) (μ5 : z_M) => (g_X5_order2_88   (y7) (y8) (y9) (y10) μ5)) (x1) (x2) (x3) μ)) else none) else (some ((if x_1 ≤ x_3 then (-1 : Int32) else (1 : Int32)), μ)))) else none) else none)) else none) else none)
set_option maxHeartbeats 4000000 in
set_option maxRecDepth 100000 in
theorem u_X5_order2_87 {E : z_E} {ρ : Nat → Nat → Option Nat} {r : Int32} {μr : z_M} (F : z_F E RX5 cX5_order2 10 1) (Rt : z_R E (some .int) (fun v μ1 => μ1.2.2 = ρ ∧ ∃ r1, v = some (.int r1) ∧ r = r1 ∧ μr = μ1))  (hk : z_ok (z_sh E.1) ρ) {k_88 : Int32 → Int32 → Int32 → Int32 → z_M → Option (Int32 × z_M)} (hc_88 : ∀ (y1 : Int32) (y2 : Int32) (y3 : Int32) (ys0 : Int32) (μ1 : z_M), μ1.2.2 = ρ → k_88 y1 y2 y3 ys0 μ1 = some (r, μr) → z_J E 10 88 [some (.ref 98), some (.int y1), some (.int y2), some (.int y3), none, none, none, none, none, none] [.int ys0] μ1) : ∀ (x1 : Int32) (x2 : Int32) (x3 : Int32) (μ : z_M), μ.2.2 = ρ → g_X5_order2_87  k_88 x1 x2 x3 μ = some (r, μr) → z_J E 10 87 [some (.ref 98), some (.int x1), some (.int x2), some (.int x3), none, none, none, none, none, none] [] μ := by
  intro x1 x2 x3 μ hρ h
  unfold g_X5_order2_87 at h
  refine j_iconst F (pc := 87) (n := 0) (v := 0) (by decide +kernel) (by decide +kernel) ?_
  exact hc_88 _ _ _ _ _ hρ h
set_option maxHeartbeats 4000000 in
set_option maxRecDepth 100000 in
theorem u_X5_order2_88 {E : z_E} {ρ : Nat → Nat → Option Nat} {r : Int32} {μr : z_M} (F : z_F E RX5 cX5_order2 10 1) (Rt : z_R E (some .int) (fun v μ1 => μ1.2.2 = ρ ∧ ∃ r1, v = some (.int r1) ∧ r = r1 ∧ μr = μ1))  (hk : z_ok (z_sh E.1) ρ) : ∀ (x1 : Int32) (x2 : Int32) (x3 : Int32) (xs0 : Int32) (μ : z_M), μ.2.2 = ρ → g_X5_order2_88   x1 x2 x3 xs0 μ = some (r, μr) → z_J E 10 88 [some (.ref 98), some (.int x1), some (.int x2), some (.int x3), none, none, none, none, none, none] [.int xs0] μ := by
  intro x1 x2 x3 xs0 μ hρ h
  unfold g_X5_order2_88 at h
  refine j_istore F (pc := 88) (i := 6) (L' := [some (.ref 98), some (.int x1), some (.int x2), some (.int x3), none, none, some (.int xs0), none, none, none]) (by decide +kernel) (by decide) rfl rfl ?_
  refine j_iload F (pc := 90) (i := 6) (by decide +kernel) rfl ?_
  refine j_if_eq F (pc := 92) (off := 14) (tgt := 106) (by decide +kernel) (by decide) (fun c => ?_) (fun c => ?_)
  · rw [if_pos c] at h
    refine j_aload_n F (pc := 106) (q := 0) (by decide +kernel) rfl ?_
    refine j_getR F (pc := 107) (hk.r hρ r_98_23) fl_X5_57 (hk.s c_98) rfl (by decide +kernel) ?_
    refine j_bipush F (pc := 110) (n := 8) (v := 8) (by decide +kernel) (by decide +kernel) ?_
    refine j_iload_n F (pc := 112) (q := 1) (by decide +kernel) rfl ?_
    refine j_imul F (pc := 113) (by decide +kernel) ?_
    refine j_aload_n F (pc := 114) (q := 0) (by decide +kernel) rfl ?_
    refine j_getR F (pc := 115) (hk.r hρ r_98_28) fl_X5_66 (hk.s c_98) rfl (by decide +kernel) ?_
    refine j_iload_n F (pc := 118) (q := 3) (by decide +kernel) rfl ?_
    obtain ⟨hg, h⟩ := z_ifs h
    refine j_iald F (pc := 119) (hk.s c_116) hg (by decide +kernel) ?_
    refine j_iadd F (pc := 120) (by decide +kernel) ?_
    obtain ⟨hg, h⟩ := z_ifs h
    refine j_iald F (pc := 121) (hk.s c_113) hg (by decide +kernel) ?_
    refine j_aload_n F (pc := 122) (q := 0) (by decide +kernel) rfl ?_
    refine j_getR F (pc := 123) (hk.r hρ r_98_23) fl_X5_57 (hk.s c_98) rfl (by decide +kernel) ?_
    refine j_bipush F (pc := 126) (n := 8) (v := 8) (by decide +kernel) (by decide +kernel) ?_
    refine j_iload_n F (pc := 128) (q := 1) (by decide +kernel) rfl ?_
    refine j_imul F (pc := 129) (by decide +kernel) ?_
    refine j_aload_n F (pc := 130) (q := 0) (by decide +kernel) rfl ?_
    refine j_getR F (pc := 131) (hk.r hρ r_98_28) fl_X5_66 (hk.s c_98) rfl (by decide +kernel) ?_
    refine j_iload_n F (pc := 134) (q := 2) (by decide +kernel) rfl ?_
    obtain ⟨hg, h⟩ := z_ifs h
    refine j_iald F (pc := 135) (hk.s c_116) hg (by decide +kernel) ?_
    refine j_iadd F (pc := 136) (by decide +kernel) ?_
    obtain ⟨hg, h⟩ := z_ifs h
    refine j_iald F (pc := 137) (hk.s c_113) hg (by decide +kernel) ?_
    refine j_isub F (pc := 138) (by decide +kernel) ?_
    obtain ⟨x_11, e12, h⟩ := z_lt_some h
    rw [← e12]
    refine j_istore F (pc := 139) (i := 7) (L' := [some (.ref 98), some (.int x1), some (.int x2), some (.int x3), none, none, some (.int xs0), some (.int x_11), none, none]) (by decide +kernel) (by decide) rfl rfl ?_
    refine j_iload F (pc := 141) (i := 7) (by decide +kernel) rfl ?_
    refine j_if_eq F (pc := 143) (off := 14) (tgt := 157) (by decide +kernel) (by decide) (fun c => ?_) (fun c => ?_)
    · rw [if_pos c] at h
      refine j_aload_n F (pc := 157) (q := 0) (by decide +kernel) rfl ?_
      refine j_getR F (pc := 158) (hk.r hρ r_98_5) fl_X5_26 (hk.s c_98) rfl (by decide +kernel) ?_
      refine j_iconst F (pc := 161) (n := 5) (v := 5) (by decide +kernel) (by decide +kernel) ?_
      refine j_iload_n F (pc := 162) (q := 1) (by decide +kernel) rfl ?_
      refine j_imul F (pc := 163) (by decide +kernel) ?_
      refine j_iconst F (pc := 164) (n := 1) (v := 1) (by decide +kernel) (by decide +kernel) ?_
      refine j_iadd F (pc := 165) (by decide +kernel) ?_
      obtain ⟨hg, h⟩ := z_ifs h
      refine j_iald F (pc := 166) (hk.s c_104) hg (by decide +kernel) ?_
      obtain ⟨x_13, e14, h⟩ := z_lt_some h
      rw [← e14]
      refine j_istore F (pc := 167) (i := 8) (L' := [some (.ref 98), some (.int x1), some (.int x2), some (.int x3), none, none, some (.int xs0), some (.int x_11), some (.int x_13), none]) (by decide +kernel) (by decide) rfl rfl ?_
      refine j_iload F (pc := 169) (i := 8) (by decide +kernel) rfl ?_
      obtain ⟨hg, h⟩ := z_ifs h
      suffices hj : z_J E 10 213 [some (.ref 98), some (.int x1), some (.int x2), some (.int x3), none, none, some (.int xs0), some (.int x_11), some (.int x_13), none] (.int (if x_13 = 0 then (0 : Int32) else (if x_13 = (1 : Int32) then ((μ.1 118 x2.toNatClampNeg) - (μ.1 118 x3.toNatClampNeg)) else ((μ.1 118 x3.toNatClampNeg) - (μ.1 118 x2.toNatClampNeg)))) :: []) μ by
        refine j_if_ne F (pc := 171) (off := 7) (tgt := 178) (by decide +kernel) (by decide) (fun c0 => ?_) (fun c0 => ?_)
        · rw [if_neg c0] at hj
          refine j_iload F (pc := 178) (i := 8) (by decide +kernel) rfl ?_
          refine j_iconst F (pc := 180) (n := 1) (v := 1) (by decide +kernel) (by decide +kernel) ?_
          refine j_icmp_ne F (pc := 181) (off := 19) (tgt := 200) (by decide +kernel) (by decide) (fun c1 => ?_) (fun c1 => ?_)
          · rw [if_neg c1] at hj
            refine j_aload_n F (pc := 200) (q := 0) (by decide +kernel) rfl ?_
            refine j_getR F (pc := 201) (hk.r hρ r_98_30) fl_X5_72 (hk.s c_98) rfl (by decide +kernel) ?_
            refine j_iload_n F (pc := 204) (q := 3) (by decide +kernel) rfl ?_
            refine j_iald F (pc := 205) (hk.s c_118) (hg.1 c0 c1) (by decide +kernel) ?_
            refine j_aload_n F (pc := 206) (q := 0) (by decide +kernel) rfl ?_
            refine j_getR F (pc := 207) (hk.r hρ r_98_30) fl_X5_72 (hk.s c_98) rfl (by decide +kernel) ?_
            refine j_iload_n F (pc := 210) (q := 2) (by decide +kernel) rfl ?_
            refine j_iald F (pc := 211) (hk.s c_118) (hg.2.1 c0 c1) (by decide +kernel) ?_
            refine j_isub F (pc := 212) (by decide +kernel) ?_
            exact hj
          · rw [if_pos c1] at hj
            refine j_aload_n F (pc := 184) (q := 0) (by decide +kernel) rfl ?_
            refine j_getR F (pc := 185) (hk.r hρ r_98_30) fl_X5_72 (hk.s c_98) rfl (by decide +kernel) ?_
            refine j_iload_n F (pc := 188) (q := 2) (by decide +kernel) rfl ?_
            refine j_iald F (pc := 189) (hk.s c_118) (hg.2.2.1 c0 c1) (by decide +kernel) ?_
            refine j_aload_n F (pc := 190) (q := 0) (by decide +kernel) rfl ?_
            refine j_getR F (pc := 191) (hk.r hρ r_98_30) fl_X5_72 (hk.s c_98) rfl (by decide +kernel) ?_
            refine j_iload_n F (pc := 194) (q := 3) (by decide +kernel) rfl ?_
            refine j_iald F (pc := 195) (hk.s c_118) (hg.2.2.2 c0 c1) (by decide +kernel) ?_
            refine j_isub F (pc := 196) (by decide +kernel) ?_
            refine j_goto F (pc := 197) (off := 16) (tgt := 213) (by decide +kernel) (by decide) ?_
            exact hj
        · rw [if_pos c0] at hj
          refine j_iconst F (pc := 174) (n := 0) (v := 0) (by decide +kernel) (by decide +kernel) ?_
          refine j_goto F (pc := 175) (off := 38) (tgt := 213) (by decide +kernel) (by decide) ?_
          exact hj
      obtain ⟨x_15, e16, h⟩ := z_lt_some h
      rw [← e16]
      refine j_istore F (pc := 213) (i := 9) (L' := [some (.ref 98), some (.int x1), some (.int x2), some (.int x3), none, none, some (.int xs0), some (.int x_11), some (.int x_13), some (.int x_15)]) (by decide +kernel) (by decide) rfl rfl ?_
      refine j_iload F (pc := 215) (i := 9) (by decide +kernel) rfl ?_
      suffices hj : z_J E 10 234 [some (.ref 98), some (.int x1), some (.int x2), some (.int x3), none, none, some (.int xs0), some (.int x_11), some (.int x_13), some (.int x_15)] (.int (if x_15 ≤ 0 then (if 0 ≤ x_15 then (0 : Int32) else (-1 : Int32)) else (1 : Int32)) :: []) μ by
        refine j_if_le F (pc := 217) (off := 7) (tgt := 224) (by decide +kernel) (by decide) (fun c0 => ?_) (fun c0 => ?_)
        · rw [if_pos c0] at hj
          refine j_iload F (pc := 224) (i := 9) (by decide +kernel) rfl ?_
          refine j_if_ge F (pc := 226) (off := 7) (tgt := 233) (by decide +kernel) (by decide) (fun c1 => ?_) (fun c1 => ?_)
          · rw [if_pos c1] at hj
            refine j_iconst F (pc := 233) (n := 0) (v := 0) (by decide +kernel) (by decide +kernel) ?_
            exact hj
          · rw [if_neg c1] at hj
            refine j_iconst F (pc := 229) (n := -1) (v := -1) (by decide +kernel) (by decide +kernel) ?_
            refine j_goto F (pc := 230) (off := 4) (tgt := 234) (by decide +kernel) (by decide) ?_
            exact hj
        · rw [if_neg c0] at hj
          refine j_iconst F (pc := 220) (n := 1) (v := 1) (by decide +kernel) (by decide +kernel) ?_
          refine j_goto F (pc := 221) (off := 13) (tgt := 234) (by decide +kernel) (by decide) ?_
          exact hj
      exact j_iret (st := []) F Rt rfl (by decide +kernel) ⟨hρ, _, rfl, (congrArg Prod.fst (Option.some.inj h)).symm, (congrArg Prod.snd (Option.some.inj h)).symm⟩
    · rw [if_neg c] at h
      refine j_iload F (pc := 146) (i := 7) (by decide +kernel) rfl ?_
      suffices hj : z_J E 10 156 [some (.ref 98), some (.int x1), some (.int x2), some (.int x3), none, none, some (.int xs0), some (.int x_11), none, none] (.int (if x_11 ≤ 0 then (-1 : Int32) else (1 : Int32)) :: []) μ by
        refine j_if_le F (pc := 148) (off := 7) (tgt := 155) (by decide +kernel) (by decide) (fun c0 => ?_) (fun c0 => ?_)
        · rw [if_pos c0] at hj
          refine j_iconst F (pc := 155) (n := -1) (v := -1) (by decide +kernel) (by decide +kernel) ?_
          exact hj
        · rw [if_neg c0] at hj
          refine j_iconst F (pc := 151) (n := 1) (v := 1) (by decide +kernel) (by decide +kernel) ?_
          refine j_goto F (pc := 152) (off := 4) (tgt := 156) (by decide +kernel) (by decide) ?_
          exact hj
      exact j_iret (st := []) F Rt rfl (by decide +kernel) ⟨hρ, _, rfl, (congrArg Prod.fst (Option.some.inj h)).symm, (congrArg Prod.snd (Option.some.inj h)).symm⟩
  · rw [if_neg c] at h
    refine j_iload F (pc := 95) (i := 6) (by decide +kernel) rfl ?_
    suffices hj : z_J E 10 105 [some (.ref 98), some (.int x1), some (.int x2), some (.int x3), none, none, some (.int xs0), none, none, none] (.int (if xs0 ≤ 0 then (-1 : Int32) else (1 : Int32)) :: []) μ by
      refine j_if_le F (pc := 97) (off := 7) (tgt := 104) (by decide +kernel) (by decide) (fun c0 => ?_) (fun c0 => ?_)
      · rw [if_pos c0] at hj
        refine j_iconst F (pc := 104) (n := -1) (v := -1) (by decide +kernel) (by decide +kernel) ?_
        exact hj
      · rw [if_neg c0] at hj
        refine j_iconst F (pc := 100) (n := 1) (v := 1) (by decide +kernel) (by decide +kernel) ?_
        refine j_goto F (pc := 101) (off := 4) (tgt := 105) (by decide +kernel) (by decide) ?_
        exact hj
    exact j_iret (st := []) F Rt rfl (by decide +kernel) ⟨hρ, _, rfl, (congrArg Prod.fst (Option.some.inj h)).symm, (congrArg Prod.snd (Option.some.inj h)).symm⟩
set_option maxHeartbeats 4000000 in
set_option maxRecDepth 100000 in
theorem t_X5_order2 {G : z_Gl} {ρ : Nat → Nat → Option Nat} {μ : z_M} {r : Int32} {μr : z_M} {x1 : Int32} {x2 : Int32} {x3 : Int32} (hρ : μ.2.2 = ρ) (hk : z_ok (z_sh G) ρ) (h : f_X5_order2 x1 x2 x3 μ = some (r, μr)) : z_Ci G yX5_order2 cX5_order2 10 (some .int) 1 [.ref 98, .int x1, .int x2, .int x3] μ (fun r1 μ1 => r = r1 ∧ μr = μ1) := by
  unfold z_Ci
  refine z_intro (by decide +kernel) (Nat.le_of_ble_eq_true rfl) (fun E hE F Rt => ?_)
  subst hE
  have F : z_F E RX5 cX5_order2 10 1 := F
  rw [hρ] at Rt
  unfold f_X5_order2 at h
  show z_J E 10 0 [some (.ref 98), some (.int x1), some (.int x2), some (.int x3), none, none, none, none, none, none] [] μ
  refine j_aload_n F (pc := 0) (q := 0) (by decide +kernel) rfl ?_
  refine j_getR F (pc := 1) (hk.r hρ r_98_1) fl_X5_13 (hk.s c_98) rfl (by decide +kernel) ?_
  refine j_bipush F (pc := 4) (n := 8) (v := 8) (by decide +kernel) (by decide +kernel) ?_
  refine j_iload_n F (pc := 6) (q := 1) (by decide +kernel) rfl ?_
  refine j_imul F (pc := 7) (by decide +kernel) ?_
  refine j_aload_n F (pc := 8) (q := 0) (by decide +kernel) rfl ?_
  refine j_getR F (pc := 9) (hk.r hρ r_98_28) fl_X5_66 (hk.s c_98) rfl (by decide +kernel) ?_
  refine j_iload_n F (pc := 12) (q := 2) (by decide +kernel) rfl ?_
  obtain ⟨hg, h⟩ := z_ifs h
  refine j_iald F (pc := 13) (hk.s c_116) hg (by decide +kernel) ?_
  refine j_iadd F (pc := 14) (by decide +kernel) ?_
  obtain ⟨hg, h⟩ := z_ifs h
  refine j_iald F (pc := 15) (hk.s c_100) hg (by decide +kernel) ?_
  obtain ⟨x_1, e2, h⟩ := z_lt_some h
  rw [← e2]
  refine j_istore F (pc := 16) (i := 4) (L' := [some (.ref 98), some (.int x1), some (.int x2), some (.int x3), some (.int x_1), none, none, none, none, none]) (by decide +kernel) (by decide) rfl rfl ?_
  refine j_aload_n F (pc := 18) (q := 0) (by decide +kernel) rfl ?_
  refine j_getR F (pc := 19) (hk.r hρ r_98_1) fl_X5_13 (hk.s c_98) rfl (by decide +kernel) ?_
  refine j_bipush F (pc := 22) (n := 8) (v := 8) (by decide +kernel) (by decide +kernel) ?_
  refine j_iload_n F (pc := 24) (q := 1) (by decide +kernel) rfl ?_
  refine j_imul F (pc := 25) (by decide +kernel) ?_
  refine j_aload_n F (pc := 26) (q := 0) (by decide +kernel) rfl ?_
  refine j_getR F (pc := 27) (hk.r hρ r_98_28) fl_X5_66 (hk.s c_98) rfl (by decide +kernel) ?_
  refine j_iload_n F (pc := 30) (q := 3) (by decide +kernel) rfl ?_
  obtain ⟨hg, h⟩ := z_ifs h
  refine j_iald F (pc := 31) (hk.s c_116) hg (by decide +kernel) ?_
  refine j_iadd F (pc := 32) (by decide +kernel) ?_
  obtain ⟨hg, h⟩ := z_ifs h
  refine j_iald F (pc := 33) (hk.s c_100) hg (by decide +kernel) ?_
  obtain ⟨x_3, e4, h⟩ := z_lt_some h
  rw [← e4]
  refine j_istore F (pc := 34) (i := 5) (L' := [some (.ref 98), some (.int x1), some (.int x2), some (.int x3), some (.int x_1), some (.int x_3), none, none, none, none]) (by decide +kernel) (by decide) rfl rfl ?_
  refine j_iload F (pc := 36) (i := 4) (by decide +kernel) rfl ?_
  refine j_iload F (pc := 38) (i := 5) (by decide +kernel) rfl ?_
  refine j_icmp_eq F (pc := 40) (off := 16) (tgt := 56) (by decide +kernel) (by decide) (fun c => ?_) (fun c => ?_)
  · rw [if_pos c] at h
    refine j_aload_n F (pc := 56) (q := 0) (by decide +kernel) rfl ?_
    refine j_getR F (pc := 57) (hk.r hρ r_98_5) fl_X5_26 (hk.s c_98) rfl (by decide +kernel) ?_
    refine j_iconst F (pc := 60) (n := 5) (v := 5) (by decide +kernel) (by decide +kernel) ?_
    refine j_iload_n F (pc := 61) (q := 1) (by decide +kernel) rfl ?_
    refine j_imul F (pc := 62) (by decide +kernel) ?_
    obtain ⟨hg, h⟩ := z_ifs h
    refine j_iald F (pc := 63) (hk.s c_104) hg (by decide +kernel) ?_
    refine j_iconst F (pc := 64) (n := 1) (v := 1) (by decide +kernel) (by decide +kernel) ?_
    refine j_icmp_ne F (pc := 65) (off := 22) (tgt := 87) (by decide +kernel) (by decide) (fun c => ?_) (fun c => ?_)
    · rw [if_neg c] at h
      refine j_mk F [true, true, true, true, false, false, false, false, false, false] (L' := [some (.ref 98), some (.int x1), some (.int x2), some (.int x3), none, none, none, none, none, none]) rfl ?_
      refine u_X5_order2_87 F Rt hk (fun y7 y8 y9 y10 μ5 hρ6 h => ?_) _ _ _ _ hρ h
      refine u_X5_order2_88 F Rt hk  _ _ _ _ _ hρ6 h
    · rw [if_pos c] at h
      refine j_iload F (pc := 68) (i := 4) (by decide +kernel) rfl ?_
      refine j_if_ne F (pc := 70) (off := 17) (tgt := 87) (by decide +kernel) (by decide) (fun c => ?_) (fun c => ?_)
      · rw [if_neg c] at h
        refine j_mk F [true, true, true, true, false, false, false, false, false, false] (L' := [some (.ref 98), some (.int x1), some (.int x2), some (.int x3), none, none, none, none, none, none]) rfl ?_
        refine u_X5_order2_87 F Rt hk (fun y19 y20 y21 y22 μ17 hρ18 h => ?_) _ _ _ _ hρ h
        refine u_X5_order2_88 F Rt hk  _ _ _ _ _ hρ18 h
      · rw [if_pos c] at h
        refine j_aload_n F (pc := 73) (q := 0) (by decide +kernel) rfl ?_
        refine j_iload_n F (pc := 74) (q := 2) (by decide +kernel) rfl ?_
        obtain ⟨r23, μ24, hc26, h⟩ := z_b2_some h
        refine j_callVi F (pc := 75) (idx := 299) (As := [.int x2]) (st := []) (t_X5_voyageOf (G := E.1) hρ hk hc26) q_X5_voyageOf v_X5_voyageOf m_1209 (hk.s c_98) rfl rfl (by decide) (Nat.le_of_ble_eq_true rfl) rfl (by decide +kernel) (fun s29 ν27 hq28 hp => ?_)
        obtain ⟨rfl, rfl⟩ := hp
        have hρ25 : μ24.2.2 = ρ := hq28.trans hρ
        refine j_aload_n F (pc := 78) (q := 0) (by decide +kernel) rfl ?_
        refine j_iload_n F (pc := 79) (q := 3) (by decide +kernel) rfl ?_
        obtain ⟨r30, μ31, hc33, h⟩ := z_b2_some h
        refine j_callVi F (pc := 80) (idx := 299) (As := [.int x3]) (st := [.int r23]) (t_X5_voyageOf (G := E.1) hρ25 hk hc33) q_X5_voyageOf v_X5_voyageOf m_1209 (hk.s c_98) rfl rfl (by decide) (Nat.le_of_ble_eq_true rfl) rfl (by decide +kernel) (fun s36 ν34 hq35 hp => ?_)
        obtain ⟨rfl, rfl⟩ := hp
        have hρ32 : μ31.2.2 = ρ := hq35.trans hρ25
        refine j_isub F (pc := 83) (by decide +kernel) ?_
        refine j_goto F (pc := 84) (off := 4) (tgt := 88) (by decide +kernel) (by decide) ?_
        refine j_mk F [true, true, true, true, false, false, false, false, false, false] (L' := [some (.ref 98), some (.int x1), some (.int x2), some (.int x3), none, none, none, none, none, none]) rfl ?_
        refine u_X5_order2_88 F Rt hk  _ _ _ _ _ hρ32 h
  · rw [if_neg c] at h
    refine j_iload F (pc := 43) (i := 4) (by decide +kernel) rfl ?_
    refine j_iload F (pc := 45) (i := 5) (by decide +kernel) rfl ?_
    suffices hj : z_J E 10 55 [some (.ref 98), some (.int x1), some (.int x2), some (.int x3), some (.int x_1), some (.int x_3), none, none, none, none] (.int (if x_1 ≤ x_3 then (-1 : Int32) else (1 : Int32)) :: []) μ by
      refine j_icmp_le F (pc := 47) (off := 7) (tgt := 54) (by decide +kernel) (by decide) (fun c0 => ?_) (fun c0 => ?_)
      · rw [if_pos c0] at hj
        refine j_iconst F (pc := 54) (n := -1) (v := -1) (by decide +kernel) (by decide +kernel) ?_
        exact hj
      · rw [if_neg c0] at hj
        refine j_iconst F (pc := 50) (n := 1) (v := 1) (by decide +kernel) (by decide +kernel) ?_
        refine j_goto F (pc := 51) (off := 4) (tgt := 55) (by decide +kernel) (by decide) ?_
        exact hj
    exact j_iret (st := []) F Rt rfl (by decide +kernel) ⟨hρ, _, rfl, (congrArg Prod.fst (Option.some.inj h)).symm, (congrArg Prod.snd (Option.some.inj h)).symm⟩
/-- LastLentModel.ahead -/
def f_X5_ahead (x1 : Int32) (x2 : Int32) (x3 : Int32) (μ : z_M) : Option (Int32 × z_M) :=
  (z_b2 (f_X5_isLand (x1) μ) fun r1 μ2 => (if r1 = 0 then (some ((-1001 : Int32), μ2)) else (z_b2 (f_X5_isClaim (x2) μ2) fun r8 μ9 => (if r8 = 0 then (some ((-1001 : Int32), μ9)) else (z_b2 (f_X5_isClaim (x3) μ9) fun r15 μ16 => (if r15 = 0 then (some ((-1001 : Int32), μ16)) else (z_b2 (f_X5_order2 (x1) (x2) (x3) μ16) fun r22 μ23 => (some (r22, μ23)))))))))
set_option maxHeartbeats 4000000 in
set_option maxRecDepth 100000 in
theorem t_X5_ahead {G : z_Gl} {ρ : Nat → Nat → Option Nat} {μ : z_M} {r : Int32} {μr : z_M} {x1 : Int32} {x2 : Int32} {x3 : Int32} (hρ : μ.2.2 = ρ) (hk : z_ok (z_sh G) ρ) (h : f_X5_ahead x1 x2 x3 μ = some (r, μr)) : z_Ci G yX5_ahead cX5_ahead 4 (some .int) 2 [.ref 98, .int x1, .int x2, .int x3] μ (fun r1 μ1 => r = r1 ∧ μr = μ1) := by
  unfold z_Ci
  refine z_intro (by decide +kernel) (Nat.le_of_ble_eq_true rfl) (fun E hE F Rt => ?_)
  subst hE
  have F : z_F E RX5 cX5_ahead 4 2 := F
  rw [hρ] at Rt
  unfold f_X5_ahead at h
  show z_J E 4 0 [some (.ref 98), some (.int x1), some (.int x2), some (.int x3)] [] μ
  refine j_iload_n F (pc := 0) (q := 1) (by decide +kernel) rfl ?_
  obtain ⟨r1, μ2, hc4, h⟩ := z_b2_some h
  refine j_callSi F (pc := 1) (idx := 246) (As := [.int x1]) (st := []) (t_X5_isLand (G := E.1) hρ  hc4) q_X5_isLand m_1058 m_1057 rfl (by decide) (Nat.le_of_ble_eq_true rfl) rfl (by decide +kernel) (fun s7 ν5 hq6 hp => ?_)
  obtain ⟨rfl, rfl⟩ := hp
  have hρ3 : μ2.2.2 = ρ := hq6.trans hρ
  refine j_if_eq F (pc := 4) (off := 29) (tgt := 33) (by decide +kernel) (by decide) (fun c => ?_) (fun c => ?_)
  · rw [if_pos c] at h
    refine j_sipush F (pc := 33) (n := -1001) (v := -1001) (by decide +kernel) (by decide +kernel) ?_
    exact j_iret (st := []) F Rt rfl (by decide +kernel) ⟨hρ3, _, rfl, (congrArg Prod.fst (Option.some.inj h)).symm, (congrArg Prod.snd (Option.some.inj h)).symm⟩
  · rw [if_neg c] at h
    refine j_aload_n F (pc := 7) (q := 0) (by decide +kernel) rfl ?_
    refine j_iload_n F (pc := 8) (q := 2) (by decide +kernel) rfl ?_
    obtain ⟨r8, μ9, hc11, h⟩ := z_b2_some h
    refine j_callVi F (pc := 9) (idx := 284) (As := [.int x2]) (st := []) (t_X5_isClaim (G := E.1) hρ3 hk hc11) q_X5_isClaim v_X5_isClaim m_1180 (hk.s c_98) rfl rfl (by decide) (Nat.le_of_ble_eq_true rfl) rfl (by decide +kernel) (fun s14 ν12 hq13 hp => ?_)
    obtain ⟨rfl, rfl⟩ := hp
    have hρ10 : μ9.2.2 = ρ := hq13.trans hρ3
    refine j_if_eq F (pc := 12) (off := 21) (tgt := 33) (by decide +kernel) (by decide) (fun c => ?_) (fun c => ?_)
    · rw [if_pos c] at h
      refine j_sipush F (pc := 33) (n := -1001) (v := -1001) (by decide +kernel) (by decide +kernel) ?_
      exact j_iret (st := []) F Rt rfl (by decide +kernel) ⟨hρ10, _, rfl, (congrArg Prod.fst (Option.some.inj h)).symm, (congrArg Prod.snd (Option.some.inj h)).symm⟩
    · rw [if_neg c] at h
      refine j_aload_n F (pc := 15) (q := 0) (by decide +kernel) rfl ?_
      refine j_iload_n F (pc := 16) (q := 3) (by decide +kernel) rfl ?_
      obtain ⟨r15, μ16, hc18, h⟩ := z_b2_some h
      refine j_callVi F (pc := 17) (idx := 284) (As := [.int x3]) (st := []) (t_X5_isClaim (G := E.1) hρ10 hk hc18) q_X5_isClaim v_X5_isClaim m_1180 (hk.s c_98) rfl rfl (by decide) (Nat.le_of_ble_eq_true rfl) rfl (by decide +kernel) (fun s21 ν19 hq20 hp => ?_)
      obtain ⟨rfl, rfl⟩ := hp
      have hρ17 : μ16.2.2 = ρ := hq20.trans hρ10
      refine j_if_eq F (pc := 20) (off := 13) (tgt := 33) (by decide +kernel) (by decide) (fun c => ?_) (fun c => ?_)
      · rw [if_pos c] at h
        refine j_sipush F (pc := 33) (n := -1001) (v := -1001) (by decide +kernel) (by decide +kernel) ?_
        exact j_iret (st := []) F Rt rfl (by decide +kernel) ⟨hρ17, _, rfl, (congrArg Prod.fst (Option.some.inj h)).symm, (congrArg Prod.snd (Option.some.inj h)).symm⟩
      · rw [if_neg c] at h
        refine j_aload_n F (pc := 23) (q := 0) (by decide +kernel) rfl ?_
        refine j_iload_n F (pc := 24) (q := 1) (by decide +kernel) rfl ?_
        refine j_iload_n F (pc := 25) (q := 2) (by decide +kernel) rfl ?_
        refine j_iload_n F (pc := 26) (q := 3) (by decide +kernel) rfl ?_
        obtain ⟨r22, μ23, hc25, h⟩ := z_b2_some h
        refine j_callVi F (pc := 27) (idx := 306) (As := [.int x1, .int x2, .int x3]) (st := []) (t_X5_order2 (G := E.1) hρ17 hk hc25) q_X5_order2 v_X5_order2 m_1233 (hk.s c_98) rfl rfl (by decide) (Nat.le_of_ble_eq_true rfl) rfl (by decide +kernel) (fun s28 ν26 hq27 hp => ?_)
        obtain ⟨rfl, rfl⟩ := hp
        have hρ24 : μ23.2.2 = ρ := hq27.trans hρ17
        refine j_goto F (pc := 30) (off := 6) (tgt := 36) (by decide +kernel) (by decide) ?_
        exact j_iret (st := []) F Rt rfl (by decide +kernel) ⟨hρ24, _, rfl, (congrArg Prod.fst (Option.some.inj h)).symm, (congrArg Prod.snd (Option.some.inj h)).symm⟩
/-- LastLentModel.isOn -/
def f_X5_isOn (x1 : Int32) (x2 : Int32) (x3 : Int32) (μ : z_M) : Option (Int32 × z_M) :=
  (if z_in x3 15 then (if z_in (((8 : Int32) * x1) + (μ.1 116 x3.toNatClampNeg)) 32 then (z_lt (μ.1 99 (((8 : Int32) * x1) + (μ.1 116 x3.toNatClampNeg)).toNatClampNeg) fun x_1 => (if (((2 : Int32) ≤ x2) → (((x_1 >>> ((2 : Int32) &&& 31)) &&& (1 : Int32)) = (1 : Int32)) → z_in x3 15) then (some ((if (2 : Int32) ≤ x2 then (if ((x_1 >>> ((2 : Int32) &&& 31)) &&& (1 : Int32)) = (1 : Int32) then (if (((μ.1 121 x3.toNatClampNeg) >>> ((x2 - (2 : Int32)) &&& 31)) &&& (1 : Int32)) = (1 : Int32) then (1 : Int32) else (0 : Int32)) else (0 : Int32)) else (if ((x_1 >>> (x2 &&& 31)) &&& (1 : Int32)) = (1 : Int32) then (1 : Int32) else (0 : Int32))), μ)) else none)) else none) else none)
set_option maxHeartbeats 4000000 in
set_option maxRecDepth 100000 in
theorem t_X5_isOn {G : z_Gl} {ρ : Nat → Nat → Option Nat} {μ : z_M} {r : Int32} {μr : z_M} {x1 : Int32} {x2 : Int32} {x3 : Int32} (hρ : μ.2.2 = ρ) (hk : z_ok (z_sh G) ρ) (h : f_X5_isOn x1 x2 x3 μ = some (r, μr)) : z_Ci G yX5_isOn cX5_isOn 5 (some .boolean) 0 [.ref 98, .int x1, .int x2, .int x3] μ (fun r1 μ1 => r = r1 ∧ μr = μ1) := by
  unfold z_Ci
  refine z_intro (by decide +kernel) (Nat.le_of_ble_eq_true rfl) (fun E hE F Rt => ?_)
  subst hE
  have F : z_F E RX5 cX5_isOn 5 0 := F
  rw [hρ] at Rt
  unfold f_X5_isOn at h
  show z_J E 5 0 [some (.ref 98), some (.int x1), some (.int x2), some (.int x3), none] [] μ
  refine j_aload_n F (pc := 0) (q := 0) (by decide +kernel) rfl ?_
  refine j_getR F (pc := 1) (hk.r hρ r_98_0) fl_X5_7 (hk.s c_98) rfl (by decide +kernel) ?_
  refine j_bipush F (pc := 4) (n := 8) (v := 8) (by decide +kernel) (by decide +kernel) ?_
  refine j_iload_n F (pc := 6) (q := 1) (by decide +kernel) rfl ?_
  refine j_imul F (pc := 7) (by decide +kernel) ?_
  refine j_aload_n F (pc := 8) (q := 0) (by decide +kernel) rfl ?_
  refine j_getR F (pc := 9) (hk.r hρ r_98_28) fl_X5_66 (hk.s c_98) rfl (by decide +kernel) ?_
  refine j_iload_n F (pc := 12) (q := 3) (by decide +kernel) rfl ?_
  obtain ⟨hg, h⟩ := z_ifs h
  refine j_iald F (pc := 13) (hk.s c_116) hg (by decide +kernel) ?_
  refine j_iadd F (pc := 14) (by decide +kernel) ?_
  obtain ⟨hg, h⟩ := z_ifs h
  refine j_iald F (pc := 15) (hk.s c_99) hg (by decide +kernel) ?_
  obtain ⟨x_1, e2, h⟩ := z_lt_some h
  rw [← e2]
  refine j_istore F (pc := 16) (i := 4) (L' := [some (.ref 98), some (.int x1), some (.int x2), some (.int x3), some (.int x_1)]) (by decide +kernel) (by decide) rfl rfl ?_
  refine j_iload_n F (pc := 18) (q := 2) (by decide +kernel) rfl ?_
  refine j_iconst F (pc := 19) (n := 2) (v := 2) (by decide +kernel) (by decide +kernel) ?_
  obtain ⟨hg, h⟩ := z_ifs h
  suffices hj : z_J E 5 72 [some (.ref 98), some (.int x1), some (.int x2), some (.int x3), some (.int x_1)] (.int (if (2 : Int32) ≤ x2 then (if ((x_1 >>> ((2 : Int32) &&& 31)) &&& (1 : Int32)) = (1 : Int32) then (if (((μ.1 121 x3.toNatClampNeg) >>> ((x2 - (2 : Int32)) &&& 31)) &&& (1 : Int32)) = (1 : Int32) then (1 : Int32) else (0 : Int32)) else (0 : Int32)) else (if ((x_1 >>> (x2 &&& 31)) &&& (1 : Int32)) = (1 : Int32) then (1 : Int32) else (0 : Int32))) :: []) μ by
    refine j_icmp_ge F (pc := 20) (off := 21) (tgt := 41) (by decide +kernel) (by decide) (fun c0 => ?_) (fun c0 => ?_)
    · rw [if_pos c0] at hj
      refine j_iload F (pc := 41) (i := 4) (by decide +kernel) rfl ?_
      refine j_iconst F (pc := 43) (n := 2) (v := 2) (by decide +kernel) (by decide +kernel) ?_
      refine j_ishr F (pc := 44) (by decide +kernel) ?_
      refine j_iconst F (pc := 45) (n := 1) (v := 1) (by decide +kernel) (by decide +kernel) ?_
      refine j_iand F (pc := 46) (by decide +kernel) ?_
      refine j_iconst F (pc := 47) (n := 1) (v := 1) (by decide +kernel) (by decide +kernel) ?_
      refine j_icmp_ne F (pc := 48) (off := 23) (tgt := 71) (by decide +kernel) (by decide) (fun c1 => ?_) (fun c1 => ?_)
      · rw [if_neg c1] at hj
        refine j_iconst F (pc := 71) (n := 0) (v := 0) (by decide +kernel) (by decide +kernel) ?_
        exact hj
      · rw [if_pos c1] at hj
        refine j_aload_n F (pc := 51) (q := 0) (by decide +kernel) rfl ?_
        refine j_getR F (pc := 52) (hk.r hρ r_98_33) fl_X5_81 (hk.s c_98) rfl (by decide +kernel) ?_
        refine j_iload_n F (pc := 55) (q := 3) (by decide +kernel) rfl ?_
        refine j_iald F (pc := 56) (hk.s c_121) (hg c0 c1) (by decide +kernel) ?_
        refine j_iload_n F (pc := 57) (q := 2) (by decide +kernel) rfl ?_
        refine j_iconst F (pc := 58) (n := 2) (v := 2) (by decide +kernel) (by decide +kernel) ?_
        refine j_isub F (pc := 59) (by decide +kernel) ?_
        refine j_ishr F (pc := 60) (by decide +kernel) ?_
        refine j_iconst F (pc := 61) (n := 1) (v := 1) (by decide +kernel) (by decide +kernel) ?_
        refine j_iand F (pc := 62) (by decide +kernel) ?_
        refine j_iconst F (pc := 63) (n := 1) (v := 1) (by decide +kernel) (by decide +kernel) ?_
        refine j_icmp_ne F (pc := 64) (off := 7) (tgt := 71) (by decide +kernel) (by decide) (fun c2 => ?_) (fun c2 => ?_)
        · rw [if_neg c2] at hj
          refine j_iconst F (pc := 71) (n := 0) (v := 0) (by decide +kernel) (by decide +kernel) ?_
          exact hj
        · rw [if_pos c2] at hj
          refine j_iconst F (pc := 67) (n := 1) (v := 1) (by decide +kernel) (by decide +kernel) ?_
          refine j_goto F (pc := 68) (off := 4) (tgt := 72) (by decide +kernel) (by decide) ?_
          exact hj
    · rw [if_neg c0] at hj
      refine j_iload F (pc := 23) (i := 4) (by decide +kernel) rfl ?_
      refine j_iload_n F (pc := 25) (q := 2) (by decide +kernel) rfl ?_
      refine j_ishr F (pc := 26) (by decide +kernel) ?_
      refine j_iconst F (pc := 27) (n := 1) (v := 1) (by decide +kernel) (by decide +kernel) ?_
      refine j_iand F (pc := 28) (by decide +kernel) ?_
      refine j_iconst F (pc := 29) (n := 1) (v := 1) (by decide +kernel) (by decide +kernel) ?_
      refine j_icmp_ne F (pc := 30) (off := 7) (tgt := 37) (by decide +kernel) (by decide) (fun c1 => ?_) (fun c1 => ?_)
      · rw [if_neg c1] at hj
        refine j_iconst F (pc := 37) (n := 0) (v := 0) (by decide +kernel) (by decide +kernel) ?_
        refine j_goto F (pc := 38) (off := 34) (tgt := 72) (by decide +kernel) (by decide) ?_
        exact hj
      · rw [if_pos c1] at hj
        refine j_iconst F (pc := 33) (n := 1) (v := 1) (by decide +kernel) (by decide +kernel) ?_
        refine j_goto F (pc := 34) (off := 38) (tgt := 72) (by decide +kernel) (by decide) ?_
        exact hj
  exact j_iret (st := []) F Rt (z_nb (by repeat' (first | exact Or.inl rfl | exact Or.inr rfl | split))) (by decide +kernel) ⟨hρ, _, rfl, (congrArg Prod.fst (Option.some.inj h)).symm, (congrArg Prod.snd (Option.some.inj h)).symm⟩
/-- LastLentModel.isThere -/
def f_X5_isThere (x1 : Int32) (x2 : Int32) (x3 : Int32) (x4 : Int32) (μ : z_M) : Option (Int32 × z_M) :=
  (if z_in x4 15 then (if (μ.1 123 x4.toNatClampNeg) = 0 then (z_b2 (f_X5_isOn (x1) (x3) (x4) μ) fun r1 μ2 => (if r1 = 0 then (some ((0 : Int32), μ2)) else (z_b2 (f_X5_why (x1) (x2) (x4) μ2) fun r8 μ9 => (if r8 = 0 then (some ((1 : Int32), μ9)) else (some ((0 : Int32), μ9)))))) else (some ((0 : Int32), μ))) else none)
set_option maxHeartbeats 4000000 in
set_option maxRecDepth 100000 in
theorem t_X5_isThere {G : z_Gl} {ρ : Nat → Nat → Option Nat} {μ : z_M} {r : Int32} {μr : z_M} {x1 : Int32} {x2 : Int32} {x3 : Int32} {x4 : Int32} (hρ : μ.2.2 = ρ) (hk : z_ok (z_sh G) ρ) (h : f_X5_isThere x1 x2 x3 x4 μ = some (r, μr)) : z_Ci G yX5_isThere cX5_isThere 5 (some .boolean) 1 [.ref 98, .int x1, .int x2, .int x3, .int x4] μ (fun r1 μ1 => r = r1 ∧ μr = μ1) := by
  unfold z_Ci
  refine z_intro (by decide +kernel) (Nat.le_of_ble_eq_true rfl) (fun E hE F Rt => ?_)
  subst hE
  have F : z_F E RX5 cX5_isThere 5 1 := F
  rw [hρ] at Rt
  unfold f_X5_isThere at h
  show z_J E 5 0 [some (.ref 98), some (.int x1), some (.int x2), some (.int x3), some (.int x4)] [] μ
  refine j_aload_n F (pc := 0) (q := 0) (by decide +kernel) rfl ?_
  refine j_getR F (pc := 1) (hk.r hρ r_98_35) fl_X5_87 (hk.s c_98) rfl (by decide +kernel) ?_
  refine j_iload F (pc := 4) (i := 4) (by decide +kernel) rfl ?_
  obtain ⟨hg, h⟩ := z_ifs h
  refine j_zald F (pc := 6) (hk.s c_123) hg (by decide +kernel) ?_
  refine j_if_ne F (pc := 7) (off := 29) (tgt := 36) (by decide +kernel) (by decide) (fun c => ?_) (fun c => ?_)
  · rw [if_neg c] at h
    refine j_iconst F (pc := 36) (n := 0) (v := 0) (by decide +kernel) (by decide +kernel) ?_
    exact j_iret (st := []) F Rt rfl (by decide +kernel) ⟨hρ, _, rfl, (congrArg Prod.fst (Option.some.inj h)).symm, (congrArg Prod.snd (Option.some.inj h)).symm⟩
  · rw [if_pos c] at h
    refine j_aload_n F (pc := 10) (q := 0) (by decide +kernel) rfl ?_
    refine j_iload_n F (pc := 11) (q := 1) (by decide +kernel) rfl ?_
    refine j_iload_n F (pc := 12) (q := 3) (by decide +kernel) rfl ?_
    refine j_iload F (pc := 13) (i := 4) (by decide +kernel) rfl ?_
    obtain ⟨r1, μ2, hc4, h⟩ := z_b2_some h
    refine j_callVi F (pc := 15) (idx := 309) (As := [.int x1, .int x3, .int x4]) (st := []) (t_X5_isOn (G := E.1) hρ hk hc4) q_X5_isOn v_X5_isOn m_1245 (hk.s c_98) rfl rfl (by decide) (Nat.le_of_ble_eq_true rfl) rfl (by decide +kernel) (fun s7 ν5 hq6 hp => ?_)
    obtain ⟨rfl, rfl⟩ := hp
    have hρ3 : μ2.2.2 = ρ := hq6.trans hρ
    refine j_if_eq F (pc := 18) (off := 18) (tgt := 36) (by decide +kernel) (by decide) (fun c => ?_) (fun c => ?_)
    · rw [if_pos c] at h
      refine j_iconst F (pc := 36) (n := 0) (v := 0) (by decide +kernel) (by decide +kernel) ?_
      exact j_iret (st := []) F Rt rfl (by decide +kernel) ⟨hρ3, _, rfl, (congrArg Prod.fst (Option.some.inj h)).symm, (congrArg Prod.snd (Option.some.inj h)).symm⟩
    · rw [if_neg c] at h
      refine j_aload_n F (pc := 21) (q := 0) (by decide +kernel) rfl ?_
      refine j_iload_n F (pc := 22) (q := 1) (by decide +kernel) rfl ?_
      refine j_iload_n F (pc := 23) (q := 2) (by decide +kernel) rfl ?_
      refine j_iload F (pc := 24) (i := 4) (by decide +kernel) rfl ?_
      obtain ⟨r8, μ9, hc11, h⟩ := z_b2_some h
      refine j_callVi F (pc := 26) (idx := 302) (As := [.int x1, .int x2, .int x4]) (st := []) (t_X5_why (G := E.1) hρ3 hk hc11) q_X5_why v_X5_why m_1221 (hk.s c_98) rfl rfl (by decide) (Nat.le_of_ble_eq_true rfl) rfl (by decide +kernel) (fun s14 ν12 hq13 hp => ?_)
      obtain ⟨rfl, rfl⟩ := hp
      have hρ10 : μ9.2.2 = ρ := hq13.trans hρ3
      refine j_if_ne F (pc := 29) (off := 7) (tgt := 36) (by decide +kernel) (by decide) (fun c => ?_) (fun c => ?_)
      · rw [if_neg c] at h
        refine j_iconst F (pc := 36) (n := 0) (v := 0) (by decide +kernel) (by decide +kernel) ?_
        exact j_iret (st := []) F Rt rfl (by decide +kernel) ⟨hρ10, _, rfl, (congrArg Prod.fst (Option.some.inj h)).symm, (congrArg Prod.snd (Option.some.inj h)).symm⟩
      · rw [if_pos c] at h
        refine j_iconst F (pc := 32) (n := 1) (v := 1) (by decide +kernel) (by decide +kernel) ?_
        refine j_goto F (pc := 33) (off := 4) (tgt := 37) (by decide +kernel) (by decide) ?_
        exact j_iret (st := []) F Rt rfl (by decide +kernel) ⟨hρ10, _, rfl, (congrArg Prod.fst (Option.some.inj h)).symm, (congrArg Prod.snd (Option.some.inj h)).symm⟩
def g_X5_step_138  (k_102 : Int32 → Int32 → Int32 → Int32 → Int32 → Int32 → Int32 → Int32 → z_M → Option (Int32 × z_M)) (x1 : Int32) (x2 : Int32) (x3 : Int32) (x4 : Int32) (x5 : Int32) (x6 : Int32) (x8 : Int32) (μ : z_M) : Option (Int32 × z_M) :=
  (k_102 (x1) (x2) (x3) (x4) (x5) (x6) ((1 : Int32)) ((x8 + (1 : Int32))) μ)
def g_X5_step_102  (k_58 : Int32 → Int32 → Int32 → Int32 → Int32 → Int32 → z_M → Option (Int32 × z_M)) : Nat → Int32 → Int32 → Int32 → Int32 → Int32 → Int32 → Int32 → Int32 → z_M → Option (Int32 × z_M)
  | 0, _, _, _, _, _, _, _, _, _ => none
  | n + 1, x1, x2, x3, x4, x5, x6, x7, x8, μ => (if x6 ≤ x8 then (z_lt (x5 + (if x7 = 0 then (0 : Int32) else (1 : Int32))) fun x_43 => (k_58 (x1) (x2) (x3) (x4) (x_43) ((x6 + (1 : Int32))) μ)) else (if x7 = 0 then (g_X5_step_102  k_58 n (x1) (x2) (x3) (x4) (x5) (x6) ((0 : Int32)) ((x8 + (1 : Int32))) μ) else (z_b2 (f_X5_isThere (x1) (x2) (x3) (x8) μ) fun r45 μ46 => (if r45 = 0 then (g_X5_step_138  (fun (y54 : Int32) (y55 : Int32) (y56 : Int32) (y57 : Int32) (y58 : Int32) (y59 : Int32) (y60 : Int32) (y61 : Int32) (μ52 : z_M) => (g_X5_step_102  k_58 n (y54) (y55) (y56) (y57) (y58) (y59) (y60) (y61) μ52)) (x1) (x2) (x3) (x4) (x5) (x6) (x8) μ46) else (z_b2 (f_X5_order2 (x1) (x8) (x6) μ46) fun r62 μ63 => (if r62 = 0 then (g_X5_step_102  k_58 n (x1) (x2) (x3) (x4) (x5) (x6) ((0 : Int32)) ((x8 + (1 : Int32))) μ63) else (g_X5_step_138  (fun (y71 : Int32) (y72 : Int32) (y73 : Int32) (y74 : Int32) (y75 : Int32) (y76 : Int32) (y77 : Int32) (y78 : Int32) (μ69 : z_M) => (g_X5_step_102  k_58 n (y71) (y72) (y73) (y74) (y75) (y76) (y77) (y78) μ69)) (x1) (x2) (x3) (x4) (x5) (x6) (x8) μ63)))))))
def g_X5_step_58   : Nat → Int32 → Int32 → Int32 → Int32 → Int32 → Int32 → z_M → Option (Int32 × z_M)
  | 0, _, _, _, _, _, _, _ => none
  | n + 1, x1, x2, x3, x4, x5, x6, μ => (if (μ.1 98 27) ≤ x6 then (some (x5, μ)) else (z_b2 (f_X5_isThere (x1) (x2) (x3) (x6) μ) fun r36 μ37 => (if r36 = 0 then (g_X5_step_102  (fun (y81 : Int32) (y82 : Int32) (y83 : Int32) (y84 : Int32) (y85 : Int32) (y86 : Int32) (μ79 : z_M) => (g_X5_step_58   n (y81) (y82) (y83) (y84) (y85) (y86) μ79)) z_N (x1) (x2) (x3) (x4) (x5) (x6) ((0 : Int32)) ((0 : Int32)) μ37) else (z_b2 (f_X5_order2 (x1) (x6) (x4) μ37) fun r87 μ88 => (if r87 = (1 : Int32) then (g_X5_step_102  (fun (y104 : Int32) (y105 : Int32) (y106 : Int32) (y107 : Int32) (y108 : Int32) (y109 : Int32) (μ102 : z_M) => (g_X5_step_58   n (y104) (y105) (y106) (y107) (y108) (y109) μ102)) z_N (x1) (x2) (x3) (x4) (x5) (x6) ((1 : Int32)) ((0 : Int32)) μ88) else (g_X5_step_102  (fun (y96 : Int32) (y97 : Int32) (y98 : Int32) (y99 : Int32) (y100 : Int32) (y101 : Int32) (μ94 : z_M) => (g_X5_step_58   n (y96) (y97) (y98) (y99) (y100) (y101) μ94)) z_N (x1) (x2) (x3) (x4) (x5) (x6) ((0 : Int32)) ((0 : Int32)) μ88))))))
def f_X5_step (x1 : Int32) (x2 : Int32) (x3 : Int32) (x4 : Int32) (μ : z_M) : Option (Int32 × z_M) :=
  (z_b2 (f_X5_isLand (x1) μ) fun r1 μ2 => (if r1 = 0 then (some ((-1001 : Int32), μ2)) else (z_b2 (f_X5_isFund (x3) μ2) fun r8 μ9 => (if r8 = 0 then (some ((-1001 : Int32), μ9)) else (z_b2 (f_X5_isClaim (x4) μ9) fun r15 μ16 => (if r15 = 0 then (some ((-1001 : Int32), μ16)) else (z_b2 (f_X5_isDay (x2) μ16) fun r22 μ23 => (if r22 = 0 then (some ((-1002 : Int32), μ23)) else (z_b2 (f_X5_isThere (x1) (x2) (x3) (x4) μ23) fun r29 μ30 => (if r29 = 0 then (some ((-1 : Int32), μ30)) else (g_X5_step_58   z_N (x1) (x2) (x3) (x4) ((0 : Int32)) ((0 : Int32)) μ30)))))))))))
set_option maxHeartbeats 4000000 in
set_option maxRecDepth 100000 in
theorem u_X5_step_138 {E : z_E} {ρ : Nat → Nat → Option Nat} {r : Int32} {μr : z_M} (F : z_F E RX5 cX5_step 9 2) (Rt : z_R E (some .int) (fun v μ1 => μ1.2.2 = ρ ∧ ∃ r1, v = some (.int r1) ∧ r = r1 ∧ μr = μ1))  (hk : z_ok (z_sh E.1) ρ) {k_102 : Int32 → Int32 → Int32 → Int32 → Int32 → Int32 → Int32 → Int32 → z_M → Option (Int32 × z_M)} (hc_102 : ∀ (y1 : Int32) (y2 : Int32) (y3 : Int32) (y4 : Int32) (y5 : Int32) (y6 : Int32) (y7 : Int32) (y8 : Int32) (μ1 : z_M), μ1.2.2 = ρ → k_102 y1 y2 y3 y4 y5 y6 y7 y8 μ1 = some (r, μr) → z_J E 9 102 [some (.ref 98), some (.int y1), some (.int y2), some (.int y3), some (.int y4), some (.int y5), some (.int y6), some (.int y7), some (.int y8)] [] μ1) : ∀ (x1 : Int32) (x2 : Int32) (x3 : Int32) (x4 : Int32) (x5 : Int32) (x6 : Int32) (x8 : Int32) (μ : z_M), μ.2.2 = ρ → g_X5_step_138  k_102 x1 x2 x3 x4 x5 x6 x8 μ = some (r, μr) → z_J E 9 138 [some (.ref 98), some (.int x1), some (.int x2), some (.int x3), some (.int x4), some (.int x5), some (.int x6), none, some (.int x8)] [] μ := by
  intro x1 x2 x3 x4 x5 x6 x8 μ hρ h
  unfold g_X5_step_138 at h
  refine j_iconst F (pc := 138) (n := 1) (v := 1) (by decide +kernel) (by decide +kernel) ?_
  refine j_goto F (pc := 139) (off := 4) (tgt := 143) (by decide +kernel) (by decide) ?_
  refine j_istore F (pc := 143) (i := 7) (L' := [some (.ref 98), some (.int x1), some (.int x2), some (.int x3), some (.int x4), some (.int x5), some (.int x6), some (.int (1 : Int32)), some (.int x8)]) (by decide +kernel) (by decide) rfl rfl ?_
  refine j_iinc F (pc := 145) (i := 8) (n := 1) (v := 1) (L' := [some (.ref 98), some (.int x1), some (.int x2), some (.int x3), some (.int x4), some (.int x5), some (.int x6), some (.int (1 : Int32)), some (.int (x8 + (1 : Int32)))]) (by decide +kernel) rfl (by decide +kernel) (by decide) rfl rfl ?_
  refine j_goto F (pc := 148) (off := -46) (tgt := 102) (by decide +kernel) (by decide) ?_
  exact hc_102 _ _ _ _ _ _ _ _ _ hρ h
set_option maxHeartbeats 4000000 in
set_option maxRecDepth 100000 in
theorem u_X5_step_102 {E : z_E} {ρ : Nat → Nat → Option Nat} {r : Int32} {μr : z_M} (F : z_F E RX5 cX5_step 9 2) (Rt : z_R E (some .int) (fun v μ1 => μ1.2.2 = ρ ∧ ∃ r1, v = some (.int r1) ∧ r = r1 ∧ μr = μ1))  (hk : z_ok (z_sh E.1) ρ) {k_58 : Int32 → Int32 → Int32 → Int32 → Int32 → Int32 → z_M → Option (Int32 × z_M)} (hc_58 : ∀ (y1 : Int32) (y2 : Int32) (y3 : Int32) (y4 : Int32) (y5 : Int32) (y6 : Int32) (μ1 : z_M), μ1.2.2 = ρ → k_58 y1 y2 y3 y4 y5 y6 μ1 = some (r, μr) → z_J E 9 58 [some (.ref 98), some (.int y1), some (.int y2), some (.int y3), some (.int y4), some (.int y5), some (.int y6), none, none] [] μ1) : ∀ (n : Nat) (x1 : Int32) (x2 : Int32) (x3 : Int32) (x4 : Int32) (x5 : Int32) (x6 : Int32) (x7 : Int32) (x8 : Int32) (μ : z_M), μ.2.2 = ρ → g_X5_step_102  k_58 n x1 x2 x3 x4 x5 x6 x7 x8 μ = some (r, μr) → z_J E 9 102 [some (.ref 98), some (.int x1), some (.int x2), some (.int x3), some (.int x4), some (.int x5), some (.int x6), some (.int x7), some (.int x8)] [] μ := by
  intro n
  induction n with
  | zero =>
    intro x1 x2 x3 x4 x5 x6 x7 x8 μ hρ h
    rw [g_X5_step_102] at h
    cases h
  | succ n ih =>
    intro x1 x2 x3 x4 x5 x6 x7 x8 μ hρ h
    rw [g_X5_step_102] at h
    refine j_iload F (pc := 102) (i := 8) (by decide +kernel) rfl ?_
    refine j_iload F (pc := 104) (i := 6) (by decide +kernel) rfl ?_
    refine j_icmp_ge F (pc := 106) (off := 45) (tgt := 151) (by decide +kernel) (by decide) (fun c => ?_) (fun c => ?_)
    · rw [if_pos c] at h
      refine j_iload F (pc := 151) (i := 5) (by decide +kernel) rfl ?_
      refine j_iload F (pc := 153) (i := 7) (by decide +kernel) rfl ?_
      suffices hj : z_J E 9 163 [some (.ref 98), some (.int x1), some (.int x2), some (.int x3), some (.int x4), some (.int x5), some (.int x6), some (.int x7), some (.int x8)] (.int (if x7 = 0 then (0 : Int32) else (1 : Int32)) :: [.int x5]) μ by
        refine j_if_eq F (pc := 155) (off := 7) (tgt := 162) (by decide +kernel) (by decide) (fun c0 => ?_) (fun c0 => ?_)
        · rw [if_pos c0] at hj
          refine j_iconst F (pc := 162) (n := 0) (v := 0) (by decide +kernel) (by decide +kernel) ?_
          exact hj
        · rw [if_neg c0] at hj
          refine j_iconst F (pc := 158) (n := 1) (v := 1) (by decide +kernel) (by decide +kernel) ?_
          refine j_goto F (pc := 159) (off := 4) (tgt := 163) (by decide +kernel) (by decide) ?_
          exact hj
      refine j_iadd F (pc := 163) (by decide +kernel) ?_
      obtain ⟨x_43, e44, h⟩ := z_lt_some h
      rw [← e44]
      refine j_istore F (pc := 164) (i := 5) (L' := [some (.ref 98), some (.int x1), some (.int x2), some (.int x3), some (.int x4), some (.int x_43), some (.int x6), some (.int x7), some (.int x8)]) (by decide +kernel) (by decide) rfl rfl ?_
      refine j_iinc F (pc := 166) (i := 6) (n := 1) (v := 1) (L' := [some (.ref 98), some (.int x1), some (.int x2), some (.int x3), some (.int x4), some (.int x_43), some (.int (x6 + (1 : Int32))), some (.int x7), some (.int x8)]) (by decide +kernel) rfl (by decide +kernel) (by decide) rfl rfl ?_
      refine j_goto F (pc := 169) (off := -111) (tgt := 58) (by decide +kernel) (by decide) ?_
      refine j_mk F [true, true, true, true, true, true, true, false, false] (L' := [some (.ref 98), some (.int x1), some (.int x2), some (.int x3), some (.int x4), some (.int x_43), some (.int (x6 + (1 : Int32))), none, none]) rfl ?_
      exact hc_58 _ _ _ _ _ _ _ hρ h
    · rw [if_neg c] at h
      refine j_iload F (pc := 109) (i := 7) (by decide +kernel) rfl ?_
      refine j_if_eq F (pc := 111) (off := 31) (tgt := 142) (by decide +kernel) (by decide) (fun c => ?_) (fun c => ?_)
      · rw [if_pos c] at h
        refine j_iconst F (pc := 142) (n := 0) (v := 0) (by decide +kernel) (by decide +kernel) ?_
        refine j_istore F (pc := 143) (i := 7) (L' := [some (.ref 98), some (.int x1), some (.int x2), some (.int x3), some (.int x4), some (.int x5), some (.int x6), some (.int (0 : Int32)), some (.int x8)]) (by decide +kernel) (by decide) rfl rfl ?_
        refine j_iinc F (pc := 145) (i := 8) (n := 1) (v := 1) (L' := [some (.ref 98), some (.int x1), some (.int x2), some (.int x3), some (.int x4), some (.int x5), some (.int x6), some (.int (0 : Int32)), some (.int (x8 + (1 : Int32)))]) (by decide +kernel) rfl (by decide +kernel) (by decide) rfl rfl ?_
        refine j_goto F (pc := 148) (off := -46) (tgt := 102) (by decide +kernel) (by decide) ?_
        exact ih _ _ _ _ _ _ _ _ _ hρ h
      · rw [if_neg c] at h
        refine j_aload_n F (pc := 114) (q := 0) (by decide +kernel) rfl ?_
        refine j_iload_n F (pc := 115) (q := 1) (by decide +kernel) rfl ?_
        refine j_iload_n F (pc := 116) (q := 2) (by decide +kernel) rfl ?_
        refine j_iload_n F (pc := 117) (q := 3) (by decide +kernel) rfl ?_
        refine j_iload F (pc := 118) (i := 8) (by decide +kernel) rfl ?_
        obtain ⟨r45, μ46, hc48, h⟩ := z_b2_some h
        refine j_callVi F (pc := 120) (idx := 312) (As := [.int x1, .int x2, .int x3, .int x8]) (st := []) (t_X5_isThere (G := E.1) hρ hk hc48) q_X5_isThere v_X5_isThere m_1241 (hk.s c_98) rfl rfl (by decide) (Nat.le_of_ble_eq_true rfl) rfl (by decide +kernel) (fun s51 ν49 hq50 hp => ?_)
        obtain ⟨rfl, rfl⟩ := hp
        have hρ47 : μ46.2.2 = ρ := hq50.trans hρ
        refine j_if_eq F (pc := 123) (off := 15) (tgt := 138) (by decide +kernel) (by decide) (fun c => ?_) (fun c => ?_)
        · rw [if_pos c] at h
          refine j_mk F [true, true, true, true, true, true, true, false, true] (L' := [some (.ref 98), some (.int x1), some (.int x2), some (.int x3), some (.int x4), some (.int x5), some (.int x6), none, some (.int x8)]) rfl ?_
          refine u_X5_step_138 F Rt hk (fun y54 y55 y56 y57 y58 y59 y60 y61 μ52 hρ53 h => ?_) _ _ _ _ _ _ _ _ hρ47 h
          exact ih _ _ _ _ _ _ _ _ _ hρ53 h
        · rw [if_neg c] at h
          refine j_aload_n F (pc := 126) (q := 0) (by decide +kernel) rfl ?_
          refine j_iload_n F (pc := 127) (q := 1) (by decide +kernel) rfl ?_
          refine j_iload F (pc := 128) (i := 8) (by decide +kernel) rfl ?_
          refine j_iload F (pc := 130) (i := 6) (by decide +kernel) rfl ?_
          obtain ⟨r62, μ63, hc65, h⟩ := z_b2_some h
          refine j_callVi F (pc := 132) (idx := 306) (As := [.int x1, .int x8, .int x6]) (st := []) (t_X5_order2 (G := E.1) hρ47 hk hc65) q_X5_order2 v_X5_order2 m_1233 (hk.s c_98) rfl rfl (by decide) (Nat.le_of_ble_eq_true rfl) rfl (by decide +kernel) (fun s68 ν66 hq67 hp => ?_)
          obtain ⟨rfl, rfl⟩ := hp
          have hρ64 : μ63.2.2 = ρ := hq67.trans hρ47
          refine j_if_eq F (pc := 135) (off := 7) (tgt := 142) (by decide +kernel) (by decide) (fun c => ?_) (fun c => ?_)
          · rw [if_pos c] at h
            refine j_iconst F (pc := 142) (n := 0) (v := 0) (by decide +kernel) (by decide +kernel) ?_
            refine j_istore F (pc := 143) (i := 7) (L' := [some (.ref 98), some (.int x1), some (.int x2), some (.int x3), some (.int x4), some (.int x5), some (.int x6), some (.int (0 : Int32)), some (.int x8)]) (by decide +kernel) (by decide) rfl rfl ?_
            refine j_iinc F (pc := 145) (i := 8) (n := 1) (v := 1) (L' := [some (.ref 98), some (.int x1), some (.int x2), some (.int x3), some (.int x4), some (.int x5), some (.int x6), some (.int (0 : Int32)), some (.int (x8 + (1 : Int32)))]) (by decide +kernel) rfl (by decide +kernel) (by decide) rfl rfl ?_
            refine j_goto F (pc := 148) (off := -46) (tgt := 102) (by decide +kernel) (by decide) ?_
            exact ih _ _ _ _ _ _ _ _ _ hρ64 h
          · rw [if_neg c] at h
            refine j_mk F [true, true, true, true, true, true, true, false, true] (L' := [some (.ref 98), some (.int x1), some (.int x2), some (.int x3), some (.int x4), some (.int x5), some (.int x6), none, some (.int x8)]) rfl ?_
            refine u_X5_step_138 F Rt hk (fun y71 y72 y73 y74 y75 y76 y77 y78 μ69 hρ70 h => ?_) _ _ _ _ _ _ _ _ hρ64 h
            exact ih _ _ _ _ _ _ _ _ _ hρ70 h
set_option maxHeartbeats 4000000 in
set_option maxRecDepth 100000 in
theorem u_X5_step_58 {E : z_E} {ρ : Nat → Nat → Option Nat} {r : Int32} {μr : z_M} (F : z_F E RX5 cX5_step 9 2) (Rt : z_R E (some .int) (fun v μ1 => μ1.2.2 = ρ ∧ ∃ r1, v = some (.int r1) ∧ r = r1 ∧ μr = μ1))  (hk : z_ok (z_sh E.1) ρ) : ∀ (n : Nat) (x1 : Int32) (x2 : Int32) (x3 : Int32) (x4 : Int32) (x5 : Int32) (x6 : Int32) (μ : z_M), μ.2.2 = ρ → g_X5_step_58   n x1 x2 x3 x4 x5 x6 μ = some (r, μr) → z_J E 9 58 [some (.ref 98), some (.int x1), some (.int x2), some (.int x3), some (.int x4), some (.int x5), some (.int x6), none, none] [] μ := by
  intro n
  induction n with
  | zero =>
    intro x1 x2 x3 x4 x5 x6 μ hρ h
    rw [g_X5_step_58] at h
    cases h
  | succ n ih =>
    intro x1 x2 x3 x4 x5 x6 μ hρ h
    rw [g_X5_step_58] at h
    refine j_iload F (pc := 58) (i := 6) (by decide +kernel) rfl ?_
    refine j_aload_n F (pc := 60) (q := 0) (by decide +kernel) rfl ?_
    refine j_getI F (pc := 61) fl_X5_268 (hk.s c_98) rfl (by decide +kernel) ?_
    refine j_icmp_ge F (pc := 64) (off := 108) (tgt := 172) (by decide +kernel) (by decide) (fun c => ?_) (fun c => ?_)
    · rw [if_pos c] at h
      refine j_iload F (pc := 172) (i := 5) (by decide +kernel) rfl ?_
      exact j_iret (st := []) F Rt rfl (by decide +kernel) ⟨hρ, _, rfl, (congrArg Prod.fst (Option.some.inj h)).symm, (congrArg Prod.snd (Option.some.inj h)).symm⟩
    · rw [if_neg c] at h
      refine j_aload_n F (pc := 67) (q := 0) (by decide +kernel) rfl ?_
      refine j_iload_n F (pc := 68) (q := 1) (by decide +kernel) rfl ?_
      refine j_iload_n F (pc := 69) (q := 2) (by decide +kernel) rfl ?_
      refine j_iload_n F (pc := 70) (q := 3) (by decide +kernel) rfl ?_
      refine j_iload F (pc := 71) (i := 6) (by decide +kernel) rfl ?_
      obtain ⟨r36, μ37, hc39, h⟩ := z_b2_some h
      refine j_callVi F (pc := 73) (idx := 312) (As := [.int x1, .int x2, .int x3, .int x6]) (st := []) (t_X5_isThere (G := E.1) hρ hk hc39) q_X5_isThere v_X5_isThere m_1241 (hk.s c_98) rfl rfl (by decide) (Nat.le_of_ble_eq_true rfl) rfl (by decide +kernel) (fun s42 ν40 hq41 hp => ?_)
      obtain ⟨rfl, rfl⟩ := hp
      have hρ38 : μ37.2.2 = ρ := hq41.trans hρ
      refine j_if_eq F (pc := 76) (off := 20) (tgt := 96) (by decide +kernel) (by decide) (fun c => ?_) (fun c => ?_)
      · rw [if_pos c] at h
        refine j_iconst F (pc := 96) (n := 0) (v := 0) (by decide +kernel) (by decide +kernel) ?_
        refine j_istore F (pc := 97) (i := 7) (L' := [some (.ref 98), some (.int x1), some (.int x2), some (.int x3), some (.int x4), some (.int x5), some (.int x6), some (.int (0 : Int32)), none]) (by decide +kernel) (by decide) rfl rfl ?_
        refine j_iconst F (pc := 99) (n := 0) (v := 0) (by decide +kernel) (by decide +kernel) ?_
        refine j_istore F (pc := 100) (i := 8) (L' := [some (.ref 98), some (.int x1), some (.int x2), some (.int x3), some (.int x4), some (.int x5), some (.int x6), some (.int (0 : Int32)), some (.int (0 : Int32))]) (by decide +kernel) (by decide) rfl rfl ?_
        refine u_X5_step_102 F Rt hk (fun y81 y82 y83 y84 y85 y86 μ79 hρ80 h => ?_) z_N _ _ _ _ _ _ _ _ _ hρ38 h
        exact ih _ _ _ _ _ _ _ hρ80 h
      · rw [if_neg c] at h
        refine j_aload_n F (pc := 79) (q := 0) (by decide +kernel) rfl ?_
        refine j_iload_n F (pc := 80) (q := 1) (by decide +kernel) rfl ?_
        refine j_iload F (pc := 81) (i := 6) (by decide +kernel) rfl ?_
        refine j_iload F (pc := 83) (i := 4) (by decide +kernel) rfl ?_
        obtain ⟨r87, μ88, hc90, h⟩ := z_b2_some h
        refine j_callVi F (pc := 85) (idx := 306) (As := [.int x1, .int x6, .int x4]) (st := []) (t_X5_order2 (G := E.1) hρ38 hk hc90) q_X5_order2 v_X5_order2 m_1233 (hk.s c_98) rfl rfl (by decide) (Nat.le_of_ble_eq_true rfl) rfl (by decide +kernel) (fun s93 ν91 hq92 hp => ?_)
        obtain ⟨rfl, rfl⟩ := hp
        have hρ89 : μ88.2.2 = ρ := hq92.trans hρ38
        refine j_iconst F (pc := 88) (n := 1) (v := 1) (by decide +kernel) (by decide +kernel) ?_
        refine j_icmp_ne F (pc := 89) (off := 7) (tgt := 96) (by decide +kernel) (by decide) (fun c => ?_) (fun c => ?_)
        · rw [if_neg c] at h
          refine j_iconst F (pc := 96) (n := 0) (v := 0) (by decide +kernel) (by decide +kernel) ?_
          refine j_istore F (pc := 97) (i := 7) (L' := [some (.ref 98), some (.int x1), some (.int x2), some (.int x3), some (.int x4), some (.int x5), some (.int x6), some (.int (0 : Int32)), none]) (by decide +kernel) (by decide) rfl rfl ?_
          refine j_iconst F (pc := 99) (n := 0) (v := 0) (by decide +kernel) (by decide +kernel) ?_
          refine j_istore F (pc := 100) (i := 8) (L' := [some (.ref 98), some (.int x1), some (.int x2), some (.int x3), some (.int x4), some (.int x5), some (.int x6), some (.int (0 : Int32)), some (.int (0 : Int32))]) (by decide +kernel) (by decide) rfl rfl ?_
          refine u_X5_step_102 F Rt hk (fun y96 y97 y98 y99 y100 y101 μ94 hρ95 h => ?_) z_N _ _ _ _ _ _ _ _ _ hρ89 h
          exact ih _ _ _ _ _ _ _ hρ95 h
        · rw [if_pos c] at h
          refine j_iconst F (pc := 92) (n := 1) (v := 1) (by decide +kernel) (by decide +kernel) ?_
          refine j_goto F (pc := 93) (off := 4) (tgt := 97) (by decide +kernel) (by decide) ?_
          refine j_istore F (pc := 97) (i := 7) (L' := [some (.ref 98), some (.int x1), some (.int x2), some (.int x3), some (.int x4), some (.int x5), some (.int x6), some (.int (1 : Int32)), none]) (by decide +kernel) (by decide) rfl rfl ?_
          refine j_iconst F (pc := 99) (n := 0) (v := 0) (by decide +kernel) (by decide +kernel) ?_
          refine j_istore F (pc := 100) (i := 8) (L' := [some (.ref 98), some (.int x1), some (.int x2), some (.int x3), some (.int x4), some (.int x5), some (.int x6), some (.int (1 : Int32)), some (.int (0 : Int32))]) (by decide +kernel) (by decide) rfl rfl ?_
          refine u_X5_step_102 F Rt hk (fun y104 y105 y106 y107 y108 y109 μ102 hρ103 h => ?_) z_N _ _ _ _ _ _ _ _ _ hρ89 h
          exact ih _ _ _ _ _ _ _ hρ103 h
set_option maxHeartbeats 4000000 in
set_option maxRecDepth 100000 in
theorem t_X5_step {G : z_Gl} {ρ : Nat → Nat → Option Nat} {μ : z_M} {r : Int32} {μr : z_M} {x1 : Int32} {x2 : Int32} {x3 : Int32} {x4 : Int32} (hρ : μ.2.2 = ρ) (hk : z_ok (z_sh G) ρ) (h : f_X5_step x1 x2 x3 x4 μ = some (r, μr)) : z_Ci G yX5_step cX5_step 9 (some .int) 2 [.ref 98, .int x1, .int x2, .int x3, .int x4] μ (fun r1 μ1 => r = r1 ∧ μr = μ1) := by
  unfold z_Ci
  refine z_intro (by decide +kernel) (Nat.le_of_ble_eq_true rfl) (fun E hE F Rt => ?_)
  subst hE
  have F : z_F E RX5 cX5_step 9 2 := F
  rw [hρ] at Rt
  unfold f_X5_step at h
  show z_J E 9 0 [some (.ref 98), some (.int x1), some (.int x2), some (.int x3), some (.int x4), none, none, none, none] [] μ
  refine j_iload_n F (pc := 0) (q := 1) (by decide +kernel) rfl ?_
  obtain ⟨r1, μ2, hc4, h⟩ := z_b2_some h
  refine j_callSi F (pc := 1) (idx := 246) (As := [.int x1]) (st := []) (t_X5_isLand (G := E.1) hρ  hc4) q_X5_isLand m_1058 m_1057 rfl (by decide) (Nat.le_of_ble_eq_true rfl) rfl (by decide +kernel) (fun s7 ν5 hq6 hp => ?_)
  obtain ⟨rfl, rfl⟩ := hp
  have hρ3 : μ2.2.2 = ρ := hq6.trans hρ
  refine j_if_eq F (pc := 4) (off := 19) (tgt := 23) (by decide +kernel) (by decide) (fun c => ?_) (fun c => ?_)
  · rw [if_pos c] at h
    refine j_sipush F (pc := 23) (n := -1001) (v := -1001) (by decide +kernel) (by decide +kernel) ?_
    exact j_iret (st := []) F Rt rfl (by decide +kernel) ⟨hρ3, _, rfl, (congrArg Prod.fst (Option.some.inj h)).symm, (congrArg Prod.snd (Option.some.inj h)).symm⟩
  · rw [if_neg c] at h
    refine j_iload_n F (pc := 7) (q := 3) (by decide +kernel) rfl ?_
    obtain ⟨r8, μ9, hc11, h⟩ := z_b2_some h
    refine j_callSi F (pc := 8) (idx := 289) (As := [.int x3]) (st := []) (t_X5_isFund (G := E.1) hρ3  hc11) q_X5_isFund m_1190 m_1189 rfl (by decide) (Nat.le_of_ble_eq_true rfl) rfl (by decide +kernel) (fun s14 ν12 hq13 hp => ?_)
    obtain ⟨rfl, rfl⟩ := hp
    have hρ10 : μ9.2.2 = ρ := hq13.trans hρ3
    refine j_if_eq F (pc := 11) (off := 12) (tgt := 23) (by decide +kernel) (by decide) (fun c => ?_) (fun c => ?_)
    · rw [if_pos c] at h
      refine j_sipush F (pc := 23) (n := -1001) (v := -1001) (by decide +kernel) (by decide +kernel) ?_
      exact j_iret (st := []) F Rt rfl (by decide +kernel) ⟨hρ10, _, rfl, (congrArg Prod.fst (Option.some.inj h)).symm, (congrArg Prod.snd (Option.some.inj h)).symm⟩
    · rw [if_neg c] at h
      refine j_aload_n F (pc := 14) (q := 0) (by decide +kernel) rfl ?_
      refine j_iload F (pc := 15) (i := 4) (by decide +kernel) rfl ?_
      obtain ⟨r15, μ16, hc18, h⟩ := z_b2_some h
      refine j_callVi F (pc := 17) (idx := 284) (As := [.int x4]) (st := []) (t_X5_isClaim (G := E.1) hρ10 hk hc18) q_X5_isClaim v_X5_isClaim m_1180 (hk.s c_98) rfl rfl (by decide) (Nat.le_of_ble_eq_true rfl) rfl (by decide +kernel) (fun s21 ν19 hq20 hp => ?_)
      obtain ⟨rfl, rfl⟩ := hp
      have hρ17 : μ16.2.2 = ρ := hq20.trans hρ10
      refine j_if_ne F (pc := 20) (off := 7) (tgt := 27) (by decide +kernel) (by decide) (fun c => ?_) (fun c => ?_)
      · rw [if_neg c] at h
        refine j_iload_n F (pc := 27) (q := 2) (by decide +kernel) rfl ?_
        obtain ⟨r22, μ23, hc25, h⟩ := z_b2_some h
        refine j_callSi F (pc := 28) (idx := 271) (As := [.int x2]) (st := []) (t_X5_isDay (G := E.1) hρ17  hc25) q_X5_isDay m_1161 m_1160 rfl (by decide) (Nat.le_of_ble_eq_true rfl) rfl (by decide +kernel) (fun s28 ν26 hq27 hp => ?_)
        obtain ⟨rfl, rfl⟩ := hp
        have hρ24 : μ23.2.2 = ρ := hq27.trans hρ17
        refine j_if_ne F (pc := 31) (off := 7) (tgt := 38) (by decide +kernel) (by decide) (fun c => ?_) (fun c => ?_)
        · rw [if_neg c] at h
          refine j_aload_n F (pc := 38) (q := 0) (by decide +kernel) rfl ?_
          refine j_iload_n F (pc := 39) (q := 1) (by decide +kernel) rfl ?_
          refine j_iload_n F (pc := 40) (q := 2) (by decide +kernel) rfl ?_
          refine j_iload_n F (pc := 41) (q := 3) (by decide +kernel) rfl ?_
          refine j_iload F (pc := 42) (i := 4) (by decide +kernel) rfl ?_
          obtain ⟨r29, μ30, hc32, h⟩ := z_b2_some h
          refine j_callVi F (pc := 44) (idx := 312) (As := [.int x1, .int x2, .int x3, .int x4]) (st := []) (t_X5_isThere (G := E.1) hρ24 hk hc32) q_X5_isThere v_X5_isThere m_1241 (hk.s c_98) rfl rfl (by decide) (Nat.le_of_ble_eq_true rfl) rfl (by decide +kernel) (fun s35 ν33 hq34 hp => ?_)
          obtain ⟨rfl, rfl⟩ := hp
          have hρ31 : μ30.2.2 = ρ := hq34.trans hρ24
          refine j_if_ne F (pc := 47) (off := 5) (tgt := 52) (by decide +kernel) (by decide) (fun c => ?_) (fun c => ?_)
          · rw [if_neg c] at h
            refine j_iconst F (pc := 52) (n := 0) (v := 0) (by decide +kernel) (by decide +kernel) ?_
            refine j_istore F (pc := 53) (i := 5) (L' := [some (.ref 98), some (.int x1), some (.int x2), some (.int x3), some (.int x4), some (.int (0 : Int32)), none, none, none]) (by decide +kernel) (by decide) rfl rfl ?_
            refine j_iconst F (pc := 55) (n := 0) (v := 0) (by decide +kernel) (by decide +kernel) ?_
            refine j_istore F (pc := 56) (i := 6) (L' := [some (.ref 98), some (.int x1), some (.int x2), some (.int x3), some (.int x4), some (.int (0 : Int32)), some (.int (0 : Int32)), none, none]) (by decide +kernel) (by decide) rfl rfl ?_
            refine u_X5_step_58 F Rt hk  z_N _ _ _ _ _ _ _ hρ31 h
          · rw [if_pos c] at h
            refine j_iconst F (pc := 50) (n := -1) (v := -1) (by decide +kernel) (by decide +kernel) ?_
            exact j_iret (st := []) F Rt rfl (by decide +kernel) ⟨hρ31, _, rfl, (congrArg Prod.fst (Option.some.inj h)).symm, (congrArg Prod.snd (Option.some.inj h)).symm⟩
        · rw [if_pos c] at h
          refine j_sipush F (pc := 34) (n := -1002) (v := -1002) (by decide +kernel) (by decide +kernel) ?_
          exact j_iret (st := []) F Rt rfl (by decide +kernel) ⟨hρ24, _, rfl, (congrArg Prod.fst (Option.some.inj h)).symm, (congrArg Prod.snd (Option.some.inj h)).symm⟩
      · rw [if_pos c] at h
        refine j_sipush F (pc := 23) (n := -1001) (v := -1001) (by decide +kernel) (by decide +kernel) ?_
        exact j_iret (st := []) F Rt rfl (by decide +kernel) ⟨hρ17, _, rfl, (congrArg Prod.fst (Option.some.inj h)).symm, (congrArg Prod.snd (Option.some.inj h)).symm⟩
/-- LastLentModel.isGood -/
def f_X5_isGood (x0 : Int32) (x1 : Int32) (μ : z_M) : Option (Int32 × z_M) :=
  (z_b2 (f_X5_isDay (x0) μ) fun r1 μ2 => (if r1 = 0 then (some ((0 : Int32), μ2)) else (z_b2 (f_X5_in ((x1).toInt64) ((0 : Int64)) ((1 : Int64)) μ2) fun r8 μ9 => (if r8 = 0 then (some ((0 : Int32), μ9)) else (some ((1 : Int32), μ9))))))
set_option maxHeartbeats 4000000 in
set_option maxRecDepth 100000 in
theorem t_X5_isGood {G : z_Gl} {ρ : Nat → Nat → Option Nat} {μ : z_M} {r : Int32} {μr : z_M} {x0 : Int32} {x1 : Int32} (hρ : μ.2.2 = ρ)  (h : f_X5_isGood x0 x1 μ = some (r, μr)) : z_Ci G yX5_isGood cX5_isGood 2 (some .boolean) 2 [.int x0, .int x1] μ (fun r1 μ1 => r = r1 ∧ μr = μ1) := by
  unfold z_Ci
  refine z_intro (by decide +kernel) (Nat.le_of_ble_eq_true rfl) (fun E hE F Rt => ?_)
  subst hE
  have F : z_F E RX5 cX5_isGood 2 2 := F
  rw [hρ] at Rt
  unfold f_X5_isGood at h
  show z_J E 2 0 [some (.int x0), some (.int x1)] [] μ
  refine j_iload_n F (pc := 0) (q := 0) (by decide +kernel) rfl ?_
  obtain ⟨r1, μ2, hc4, h⟩ := z_b2_some h
  refine j_callSi F (pc := 1) (idx := 271) (As := [.int x0]) (st := []) (t_X5_isDay (G := E.1) hρ  hc4) q_X5_isDay m_1161 m_1160 rfl (by decide) (Nat.le_of_ble_eq_true rfl) rfl (by decide +kernel) (fun s7 ν5 hq6 hp => ?_)
  obtain ⟨rfl, rfl⟩ := hp
  have hρ3 : μ2.2.2 = ρ := hq6.trans hρ
  refine j_if_eq F (pc := 4) (off := 17) (tgt := 21) (by decide +kernel) (by decide) (fun c => ?_) (fun c => ?_)
  · rw [if_pos c] at h
    refine j_iconst F (pc := 21) (n := 0) (v := 0) (by decide +kernel) (by decide +kernel) ?_
    exact j_iret (st := []) F Rt rfl (by decide +kernel) ⟨hρ3, _, rfl, (congrArg Prod.fst (Option.some.inj h)).symm, (congrArg Prod.snd (Option.some.inj h)).symm⟩
  · rw [if_neg c] at h
    refine j_iload_n F (pc := 7) (q := 1) (by decide +kernel) rfl ?_
    refine j_i2l F (pc := 8) (by decide +kernel) ?_
    refine j_lconst F (pc := 9) (n := 0) (v := 0) (by decide +kernel) (by decide +kernel) ?_
    refine j_lconst F (pc := 10) (n := 1) (v := 1) (by decide +kernel) (by decide +kernel) ?_
    obtain ⟨r8, μ9, hc11, h⟩ := z_b2_some h
    refine j_callSi F (pc := 11) (idx := 138) (As := [.long (x1).toInt64, .long (0 : Int64), .long (1 : Int64)]) (st := []) (t_X5_in (G := E.1) hρ3  hc11) q_X5_in m_1050 m_1049 rfl (by decide) (Nat.le_of_ble_eq_true rfl) rfl (by decide +kernel) (fun s14 ν12 hq13 hp => ?_)
    obtain ⟨rfl, rfl⟩ := hp
    have hρ10 : μ9.2.2 = ρ := hq13.trans hρ3
    refine j_if_eq F (pc := 14) (off := 7) (tgt := 21) (by decide +kernel) (by decide) (fun c => ?_) (fun c => ?_)
    · rw [if_pos c] at h
      refine j_iconst F (pc := 21) (n := 0) (v := 0) (by decide +kernel) (by decide +kernel) ?_
      exact j_iret (st := []) F Rt rfl (by decide +kernel) ⟨hρ10, _, rfl, (congrArg Prod.fst (Option.some.inj h)).symm, (congrArg Prod.snd (Option.some.inj h)).symm⟩
    · rw [if_neg c] at h
      refine j_iconst F (pc := 17) (n := 1) (v := 1) (by decide +kernel) (by decide +kernel) ?_
      refine j_goto F (pc := 18) (off := 4) (tgt := 22) (by decide +kernel) (by decide) ?_
      exact j_iret (st := []) F Rt rfl (by decide +kernel) ⟨hρ10, _, rfl, (congrArg Prod.fst (Option.some.inj h)).symm, (congrArg Prod.snd (Option.some.inj h)).symm⟩
/-- LastLentModel.wants -/
def f_X5_wants (x1 : Int32) (μ : z_M) : Option (Int32 × z_M) :=
  (if z_in x1 15 then (if z_in x1 15 then (some (((μ.1 119 x1.toNatClampNeg) - (μ.1 126 x1.toNatClampNeg)), μ)) else none) else none)
set_option maxHeartbeats 4000000 in
set_option maxRecDepth 100000 in
theorem t_X5_wants {G : z_Gl} {ρ : Nat → Nat → Option Nat} {μ : z_M} {r : Int32} {μr : z_M} {x1 : Int32} (hρ : μ.2.2 = ρ) (hk : z_ok (z_sh G) ρ) (h : f_X5_wants x1 μ = some (r, μr)) : z_Ci G yX5_wants cX5_wants 2 (some .int) 0 [.ref 98, .int x1] μ (fun r1 μ1 => r = r1 ∧ μr = μ1) := by
  unfold z_Ci
  refine z_intro (by decide +kernel) (Nat.le_of_ble_eq_true rfl) (fun E hE F Rt => ?_)
  subst hE
  have F : z_F E RX5 cX5_wants 2 0 := F
  rw [hρ] at Rt
  unfold f_X5_wants at h
  show z_J E 2 0 [some (.ref 98), some (.int x1)] [] μ
  refine j_aload_n F (pc := 0) (q := 0) (by decide +kernel) rfl ?_
  refine j_getR F (pc := 1) (hk.r hρ r_98_31) fl_X5_75 (hk.s c_98) rfl (by decide +kernel) ?_
  refine j_iload_n F (pc := 4) (q := 1) (by decide +kernel) rfl ?_
  obtain ⟨hg, h⟩ := z_ifs h
  refine j_iald F (pc := 5) (hk.s c_119) hg (by decide +kernel) ?_
  refine j_aload_n F (pc := 6) (q := 0) (by decide +kernel) rfl ?_
  refine j_getR F (pc := 7) (hk.r hρ r_98_38) fl_X5_96 (hk.s c_98) rfl (by decide +kernel) ?_
  refine j_iload_n F (pc := 10) (q := 1) (by decide +kernel) rfl ?_
  obtain ⟨hg, h⟩ := z_ifs h
  refine j_iald F (pc := 11) (hk.s c_126) hg (by decide +kernel) ?_
  refine j_isub F (pc := 12) (by decide +kernel) ?_
  exact j_iret (st := []) F Rt rfl (by decide +kernel) ⟨hρ, _, rfl, (congrArg Prod.fst (Option.some.inj h)).symm, (congrArg Prod.snd (Option.some.inj h)).symm⟩
/-- LastLentModel.isWanting -/
def f_X5_isWanting (x1 : Int32) (x2 : Int32) (x3 : Int32) (x4 : Int32) (μ : z_M) : Option (Int32 × z_M) :=
  (z_b2 (f_X5_isThere (x1) (x2) (x3) (x4) μ) fun r1 μ2 => (if r1 = 0 then (some ((0 : Int32), μ2)) else (z_b2 (f_X5_wants (x4) μ2) fun r8 μ9 => (if r8 ≤ 0 then (some ((0 : Int32), μ9)) else (some ((1 : Int32), μ9))))))
set_option maxHeartbeats 4000000 in
set_option maxRecDepth 100000 in
theorem t_X5_isWanting {G : z_Gl} {ρ : Nat → Nat → Option Nat} {μ : z_M} {r : Int32} {μr : z_M} {x1 : Int32} {x2 : Int32} {x3 : Int32} {x4 : Int32} (hρ : μ.2.2 = ρ) (hk : z_ok (z_sh G) ρ) (h : f_X5_isWanting x1 x2 x3 x4 μ = some (r, μr)) : z_Ci G yX5_isWanting cX5_isWanting 5 (some .boolean) 2 [.ref 98, .int x1, .int x2, .int x3, .int x4] μ (fun r1 μ1 => r = r1 ∧ μr = μ1) := by
  unfold z_Ci
  refine z_intro (by decide +kernel) (Nat.le_of_ble_eq_true rfl) (fun E hE F Rt => ?_)
  subst hE
  have F : z_F E RX5 cX5_isWanting 5 2 := F
  rw [hρ] at Rt
  unfold f_X5_isWanting at h
  show z_J E 5 0 [some (.ref 98), some (.int x1), some (.int x2), some (.int x3), some (.int x4)] [] μ
  refine j_aload_n F (pc := 0) (q := 0) (by decide +kernel) rfl ?_
  refine j_iload_n F (pc := 1) (q := 1) (by decide +kernel) rfl ?_
  refine j_iload_n F (pc := 2) (q := 2) (by decide +kernel) rfl ?_
  refine j_iload_n F (pc := 3) (q := 3) (by decide +kernel) rfl ?_
  refine j_iload F (pc := 4) (i := 4) (by decide +kernel) rfl ?_
  obtain ⟨r1, μ2, hc4, h⟩ := z_b2_some h
  refine j_callVi F (pc := 6) (idx := 312) (As := [.int x1, .int x2, .int x3, .int x4]) (st := []) (t_X5_isThere (G := E.1) hρ hk hc4) q_X5_isThere v_X5_isThere m_1241 (hk.s c_98) rfl rfl (by decide) (Nat.le_of_ble_eq_true rfl) rfl (by decide +kernel) (fun s7 ν5 hq6 hp => ?_)
  obtain ⟨rfl, rfl⟩ := hp
  have hρ3 : μ2.2.2 = ρ := hq6.trans hρ
  refine j_if_eq F (pc := 9) (off := 16) (tgt := 25) (by decide +kernel) (by decide) (fun c => ?_) (fun c => ?_)
  · rw [if_pos c] at h
    refine j_iconst F (pc := 25) (n := 0) (v := 0) (by decide +kernel) (by decide +kernel) ?_
    exact j_iret (st := []) F Rt rfl (by decide +kernel) ⟨hρ3, _, rfl, (congrArg Prod.fst (Option.some.inj h)).symm, (congrArg Prod.snd (Option.some.inj h)).symm⟩
  · rw [if_neg c] at h
    refine j_aload_n F (pc := 12) (q := 0) (by decide +kernel) rfl ?_
    refine j_iload F (pc := 13) (i := 4) (by decide +kernel) rfl ?_
    obtain ⟨r8, μ9, hc11, h⟩ := z_b2_some h
    refine j_callVi F (pc := 15) (idx := 316) (As := [.int x4]) (st := []) (t_X5_wants (G := E.1) hρ3 hk hc11) q_X5_wants v_X5_wants m_1272 (hk.s c_98) rfl rfl (by decide) (Nat.le_of_ble_eq_true rfl) rfl (by decide +kernel) (fun s14 ν12 hq13 hp => ?_)
    obtain ⟨rfl, rfl⟩ := hp
    have hρ10 : μ9.2.2 = ρ := hq13.trans hρ3
    refine j_if_le F (pc := 18) (off := 7) (tgt := 25) (by decide +kernel) (by decide) (fun c => ?_) (fun c => ?_)
    · rw [if_pos c] at h
      refine j_iconst F (pc := 25) (n := 0) (v := 0) (by decide +kernel) (by decide +kernel) ?_
      exact j_iret (st := []) F Rt rfl (by decide +kernel) ⟨hρ10, _, rfl, (congrArg Prod.fst (Option.some.inj h)).symm, (congrArg Prod.snd (Option.some.inj h)).symm⟩
    · rw [if_neg c] at h
      refine j_iconst F (pc := 21) (n := 1) (v := 1) (by decide +kernel) (by decide +kernel) ?_
      refine j_goto F (pc := 22) (off := 4) (tgt := 26) (by decide +kernel) (by decide) ?_
      exact j_iret (st := []) F Rt rfl (by decide +kernel) ⟨hρ10, _, rfl, (congrArg Prod.fst (Option.some.inj h)).symm, (congrArg Prod.snd (Option.some.inj h)).symm⟩
