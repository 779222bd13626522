/-! functions and contracts, written by wip/whole/dec.py -/
def g_X2_wantedOf_4   : Nat → Int32 → Int32 → Int32 → z_M → Option (Int32 × z_M)
  | 0, _, _, _, _ => none
  | n + 1, x1, x2, x3, μ => (if (μ.1 28 1) ≤ x3 then (some (x2, μ)) else (if z_in x3 14 then (if z_in (μ.1 29 x3.toNatClampNeg) 14 then (if ((μ.1 31 (μ.1 29 x3.toNatClampNeg).toNatClampNeg) &&& x1) = 0 then (g_X2_wantedOf_4   n (x1) (x2) ((x3 + (1 : Int32))) μ) else (if z_in x3 14 then (if z_in (μ.1 29 x3.toNatClampNeg) 14 then (z_lt (x2 + (μ.1 32 (μ.1 29 x3.toNatClampNeg).toNatClampNeg)) fun x_1 => (g_X2_wantedOf_4   n (x1) (x_1) ((x3 + (1 : Int32))) μ)) else none) else none)) else none) else none))
def f_X2_wantedOf (x1 : Int32) (μ : z_M) : Option (Int32 × z_M) :=
  (g_X2_wantedOf_4   z_N (x1) ((0 : Int32)) ((0 : Int32)) μ)
set_option maxHeartbeats 4000000 in
set_option maxRecDepth 100000 in
theorem u_X2_wantedOf_4 {E : z_E} {ρ : Nat → Nat → Option Nat} {r : Int32} {μr : z_M} (F : z_F E RX2 cX2_wantedOf 4 0) (Rt : z_R E (some .int) (fun v μ1 => μ1.2.2 = ρ ∧ ∃ r1, v = some (.int r1) ∧ r = r1 ∧ μr = μ1))  (hk : z_ok (z_sh E.1) ρ) : ∀ (n : Nat) (x1 : Int32) (x2 : Int32) (x3 : Int32) (μ : z_M), μ.2.2 = ρ → g_X2_wantedOf_4   n x1 x2 x3 μ = some (r, μr) → z_J E 4 4 [some (.ref 28), some (.int x1), some (.int x2), some (.int x3)] [] μ := by
  intro n
  induction n with
  | zero =>
    intro x1 x2 x3 μ hρ h
    rw [g_X2_wantedOf_4] at h
    cases h
  | succ n ih =>
    intro x1 x2 x3 μ hρ h
    rw [g_X2_wantedOf_4] at h
    refine j_iload_n F (pc := 4) (q := 3) (by decide +kernel) rfl ?_
    refine j_aload_n F (pc := 5) (q := 0) (by decide +kernel) rfl ?_
    refine j_getI F (pc := 6) fl_X2_86 (hk.s c_28) rfl (by decide +kernel) ?_
    refine j_icmp_ge F (pc := 9) (off := 39) (tgt := 48) (by decide +kernel) (by decide) (fun c => ?_) (fun c => ?_)
    · rw [if_pos c] at h
      refine j_iload_n F (pc := 48) (q := 2) (by decide +kernel) rfl ?_
      exact j_iret (st := []) F Rt rfl (by decide +kernel) ⟨hρ, _, rfl, (congrArg Prod.fst (Option.some.inj h)).symm, (congrArg Prod.snd (Option.some.inj h)).symm⟩
    · rw [if_neg c] at h
      refine j_aload_n F (pc := 12) (q := 0) (by decide +kernel) rfl ?_
      refine j_getR F (pc := 13) (hk.r hρ r_28_4) fl_X2_18 (hk.s c_28) rfl (by decide +kernel) ?_
      refine j_aload_n F (pc := 16) (q := 0) (by decide +kernel) rfl ?_
      refine j_getR F (pc := 17) (hk.r hρ r_28_0) fl_X2_9 (hk.s c_28) rfl (by decide +kernel) ?_
      refine j_iload_n F (pc := 20) (q := 3) (by decide +kernel) rfl ?_
      obtain ⟨hg, h⟩ := z_ifs h
      refine j_iald F (pc := 21) (hk.s c_29) hg (by decide +kernel) ?_
      obtain ⟨hg, h⟩ := z_ifs h
      refine j_iald F (pc := 22) (hk.s c_31) hg (by decide +kernel) ?_
      refine j_iload_n F (pc := 23) (q := 1) (by decide +kernel) rfl ?_
      refine j_iand F (pc := 24) (by decide +kernel) ?_
      refine j_if_eq F (pc := 25) (off := 17) (tgt := 42) (by decide +kernel) (by decide) (fun c => ?_) (fun c => ?_)
      · rw [if_pos c] at h
        refine j_iinc F (pc := 42) (i := 3) (n := 1) (v := 1) (L' := [some (.ref 28), some (.int x1), some (.int x2), some (.int (x3 + (1 : Int32)))]) (by decide +kernel) rfl (by decide +kernel) (by decide) rfl rfl ?_
        refine j_goto F (pc := 45) (off := -41) (tgt := 4) (by decide +kernel) (by decide) ?_
        exact ih _ _ _ _ hρ h
      · rw [if_neg c] at h
        refine j_iload_n F (pc := 28) (q := 2) (by decide +kernel) rfl ?_
        refine j_aload_n F (pc := 29) (q := 0) (by decide +kernel) rfl ?_
        refine j_getR F (pc := 30) (hk.r hρ r_28_5) fl_X2_21 (hk.s c_28) rfl (by decide +kernel) ?_
        refine j_aload_n F (pc := 33) (q := 0) (by decide +kernel) rfl ?_
        refine j_getR F (pc := 34) (hk.r hρ r_28_0) fl_X2_9 (hk.s c_28) rfl (by decide +kernel) ?_
        refine j_iload_n F (pc := 37) (q := 3) (by decide +kernel) rfl ?_
        obtain ⟨hg, h⟩ := z_ifs h
        refine j_iald F (pc := 38) (hk.s c_29) hg (by decide +kernel) ?_
        obtain ⟨hg, h⟩ := z_ifs h
        refine j_iald F (pc := 39) (hk.s c_32) hg (by decide +kernel) ?_
        refine j_iadd F (pc := 40) (by decide +kernel) ?_
        obtain ⟨x_1, e2, h⟩ := z_lt_some h
        rw [← e2]
        refine j_istore_n F (pc := 41) (q := 2) (L' := [some (.ref 28), some (.int x1), some (.int x_1), some (.int x3)]) (by decide +kernel) (by decide) rfl rfl ?_
        refine j_iinc F (pc := 42) (i := 3) (n := 1) (v := 1) (L' := [some (.ref 28), some (.int x1), some (.int x_1), some (.int (x3 + (1 : Int32)))]) (by decide +kernel) rfl (by decide +kernel) (by decide) rfl rfl ?_
        refine j_goto F (pc := 45) (off := -41) (tgt := 4) (by decide +kernel) (by decide) ?_
        exact ih _ _ _ _ hρ h
set_option maxHeartbeats 4000000 in
set_option maxRecDepth 100000 in
theorem t_X2_wantedOf {G : z_Gl} {ρ : Nat → Nat → Option Nat} {μ : z_M} {r : Int32} {μr : z_M} {x1 : Int32} (hρ : μ.2.2 = ρ) (hk : z_ok (z_sh G) ρ) (h : f_X2_wantedOf x1 μ = some (r, μr)) : z_Ci G yX2_wantedOf cX2_wantedOf 4 (some .int) 0 [.ref 28, .int x1] μ (fun r1 μ1 => r = r1 ∧ μr = μ1) := by
  unfold z_Ci
  refine z_intro (by decide +kernel) (Nat.le_of_ble_eq_true rfl) (fun E hE F Rt => ?_)
  subst hE
  have F : z_F E RX2 cX2_wantedOf 4 0 := F
  rw [hρ] at Rt
  unfold f_X2_wantedOf at h
  show z_J E 4 0 [some (.ref 28), some (.int x1), none, none] [] μ
  refine j_iconst F (pc := 0) (n := 0) (v := 0) (by decide +kernel) (by decide +kernel) ?_
  refine j_istore_n F (pc := 1) (q := 2) (L' := [some (.ref 28), some (.int x1), some (.int (0 : Int32)), none]) (by decide +kernel) (by decide) rfl rfl ?_
  refine j_iconst F (pc := 2) (n := 0) (v := 0) (by decide +kernel) (by decide +kernel) ?_
  refine j_istore_n F (pc := 3) (q := 3) (L' := [some (.ref 28), some (.int x1), some (.int (0 : Int32)), some (.int (0 : Int32))]) (by decide +kernel) (by decide) rfl rfl ?_
  refine u_X2_wantedOf_4 F Rt hk  z_N _ _ _ _ hρ h
def g_X2_mostPayable_29  (k_9 : Int32 → Int32 → z_M → Option (Int32 × z_M)) : Nat → Int32 → Int32 → Int32 → Int32 → z_M → Option (Int32 × z_M)
  | 0, _, _, _, _, _ => none
  | n + 1, x1, x2, x3, x4, μ => (if (5 : Int32) ≤ x4 then (z_lt (if x3 < x1 then x3 else x1) fun x_15 => (k_9 (x_15) ((x2 + (1 : Int32))) μ)) else (if z_in x4 5 then (z_b2 (f_X4_bit (x2) (x4) μ) fun r17 μ18 => (z_lt (x3 + ((μ.1 35 x4.toNatClampNeg) * r17)) fun x_24 => (g_X2_mostPayable_29  k_9 n (x1) (x2) (x_24) ((x4 + (1 : Int32))) μ18))) else none))
def g_X2_mostPayable_9   : Nat → Int32 → Int32 → z_M → Option (Int32 × z_M)
  | 0, _, _, _ => none
  | n + 1, x1, x2, μ => (if (31 : Int32) < x2 then (some (x1, μ)) else (z_b2 (f_X2_wantedOf (((31 : Int32) &&& (x2 ^^^ (-1 : Int32)))) μ) fun r8 μ9 => (g_X2_mostPayable_29  (fun (y28 : Int32) (y29 : Int32) (μ26 : z_M) => (g_X2_mostPayable_9   n (y28) (y29) μ26)) z_N (x1) (x2) (r8) ((0 : Int32)) μ9)))
def f_X2_mostPayable  (μ : z_M) : Option (Int32 × z_M) :=
  (z_b2 (f_X2_wantedOf ((31 : Int32)) μ) fun r1 μ2 => (g_X2_mostPayable_9   z_N (r1) ((1 : Int32)) μ2))
set_option maxHeartbeats 4000000 in
set_option maxRecDepth 100000 in
theorem u_X2_mostPayable_29 {E : z_E} {ρ : Nat → Nat → Option Nat} {r : Int32} {μr : z_M} (F : z_F E RX2 cX2_mostPayable 5 1) (Rt : z_R E (some .int) (fun v μ1 => μ1.2.2 = ρ ∧ ∃ r1, v = some (.int r1) ∧ r = r1 ∧ μr = μ1))  (hk : z_ok (z_sh E.1) ρ) {k_9 : Int32 → Int32 → z_M → Option (Int32 × z_M)} (hc_9 : ∀ (y1 : Int32) (y2 : Int32) (μ1 : z_M), μ1.2.2 = ρ → k_9 y1 y2 μ1 = some (r, μr) → z_J E 5 9 [some (.ref 28), some (.int y1), some (.int y2), none, none] [] μ1) : ∀ (n : Nat) (x1 : Int32) (x2 : Int32) (x3 : Int32) (x4 : Int32) (μ : z_M), μ.2.2 = ρ → g_X2_mostPayable_29  k_9 n x1 x2 x3 x4 μ = some (r, μr) → z_J E 5 29 [some (.ref 28), some (.int x1), some (.int x2), some (.int x3), some (.int x4)] [] μ := by
  intro n
  induction n with
  | zero =>
    intro x1 x2 x3 x4 μ hρ h
    rw [g_X2_mostPayable_29] at h
    cases h
  | succ n ih =>
    intro x1 x2 x3 x4 μ hρ h
    rw [g_X2_mostPayable_29] at h
    refine j_iload F (pc := 29) (i := 4) (by decide +kernel) rfl ?_
    refine j_iconst F (pc := 31) (n := 5) (v := 5) (by decide +kernel) (by decide +kernel) ?_
    refine j_icmp_ge F (pc := 32) (off := 26) (tgt := 58) (by decide +kernel) (by decide) (fun c => ?_) (fun c => ?_)
    · rw [if_pos c] at h
      refine j_iload_n F (pc := 58) (q := 1) (by decide +kernel) rfl ?_
      refine j_iload_n F (pc := 59) (q := 3) (by decide +kernel) rfl ?_
      refine j_mmin F (pc := 60) ⟨m_753, m_655, m_88, m_656⟩ (by decide) (Nat.le_of_ble_eq_true rfl) (by decide +kernel) ?_
      obtain ⟨x_15, e16, h⟩ := z_lt_some h
      rw [← e16]
      refine j_istore_n F (pc := 63) (q := 1) (L' := [some (.ref 28), some (.int x_15), some (.int x2), some (.int x3), some (.int x4)]) (by decide +kernel) (by decide) rfl rfl ?_
      refine j_iinc F (pc := 64) (i := 2) (n := 1) (v := 1) (L' := [some (.ref 28), some (.int x_15), some (.int (x2 + (1 : Int32))), some (.int x3), some (.int x4)]) (by decide +kernel) rfl (by decide +kernel) (by decide) rfl rfl ?_
      refine j_goto F (pc := 67) (off := -58) (tgt := 9) (by decide +kernel) (by decide) ?_
      refine j_mk F [true, true, true, false, false] (L' := [some (.ref 28), some (.int x_15), some (.int (x2 + (1 : Int32))), none, none]) rfl ?_
      exact hc_9 _ _ _ hρ h
    · rw [if_neg c] at h
      refine j_iload_n F (pc := 35) (q := 3) (by decide +kernel) rfl ?_
      refine j_aload_n F (pc := 36) (q := 0) (by decide +kernel) rfl ?_
      refine j_getR F (pc := 37) (hk.r hρ r_28_8) fl_X2_30 (hk.s c_28) rfl (by decide +kernel) ?_
      refine j_iload F (pc := 40) (i := 4) (by decide +kernel) rfl ?_
      obtain ⟨hg, h⟩ := z_ifs h
      refine j_iald F (pc := 42) (hk.s c_35) hg (by decide +kernel) ?_
      refine j_iload_n F (pc := 43) (q := 2) (by decide +kernel) rfl ?_
      refine j_iload F (pc := 44) (i := 4) (by decide +kernel) rfl ?_
      obtain ⟨r17, μ18, hc20, h⟩ := z_b2_some h
      refine j_callNi F (pc := 46) (idx := 114) (As := [.int x2, .int x4]) (st := [.int (μ.1 35 x4.toNatClampNeg), .int x3]) (t_X4_bit (G := E.1) hρ  hc20) q_X4_bit m_474 (by decide +kernel) rfl (by decide) (Nat.le_of_ble_eq_true rfl) rfl (by decide +kernel) (fun s23 ν21 hq22 hp => ?_)
      obtain ⟨rfl, rfl⟩ := hp
      have hρ19 : μ18.2.2 = ρ := hq22.trans hρ
      refine j_imul F (pc := 49) (by decide +kernel) ?_
      refine j_iadd F (pc := 50) (by decide +kernel) ?_
      obtain ⟨x_24, e25, h⟩ := z_lt_some h
      rw [← e25]
      refine j_istore_n F (pc := 51) (q := 3) (L' := [some (.ref 28), some (.int x1), some (.int x2), some (.int x_24), some (.int x4)]) (by decide +kernel) (by decide) rfl rfl ?_
      refine j_iinc F (pc := 52) (i := 4) (n := 1) (v := 1) (L' := [some (.ref 28), some (.int x1), some (.int x2), some (.int x_24), some (.int (x4 + (1 : Int32)))]) (by decide +kernel) rfl (by decide +kernel) (by decide) rfl rfl ?_
      refine j_goto F (pc := 55) (off := -26) (tgt := 29) (by decide +kernel) (by decide) ?_
      exact ih _ _ _ _ _ hρ19 h
set_option maxHeartbeats 4000000 in
set_option maxRecDepth 100000 in
theorem u_X2_mostPayable_9 {E : z_E} {ρ : Nat → Nat → Option Nat} {r : Int32} {μr : z_M} (F : z_F E RX2 cX2_mostPayable 5 1) (Rt : z_R E (some .int) (fun v μ1 => μ1.2.2 = ρ ∧ ∃ r1, v = some (.int r1) ∧ r = r1 ∧ μr = μ1))  (hk : z_ok (z_sh E.1) ρ) : ∀ (n : Nat) (x1 : Int32) (x2 : Int32) (μ : z_M), μ.2.2 = ρ → g_X2_mostPayable_9   n x1 x2 μ = some (r, μr) → z_J E 5 9 [some (.ref 28), some (.int x1), some (.int x2), none, none] [] μ := by
  intro n
  induction n with
  | zero =>
    intro x1 x2 μ hρ h
    rw [g_X2_mostPayable_9] at h
    cases h
  | succ n ih =>
    intro x1 x2 μ hρ h
    rw [g_X2_mostPayable_9] at h
    refine j_iload_n F (pc := 9) (q := 2) (by decide +kernel) rfl ?_
    refine j_bipush F (pc := 10) (n := 31) (v := 31) (by decide +kernel) (by decide +kernel) ?_
    refine j_icmp_gt F (pc := 12) (off := 58) (tgt := 70) (by decide +kernel) (by decide) (fun c => ?_) (fun c => ?_)
    · rw [if_pos c] at h
      refine j_iload_n F (pc := 70) (q := 1) (by decide +kernel) rfl ?_
      exact j_iret (st := []) F Rt rfl (by decide +kernel) ⟨hρ, _, rfl, (congrArg Prod.fst (Option.some.inj h)).symm, (congrArg Prod.snd (Option.some.inj h)).symm⟩
    · rw [if_neg c] at h
      refine j_aload_n F (pc := 15) (q := 0) (by decide +kernel) rfl ?_
      refine j_bipush F (pc := 16) (n := 31) (v := 31) (by decide +kernel) (by decide +kernel) ?_
      refine j_iload_n F (pc := 18) (q := 2) (by decide +kernel) rfl ?_
      refine j_iconst F (pc := 19) (n := -1) (v := -1) (by decide +kernel) (by decide +kernel) ?_
      refine j_ixor F (pc := 20) (by decide +kernel) ?_
      refine j_iand F (pc := 21) (by decide +kernel) ?_
      obtain ⟨r8, μ9, hc11, h⟩ := z_b2_some h
      refine j_callVi F (pc := 22) (idx := 124) (As := [.int ((31 : Int32) &&& (x2 ^^^ (-1 : Int32)))]) (st := []) (t_X2_wantedOf (G := E.1) hρ hk hc11) q_X2_wantedOf v_X2_wantedOf m_749 (hk.s c_28) rfl rfl (by decide) (Nat.le_of_ble_eq_true rfl) rfl (by decide +kernel) (fun s14 ν12 hq13 hp => ?_)
      obtain ⟨rfl, rfl⟩ := hp
      have hρ10 : μ9.2.2 = ρ := hq13.trans hρ
      refine j_istore_n F (pc := 25) (q := 3) (L' := [some (.ref 28), some (.int x1), some (.int x2), some (.int r8), none]) (by decide +kernel) (by decide) rfl rfl ?_
      refine j_iconst F (pc := 26) (n := 0) (v := 0) (by decide +kernel) (by decide +kernel) ?_
      refine j_istore F (pc := 27) (i := 4) (L' := [some (.ref 28), some (.int x1), some (.int x2), some (.int r8), some (.int (0 : Int32))]) (by decide +kernel) (by decide) rfl rfl ?_
      refine u_X2_mostPayable_29 F Rt hk (fun y28 y29 μ26 hρ27 h => ?_) z_N _ _ _ _ _ hρ10 h
      exact ih _ _ _ hρ27 h
set_option maxHeartbeats 4000000 in
set_option maxRecDepth 100000 in
theorem t_X2_mostPayable {G : z_Gl} {ρ : Nat → Nat → Option Nat} {μ : z_M} {r : Int32} {μr : z_M}  (hρ : μ.2.2 = ρ) (hk : z_ok (z_sh G) ρ) (h : f_X2_mostPayable  μ = some (r, μr)) : z_Ci G yX2_mostPayable cX2_mostPayable 5 (some .int) 1 [.ref 28] μ (fun r1 μ1 => r = r1 ∧ μr = μ1) := by
  unfold z_Ci
  refine z_intro (by decide +kernel) (Nat.le_of_ble_eq_true rfl) (fun E hE F Rt => ?_)
  subst hE
  have F : z_F E RX2 cX2_mostPayable 5 1 := F
  rw [hρ] at Rt
  unfold f_X2_mostPayable at h
  show z_J E 5 0 [some (.ref 28), none, none, none, none] [] μ
  refine j_aload_n F (pc := 0) (q := 0) (by decide +kernel) rfl ?_
  refine j_bipush F (pc := 1) (n := 31) (v := 31) (by decide +kernel) (by decide +kernel) ?_
  obtain ⟨r1, μ2, hc4, h⟩ := z_b2_some h
  refine j_callVi F (pc := 3) (idx := 124) (As := [.int (31 : Int32)]) (st := []) (t_X2_wantedOf (G := E.1) hρ hk hc4) q_X2_wantedOf v_X2_wantedOf m_749 (hk.s c_28) rfl rfl (by decide) (Nat.le_of_ble_eq_true rfl) rfl (by decide +kernel) (fun s7 ν5 hq6 hp => ?_)
  obtain ⟨rfl, rfl⟩ := hp
  have hρ3 : μ2.2.2 = ρ := hq6.trans hρ
  refine j_istore_n F (pc := 6) (q := 1) (L' := [some (.ref 28), some (.int r1), none, none, none]) (by decide +kernel) (by decide) rfl rfl ?_
  refine j_iconst F (pc := 7) (n := 1) (v := 1) (by decide +kernel) (by decide +kernel) ?_
  refine j_istore_n F (pc := 8) (q := 2) (L' := [some (.ref 28), some (.int r1), some (.int (1 : Int32)), none, none]) (by decide +kernel) (by decide) rfl rfl ?_
  refine u_X2_mostPayable_9 F Rt hk  z_N _ _ _ hρ3 h
/-- LastLent$PayOut.swapFunds -/
def f_X2_swapFunds (x1 : Int32) (x2 : Int32) (μ : z_M) : Option z_M :=
  (if z_in x1 5 then (z_lt (μ.1 37 x1.toNatClampNeg) fun x_1 => (if z_in x2 5 then (if z_in x1 5 then (z_st (z_si μ 37 x1.toNatClampNeg (μ.1 37 x2.toNatClampNeg)) fun μ3 => (if z_in x2 5 then (z_st (z_si μ3 37 x2.toNatClampNeg x_1) fun μ6 => (some μ6)) else none)) else none) else none)) else none)
set_option maxHeartbeats 4000000 in
set_option maxRecDepth 100000 in
theorem t_X2_swapFunds {G : z_Gl} {ρ : Nat → Nat → Option Nat} {μ : z_M} {μr : z_M} {x1 : Int32} {x2 : Int32} (hρ : μ.2.2 = ρ) (hk : z_ok (z_sh G) ρ) (h : f_X2_swapFunds x1 x2 μ = some μr) : z_Cv G yX2_swapFunds cX2_swapFunds 4 none 0 [.ref 28, .int x1, .int x2] μ (fun μ1 => μr = μ1) := by
  unfold z_Cv
  refine z_intro (by decide +kernel) (Nat.le_of_ble_eq_true rfl) (fun E hE F Rt => ?_)
  subst hE
  have F : z_F E RX2 cX2_swapFunds 4 0 := F
  rw [hρ] at Rt
  unfold f_X2_swapFunds at h
  show z_J E 4 0 [some (.ref 28), some (.int x1), some (.int x2), none] [] μ
  refine j_aload_n F (pc := 0) (q := 0) (by decide +kernel) rfl ?_
  refine j_getR F (pc := 1) (hk.r hρ r_28_10) fl_X2_36 (hk.s c_28) rfl (by decide +kernel) ?_
  refine j_iload_n F (pc := 4) (q := 1) (by decide +kernel) rfl ?_
  obtain ⟨hg, h⟩ := z_ifs h
  refine j_iald F (pc := 5) (hk.s c_37) hg (by decide +kernel) ?_
  obtain ⟨x_1, e2, h⟩ := z_lt_some h
  rw [← e2]
  refine j_istore_n F (pc := 6) (q := 3) (L' := [some (.ref 28), some (.int x1), some (.int x2), some (.int x_1)]) (by decide +kernel) (by decide) rfl rfl ?_
  refine j_aload_n F (pc := 7) (q := 0) (by decide +kernel) rfl ?_
  refine j_getR F (pc := 8) (hk.r hρ r_28_10) fl_X2_36 (hk.s c_28) rfl (by decide +kernel) ?_
  refine j_iload_n F (pc := 11) (q := 1) (by decide +kernel) rfl ?_
  refine j_aload_n F (pc := 12) (q := 0) (by decide +kernel) rfl ?_
  refine j_getR F (pc := 13) (hk.r hρ r_28_10) fl_X2_36 (hk.s c_28) rfl (by decide +kernel) ?_
  refine j_iload_n F (pc := 16) (q := 2) (by decide +kernel) rfl ?_
  obtain ⟨hg, h⟩ := z_ifs h
  refine j_iald F (pc := 17) (hk.s c_37) hg (by decide +kernel) ?_
  obtain ⟨hg, h⟩ := z_ifs h
  refine j_iast F (pc := 18) (hk.s c_37) hg (by decide +kernel) ?_
  obtain ⟨μ3, e5, h⟩ := z_st_some h
  rw [← e5]
  have hρ4 : μ3.2.2 = ρ := by rw [e5]; exact hρ
  refine j_aload_n F (pc := 19) (q := 0) (by decide +kernel) rfl ?_
  refine j_getR F (pc := 20) (hk.r hρ4 r_28_10) fl_X2_36 (hk.s c_28) rfl (by decide +kernel) ?_
  refine j_iload_n F (pc := 23) (q := 2) (by decide +kernel) rfl ?_
  refine j_iload_n F (pc := 24) (q := 3) (by decide +kernel) rfl ?_
  obtain ⟨hg, h⟩ := z_ifs h
  refine j_iast F (pc := 25) (hk.s c_37) hg (by decide +kernel) ?_
  obtain ⟨μ6, e8, h⟩ := z_st_some h
  rw [← e8]
  have hρ7 : μ6.2.2 = ρ := by rw [e8]; exact hρ4
  exact j_vret (st := []) F Rt (by decide +kernel) ⟨hρ7, rfl, (Option.some.inj h).symm⟩
def g_X2_nextOrder_78   : Nat → Int32 → Int32 → Int32 → z_M → Option (Int32 × z_M)
  | 0, _, _, _, _ => none
  | n + 1, x1, x3, x4, μ => (if x4 ≤ x3 then (some (x1, μ)) else (z_b1 (f_X2_swapFunds (x3) (x4) μ) fun μ10 => (g_X2_nextOrder_78   n (x1) ((x3 + (1 : Int32))) ((x4 + (-1 : Int32))) μ10)))
def g_X2_nextOrder_65   (x1 : Int32) (x2 : Int32) (μ : z_M) : Option (Int32 × z_M) :=
  (z_b1 (f_X2_swapFunds (x1) (x2) μ) fun μ2 => (z_lt (x1 + (1 : Int32)) fun x_7 => (g_X2_nextOrder_78   z_N (x1) (x_7) ((4 : Int32)) μ2)))
def g_X2_nextOrder_37   : Nat → Int32 → Int32 → z_M → Option (Int32 × z_M)
  | 0, _, _, _ => none
  | n + 1, x1, x2, μ => (if x2 ≤ (x1 + (1 : Int32)) then (g_X2_nextOrder_65   (x1) (x2) μ) else (if z_in x2 5 then (if z_in x1 5 then (if (μ.1 37 x1.toNatClampNeg) ≤ (μ.1 37 x2.toNatClampNeg) then (g_X2_nextOrder_65   (x1) (x2) μ) else (g_X2_nextOrder_37   n (x1) ((x2 + (-1 : Int32))) μ)) else none) else none))
def g_X2_nextOrder_29   (x1 : Int32) (μ : z_M) : Option (Int32 × z_M) :=
  (if 0 ≤ x1 then (g_X2_nextOrder_37   z_N (x1) ((4 : Int32)) μ) else (some ((5 : Int32), μ)))
def g_X2_nextOrder_2   : Nat → Int32 → z_M → Option (Int32 × z_M)
  | 0, _, _ => none
  | n + 1, x1, μ => (if x1 < 0 then (g_X2_nextOrder_29   (x1) μ) else (if z_in x1 5 then (if z_in (x1 + (1 : Int32)) 5 then (if (μ.1 37 x1.toNatClampNeg) ≤ (μ.1 37 (x1 + (1 : Int32)).toNatClampNeg) then (g_X2_nextOrder_29   (x1) μ) else (g_X2_nextOrder_2   n ((x1 + (-1 : Int32))) μ)) else none) else none))
def f_X2_nextOrder  (μ : z_M) : Option (Int32 × z_M) :=
  (g_X2_nextOrder_2   z_N ((3 : Int32)) μ)
set_option maxHeartbeats 4000000 in
set_option maxRecDepth 100000 in
theorem u_X2_nextOrder_78 {E : z_E} {ρ : Nat → Nat → Option Nat} {r : Int32} {μr : z_M} (F : z_F E RX2 cX2_nextOrder 5 1) (Rt : z_R E (some .int) (fun v μ1 => μ1.2.2 = ρ ∧ ∃ r1, v = some (.int r1) ∧ r = r1 ∧ μr = μ1))  (hk : z_ok (z_sh E.1) ρ) : ∀ (n : Nat) (x1 : Int32) (x3 : Int32) (x4 : Int32) (μ : z_M), μ.2.2 = ρ → g_X2_nextOrder_78   n x1 x3 x4 μ = some (r, μr) → z_J E 5 78 [some (.ref 28), some (.int x1), none, some (.int x3), some (.int x4)] [] μ := by
  intro n
  induction n with
  | zero =>
    intro x1 x3 x4 μ hρ h
    rw [g_X2_nextOrder_78] at h
    cases h
  | succ n ih =>
    intro x1 x3 x4 μ hρ h
    rw [g_X2_nextOrder_78] at h
    refine j_iload_n F (pc := 78) (q := 3) (by decide +kernel) rfl ?_
    refine j_iload F (pc := 79) (i := 4) (by decide +kernel) rfl ?_
    refine j_icmp_ge F (pc := 81) (off := 19) (tgt := 100) (by decide +kernel) (by decide) (fun c => ?_) (fun c => ?_)
    · rw [if_pos c] at h
      refine j_iload_n F (pc := 100) (q := 1) (by decide +kernel) rfl ?_
      exact j_iret (st := []) F Rt rfl (by decide +kernel) ⟨hρ, _, rfl, (congrArg Prod.fst (Option.some.inj h)).symm, (congrArg Prod.snd (Option.some.inj h)).symm⟩
    · rw [if_neg c] at h
      refine j_aload_n F (pc := 84) (q := 0) (by decide +kernel) rfl ?_
      refine j_iload_n F (pc := 85) (q := 3) (by decide +kernel) rfl ?_
      refine j_iload F (pc := 86) (i := 4) (by decide +kernel) rfl ?_
      obtain ⟨μ10, hc12, h⟩ := z_b1_some h
      refine j_callVv F (pc := 88) (idx := 131) (As := [.int x3, .int x4]) (st := []) (t_X2_swapFunds (G := E.1) hρ hk hc12) q_X2_swapFunds v_X2_swapFunds m_758 (hk.s c_28) rfl rfl (by decide) (Nat.le_of_ble_eq_true rfl) rfl (by decide +kernel) (fun ν13 hq14 hp => ?_)
      subst hp
      have hρ11 : μ10.2.2 = ρ := hq14.trans hρ
      refine j_iinc F (pc := 91) (i := 3) (n := 1) (v := 1) (L' := [some (.ref 28), some (.int x1), none, some (.int (x3 + (1 : Int32))), some (.int x4)]) (by decide +kernel) rfl (by decide +kernel) (by decide) rfl rfl ?_
      refine j_iinc F (pc := 94) (i := 4) (n := -1) (v := -1) (L' := [some (.ref 28), some (.int x1), none, some (.int (x3 + (1 : Int32))), some (.int (x4 + (-1 : Int32)))]) (by decide +kernel) rfl (by decide +kernel) (by decide) rfl rfl ?_
      refine j_goto F (pc := 97) (off := -19) (tgt := 78) (by decide +kernel) (by decide) ?_
      exact ih _ _ _ _ hρ11 h
set_option maxHeartbeats 4000000 in
set_option maxRecDepth 100000 in
theorem u_X2_nextOrder_65 {E : z_E} {ρ : Nat → Nat → Option Nat} {r : Int32} {μr : z_M} (F : z_F E RX2 cX2_nextOrder 5 1) (Rt : z_R E (some .int) (fun v μ1 => μ1.2.2 = ρ ∧ ∃ r1, v = some (.int r1) ∧ r = r1 ∧ μr = μ1))  (hk : z_ok (z_sh E.1) ρ) : ∀ (x1 : Int32) (x2 : Int32) (μ : z_M), μ.2.2 = ρ → g_X2_nextOrder_65   x1 x2 μ = some (r, μr) → z_J E 5 65 [some (.ref 28), some (.int x1), some (.int x2), none, none] [] μ := by
  intro x1 x2 μ hρ h
  unfold g_X2_nextOrder_65 at h
  refine j_aload_n F (pc := 65) (q := 0) (by decide +kernel) rfl ?_
  refine j_iload_n F (pc := 66) (q := 1) (by decide +kernel) rfl ?_
  refine j_iload_n F (pc := 67) (q := 2) (by decide +kernel) rfl ?_
  obtain ⟨μ2, hc4, h⟩ := z_b1_some h
  refine j_callVv F (pc := 68) (idx := 131) (As := [.int x1, .int x2]) (st := []) (t_X2_swapFunds (G := E.1) hρ hk hc4) q_X2_swapFunds v_X2_swapFunds m_758 (hk.s c_28) rfl rfl (by decide) (Nat.le_of_ble_eq_true rfl) rfl (by decide +kernel) (fun ν5 hq6 hp => ?_)
  subst hp
  have hρ3 : μ2.2.2 = ρ := hq6.trans hρ
  refine j_iload_n F (pc := 71) (q := 1) (by decide +kernel) rfl ?_
  refine j_iconst F (pc := 72) (n := 1) (v := 1) (by decide +kernel) (by decide +kernel) ?_
  refine j_iadd F (pc := 73) (by decide +kernel) ?_
  obtain ⟨x_7, e8, h⟩ := z_lt_some h
  rw [← e8]
  refine j_istore_n F (pc := 74) (q := 3) (L' := [some (.ref 28), some (.int x1), some (.int x2), some (.int x_7), none]) (by decide +kernel) (by decide) rfl rfl ?_
  refine j_iconst F (pc := 75) (n := 4) (v := 4) (by decide +kernel) (by decide +kernel) ?_
  refine j_istore F (pc := 76) (i := 4) (L' := [some (.ref 28), some (.int x1), some (.int x2), some (.int x_7), some (.int (4 : Int32))]) (by decide +kernel) (by decide) rfl rfl ?_
  refine j_mk F [true, true, false, true, true] (L' := [some (.ref 28), some (.int x1), none, some (.int x_7), some (.int (4 : Int32))]) rfl ?_
  refine u_X2_nextOrder_78 F Rt hk  z_N _ _ _ _ hρ3 h
set_option maxHeartbeats 4000000 in
set_option maxRecDepth 100000 in
theorem u_X2_nextOrder_37 {E : z_E} {ρ : Nat → Nat → Option Nat} {r : Int32} {μr : z_M} (F : z_F E RX2 cX2_nextOrder 5 1) (Rt : z_R E (some .int) (fun v μ1 => μ1.2.2 = ρ ∧ ∃ r1, v = some (.int r1) ∧ r = r1 ∧ μr = μ1))  (hk : z_ok (z_sh E.1) ρ) : ∀ (n : Nat) (x1 : Int32) (x2 : Int32) (μ : z_M), μ.2.2 = ρ → g_X2_nextOrder_37   n x1 x2 μ = some (r, μr) → z_J E 5 37 [some (.ref 28), some (.int x1), some (.int x2), none, none] [] μ := by
  intro n
  induction n with
  | zero =>
    intro x1 x2 μ hρ h
    rw [g_X2_nextOrder_37] at h
    cases h
  | succ n ih =>
    intro x1 x2 μ hρ h
    rw [g_X2_nextOrder_37] at h
    refine j_iload_n F (pc := 37) (q := 2) (by decide +kernel) rfl ?_
    refine j_iload_n F (pc := 38) (q := 1) (by decide +kernel) rfl ?_
    refine j_iconst F (pc := 39) (n := 1) (v := 1) (by decide +kernel) (by decide +kernel) ?_
    refine j_iadd F (pc := 40) (by decide +kernel) ?_
    refine j_icmp_le F (pc := 41) (off := 24) (tgt := 65) (by decide +kernel) (by decide) (fun c => ?_) (fun c => ?_)
    · rw [if_pos c] at h
      refine u_X2_nextOrder_65 F Rt hk  _ _ _ hρ h
    · rw [if_neg c] at h
      refine j_aload_n F (pc := 44) (q := 0) (by decide +kernel) rfl ?_
      refine j_getR F (pc := 45) (hk.r hρ r_28_10) fl_X2_36 (hk.s c_28) rfl (by decide +kernel) ?_
      refine j_iload_n F (pc := 48) (q := 2) (by decide +kernel) rfl ?_
      obtain ⟨hg, h⟩ := z_ifs h
      refine j_iald F (pc := 49) (hk.s c_37) hg (by decide +kernel) ?_
      refine j_aload_n F (pc := 50) (q := 0) (by decide +kernel) rfl ?_
      refine j_getR F (pc := 51) (hk.r hρ r_28_10) fl_X2_36 (hk.s c_28) rfl (by decide +kernel) ?_
      refine j_iload_n F (pc := 54) (q := 1) (by decide +kernel) rfl ?_
      obtain ⟨hg, h⟩ := z_ifs h
      refine j_iald F (pc := 55) (hk.s c_37) hg (by decide +kernel) ?_
      refine j_icmp_ge F (pc := 56) (off := 9) (tgt := 65) (by decide +kernel) (by decide) (fun c => ?_) (fun c => ?_)
      · rw [if_pos c] at h
        refine u_X2_nextOrder_65 F Rt hk  _ _ _ hρ h
      · rw [if_neg c] at h
        refine j_iinc F (pc := 59) (i := 2) (n := -1) (v := -1) (L' := [some (.ref 28), some (.int x1), some (.int (x2 + (-1 : Int32))), none, none]) (by decide +kernel) rfl (by decide +kernel) (by decide) rfl rfl ?_
        refine j_goto F (pc := 62) (off := -25) (tgt := 37) (by decide +kernel) (by decide) ?_
        exact ih _ _ _ hρ h
set_option maxHeartbeats 4000000 in
set_option maxRecDepth 100000 in
theorem u_X2_nextOrder_29 {E : z_E} {ρ : Nat → Nat → Option Nat} {r : Int32} {μr : z_M} (F : z_F E RX2 cX2_nextOrder 5 1) (Rt : z_R E (some .int) (fun v μ1 => μ1.2.2 = ρ ∧ ∃ r1, v = some (.int r1) ∧ r = r1 ∧ μr = μ1))  (hk : z_ok (z_sh E.1) ρ) : ∀ (x1 : Int32) (μ : z_M), μ.2.2 = ρ → g_X2_nextOrder_29   x1 μ = some (r, μr) → z_J E 5 29 [some (.ref 28), some (.int x1), none, none, none] [] μ := by
  intro x1 μ hρ h
  unfold g_X2_nextOrder_29 at h
  refine j_iload_n F (pc := 29) (q := 1) (by decide +kernel) rfl ?_
  refine j_if_ge F (pc := 30) (off := 5) (tgt := 35) (by decide +kernel) (by decide) (fun c => ?_) (fun c => ?_)
  · rw [if_pos c] at h
    refine j_iconst F (pc := 35) (n := 4) (v := 4) (by decide +kernel) (by decide +kernel) ?_
    refine j_istore_n F (pc := 36) (q := 2) (L' := [some (.ref 28), some (.int x1), some (.int (4 : Int32)), none, none]) (by decide +kernel) (by decide) rfl rfl ?_
    refine u_X2_nextOrder_37 F Rt hk  z_N _ _ _ hρ h
  · rw [if_neg c] at h
    refine j_iconst F (pc := 33) (n := 5) (v := 5) (by decide +kernel) (by decide +kernel) ?_
    exact j_iret (st := []) F Rt rfl (by decide +kernel) ⟨hρ, _, rfl, (congrArg Prod.fst (Option.some.inj h)).symm, (congrArg Prod.snd (Option.some.inj h)).symm⟩
set_option maxHeartbeats 4000000 in
set_option maxRecDepth 100000 in
theorem u_X2_nextOrder_2 {E : z_E} {ρ : Nat → Nat → Option Nat} {r : Int32} {μr : z_M} (F : z_F E RX2 cX2_nextOrder 5 1) (Rt : z_R E (some .int) (fun v μ1 => μ1.2.2 = ρ ∧ ∃ r1, v = some (.int r1) ∧ r = r1 ∧ μr = μ1))  (hk : z_ok (z_sh E.1) ρ) : ∀ (n : Nat) (x1 : Int32) (μ : z_M), μ.2.2 = ρ → g_X2_nextOrder_2   n x1 μ = some (r, μr) → z_J E 5 2 [some (.ref 28), some (.int x1), none, none, none] [] μ := by
  intro n
  induction n with
  | zero =>
    intro x1 μ hρ h
    rw [g_X2_nextOrder_2] at h
    cases h
  | succ n ih =>
    intro x1 μ hρ h
    rw [g_X2_nextOrder_2] at h
    refine j_iload_n F (pc := 2) (q := 1) (by decide +kernel) rfl ?_
    refine j_if_lt F (pc := 3) (off := 26) (tgt := 29) (by decide +kernel) (by decide) (fun c => ?_) (fun c => ?_)
    · rw [if_pos c] at h
      refine u_X2_nextOrder_29 F Rt hk  _ _ hρ h
    · rw [if_neg c] at h
      refine j_aload_n F (pc := 6) (q := 0) (by decide +kernel) rfl ?_
      refine j_getR F (pc := 7) (hk.r hρ r_28_10) fl_X2_36 (hk.s c_28) rfl (by decide +kernel) ?_
      refine j_iload_n F (pc := 10) (q := 1) (by decide +kernel) rfl ?_
      obtain ⟨hg, h⟩ := z_ifs h
      refine j_iald F (pc := 11) (hk.s c_37) hg (by decide +kernel) ?_
      refine j_aload_n F (pc := 12) (q := 0) (by decide +kernel) rfl ?_
      refine j_getR F (pc := 13) (hk.r hρ r_28_10) fl_X2_36 (hk.s c_28) rfl (by decide +kernel) ?_
      refine j_iload_n F (pc := 16) (q := 1) (by decide +kernel) rfl ?_
      refine j_iconst F (pc := 17) (n := 1) (v := 1) (by decide +kernel) (by decide +kernel) ?_
      refine j_iadd F (pc := 18) (by decide +kernel) ?_
      obtain ⟨hg, h⟩ := z_ifs h
      refine j_iald F (pc := 19) (hk.s c_37) hg (by decide +kernel) ?_
      refine j_icmp_le F (pc := 20) (off := 9) (tgt := 29) (by decide +kernel) (by decide) (fun c => ?_) (fun c => ?_)
      · rw [if_pos c] at h
        refine u_X2_nextOrder_29 F Rt hk  _ _ hρ h
      · rw [if_neg c] at h
        refine j_iinc F (pc := 23) (i := 1) (n := -1) (v := -1) (L' := [some (.ref 28), some (.int (x1 + (-1 : Int32))), none, none, none]) (by decide +kernel) rfl (by decide +kernel) (by decide) rfl rfl ?_
        refine j_goto F (pc := 26) (off := -24) (tgt := 2) (by decide +kernel) (by decide) ?_
        exact ih _ _ hρ h
set_option maxHeartbeats 4000000 in
set_option maxRecDepth 100000 in
theorem t_X2_nextOrder {G : z_Gl} {ρ : Nat → Nat → Option Nat} {μ : z_M} {r : Int32} {μr : z_M}  (hρ : μ.2.2 = ρ) (hk : z_ok (z_sh G) ρ) (h : f_X2_nextOrder  μ = some (r, μr)) : z_Ci G yX2_nextOrder cX2_nextOrder 5 (some .int) 1 [.ref 28] μ (fun r1 μ1 => r = r1 ∧ μr = μ1) := by
  unfold z_Ci
  refine z_intro (by decide +kernel) (Nat.le_of_ble_eq_true rfl) (fun E hE F Rt => ?_)
  subst hE
  have F : z_F E RX2 cX2_nextOrder 5 1 := F
  rw [hρ] at Rt
  unfold f_X2_nextOrder at h
  show z_J E 5 0 [some (.ref 28), none, none, none, none] [] μ
  refine j_iconst F (pc := 0) (n := 3) (v := 3) (by decide +kernel) (by decide +kernel) ?_
  refine j_istore_n F (pc := 1) (q := 1) (L' := [some (.ref 28), some (.int (3 : Int32)), none, none, none]) (by decide +kernel) (by decide) rfl rfl ?_
  refine u_X2_nextOrder_2 F Rt hk  z_N _ _ hρ h
def g_X2_marshal_78    (μ : z_M) : Option z_M :=
  (z_b1 (f_X4_copyRow (38) (5) (37) (5) μ) fun μ17 => (z_b1 (f_X2_payAllFrom ((0 : Int32)) μ17) fun μ23 => (some μ23)))
def g_X2_marshal_25   : Nat → Int32 → Int32 → Int32 → z_M → Option z_M
  | 0, _, _, _, _ => none
  | n + 1, x1, x2, x3, μ => (if (120 : Int32) ≤ x3 then (g_X2_marshal_78    μ) else (if x2 ≤ x1 then (g_X2_marshal_78    μ) else (z_b2 (f_X2_nextOrder  μ) fun r28 μ29 => (z_b1 (f_X2_payAllFrom (r28) μ29) fun μ36 => (if z_in (5 : Int32) 6 then (if (μ36.1 46 (5 : Int32).toNatClampNeg) ≤ x1 then (g_X2_marshal_25   n (x1) (x2) ((x3 + (1 : Int32))) μ36) else (if z_in (5 : Int32) 6 then (z_lt (μ36.1 46 (5 : Int32).toNatClampNeg) fun x_41 => (z_b1 (f_X4_copyRow (37) (5) (38) (5) μ36) fun μ44 => (g_X2_marshal_25   n (x_41) (x2) ((x3 + (1 : Int32))) μ44))) else none)) else none)))))
def f_X2_marshal  (μ : z_M) : Option z_M :=
  (if z_in (5 : Int32) 6 then (z_lt (μ.1 46 (5 : Int32).toNatClampNeg) fun x_1 => (z_b1 (f_X4_copyRow (37) (5) (38) (5) μ) fun μ4 => (z_b2 (f_X2_mostPayable  μ4) fun r9 μ10 => (g_X2_marshal_25   z_N (x_1) (r9) ((1 : Int32)) μ10)))) else none)
set_option maxHeartbeats 4000000 in
set_option maxRecDepth 100000 in
theorem u_X2_marshal_78 {E : z_E} {ρ : Nat → Nat → Option Nat} {μr : z_M} (F : z_F E RX2 cX2_marshal 4 3) (Rt : z_R E none (fun v μ1 => μ1.2.2 = ρ ∧ v = none ∧ μr = μ1))  (hk : z_ok (z_sh E.1) ρ) : ∀  (μ : z_M), μ.2.2 = ρ → g_X2_marshal_78    μ = some μr → z_J E 4 78 [some (.ref 28), none, none, none] [] μ := by
  intro  μ hρ h
  unfold g_X2_marshal_78 at h
  refine j_aload_n F (pc := 78) (q := 0) (by decide +kernel) rfl ?_
  refine j_getR F (pc := 79) (hk.r hρ r_28_11) fl_X2_39 (hk.s c_28) rfl (by decide +kernel) ?_
  refine j_aload_n F (pc := 82) (q := 0) (by decide +kernel) rfl ?_
  refine j_getR F (pc := 83) (hk.r hρ r_28_10) fl_X2_36 (hk.s c_28) rfl (by decide +kernel) ?_
  obtain ⟨μ17, hc19, h⟩ := z_b1_some h
  refine j_callNv F (pc := 86) (idx := 63) (As := [.ref 38, .ref 37]) (st := []) (t_X4_copyRow (G := E.1) hρ (hk.s c_38) (hk.s c_37) hc19) q_X4_copyRow m_723 (by decide +kernel) rfl (by decide) (Nat.le_of_ble_eq_true rfl) rfl (by decide +kernel) (fun ν20 hq21 hp => ?_)
  subst hp
  have hρ18 : μ17.2.2 = ρ := hq21.trans hρ
  refine j_aload_n F (pc := 89) (q := 0) (by decide +kernel) rfl ?_
  refine j_iconst F (pc := 90) (n := 0) (v := 0) (by decide +kernel) (by decide +kernel) ?_
  obtain ⟨μ23, hc25, h⟩ := z_b1_some h
  refine j_callVv F (pc := 91) (idx := 79) (As := [.int (0 : Int32)]) (st := []) (t_X2_payAllFrom (G := E.1) hρ18 hk hc25) q_X2_payAllFrom v_X2_payAllFrom m_730 (hk.s c_28) rfl rfl (by decide) (Nat.le_of_ble_eq_true rfl) rfl (by decide +kernel) (fun ν26 hq27 hp => ?_)
  subst hp
  have hρ24 : μ23.2.2 = ρ := hq27.trans hρ18
  exact j_vret (st := []) F Rt (by decide +kernel) ⟨hρ24, rfl, (Option.some.inj h).symm⟩
set_option maxHeartbeats 4000000 in
set_option maxRecDepth 100000 in
theorem u_X2_marshal_25 {E : z_E} {ρ : Nat → Nat → Option Nat} {μr : z_M} (F : z_F E RX2 cX2_marshal 4 3) (Rt : z_R E none (fun v μ1 => μ1.2.2 = ρ ∧ v = none ∧ μr = μ1))  (hk : z_ok (z_sh E.1) ρ) : ∀ (n : Nat) (x1 : Int32) (x2 : Int32) (x3 : Int32) (μ : z_M), μ.2.2 = ρ → g_X2_marshal_25   n x1 x2 x3 μ = some μr → z_J E 4 25 [some (.ref 28), some (.int x1), some (.int x2), some (.int x3)] [] μ := by
  intro n
  induction n with
  | zero =>
    intro x1 x2 x3 μ hρ h
    rw [g_X2_marshal_25] at h
    cases h
  | succ n ih =>
    intro x1 x2 x3 μ hρ h
    rw [g_X2_marshal_25] at h
    refine j_iload_n F (pc := 25) (q := 3) (by decide +kernel) rfl ?_
    refine j_bipush F (pc := 26) (n := 120) (v := 120) (by decide +kernel) (by decide +kernel) ?_
    refine j_icmp_ge F (pc := 28) (off := 50) (tgt := 78) (by decide +kernel) (by decide) (fun c => ?_) (fun c => ?_)
    · rw [if_pos c] at h
      refine j_mk F [true, false, false, false] (L' := [some (.ref 28), none, none, none]) rfl ?_
      refine u_X2_marshal_78 F Rt hk   _ hρ h
    · rw [if_neg c] at h
      refine j_iload_n F (pc := 31) (q := 1) (by decide +kernel) rfl ?_
      refine j_iload_n F (pc := 32) (q := 2) (by decide +kernel) rfl ?_
      refine j_icmp_ge F (pc := 33) (off := 45) (tgt := 78) (by decide +kernel) (by decide) (fun c => ?_) (fun c => ?_)
      · rw [if_pos c] at h
        refine j_mk F [true, false, false, false] (L' := [some (.ref 28), none, none, none]) rfl ?_
        refine u_X2_marshal_78 F Rt hk   _ hρ h
      · rw [if_neg c] at h
        refine j_aload_n F (pc := 36) (q := 0) (by decide +kernel) rfl ?_
        refine j_aload_n F (pc := 37) (q := 0) (by decide +kernel) rfl ?_
        obtain ⟨r28, μ29, hc31, h⟩ := z_b2_some h
        refine j_callVi F (pc := 38) (idx := 121) (As := []) (st := [.ref 28]) (t_X2_nextOrder (G := E.1) hρ hk hc31) q_X2_nextOrder v_X2_nextOrder m_754 (hk.s c_28) rfl rfl (by decide) (Nat.le_of_ble_eq_true rfl) rfl (by decide +kernel) (fun s34 ν32 hq33 hp => ?_)
        obtain ⟨rfl, rfl⟩ := hp
        have hρ30 : μ29.2.2 = ρ := hq33.trans hρ
        obtain ⟨μ36, hc38, h⟩ := z_b1_some h
        refine j_callVv F (pc := 41) (idx := 79) (As := [.int r28]) (st := []) (t_X2_payAllFrom (G := E.1) hρ30 hk hc38) q_X2_payAllFrom v_X2_payAllFrom m_730 (hk.s c_28) rfl rfl (by decide) (Nat.le_of_ble_eq_true rfl) rfl (by decide +kernel) (fun ν39 hq40 hp => ?_)
        subst hp
        have hρ37 : μ36.2.2 = ρ := hq40.trans hρ30
        refine j_aload_n F (pc := 44) (q := 0) (by decide +kernel) rfl ?_
        refine j_getR F (pc := 45) (hk.r hρ37 r_28_13) fl_X2_47 (hk.s c_28) rfl (by decide +kernel) ?_
        refine j_iconst F (pc := 48) (n := 5) (v := 5) (by decide +kernel) (by decide +kernel) ?_
        obtain ⟨hg, h⟩ := z_ifs h
        refine j_iald F (pc := 49) (hk.s c_46) hg (by decide +kernel) ?_
        refine j_iload_n F (pc := 50) (q := 1) (by decide +kernel) rfl ?_
        refine j_icmp_le F (pc := 51) (off := 21) (tgt := 72) (by decide +kernel) (by decide) (fun c => ?_) (fun c => ?_)
        · rw [if_pos c] at h
          refine j_iinc F (pc := 72) (i := 3) (n := 1) (v := 1) (L' := [some (.ref 28), some (.int x1), some (.int x2), some (.int (x3 + (1 : Int32)))]) (by decide +kernel) rfl (by decide +kernel) (by decide) rfl rfl ?_
          refine j_goto F (pc := 75) (off := -50) (tgt := 25) (by decide +kernel) (by decide) ?_
          exact ih _ _ _ _ hρ37 h
        · rw [if_neg c] at h
          refine j_aload_n F (pc := 54) (q := 0) (by decide +kernel) rfl ?_
          refine j_getR F (pc := 55) (hk.r hρ37 r_28_13) fl_X2_47 (hk.s c_28) rfl (by decide +kernel) ?_
          refine j_iconst F (pc := 58) (n := 5) (v := 5) (by decide +kernel) (by decide +kernel) ?_
          obtain ⟨hg, h⟩ := z_ifs h
          refine j_iald F (pc := 59) (hk.s c_46) hg (by decide +kernel) ?_
          obtain ⟨x_41, e42, h⟩ := z_lt_some h
          rw [← e42]
          refine j_istore_n F (pc := 60) (q := 1) (L' := [some (.ref 28), some (.int x_41), some (.int x2), some (.int x3)]) (by decide +kernel) (by decide) rfl rfl ?_
          refine j_aload_n F (pc := 61) (q := 0) (by decide +kernel) rfl ?_
          refine j_getR F (pc := 62) (hk.r hρ37 r_28_10) fl_X2_36 (hk.s c_28) rfl (by decide +kernel) ?_
          refine j_aload_n F (pc := 65) (q := 0) (by decide +kernel) rfl ?_
          refine j_getR F (pc := 66) (hk.r hρ37 r_28_11) fl_X2_39 (hk.s c_28) rfl (by decide +kernel) ?_
          obtain ⟨μ44, hc46, h⟩ := z_b1_some h
          refine j_callNv F (pc := 69) (idx := 63) (As := [.ref 37, .ref 38]) (st := []) (t_X4_copyRow (G := E.1) hρ37 (hk.s c_37) (hk.s c_38) hc46) q_X4_copyRow m_723 (by decide +kernel) rfl (by decide) (Nat.le_of_ble_eq_true rfl) rfl (by decide +kernel) (fun ν47 hq48 hp => ?_)
          subst hp
          have hρ45 : μ44.2.2 = ρ := hq48.trans hρ37
          refine j_iinc F (pc := 72) (i := 3) (n := 1) (v := 1) (L' := [some (.ref 28), some (.int x_41), some (.int x2), some (.int (x3 + (1 : Int32)))]) (by decide +kernel) rfl (by decide +kernel) (by decide) rfl rfl ?_
          refine j_goto F (pc := 75) (off := -50) (tgt := 25) (by decide +kernel) (by decide) ?_
          exact ih _ _ _ _ hρ45 h
set_option maxHeartbeats 4000000 in
set_option maxRecDepth 100000 in
theorem t_X2_marshal {G : z_Gl} {ρ : Nat → Nat → Option Nat} {μ : z_M} {μr : z_M}  (hρ : μ.2.2 = ρ) (hk : z_ok (z_sh G) ρ) (h : f_X2_marshal  μ = some μr) : z_Cv G yX2_marshal cX2_marshal 4 none 3 [.ref 28] μ (fun μ1 => μr = μ1) := by
  unfold z_Cv
  refine z_intro (by decide +kernel) (Nat.le_of_ble_eq_true rfl) (fun E hE F Rt => ?_)
  subst hE
  have F : z_F E RX2 cX2_marshal 4 3 := F
  rw [hρ] at Rt
  unfold f_X2_marshal at h
  show z_J E 4 0 [some (.ref 28), none, none, none] [] μ
  refine j_aload_n F (pc := 0) (q := 0) (by decide +kernel) rfl ?_
  refine j_getR F (pc := 1) (hk.r hρ r_28_13) fl_X2_47 (hk.s c_28) rfl (by decide +kernel) ?_
  refine j_iconst F (pc := 4) (n := 5) (v := 5) (by decide +kernel) (by decide +kernel) ?_
  obtain ⟨hg, h⟩ := z_ifs h
  refine j_iald F (pc := 5) (hk.s c_46) hg (by decide +kernel) ?_
  obtain ⟨x_1, e2, h⟩ := z_lt_some h
  rw [← e2]
  refine j_istore_n F (pc := 6) (q := 1) (L' := [some (.ref 28), some (.int x_1), none, none]) (by decide +kernel) (by decide) rfl rfl ?_
  refine j_aload_n F (pc := 7) (q := 0) (by decide +kernel) rfl ?_
  refine j_getR F (pc := 8) (hk.r hρ r_28_10) fl_X2_36 (hk.s c_28) rfl (by decide +kernel) ?_
  refine j_aload_n F (pc := 11) (q := 0) (by decide +kernel) rfl ?_
  refine j_getR F (pc := 12) (hk.r hρ r_28_11) fl_X2_39 (hk.s c_28) rfl (by decide +kernel) ?_
  obtain ⟨μ4, hc6, h⟩ := z_b1_some h
  refine j_callNv F (pc := 15) (idx := 63) (As := [.ref 37, .ref 38]) (st := []) (t_X4_copyRow (G := E.1) hρ (hk.s c_37) (hk.s c_38) hc6) q_X4_copyRow m_723 (by decide +kernel) rfl (by decide) (Nat.le_of_ble_eq_true rfl) rfl (by decide +kernel) (fun ν7 hq8 hp => ?_)
  subst hp
  have hρ5 : μ4.2.2 = ρ := hq8.trans hρ
  refine j_aload_n F (pc := 18) (q := 0) (by decide +kernel) rfl ?_
  obtain ⟨r9, μ10, hc12, h⟩ := z_b2_some h
  refine j_callVi F (pc := 19) (idx := 117) (As := []) (st := []) (t_X2_mostPayable (G := E.1) hρ5 hk hc12) q_X2_mostPayable v_X2_mostPayable m_745 (hk.s c_28) rfl rfl (by decide) (Nat.le_of_ble_eq_true rfl) rfl (by decide +kernel) (fun s15 ν13 hq14 hp => ?_)
  obtain ⟨rfl, rfl⟩ := hp
  have hρ11 : μ10.2.2 = ρ := hq14.trans hρ5
  refine j_istore_n F (pc := 22) (q := 2) (L' := [some (.ref 28), some (.int x_1), some (.int r9), none]) (by decide +kernel) (by decide) rfl rfl ?_
  refine j_iconst F (pc := 23) (n := 1) (v := 1) (by decide +kernel) (by decide +kernel) ?_
  refine j_istore_n F (pc := 24) (q := 3) (L' := [some (.ref 28), some (.int x_1), some (.int r9), some (.int (1 : Int32))]) (by decide +kernel) (by decide) rfl rfl ?_
  refine u_X2_marshal_25 F Rt hk  z_N _ _ _ _ hρ11 h
def g_X2_run_42 (o1 : Nat) (o2 : Nat)  : Nat → Int32 → Int32 → z_M → Option z_M
  | 0, _, _, _ => none
  | n + 1, x4, x5, μ => (if (5 : Int32) ≤ x5 then (z_b1 (f_X2_payAllFrom ((0 : Int32)) μ) fun μ17 => (if x4 = (1 : Int32) then (z_b1 (f_X2_marshal  μ17) fun μ23 => (some μ23)) else (some μ17))) else (if z_in x5 5 then (z_st (z_si μ 37 x5.toNatClampNeg x5) fun μ28 => (g_X2_run_42 o1 o2  n (x4) ((x5 + (1 : Int32))) μ28)) else none))
def f_X2_run (o1 : Nat) (o2 : Nat) (x3 : Int32) (x4 : Int32) (μ : z_M) : Option z_M :=
  (z_b1 (f_X2_lineUp (o1) (o2) (x3) μ) fun μ2 => (z_b1 (f_X4_copyRow ((o2 + 9)) (5) (35) (5) μ2) fun μ8 => (if z_in (0 : Int32) 5 then (if z_in (0 : Int32) 5 then (z_st (z_si μ8 35 (0 : Int32).toNatClampNeg (if (0 : Int32) < ((μ8.1 35 (0 : Int32).toNatClampNeg) - (μ8.1 o1 10)) then ((μ8.1 35 (0 : Int32).toNatClampNeg) - (μ8.1 o1 10)) else (0 : Int32))) fun μ13 => (g_X2_run_42 o1 o2  z_N (x4) ((0 : Int32)) μ13)) else none) else none)))
set_option maxHeartbeats 4000000 in
set_option maxRecDepth 100000 in
theorem u_X2_run_42 {E : z_E} {ρ : Nat → Nat → Option Nat} {μr : z_M} (F : z_F E RX2 cX2_run 6 4) (Rt : z_R E none (fun v μ1 => μ1.2.2 = ρ ∧ v = none ∧ μr = μ1)) {o1 : Nat} {o2 : Nat} (hk : z_ok (z_sh E.1) ρ) (hb1 : z_blk z_lawS z_lawR (z_sh E.1) ρ o1) (hb2 : z_blk z_shipS z_shipR (z_sh E.1) ρ o2) : ∀ (n : Nat) (x4 : Int32) (x5 : Int32) (μ : z_M), μ.2.2 = ρ → g_X2_run_42 o1 o2  n x4 x5 μ = some μr → z_J E 6 42 [some (.ref 28), none, none, none, some (.int x4), some (.int x5)] [] μ := by
  intro n
  induction n with
  | zero =>
    intro x4 x5 μ hρ h
    rw [g_X2_run_42] at h
    cases h
  | succ n ih =>
    intro x4 x5 μ hρ h
    rw [g_X2_run_42] at h
    refine j_iload F (pc := 42) (i := 5) (by decide +kernel) rfl ?_
    refine j_iconst F (pc := 44) (n := 5) (v := 5) (by decide +kernel) (by decide +kernel) ?_
    refine j_icmp_ge F (pc := 45) (off := 18) (tgt := 63) (by decide +kernel) (by decide) (fun c => ?_) (fun c => ?_)
    · rw [if_pos c] at h
      refine j_aload_n F (pc := 63) (q := 0) (by decide +kernel) rfl ?_
      refine j_iconst F (pc := 64) (n := 0) (v := 0) (by decide +kernel) (by decide +kernel) ?_
      obtain ⟨μ17, hc19, h⟩ := z_b1_some h
      refine j_callVv F (pc := 65) (idx := 79) (As := [.int (0 : Int32)]) (st := []) (t_X2_payAllFrom (G := E.1) hρ hk hc19) q_X2_payAllFrom v_X2_payAllFrom m_730 (hk.s c_28) rfl rfl (by decide) (Nat.le_of_ble_eq_true rfl) rfl (by decide +kernel) (fun ν20 hq21 hp => ?_)
      subst hp
      have hρ18 : μ17.2.2 = ρ := hq21.trans hρ
      refine j_iload F (pc := 68) (i := 4) (by decide +kernel) rfl ?_
      refine j_iconst F (pc := 70) (n := 1) (v := 1) (by decide +kernel) (by decide +kernel) ?_
      refine j_icmp_ne F (pc := 71) (off := 7) (tgt := 78) (by decide +kernel) (by decide) (fun c => ?_) (fun c => ?_)
      · rw [if_neg c] at h
        exact j_vret (st := []) F Rt (by decide +kernel) ⟨hρ18, rfl, (Option.some.inj h).symm⟩
      · rw [if_pos c] at h
        refine j_aload_n F (pc := 74) (q := 0) (by decide +kernel) rfl ?_
        obtain ⟨μ23, hc25, h⟩ := z_b1_some h
        refine j_callVv F (pc := 75) (idx := 83) (As := []) (st := []) (t_X2_marshal (G := E.1) hρ18 hk hc25) q_X2_marshal v_X2_marshal m_741 (hk.s c_28) rfl rfl (by decide) (Nat.le_of_ble_eq_true rfl) rfl (by decide +kernel) (fun ν26 hq27 hp => ?_)
        subst hp
        have hρ24 : μ23.2.2 = ρ := hq27.trans hρ18
        exact j_vret (st := []) F Rt (by decide +kernel) ⟨hρ24, rfl, (Option.some.inj h).symm⟩
    · rw [if_neg c] at h
      refine j_aload_n F (pc := 48) (q := 0) (by decide +kernel) rfl ?_
      refine j_getR F (pc := 49) (hk.r hρ r_28_10) fl_X2_36 (hk.s c_28) rfl (by decide +kernel) ?_
      refine j_iload F (pc := 52) (i := 5) (by decide +kernel) rfl ?_
      refine j_iload F (pc := 54) (i := 5) (by decide +kernel) rfl ?_
      obtain ⟨hg, h⟩ := z_ifs h
      refine j_iast F (pc := 56) (hk.s c_37) hg (by decide +kernel) ?_
      obtain ⟨μ28, e30, h⟩ := z_st_some h
      rw [← e30]
      have hρ29 : μ28.2.2 = ρ := by rw [e30]; exact hρ
      refine j_iinc F (pc := 57) (i := 5) (n := 1) (v := 1) (L' := [some (.ref 28), none, none, none, some (.int x4), some (.int (x5 + (1 : Int32)))]) (by decide +kernel) rfl (by decide +kernel) (by decide) rfl rfl ?_
      refine j_goto F (pc := 60) (off := -18) (tgt := 42) (by decide +kernel) (by decide) ?_
      exact ih _ _ _ hρ29 h
set_option maxHeartbeats 4000000 in
set_option maxRecDepth 100000 in
theorem t_X2_run {G : z_Gl} {ρ : Nat → Nat → Option Nat} {μ : z_M} {μr : z_M} {o1 : Nat} {o2 : Nat} {x3 : Int32} {x4 : Int32} (hρ : μ.2.2 = ρ) (hk : z_ok (z_sh G) ρ) (hb1 : z_blk z_lawS z_lawR (z_sh G) ρ o1) (hb2 : z_blk z_shipS z_shipR (z_sh G) ρ o2) (h : f_X2_run o1 o2 x3 x4 μ = some μr) : z_Cv G yX2_run cX2_run 6 none 4 [.ref 28, .ref o1, .ref o2, .int x3, .int x4] μ (fun μ1 => μr = μ1) := by
  unfold z_Cv
  refine z_intro (by decide +kernel) (Nat.le_of_ble_eq_true rfl) (fun E hE F Rt => ?_)
  subst hE
  have F : z_F E RX2 cX2_run 6 4 := F
  rw [hρ] at Rt
  unfold f_X2_run at h
  show z_J E 6 0 [some (.ref 28), some (.ref o1), some (.ref o2), some (.int x3), some (.int x4), none] [] μ
  refine j_aload_n F (pc := 0) (q := 0) (by decide +kernel) rfl ?_
  refine j_aload_n F (pc := 1) (q := 1) (by decide +kernel) rfl ?_
  refine j_aload_n F (pc := 2) (q := 2) (by decide +kernel) rfl ?_
  refine j_iload_n F (pc := 3) (q := 3) (by decide +kernel) rfl ?_
  obtain ⟨μ2, hc4, h⟩ := z_b1_some h
  refine j_callVv F (pc := 4) (idx := 56) (As := [.ref o1, .ref o2, .int x3]) (st := []) (t_X2_lineUp (G := E.1) hρ hk hb1 hb2 hc4) q_X2_lineUp v_X2_lineUp m_721 (hk.s c_28) rfl rfl (by decide) (Nat.le_of_ble_eq_true rfl) rfl (by decide +kernel) (fun ν5 hq6 hp => ?_)
  subst hp
  have hρ3 : μ2.2.2 = ρ := hq6.trans hρ
  refine j_aload_n F (pc := 7) (q := 2) (by decide +kernel) rfl ?_
  refine j_getR F (pc := 8) (hb2.r hρ3 11 rfl) fl_X2_60 (hb2.1 0 _ rfl) rfl (by decide +kernel) ?_
  refine j_aload_n F (pc := 11) (q := 0) (by decide +kernel) rfl ?_
  refine j_getR F (pc := 12) (hk.r hρ3 r_28_8) fl_X2_30 (hk.s c_28) rfl (by decide +kernel) ?_
  obtain ⟨μ8, hc10, h⟩ := z_b1_some h
  refine j_callNv F (pc := 15) (idx := 63) (As := [.ref (o2 + 9), .ref 35]) (st := []) (t_X4_copyRow (G := E.1) hρ3 (hb2.1 9 _ rfl) (hk.s c_35) hc10) q_X4_copyRow m_723 (by decide +kernel) rfl (by decide) (Nat.le_of_ble_eq_true rfl) rfl (by decide +kernel) (fun ν11 hq12 hp => ?_)
  subst hp
  have hρ9 : μ8.2.2 = ρ := hq12.trans hρ3
  refine j_aload_n F (pc := 18) (q := 0) (by decide +kernel) rfl ?_
  refine j_getR F (pc := 19) (hk.r hρ9 r_28_8) fl_X2_30 (hk.s c_28) rfl (by decide +kernel) ?_
  refine j_iconst F (pc := 22) (n := 0) (v := 0) (by decide +kernel) (by decide +kernel) ?_
  refine j_iconst F (pc := 23) (n := 0) (v := 0) (by decide +kernel) (by decide +kernel) ?_
  refine j_aload_n F (pc := 24) (q := 0) (by decide +kernel) rfl ?_
  refine j_getR F (pc := 25) (hk.r hρ9 r_28_8) fl_X2_30 (hk.s c_28) rfl (by decide +kernel) ?_
  refine j_iconst F (pc := 28) (n := 0) (v := 0) (by decide +kernel) (by decide +kernel) ?_
  obtain ⟨hg, h⟩ := z_ifs h
  refine j_iald F (pc := 29) (hk.s c_35) hg (by decide +kernel) ?_
  refine j_aload_n F (pc := 30) (q := 1) (by decide +kernel) rfl ?_
  refine j_getI F (pc := 31) fl_X2_67 (hb1.1 0 _ rfl) rfl (by decide +kernel) ?_
  refine j_isub F (pc := 34) (by decide +kernel) ?_
  refine j_mmax F (pc := 35) ⟨m_729, m_552, m_88, m_553⟩ (by decide) (Nat.le_of_ble_eq_true rfl) (by decide +kernel) ?_
  obtain ⟨hg, h⟩ := z_ifs h
  refine j_iast F (pc := 38) (hk.s c_35) hg (by decide +kernel) ?_
  obtain ⟨μ13, e15, h⟩ := z_st_some h
  rw [← e15]
  have hρ14 : μ13.2.2 = ρ := by rw [e15]; exact hρ9
  refine j_iconst F (pc := 39) (n := 0) (v := 0) (by decide +kernel) (by decide +kernel) ?_
  refine j_istore F (pc := 40) (i := 5) (L' := [some (.ref 28), some (.ref o1), some (.ref o2), some (.int x3), some (.int x4), some (.int (0 : Int32))]) (by decide +kernel) (by decide) rfl rfl ?_
  refine j_mk F [true, false, false, false, true, true] (L' := [some (.ref 28), none, none, none, some (.int x4), some (.int (0 : Int32))]) rfl ?_
  refine u_X2_run_42 F Rt hk hb1 hb2  z_N _ _ _ hρ14 h
/-- LastLent$PayOut.paidTo -/
def f_X2_paidTo (x1 : Int32) (μ : z_M) : Option (Int32 × z_M) :=
  (if x1 < 0 then (some ((0 : Int32), μ)) else (if (14 : Int32) ≤ x1 then (some ((0 : Int32), μ)) else (if z_in (5 : Int32) 6 then ((μ.2.2 39 (5 : Int32).toNatClampNeg).bind fun r1 => (if z_in x1 14 then (some ((μ.1 r1 x1.toNatClampNeg), μ)) else none)) else none)))
set_option maxHeartbeats 4000000 in
set_option maxRecDepth 100000 in
theorem t_X2_paidTo {G : z_Gl} {ρ : Nat → Nat → Option Nat} {μ : z_M} {r : Int32} {μr : z_M} {x1 : Int32} (hρ : μ.2.2 = ρ) (hk : z_ok (z_sh G) ρ) (h : f_X2_paidTo x1 μ = some (r, μr)) : z_Ci G yX2_paidTo cX2_paidTo 2 (some .int) 0 [.ref 28, .int x1] μ (fun r1 μ1 => r = r1 ∧ μr = μ1) := by
  unfold z_Ci
  refine z_intro (by decide +kernel) (Nat.le_of_ble_eq_true rfl) (fun E hE F Rt => ?_)
  subst hE
  have F : z_F E RX2 cX2_paidTo 2 0 := F
  rw [hρ] at Rt
  unfold f_X2_paidTo at h
  show z_J E 2 0 [some (.ref 28), some (.int x1)] [] μ
  refine j_iload_n F (pc := 0) (q := 1) (by decide +kernel) rfl ?_
  refine j_if_lt F (pc := 1) (off := 20) (tgt := 21) (by decide +kernel) (by decide) (fun c => ?_) (fun c => ?_)
  · rw [if_pos c] at h
    refine j_iconst F (pc := 21) (n := 0) (v := 0) (by decide +kernel) (by decide +kernel) ?_
    exact j_iret (st := []) F Rt rfl (by decide +kernel) ⟨hρ, _, rfl, (congrArg Prod.fst (Option.some.inj h)).symm, (congrArg Prod.snd (Option.some.inj h)).symm⟩
  · rw [if_neg c] at h
    refine j_iload_n F (pc := 4) (q := 1) (by decide +kernel) rfl ?_
    refine j_bipush F (pc := 5) (n := 14) (v := 14) (by decide +kernel) (by decide +kernel) ?_
    refine j_icmp_ge F (pc := 7) (off := 14) (tgt := 21) (by decide +kernel) (by decide) (fun c => ?_) (fun c => ?_)
    · rw [if_pos c] at h
      refine j_iconst F (pc := 21) (n := 0) (v := 0) (by decide +kernel) (by decide +kernel) ?_
      exact j_iret (st := []) F Rt rfl (by decide +kernel) ⟨hρ, _, rfl, (congrArg Prod.fst (Option.some.inj h)).symm, (congrArg Prod.snd (Option.some.inj h)).symm⟩
    · rw [if_neg c] at h
      refine j_aload_n F (pc := 10) (q := 0) (by decide +kernel) rfl ?_
      refine j_getR F (pc := 11) (hk.r hρ r_28_12) fl_X2_44 (hk.s c_28) rfl (by decide +kernel) ?_
      refine j_iconst F (pc := 14) (n := 5) (v := 5) (by decide +kernel) (by decide +kernel) ?_
      obtain ⟨hg, h⟩ := z_ifs h
      obtain ⟨r1, hr2, h⟩ := Option.bind_eq_some_iff.mp h
      have hb3 := hk.rowAt hρ hr2
      refine j_aald F (pc := 15) (hk.s c_39) (by decide) hg hr2 (by decide +kernel) ?_
      refine j_iload_n F (pc := 16) (q := 1) (by decide +kernel) rfl ?_
      obtain ⟨hg, h⟩ := z_ifs h
      refine j_iald F (pc := 17) hb3 hg (by decide +kernel) ?_
      refine j_goto F (pc := 18) (off := 4) (tgt := 22) (by decide +kernel) (by decide) ?_
      exact j_iret (st := []) F Rt rfl (by decide +kernel) ⟨hρ, _, rfl, (congrArg Prod.fst (Option.some.inj h)).symm, (congrArg Prod.snd (Option.some.inj h)).symm⟩
/-- LastLent.paid -/
def f_X4_paid (x1 : Int32) (x2 : Int32) (x3 : Int32) (x4 : Int32) (μ : z_M) : Option (Int32 × z_M) :=
  (z_b2 (f_X4_isLand (x1) μ) fun r1 μ2 => (if r1 = 0 then (some ((-1001 : Int32), μ2)) else (z_b2 (f_X4_isClaim (x4) μ2) fun r8 μ9 => (if r8 = 0 then (some ((-1001 : Int32), μ9)) else (z_b2 (f_X4_isDay (x2) μ9) fun r15 μ16 => (if r15 = 0 then (some ((-1002 : Int32), μ16)) else (z_b2 (f_X4_isWay (x3) μ16) fun r22 μ23 => (if r22 = 0 then (some ((-1002 : Int32), μ23)) else (if z_in x1 4 then ((μ23.2.2 1 x1.toNatClampNeg).bind fun r29 => (z_b1 (f_X2_run (r29) (4) (x2) (x3) μ23) fun μ33 => (z_b2 (f_X2_paidTo (x4) μ33) fun r38 μ39 => (some (r38, μ39))))) else none)))))))))
set_option maxHeartbeats 4000000 in
set_option maxRecDepth 100000 in
theorem t_X4_paid {G : z_Gl} {ρ : Nat → Nat → Option Nat} {μ : z_M} {r : Int32} {μr : z_M} {x1 : Int32} {x2 : Int32} {x3 : Int32} {x4 : Int32} (hρ : μ.2.2 = ρ) (hk : z_ok (z_sh G) ρ) (h : f_X4_paid x1 x2 x3 x4 μ = some (r, μr)) : z_Ci G yX4_paid cX4_paid 5 (some .int) 5 [.ref 0, .int x1, .int x2, .int x3, .int x4] μ (fun r1 μ1 => r = r1 ∧ μr = μ1) := by
  unfold z_Ci
  refine z_intro (by decide +kernel) (Nat.le_of_ble_eq_true rfl) (fun E hE F Rt => ?_)
  subst hE
  have F : z_F E RX4 cX4_paid 5 5 := F
  rw [hρ] at Rt
  unfold f_X4_paid at h
  show z_J E 5 0 [some (.ref 0), some (.int x1), some (.int x2), some (.int x3), some (.int x4)] [] μ
  refine j_iload_n F (pc := 0) (q := 1) (by decide +kernel) rfl ?_
  obtain ⟨r1, μ2, hc4, h⟩ := z_b2_some h
  refine j_callSi F (pc := 1) (idx := 67) (As := [.int x1]) (st := []) (t_X4_isLand (G := E.1) hρ  hc4) q_X4_isLand m_387 m_386 rfl (by decide) (Nat.le_of_ble_eq_true rfl) rfl (by decide +kernel) (fun s7 ν5 hq6 hp => ?_)
  obtain ⟨rfl, rfl⟩ := hp
  have hρ3 : μ2.2.2 = ρ := hq6.trans hρ
  refine j_if_eq F (pc := 4) (off := 12) (tgt := 16) (by decide +kernel) (by decide) (fun c => ?_) (fun c => ?_)
  · rw [if_pos c] at h
    refine j_sipush F (pc := 16) (n := -1001) (v := -1001) (by decide +kernel) (by decide +kernel) ?_
    exact j_iret (st := []) F Rt rfl (by decide +kernel) ⟨hρ3, _, rfl, (congrArg Prod.fst (Option.some.inj h)).symm, (congrArg Prod.snd (Option.some.inj h)).symm⟩
  · rw [if_neg c] at h
    refine j_aload_n F (pc := 7) (q := 0) (by decide +kernel) rfl ?_
    refine j_iload F (pc := 8) (i := 4) (by decide +kernel) rfl ?_
    obtain ⟨r8, μ9, hc11, h⟩ := z_b2_some h
    refine j_callVi F (pc := 10) (idx := 148) (As := [.int x4]) (st := []) (t_X4_isClaim (G := E.1) hρ3 hk hc11) q_X4_isClaim v_X4_isClaim m_605 (hk.s c_0) rfl rfl (by decide) (Nat.le_of_ble_eq_true rfl) rfl (by decide +kernel) (fun s14 ν12 hq13 hp => ?_)
    obtain ⟨rfl, rfl⟩ := hp
    have hρ10 : μ9.2.2 = ρ := hq13.trans hρ3
    refine j_if_ne F (pc := 13) (off := 7) (tgt := 20) (by decide +kernel) (by decide) (fun c => ?_) (fun c => ?_)
    · rw [if_neg c] at h
      refine j_iload_n F (pc := 20) (q := 2) (by decide +kernel) rfl ?_
      obtain ⟨r15, μ16, hc18, h⟩ := z_b2_some h
      refine j_callSi F (pc := 21) (idx := 131) (As := [.int x2]) (st := []) (t_X4_isDay (G := E.1) hρ10  hc18) q_X4_isDay m_580 m_579 rfl (by decide) (Nat.le_of_ble_eq_true rfl) rfl (by decide +kernel) (fun s21 ν19 hq20 hp => ?_)
      obtain ⟨rfl, rfl⟩ := hp
      have hρ17 : μ16.2.2 = ρ := hq20.trans hρ10
      refine j_if_eq F (pc := 24) (off := 10) (tgt := 34) (by decide +kernel) (by decide) (fun c => ?_) (fun c => ?_)
      · rw [if_pos c] at h
        refine j_sipush F (pc := 34) (n := -1002) (v := -1002) (by decide +kernel) (by decide +kernel) ?_
        exact j_iret (st := []) F Rt rfl (by decide +kernel) ⟨hρ17, _, rfl, (congrArg Prod.fst (Option.some.inj h)).symm, (congrArg Prod.snd (Option.some.inj h)).symm⟩
      · rw [if_neg c] at h
        refine j_iload_n F (pc := 27) (q := 3) (by decide +kernel) rfl ?_
        obtain ⟨r22, μ23, hc25, h⟩ := z_b2_some h
        refine j_callSi F (pc := 28) (idx := 221) (As := [.int x3]) (st := []) (t_X4_isWay (G := E.1) hρ17  hc25) q_X4_isWay m_715 m_714 rfl (by decide) (Nat.le_of_ble_eq_true rfl) rfl (by decide +kernel) (fun s28 ν26 hq27 hp => ?_)
        obtain ⟨rfl, rfl⟩ := hp
        have hρ24 : μ23.2.2 = ρ := hq27.trans hρ17
        refine j_if_ne F (pc := 31) (off := 7) (tgt := 38) (by decide +kernel) (by decide) (fun c => ?_) (fun c => ?_)
        · rw [if_neg c] at h
          refine j_aload_n F (pc := 38) (q := 0) (by decide +kernel) rfl ?_
          refine j_getR F (pc := 39) (hk.r hρ24 r_0_6) fl_X4_43 (hk.s c_0) rfl (by decide +kernel) ?_
          refine j_aload_n F (pc := 42) (q := 0) (by decide +kernel) rfl ?_
          refine j_getR F (pc := 43) (hk.r hρ24 r_0_0) fl_X4_11 (hk.s c_0) rfl (by decide +kernel) ?_
          refine j_iload_n F (pc := 46) (q := 1) (by decide +kernel) rfl ?_
          obtain ⟨hg, h⟩ := z_ifs h
          obtain ⟨r29, hr30, h⟩ := Option.bind_eq_some_iff.mp h
          have hb31 := hk.lawsAt hρ24 hr30
          refine j_aald F (pc := 47) (hk.s c_1) (by decide) hg hr30 (by decide +kernel) ?_
          refine j_aload_n F (pc := 48) (q := 0) (by decide +kernel) rfl ?_
          refine j_getR F (pc := 49) (hk.r hρ24 r_0_2) fl_X4_25 (hk.s c_0) rfl (by decide +kernel) ?_
          refine j_iload_n F (pc := 52) (q := 2) (by decide +kernel) rfl ?_
          refine j_iload_n F (pc := 53) (q := 3) (by decide +kernel) rfl ?_
          obtain ⟨μ33, hc35, h⟩ := z_b1_some h
          refine j_callVv F (pc := 54) (idx := 224) (As := [.ref r29, .ref 4, .int x2, .int x3]) (st := []) (t_X2_run (G := E.1) hρ24 hk hb31 (hk.shipB (by decide : 4 ∈ z_SHIPS)) hc35) q_X2_run v_X2_run m_717 (hk.s c_28) rfl rfl (by decide) (Nat.le_of_ble_eq_true rfl) rfl (by decide +kernel) (fun ν36 hq37 hp => ?_)
          subst hp
          have hρ34 : μ33.2.2 = ρ := hq37.trans hρ24
          refine j_aload_n F (pc := 57) (q := 0) (by decide +kernel) rfl ?_
          refine j_getR F (pc := 58) (hk.r hρ34 r_0_6) fl_X4_43 (hk.s c_0) rfl (by decide +kernel) ?_
          refine j_iload F (pc := 61) (i := 4) (by decide +kernel) rfl ?_
          obtain ⟨r38, μ39, hc41, h⟩ := z_b2_some h
          refine j_callVi F (pc := 63) (idx := 228) (As := [.int x4]) (st := []) (t_X2_paidTo (G := E.1) hρ34 hk hc41) q_X2_paidTo v_X2_paidTo m_762 (hk.s c_28) rfl rfl (by decide) (Nat.le_of_ble_eq_true rfl) rfl (by decide +kernel) (fun s44 ν42 hq43 hp => ?_)
          obtain ⟨rfl, rfl⟩ := hp
          have hρ40 : μ39.2.2 = ρ := hq43.trans hρ34
          exact j_iret (st := []) F Rt rfl (by decide +kernel) ⟨hρ40, _, rfl, (congrArg Prod.fst (Option.some.inj h)).symm, (congrArg Prod.snd (Option.some.inj h)).symm⟩
        · rw [if_pos c] at h
          refine j_sipush F (pc := 34) (n := -1002) (v := -1002) (by decide +kernel) (by decide +kernel) ?_
          exact j_iret (st := []) F Rt rfl (by decide +kernel) ⟨hρ24, _, rfl, (congrArg Prod.fst (Option.some.inj h)).symm, (congrArg Prod.snd (Option.some.inj h)).symm⟩
    · rw [if_pos c] at h
      refine j_sipush F (pc := 16) (n := -1001) (v := -1001) (by decide +kernel) (by decide +kernel) ?_
      exact j_iret (st := []) F Rt rfl (by decide +kernel) ⟨hρ10, _, rfl, (congrArg Prod.fst (Option.some.inj h)).symm, (congrArg Prod.snd (Option.some.inj h)).symm⟩
/-- LastLent.left -/
def f_X4_left (x1 : Int32) (x2 : Int32) (x3 : Int32) (x4 : Int32) (μ : z_M) : Option (Int32 × z_M) :=
  (z_b2 (f_X4_isLand (x1) μ) fun r1 μ2 => (if r1 = 0 then (some ((-1001 : Int32), μ2)) else (z_b2 (f_X4_isFund (x4) μ2) fun r8 μ9 => (if r8 = 0 then (some ((-1001 : Int32), μ9)) else (z_b2 (f_X4_isDay (x2) μ9) fun r15 μ16 => (if r15 = 0 then (some ((-1002 : Int32), μ16)) else (z_b2 (f_X4_isWay (x3) μ16) fun r22 μ23 => (if r22 = 0 then (some ((-1002 : Int32), μ23)) else (if z_in x1 4 then ((μ23.2.2 1 x1.toNatClampNeg).bind fun r29 => (z_b1 (f_X2_run (r29) (4) (x2) (x3) μ23) fun μ33 => (if z_in x4 5 then (some ((μ33.1 36 x4.toNatClampNeg), μ33)) else none))) else none)))))))))
set_option maxHeartbeats 4000000 in
set_option maxRecDepth 100000 in
theorem t_X4_left {G : z_Gl} {ρ : Nat → Nat → Option Nat} {μ : z_M} {r : Int32} {μr : z_M} {x1 : Int32} {x2 : Int32} {x3 : Int32} {x4 : Int32} (hρ : μ.2.2 = ρ) (hk : z_ok (z_sh G) ρ) (h : f_X4_left x1 x2 x3 x4 μ = some (r, μr)) : z_Ci G yX4_left cX4_left 5 (some .int) 5 [.ref 0, .int x1, .int x2, .int x3, .int x4] μ (fun r1 μ1 => r = r1 ∧ μr = μ1) := by
  unfold z_Ci
  refine z_intro (by decide +kernel) (Nat.le_of_ble_eq_true rfl) (fun E hE F Rt => ?_)
  subst hE
  have F : z_F E RX4 cX4_left 5 5 := F
  rw [hρ] at Rt
  unfold f_X4_left at h
  show z_J E 5 0 [some (.ref 0), some (.int x1), some (.int x2), some (.int x3), some (.int x4)] [] μ
  refine j_iload_n F (pc := 0) (q := 1) (by decide +kernel) rfl ?_
  obtain ⟨r1, μ2, hc4, h⟩ := z_b2_some h
  refine j_callSi F (pc := 1) (idx := 67) (As := [.int x1]) (st := []) (t_X4_isLand (G := E.1) hρ  hc4) q_X4_isLand m_387 m_386 rfl (by decide) (Nat.le_of_ble_eq_true rfl) rfl (by decide +kernel) (fun s7 ν5 hq6 hp => ?_)
  obtain ⟨rfl, rfl⟩ := hp
  have hρ3 : μ2.2.2 = ρ := hq6.trans hρ
  refine j_if_eq F (pc := 4) (off := 11) (tgt := 15) (by decide +kernel) (by decide) (fun c => ?_) (fun c => ?_)
  · rw [if_pos c] at h
    refine j_sipush F (pc := 15) (n := -1001) (v := -1001) (by decide +kernel) (by decide +kernel) ?_
    exact j_iret (st := []) F Rt rfl (by decide +kernel) ⟨hρ3, _, rfl, (congrArg Prod.fst (Option.some.inj h)).symm, (congrArg Prod.snd (Option.some.inj h)).symm⟩
  · rw [if_neg c] at h
    refine j_iload F (pc := 7) (i := 4) (by decide +kernel) rfl ?_
    obtain ⟨r8, μ9, hc11, h⟩ := z_b2_some h
    refine j_callSi F (pc := 9) (idx := 154) (As := [.int x4]) (st := []) (t_X4_isFund (G := E.1) hρ3  hc11) q_X4_isFund m_614 m_613 rfl (by decide) (Nat.le_of_ble_eq_true rfl) rfl (by decide +kernel) (fun s14 ν12 hq13 hp => ?_)
    obtain ⟨rfl, rfl⟩ := hp
    have hρ10 : μ9.2.2 = ρ := hq13.trans hρ3
    refine j_if_ne F (pc := 12) (off := 7) (tgt := 19) (by decide +kernel) (by decide) (fun c => ?_) (fun c => ?_)
    · rw [if_neg c] at h
      refine j_iload_n F (pc := 19) (q := 2) (by decide +kernel) rfl ?_
      obtain ⟨r15, μ16, hc18, h⟩ := z_b2_some h
      refine j_callSi F (pc := 20) (idx := 131) (As := [.int x2]) (st := []) (t_X4_isDay (G := E.1) hρ10  hc18) q_X4_isDay m_580 m_579 rfl (by decide) (Nat.le_of_ble_eq_true rfl) rfl (by decide +kernel) (fun s21 ν19 hq20 hp => ?_)
      obtain ⟨rfl, rfl⟩ := hp
      have hρ17 : μ16.2.2 = ρ := hq20.trans hρ10
      refine j_if_eq F (pc := 23) (off := 10) (tgt := 33) (by decide +kernel) (by decide) (fun c => ?_) (fun c => ?_)
      · rw [if_pos c] at h
        refine j_sipush F (pc := 33) (n := -1002) (v := -1002) (by decide +kernel) (by decide +kernel) ?_
        exact j_iret (st := []) F Rt rfl (by decide +kernel) ⟨hρ17, _, rfl, (congrArg Prod.fst (Option.some.inj h)).symm, (congrArg Prod.snd (Option.some.inj h)).symm⟩
      · rw [if_neg c] at h
        refine j_iload_n F (pc := 26) (q := 3) (by decide +kernel) rfl ?_
        obtain ⟨r22, μ23, hc25, h⟩ := z_b2_some h
        refine j_callSi F (pc := 27) (idx := 221) (As := [.int x3]) (st := []) (t_X4_isWay (G := E.1) hρ17  hc25) q_X4_isWay m_715 m_714 rfl (by decide) (Nat.le_of_ble_eq_true rfl) rfl (by decide +kernel) (fun s28 ν26 hq27 hp => ?_)
        obtain ⟨rfl, rfl⟩ := hp
        have hρ24 : μ23.2.2 = ρ := hq27.trans hρ17
        refine j_if_ne F (pc := 30) (off := 7) (tgt := 37) (by decide +kernel) (by decide) (fun c => ?_) (fun c => ?_)
        · rw [if_neg c] at h
          refine j_aload_n F (pc := 37) (q := 0) (by decide +kernel) rfl ?_
          refine j_getR F (pc := 38) (hk.r hρ24 r_0_6) fl_X4_43 (hk.s c_0) rfl (by decide +kernel) ?_
          refine j_aload_n F (pc := 41) (q := 0) (by decide +kernel) rfl ?_
          refine j_getR F (pc := 42) (hk.r hρ24 r_0_0) fl_X4_11 (hk.s c_0) rfl (by decide +kernel) ?_
          refine j_iload_n F (pc := 45) (q := 1) (by decide +kernel) rfl ?_
          obtain ⟨hg, h⟩ := z_ifs h
          obtain ⟨r29, hr30, h⟩ := Option.bind_eq_some_iff.mp h
          have hb31 := hk.lawsAt hρ24 hr30
          refine j_aald F (pc := 46) (hk.s c_1) (by decide) hg hr30 (by decide +kernel) ?_
          refine j_aload_n F (pc := 47) (q := 0) (by decide +kernel) rfl ?_
          refine j_getR F (pc := 48) (hk.r hρ24 r_0_2) fl_X4_25 (hk.s c_0) rfl (by decide +kernel) ?_
          refine j_iload_n F (pc := 51) (q := 2) (by decide +kernel) rfl ?_
          refine j_iload_n F (pc := 52) (q := 3) (by decide +kernel) rfl ?_
          obtain ⟨μ33, hc35, h⟩ := z_b1_some h
          refine j_callVv F (pc := 53) (idx := 224) (As := [.ref r29, .ref 4, .int x2, .int x3]) (st := []) (t_X2_run (G := E.1) hρ24 hk hb31 (hk.shipB (by decide : 4 ∈ z_SHIPS)) hc35) q_X2_run v_X2_run m_717 (hk.s c_28) rfl rfl (by decide) (Nat.le_of_ble_eq_true rfl) rfl (by decide +kernel) (fun ν36 hq37 hp => ?_)
          subst hp
          have hρ34 : μ33.2.2 = ρ := hq37.trans hρ24
          refine j_aload_n F (pc := 56) (q := 0) (by decide +kernel) rfl ?_
          refine j_getR F (pc := 57) (hk.r hρ34 r_0_6) fl_X4_43 (hk.s c_0) rfl (by decide +kernel) ?_
          refine j_getR F (pc := 60) (hk.r hρ34 r_28_9) fl_X4_231 (hk.s c_28) rfl (by decide +kernel) ?_
          refine j_iload F (pc := 63) (i := 4) (by decide +kernel) rfl ?_
          obtain ⟨hg, h⟩ := z_ifs h
          refine j_iald F (pc := 65) (hk.s c_36) hg (by decide +kernel) ?_
          exact j_iret (st := []) F Rt rfl (by decide +kernel) ⟨hρ34, _, rfl, (congrArg Prod.fst (Option.some.inj h)).symm, (congrArg Prod.snd (Option.some.inj h)).symm⟩
        · rw [if_pos c] at h
          refine j_sipush F (pc := 33) (n := -1002) (v := -1002) (by decide +kernel) (by decide +kernel) ?_
          exact j_iret (st := []) F Rt rfl (by decide +kernel) ⟨hρ24, _, rfl, (congrArg Prod.fst (Option.some.inj h)).symm, (congrArg Prod.snd (Option.some.inj h)).symm⟩
    · rw [if_pos c] at h
      refine j_sipush F (pc := 15) (n := -1001) (v := -1001) (by decide +kernel) (by decide +kernel) ?_
      exact j_iret (st := []) F Rt rfl (by decide +kernel) ⟨hρ10, _, rfl, (congrArg Prod.fst (Option.some.inj h)).symm, (congrArg Prod.snd (Option.some.inj h)).symm⟩
def g_X2_holding_46 (o1 : Nat)  : Nat → Int32 → Int32 → Int32 → z_M → Option (Int32 × z_M)
  | 0, _, _, _, _ => none
  | n + 1, x2, x3, x4, μ => (if (3 : Int32) ≤ x4 then (some (x3, μ)) else (if z_in x4 3 then (if (μ.1 (o1 + 10) x4.toNatClampNeg) = x2 then (if z_in ((2 : Int32) + x4) 5 then (z_lt (x3 + (μ.1 36 ((2 : Int32) + x4).toNatClampNeg)) fun x_1 => (g_X2_holding_46 o1  n (x2) (x_1) ((x4 + (1 : Int32))) μ)) else none) else (g_X2_holding_46 o1  n (x2) (x3) ((x4 + (1 : Int32))) μ)) else none))
def g_X2_holding_5 (o1 : Nat)  : Nat → Int32 → Int32 → Int32 → z_M → Option (Int32 × z_M)
  | 0, _, _, _, _ => none
  | n + 1, x2, x3, x4, μ => (if (μ.1 28 2) ≤ x4 then (g_X2_holding_46 o1  z_N (x2) (x3) ((0 : Int32)) μ) else (if z_in x4 14 then (if (μ.1 (o1 + 4) x4.toNatClampNeg) = x2 then (if z_in (5 : Int32) 6 then ((μ.2.2 39 (5 : Int32).toNatClampNeg).bind fun r3 => (if z_in x4 14 then (z_lt (x3 + (μ.1 r3 x4.toNatClampNeg)) fun x_6 => (g_X2_holding_5 o1  n (x2) (x_6) ((x4 + (1 : Int32))) μ)) else none)) else none) else (g_X2_holding_5 o1  n (x2) (x3) ((x4 + (1 : Int32))) μ)) else none))
def f_X2_holding (o1 : Nat) (x2 : Int32) (μ : z_M) : Option (Int32 × z_M) :=
  (g_X2_holding_5 o1  z_N (x2) ((0 : Int32)) ((0 : Int32)) μ)
set_option maxHeartbeats 4000000 in
set_option maxRecDepth 100000 in
theorem u_X2_holding_46 {E : z_E} {ρ : Nat → Nat → Option Nat} {r : Int32} {μr : z_M} (F : z_F E RX2 cX2_holding 5 0) (Rt : z_R E (some .int) (fun v μ1 => μ1.2.2 = ρ ∧ ∃ r1, v = some (.int r1) ∧ r = r1 ∧ μr = μ1)) {o1 : Nat} (hk : z_ok (z_sh E.1) ρ) (hb1 : z_blk z_shipS z_shipR (z_sh E.1) ρ o1) : ∀ (n : Nat) (x2 : Int32) (x3 : Int32) (x4 : Int32) (μ : z_M), μ.2.2 = ρ → g_X2_holding_46 o1  n x2 x3 x4 μ = some (r, μr) → z_J E 5 46 [some (.ref 28), some (.ref o1), some (.int x2), some (.int x3), some (.int x4)] [] μ := by
  intro n
  induction n with
  | zero =>
    intro x2 x3 x4 μ hρ h
    rw [g_X2_holding_46] at h
    cases h
  | succ n ih =>
    intro x2 x3 x4 μ hρ h
    rw [g_X2_holding_46] at h
    refine j_iload F (pc := 46) (i := 4) (by decide +kernel) rfl ?_
    refine j_iconst F (pc := 48) (n := 3) (v := 3) (by decide +kernel) (by decide +kernel) ?_
    refine j_icmp_ge F (pc := 49) (off := 32) (tgt := 81) (by decide +kernel) (by decide) (fun c => ?_) (fun c => ?_)
    · rw [if_pos c] at h
      refine j_iload_n F (pc := 81) (q := 3) (by decide +kernel) rfl ?_
      exact j_iret (st := []) F Rt rfl (by decide +kernel) ⟨hρ, _, rfl, (congrArg Prod.fst (Option.some.inj h)).symm, (congrArg Prod.snd (Option.some.inj h)).symm⟩
    · rw [if_neg c] at h
      refine j_aload_n F (pc := 52) (q := 1) (by decide +kernel) rfl ?_
      refine j_getR F (pc := 53) (hb1.r hρ 12 rfl) fl_X2_146 (hb1.1 0 _ rfl) rfl (by decide +kernel) ?_
      refine j_iload F (pc := 56) (i := 4) (by decide +kernel) rfl ?_
      obtain ⟨hg, h⟩ := z_ifs h
      refine j_iald F (pc := 58) (hb1.1 10 _ rfl) hg (by decide +kernel) ?_
      refine j_iload_n F (pc := 59) (q := 2) (by decide +kernel) rfl ?_
      refine j_icmp_ne F (pc := 60) (off := 15) (tgt := 75) (by decide +kernel) (by decide) (fun c => ?_) (fun c => ?_)
      · rw [if_neg c] at h
        refine j_iinc F (pc := 75) (i := 4) (n := 1) (v := 1) (L' := [some (.ref 28), some (.ref o1), some (.int x2), some (.int x3), some (.int (x4 + (1 : Int32)))]) (by decide +kernel) rfl (by decide +kernel) (by decide) rfl rfl ?_
        refine j_goto F (pc := 78) (off := -32) (tgt := 46) (by decide +kernel) (by decide) ?_
        exact ih _ _ _ _ hρ h
      · rw [if_pos c] at h
        refine j_iload_n F (pc := 63) (q := 3) (by decide +kernel) rfl ?_
        refine j_aload_n F (pc := 64) (q := 0) (by decide +kernel) rfl ?_
        refine j_getR F (pc := 65) (hk.r hρ r_28_9) fl_X2_33 (hk.s c_28) rfl (by decide +kernel) ?_
        refine j_iconst F (pc := 68) (n := 2) (v := 2) (by decide +kernel) (by decide +kernel) ?_
        refine j_iload F (pc := 69) (i := 4) (by decide +kernel) rfl ?_
        refine j_iadd F (pc := 71) (by decide +kernel) ?_
        obtain ⟨hg, h⟩ := z_ifs h
        refine j_iald F (pc := 72) (hk.s c_36) hg (by decide +kernel) ?_
        refine j_iadd F (pc := 73) (by decide +kernel) ?_
        obtain ⟨x_1, e2, h⟩ := z_lt_some h
        rw [← e2]
        refine j_istore_n F (pc := 74) (q := 3) (L' := [some (.ref 28), some (.ref o1), some (.int x2), some (.int x_1), some (.int x4)]) (by decide +kernel) (by decide) rfl rfl ?_
        refine j_iinc F (pc := 75) (i := 4) (n := 1) (v := 1) (L' := [some (.ref 28), some (.ref o1), some (.int x2), some (.int x_1), some (.int (x4 + (1 : Int32)))]) (by decide +kernel) rfl (by decide +kernel) (by decide) rfl rfl ?_
        refine j_goto F (pc := 78) (off := -32) (tgt := 46) (by decide +kernel) (by decide) ?_
        exact ih _ _ _ _ hρ h
set_option maxHeartbeats 4000000 in
set_option maxRecDepth 100000 in
theorem u_X2_holding_5 {E : z_E} {ρ : Nat → Nat → Option Nat} {r : Int32} {μr : z_M} (F : z_F E RX2 cX2_holding 5 0) (Rt : z_R E (some .int) (fun v μ1 => μ1.2.2 = ρ ∧ ∃ r1, v = some (.int r1) ∧ r = r1 ∧ μr = μ1)) {o1 : Nat} (hk : z_ok (z_sh E.1) ρ) (hb1 : z_blk z_shipS z_shipR (z_sh E.1) ρ o1) : ∀ (n : Nat) (x2 : Int32) (x3 : Int32) (x4 : Int32) (μ : z_M), μ.2.2 = ρ → g_X2_holding_5 o1  n x2 x3 x4 μ = some (r, μr) → z_J E 5 5 [some (.ref 28), some (.ref o1), some (.int x2), some (.int x3), some (.int x4)] [] μ := by
  intro n
  induction n with
  | zero =>
    intro x2 x3 x4 μ hρ h
    rw [g_X2_holding_5] at h
    cases h
  | succ n ih =>
    intro x2 x3 x4 μ hρ h
    rw [g_X2_holding_5] at h
    refine j_iload F (pc := 5) (i := 4) (by decide +kernel) rfl ?_
    refine j_aload_n F (pc := 7) (q := 0) (by decide +kernel) rfl ?_
    refine j_getI F (pc := 8) fl_X2_92 (hk.s c_28) rfl (by decide +kernel) ?_
    refine j_icmp_ge F (pc := 11) (off := 32) (tgt := 43) (by decide +kernel) (by decide) (fun c => ?_) (fun c => ?_)
    · rw [if_pos c] at h
      refine j_iconst F (pc := 43) (n := 0) (v := 0) (by decide +kernel) (by decide +kernel) ?_
      refine j_istore F (pc := 44) (i := 4) (L' := [some (.ref 28), some (.ref o1), some (.int x2), some (.int x3), some (.int (0 : Int32))]) (by decide +kernel) (by decide) rfl rfl ?_
      refine u_X2_holding_46 F Rt hk hb1  z_N _ _ _ _ hρ h
    · rw [if_neg c] at h
      refine j_aload_n F (pc := 14) (q := 1) (by decide +kernel) rfl ?_
      refine j_getR F (pc := 15) (hb1.r hρ 6 rfl) fl_X2_143 (hb1.1 0 _ rfl) rfl (by decide +kernel) ?_
      refine j_iload F (pc := 18) (i := 4) (by decide +kernel) rfl ?_
      obtain ⟨hg, h⟩ := z_ifs h
      refine j_iald F (pc := 20) (hb1.1 4 _ rfl) hg (by decide +kernel) ?_
      refine j_iload_n F (pc := 21) (q := 2) (by decide +kernel) rfl ?_
      refine j_icmp_ne F (pc := 22) (off := 15) (tgt := 37) (by decide +kernel) (by decide) (fun c => ?_) (fun c => ?_)
      · rw [if_neg c] at h
        refine j_iinc F (pc := 37) (i := 4) (n := 1) (v := 1) (L' := [some (.ref 28), some (.ref o1), some (.int x2), some (.int x3), some (.int (x4 + (1 : Int32)))]) (by decide +kernel) rfl (by decide +kernel) (by decide) rfl rfl ?_
        refine j_goto F (pc := 40) (off := -35) (tgt := 5) (by decide +kernel) (by decide) ?_
        exact ih _ _ _ _ hρ h
      · rw [if_pos c] at h
        refine j_iload_n F (pc := 25) (q := 3) (by decide +kernel) rfl ?_
        refine j_aload_n F (pc := 26) (q := 0) (by decide +kernel) rfl ?_
        refine j_getR F (pc := 27) (hk.r hρ r_28_12) fl_X2_44 (hk.s c_28) rfl (by decide +kernel) ?_
        refine j_iconst F (pc := 30) (n := 5) (v := 5) (by decide +kernel) (by decide +kernel) ?_
        obtain ⟨hg, h⟩ := z_ifs h
        obtain ⟨r3, hr4, h⟩ := Option.bind_eq_some_iff.mp h
        have hb5 := hk.rowAt hρ hr4
        refine j_aald F (pc := 31) (hk.s c_39) (by decide) hg hr4 (by decide +kernel) ?_
        refine j_iload F (pc := 32) (i := 4) (by decide +kernel) rfl ?_
        obtain ⟨hg, h⟩ := z_ifs h
        refine j_iald F (pc := 34) hb5 hg (by decide +kernel) ?_
        refine j_iadd F (pc := 35) (by decide +kernel) ?_
        obtain ⟨x_6, e7, h⟩ := z_lt_some h
        rw [← e7]
        refine j_istore_n F (pc := 36) (q := 3) (L' := [some (.ref 28), some (.ref o1), some (.int x2), some (.int x_6), some (.int x4)]) (by decide +kernel) (by decide) rfl rfl ?_
        refine j_iinc F (pc := 37) (i := 4) (n := 1) (v := 1) (L' := [some (.ref 28), some (.ref o1), some (.int x2), some (.int x_6), some (.int (x4 + (1 : Int32)))]) (by decide +kernel) rfl (by decide +kernel) (by decide) rfl rfl ?_
        refine j_goto F (pc := 40) (off := -35) (tgt := 5) (by decide +kernel) (by decide) ?_
        exact ih _ _ _ _ hρ h
set_option maxHeartbeats 4000000 in
set_option maxRecDepth 100000 in
theorem t_X2_holding {G : z_Gl} {ρ : Nat → Nat → Option Nat} {μ : z_M} {r : Int32} {μr : z_M} {o1 : Nat} {x2 : Int32} (hρ : μ.2.2 = ρ) (hk : z_ok (z_sh G) ρ) (hb1 : z_blk z_shipS z_shipR (z_sh G) ρ o1) (h : f_X2_holding o1 x2 μ = some (r, μr)) : z_Ci G yX2_holding cX2_holding 5 (some .int) 0 [.ref 28, .ref o1, .int x2] μ (fun r1 μ1 => r = r1 ∧ μr = μ1) := by
  unfold z_Ci
  refine z_intro (by decide +kernel) (Nat.le_of_ble_eq_true rfl) (fun E hE F Rt => ?_)
  subst hE
  have F : z_F E RX2 cX2_holding 5 0 := F
  rw [hρ] at Rt
  unfold f_X2_holding at h
  show z_J E 5 0 [some (.ref 28), some (.ref o1), some (.int x2), none, none] [] μ
  refine j_iconst F (pc := 0) (n := 0) (v := 0) (by decide +kernel) (by decide +kernel) ?_
  refine j_istore_n F (pc := 1) (q := 3) (L' := [some (.ref 28), some (.ref o1), some (.int x2), some (.int (0 : Int32)), none]) (by decide +kernel) (by decide) rfl rfl ?_
  refine j_iconst F (pc := 2) (n := 0) (v := 0) (by decide +kernel) (by decide +kernel) ?_
  refine j_istore F (pc := 3) (i := 4) (L' := [some (.ref 28), some (.ref o1), some (.int x2), some (.int (0 : Int32)), some (.int (0 : Int32))]) (by decide +kernel) (by decide) rfl rfl ?_
  refine u_X2_holding_5 F Rt hk hb1  z_N _ _ _ _ hρ h
/-- LastLent$PayOut.paidInAll -/
def f_X2_paidInAll  (μ : z_M) : Option (Int32 × z_M) :=
  (if z_in (5 : Int32) 6 then (some ((μ.1 46 (5 : Int32).toNatClampNeg), μ)) else none)
set_option maxHeartbeats 4000000 in
set_option maxRecDepth 100000 in
theorem t_X2_paidInAll {G : z_Gl} {ρ : Nat → Nat → Option Nat} {μ : z_M} {r : Int32} {μr : z_M}  (hρ : μ.2.2 = ρ) (hk : z_ok (z_sh G) ρ) (h : f_X2_paidInAll  μ = some (r, μr)) : z_Ci G yX2_paidInAll cX2_paidInAll 1 (some .int) 0 [.ref 28] μ (fun r1 μ1 => r = r1 ∧ μr = μ1) := by
  unfold z_Ci
  refine z_intro (by decide +kernel) (Nat.le_of_ble_eq_true rfl) (fun E hE F Rt => ?_)
  subst hE
  have F : z_F E RX2 cX2_paidInAll 1 0 := F
  rw [hρ] at Rt
  unfold f_X2_paidInAll at h
  show z_J E 1 0 [some (.ref 28)] [] μ
  refine j_aload_n F (pc := 0) (q := 0) (by decide +kernel) rfl ?_
  refine j_getR F (pc := 1) (hk.r hρ r_28_13) fl_X2_47 (hk.s c_28) rfl (by decide +kernel) ?_
  refine j_iconst F (pc := 4) (n := 5) (v := 5) (by decide +kernel) (by decide +kernel) ?_
  obtain ⟨hg, h⟩ := z_ifs h
  refine j_iald F (pc := 5) (hk.s c_46) hg (by decide +kernel) ?_
  exact j_iret (st := []) F Rt rfl (by decide +kernel) ⟨hρ, _, rfl, (congrArg Prod.fst (Option.some.inj h)).symm, (congrArg Prod.snd (Option.some.inj h)).symm⟩
def g_X4_has_25   (x1 : Int32) (x2 : Int32) (x3 : Int32) (x4 : Int32) (μ : z_M) : Option (Int32 × z_M) :=
  (z_b2 (f_X4_isDay (x2) μ) fun r8 μ9 => (if r8 = 0 then (some ((-1002 : Int32), μ9)) else (z_b2 (f_X4_isWay (x3) μ9) fun r15 μ16 => (if r15 = 0 then (some ((-1002 : Int32), μ16)) else (if z_in x1 4 then ((μ16.2.2 1 x1.toNatClampNeg).bind fun r22 => (z_b1 (f_X2_run (r22) (4) (x2) (x3) μ16) fun μ26 => (if x4 = (-1 : Int32) then (z_b2 (f_X2_paidInAll  μ26) fun r38 μ39 => (some (r38, μ39))) else (z_b2 (f_X2_holding (4) (x4) μ26) fun r31 μ32 => (some (r31, μ32)))))) else none)))))
def f_X4_has (x1 : Int32) (x2 : Int32) (x3 : Int32) (x4 : Int32) (μ : z_M) : Option (Int32 × z_M) :=
  (z_b2 (f_X4_isLand (x1) μ) fun r1 μ2 => (if r1 = 0 then (some ((-1001 : Int32), μ2)) else (if x4 = (-1 : Int32) then (g_X4_has_25   (x1) (x2) (x3) (x4) μ2) else (z_b2 (f_X4_isHolder (x4) μ2) fun r45 μ46 => (if r45 = 0 then (some ((-1001 : Int32), μ46)) else (g_X4_has_25   (x1) (x2) (x3) (x4) μ46))))))
set_option maxHeartbeats 4000000 in
set_option maxRecDepth 100000 in
theorem u_X4_has_25 {E : z_E} {ρ : Nat → Nat → Option Nat} {r : Int32} {μr : z_M} (F : z_F E RX4 cX4_has 5 5) (Rt : z_R E (some .int) (fun v μ1 => μ1.2.2 = ρ ∧ ∃ r1, v = some (.int r1) ∧ r = r1 ∧ μr = μ1))  (hk : z_ok (z_sh E.1) ρ) : ∀ (x1 : Int32) (x2 : Int32) (x3 : Int32) (x4 : Int32) (μ : z_M), μ.2.2 = ρ → g_X4_has_25   x1 x2 x3 x4 μ = some (r, μr) → z_J E 5 25 [some (.ref 0), some (.int x1), some (.int x2), some (.int x3), some (.int x4)] [] μ := by
  intro x1 x2 x3 x4 μ hρ h
  unfold g_X4_has_25 at h
  refine j_iload_n F (pc := 25) (q := 2) (by decide +kernel) rfl ?_
  obtain ⟨r8, μ9, hc11, h⟩ := z_b2_some h
  refine j_callSi F (pc := 26) (idx := 131) (As := [.int x2]) (st := []) (t_X4_isDay (G := E.1) hρ  hc11) q_X4_isDay m_580 m_579 rfl (by decide) (Nat.le_of_ble_eq_true rfl) rfl (by decide +kernel) (fun s14 ν12 hq13 hp => ?_)
  obtain ⟨rfl, rfl⟩ := hp
  have hρ10 : μ9.2.2 = ρ := hq13.trans hρ
  refine j_if_eq F (pc := 29) (off := 10) (tgt := 39) (by decide +kernel) (by decide) (fun c => ?_) (fun c => ?_)
  · rw [if_pos c] at h
    refine j_sipush F (pc := 39) (n := -1002) (v := -1002) (by decide +kernel) (by decide +kernel) ?_
    exact j_iret (st := []) F Rt rfl (by decide +kernel) ⟨hρ10, _, rfl, (congrArg Prod.fst (Option.some.inj h)).symm, (congrArg Prod.snd (Option.some.inj h)).symm⟩
  · rw [if_neg c] at h
    refine j_iload_n F (pc := 32) (q := 3) (by decide +kernel) rfl ?_
    obtain ⟨r15, μ16, hc18, h⟩ := z_b2_some h
    refine j_callSi F (pc := 33) (idx := 221) (As := [.int x3]) (st := []) (t_X4_isWay (G := E.1) hρ10  hc18) q_X4_isWay m_715 m_714 rfl (by decide) (Nat.le_of_ble_eq_true rfl) rfl (by decide +kernel) (fun s21 ν19 hq20 hp => ?_)
    obtain ⟨rfl, rfl⟩ := hp
    have hρ17 : μ16.2.2 = ρ := hq20.trans hρ10
    refine j_if_ne F (pc := 36) (off := 7) (tgt := 43) (by decide +kernel) (by decide) (fun c => ?_) (fun c => ?_)
    · rw [if_neg c] at h
      refine j_aload_n F (pc := 43) (q := 0) (by decide +kernel) rfl ?_
      refine j_getR F (pc := 44) (hk.r hρ17 r_0_6) fl_X4_43 (hk.s c_0) rfl (by decide +kernel) ?_
      refine j_aload_n F (pc := 47) (q := 0) (by decide +kernel) rfl ?_
      refine j_getR F (pc := 48) (hk.r hρ17 r_0_0) fl_X4_11 (hk.s c_0) rfl (by decide +kernel) ?_
      refine j_iload_n F (pc := 51) (q := 1) (by decide +kernel) rfl ?_
      obtain ⟨hg, h⟩ := z_ifs h
      obtain ⟨r22, hr23, h⟩ := Option.bind_eq_some_iff.mp h
      have hb24 := hk.lawsAt hρ17 hr23
      refine j_aald F (pc := 52) (hk.s c_1) (by decide) hg hr23 (by decide +kernel) ?_
      refine j_aload_n F (pc := 53) (q := 0) (by decide +kernel) rfl ?_
      refine j_getR F (pc := 54) (hk.r hρ17 r_0_2) fl_X4_25 (hk.s c_0) rfl (by decide +kernel) ?_
      refine j_iload_n F (pc := 57) (q := 2) (by decide +kernel) rfl ?_
      refine j_iload_n F (pc := 58) (q := 3) (by decide +kernel) rfl ?_
      obtain ⟨μ26, hc28, h⟩ := z_b1_some h
      refine j_callVv F (pc := 59) (idx := 224) (As := [.ref r22, .ref 4, .int x2, .int x3]) (st := []) (t_X2_run (G := E.1) hρ17 hk hb24 (hk.shipB (by decide : 4 ∈ z_SHIPS)) hc28) q_X2_run v_X2_run m_717 (hk.s c_28) rfl rfl (by decide) (Nat.le_of_ble_eq_true rfl) rfl (by decide +kernel) (fun ν29 hq30 hp => ?_)
      subst hp
      have hρ27 : μ26.2.2 = ρ := hq30.trans hρ17
      refine j_iload F (pc := 62) (i := 4) (by decide +kernel) rfl ?_
      refine j_iconst F (pc := 64) (n := -1) (v := -1) (by decide +kernel) (by decide +kernel) ?_
      refine j_icmp_ne F (pc := 65) (off := 13) (tgt := 78) (by decide +kernel) (by decide) (fun c => ?_) (fun c => ?_)
      · rw [if_neg c] at h
        refine j_aload_n F (pc := 78) (q := 0) (by decide +kernel) rfl ?_
        refine j_getR F (pc := 79) (hk.r hρ27 r_0_6) fl_X4_43 (hk.s c_0) rfl (by decide +kernel) ?_
        refine j_aload_n F (pc := 82) (q := 0) (by decide +kernel) rfl ?_
        refine j_getR F (pc := 83) (hk.r hρ27 r_0_2) fl_X4_25 (hk.s c_0) rfl (by decide +kernel) ?_
        refine j_iload F (pc := 86) (i := 4) (by decide +kernel) rfl ?_
        obtain ⟨r31, μ32, hc34, h⟩ := z_b2_some h
        refine j_callVi F (pc := 88) (idx := 237) (As := [.ref 4, .int x4]) (st := []) (t_X2_holding (G := E.1) hρ27 hk (hk.shipB (by decide : 4 ∈ z_SHIPS)) hc34) q_X2_holding v_X2_holding m_778 (hk.s c_28) rfl rfl (by decide) (Nat.le_of_ble_eq_true rfl) rfl (by decide +kernel) (fun s37 ν35 hq36 hp => ?_)
        obtain ⟨rfl, rfl⟩ := hp
        have hρ33 : μ32.2.2 = ρ := hq36.trans hρ27
        exact j_iret (st := []) F Rt rfl (by decide +kernel) ⟨hρ33, _, rfl, (congrArg Prod.fst (Option.some.inj h)).symm, (congrArg Prod.snd (Option.some.inj h)).symm⟩
      · rw [if_pos c] at h
        refine j_aload_n F (pc := 68) (q := 0) (by decide +kernel) rfl ?_
        refine j_getR F (pc := 69) (hk.r hρ27 r_0_6) fl_X4_43 (hk.s c_0) rfl (by decide +kernel) ?_
        obtain ⟨r38, μ39, hc41, h⟩ := z_b2_some h
        refine j_callVi F (pc := 72) (idx := 234) (As := []) (st := []) (t_X2_paidInAll (G := E.1) hρ27 hk hc41) q_X2_paidInAll v_X2_paidInAll m_774 (hk.s c_28) rfl rfl (by decide) (Nat.le_of_ble_eq_true rfl) rfl (by decide +kernel) (fun s44 ν42 hq43 hp => ?_)
        obtain ⟨rfl, rfl⟩ := hp
        have hρ40 : μ39.2.2 = ρ := hq43.trans hρ27
        refine j_goto F (pc := 75) (off := 16) (tgt := 91) (by decide +kernel) (by decide) ?_
        exact j_iret (st := []) F Rt rfl (by decide +kernel) ⟨hρ40, _, rfl, (congrArg Prod.fst (Option.some.inj h)).symm, (congrArg Prod.snd (Option.some.inj h)).symm⟩
    · rw [if_pos c] at h
      refine j_sipush F (pc := 39) (n := -1002) (v := -1002) (by decide +kernel) (by decide +kernel) ?_
      exact j_iret (st := []) F Rt rfl (by decide +kernel) ⟨hρ17, _, rfl, (congrArg Prod.fst (Option.some.inj h)).symm, (congrArg Prod.snd (Option.some.inj h)).symm⟩
set_option maxHeartbeats 4000000 in
set_option maxRecDepth 100000 in
theorem t_X4_has {G : z_Gl} {ρ : Nat → Nat → Option Nat} {μ : z_M} {r : Int32} {μr : z_M} {x1 : Int32} {x2 : Int32} {x3 : Int32} {x4 : Int32} (hρ : μ.2.2 = ρ) (hk : z_ok (z_sh G) ρ) (h : f_X4_has x1 x2 x3 x4 μ = some (r, μr)) : z_Ci G yX4_has cX4_has 5 (some .int) 5 [.ref 0, .int x1, .int x2, .int x3, .int x4] μ (fun r1 μ1 => r = r1 ∧ μr = μ1) := by
  unfold z_Ci
  refine z_intro (by decide +kernel) (Nat.le_of_ble_eq_true rfl) (fun E hE F Rt => ?_)
  subst hE
  have F : z_F E RX4 cX4_has 5 5 := F
  rw [hρ] at Rt
  unfold f_X4_has at h
  show z_J E 5 0 [some (.ref 0), some (.int x1), some (.int x2), some (.int x3), some (.int x4)] [] μ
  refine j_iload_n F (pc := 0) (q := 1) (by decide +kernel) rfl ?_
  obtain ⟨r1, μ2, hc4, h⟩ := z_b2_some h
  refine j_callSi F (pc := 1) (idx := 67) (As := [.int x1]) (st := []) (t_X4_isLand (G := E.1) hρ  hc4) q_X4_isLand m_387 m_386 rfl (by decide) (Nat.le_of_ble_eq_true rfl) rfl (by decide +kernel) (fun s7 ν5 hq6 hp => ?_)
  obtain ⟨rfl, rfl⟩ := hp
  have hρ3 : μ2.2.2 = ρ := hq6.trans hρ
  refine j_if_eq F (pc := 4) (off := 17) (tgt := 21) (by decide +kernel) (by decide) (fun c => ?_) (fun c => ?_)
  · rw [if_pos c] at h
    refine j_sipush F (pc := 21) (n := -1001) (v := -1001) (by decide +kernel) (by decide +kernel) ?_
    exact j_iret (st := []) F Rt rfl (by decide +kernel) ⟨hρ3, _, rfl, (congrArg Prod.fst (Option.some.inj h)).symm, (congrArg Prod.snd (Option.some.inj h)).symm⟩
  · rw [if_neg c] at h
    refine j_iload F (pc := 7) (i := 4) (by decide +kernel) rfl ?_
    refine j_iconst F (pc := 9) (n := -1) (v := -1) (by decide +kernel) (by decide +kernel) ?_
    refine j_icmp_eq F (pc := 10) (off := 15) (tgt := 25) (by decide +kernel) (by decide) (fun c => ?_) (fun c => ?_)
    · rw [if_pos c] at h
      refine u_X4_has_25 F Rt hk  _ _ _ _ _ hρ3 h
    · rw [if_neg c] at h
      refine j_iload F (pc := 13) (i := 4) (by decide +kernel) rfl ?_
      obtain ⟨r45, μ46, hc48, h⟩ := z_b2_some h
      refine j_callSi F (pc := 15) (idx := 141) (As := [.int x4]) (st := []) (t_X4_isHolder (G := E.1) hρ3  hc48) q_X4_isHolder m_595 m_594 rfl (by decide) (Nat.le_of_ble_eq_true rfl) rfl (by decide +kernel) (fun s51 ν49 hq50 hp => ?_)
      obtain ⟨rfl, rfl⟩ := hp
      have hρ47 : μ46.2.2 = ρ := hq50.trans hρ3
      refine j_if_ne F (pc := 18) (off := 7) (tgt := 25) (by decide +kernel) (by decide) (fun c => ?_) (fun c => ?_)
      · rw [if_neg c] at h
        refine u_X4_has_25 F Rt hk  _ _ _ _ _ hρ47 h
      · rw [if_pos c] at h
        refine j_sipush F (pc := 21) (n := -1001) (v := -1001) (by decide +kernel) (by decide +kernel) ?_
        exact j_iret (st := []) F Rt rfl (by decide +kernel) ⟨hρ47, _, rfl, (congrArg Prod.fst (Option.some.inj h)).symm, (congrArg Prod.snd (Option.some.inj h)).symm⟩
/-- LastLent.order -/
def f_X4_order (x1 : Int32) (x2 : Int32) (x3 : Int32) (x4 : Int32) (μ : z_M) : Option (Int32 × z_M) :=
  (z_b2 (f_X4_isLand (x1) μ) fun r1 μ2 => (if r1 = 0 then (some ((-1001 : Int32), μ2)) else (if x4 < 0 then (some ((-1001 : Int32), μ2)) else (if x4 < (5 : Int32) then (z_b2 (f_X4_isDay (x2) μ2) fun r8 μ9 => (if r8 = 0 then (some ((-1002 : Int32), μ9)) else (z_b2 (f_X4_isWay (x3) μ9) fun r15 μ16 => (if r15 = 0 then (some ((-1002 : Int32), μ16)) else (if z_in x1 4 then ((μ16.2.2 1 x1.toNatClampNeg).bind fun r22 => (z_b1 (f_X2_run (r22) (4) (x2) (x3) μ16) fun μ26 => (if z_in x4 5 then (some ((μ26.1 37 x4.toNatClampNeg), μ26)) else none))) else none))))) else (some ((-1001 : Int32), μ2))))))
set_option maxHeartbeats 4000000 in
set_option maxRecDepth 100000 in
theorem t_X4_order {G : z_Gl} {ρ : Nat → Nat → Option Nat} {μ : z_M} {r : Int32} {μr : z_M} {x1 : Int32} {x2 : Int32} {x3 : Int32} {x4 : Int32} (hρ : μ.2.2 = ρ) (hk : z_ok (z_sh G) ρ) (h : f_X4_order x1 x2 x3 x4 μ = some (r, μr)) : z_Ci G yX4_order cX4_order 5 (some .int) 5 [.ref 0, .int x1, .int x2, .int x3, .int x4] μ (fun r1 μ1 => r = r1 ∧ μr = μ1) := by
  unfold z_Ci
  refine z_intro (by decide +kernel) (Nat.le_of_ble_eq_true rfl) (fun E hE F Rt => ?_)
  subst hE
  have F : z_F E RX4 cX4_order 5 5 := F
  rw [hρ] at Rt
  unfold f_X4_order at h
  show z_J E 5 0 [some (.ref 0), some (.int x1), some (.int x2), some (.int x3), some (.int x4)] [] μ
  refine j_iload_n F (pc := 0) (q := 1) (by decide +kernel) rfl ?_
  obtain ⟨r1, μ2, hc4, h⟩ := z_b2_some h
  refine j_callSi F (pc := 1) (idx := 67) (As := [.int x1]) (st := []) (t_X4_isLand (G := E.1) hρ  hc4) q_X4_isLand m_387 m_386 rfl (by decide) (Nat.le_of_ble_eq_true rfl) rfl (by decide +kernel) (fun s7 ν5 hq6 hp => ?_)
  obtain ⟨rfl, rfl⟩ := hp
  have hρ3 : μ2.2.2 = ρ := hq6.trans hρ
  refine j_if_eq F (pc := 4) (off := 14) (tgt := 18) (by decide +kernel) (by decide) (fun c => ?_) (fun c => ?_)
  · rw [if_pos c] at h
    refine j_sipush F (pc := 18) (n := -1001) (v := -1001) (by decide +kernel) (by decide +kernel) ?_
    exact j_iret (st := []) F Rt rfl (by decide +kernel) ⟨hρ3, _, rfl, (congrArg Prod.fst (Option.some.inj h)).symm, (congrArg Prod.snd (Option.some.inj h)).symm⟩
  · rw [if_neg c] at h
    refine j_iload F (pc := 7) (i := 4) (by decide +kernel) rfl ?_
    refine j_if_lt F (pc := 9) (off := 9) (tgt := 18) (by decide +kernel) (by decide) (fun c => ?_) (fun c => ?_)
    · rw [if_pos c] at h
      refine j_sipush F (pc := 18) (n := -1001) (v := -1001) (by decide +kernel) (by decide +kernel) ?_
      exact j_iret (st := []) F Rt rfl (by decide +kernel) ⟨hρ3, _, rfl, (congrArg Prod.fst (Option.some.inj h)).symm, (congrArg Prod.snd (Option.some.inj h)).symm⟩
    · rw [if_neg c] at h
      refine j_iload F (pc := 12) (i := 4) (by decide +kernel) rfl ?_
      refine j_iconst F (pc := 14) (n := 5) (v := 5) (by decide +kernel) (by decide +kernel) ?_
      refine j_icmp_lt F (pc := 15) (off := 7) (tgt := 22) (by decide +kernel) (by decide) (fun c => ?_) (fun c => ?_)
      · rw [if_pos c] at h
        refine j_iload_n F (pc := 22) (q := 2) (by decide +kernel) rfl ?_
        obtain ⟨r8, μ9, hc11, h⟩ := z_b2_some h
        refine j_callSi F (pc := 23) (idx := 131) (As := [.int x2]) (st := []) (t_X4_isDay (G := E.1) hρ3  hc11) q_X4_isDay m_580 m_579 rfl (by decide) (Nat.le_of_ble_eq_true rfl) rfl (by decide +kernel) (fun s14 ν12 hq13 hp => ?_)
        obtain ⟨rfl, rfl⟩ := hp
        have hρ10 : μ9.2.2 = ρ := hq13.trans hρ3
        refine j_if_eq F (pc := 26) (off := 10) (tgt := 36) (by decide +kernel) (by decide) (fun c => ?_) (fun c => ?_)
        · rw [if_pos c] at h
          refine j_sipush F (pc := 36) (n := -1002) (v := -1002) (by decide +kernel) (by decide +kernel) ?_
          exact j_iret (st := []) F Rt rfl (by decide +kernel) ⟨hρ10, _, rfl, (congrArg Prod.fst (Option.some.inj h)).symm, (congrArg Prod.snd (Option.some.inj h)).symm⟩
        · rw [if_neg c] at h
          refine j_iload_n F (pc := 29) (q := 3) (by decide +kernel) rfl ?_
          obtain ⟨r15, μ16, hc18, h⟩ := z_b2_some h
          refine j_callSi F (pc := 30) (idx := 221) (As := [.int x3]) (st := []) (t_X4_isWay (G := E.1) hρ10  hc18) q_X4_isWay m_715 m_714 rfl (by decide) (Nat.le_of_ble_eq_true rfl) rfl (by decide +kernel) (fun s21 ν19 hq20 hp => ?_)
          obtain ⟨rfl, rfl⟩ := hp
          have hρ17 : μ16.2.2 = ρ := hq20.trans hρ10
          refine j_if_ne F (pc := 33) (off := 7) (tgt := 40) (by decide +kernel) (by decide) (fun c => ?_) (fun c => ?_)
          · rw [if_neg c] at h
            refine j_aload_n F (pc := 40) (q := 0) (by decide +kernel) rfl ?_
            refine j_getR F (pc := 41) (hk.r hρ17 r_0_6) fl_X4_43 (hk.s c_0) rfl (by decide +kernel) ?_
            refine j_aload_n F (pc := 44) (q := 0) (by decide +kernel) rfl ?_
            refine j_getR F (pc := 45) (hk.r hρ17 r_0_0) fl_X4_11 (hk.s c_0) rfl (by decide +kernel) ?_
            refine j_iload_n F (pc := 48) (q := 1) (by decide +kernel) rfl ?_
            obtain ⟨hg, h⟩ := z_ifs h
            obtain ⟨r22, hr23, h⟩ := Option.bind_eq_some_iff.mp h
            have hb24 := hk.lawsAt hρ17 hr23
            refine j_aald F (pc := 49) (hk.s c_1) (by decide) hg hr23 (by decide +kernel) ?_
            refine j_aload_n F (pc := 50) (q := 0) (by decide +kernel) rfl ?_
            refine j_getR F (pc := 51) (hk.r hρ17 r_0_2) fl_X4_25 (hk.s c_0) rfl (by decide +kernel) ?_
            refine j_iload_n F (pc := 54) (q := 2) (by decide +kernel) rfl ?_
            refine j_iload_n F (pc := 55) (q := 3) (by decide +kernel) rfl ?_
            obtain ⟨μ26, hc28, h⟩ := z_b1_some h
            refine j_callVv F (pc := 56) (idx := 224) (As := [.ref r22, .ref 4, .int x2, .int x3]) (st := []) (t_X2_run (G := E.1) hρ17 hk hb24 (hk.shipB (by decide : 4 ∈ z_SHIPS)) hc28) q_X2_run v_X2_run m_717 (hk.s c_28) rfl rfl (by decide) (Nat.le_of_ble_eq_true rfl) rfl (by decide +kernel) (fun ν29 hq30 hp => ?_)
            subst hp
            have hρ27 : μ26.2.2 = ρ := hq30.trans hρ17
            refine j_aload_n F (pc := 59) (q := 0) (by decide +kernel) rfl ?_
            refine j_getR F (pc := 60) (hk.r hρ27 r_0_6) fl_X4_43 (hk.s c_0) rfl (by decide +kernel) ?_
            refine j_getR F (pc := 63) (hk.r hρ27 r_28_10) fl_X4_241 (hk.s c_28) rfl (by decide +kernel) ?_
            refine j_iload F (pc := 66) (i := 4) (by decide +kernel) rfl ?_
            obtain ⟨hg, h⟩ := z_ifs h
            refine j_iald F (pc := 68) (hk.s c_37) hg (by decide +kernel) ?_
            exact j_iret (st := []) F Rt rfl (by decide +kernel) ⟨hρ27, _, rfl, (congrArg Prod.fst (Option.some.inj h)).symm, (congrArg Prod.snd (Option.some.inj h)).symm⟩
          · rw [if_pos c] at h
            refine j_sipush F (pc := 36) (n := -1002) (v := -1002) (by decide +kernel) (by decide +kernel) ?_
            exact j_iret (st := []) F Rt rfl (by decide +kernel) ⟨hρ17, _, rfl, (congrArg Prod.fst (Option.some.inj h)).symm, (congrArg Prod.snd (Option.some.inj h)).symm⟩
      · rw [if_neg c] at h
        refine j_sipush F (pc := 18) (n := -1001) (v := -1001) (by decide +kernel) (by decide +kernel) ?_
        exact j_iret (st := []) F Rt rfl (by decide +kernel) ⟨hρ3, _, rfl, (congrArg Prod.fst (Option.some.inj h)).symm, (congrArg Prod.snd (Option.some.inj h)).symm⟩
def g_X2_paidForShip_5 (a1 : Nat) (n1 : Nat) (a2 : Nat) (n2 : Nat)  : Nat → Int32 → Int32 → z_M → Option (Int32 × z_M)
  | 0, _, _, _ => none
  | n + 1, x3, x4, μ => (if (μ.1 28 2) ≤ x4 then (some (x3, μ)) else (if z_in x4 14 then (z_b2 (f_X4_bit ((μ.1 31 x4.toNatClampNeg)) ((0 : Int32)) μ) fun r1 μ2 => (if r1 = (1 : Int32) then (if z_in x4 n2 then (if z_in x4 n1 then (z_lt (x3 + ((μ2.1 a2 x4.toNatClampNeg) - (μ2.1 a1 x4.toNatClampNeg))) fun x_8 => (g_X2_paidForShip_5 a1 n1 a2 n2  n (x_8) ((x4 + (1 : Int32))) μ2)) else none) else none) else (g_X2_paidForShip_5 a1 n1 a2 n2  n (x3) ((x4 + (1 : Int32))) μ2))) else none))
def f_X2_paidForShip (a1 : Nat) (n1 : Nat) (a2 : Nat) (n2 : Nat) (μ : z_M) : Option (Int32 × z_M) :=
  (g_X2_paidForShip_5 a1 n1 a2 n2  z_N ((0 : Int32)) ((0 : Int32)) μ)
set_option maxHeartbeats 4000000 in
set_option maxRecDepth 100000 in
theorem u_X2_paidForShip_5 {E : z_E} {ρ : Nat → Nat → Option Nat} {r : Int32} {μr : z_M} (F : z_F E RX2 cX2_paidForShip 5 1) (Rt : z_R E (some .int) (fun v μ1 => μ1.2.2 = ρ ∧ ∃ r1, v = some (.int r1) ∧ r = r1 ∧ μr = μ1)) {a1 : Nat} {n1 : Nat} {a2 : Nat} {n2 : Nat} (hk : z_ok (z_sh E.1) ρ) (ha1 : (z_sh E.1)[a1]? = some (.inl (0, n1))) (ha2 : (z_sh E.1)[a2]? = some (.inl (0, n2))) : ∀ (n : Nat) (x3 : Int32) (x4 : Int32) (μ : z_M), μ.2.2 = ρ → g_X2_paidForShip_5 a1 n1 a2 n2  n x3 x4 μ = some (r, μr) → z_J E 5 5 [some (.ref 28), some (.ref a1), some (.ref a2), some (.int x3), some (.int x4)] [] μ := by
  intro n
  induction n with
  | zero =>
    intro x3 x4 μ hρ h
    rw [g_X2_paidForShip_5] at h
    cases h
  | succ n ih =>
    intro x3 x4 μ hρ h
    rw [g_X2_paidForShip_5] at h
    refine j_iload F (pc := 5) (i := 4) (by decide +kernel) rfl ?_
    refine j_aload_n F (pc := 7) (q := 0) (by decide +kernel) rfl ?_
    refine j_getI F (pc := 8) fl_X2_92 (hk.s c_28) rfl (by decide +kernel) ?_
    refine j_icmp_ge F (pc := 11) (off := 36) (tgt := 47) (by decide +kernel) (by decide) (fun c => ?_) (fun c => ?_)
    · rw [if_pos c] at h
      refine j_iload_n F (pc := 47) (q := 3) (by decide +kernel) rfl ?_
      exact j_iret (st := []) F Rt rfl (by decide +kernel) ⟨hρ, _, rfl, (congrArg Prod.fst (Option.some.inj h)).symm, (congrArg Prod.snd (Option.some.inj h)).symm⟩
    · rw [if_neg c] at h
      refine j_aload_n F (pc := 14) (q := 0) (by decide +kernel) rfl ?_
      refine j_getR F (pc := 15) (hk.r hρ r_28_4) fl_X2_18 (hk.s c_28) rfl (by decide +kernel) ?_
      refine j_iload F (pc := 18) (i := 4) (by decide +kernel) rfl ?_
      obtain ⟨hg, h⟩ := z_ifs h
      refine j_iald F (pc := 20) (hk.s c_31) hg (by decide +kernel) ?_
      refine j_iconst F (pc := 21) (n := 0) (v := 0) (by decide +kernel) (by decide +kernel) ?_
      obtain ⟨r1, μ2, hc4, h⟩ := z_b2_some h
      refine j_callNi F (pc := 22) (idx := 114) (As := [.int (μ.1 31 x4.toNatClampNeg), .int (0 : Int32)]) (st := []) (t_X4_bit (G := E.1) hρ  hc4) q_X4_bit m_474 (by decide +kernel) rfl (by decide) (Nat.le_of_ble_eq_true rfl) rfl (by decide +kernel) (fun s7 ν5 hq6 hp => ?_)
      obtain ⟨rfl, rfl⟩ := hp
      have hρ3 : μ2.2.2 = ρ := hq6.trans hρ
      refine j_iconst F (pc := 25) (n := 1) (v := 1) (by decide +kernel) (by decide +kernel) ?_
      refine j_icmp_ne F (pc := 26) (off := 15) (tgt := 41) (by decide +kernel) (by decide) (fun c => ?_) (fun c => ?_)
      · rw [if_neg c] at h
        refine j_iinc F (pc := 41) (i := 4) (n := 1) (v := 1) (L' := [some (.ref 28), some (.ref a1), some (.ref a2), some (.int x3), some (.int (x4 + (1 : Int32)))]) (by decide +kernel) rfl (by decide +kernel) (by decide) rfl rfl ?_
        refine j_goto F (pc := 44) (off := -39) (tgt := 5) (by decide +kernel) (by decide) ?_
        exact ih _ _ _ hρ3 h
      · rw [if_pos c] at h
        refine j_iload_n F (pc := 29) (q := 3) (by decide +kernel) rfl ?_
        refine j_aload_n F (pc := 30) (q := 2) (by decide +kernel) rfl ?_
        refine j_iload F (pc := 31) (i := 4) (by decide +kernel) rfl ?_
        obtain ⟨hg, h⟩ := z_ifs h
        refine j_iald F (pc := 33) ha2 hg (by decide +kernel) ?_
        refine j_aload_n F (pc := 34) (q := 1) (by decide +kernel) rfl ?_
        refine j_iload F (pc := 35) (i := 4) (by decide +kernel) rfl ?_
        obtain ⟨hg, h⟩ := z_ifs h
        refine j_iald F (pc := 37) ha1 hg (by decide +kernel) ?_
        refine j_isub F (pc := 38) (by decide +kernel) ?_
        refine j_iadd F (pc := 39) (by decide +kernel) ?_
        obtain ⟨x_8, e9, h⟩ := z_lt_some h
        rw [← e9]
        refine j_istore_n F (pc := 40) (q := 3) (L' := [some (.ref 28), some (.ref a1), some (.ref a2), some (.int x_8), some (.int x4)]) (by decide +kernel) (by decide) rfl rfl ?_
        refine j_iinc F (pc := 41) (i := 4) (n := 1) (v := 1) (L' := [some (.ref 28), some (.ref a1), some (.ref a2), some (.int x_8), some (.int (x4 + (1 : Int32)))]) (by decide +kernel) rfl (by decide +kernel) (by decide) rfl rfl ?_
        refine j_goto F (pc := 44) (off := -39) (tgt := 5) (by decide +kernel) (by decide) ?_
        exact ih _ _ _ hρ3 h
set_option maxHeartbeats 4000000 in
set_option maxRecDepth 100000 in
theorem t_X2_paidForShip {G : z_Gl} {ρ : Nat → Nat → Option Nat} {μ : z_M} {r : Int32} {μr : z_M} {a1 : Nat} {n1 : Nat} {a2 : Nat} {n2 : Nat} (hρ : μ.2.2 = ρ) (hk : z_ok (z_sh G) ρ) (ha1 : (z_sh G)[a1]? = some (.inl (0, n1))) (ha2 : (z_sh G)[a2]? = some (.inl (0, n2))) (h : f_X2_paidForShip a1 n1 a2 n2 μ = some (r, μr)) : z_Ci G yX2_paidForShip cX2_paidForShip 5 (some .int) 1 [.ref 28, .ref a1, .ref a2] μ (fun r1 μ1 => r = r1 ∧ μr = μ1) := by
  unfold z_Ci
  refine z_intro (by decide +kernel) (Nat.le_of_ble_eq_true rfl) (fun E hE F Rt => ?_)
  subst hE
  have F : z_F E RX2 cX2_paidForShip 5 1 := F
  rw [hρ] at Rt
  unfold f_X2_paidForShip at h
  show z_J E 5 0 [some (.ref 28), some (.ref a1), some (.ref a2), none, none] [] μ
  refine j_iconst F (pc := 0) (n := 0) (v := 0) (by decide +kernel) (by decide +kernel) ?_
  refine j_istore_n F (pc := 1) (q := 3) (L' := [some (.ref 28), some (.ref a1), some (.ref a2), some (.int (0 : Int32)), none]) (by decide +kernel) (by decide) rfl rfl ?_
  refine j_iconst F (pc := 2) (n := 0) (v := 0) (by decide +kernel) (by decide +kernel) ?_
  refine j_istore F (pc := 3) (i := 4) (L' := [some (.ref 28), some (.ref a1), some (.ref a2), some (.int (0 : Int32)), some (.int (0 : Int32))]) (by decide +kernel) (by decide) rfl rfl ?_
  refine u_X2_paidForShip_5 F Rt hk ha1 ha2  z_N _ _ _ hρ h
def g_X2_giveBack_2   : Nat → Int32 → z_M → Option z_M
  | 0, _, _ => none
  | n + 1, x1, μ => (if (5 : Int32) ≤ x1 then (if z_in (0 : Int32) 5 then (z_b2 (f_X2_share ((μ.1 36 (0 : Int32).toNatClampNeg)) (47) (3) (48) (3) ((0 : Int32)) ((3 : Int32)) μ) fun r1 μ2 => (some μ2)) else none) else (if z_in x1 5 then (if (μ.1 37 x1.toNatClampNeg) < (2 : Int32) then (g_X2_giveBack_2   n ((x1 + (1 : Int32))) μ) else (if z_in x1 5 then (if z_in x1 6 then ((μ.2.2 39 x1.toNatClampNeg).bind fun r8 => (if z_in (x1 + (1 : Int32)) 6 then ((μ.2.2 39 (x1 + (1 : Int32)).toNatClampNeg).bind fun r11 => (z_b2 (f_X2_paidForShip (r8) (14) (r11) (14) μ) fun r14 μ15 => (if z_in ((μ.1 37 x1.toNatClampNeg) - (2 : Int32)) 3 then (z_st (z_si μ15 47 ((μ.1 37 x1.toNatClampNeg) - (2 : Int32)).toNatClampNeg r14) fun μ21 => (g_X2_giveBack_2   n ((x1 + (1 : Int32))) μ21)) else none))) else none)) else none) else none)) else none))
def f_X2_giveBack  (μ : z_M) : Option z_M :=
  (g_X2_giveBack_2   z_N ((0 : Int32)) μ)
set_option maxHeartbeats 4000000 in
set_option maxRecDepth 100000 in
theorem u_X2_giveBack_2 {E : z_E} {ρ : Nat → Nat → Option Nat} {μr : z_M} (F : z_F E RX2 cX2_giveBack 2 2) (Rt : z_R E none (fun v μ1 => μ1.2.2 = ρ ∧ v = none ∧ μr = μ1))  (hk : z_ok (z_sh E.1) ρ) : ∀ (n : Nat) (x1 : Int32) (μ : z_M), μ.2.2 = ρ → g_X2_giveBack_2   n x1 μ = some μr → z_J E 2 2 [some (.ref 28), some (.int x1)] [] μ := by
  intro n
  induction n with
  | zero =>
    intro x1 μ hρ h
    rw [g_X2_giveBack_2] at h
    cases h
  | succ n ih =>
    intro x1 μ hρ h
    rw [g_X2_giveBack_2] at h
    refine j_iload_n F (pc := 2) (q := 1) (by decide +kernel) rfl ?_
    refine j_iconst F (pc := 3) (n := 5) (v := 5) (by decide +kernel) (by decide +kernel) ?_
    refine j_icmp_ge F (pc := 4) (off := 50) (tgt := 54) (by decide +kernel) (by decide) (fun c => ?_) (fun c => ?_)
    · rw [if_pos c] at h
      refine j_aload_n F (pc := 54) (q := 0) (by decide +kernel) rfl ?_
      refine j_getR F (pc := 55) (hk.r hρ r_28_9) fl_X2_33 (hk.s c_28) rfl (by decide +kernel) ?_
      refine j_iconst F (pc := 58) (n := 0) (v := 0) (by decide +kernel) (by decide +kernel) ?_
      obtain ⟨hg, h⟩ := z_ifs h
      refine j_iald F (pc := 59) (hk.s c_36) hg (by decide +kernel) ?_
      refine j_aload_n F (pc := 60) (q := 0) (by decide +kernel) rfl ?_
      refine j_getR F (pc := 61) (hk.r hρ r_28_14) fl_X2_50 (hk.s c_28) rfl (by decide +kernel) ?_
      refine j_aload_n F (pc := 64) (q := 0) (by decide +kernel) rfl ?_
      refine j_getR F (pc := 65) (hk.r hρ r_28_15) fl_X2_53 (hk.s c_28) rfl (by decide +kernel) ?_
      refine j_iconst F (pc := 68) (n := 0) (v := 0) (by decide +kernel) (by decide +kernel) ?_
      refine j_iconst F (pc := 69) (n := 3) (v := 3) (by decide +kernel) (by decide +kernel) ?_
      obtain ⟨r1, μ2, hc4, h⟩ := z_b2_some h
      refine j_callSi F (pc := 70) (idx := 139) (As := [.int (μ.1 36 (0 : Int32).toNatClampNeg), .ref 47, .ref 48, .int (0 : Int32), .int (3 : Int32)]) (st := []) (t_X2_share (G := E.1) hρ (hk.s c_47) (hk.s c_48) hc4) q_X2_share m_739 m_738 rfl (by decide) (Nat.le_of_ble_eq_true rfl) rfl (by decide +kernel) (fun s7 ν5 hq6 hp => ?_)
      obtain ⟨rfl, rfl⟩ := hp
      have hρ3 : μ2.2.2 = ρ := hq6.trans hρ
      refine j_pop F (pc := 73) (by decide +kernel) rfl ?_
      exact j_vret (st := []) F Rt (by decide +kernel) ⟨hρ3, rfl, (Option.some.inj h).symm⟩
    · rw [if_neg c] at h
      refine j_aload_n F (pc := 7) (q := 0) (by decide +kernel) rfl ?_
      refine j_getR F (pc := 8) (hk.r hρ r_28_10) fl_X2_36 (hk.s c_28) rfl (by decide +kernel) ?_
      refine j_iload_n F (pc := 11) (q := 1) (by decide +kernel) rfl ?_
      obtain ⟨hg, h⟩ := z_ifs h
      refine j_iald F (pc := 12) (hk.s c_37) hg (by decide +kernel) ?_
      refine j_iconst F (pc := 13) (n := 2) (v := 2) (by decide +kernel) (by decide +kernel) ?_
      refine j_icmp_lt F (pc := 14) (off := 34) (tgt := 48) (by decide +kernel) (by decide) (fun c => ?_) (fun c => ?_)
      · rw [if_pos c] at h
        refine j_iinc F (pc := 48) (i := 1) (n := 1) (v := 1) (L' := [some (.ref 28), some (.int (x1 + (1 : Int32)))]) (by decide +kernel) rfl (by decide +kernel) (by decide) rfl rfl ?_
        refine j_goto F (pc := 51) (off := -49) (tgt := 2) (by decide +kernel) (by decide) ?_
        exact ih _ _ hρ h
      · rw [if_neg c] at h
        refine j_aload_n F (pc := 17) (q := 0) (by decide +kernel) rfl ?_
        refine j_getR F (pc := 18) (hk.r hρ r_28_14) fl_X2_50 (hk.s c_28) rfl (by decide +kernel) ?_
        refine j_aload_n F (pc := 21) (q := 0) (by decide +kernel) rfl ?_
        refine j_getR F (pc := 22) (hk.r hρ r_28_10) fl_X2_36 (hk.s c_28) rfl (by decide +kernel) ?_
        refine j_iload_n F (pc := 25) (q := 1) (by decide +kernel) rfl ?_
        obtain ⟨hg, h⟩ := z_ifs h
        refine j_iald F (pc := 26) (hk.s c_37) hg (by decide +kernel) ?_
        refine j_iconst F (pc := 27) (n := 2) (v := 2) (by decide +kernel) (by decide +kernel) ?_
        refine j_isub F (pc := 28) (by decide +kernel) ?_
        refine j_aload_n F (pc := 29) (q := 0) (by decide +kernel) rfl ?_
        refine j_aload_n F (pc := 30) (q := 0) (by decide +kernel) rfl ?_
        refine j_getR F (pc := 31) (hk.r hρ r_28_12) fl_X2_44 (hk.s c_28) rfl (by decide +kernel) ?_
        refine j_iload_n F (pc := 34) (q := 1) (by decide +kernel) rfl ?_
        obtain ⟨hg, h⟩ := z_ifs h
        obtain ⟨r8, hr9, h⟩ := Option.bind_eq_some_iff.mp h
        have hb10 := hk.rowAt hρ hr9
        refine j_aald F (pc := 35) (hk.s c_39) (by decide) hg hr9 (by decide +kernel) ?_
        refine j_aload_n F (pc := 36) (q := 0) (by decide +kernel) rfl ?_
        refine j_getR F (pc := 37) (hk.r hρ r_28_12) fl_X2_44 (hk.s c_28) rfl (by decide +kernel) ?_
        refine j_iload_n F (pc := 40) (q := 1) (by decide +kernel) rfl ?_
        refine j_iconst F (pc := 41) (n := 1) (v := 1) (by decide +kernel) (by decide +kernel) ?_
        refine j_iadd F (pc := 42) (by decide +kernel) ?_
        obtain ⟨hg, h⟩ := z_ifs h
        obtain ⟨r11, hr12, h⟩ := Option.bind_eq_some_iff.mp h
        have hb13 := hk.rowAt hρ hr12
        refine j_aald F (pc := 43) (hk.s c_39) (by decide) hg hr12 (by decide +kernel) ?_
        obtain ⟨r14, μ15, hc17, h⟩ := z_b2_some h
        refine j_callVi F (pc := 44) (idx := 149) (As := [.ref r8, .ref r11]) (st := [.int ((μ.1 37 x1.toNatClampNeg) - (2 : Int32)), .ref 47]) (t_X2_paidForShip (G := E.1) hρ hk hb10 hb13 hc17) q_X2_paidForShip v_X2_paidForShip m_794 (hk.s c_28) rfl rfl (by decide) (Nat.le_of_ble_eq_true rfl) rfl (by decide +kernel) (fun s20 ν18 hq19 hp => ?_)
        obtain ⟨rfl, rfl⟩ := hp
        have hρ16 : μ15.2.2 = ρ := hq19.trans hρ
        obtain ⟨hg, h⟩ := z_ifs h
        refine j_iast F (pc := 47) (hk.s c_47) hg (by decide +kernel) ?_
        obtain ⟨μ21, e23, h⟩ := z_st_some h
        rw [← e23]
        have hρ22 : μ21.2.2 = ρ := by rw [e23]; exact hρ16
        refine j_iinc F (pc := 48) (i := 1) (n := 1) (v := 1) (L' := [some (.ref 28), some (.int (x1 + (1 : Int32)))]) (by decide +kernel) rfl (by decide +kernel) (by decide) rfl rfl ?_
        refine j_goto F (pc := 51) (off := -49) (tgt := 2) (by decide +kernel) (by decide) ?_
        exact ih _ _ hρ22 h
set_option maxHeartbeats 4000000 in
set_option maxRecDepth 100000 in
theorem t_X2_giveBack {G : z_Gl} {ρ : Nat → Nat → Option Nat} {μ : z_M} {μr : z_M}  (hρ : μ.2.2 = ρ) (hk : z_ok (z_sh G) ρ) (h : f_X2_giveBack  μ = some μr) : z_Cv G yX2_giveBack cX2_giveBack 2 none 2 [.ref 28] μ (fun μ1 => μr = μ1) := by
  unfold z_Cv
  refine z_intro (by decide +kernel) (Nat.le_of_ble_eq_true rfl) (fun E hE F Rt => ?_)
  subst hE
  have F : z_F E RX2 cX2_giveBack 2 2 := F
  rw [hρ] at Rt
  unfold f_X2_giveBack at h
  show z_J E 2 0 [some (.ref 28), none] [] μ
  refine j_iconst F (pc := 0) (n := 0) (v := 0) (by decide +kernel) (by decide +kernel) ?_
  refine j_istore_n F (pc := 1) (q := 1) (L' := [some (.ref 28), some (.int (0 : Int32))]) (by decide +kernel) (by decide) rfl rfl ?_
  refine u_X2_giveBack_2 F Rt hk  z_N _ _ hρ h
