/-! functions and contracts, written by wip/whole/dec.py -/
def g_X5_having_48   : Nat → Int32 → Int32 → Int32 → z_M → Option (Int32 × z_M)
  | 0, _, _, _, _ => none
  | n + 1, x1, x2, x3, μ => (if (3 : Int32) ≤ x3 then (some (x2, μ)) else (if z_in x3 3 then (if (((μ.1 125 x3.toNatClampNeg) = x1) → z_in ((2 : Int32) + x3) 5) then (z_lt (x2 + (if (μ.1 125 x3.toNatClampNeg) = x1 then (μ.1 127 ((2 : Int32) + x3).toNatClampNeg) else (0 : Int32))) fun x_1 => (g_X5_having_48   n (x1) (x_1) ((x3 + (1 : Int32))) μ)) else none) else none))
def g_X5_having_4   : Nat → Int32 → Int32 → Int32 → z_M → Option (Int32 × z_M)
  | 0, _, _, _, _ => none
  | n + 1, x1, x2, x3, μ => (if (μ.1 98 27) ≤ x3 then (g_X5_having_48   z_N (x1) (x2) ((0 : Int32)) μ) else (if ((x1 = (-1 : Int32)) → z_in x3 15) ∧ (¬ (x1 = (-1 : Int32)) → z_in x3 15) ∧ (¬ (x1 = (-1 : Int32)) → ((μ.1 117 x3.toNatClampNeg) = x1) → z_in x3 15) then (z_lt (x2 + (if x1 = (-1 : Int32) then (μ.1 126 x3.toNatClampNeg) else (if (μ.1 117 x3.toNatClampNeg) = x1 then (μ.1 126 x3.toNatClampNeg) else (0 : Int32)))) fun x_3 => (g_X5_having_4   n (x1) (x_3) ((x3 + (1 : Int32))) μ)) else none))
def f_X5_having (x1 : Int32) (μ : z_M) : Option (Int32 × z_M) :=
  (g_X5_having_4   z_N (x1) ((0 : Int32)) ((0 : Int32)) μ)
set_option maxHeartbeats 4000000 in
set_option maxRecDepth 100000 in
theorem u_X5_having_48 {E : z_E} {ρ : Nat → Nat → Option Nat} {r : Int32} {μr : z_M} (F : z_F E RX5 cX5_having 4 0) (Rt : z_R E (some .int) (fun v μ1 => μ1.2.2 = ρ ∧ ∃ r1, v = some (.int r1) ∧ r = r1 ∧ μr = μ1))  (hk : z_ok (z_sh E.1) ρ) : ∀ (n : Nat) (x1 : Int32) (x2 : Int32) (x3 : Int32) (μ : z_M), μ.2.2 = ρ → g_X5_having_48   n x1 x2 x3 μ = some (r, μr) → z_J E 4 48 [some (.ref 98), some (.int x1), some (.int x2), some (.int x3)] [] μ := by
  intro n
  induction n with
  | zero =>
    intro x1 x2 x3 μ hρ h
    rw [g_X5_having_48] at h
    cases h
  | succ n ih =>
    intro x1 x2 x3 μ hρ h
    rw [g_X5_having_48] at h
    refine j_iload_n F (pc := 48) (q := 3) (by decide +kernel) rfl ?_
    refine j_iconst F (pc := 49) (n := 3) (v := 3) (by decide +kernel) (by decide +kernel) ?_
    refine j_icmp_ge F (pc := 50) (off := 34) (tgt := 84) (by decide +kernel) (by decide) (fun c => ?_) (fun c => ?_)
    · rw [if_pos c] at h
      refine j_iload_n F (pc := 84) (q := 2) (by decide +kernel) rfl ?_
      exact j_iret (st := []) F Rt rfl (by decide +kernel) ⟨hρ, _, rfl, (congrArg Prod.fst (Option.some.inj h)).symm, (congrArg Prod.snd (Option.some.inj h)).symm⟩
    · rw [if_neg c] at h
      refine j_iload_n F (pc := 53) (q := 2) (by decide +kernel) rfl ?_
      refine j_aload_n F (pc := 54) (q := 0) (by decide +kernel) rfl ?_
      refine j_getR F (pc := 55) (hk.r hρ r_98_37) fl_X5_93 (hk.s c_98) rfl (by decide +kernel) ?_
      refine j_iload_n F (pc := 58) (q := 3) (by decide +kernel) rfl ?_
      obtain ⟨hg, h⟩ := z_ifs h
      refine j_iald F (pc := 59) (hk.s c_125) hg (by decide +kernel) ?_
      refine j_iload_n F (pc := 60) (q := 1) (by decide +kernel) rfl ?_
      obtain ⟨hg, h⟩ := z_ifs h
      suffices hj : z_J E 4 76 [some (.ref 98), some (.int x1), some (.int x2), some (.int x3)] (.int (if (μ.1 125 x3.toNatClampNeg) = x1 then (μ.1 127 ((2 : Int32) + x3).toNatClampNeg) else (0 : Int32)) :: [.int x2]) μ by
        refine j_icmp_ne F (pc := 61) (off := 14) (tgt := 75) (by decide +kernel) (by decide) (fun c0 => ?_) (fun c0 => ?_)
        · rw [if_neg c0] at hj
          refine j_iconst F (pc := 75) (n := 0) (v := 0) (by decide +kernel) (by decide +kernel) ?_
          exact hj
        · rw [if_pos c0] at hj
          refine j_aload_n F (pc := 64) (q := 0) (by decide +kernel) rfl ?_
          refine j_getR F (pc := 65) (hk.r hρ r_98_39) fl_X5_99 (hk.s c_98) rfl (by decide +kernel) ?_
          refine j_iconst F (pc := 68) (n := 2) (v := 2) (by decide +kernel) (by decide +kernel) ?_
          refine j_iload_n F (pc := 69) (q := 3) (by decide +kernel) rfl ?_
          refine j_iadd F (pc := 70) (by decide +kernel) ?_
          refine j_iald F (pc := 71) (hk.s c_127) (hg c0) (by decide +kernel) ?_
          refine j_goto F (pc := 72) (off := 4) (tgt := 76) (by decide +kernel) (by decide) ?_
          exact hj
      refine j_iadd F (pc := 76) (by decide +kernel) ?_
      obtain ⟨x_1, e2, h⟩ := z_lt_some h
      rw [← e2]
      refine j_istore_n F (pc := 77) (q := 2) (L' := [some (.ref 98), some (.int x1), some (.int x_1), some (.int x3)]) (by decide +kernel) (by decide) rfl rfl ?_
      refine j_iinc F (pc := 78) (i := 3) (n := 1) (v := 1) (L' := [some (.ref 98), some (.int x1), some (.int x_1), some (.int (x3 + (1 : Int32)))]) (by decide +kernel) rfl (by decide +kernel) (by decide) rfl rfl ?_
      refine j_goto F (pc := 81) (off := -33) (tgt := 48) (by decide +kernel) (by decide) ?_
      exact ih _ _ _ _ hρ h
set_option maxHeartbeats 4000000 in
set_option maxRecDepth 100000 in
theorem u_X5_having_4 {E : z_E} {ρ : Nat → Nat → Option Nat} {r : Int32} {μr : z_M} (F : z_F E RX5 cX5_having 4 0) (Rt : z_R E (some .int) (fun v μ1 => μ1.2.2 = ρ ∧ ∃ r1, v = some (.int r1) ∧ r = r1 ∧ μr = μ1))  (hk : z_ok (z_sh E.1) ρ) : ∀ (n : Nat) (x1 : Int32) (x2 : Int32) (x3 : Int32) (μ : z_M), μ.2.2 = ρ → g_X5_having_4   n x1 x2 x3 μ = some (r, μr) → z_J E 4 4 [some (.ref 98), some (.int x1), some (.int x2), some (.int x3)] [] μ := by
  intro n
  induction n with
  | zero =>
    intro x1 x2 x3 μ hρ h
    rw [g_X5_having_4] at h
    cases h
  | succ n ih =>
    intro x1 x2 x3 μ hρ h
    rw [g_X5_having_4] at h
    refine j_iload_n F (pc := 4) (q := 3) (by decide +kernel) rfl ?_
    refine j_aload_n F (pc := 5) (q := 0) (by decide +kernel) rfl ?_
    refine j_getI F (pc := 6) fl_X5_268 (hk.s c_98) rfl (by decide +kernel) ?_
    refine j_icmp_ge F (pc := 9) (off := 37) (tgt := 46) (by decide +kernel) (by decide) (fun c => ?_) (fun c => ?_)
    · rw [if_pos c] at h
      refine j_iconst F (pc := 46) (n := 0) (v := 0) (by decide +kernel) (by decide +kernel) ?_
      refine j_istore_n F (pc := 47) (q := 3) (L' := [some (.ref 98), some (.int x1), some (.int x2), some (.int (0 : Int32))]) (by decide +kernel) (by decide) rfl rfl ?_
      refine u_X5_having_48 F Rt hk  z_N _ _ _ _ hρ h
    · rw [if_neg c] at h
      refine j_iload_n F (pc := 12) (q := 2) (by decide +kernel) rfl ?_
      refine j_iload_n F (pc := 13) (q := 1) (by decide +kernel) rfl ?_
      refine j_iconst F (pc := 14) (n := -1) (v := -1) (by decide +kernel) (by decide +kernel) ?_
      obtain ⟨hg, h⟩ := z_ifs h
      suffices hj : z_J E 4 38 [some (.ref 98), some (.int x1), some (.int x2), some (.int x3)] (.int (if x1 = (-1 : Int32) then (μ.1 126 x3.toNatClampNeg) else (if (μ.1 117 x3.toNatClampNeg) = x1 then (μ.1 126 x3.toNatClampNeg) else (0 : Int32))) :: [.int x2]) μ by
        refine j_icmp_eq F (pc := 15) (off := 13) (tgt := 28) (by decide +kernel) (by decide) (fun c0 => ?_) (fun c0 => ?_)
        · rw [if_pos c0] at hj
          refine j_aload_n F (pc := 28) (q := 0) (by decide +kernel) rfl ?_
          refine j_getR F (pc := 29) (hk.r hρ r_98_38) fl_X5_96 (hk.s c_98) rfl (by decide +kernel) ?_
          refine j_iload_n F (pc := 32) (q := 3) (by decide +kernel) rfl ?_
          refine j_iald F (pc := 33) (hk.s c_126) (hg.1 c0) (by decide +kernel) ?_
          refine j_goto F (pc := 34) (off := 4) (tgt := 38) (by decide +kernel) (by decide) ?_
          exact hj
        · rw [if_neg c0] at hj
          refine j_aload_n F (pc := 18) (q := 0) (by decide +kernel) rfl ?_
          refine j_getR F (pc := 19) (hk.r hρ r_98_29) fl_X5_69 (hk.s c_98) rfl (by decide +kernel) ?_
          refine j_iload_n F (pc := 22) (q := 3) (by decide +kernel) rfl ?_
          refine j_iald F (pc := 23) (hk.s c_117) (hg.2.1 c0) (by decide +kernel) ?_
          refine j_iload_n F (pc := 24) (q := 1) (by decide +kernel) rfl ?_
          refine j_icmp_ne F (pc := 25) (off := 12) (tgt := 37) (by decide +kernel) (by decide) (fun c1 => ?_) (fun c1 => ?_)
          · rw [if_neg c1] at hj
            refine j_iconst F (pc := 37) (n := 0) (v := 0) (by decide +kernel) (by decide +kernel) ?_
            exact hj
          · rw [if_pos c1] at hj
            refine j_aload_n F (pc := 28) (q := 0) (by decide +kernel) rfl ?_
            refine j_getR F (pc := 29) (hk.r hρ r_98_38) fl_X5_96 (hk.s c_98) rfl (by decide +kernel) ?_
            refine j_iload_n F (pc := 32) (q := 3) (by decide +kernel) rfl ?_
            refine j_iald F (pc := 33) (hk.s c_126) (hg.2.2 c0 c1) (by decide +kernel) ?_
            refine j_goto F (pc := 34) (off := 4) (tgt := 38) (by decide +kernel) (by decide) ?_
            exact hj
      refine j_iadd F (pc := 38) (by decide +kernel) ?_
      obtain ⟨x_3, e4, h⟩ := z_lt_some h
      rw [← e4]
      refine j_istore_n F (pc := 39) (q := 2) (L' := [some (.ref 98), some (.int x1), some (.int x_3), some (.int x3)]) (by decide +kernel) (by decide) rfl rfl ?_
      refine j_iinc F (pc := 40) (i := 3) (n := 1) (v := 1) (L' := [some (.ref 98), some (.int x1), some (.int x_3), some (.int (x3 + (1 : Int32)))]) (by decide +kernel) rfl (by decide +kernel) (by decide) rfl rfl ?_
      refine j_goto F (pc := 43) (off := -39) (tgt := 4) (by decide +kernel) (by decide) ?_
      exact ih _ _ _ _ hρ h
set_option maxHeartbeats 4000000 in
set_option maxRecDepth 100000 in
theorem t_X5_having {G : z_Gl} {ρ : Nat → Nat → Option Nat} {μ : z_M} {r : Int32} {μr : z_M} {x1 : Int32} (hρ : μ.2.2 = ρ) (hk : z_ok (z_sh G) ρ) (h : f_X5_having x1 μ = some (r, μr)) : z_Ci G yX5_having cX5_having 4 (some .int) 0 [.ref 98, .int x1] μ (fun r1 μ1 => r = r1 ∧ μr = μ1) := by
  unfold z_Ci
  refine z_intro (by decide +kernel) (Nat.le_of_ble_eq_true rfl) (fun E hE F Rt => ?_)
  subst hE
  have F : z_F E RX5 cX5_having 4 0 := F
  rw [hρ] at Rt
  unfold f_X5_having at h
  show z_J E 4 0 [some (.ref 98), some (.int x1), none, none] [] μ
  refine j_iconst F (pc := 0) (n := 0) (v := 0) (by decide +kernel) (by decide +kernel) ?_
  refine j_istore_n F (pc := 1) (q := 2) (L' := [some (.ref 98), some (.int x1), some (.int (0 : Int32)), none]) (by decide +kernel) (by decide) rfl rfl ?_
  refine j_iconst F (pc := 2) (n := 0) (v := 0) (by decide +kernel) (by decide +kernel) ?_
  refine j_istore_n F (pc := 3) (q := 3) (L' := [some (.ref 98), some (.int x1), some (.int (0 : Int32)), some (.int (0 : Int32))]) (by decide +kernel) (by decide) rfl rfl ?_
  refine u_X5_having_4 F Rt hk  z_N _ _ _ _ hρ h
def g_X5_has_25   (x1 : Int32) (x2 : Int32) (x3 : Int32) (x4 : Int32) (μ : z_M) : Option (Int32 × z_M) :=
  (z_b2 (f_X5_isGood (x2) (x3) μ) fun r8 μ9 => (if r8 = 0 then (some ((-1002 : Int32), μ9)) else (z_b1 (f_X5_payOut (x1) (x2) (x3) μ9) fun μ16 => (z_b2 (f_X5_having (x4) μ16) fun r21 μ22 => (some (r21, μ22))))))
def f_X5_has (x1 : Int32) (x2 : Int32) (x3 : Int32) (x4 : Int32) (μ : z_M) : Option (Int32 × z_M) :=
  (z_b2 (f_X5_isLand (x1) μ) fun r1 μ2 => (if r1 = 0 then (some ((-1001 : Int32), μ2)) else (if x4 = (-1 : Int32) then (g_X5_has_25   (x1) (x2) (x3) (x4) μ2) else (z_b2 (f_X5_isHolder (x4) μ2) fun r28 μ29 => (if r28 = 0 then (some ((-1001 : Int32), μ29)) else (g_X5_has_25   (x1) (x2) (x3) (x4) μ29))))))
set_option maxHeartbeats 4000000 in
set_option maxRecDepth 100000 in
theorem u_X5_has_25 {E : z_E} {ρ : Nat → Nat → Option Nat} {r : Int32} {μr : z_M} (F : z_F E RX5 cX5_has 5 6) (Rt : z_R E (some .int) (fun v μ1 => μ1.2.2 = ρ ∧ ∃ r1, v = some (.int r1) ∧ r = r1 ∧ μr = μ1))  (hk : z_ok (z_sh E.1) ρ) : ∀ (x1 : Int32) (x2 : Int32) (x3 : Int32) (x4 : Int32) (μ : z_M), μ.2.2 = ρ → g_X5_has_25   x1 x2 x3 x4 μ = some (r, μr) → z_J E 5 25 [some (.ref 98), some (.int x1), some (.int x2), some (.int x3), some (.int x4)] [] μ := by
  intro x1 x2 x3 x4 μ hρ h
  unfold g_X5_has_25 at h
  refine j_iload_n F (pc := 25) (q := 2) (by decide +kernel) rfl ?_
  refine j_iload_n F (pc := 26) (q := 3) (by decide +kernel) rfl ?_
  obtain ⟨r8, μ9, hc11, h⟩ := z_b2_some h
  refine j_callSi F (pc := 27) (idx := 336) (As := [.int x2, .int x3]) (st := []) (t_X5_isGood (G := E.1) hρ  hc11) q_X5_isGood m_1254 m_1253 rfl (by decide) (Nat.le_of_ble_eq_true rfl) rfl (by decide +kernel) (fun s14 ν12 hq13 hp => ?_)
  obtain ⟨rfl, rfl⟩ := hp
  have hρ10 : μ9.2.2 = ρ := hq13.trans hρ
  refine j_if_ne F (pc := 30) (off := 7) (tgt := 37) (by decide +kernel) (by decide) (fun c => ?_) (fun c => ?_)
  · rw [if_neg c] at h
    refine j_aload_n F (pc := 37) (q := 0) (by decide +kernel) rfl ?_
    refine j_iload_n F (pc := 38) (q := 1) (by decide +kernel) rfl ?_
    refine j_iload_n F (pc := 39) (q := 2) (by decide +kernel) rfl ?_
    refine j_iload_n F (pc := 40) (q := 3) (by decide +kernel) rfl ?_
    obtain ⟨μ16, hc18, h⟩ := z_b1_some h
    refine j_callVv F (pc := 41) (idx := 340) (As := [.int x1, .int x2, .int x3]) (st := []) (t_X5_payOut (G := E.1) hρ10 hk hc18) q_X5_payOut v_X5_payOut m_1256 (hk.s c_98) rfl rfl (by decide) (Nat.le_of_ble_eq_true rfl) rfl (by decide +kernel) (fun ν19 hq20 hp => ?_)
    subst hp
    have hρ17 : μ16.2.2 = ρ := hq20.trans hρ10
    refine j_aload_n F (pc := 44) (q := 0) (by decide +kernel) rfl ?_
    refine j_iload F (pc := 45) (i := 4) (by decide +kernel) rfl ?_
    obtain ⟨r21, μ22, hc24, h⟩ := z_b2_some h
    refine j_callVi F (pc := 47) (idx := 343) (As := [.int x4]) (st := []) (t_X5_having (G := E.1) hρ17 hk hc24) q_X5_having v_X5_having m_1292 (hk.s c_98) rfl rfl (by decide) (Nat.le_of_ble_eq_true rfl) rfl (by decide +kernel) (fun s27 ν25 hq26 hp => ?_)
    obtain ⟨rfl, rfl⟩ := hp
    have hρ23 : μ22.2.2 = ρ := hq26.trans hρ17
    exact j_iret (st := []) F Rt rfl (by decide +kernel) ⟨hρ23, _, rfl, (congrArg Prod.fst (Option.some.inj h)).symm, (congrArg Prod.snd (Option.some.inj h)).symm⟩
  · rw [if_pos c] at h
    refine j_sipush F (pc := 33) (n := -1002) (v := -1002) (by decide +kernel) (by decide +kernel) ?_
    exact j_iret (st := []) F Rt rfl (by decide +kernel) ⟨hρ10, _, rfl, (congrArg Prod.fst (Option.some.inj h)).symm, (congrArg Prod.snd (Option.some.inj h)).symm⟩
set_option maxHeartbeats 4000000 in
set_option maxRecDepth 100000 in
theorem t_X5_has {G : z_Gl} {ρ : Nat → Nat → Option Nat} {μ : z_M} {r : Int32} {μr : z_M} {x1 : Int32} {x2 : Int32} {x3 : Int32} {x4 : Int32} (hρ : μ.2.2 = ρ) (hk : z_ok (z_sh G) ρ) (h : f_X5_has x1 x2 x3 x4 μ = some (r, μr)) : z_Ci G yX5_has cX5_has 5 (some .int) 6 [.ref 98, .int x1, .int x2, .int x3, .int x4] μ (fun r1 μ1 => r = r1 ∧ μr = μ1) := by
  unfold z_Ci
  refine z_intro (by decide +kernel) (Nat.le_of_ble_eq_true rfl) (fun E hE F Rt => ?_)
  subst hE
  have F : z_F E RX5 cX5_has 5 6 := F
  rw [hρ] at Rt
  unfold f_X5_has at h
  show z_J E 5 0 [some (.ref 98), some (.int x1), some (.int x2), some (.int x3), some (.int x4)] [] μ
  refine j_iload_n F (pc := 0) (q := 1) (by decide +kernel) rfl ?_
  obtain ⟨r1, μ2, hc4, h⟩ := z_b2_some h
  refine j_callSi F (pc := 1) (idx := 246) (As := [.int x1]) (st := []) (t_X5_isLand (G := E.1) hρ  hc4) q_X5_isLand m_1058 m_1057 rfl (by decide) (Nat.le_of_ble_eq_true rfl) rfl (by decide +kernel) (fun s7 ν5 hq6 hp => ?_)
  obtain ⟨rfl, rfl⟩ := hp
  have hρ3 : μ2.2.2 = ρ := hq6.trans hρ
  refine j_if_eq F (pc := 4) (off := 17) (tgt := 21) (by decide +kernel) (by decide) (fun c => ?_) (fun c => ?_)
  · rw [if_pos c] at h
    refine j_sipush F (pc := 21) (n := -1001) (v := -1001) (by decide +kernel) (by decide +kernel) ?_
    exact j_iret (st := []) F Rt rfl (by decide +kernel) ⟨hρ3, _, rfl, (congrArg Prod.fst (Option.some.inj h)).symm, (congrArg Prod.snd (Option.some.inj h)).symm⟩
  · rw [if_neg c] at h
    refine j_iload F (pc := 7) (i := 4) (by decide +kernel) rfl ?_
    refine j_iconst F (pc := 9) (n := -1) (v := -1) (by decide +kernel) (by decide +kernel) ?_
    refine j_icmp_eq F (pc := 10) (off := 15) (tgt := 25) (by decide +kernel) (by decide) (fun c => ?_) (fun c => ?_)
    · rw [if_pos c] at h
      refine u_X5_has_25 F Rt hk  _ _ _ _ _ hρ3 h
    · rw [if_neg c] at h
      refine j_iload F (pc := 13) (i := 4) (by decide +kernel) rfl ?_
      obtain ⟨r28, μ29, hc31, h⟩ := z_b2_some h
      refine j_callSi F (pc := 15) (idx := 277) (As := [.int x4]) (st := []) (t_X5_isHolder (G := E.1) hρ3  hc31) q_X5_isHolder m_1169 m_1168 rfl (by decide) (Nat.le_of_ble_eq_true rfl) rfl (by decide +kernel) (fun s34 ν32 hq33 hp => ?_)
      obtain ⟨rfl, rfl⟩ := hp
      have hρ30 : μ29.2.2 = ρ := hq33.trans hρ3
      refine j_if_ne F (pc := 18) (off := 7) (tgt := 25) (by decide +kernel) (by decide) (fun c => ?_) (fun c => ?_)
      · rw [if_neg c] at h
        refine u_X5_has_25 F Rt hk  _ _ _ _ _ hρ30 h
      · rw [if_pos c] at h
        refine j_sipush F (pc := 21) (n := -1001) (v := -1001) (by decide +kernel) (by decide +kernel) ?_
        exact j_iret (st := []) F Rt rfl (by decide +kernel) ⟨hρ30, _, rfl, (congrArg Prod.fst (Option.some.inj h)).symm, (congrArg Prod.snd (Option.some.inj h)).symm⟩
/-- LastLentModel.order -/
def f_X5_order (x1 : Int32) (x2 : Int32) (x3 : Int32) (x4 : Int32) (μ : z_M) : Option (Int32 × z_M) :=
  (z_b2 (f_X5_isLand (x1) μ) fun r1 μ2 => (if r1 = 0 then (some ((-1001 : Int32), μ2)) else (z_b2 (f_X5_isFund (x4) μ2) fun r8 μ9 => (if r8 = 0 then (some ((-1001 : Int32), μ9)) else (z_b2 (f_X5_isGood (x2) (x3) μ9) fun r15 μ16 => (if r15 = 0 then (some ((-1002 : Int32), μ16)) else (z_b1 (f_X5_payOut (x1) (x2) (x3) μ16) fun μ23 => (if z_in x4 5 then (some ((μ23.1 128 x4.toNatClampNeg), μ23)) else none))))))))
set_option maxHeartbeats 4000000 in
set_option maxRecDepth 100000 in
theorem t_X5_order {G : z_Gl} {ρ : Nat → Nat → Option Nat} {μ : z_M} {r : Int32} {μr : z_M} {x1 : Int32} {x2 : Int32} {x3 : Int32} {x4 : Int32} (hρ : μ.2.2 = ρ) (hk : z_ok (z_sh G) ρ) (h : f_X5_order x1 x2 x3 x4 μ = some (r, μr)) : z_Ci G yX5_order cX5_order 5 (some .int) 6 [.ref 98, .int x1, .int x2, .int x3, .int x4] μ (fun r1 μ1 => r = r1 ∧ μr = μ1) := by
  unfold z_Ci
  refine z_intro (by decide +kernel) (Nat.le_of_ble_eq_true rfl) (fun E hE F Rt => ?_)
  subst hE
  have F : z_F E RX5 cX5_order 5 6 := F
  rw [hρ] at Rt
  unfold f_X5_order at h
  show z_J E 5 0 [some (.ref 98), some (.int x1), some (.int x2), some (.int x3), some (.int x4)] [] μ
  refine j_iload_n F (pc := 0) (q := 1) (by decide +kernel) rfl ?_
  obtain ⟨r1, μ2, hc4, h⟩ := z_b2_some h
  refine j_callSi F (pc := 1) (idx := 246) (As := [.int x1]) (st := []) (t_X5_isLand (G := E.1) hρ  hc4) q_X5_isLand m_1058 m_1057 rfl (by decide) (Nat.le_of_ble_eq_true rfl) rfl (by decide +kernel) (fun s7 ν5 hq6 hp => ?_)
  obtain ⟨rfl, rfl⟩ := hp
  have hρ3 : μ2.2.2 = ρ := hq6.trans hρ
  refine j_if_eq F (pc := 4) (off := 11) (tgt := 15) (by decide +kernel) (by decide) (fun c => ?_) (fun c => ?_)
  · rw [if_pos c] at h
    refine j_sipush F (pc := 15) (n := -1001) (v := -1001) (by decide +kernel) (by decide +kernel) ?_
    exact j_iret (st := []) F Rt rfl (by decide +kernel) ⟨hρ3, _, rfl, (congrArg Prod.fst (Option.some.inj h)).symm, (congrArg Prod.snd (Option.some.inj h)).symm⟩
  · rw [if_neg c] at h
    refine j_iload F (pc := 7) (i := 4) (by decide +kernel) rfl ?_
    obtain ⟨r8, μ9, hc11, h⟩ := z_b2_some h
    refine j_callSi F (pc := 9) (idx := 289) (As := [.int x4]) (st := []) (t_X5_isFund (G := E.1) hρ3  hc11) q_X5_isFund m_1190 m_1189 rfl (by decide) (Nat.le_of_ble_eq_true rfl) rfl (by decide +kernel) (fun s14 ν12 hq13 hp => ?_)
    obtain ⟨rfl, rfl⟩ := hp
    have hρ10 : μ9.2.2 = ρ := hq13.trans hρ3
    refine j_if_ne F (pc := 12) (off := 7) (tgt := 19) (by decide +kernel) (by decide) (fun c => ?_) (fun c => ?_)
    · rw [if_neg c] at h
      refine j_iload_n F (pc := 19) (q := 2) (by decide +kernel) rfl ?_
      refine j_iload_n F (pc := 20) (q := 3) (by decide +kernel) rfl ?_
      obtain ⟨r15, μ16, hc18, h⟩ := z_b2_some h
      refine j_callSi F (pc := 21) (idx := 336) (As := [.int x2, .int x3]) (st := []) (t_X5_isGood (G := E.1) hρ10  hc18) q_X5_isGood m_1254 m_1253 rfl (by decide) (Nat.le_of_ble_eq_true rfl) rfl (by decide +kernel) (fun s21 ν19 hq20 hp => ?_)
      obtain ⟨rfl, rfl⟩ := hp
      have hρ17 : μ16.2.2 = ρ := hq20.trans hρ10
      refine j_if_ne F (pc := 24) (off := 7) (tgt := 31) (by decide +kernel) (by decide) (fun c => ?_) (fun c => ?_)
      · rw [if_neg c] at h
        refine j_aload_n F (pc := 31) (q := 0) (by decide +kernel) rfl ?_
        refine j_iload_n F (pc := 32) (q := 1) (by decide +kernel) rfl ?_
        refine j_iload_n F (pc := 33) (q := 2) (by decide +kernel) rfl ?_
        refine j_iload_n F (pc := 34) (q := 3) (by decide +kernel) rfl ?_
        obtain ⟨μ23, hc25, h⟩ := z_b1_some h
        refine j_callVv F (pc := 35) (idx := 340) (As := [.int x1, .int x2, .int x3]) (st := []) (t_X5_payOut (G := E.1) hρ17 hk hc25) q_X5_payOut v_X5_payOut m_1256 (hk.s c_98) rfl rfl (by decide) (Nat.le_of_ble_eq_true rfl) rfl (by decide +kernel) (fun ν26 hq27 hp => ?_)
        subst hp
        have hρ24 : μ23.2.2 = ρ := hq27.trans hρ17
        refine j_aload_n F (pc := 38) (q := 0) (by decide +kernel) rfl ?_
        refine j_getR F (pc := 39) (hk.r hρ24 r_98_40) fl_X5_102 (hk.s c_98) rfl (by decide +kernel) ?_
        refine j_iload F (pc := 42) (i := 4) (by decide +kernel) rfl ?_
        obtain ⟨hg, h⟩ := z_ifs h
        refine j_iald F (pc := 44) (hk.s c_128) hg (by decide +kernel) ?_
        exact j_iret (st := []) F Rt rfl (by decide +kernel) ⟨hρ24, _, rfl, (congrArg Prod.fst (Option.some.inj h)).symm, (congrArg Prod.snd (Option.some.inj h)).symm⟩
      · rw [if_pos c] at h
        refine j_sipush F (pc := 27) (n := -1002) (v := -1002) (by decide +kernel) (by decide +kernel) ?_
        exact j_iret (st := []) F Rt rfl (by decide +kernel) ⟨hρ17, _, rfl, (congrArg Prod.fst (Option.some.inj h)).symm, (congrArg Prod.snd (Option.some.inj h)).symm⟩
    · rw [if_pos c] at h
      refine j_sipush F (pc := 15) (n := -1001) (v := -1001) (by decide +kernel) (by decide +kernel) ?_
      exact j_iret (st := []) F Rt rfl (by decide +kernel) ⟨hρ10, _, rfl, (congrArg Prod.fst (Option.some.inj h)).symm, (congrArg Prod.snd (Option.some.inj h)).symm⟩
def g_X5_back_109   : Nat → Int32 → Int32 → Int32 → Int32 → Int32 → z_M → Option (Int32 × z_M)
  | 0, _, _, _, _, _, _ => none
  | n + 1, x4, x6, x7, x8, x9, μ => (if (3 : Int32) ≤ x9 then (if z_in (0 : Int32) 5 then (if z_in x4 3 then (if ¬ x6 = 0 then (if z_in x4 3 then (some (((((μ.1 127 (0 : Int32).toNatClampNeg) * (μ.1 129 x4.toNatClampNeg)) / x6) + (if (μ.1 129 x4.toNatClampNeg) ≤ 0 then (0 : Int32) else (if x7 ≤ x8 then (0 : Int32) else (1 : Int32)))), μ)) else none) else none) else none) else none) else (if z_in (0 : Int32) 5 then (if z_in x9 3 then (if ¬ x6 = 0 then (z_lt (x7 - (((μ.1 127 (0 : Int32).toNatClampNeg) * (μ.1 129 x9.toNatClampNeg)) / x6)) fun x_39 => (if (¬ (x4 ≤ x9) → z_in x9 3) then (z_lt (x8 + (if x4 ≤ x9 then (0 : Int32) else (if (μ.1 129 x9.toNatClampNeg) ≤ 0 then (0 : Int32) else (1 : Int32)))) fun x_41 => (g_X5_back_109   n (x4) (x6) (x_39) (x_41) ((x9 + (1 : Int32))) μ)) else none)) else none) else none) else none))
def f_X5_back (x1 : Int32) (x2 : Int32) (x3 : Int32) (x4 : Int32) (x5 : Int32) (μ : z_M) : Option (Int32 × z_M) :=
  (z_b2 (f_X5_isLand (x1) μ) fun r1 μ2 => (if r1 = 0 then (some ((-1001 : Int32), μ2)) else (z_b2 (f_X5_isCargo (x4) μ2) fun r8 μ9 => (if r8 = 0 then (some ((-1001 : Int32), μ9)) else (z_b2 (f_X5_isGood (x2) (x3) μ9) fun r15 μ16 => (if r15 = 0 then (some ((-1002 : Int32), μ16)) else (z_b2 (f_X5_in ((x5).toInt64) ((0 : Int64)) ((1 : Int64)) μ16) fun r22 μ23 => (if r22 = 0 then (some ((-1002 : Int32), μ23)) else (z_b1 (f_X5_payOut (x1) (x2) (x3) μ23) fun μ30 => (if z_in (0 : Int32) 3 then (if z_in (1 : Int32) 3 then (if z_in (2 : Int32) 3 then (z_lt (((μ30.1 129 (0 : Int32).toNatClampNeg) + (μ30.1 129 (1 : Int32).toNatClampNeg)) + (μ30.1 129 (2 : Int32).toNatClampNeg)) fun x_35 => (if x5 = 0 then (if z_in x4 3 then (some ((μ30.1 129 x4.toNatClampNeg), μ30)) else none) else (if z_in (0 : Int32) 5 then (if (μ30.1 127 (0 : Int32).toNatClampNeg) < x_35 then (if z_in (0 : Int32) 5 then (z_lt (μ30.1 127 (0 : Int32).toNatClampNeg) fun x_37 => (g_X5_back_109   z_N (x4) (x_35) (x_37) ((0 : Int32)) ((0 : Int32)) μ30)) else none) else (if z_in x4 3 then (some ((μ30.1 129 x4.toNatClampNeg), μ30)) else none)) else none))) else none) else none) else none))))))))))
set_option maxHeartbeats 4000000 in
set_option maxRecDepth 100000 in
theorem u_X5_back_109 {E : z_E} {ρ : Nat → Nat → Option Nat} {r : Int32} {μr : z_M} (F : z_F E RX5 cX5_back 10 6) (Rt : z_R E (some .int) (fun v μ1 => μ1.2.2 = ρ ∧ ∃ r1, v = some (.int r1) ∧ r = r1 ∧ μr = μ1))  (hk : z_ok (z_sh E.1) ρ) : ∀ (n : Nat) (x4 : Int32) (x6 : Int32) (x7 : Int32) (x8 : Int32) (x9 : Int32) (μ : z_M), μ.2.2 = ρ → g_X5_back_109   n x4 x6 x7 x8 x9 μ = some (r, μr) → z_J E 10 109 [some (.ref 98), none, none, none, some (.int x4), none, some (.int x6), some (.int x7), some (.int x8), some (.int x9)] [] μ := by
  intro n
  induction n with
  | zero =>
    intro x4 x6 x7 x8 x9 μ hρ h
    rw [g_X5_back_109] at h
    cases h
  | succ n ih =>
    intro x4 x6 x7 x8 x9 μ hρ h
    rw [g_X5_back_109] at h
    refine j_iload F (pc := 109) (i := 9) (by decide +kernel) rfl ?_
    refine j_iconst F (pc := 111) (n := 3) (v := 3) (by decide +kernel) (by decide +kernel) ?_
    refine j_icmp_ge F (pc := 112) (off := 58) (tgt := 170) (by decide +kernel) (by decide) (fun c => ?_) (fun c => ?_)
    · rw [if_pos c] at h
      refine j_aload_n F (pc := 170) (q := 0) (by decide +kernel) rfl ?_
      refine j_getR F (pc := 171) (hk.r hρ r_98_39) fl_X5_99 (hk.s c_98) rfl (by decide +kernel) ?_
      refine j_iconst F (pc := 174) (n := 0) (v := 0) (by decide +kernel) (by decide +kernel) ?_
      obtain ⟨hg, h⟩ := z_ifs h
      refine j_iald F (pc := 175) (hk.s c_127) hg (by decide +kernel) ?_
      refine j_aload_n F (pc := 176) (q := 0) (by decide +kernel) rfl ?_
      refine j_getR F (pc := 177) (hk.r hρ r_98_41) fl_X5_105 (hk.s c_98) rfl (by decide +kernel) ?_
      refine j_iload F (pc := 180) (i := 4) (by decide +kernel) rfl ?_
      obtain ⟨hg, h⟩ := z_ifs h
      refine j_iald F (pc := 182) (hk.s c_129) hg (by decide +kernel) ?_
      refine j_imul F (pc := 183) (by decide +kernel) ?_
      refine j_iload F (pc := 184) (i := 6) (by decide +kernel) rfl ?_
      obtain ⟨hg, h⟩ := z_ifs h
      refine j_idiv F (pc := 186) (by decide +kernel) hg ?_
      refine j_aload_n F (pc := 187) (q := 0) (by decide +kernel) rfl ?_
      refine j_getR F (pc := 188) (hk.r hρ r_98_41) fl_X5_105 (hk.s c_98) rfl (by decide +kernel) ?_
      refine j_iload F (pc := 191) (i := 4) (by decide +kernel) rfl ?_
      obtain ⟨hg, h⟩ := z_ifs h
      refine j_iald F (pc := 193) (hk.s c_129) hg (by decide +kernel) ?_
      suffices hj : z_J E 10 209 [some (.ref 98), none, none, none, some (.int x4), none, some (.int x6), some (.int x7), some (.int x8), some (.int x9)] (.int (if (μ.1 129 x4.toNatClampNeg) ≤ 0 then (0 : Int32) else (if x7 ≤ x8 then (0 : Int32) else (1 : Int32))) :: [.int (((μ.1 127 (0 : Int32).toNatClampNeg) * (μ.1 129 x4.toNatClampNeg)) / x6)]) μ by
        refine j_if_le F (pc := 194) (off := 14) (tgt := 208) (by decide +kernel) (by decide) (fun c0 => ?_) (fun c0 => ?_)
        · rw [if_pos c0] at hj
          refine j_iconst F (pc := 208) (n := 0) (v := 0) (by decide +kernel) (by decide +kernel) ?_
          exact hj
        · rw [if_neg c0] at hj
          refine j_iload F (pc := 197) (i := 8) (by decide +kernel) rfl ?_
          refine j_iload F (pc := 199) (i := 7) (by decide +kernel) rfl ?_
          refine j_icmp_ge F (pc := 201) (off := 7) (tgt := 208) (by decide +kernel) (by decide) (fun c1 => ?_) (fun c1 => ?_)
          · rw [if_pos c1] at hj
            refine j_iconst F (pc := 208) (n := 0) (v := 0) (by decide +kernel) (by decide +kernel) ?_
            exact hj
          · rw [if_neg c1] at hj
            refine j_iconst F (pc := 204) (n := 1) (v := 1) (by decide +kernel) (by decide +kernel) ?_
            refine j_goto F (pc := 205) (off := 4) (tgt := 209) (by decide +kernel) (by decide) ?_
            exact hj
      refine j_iadd F (pc := 209) (by decide +kernel) ?_
      exact j_iret (st := []) F Rt rfl (by decide +kernel) ⟨hρ, _, rfl, (congrArg Prod.fst (Option.some.inj h)).symm, (congrArg Prod.snd (Option.some.inj h)).symm⟩
    · rw [if_neg c] at h
      refine j_iload F (pc := 115) (i := 7) (by decide +kernel) rfl ?_
      refine j_aload_n F (pc := 117) (q := 0) (by decide +kernel) rfl ?_
      refine j_getR F (pc := 118) (hk.r hρ r_98_39) fl_X5_99 (hk.s c_98) rfl (by decide +kernel) ?_
      refine j_iconst F (pc := 121) (n := 0) (v := 0) (by decide +kernel) (by decide +kernel) ?_
      obtain ⟨hg, h⟩ := z_ifs h
      refine j_iald F (pc := 122) (hk.s c_127) hg (by decide +kernel) ?_
      refine j_aload_n F (pc := 123) (q := 0) (by decide +kernel) rfl ?_
      refine j_getR F (pc := 124) (hk.r hρ r_98_41) fl_X5_105 (hk.s c_98) rfl (by decide +kernel) ?_
      refine j_iload F (pc := 127) (i := 9) (by decide +kernel) rfl ?_
      obtain ⟨hg, h⟩ := z_ifs h
      refine j_iald F (pc := 129) (hk.s c_129) hg (by decide +kernel) ?_
      refine j_imul F (pc := 130) (by decide +kernel) ?_
      refine j_iload F (pc := 131) (i := 6) (by decide +kernel) rfl ?_
      obtain ⟨hg, h⟩ := z_ifs h
      refine j_idiv F (pc := 133) (by decide +kernel) hg ?_
      refine j_isub F (pc := 134) (by decide +kernel) ?_
      obtain ⟨x_39, e40, h⟩ := z_lt_some h
      rw [← e40]
      refine j_istore F (pc := 135) (i := 7) (L' := [some (.ref 98), none, none, none, some (.int x4), none, some (.int x6), some (.int x_39), some (.int x8), some (.int x9)]) (by decide +kernel) (by decide) rfl rfl ?_
      refine j_iload F (pc := 137) (i := 8) (by decide +kernel) rfl ?_
      refine j_iload F (pc := 139) (i := 9) (by decide +kernel) rfl ?_
      refine j_iload F (pc := 141) (i := 4) (by decide +kernel) rfl ?_
      obtain ⟨hg, h⟩ := z_ifs h
      suffices hj : z_J E 10 161 [some (.ref 98), none, none, none, some (.int x4), none, some (.int x6), some (.int x_39), some (.int x8), some (.int x9)] (.int (if x4 ≤ x9 then (0 : Int32) else (if (μ.1 129 x9.toNatClampNeg) ≤ 0 then (0 : Int32) else (1 : Int32))) :: [.int x8]) μ by
        refine j_icmp_ge F (pc := 143) (off := 17) (tgt := 160) (by decide +kernel) (by decide) (fun c0 => ?_) (fun c0 => ?_)
        · rw [if_pos c0] at hj
          refine j_iconst F (pc := 160) (n := 0) (v := 0) (by decide +kernel) (by decide +kernel) ?_
          exact hj
        · rw [if_neg c0] at hj
          refine j_aload_n F (pc := 146) (q := 0) (by decide +kernel) rfl ?_
          refine j_getR F (pc := 147) (hk.r hρ r_98_41) fl_X5_105 (hk.s c_98) rfl (by decide +kernel) ?_
          refine j_iload F (pc := 150) (i := 9) (by decide +kernel) rfl ?_
          refine j_iald F (pc := 152) (hk.s c_129) (hg c0) (by decide +kernel) ?_
          refine j_if_le F (pc := 153) (off := 7) (tgt := 160) (by decide +kernel) (by decide) (fun c1 => ?_) (fun c1 => ?_)
          · rw [if_pos c1] at hj
            refine j_iconst F (pc := 160) (n := 0) (v := 0) (by decide +kernel) (by decide +kernel) ?_
            exact hj
          · rw [if_neg c1] at hj
            refine j_iconst F (pc := 156) (n := 1) (v := 1) (by decide +kernel) (by decide +kernel) ?_
            refine j_goto F (pc := 157) (off := 4) (tgt := 161) (by decide +kernel) (by decide) ?_
            exact hj
      refine j_iadd F (pc := 161) (by decide +kernel) ?_
      obtain ⟨x_41, e42, h⟩ := z_lt_some h
      rw [← e42]
      refine j_istore F (pc := 162) (i := 8) (L' := [some (.ref 98), none, none, none, some (.int x4), none, some (.int x6), some (.int x_39), some (.int x_41), some (.int x9)]) (by decide +kernel) (by decide) rfl rfl ?_
      refine j_iinc F (pc := 164) (i := 9) (n := 1) (v := 1) (L' := [some (.ref 98), none, none, none, some (.int x4), none, some (.int x6), some (.int x_39), some (.int x_41), some (.int (x9 + (1 : Int32)))]) (by decide +kernel) rfl (by decide +kernel) (by decide) rfl rfl ?_
      refine j_goto F (pc := 167) (off := -58) (tgt := 109) (by decide +kernel) (by decide) ?_
      exact ih _ _ _ _ _ _ hρ h
set_option maxHeartbeats 4000000 in
set_option maxRecDepth 100000 in
theorem t_X5_back {G : z_Gl} {ρ : Nat → Nat → Option Nat} {μ : z_M} {r : Int32} {μr : z_M} {x1 : Int32} {x2 : Int32} {x3 : Int32} {x4 : Int32} {x5 : Int32} (hρ : μ.2.2 = ρ) (hk : z_ok (z_sh G) ρ) (h : f_X5_back x1 x2 x3 x4 x5 μ = some (r, μr)) : z_Ci G yX5_back cX5_back 10 (some .int) 6 [.ref 98, .int x1, .int x2, .int x3, .int x4, .int x5] μ (fun r1 μ1 => r = r1 ∧ μr = μ1) := by
  unfold z_Ci
  refine z_intro (by decide +kernel) (Nat.le_of_ble_eq_true rfl) (fun E hE F Rt => ?_)
  subst hE
  have F : z_F E RX5 cX5_back 10 6 := F
  rw [hρ] at Rt
  unfold f_X5_back at h
  show z_J E 10 0 [some (.ref 98), some (.int x1), some (.int x2), some (.int x3), some (.int x4), some (.int x5), none, none, none, none] [] μ
  refine j_iload_n F (pc := 0) (q := 1) (by decide +kernel) rfl ?_
  obtain ⟨r1, μ2, hc4, h⟩ := z_b2_some h
  refine j_callSi F (pc := 1) (idx := 246) (As := [.int x1]) (st := []) (t_X5_isLand (G := E.1) hρ  hc4) q_X5_isLand m_1058 m_1057 rfl (by decide) (Nat.le_of_ble_eq_true rfl) rfl (by decide +kernel) (fun s7 ν5 hq6 hp => ?_)
  obtain ⟨rfl, rfl⟩ := hp
  have hρ3 : μ2.2.2 = ρ := hq6.trans hρ
  refine j_if_eq F (pc := 4) (off := 11) (tgt := 15) (by decide +kernel) (by decide) (fun c => ?_) (fun c => ?_)
  · rw [if_pos c] at h
    refine j_sipush F (pc := 15) (n := -1001) (v := -1001) (by decide +kernel) (by decide +kernel) ?_
    exact j_iret (st := []) F Rt rfl (by decide +kernel) ⟨hρ3, _, rfl, (congrArg Prod.fst (Option.some.inj h)).symm, (congrArg Prod.snd (Option.some.inj h)).symm⟩
  · rw [if_neg c] at h
    refine j_iload F (pc := 7) (i := 4) (by decide +kernel) rfl ?_
    obtain ⟨r8, μ9, hc11, h⟩ := z_b2_some h
    refine j_callSi F (pc := 9) (idx := 296) (As := [.int x4]) (st := []) (t_X5_isCargo (G := E.1) hρ3  hc11) q_X5_isCargo m_1198 m_1197 rfl (by decide) (Nat.le_of_ble_eq_true rfl) rfl (by decide +kernel) (fun s14 ν12 hq13 hp => ?_)
    obtain ⟨rfl, rfl⟩ := hp
    have hρ10 : μ9.2.2 = ρ := hq13.trans hρ3
    refine j_if_ne F (pc := 12) (off := 7) (tgt := 19) (by decide +kernel) (by decide) (fun c => ?_) (fun c => ?_)
    · rw [if_neg c] at h
      refine j_iload_n F (pc := 19) (q := 2) (by decide +kernel) rfl ?_
      refine j_iload_n F (pc := 20) (q := 3) (by decide +kernel) rfl ?_
      obtain ⟨r15, μ16, hc18, h⟩ := z_b2_some h
      refine j_callSi F (pc := 21) (idx := 336) (As := [.int x2, .int x3]) (st := []) (t_X5_isGood (G := E.1) hρ10  hc18) q_X5_isGood m_1254 m_1253 rfl (by decide) (Nat.le_of_ble_eq_true rfl) rfl (by decide +kernel) (fun s21 ν19 hq20 hp => ?_)
      obtain ⟨rfl, rfl⟩ := hp
      have hρ17 : μ16.2.2 = ρ := hq20.trans hρ10
      refine j_if_eq F (pc := 24) (off := 14) (tgt := 38) (by decide +kernel) (by decide) (fun c => ?_) (fun c => ?_)
      · rw [if_pos c] at h
        refine j_sipush F (pc := 38) (n := -1002) (v := -1002) (by decide +kernel) (by decide +kernel) ?_
        exact j_iret (st := []) F Rt rfl (by decide +kernel) ⟨hρ17, _, rfl, (congrArg Prod.fst (Option.some.inj h)).symm, (congrArg Prod.snd (Option.some.inj h)).symm⟩
      · rw [if_neg c] at h
        refine j_iload F (pc := 27) (i := 5) (by decide +kernel) rfl ?_
        refine j_i2l F (pc := 29) (by decide +kernel) ?_
        refine j_lconst F (pc := 30) (n := 0) (v := 0) (by decide +kernel) (by decide +kernel) ?_
        refine j_lconst F (pc := 31) (n := 1) (v := 1) (by decide +kernel) (by decide +kernel) ?_
        obtain ⟨r22, μ23, hc25, h⟩ := z_b2_some h
        refine j_callSi F (pc := 32) (idx := 138) (As := [.long (x5).toInt64, .long (0 : Int64), .long (1 : Int64)]) (st := []) (t_X5_in (G := E.1) hρ17  hc25) q_X5_in m_1050 m_1049 rfl (by decide) (Nat.le_of_ble_eq_true rfl) rfl (by decide +kernel) (fun s28 ν26 hq27 hp => ?_)
        obtain ⟨rfl, rfl⟩ := hp
        have hρ24 : μ23.2.2 = ρ := hq27.trans hρ17
        refine j_if_ne F (pc := 35) (off := 7) (tgt := 42) (by decide +kernel) (by decide) (fun c => ?_) (fun c => ?_)
        · rw [if_neg c] at h
          refine j_aload_n F (pc := 42) (q := 0) (by decide +kernel) rfl ?_
          refine j_iload_n F (pc := 43) (q := 1) (by decide +kernel) rfl ?_
          refine j_iload_n F (pc := 44) (q := 2) (by decide +kernel) rfl ?_
          refine j_iload_n F (pc := 45) (q := 3) (by decide +kernel) rfl ?_
          obtain ⟨μ30, hc32, h⟩ := z_b1_some h
          refine j_callVv F (pc := 46) (idx := 340) (As := [.int x1, .int x2, .int x3]) (st := []) (t_X5_payOut (G := E.1) hρ24 hk hc32) q_X5_payOut v_X5_payOut m_1256 (hk.s c_98) rfl rfl (by decide) (Nat.le_of_ble_eq_true rfl) rfl (by decide +kernel) (fun ν33 hq34 hp => ?_)
          subst hp
          have hρ31 : μ30.2.2 = ρ := hq34.trans hρ24
          refine j_aload_n F (pc := 49) (q := 0) (by decide +kernel) rfl ?_
          refine j_getR F (pc := 50) (hk.r hρ31 r_98_41) fl_X5_105 (hk.s c_98) rfl (by decide +kernel) ?_
          refine j_iconst F (pc := 53) (n := 0) (v := 0) (by decide +kernel) (by decide +kernel) ?_
          obtain ⟨hg, h⟩ := z_ifs h
          refine j_iald F (pc := 54) (hk.s c_129) hg (by decide +kernel) ?_
          refine j_aload_n F (pc := 55) (q := 0) (by decide +kernel) rfl ?_
          refine j_getR F (pc := 56) (hk.r hρ31 r_98_41) fl_X5_105 (hk.s c_98) rfl (by decide +kernel) ?_
          refine j_iconst F (pc := 59) (n := 1) (v := 1) (by decide +kernel) (by decide +kernel) ?_
          obtain ⟨hg, h⟩ := z_ifs h
          refine j_iald F (pc := 60) (hk.s c_129) hg (by decide +kernel) ?_
          refine j_iadd F (pc := 61) (by decide +kernel) ?_
          refine j_aload_n F (pc := 62) (q := 0) (by decide +kernel) rfl ?_
          refine j_getR F (pc := 63) (hk.r hρ31 r_98_41) fl_X5_105 (hk.s c_98) rfl (by decide +kernel) ?_
          refine j_iconst F (pc := 66) (n := 2) (v := 2) (by decide +kernel) (by decide +kernel) ?_
          obtain ⟨hg, h⟩ := z_ifs h
          refine j_iald F (pc := 67) (hk.s c_129) hg (by decide +kernel) ?_
          refine j_iadd F (pc := 68) (by decide +kernel) ?_
          obtain ⟨x_35, e36, h⟩ := z_lt_some h
          rw [← e36]
          refine j_istore F (pc := 69) (i := 6) (L' := [some (.ref 98), some (.int x1), some (.int x2), some (.int x3), some (.int x4), some (.int x5), some (.int x_35), none, none, none]) (by decide +kernel) (by decide) rfl rfl ?_
          refine j_iload F (pc := 71) (i := 5) (by decide +kernel) rfl ?_
          refine j_if_eq F (pc := 73) (off := 14) (tgt := 87) (by decide +kernel) (by decide) (fun c => ?_) (fun c => ?_)
          · rw [if_pos c] at h
            refine j_aload_n F (pc := 87) (q := 0) (by decide +kernel) rfl ?_
            refine j_getR F (pc := 88) (hk.r hρ31 r_98_41) fl_X5_105 (hk.s c_98) rfl (by decide +kernel) ?_
            refine j_iload F (pc := 91) (i := 4) (by decide +kernel) rfl ?_
            obtain ⟨hg, h⟩ := z_ifs h
            refine j_iald F (pc := 93) (hk.s c_129) hg (by decide +kernel) ?_
            exact j_iret (st := []) F Rt rfl (by decide +kernel) ⟨hρ31, _, rfl, (congrArg Prod.fst (Option.some.inj h)).symm, (congrArg Prod.snd (Option.some.inj h)).symm⟩
          · rw [if_neg c] at h
            refine j_iload F (pc := 76) (i := 6) (by decide +kernel) rfl ?_
            refine j_aload_n F (pc := 78) (q := 0) (by decide +kernel) rfl ?_
            refine j_getR F (pc := 79) (hk.r hρ31 r_98_39) fl_X5_99 (hk.s c_98) rfl (by decide +kernel) ?_
            refine j_iconst F (pc := 82) (n := 0) (v := 0) (by decide +kernel) (by decide +kernel) ?_
            obtain ⟨hg, h⟩ := z_ifs h
            refine j_iald F (pc := 83) (hk.s c_127) hg (by decide +kernel) ?_
            refine j_icmp_gt F (pc := 84) (off := 11) (tgt := 95) (by decide +kernel) (by decide) (fun c => ?_) (fun c => ?_)
            · rw [if_pos c] at h
              refine j_aload_n F (pc := 95) (q := 0) (by decide +kernel) rfl ?_
              refine j_getR F (pc := 96) (hk.r hρ31 r_98_39) fl_X5_99 (hk.s c_98) rfl (by decide +kernel) ?_
              refine j_iconst F (pc := 99) (n := 0) (v := 0) (by decide +kernel) (by decide +kernel) ?_
              obtain ⟨hg, h⟩ := z_ifs h
              refine j_iald F (pc := 100) (hk.s c_127) hg (by decide +kernel) ?_
              obtain ⟨x_37, e38, h⟩ := z_lt_some h
              rw [← e38]
              refine j_istore F (pc := 101) (i := 7) (L' := [some (.ref 98), some (.int x1), some (.int x2), some (.int x3), some (.int x4), some (.int x5), some (.int x_35), some (.int x_37), none, none]) (by decide +kernel) (by decide) rfl rfl ?_
              refine j_iconst F (pc := 103) (n := 0) (v := 0) (by decide +kernel) (by decide +kernel) ?_
              refine j_istore F (pc := 104) (i := 8) (L' := [some (.ref 98), some (.int x1), some (.int x2), some (.int x3), some (.int x4), some (.int x5), some (.int x_35), some (.int x_37), some (.int (0 : Int32)), none]) (by decide +kernel) (by decide) rfl rfl ?_
              refine j_iconst F (pc := 106) (n := 0) (v := 0) (by decide +kernel) (by decide +kernel) ?_
              refine j_istore F (pc := 107) (i := 9) (L' := [some (.ref 98), some (.int x1), some (.int x2), some (.int x3), some (.int x4), some (.int x5), some (.int x_35), some (.int x_37), some (.int (0 : Int32)), some (.int (0 : Int32))]) (by decide +kernel) (by decide) rfl rfl ?_
              refine j_mk F [true, false, false, false, true, false, true, true, true, true] (L' := [some (.ref 98), none, none, none, some (.int x4), none, some (.int x_35), some (.int x_37), some (.int (0 : Int32)), some (.int (0 : Int32))]) rfl ?_
              refine u_X5_back_109 F Rt hk  z_N _ _ _ _ _ _ hρ31 h
            · rw [if_neg c] at h
              refine j_aload_n F (pc := 87) (q := 0) (by decide +kernel) rfl ?_
              refine j_getR F (pc := 88) (hk.r hρ31 r_98_41) fl_X5_105 (hk.s c_98) rfl (by decide +kernel) ?_
              refine j_iload F (pc := 91) (i := 4) (by decide +kernel) rfl ?_
              obtain ⟨hg, h⟩ := z_ifs h
              refine j_iald F (pc := 93) (hk.s c_129) hg (by decide +kernel) ?_
              exact j_iret (st := []) F Rt rfl (by decide +kernel) ⟨hρ31, _, rfl, (congrArg Prod.fst (Option.some.inj h)).symm, (congrArg Prod.snd (Option.some.inj h)).symm⟩
        · rw [if_pos c] at h
          refine j_sipush F (pc := 38) (n := -1002) (v := -1002) (by decide +kernel) (by decide +kernel) ?_
          exact j_iret (st := []) F Rt rfl (by decide +kernel) ⟨hρ24, _, rfl, (congrArg Prod.fst (Option.some.inj h)).symm, (congrArg Prod.snd (Option.some.inj h)).symm⟩
    · rw [if_pos c] at h
      refine j_sipush F (pc := 15) (n := -1001) (v := -1001) (by decide +kernel) (by decide +kernel) ?_
      exact j_iret (st := []) F Rt rfl (by decide +kernel) ⟨hρ10, _, rfl, (congrArg Prod.fst (Option.some.inj h)).symm, (congrArg Prod.snd (Option.some.inj h)).symm⟩
/-- LastLentModel.wake -/
def f_X5_wake (x1 : Int32) (x2 : Int32) (x3 : Int32) (x4 : Int32) (x5 : Int32) (μ : z_M) : Option (Int32 × z_M) :=
  (z_b2 (f_X5_isLand (x1) μ) fun r1 μ2 => (if r1 = 0 then (some ((-1001 : Int32), μ2)) else (z_b2 (f_X5_isClaim (x4) μ2) fun r8 μ9 => (if r8 = 0 then (some ((-1001 : Int32), μ9)) else (z_b2 (f_X5_isGood (x2) (x3) μ9) fun r15 μ16 => (if r15 = 0 then (some ((-1002 : Int32), μ16)) else (z_b2 (f_X5_isDay (x5) μ16) fun r22 μ23 => (if r22 = 0 then (some ((-1002 : Int32), μ23)) else (if z_in x4 15 then (z_lt (μ23.1 122 x4.toNatClampNeg) fun x_29 => (if z_in x4 15 then (z_st (z_si μ23 122 x4.toNatClampNeg x5) fun μ31 => (z_b1 (f_X5_payOut (x1) (x2) (x3) μ31) fun μ35 => (if z_in x4 15 then (z_st (z_si μ35 122 x4.toNatClampNeg x_29) fun μ40 => (if z_in x4 15 then (some ((μ40.1 126 x4.toNatClampNeg), μ40)) else none)) else none))) else none)) else none)))))))))
set_option maxHeartbeats 4000000 in
set_option maxRecDepth 100000 in
theorem t_X5_wake {G : z_Gl} {ρ : Nat → Nat → Option Nat} {μ : z_M} {r : Int32} {μr : z_M} {x1 : Int32} {x2 : Int32} {x3 : Int32} {x4 : Int32} {x5 : Int32} (hρ : μ.2.2 = ρ) (hk : z_ok (z_sh G) ρ) (h : f_X5_wake x1 x2 x3 x4 x5 μ = some (r, μr)) : z_Ci G yX5_wake cX5_wake 7 (some .int) 6 [.ref 98, .int x1, .int x2, .int x3, .int x4, .int x5] μ (fun r1 μ1 => r = r1 ∧ μr = μ1) := by
  unfold z_Ci
  refine z_intro (by decide +kernel) (Nat.le_of_ble_eq_true rfl) (fun E hE F Rt => ?_)
  subst hE
  have F : z_F E RX5 cX5_wake 7 6 := F
  rw [hρ] at Rt
  unfold f_X5_wake at h
  show z_J E 7 0 [some (.ref 98), some (.int x1), some (.int x2), some (.int x3), some (.int x4), some (.int x5), none] [] μ
  refine j_iload_n F (pc := 0) (q := 1) (by decide +kernel) rfl ?_
  obtain ⟨r1, μ2, hc4, h⟩ := z_b2_some h
  refine j_callSi F (pc := 1) (idx := 246) (As := [.int x1]) (st := []) (t_X5_isLand (G := E.1) hρ  hc4) q_X5_isLand m_1058 m_1057 rfl (by decide) (Nat.le_of_ble_eq_true rfl) rfl (by decide +kernel) (fun s7 ν5 hq6 hp => ?_)
  obtain ⟨rfl, rfl⟩ := hp
  have hρ3 : μ2.2.2 = ρ := hq6.trans hρ
  refine j_if_eq F (pc := 4) (off := 12) (tgt := 16) (by decide +kernel) (by decide) (fun c => ?_) (fun c => ?_)
  · rw [if_pos c] at h
    refine j_sipush F (pc := 16) (n := -1001) (v := -1001) (by decide +kernel) (by decide +kernel) ?_
    exact j_iret (st := []) F Rt rfl (by decide +kernel) ⟨hρ3, _, rfl, (congrArg Prod.fst (Option.some.inj h)).symm, (congrArg Prod.snd (Option.some.inj h)).symm⟩
  · rw [if_neg c] at h
    refine j_aload_n F (pc := 7) (q := 0) (by decide +kernel) rfl ?_
    refine j_iload F (pc := 8) (i := 4) (by decide +kernel) rfl ?_
    obtain ⟨r8, μ9, hc11, h⟩ := z_b2_some h
    refine j_callVi F (pc := 10) (idx := 284) (As := [.int x4]) (st := []) (t_X5_isClaim (G := E.1) hρ3 hk hc11) q_X5_isClaim v_X5_isClaim m_1180 (hk.s c_98) rfl rfl (by decide) (Nat.le_of_ble_eq_true rfl) rfl (by decide +kernel) (fun s14 ν12 hq13 hp => ?_)
    obtain ⟨rfl, rfl⟩ := hp
    have hρ10 : μ9.2.2 = ρ := hq13.trans hρ3
    refine j_if_ne F (pc := 13) (off := 7) (tgt := 20) (by decide +kernel) (by decide) (fun c => ?_) (fun c => ?_)
    · rw [if_neg c] at h
      refine j_iload_n F (pc := 20) (q := 2) (by decide +kernel) rfl ?_
      refine j_iload_n F (pc := 21) (q := 3) (by decide +kernel) rfl ?_
      obtain ⟨r15, μ16, hc18, h⟩ := z_b2_some h
      refine j_callSi F (pc := 22) (idx := 336) (As := [.int x2, .int x3]) (st := []) (t_X5_isGood (G := E.1) hρ10  hc18) q_X5_isGood m_1254 m_1253 rfl (by decide) (Nat.le_of_ble_eq_true rfl) rfl (by decide +kernel) (fun s21 ν19 hq20 hp => ?_)
      obtain ⟨rfl, rfl⟩ := hp
      have hρ17 : μ16.2.2 = ρ := hq20.trans hρ10
      refine j_if_eq F (pc := 25) (off := 11) (tgt := 36) (by decide +kernel) (by decide) (fun c => ?_) (fun c => ?_)
      · rw [if_pos c] at h
        refine j_sipush F (pc := 36) (n := -1002) (v := -1002) (by decide +kernel) (by decide +kernel) ?_
        exact j_iret (st := []) F Rt rfl (by decide +kernel) ⟨hρ17, _, rfl, (congrArg Prod.fst (Option.some.inj h)).symm, (congrArg Prod.snd (Option.some.inj h)).symm⟩
      · rw [if_neg c] at h
        refine j_iload F (pc := 28) (i := 5) (by decide +kernel) rfl ?_
        obtain ⟨r22, μ23, hc25, h⟩ := z_b2_some h
        refine j_callSi F (pc := 30) (idx := 271) (As := [.int x5]) (st := []) (t_X5_isDay (G := E.1) hρ17  hc25) q_X5_isDay m_1161 m_1160 rfl (by decide) (Nat.le_of_ble_eq_true rfl) rfl (by decide +kernel) (fun s28 ν26 hq27 hp => ?_)
        obtain ⟨rfl, rfl⟩ := hp
        have hρ24 : μ23.2.2 = ρ := hq27.trans hρ17
        refine j_if_ne F (pc := 33) (off := 7) (tgt := 40) (by decide +kernel) (by decide) (fun c => ?_) (fun c => ?_)
        · rw [if_neg c] at h
          refine j_aload_n F (pc := 40) (q := 0) (by decide +kernel) rfl ?_
          refine j_getR F (pc := 41) (hk.r hρ24 r_98_34) fl_X5_84 (hk.s c_98) rfl (by decide +kernel) ?_
          refine j_iload F (pc := 44) (i := 4) (by decide +kernel) rfl ?_
          obtain ⟨hg, h⟩ := z_ifs h
          refine j_iald F (pc := 46) (hk.s c_122) hg (by decide +kernel) ?_
          obtain ⟨x_29, e30, h⟩ := z_lt_some h
          rw [← e30]
          refine j_istore F (pc := 47) (i := 6) (L' := [some (.ref 98), some (.int x1), some (.int x2), some (.int x3), some (.int x4), some (.int x5), some (.int x_29)]) (by decide +kernel) (by decide) rfl rfl ?_
          refine j_aload_n F (pc := 49) (q := 0) (by decide +kernel) rfl ?_
          refine j_getR F (pc := 50) (hk.r hρ24 r_98_34) fl_X5_84 (hk.s c_98) rfl (by decide +kernel) ?_
          refine j_iload F (pc := 53) (i := 4) (by decide +kernel) rfl ?_
          refine j_iload F (pc := 55) (i := 5) (by decide +kernel) rfl ?_
          obtain ⟨hg, h⟩ := z_ifs h
          refine j_iast F (pc := 57) (hk.s c_122) hg (by decide +kernel) ?_
          obtain ⟨μ31, e33, h⟩ := z_st_some h
          rw [← e33]
          have hρ32 : μ31.2.2 = ρ := by rw [e33]; exact hρ24
          refine j_aload_n F (pc := 58) (q := 0) (by decide +kernel) rfl ?_
          refine j_iload_n F (pc := 59) (q := 1) (by decide +kernel) rfl ?_
          refine j_iload_n F (pc := 60) (q := 2) (by decide +kernel) rfl ?_
          refine j_iload_n F (pc := 61) (q := 3) (by decide +kernel) rfl ?_
          obtain ⟨μ35, hc37, h⟩ := z_b1_some h
          refine j_callVv F (pc := 62) (idx := 340) (As := [.int x1, .int x2, .int x3]) (st := []) (t_X5_payOut (G := E.1) hρ32 hk hc37) q_X5_payOut v_X5_payOut m_1256 (hk.s c_98) rfl rfl (by decide) (Nat.le_of_ble_eq_true rfl) rfl (by decide +kernel) (fun ν38 hq39 hp => ?_)
          subst hp
          have hρ36 : μ35.2.2 = ρ := hq39.trans hρ32
          refine j_aload_n F (pc := 65) (q := 0) (by decide +kernel) rfl ?_
          refine j_getR F (pc := 66) (hk.r hρ36 r_98_34) fl_X5_84 (hk.s c_98) rfl (by decide +kernel) ?_
          refine j_iload F (pc := 69) (i := 4) (by decide +kernel) rfl ?_
          refine j_iload F (pc := 71) (i := 6) (by decide +kernel) rfl ?_
          obtain ⟨hg, h⟩ := z_ifs h
          refine j_iast F (pc := 73) (hk.s c_122) hg (by decide +kernel) ?_
          obtain ⟨μ40, e42, h⟩ := z_st_some h
          rw [← e42]
          have hρ41 : μ40.2.2 = ρ := by rw [e42]; exact hρ36
          refine j_aload_n F (pc := 74) (q := 0) (by decide +kernel) rfl ?_
          refine j_getR F (pc := 75) (hk.r hρ41 r_98_38) fl_X5_96 (hk.s c_98) rfl (by decide +kernel) ?_
          refine j_iload F (pc := 78) (i := 4) (by decide +kernel) rfl ?_
          obtain ⟨hg, h⟩ := z_ifs h
          refine j_iald F (pc := 80) (hk.s c_126) hg (by decide +kernel) ?_
          exact j_iret (st := []) F Rt rfl (by decide +kernel) ⟨hρ41, _, rfl, (congrArg Prod.fst (Option.some.inj h)).symm, (congrArg Prod.snd (Option.some.inj h)).symm⟩
        · rw [if_pos c] at h
          refine j_sipush F (pc := 36) (n := -1002) (v := -1002) (by decide +kernel) (by decide +kernel) ?_
          exact j_iret (st := []) F Rt rfl (by decide +kernel) ⟨hρ24, _, rfl, (congrArg Prod.fst (Option.some.inj h)).symm, (congrArg Prod.snd (Option.some.inj h)).symm⟩
    · rw [if_pos c] at h
      refine j_sipush F (pc := 16) (n := -1001) (v := -1001) (by decide +kernel) (by decide +kernel) ?_
      exact j_iret (st := []) F Rt rfl (by decide +kernel) ⟨hρ10, _, rfl, (congrArg Prod.fst (Option.some.inj h)).symm, (congrArg Prod.snd (Option.some.inj h)).symm⟩
def g_X5_best_43   : Nat → Int32 → Int32 → Int32 → Int32 → Int32 → Int32 → Int32 → z_M → Option (Int32 × z_M)
  | 0, _, _, _, _, _, _, _, _ => none
  | n + 1, x1, x2, x3, x4, x5, x6, x7, μ => (if (4 : Int32) ≤ x7 then (some ((if x4 = 0 then x5 else x6), μ)) else (z_b1 (f_X5_payOut (x7) (x1) (x2) μ) fun μ23 => (z_b2 (f_X5_having (x3) μ23) fun r28 μ29 => (z_lt (if r28 ≤ x6 then x5 else x7) fun x_35 => (z_lt (if r28 ≤ x6 then x6 else r28) fun x_37 => (g_X5_best_43   n (x1) (x2) (x3) (x4) (x_35) (x_37) ((x7 + (1 : Int32))) μ29))))))
def f_X5_best (x1 : Int32) (x2 : Int32) (x3 : Int32) (x4 : Int32) (μ : z_M) : Option (Int32 × z_M) :=
  (z_b2 (f_X5_isHolder (x3) μ) fun r1 μ2 => (if r1 = 0 then (some ((-1001 : Int32), μ2)) else (z_b2 (f_X5_isGood (x1) (x2) μ2) fun r8 μ9 => (if r8 = 0 then (some ((-1002 : Int32), μ9)) else (z_b2 (f_X5_in ((x4).toInt64) ((0 : Int64)) ((1 : Int64)) μ9) fun r15 μ16 => (if r15 = 0 then (some ((-1002 : Int32), μ16)) else (g_X5_best_43   z_N (x1) (x2) (x3) (x4) ((-1 : Int32)) ((-1 : Int32)) ((0 : Int32)) μ16)))))))
set_option maxHeartbeats 4000000 in
set_option maxRecDepth 100000 in
theorem u_X5_best_43 {E : z_E} {ρ : Nat → Nat → Option Nat} {r : Int32} {μr : z_M} (F : z_F E RX5 cX5_best 9 6) (Rt : z_R E (some .int) (fun v μ1 => μ1.2.2 = ρ ∧ ∃ r1, v = some (.int r1) ∧ r = r1 ∧ μr = μ1))  (hk : z_ok (z_sh E.1) ρ) : ∀ (n : Nat) (x1 : Int32) (x2 : Int32) (x3 : Int32) (x4 : Int32) (x5 : Int32) (x6 : Int32) (x7 : Int32) (μ : z_M), μ.2.2 = ρ → g_X5_best_43   n x1 x2 x3 x4 x5 x6 x7 μ = some (r, μr) → z_J E 9 43 [some (.ref 98), some (.int x1), some (.int x2), some (.int x3), some (.int x4), some (.int x5), some (.int x6), some (.int x7), none] [] μ := by
  intro n
  induction n with
  | zero =>
    intro x1 x2 x3 x4 x5 x6 x7 μ hρ h
    rw [g_X5_best_43] at h
    cases h
  | succ n ih =>
    intro x1 x2 x3 x4 x5 x6 x7 μ hρ h
    rw [g_X5_best_43] at h
    refine j_iload F (pc := 43) (i := 7) (by decide +kernel) rfl ?_
    refine j_iconst F (pc := 45) (n := 4) (v := 4) (by decide +kernel) (by decide +kernel) ?_
    refine j_icmp_ge F (pc := 46) (off := 56) (tgt := 102) (by decide +kernel) (by decide) (fun c => ?_) (fun c => ?_)
    · rw [if_pos c] at h
      refine j_iload F (pc := 102) (i := 4) (by decide +kernel) rfl ?_
      suffices hj : z_J E 9 114 [some (.ref 98), some (.int x1), some (.int x2), some (.int x3), some (.int x4), some (.int x5), some (.int x6), some (.int x7), none] (.int (if x4 = 0 then x5 else x6) :: []) μ by
        refine j_if_ne F (pc := 104) (off := 8) (tgt := 112) (by decide +kernel) (by decide) (fun c0 => ?_) (fun c0 => ?_)
        · rw [if_neg c0] at hj
          refine j_iload F (pc := 112) (i := 6) (by decide +kernel) rfl ?_
          exact hj
        · rw [if_pos c0] at hj
          refine j_iload F (pc := 107) (i := 5) (by decide +kernel) rfl ?_
          refine j_goto F (pc := 109) (off := 5) (tgt := 114) (by decide +kernel) (by decide) ?_
          exact hj
      exact j_iret (st := []) F Rt rfl (by decide +kernel) ⟨hρ, _, rfl, (congrArg Prod.fst (Option.some.inj h)).symm, (congrArg Prod.snd (Option.some.inj h)).symm⟩
    · rw [if_neg c] at h
      refine j_aload_n F (pc := 49) (q := 0) (by decide +kernel) rfl ?_
      refine j_iload F (pc := 50) (i := 7) (by decide +kernel) rfl ?_
      refine j_iload_n F (pc := 52) (q := 1) (by decide +kernel) rfl ?_
      refine j_iload_n F (pc := 53) (q := 2) (by decide +kernel) rfl ?_
      obtain ⟨μ23, hc25, h⟩ := z_b1_some h
      refine j_callVv F (pc := 54) (idx := 340) (As := [.int x7, .int x1, .int x2]) (st := []) (t_X5_payOut (G := E.1) hρ hk hc25) q_X5_payOut v_X5_payOut m_1256 (hk.s c_98) rfl rfl (by decide) (Nat.le_of_ble_eq_true rfl) rfl (by decide +kernel) (fun ν26 hq27 hp => ?_)
      subst hp
      have hρ24 : μ23.2.2 = ρ := hq27.trans hρ
      refine j_aload_n F (pc := 57) (q := 0) (by decide +kernel) rfl ?_
      refine j_iload_n F (pc := 58) (q := 3) (by decide +kernel) rfl ?_
      obtain ⟨r28, μ29, hc31, h⟩ := z_b2_some h
      refine j_callVi F (pc := 59) (idx := 343) (As := [.int x3]) (st := []) (t_X5_having (G := E.1) hρ24 hk hc31) q_X5_having v_X5_having m_1292 (hk.s c_98) rfl rfl (by decide) (Nat.le_of_ble_eq_true rfl) rfl (by decide +kernel) (fun s34 ν32 hq33 hp => ?_)
      obtain ⟨rfl, rfl⟩ := hp
      have hρ30 : μ29.2.2 = ρ := hq33.trans hρ24
      refine j_istore F (pc := 62) (i := 8) (L' := [some (.ref 98), some (.int x1), some (.int x2), some (.int x3), some (.int x4), some (.int x5), some (.int x6), some (.int x7), some (.int r28)]) (by decide +kernel) (by decide) rfl rfl ?_
      refine j_iload F (pc := 64) (i := 8) (by decide +kernel) rfl ?_
      refine j_iload F (pc := 66) (i := 6) (by decide +kernel) rfl ?_
      suffices hj : z_J E 9 78 [some (.ref 98), some (.int x1), some (.int x2), some (.int x3), some (.int x4), some (.int x5), some (.int x6), some (.int x7), some (.int r28)] (.int (if r28 ≤ x6 then x5 else x7) :: []) μ29 by
        refine j_icmp_le F (pc := 68) (off := 8) (tgt := 76) (by decide +kernel) (by decide) (fun c0 => ?_) (fun c0 => ?_)
        · rw [if_pos c0] at hj
          refine j_iload F (pc := 76) (i := 5) (by decide +kernel) rfl ?_
          exact hj
        · rw [if_neg c0] at hj
          refine j_iload F (pc := 71) (i := 7) (by decide +kernel) rfl ?_
          refine j_goto F (pc := 73) (off := 5) (tgt := 78) (by decide +kernel) (by decide) ?_
          exact hj
      obtain ⟨x_35, e36, h⟩ := z_lt_some h
      rw [← e36]
      refine j_istore F (pc := 78) (i := 5) (L' := [some (.ref 98), some (.int x1), some (.int x2), some (.int x3), some (.int x4), some (.int x_35), some (.int x6), some (.int x7), some (.int r28)]) (by decide +kernel) (by decide) rfl rfl ?_
      refine j_iload F (pc := 80) (i := 8) (by decide +kernel) rfl ?_
      refine j_iload F (pc := 82) (i := 6) (by decide +kernel) rfl ?_
      suffices hj : z_J E 9 94 [some (.ref 98), some (.int x1), some (.int x2), some (.int x3), some (.int x4), some (.int x_35), some (.int x6), some (.int x7), some (.int r28)] (.int (if r28 ≤ x6 then x6 else r28) :: []) μ29 by
        refine j_icmp_le F (pc := 84) (off := 8) (tgt := 92) (by decide +kernel) (by decide) (fun c0 => ?_) (fun c0 => ?_)
        · rw [if_pos c0] at hj
          refine j_iload F (pc := 92) (i := 6) (by decide +kernel) rfl ?_
          exact hj
        · rw [if_neg c0] at hj
          refine j_iload F (pc := 87) (i := 8) (by decide +kernel) rfl ?_
          refine j_goto F (pc := 89) (off := 5) (tgt := 94) (by decide +kernel) (by decide) ?_
          exact hj
      obtain ⟨x_37, e38, h⟩ := z_lt_some h
      rw [← e38]
      refine j_istore F (pc := 94) (i := 6) (L' := [some (.ref 98), some (.int x1), some (.int x2), some (.int x3), some (.int x4), some (.int x_35), some (.int x_37), some (.int x7), some (.int r28)]) (by decide +kernel) (by decide) rfl rfl ?_
      refine j_iinc F (pc := 96) (i := 7) (n := 1) (v := 1) (L' := [some (.ref 98), some (.int x1), some (.int x2), some (.int x3), some (.int x4), some (.int x_35), some (.int x_37), some (.int (x7 + (1 : Int32))), some (.int r28)]) (by decide +kernel) rfl (by decide +kernel) (by decide) rfl rfl ?_
      refine j_goto F (pc := 99) (off := -56) (tgt := 43) (by decide +kernel) (by decide) ?_
      refine j_mk F [true, true, true, true, true, true, true, true, false] (L' := [some (.ref 98), some (.int x1), some (.int x2), some (.int x3), some (.int x4), some (.int x_35), some (.int x_37), some (.int (x7 + (1 : Int32))), none]) rfl ?_
      exact ih _ _ _ _ _ _ _ _ hρ30 h
set_option maxHeartbeats 4000000 in
set_option maxRecDepth 100000 in
theorem t_X5_best {G : z_Gl} {ρ : Nat → Nat → Option Nat} {μ : z_M} {r : Int32} {μr : z_M} {x1 : Int32} {x2 : Int32} {x3 : Int32} {x4 : Int32} (hρ : μ.2.2 = ρ) (hk : z_ok (z_sh G) ρ) (h : f_X5_best x1 x2 x3 x4 μ = some (r, μr)) : z_Ci G yX5_best cX5_best 9 (some .int) 6 [.ref 98, .int x1, .int x2, .int x3, .int x4] μ (fun r1 μ1 => r = r1 ∧ μr = μ1) := by
  unfold z_Ci
  refine z_intro (by decide +kernel) (Nat.le_of_ble_eq_true rfl) (fun E hE F Rt => ?_)
  subst hE
  have F : z_F E RX5 cX5_best 9 6 := F
  rw [hρ] at Rt
  unfold f_X5_best at h
  show z_J E 9 0 [some (.ref 98), some (.int x1), some (.int x2), some (.int x3), some (.int x4), none, none, none, none] [] μ
  refine j_iload_n F (pc := 0) (q := 3) (by decide +kernel) rfl ?_
  obtain ⟨r1, μ2, hc4, h⟩ := z_b2_some h
  refine j_callSi F (pc := 1) (idx := 277) (As := [.int x3]) (st := []) (t_X5_isHolder (G := E.1) hρ  hc4) q_X5_isHolder m_1169 m_1168 rfl (by decide) (Nat.le_of_ble_eq_true rfl) rfl (by decide +kernel) (fun s7 ν5 hq6 hp => ?_)
  obtain ⟨rfl, rfl⟩ := hp
  have hρ3 : μ2.2.2 = ρ := hq6.trans hρ
  refine j_if_ne F (pc := 4) (off := 7) (tgt := 11) (by decide +kernel) (by decide) (fun c => ?_) (fun c => ?_)
  · rw [if_neg c] at h
    refine j_iload_n F (pc := 11) (q := 1) (by decide +kernel) rfl ?_
    refine j_iload_n F (pc := 12) (q := 2) (by decide +kernel) rfl ?_
    obtain ⟨r8, μ9, hc11, h⟩ := z_b2_some h
    refine j_callSi F (pc := 13) (idx := 336) (As := [.int x1, .int x2]) (st := []) (t_X5_isGood (G := E.1) hρ3  hc11) q_X5_isGood m_1254 m_1253 rfl (by decide) (Nat.le_of_ble_eq_true rfl) rfl (by decide +kernel) (fun s14 ν12 hq13 hp => ?_)
    obtain ⟨rfl, rfl⟩ := hp
    have hρ10 : μ9.2.2 = ρ := hq13.trans hρ3
    refine j_if_eq F (pc := 16) (off := 14) (tgt := 30) (by decide +kernel) (by decide) (fun c => ?_) (fun c => ?_)
    · rw [if_pos c] at h
      refine j_sipush F (pc := 30) (n := -1002) (v := -1002) (by decide +kernel) (by decide +kernel) ?_
      exact j_iret (st := []) F Rt rfl (by decide +kernel) ⟨hρ10, _, rfl, (congrArg Prod.fst (Option.some.inj h)).symm, (congrArg Prod.snd (Option.some.inj h)).symm⟩
    · rw [if_neg c] at h
      refine j_iload F (pc := 19) (i := 4) (by decide +kernel) rfl ?_
      refine j_i2l F (pc := 21) (by decide +kernel) ?_
      refine j_lconst F (pc := 22) (n := 0) (v := 0) (by decide +kernel) (by decide +kernel) ?_
      refine j_lconst F (pc := 23) (n := 1) (v := 1) (by decide +kernel) (by decide +kernel) ?_
      obtain ⟨r15, μ16, hc18, h⟩ := z_b2_some h
      refine j_callSi F (pc := 24) (idx := 138) (As := [.long (x4).toInt64, .long (0 : Int64), .long (1 : Int64)]) (st := []) (t_X5_in (G := E.1) hρ10  hc18) q_X5_in m_1050 m_1049 rfl (by decide) (Nat.le_of_ble_eq_true rfl) rfl (by decide +kernel) (fun s21 ν19 hq20 hp => ?_)
      obtain ⟨rfl, rfl⟩ := hp
      have hρ17 : μ16.2.2 = ρ := hq20.trans hρ10
      refine j_if_ne F (pc := 27) (off := 7) (tgt := 34) (by decide +kernel) (by decide) (fun c => ?_) (fun c => ?_)
      · rw [if_neg c] at h
        refine j_iconst F (pc := 34) (n := -1) (v := -1) (by decide +kernel) (by decide +kernel) ?_
        refine j_istore F (pc := 35) (i := 5) (L' := [some (.ref 98), some (.int x1), some (.int x2), some (.int x3), some (.int x4), some (.int (-1 : Int32)), none, none, none]) (by decide +kernel) (by decide) rfl rfl ?_
        refine j_iconst F (pc := 37) (n := -1) (v := -1) (by decide +kernel) (by decide +kernel) ?_
        refine j_istore F (pc := 38) (i := 6) (L' := [some (.ref 98), some (.int x1), some (.int x2), some (.int x3), some (.int x4), some (.int (-1 : Int32)), some (.int (-1 : Int32)), none, none]) (by decide +kernel) (by decide) rfl rfl ?_
        refine j_iconst F (pc := 40) (n := 0) (v := 0) (by decide +kernel) (by decide +kernel) ?_
        refine j_istore F (pc := 41) (i := 7) (L' := [some (.ref 98), some (.int x1), some (.int x2), some (.int x3), some (.int x4), some (.int (-1 : Int32)), some (.int (-1 : Int32)), some (.int (0 : Int32)), none]) (by decide +kernel) (by decide) rfl rfl ?_
        refine u_X5_best_43 F Rt hk  z_N _ _ _ _ _ _ _ _ hρ17 h
      · rw [if_pos c] at h
        refine j_sipush F (pc := 30) (n := -1002) (v := -1002) (by decide +kernel) (by decide +kernel) ?_
        exact j_iret (st := []) F Rt rfl (by decide +kernel) ⟨hρ17, _, rfl, (congrArg Prod.fst (Option.some.inj h)).symm, (congrArg Prod.snd (Option.some.inj h)).symm⟩
  · rw [if_pos c] at h
    refine j_sipush F (pc := 7) (n := -1001) (v := -1001) (by decide +kernel) (by decide +kernel) ?_
    exact j_iret (st := []) F Rt rfl (by decide +kernel) ⟨hρ3, _, rfl, (congrArg Prod.fst (Option.some.inj h)).symm, (congrArg Prod.snd (Option.some.inj h)).symm⟩
def g_X5_buy_117  (k_71 : Int32 → Int32 → Int32 → Int32 → Int32 → Int32 → z_M → Option (Int32 × z_M)) (x4 : Int32) (x5 : Int32) (x6 : Int32) (x7 : Int32) (x8 : Int32) (x9 : Int32) (xs0 : Int32) (μ : z_M) : Option (Int32 × z_M) :=
  (z_lt (if xs0 ≤ x8 then x7 else x9) fun x_42 => (z_lt (if xs0 ≤ x8 then x8 else xs0) fun x_44 => (k_71 (x4) (x5) (x6) (x_42) (x_44) ((x9 + (1 : Int32))) μ)))
def g_X5_buy_71   : Nat → Int32 → Int32 → Int32 → Int32 → Int32 → Int32 → z_M → Option (Int32 × z_M)
  | 0, _, _, _, _, _, _, _ => none
  | n + 1, x4, x5, x6, x7, x8, x9, μ => (if (μ.1 98 27) ≤ x9 then (some ((if 0 ≤ x7 then (if x6 = 0 then x7 else x8) else (-1 : Int32)), μ)) else (if z_in x9 15 then (if (μ.1 117 x9.toNatClampNeg) = x4 then (g_X5_buy_117  (fun (y56 : Int32) (y57 : Int32) (y58 : Int32) (y59 : Int32) (y60 : Int32) (y61 : Int32) (μ54 : z_M) => (g_X5_buy_71   n (y56) (y57) (y58) (y59) (y60) (y61) μ54)) (x4) (x5) (x6) (x7) (x8) (x9) ((0 : Int32)) μ) else (if z_in x9 15 then (if z_in x9 15 then (if ¬ (100 : Int32) = 0 then (g_X5_buy_117  (fun (y48 : Int32) (y49 : Int32) (y50 : Int32) (y51 : Int32) (y52 : Int32) (y53 : Int32) (μ46 : z_M) => (g_X5_buy_71   n (y48) (y49) (y50) (y51) (y52) (y53) μ46)) (x4) (x5) (x6) (x7) (x8) (x9) (((μ.1 126 x9.toNatClampNeg) - (((μ.1 119 x9.toNatClampNeg) * x5) / (100 : Int32)))) μ) else none) else none) else none)) else none))
def f_X5_buy (x1 : Int32) (x2 : Int32) (x3 : Int32) (x4 : Int32) (x5 : Int32) (x6 : Int32) (μ : z_M) : Option (Int32 × z_M) :=
  (z_b2 (f_X5_isLand (x1) μ) fun r1 μ2 => (if r1 = 0 then (some ((-1001 : Int32), μ2)) else (z_b2 (f_X5_isHolder (x4) μ2) fun r8 μ9 => (if r8 = 0 then (some ((-1001 : Int32), μ9)) else (z_b2 (f_X5_isGood (x2) (x3) μ9) fun r15 μ16 => (if r15 = 0 then (some ((-1002 : Int32), μ16)) else (z_b2 (f_X5_in ((x5).toInt64) ((1 : Int64)) ((200 : Int64)) μ16) fun r22 μ23 => (if r22 = 0 then (some ((-1002 : Int32), μ23)) else (z_b2 (f_X5_in ((x6).toInt64) ((0 : Int64)) ((1 : Int64)) μ23) fun r29 μ30 => (if r29 = 0 then (some ((-1002 : Int32), μ30)) else (z_b1 (f_X5_payOut (x1) (x2) (x3) μ30) fun μ37 => (g_X5_buy_71   z_N (x4) (x5) (x6) ((-1 : Int32)) ((0 : Int32)) ((0 : Int32)) μ37))))))))))))
set_option maxHeartbeats 4000000 in
set_option maxRecDepth 100000 in
theorem u_X5_buy_117 {E : z_E} {ρ : Nat → Nat → Option Nat} {r : Int32} {μr : z_M} (F : z_F E RX5 cX5_buy 11 6) (Rt : z_R E (some .int) (fun v μ1 => μ1.2.2 = ρ ∧ ∃ r1, v = some (.int r1) ∧ r = r1 ∧ μr = μ1))  (hk : z_ok (z_sh E.1) ρ) {k_71 : Int32 → Int32 → Int32 → Int32 → Int32 → Int32 → z_M → Option (Int32 × z_M)} (hc_71 : ∀ (y4 : Int32) (y5 : Int32) (y6 : Int32) (y7 : Int32) (y8 : Int32) (y9 : Int32) (μ1 : z_M), μ1.2.2 = ρ → k_71 y4 y5 y6 y7 y8 y9 μ1 = some (r, μr) → z_J E 11 71 [some (.ref 98), none, none, none, some (.int y4), some (.int y5), some (.int y6), some (.int y7), some (.int y8), some (.int y9), none] [] μ1) : ∀ (x4 : Int32) (x5 : Int32) (x6 : Int32) (x7 : Int32) (x8 : Int32) (x9 : Int32) (xs0 : Int32) (μ : z_M), μ.2.2 = ρ → g_X5_buy_117  k_71 x4 x5 x6 x7 x8 x9 xs0 μ = some (r, μr) → z_J E 11 117 [some (.ref 98), none, none, none, some (.int x4), some (.int x5), some (.int x6), some (.int x7), some (.int x8), some (.int x9), none] [.int xs0] μ := by
  intro x4 x5 x6 x7 x8 x9 xs0 μ hρ h
  unfold g_X5_buy_117 at h
  refine j_istore F (pc := 117) (i := 10) (L' := [some (.ref 98), none, none, none, some (.int x4), some (.int x5), some (.int x6), some (.int x7), some (.int x8), some (.int x9), some (.int xs0)]) (by decide +kernel) (by decide) rfl rfl ?_
  refine j_iload F (pc := 119) (i := 10) (by decide +kernel) rfl ?_
  refine j_iload F (pc := 121) (i := 8) (by decide +kernel) rfl ?_
  suffices hj : z_J E 11 133 [some (.ref 98), none, none, none, some (.int x4), some (.int x5), some (.int x6), some (.int x7), some (.int x8), some (.int x9), some (.int xs0)] (.int (if xs0 ≤ x8 then x7 else x9) :: []) μ by
    refine j_icmp_le F (pc := 123) (off := 8) (tgt := 131) (by decide +kernel) (by decide) (fun c0 => ?_) (fun c0 => ?_)
    · rw [if_pos c0] at hj
      refine j_iload F (pc := 131) (i := 7) (by decide +kernel) rfl ?_
      exact hj
    · rw [if_neg c0] at hj
      refine j_iload F (pc := 126) (i := 9) (by decide +kernel) rfl ?_
      refine j_goto F (pc := 128) (off := 5) (tgt := 133) (by decide +kernel) (by decide) ?_
      exact hj
  obtain ⟨x_42, e43, h⟩ := z_lt_some h
  rw [← e43]
  refine j_istore F (pc := 133) (i := 7) (L' := [some (.ref 98), none, none, none, some (.int x4), some (.int x5), some (.int x6), some (.int x_42), some (.int x8), some (.int x9), some (.int xs0)]) (by decide +kernel) (by decide) rfl rfl ?_
  refine j_iload F (pc := 135) (i := 10) (by decide +kernel) rfl ?_
  refine j_iload F (pc := 137) (i := 8) (by decide +kernel) rfl ?_
  suffices hj : z_J E 11 149 [some (.ref 98), none, none, none, some (.int x4), some (.int x5), some (.int x6), some (.int x_42), some (.int x8), some (.int x9), some (.int xs0)] (.int (if xs0 ≤ x8 then x8 else xs0) :: []) μ by
    refine j_icmp_le F (pc := 139) (off := 8) (tgt := 147) (by decide +kernel) (by decide) (fun c0 => ?_) (fun c0 => ?_)
    · rw [if_pos c0] at hj
      refine j_iload F (pc := 147) (i := 8) (by decide +kernel) rfl ?_
      exact hj
    · rw [if_neg c0] at hj
      refine j_iload F (pc := 142) (i := 10) (by decide +kernel) rfl ?_
      refine j_goto F (pc := 144) (off := 5) (tgt := 149) (by decide +kernel) (by decide) ?_
      exact hj
  obtain ⟨x_44, e45, h⟩ := z_lt_some h
  rw [← e45]
  refine j_istore F (pc := 149) (i := 8) (L' := [some (.ref 98), none, none, none, some (.int x4), some (.int x5), some (.int x6), some (.int x_42), some (.int x_44), some (.int x9), some (.int xs0)]) (by decide +kernel) (by decide) rfl rfl ?_
  refine j_iinc F (pc := 151) (i := 9) (n := 1) (v := 1) (L' := [some (.ref 98), none, none, none, some (.int x4), some (.int x5), some (.int x6), some (.int x_42), some (.int x_44), some (.int (x9 + (1 : Int32))), some (.int xs0)]) (by decide +kernel) rfl (by decide +kernel) (by decide) rfl rfl ?_
  refine j_goto F (pc := 154) (off := -83) (tgt := 71) (by decide +kernel) (by decide) ?_
  refine j_mk F [true, false, false, false, true, true, true, true, true, true, false] (L' := [some (.ref 98), none, none, none, some (.int x4), some (.int x5), some (.int x6), some (.int x_42), some (.int x_44), some (.int (x9 + (1 : Int32))), none]) rfl ?_
  exact hc_71 _ _ _ _ _ _ _ hρ h
set_option maxHeartbeats 4000000 in
set_option maxRecDepth 100000 in
theorem u_X5_buy_71 {E : z_E} {ρ : Nat → Nat → Option Nat} {r : Int32} {μr : z_M} (F : z_F E RX5 cX5_buy 11 6) (Rt : z_R E (some .int) (fun v μ1 => μ1.2.2 = ρ ∧ ∃ r1, v = some (.int r1) ∧ r = r1 ∧ μr = μ1))  (hk : z_ok (z_sh E.1) ρ) : ∀ (n : Nat) (x4 : Int32) (x5 : Int32) (x6 : Int32) (x7 : Int32) (x8 : Int32) (x9 : Int32) (μ : z_M), μ.2.2 = ρ → g_X5_buy_71   n x4 x5 x6 x7 x8 x9 μ = some (r, μr) → z_J E 11 71 [some (.ref 98), none, none, none, some (.int x4), some (.int x5), some (.int x6), some (.int x7), some (.int x8), some (.int x9), none] [] μ := by
  intro n
  induction n with
  | zero =>
    intro x4 x5 x6 x7 x8 x9 μ hρ h
    rw [g_X5_buy_71] at h
    cases h
  | succ n ih =>
    intro x4 x5 x6 x7 x8 x9 μ hρ h
    rw [g_X5_buy_71] at h
    refine j_iload F (pc := 71) (i := 9) (by decide +kernel) rfl ?_
    refine j_aload_n F (pc := 73) (q := 0) (by decide +kernel) rfl ?_
    refine j_getI F (pc := 74) fl_X5_268 (hk.s c_98) rfl (by decide +kernel) ?_
    refine j_icmp_ge F (pc := 77) (off := 80) (tgt := 157) (by decide +kernel) (by decide) (fun c => ?_) (fun c => ?_)
    · rw [if_pos c] at h
      refine j_iload F (pc := 157) (i := 7) (by decide +kernel) rfl ?_
      suffices hj : z_J E 11 178 [some (.ref 98), none, none, none, some (.int x4), some (.int x5), some (.int x6), some (.int x7), some (.int x8), some (.int x9), none] (.int (if 0 ≤ x7 then (if x6 = 0 then x7 else x8) else (-1 : Int32)) :: []) μ by
        refine j_if_ge F (pc := 159) (off := 7) (tgt := 166) (by decide +kernel) (by decide) (fun c0 => ?_) (fun c0 => ?_)
        · rw [if_pos c0] at hj
          refine j_iload F (pc := 166) (i := 6) (by decide +kernel) rfl ?_
          refine j_if_ne F (pc := 168) (off := 8) (tgt := 176) (by decide +kernel) (by decide) (fun c1 => ?_) (fun c1 => ?_)
          · rw [if_neg c1] at hj
            refine j_iload F (pc := 176) (i := 8) (by decide +kernel) rfl ?_
            exact hj
          · rw [if_pos c1] at hj
            refine j_iload F (pc := 171) (i := 7) (by decide +kernel) rfl ?_
            refine j_goto F (pc := 173) (off := 5) (tgt := 178) (by decide +kernel) (by decide) ?_
            exact hj
        · rw [if_neg c0] at hj
          refine j_iconst F (pc := 162) (n := -1) (v := -1) (by decide +kernel) (by decide +kernel) ?_
          refine j_goto F (pc := 163) (off := 15) (tgt := 178) (by decide +kernel) (by decide) ?_
          exact hj
      exact j_iret (st := []) F Rt rfl (by decide +kernel) ⟨hρ, _, rfl, (congrArg Prod.fst (Option.some.inj h)).symm, (congrArg Prod.snd (Option.some.inj h)).symm⟩
    · rw [if_neg c] at h
      refine j_aload_n F (pc := 80) (q := 0) (by decide +kernel) rfl ?_
      refine j_getR F (pc := 81) (hk.r hρ r_98_29) fl_X5_69 (hk.s c_98) rfl (by decide +kernel) ?_
      refine j_iload F (pc := 84) (i := 9) (by decide +kernel) rfl ?_
      obtain ⟨hg, h⟩ := z_ifs h
      refine j_iald F (pc := 86) (hk.s c_117) hg (by decide +kernel) ?_
      refine j_iload F (pc := 87) (i := 4) (by decide +kernel) rfl ?_
      refine j_icmp_ne F (pc := 89) (off := 7) (tgt := 96) (by decide +kernel) (by decide) (fun c => ?_) (fun c => ?_)
      · rw [if_neg c] at h
        refine j_aload_n F (pc := 96) (q := 0) (by decide +kernel) rfl ?_
        refine j_getR F (pc := 97) (hk.r hρ r_98_38) fl_X5_96 (hk.s c_98) rfl (by decide +kernel) ?_
        refine j_iload F (pc := 100) (i := 9) (by decide +kernel) rfl ?_
        obtain ⟨hg, h⟩ := z_ifs h
        refine j_iald F (pc := 102) (hk.s c_126) hg (by decide +kernel) ?_
        refine j_aload_n F (pc := 103) (q := 0) (by decide +kernel) rfl ?_
        refine j_getR F (pc := 104) (hk.r hρ r_98_31) fl_X5_75 (hk.s c_98) rfl (by decide +kernel) ?_
        refine j_iload F (pc := 107) (i := 9) (by decide +kernel) rfl ?_
        obtain ⟨hg, h⟩ := z_ifs h
        refine j_iald F (pc := 109) (hk.s c_119) hg (by decide +kernel) ?_
        refine j_iload F (pc := 110) (i := 5) (by decide +kernel) rfl ?_
        refine j_imul F (pc := 112) (by decide +kernel) ?_
        refine j_bipush F (pc := 113) (n := 100) (v := 100) (by decide +kernel) (by decide +kernel) ?_
        obtain ⟨hg, h⟩ := z_ifs h
        refine j_idiv F (pc := 115) (by decide +kernel) hg ?_
        refine j_isub F (pc := 116) (by decide +kernel) ?_
        refine u_X5_buy_117 F Rt hk (fun y48 y49 y50 y51 y52 y53 μ46 hρ47 h => ?_) _ _ _ _ _ _ _ _ hρ h
        exact ih _ _ _ _ _ _ _ hρ47 h
      · rw [if_pos c] at h
        refine j_iconst F (pc := 92) (n := 0) (v := 0) (by decide +kernel) (by decide +kernel) ?_
        refine j_goto F (pc := 93) (off := 24) (tgt := 117) (by decide +kernel) (by decide) ?_
        refine u_X5_buy_117 F Rt hk (fun y56 y57 y58 y59 y60 y61 μ54 hρ55 h => ?_) _ _ _ _ _ _ _ _ hρ h
        exact ih _ _ _ _ _ _ _ hρ55 h
set_option maxHeartbeats 4000000 in
set_option maxRecDepth 100000 in
theorem t_X5_buy {G : z_Gl} {ρ : Nat → Nat → Option Nat} {μ : z_M} {r : Int32} {μr : z_M} {x1 : Int32} {x2 : Int32} {x3 : Int32} {x4 : Int32} {x5 : Int32} {x6 : Int32} (hρ : μ.2.2 = ρ) (hk : z_ok (z_sh G) ρ) (h : f_X5_buy x1 x2 x3 x4 x5 x6 μ = some (r, μr)) : z_Ci G yX5_buy cX5_buy 11 (some .int) 6 [.ref 98, .int x1, .int x2, .int x3, .int x4, .int x5, .int x6] μ (fun r1 μ1 => r = r1 ∧ μr = μ1) := by
  unfold z_Ci
  refine z_intro (by decide +kernel) (Nat.le_of_ble_eq_true rfl) (fun E hE F Rt => ?_)
  subst hE
  have F : z_F E RX5 cX5_buy 11 6 := F
  rw [hρ] at Rt
  unfold f_X5_buy at h
  show z_J E 11 0 [some (.ref 98), some (.int x1), some (.int x2), some (.int x3), some (.int x4), some (.int x5), some (.int x6), none, none, none, none] [] μ
  refine j_iload_n F (pc := 0) (q := 1) (by decide +kernel) rfl ?_
  obtain ⟨r1, μ2, hc4, h⟩ := z_b2_some h
  refine j_callSi F (pc := 1) (idx := 246) (As := [.int x1]) (st := []) (t_X5_isLand (G := E.1) hρ  hc4) q_X5_isLand m_1058 m_1057 rfl (by decide) (Nat.le_of_ble_eq_true rfl) rfl (by decide +kernel) (fun s7 ν5 hq6 hp => ?_)
  obtain ⟨rfl, rfl⟩ := hp
  have hρ3 : μ2.2.2 = ρ := hq6.trans hρ
  refine j_if_eq F (pc := 4) (off := 11) (tgt := 15) (by decide +kernel) (by decide) (fun c => ?_) (fun c => ?_)
  · rw [if_pos c] at h
    refine j_sipush F (pc := 15) (n := -1001) (v := -1001) (by decide +kernel) (by decide +kernel) ?_
    exact j_iret (st := []) F Rt rfl (by decide +kernel) ⟨hρ3, _, rfl, (congrArg Prod.fst (Option.some.inj h)).symm, (congrArg Prod.snd (Option.some.inj h)).symm⟩
  · rw [if_neg c] at h
    refine j_iload F (pc := 7) (i := 4) (by decide +kernel) rfl ?_
    obtain ⟨r8, μ9, hc11, h⟩ := z_b2_some h
    refine j_callSi F (pc := 9) (idx := 277) (As := [.int x4]) (st := []) (t_X5_isHolder (G := E.1) hρ3  hc11) q_X5_isHolder m_1169 m_1168 rfl (by decide) (Nat.le_of_ble_eq_true rfl) rfl (by decide +kernel) (fun s14 ν12 hq13 hp => ?_)
    obtain ⟨rfl, rfl⟩ := hp
    have hρ10 : μ9.2.2 = ρ := hq13.trans hρ3
    refine j_if_ne F (pc := 12) (off := 7) (tgt := 19) (by decide +kernel) (by decide) (fun c => ?_) (fun c => ?_)
    · rw [if_neg c] at h
      refine j_iload_n F (pc := 19) (q := 2) (by decide +kernel) rfl ?_
      refine j_iload_n F (pc := 20) (q := 3) (by decide +kernel) rfl ?_
      obtain ⟨r15, μ16, hc18, h⟩ := z_b2_some h
      refine j_callSi F (pc := 21) (idx := 336) (As := [.int x2, .int x3]) (st := []) (t_X5_isGood (G := E.1) hρ10  hc18) q_X5_isGood m_1254 m_1253 rfl (by decide) (Nat.le_of_ble_eq_true rfl) rfl (by decide +kernel) (fun s21 ν19 hq20 hp => ?_)
      obtain ⟨rfl, rfl⟩ := hp
      have hρ17 : μ16.2.2 = ρ := hq20.trans hρ10
      refine j_if_eq F (pc := 24) (off := 27) (tgt := 51) (by decide +kernel) (by decide) (fun c => ?_) (fun c => ?_)
      · rw [if_pos c] at h
        refine j_sipush F (pc := 51) (n := -1002) (v := -1002) (by decide +kernel) (by decide +kernel) ?_
        exact j_iret (st := []) F Rt rfl (by decide +kernel) ⟨hρ17, _, rfl, (congrArg Prod.fst (Option.some.inj h)).symm, (congrArg Prod.snd (Option.some.inj h)).symm⟩
      · rw [if_neg c] at h
        refine j_iload F (pc := 27) (i := 5) (by decide +kernel) rfl ?_
        refine j_i2l F (pc := 29) (by decide +kernel) ?_
        refine j_lconst F (pc := 30) (n := 1) (v := 1) (by decide +kernel) (by decide +kernel) ?_
        refine j_ldc2 F (pc := 31) m_1316 (by decide +kernel) ?_
        obtain ⟨r22, μ23, hc25, h⟩ := z_b2_some h
        refine j_callSi F (pc := 34) (idx := 138) (As := [.long (x5).toInt64, .long (1 : Int64), .long (200 : Int64)]) (st := []) (t_X5_in (G := E.1) hρ17  hc25) q_X5_in m_1050 m_1049 rfl (by decide) (Nat.le_of_ble_eq_true rfl) rfl (by decide +kernel) (fun s28 ν26 hq27 hp => ?_)
        obtain ⟨rfl, rfl⟩ := hp
        have hρ24 : μ23.2.2 = ρ := hq27.trans hρ17
        refine j_if_eq F (pc := 37) (off := 14) (tgt := 51) (by decide +kernel) (by decide) (fun c => ?_) (fun c => ?_)
        · rw [if_pos c] at h
          refine j_sipush F (pc := 51) (n := -1002) (v := -1002) (by decide +kernel) (by decide +kernel) ?_
          exact j_iret (st := []) F Rt rfl (by decide +kernel) ⟨hρ24, _, rfl, (congrArg Prod.fst (Option.some.inj h)).symm, (congrArg Prod.snd (Option.some.inj h)).symm⟩
        · rw [if_neg c] at h
          refine j_iload F (pc := 40) (i := 6) (by decide +kernel) rfl ?_
          refine j_i2l F (pc := 42) (by decide +kernel) ?_
          refine j_lconst F (pc := 43) (n := 0) (v := 0) (by decide +kernel) (by decide +kernel) ?_
          refine j_lconst F (pc := 44) (n := 1) (v := 1) (by decide +kernel) (by decide +kernel) ?_
          obtain ⟨r29, μ30, hc32, h⟩ := z_b2_some h
          refine j_callSi F (pc := 45) (idx := 138) (As := [.long (x6).toInt64, .long (0 : Int64), .long (1 : Int64)]) (st := []) (t_X5_in (G := E.1) hρ24  hc32) q_X5_in m_1050 m_1049 rfl (by decide) (Nat.le_of_ble_eq_true rfl) rfl (by decide +kernel) (fun s35 ν33 hq34 hp => ?_)
          obtain ⟨rfl, rfl⟩ := hp
          have hρ31 : μ30.2.2 = ρ := hq34.trans hρ24
          refine j_if_ne F (pc := 48) (off := 7) (tgt := 55) (by decide +kernel) (by decide) (fun c => ?_) (fun c => ?_)
          · rw [if_neg c] at h
            refine j_aload_n F (pc := 55) (q := 0) (by decide +kernel) rfl ?_
            refine j_iload_n F (pc := 56) (q := 1) (by decide +kernel) rfl ?_
            refine j_iload_n F (pc := 57) (q := 2) (by decide +kernel) rfl ?_
            refine j_iload_n F (pc := 58) (q := 3) (by decide +kernel) rfl ?_
            obtain ⟨μ37, hc39, h⟩ := z_b1_some h
            refine j_callVv F (pc := 59) (idx := 340) (As := [.int x1, .int x2, .int x3]) (st := []) (t_X5_payOut (G := E.1) hρ31 hk hc39) q_X5_payOut v_X5_payOut m_1256 (hk.s c_98) rfl rfl (by decide) (Nat.le_of_ble_eq_true rfl) rfl (by decide +kernel) (fun ν40 hq41 hp => ?_)
            subst hp
            have hρ38 : μ37.2.2 = ρ := hq41.trans hρ31
            refine j_iconst F (pc := 62) (n := -1) (v := -1) (by decide +kernel) (by decide +kernel) ?_
            refine j_istore F (pc := 63) (i := 7) (L' := [some (.ref 98), some (.int x1), some (.int x2), some (.int x3), some (.int x4), some (.int x5), some (.int x6), some (.int (-1 : Int32)), none, none, none]) (by decide +kernel) (by decide) rfl rfl ?_
            refine j_iconst F (pc := 65) (n := 0) (v := 0) (by decide +kernel) (by decide +kernel) ?_
            refine j_istore F (pc := 66) (i := 8) (L' := [some (.ref 98), some (.int x1), some (.int x2), some (.int x3), some (.int x4), some (.int x5), some (.int x6), some (.int (-1 : Int32)), some (.int (0 : Int32)), none, none]) (by decide +kernel) (by decide) rfl rfl ?_
            refine j_iconst F (pc := 68) (n := 0) (v := 0) (by decide +kernel) (by decide +kernel) ?_
            refine j_istore F (pc := 69) (i := 9) (L' := [some (.ref 98), some (.int x1), some (.int x2), some (.int x3), some (.int x4), some (.int x5), some (.int x6), some (.int (-1 : Int32)), some (.int (0 : Int32)), some (.int (0 : Int32)), none]) (by decide +kernel) (by decide) rfl rfl ?_
            refine j_mk F [true, false, false, false, true, true, true, true, true, true, false] (L' := [some (.ref 98), none, none, none, some (.int x4), some (.int x5), some (.int x6), some (.int (-1 : Int32)), some (.int (0 : Int32)), some (.int (0 : Int32)), none]) rfl ?_
            refine u_X5_buy_71 F Rt hk  z_N _ _ _ _ _ _ _ hρ38 h
          · rw [if_pos c] at h
            refine j_sipush F (pc := 51) (n := -1002) (v := -1002) (by decide +kernel) (by decide +kernel) ?_
            exact j_iret (st := []) F Rt rfl (by decide +kernel) ⟨hρ31, _, rfl, (congrArg Prod.fst (Option.some.inj h)).symm, (congrArg Prod.snd (Option.some.inj h)).symm⟩
    · rw [if_pos c] at h
      refine j_sipush F (pc := 15) (n := -1001) (v := -1001) (by decide +kernel) (by decide +kernel) ?_
      exact j_iret (st := []) F Rt rfl (by decide +kernel) ⟨hρ10, _, rfl, (congrArg Prod.fst (Option.some.inj h)).symm, (congrArg Prod.snd (Option.some.inj h)).symm⟩
def g_X5_clear_66   : Nat → Int32 → Int32 → Int32 → Int32 → Int32 → Int32 → Int32 → Int32 → Int32 → z_M → Option (Int32 × z_M)
  | 0, _, _, _, _, _, _, _, _, _, _ => none
  | n + 1, x1, x2, x3, x4, x5, x6, x7, x8, x9, μ => (if (μ.1 98 27) ≤ x9 then (some ((if 0 ≤ x7 then (if x5 = 0 then x7 else x8) else (-1 : Int32)), μ)) else (if z_in x9 15 then (if (μ.1 117 x9.toNatClampNeg) = x4 then (g_X5_clear_66   n (x1) (x2) (x3) (x4) (x5) (x6) (x7) (x8) ((x9 + (1 : Int32))) μ) else (if z_in x9 15 then (z_st (z_si μ 123 x9.toNatClampNeg ((1 : Int32) &&& 1)) fun μ42 => (z_b1 (f_X5_payOut (x1) (x2) (x3) μ42) fun μ46 => (if z_in x9 15 then (z_st (z_si μ46 123 x9.toNatClampNeg ((0 : Int32) &&& 1)) fun μ51 => (z_b2 (f_X5_having (x4) μ51) fun r54 μ55 => (if z_in x9 15 then (z_lt ((r54 - x6) - (μ55.1 119 x9.toNatClampNeg)) fun x_61 => (z_lt (if x_61 ≤ x8 then x7 else x9) fun x_63 => (z_lt (if x_61 ≤ x8 then x8 else x_61) fun x_65 => (g_X5_clear_66   n (x1) (x2) (x3) (x4) (x5) (x6) (x_63) (x_65) ((x9 + (1 : Int32))) μ55)))) else none))) else none))) else none)) else none))
def f_X5_clear (x1 : Int32) (x2 : Int32) (x3 : Int32) (x4 : Int32) (x5 : Int32) (μ : z_M) : Option (Int32 × z_M) :=
  (z_b2 (f_X5_isLand (x1) μ) fun r1 μ2 => (if r1 = 0 then (some ((-1001 : Int32), μ2)) else (z_b2 (f_X5_isHolder (x4) μ2) fun r8 μ9 => (if r8 = 0 then (some ((-1001 : Int32), μ9)) else (z_b2 (f_X5_isGood (x2) (x3) μ9) fun r15 μ16 => (if r15 = 0 then (some ((-1002 : Int32), μ16)) else (z_b2 (f_X5_in ((x5).toInt64) ((0 : Int64)) ((1 : Int64)) μ16) fun r22 μ23 => (if r22 = 0 then (some ((-1002 : Int32), μ23)) else (z_b1 (f_X5_payOut (x1) (x2) (x3) μ23) fun μ30 => (z_b2 (f_X5_having (x4) μ30) fun r35 μ36 => (g_X5_clear_66   z_N (x1) (x2) (x3) (x4) (x5) (r35) ((-1 : Int32)) ((0 : Int32)) ((0 : Int32)) μ36)))))))))))
set_option maxHeartbeats 4000000 in
set_option maxRecDepth 100000 in
theorem u_X5_clear_66 {E : z_E} {ρ : Nat → Nat → Option Nat} {r : Int32} {μr : z_M} (F : z_F E RX5 cX5_clear 11 6) (Rt : z_R E (some .int) (fun v μ1 => μ1.2.2 = ρ ∧ ∃ r1, v = some (.int r1) ∧ r = r1 ∧ μr = μ1))  (hk : z_ok (z_sh E.1) ρ) : ∀ (n : Nat) (x1 : Int32) (x2 : Int32) (x3 : Int32) (x4 : Int32) (x5 : Int32) (x6 : Int32) (x7 : Int32) (x8 : Int32) (x9 : Int32) (μ : z_M), μ.2.2 = ρ → g_X5_clear_66   n x1 x2 x3 x4 x5 x6 x7 x8 x9 μ = some (r, μr) → z_J E 11 66 [some (.ref 98), some (.int x1), some (.int x2), some (.int x3), some (.int x4), some (.int x5), some (.int x6), some (.int x7), some (.int x8), some (.int x9), none] [] μ := by
  intro n
  induction n with
  | zero =>
    intro x1 x2 x3 x4 x5 x6 x7 x8 x9 μ hρ h
    rw [g_X5_clear_66] at h
    cases h
  | succ n ih =>
    intro x1 x2 x3 x4 x5 x6 x7 x8 x9 μ hρ h
    rw [g_X5_clear_66] at h
    refine j_iload F (pc := 66) (i := 9) (by decide +kernel) rfl ?_
    refine j_aload_n F (pc := 68) (q := 0) (by decide +kernel) rfl ?_
    refine j_getI F (pc := 69) fl_X5_268 (hk.s c_98) rfl (by decide +kernel) ?_
    refine j_icmp_ge F (pc := 72) (off := 95) (tgt := 167) (by decide +kernel) (by decide) (fun c => ?_) (fun c => ?_)
    · rw [if_pos c] at h
      refine j_iload F (pc := 167) (i := 7) (by decide +kernel) rfl ?_
      suffices hj : z_J E 11 188 [some (.ref 98), some (.int x1), some (.int x2), some (.int x3), some (.int x4), some (.int x5), some (.int x6), some (.int x7), some (.int x8), some (.int x9), none] (.int (if 0 ≤ x7 then (if x5 = 0 then x7 else x8) else (-1 : Int32)) :: []) μ by
        refine j_if_ge F (pc := 169) (off := 7) (tgt := 176) (by decide +kernel) (by decide) (fun c0 => ?_) (fun c0 => ?_)
        · rw [if_pos c0] at hj
          refine j_iload F (pc := 176) (i := 5) (by decide +kernel) rfl ?_
          refine j_if_ne F (pc := 178) (off := 8) (tgt := 186) (by decide +kernel) (by decide) (fun c1 => ?_) (fun c1 => ?_)
          · rw [if_neg c1] at hj
            refine j_iload F (pc := 186) (i := 8) (by decide +kernel) rfl ?_
            exact hj
          · rw [if_pos c1] at hj
            refine j_iload F (pc := 181) (i := 7) (by decide +kernel) rfl ?_
            refine j_goto F (pc := 183) (off := 5) (tgt := 188) (by decide +kernel) (by decide) ?_
            exact hj
        · rw [if_neg c0] at hj
          refine j_iconst F (pc := 172) (n := -1) (v := -1) (by decide +kernel) (by decide +kernel) ?_
          refine j_goto F (pc := 173) (off := 15) (tgt := 188) (by decide +kernel) (by decide) ?_
          exact hj
      exact j_iret (st := []) F Rt rfl (by decide +kernel) ⟨hρ, _, rfl, (congrArg Prod.fst (Option.some.inj h)).symm, (congrArg Prod.snd (Option.some.inj h)).symm⟩
    · rw [if_neg c] at h
      refine j_aload_n F (pc := 75) (q := 0) (by decide +kernel) rfl ?_
      refine j_getR F (pc := 76) (hk.r hρ r_98_29) fl_X5_69 (hk.s c_98) rfl (by decide +kernel) ?_
      refine j_iload F (pc := 79) (i := 9) (by decide +kernel) rfl ?_
      obtain ⟨hg, h⟩ := z_ifs h
      refine j_iald F (pc := 81) (hk.s c_117) hg (by decide +kernel) ?_
      refine j_iload F (pc := 82) (i := 4) (by decide +kernel) rfl ?_
      refine j_icmp_eq F (pc := 84) (off := 77) (tgt := 161) (by decide +kernel) (by decide) (fun c => ?_) (fun c => ?_)
      · rw [if_pos c] at h
        refine j_iinc F (pc := 161) (i := 9) (n := 1) (v := 1) (L' := [some (.ref 98), some (.int x1), some (.int x2), some (.int x3), some (.int x4), some (.int x5), some (.int x6), some (.int x7), some (.int x8), some (.int (x9 + (1 : Int32))), none]) (by decide +kernel) rfl (by decide +kernel) (by decide) rfl rfl ?_
        refine j_goto F (pc := 164) (off := -98) (tgt := 66) (by decide +kernel) (by decide) ?_
        exact ih _ _ _ _ _ _ _ _ _ _ hρ h
      · rw [if_neg c] at h
        refine j_aload_n F (pc := 87) (q := 0) (by decide +kernel) rfl ?_
        refine j_getR F (pc := 88) (hk.r hρ r_98_35) fl_X5_87 (hk.s c_98) rfl (by decide +kernel) ?_
        refine j_iload F (pc := 91) (i := 9) (by decide +kernel) rfl ?_
        refine j_iconst F (pc := 93) (n := 1) (v := 1) (by decide +kernel) (by decide +kernel) ?_
        obtain ⟨hg, h⟩ := z_ifs h
        refine j_zast F (pc := 94) (hk.s c_123) hg (by decide +kernel) ?_
        obtain ⟨μ42, e44, h⟩ := z_st_some h
        rw [← e44]
        have hρ43 : μ42.2.2 = ρ := by rw [e44]; exact hρ
        refine j_aload_n F (pc := 95) (q := 0) (by decide +kernel) rfl ?_
        refine j_iload_n F (pc := 96) (q := 1) (by decide +kernel) rfl ?_
        refine j_iload_n F (pc := 97) (q := 2) (by decide +kernel) rfl ?_
        refine j_iload_n F (pc := 98) (q := 3) (by decide +kernel) rfl ?_
        obtain ⟨μ46, hc48, h⟩ := z_b1_some h
        refine j_callVv F (pc := 99) (idx := 340) (As := [.int x1, .int x2, .int x3]) (st := []) (t_X5_payOut (G := E.1) hρ43 hk hc48) q_X5_payOut v_X5_payOut m_1256 (hk.s c_98) rfl rfl (by decide) (Nat.le_of_ble_eq_true rfl) rfl (by decide +kernel) (fun ν49 hq50 hp => ?_)
        subst hp
        have hρ47 : μ46.2.2 = ρ := hq50.trans hρ43
        refine j_aload_n F (pc := 102) (q := 0) (by decide +kernel) rfl ?_
        refine j_getR F (pc := 103) (hk.r hρ47 r_98_35) fl_X5_87 (hk.s c_98) rfl (by decide +kernel) ?_
        refine j_iload F (pc := 106) (i := 9) (by decide +kernel) rfl ?_
        refine j_iconst F (pc := 108) (n := 0) (v := 0) (by decide +kernel) (by decide +kernel) ?_
        obtain ⟨hg, h⟩ := z_ifs h
        refine j_zast F (pc := 109) (hk.s c_123) hg (by decide +kernel) ?_
        obtain ⟨μ51, e53, h⟩ := z_st_some h
        rw [← e53]
        have hρ52 : μ51.2.2 = ρ := by rw [e53]; exact hρ47
        refine j_aload_n F (pc := 110) (q := 0) (by decide +kernel) rfl ?_
        refine j_iload F (pc := 111) (i := 4) (by decide +kernel) rfl ?_
        obtain ⟨r54, μ55, hc57, h⟩ := z_b2_some h
        refine j_callVi F (pc := 113) (idx := 343) (As := [.int x4]) (st := []) (t_X5_having (G := E.1) hρ52 hk hc57) q_X5_having v_X5_having m_1292 (hk.s c_98) rfl rfl (by decide) (Nat.le_of_ble_eq_true rfl) rfl (by decide +kernel) (fun s60 ν58 hq59 hp => ?_)
        obtain ⟨rfl, rfl⟩ := hp
        have hρ56 : μ55.2.2 = ρ := hq59.trans hρ52
        refine j_iload F (pc := 116) (i := 6) (by decide +kernel) rfl ?_
        refine j_isub F (pc := 118) (by decide +kernel) ?_
        refine j_aload_n F (pc := 119) (q := 0) (by decide +kernel) rfl ?_
        refine j_getR F (pc := 120) (hk.r hρ56 r_98_31) fl_X5_75 (hk.s c_98) rfl (by decide +kernel) ?_
        refine j_iload F (pc := 123) (i := 9) (by decide +kernel) rfl ?_
        obtain ⟨hg, h⟩ := z_ifs h
        refine j_iald F (pc := 125) (hk.s c_119) hg (by decide +kernel) ?_
        refine j_isub F (pc := 126) (by decide +kernel) ?_
        obtain ⟨x_61, e62, h⟩ := z_lt_some h
        rw [← e62]
        refine j_istore F (pc := 127) (i := 10) (L' := [some (.ref 98), some (.int x1), some (.int x2), some (.int x3), some (.int x4), some (.int x5), some (.int x6), some (.int x7), some (.int x8), some (.int x9), some (.int x_61)]) (by decide +kernel) (by decide) rfl rfl ?_
        refine j_iload F (pc := 129) (i := 10) (by decide +kernel) rfl ?_
        refine j_iload F (pc := 131) (i := 8) (by decide +kernel) rfl ?_
        suffices hj : z_J E 11 143 [some (.ref 98), some (.int x1), some (.int x2), some (.int x3), some (.int x4), some (.int x5), some (.int x6), some (.int x7), some (.int x8), some (.int x9), some (.int x_61)] (.int (if x_61 ≤ x8 then x7 else x9) :: []) μ55 by
          refine j_icmp_le F (pc := 133) (off := 8) (tgt := 141) (by decide +kernel) (by decide) (fun c0 => ?_) (fun c0 => ?_)
          · rw [if_pos c0] at hj
            refine j_iload F (pc := 141) (i := 7) (by decide +kernel) rfl ?_
            exact hj
          · rw [if_neg c0] at hj
            refine j_iload F (pc := 136) (i := 9) (by decide +kernel) rfl ?_
            refine j_goto F (pc := 138) (off := 5) (tgt := 143) (by decide +kernel) (by decide) ?_
            exact hj
        obtain ⟨x_63, e64, h⟩ := z_lt_some h
        rw [← e64]
        refine j_istore F (pc := 143) (i := 7) (L' := [some (.ref 98), some (.int x1), some (.int x2), some (.int x3), some (.int x4), some (.int x5), some (.int x6), some (.int x_63), some (.int x8), some (.int x9), some (.int x_61)]) (by decide +kernel) (by decide) rfl rfl ?_
        refine j_iload F (pc := 145) (i := 10) (by decide +kernel) rfl ?_
        refine j_iload F (pc := 147) (i := 8) (by decide +kernel) rfl ?_
        suffices hj : z_J E 11 159 [some (.ref 98), some (.int x1), some (.int x2), some (.int x3), some (.int x4), some (.int x5), some (.int x6), some (.int x_63), some (.int x8), some (.int x9), some (.int x_61)] (.int (if x_61 ≤ x8 then x8 else x_61) :: []) μ55 by
          refine j_icmp_le F (pc := 149) (off := 8) (tgt := 157) (by decide +kernel) (by decide) (fun c0 => ?_) (fun c0 => ?_)
          · rw [if_pos c0] at hj
            refine j_iload F (pc := 157) (i := 8) (by decide +kernel) rfl ?_
            exact hj
          · rw [if_neg c0] at hj
            refine j_iload F (pc := 152) (i := 10) (by decide +kernel) rfl ?_
            refine j_goto F (pc := 154) (off := 5) (tgt := 159) (by decide +kernel) (by decide) ?_
            exact hj
        obtain ⟨x_65, e66, h⟩ := z_lt_some h
        rw [← e66]
        refine j_istore F (pc := 159) (i := 8) (L' := [some (.ref 98), some (.int x1), some (.int x2), some (.int x3), some (.int x4), some (.int x5), some (.int x6), some (.int x_63), some (.int x_65), some (.int x9), some (.int x_61)]) (by decide +kernel) (by decide) rfl rfl ?_
        refine j_iinc F (pc := 161) (i := 9) (n := 1) (v := 1) (L' := [some (.ref 98), some (.int x1), some (.int x2), some (.int x3), some (.int x4), some (.int x5), some (.int x6), some (.int x_63), some (.int x_65), some (.int (x9 + (1 : Int32))), some (.int x_61)]) (by decide +kernel) rfl (by decide +kernel) (by decide) rfl rfl ?_
        refine j_goto F (pc := 164) (off := -98) (tgt := 66) (by decide +kernel) (by decide) ?_
        refine j_mk F [true, true, true, true, true, true, true, true, true, true, false] (L' := [some (.ref 98), some (.int x1), some (.int x2), some (.int x3), some (.int x4), some (.int x5), some (.int x6), some (.int x_63), some (.int x_65), some (.int (x9 + (1 : Int32))), none]) rfl ?_
        exact ih _ _ _ _ _ _ _ _ _ _ hρ56 h
set_option maxHeartbeats 4000000 in
set_option maxRecDepth 100000 in
theorem t_X5_clear {G : z_Gl} {ρ : Nat → Nat → Option Nat} {μ : z_M} {r : Int32} {μr : z_M} {x1 : Int32} {x2 : Int32} {x3 : Int32} {x4 : Int32} {x5 : Int32} (hρ : μ.2.2 = ρ) (hk : z_ok (z_sh G) ρ) (h : f_X5_clear x1 x2 x3 x4 x5 μ = some (r, μr)) : z_Ci G yX5_clear cX5_clear 11 (some .int) 6 [.ref 98, .int x1, .int x2, .int x3, .int x4, .int x5] μ (fun r1 μ1 => r = r1 ∧ μr = μ1) := by
  unfold z_Ci
  refine z_intro (by decide +kernel) (Nat.le_of_ble_eq_true rfl) (fun E hE F Rt => ?_)
  subst hE
  have F : z_F E RX5 cX5_clear 11 6 := F
  rw [hρ] at Rt
  unfold f_X5_clear at h
  show z_J E 11 0 [some (.ref 98), some (.int x1), some (.int x2), some (.int x3), some (.int x4), some (.int x5), none, none, none, none, none] [] μ
  refine j_iload_n F (pc := 0) (q := 1) (by decide +kernel) rfl ?_
  obtain ⟨r1, μ2, hc4, h⟩ := z_b2_some h
  refine j_callSi F (pc := 1) (idx := 246) (As := [.int x1]) (st := []) (t_X5_isLand (G := E.1) hρ  hc4) q_X5_isLand m_1058 m_1057 rfl (by decide) (Nat.le_of_ble_eq_true rfl) rfl (by decide +kernel) (fun s7 ν5 hq6 hp => ?_)
  obtain ⟨rfl, rfl⟩ := hp
  have hρ3 : μ2.2.2 = ρ := hq6.trans hρ
  refine j_if_eq F (pc := 4) (off := 11) (tgt := 15) (by decide +kernel) (by decide) (fun c => ?_) (fun c => ?_)
  · rw [if_pos c] at h
    refine j_sipush F (pc := 15) (n := -1001) (v := -1001) (by decide +kernel) (by decide +kernel) ?_
    exact j_iret (st := []) F Rt rfl (by decide +kernel) ⟨hρ3, _, rfl, (congrArg Prod.fst (Option.some.inj h)).symm, (congrArg Prod.snd (Option.some.inj h)).symm⟩
  · rw [if_neg c] at h
    refine j_iload F (pc := 7) (i := 4) (by decide +kernel) rfl ?_
    obtain ⟨r8, μ9, hc11, h⟩ := z_b2_some h
    refine j_callSi F (pc := 9) (idx := 277) (As := [.int x4]) (st := []) (t_X5_isHolder (G := E.1) hρ3  hc11) q_X5_isHolder m_1169 m_1168 rfl (by decide) (Nat.le_of_ble_eq_true rfl) rfl (by decide +kernel) (fun s14 ν12 hq13 hp => ?_)
    obtain ⟨rfl, rfl⟩ := hp
    have hρ10 : μ9.2.2 = ρ := hq13.trans hρ3
    refine j_if_ne F (pc := 12) (off := 7) (tgt := 19) (by decide +kernel) (by decide) (fun c => ?_) (fun c => ?_)
    · rw [if_neg c] at h
      refine j_iload_n F (pc := 19) (q := 2) (by decide +kernel) rfl ?_
      refine j_iload_n F (pc := 20) (q := 3) (by decide +kernel) rfl ?_
      obtain ⟨r15, μ16, hc18, h⟩ := z_b2_some h
      refine j_callSi F (pc := 21) (idx := 336) (As := [.int x2, .int x3]) (st := []) (t_X5_isGood (G := E.1) hρ10  hc18) q_X5_isGood m_1254 m_1253 rfl (by decide) (Nat.le_of_ble_eq_true rfl) rfl (by decide +kernel) (fun s21 ν19 hq20 hp => ?_)
      obtain ⟨rfl, rfl⟩ := hp
      have hρ17 : μ16.2.2 = ρ := hq20.trans hρ10
      refine j_if_eq F (pc := 24) (off := 14) (tgt := 38) (by decide +kernel) (by decide) (fun c => ?_) (fun c => ?_)
      · rw [if_pos c] at h
        refine j_sipush F (pc := 38) (n := -1002) (v := -1002) (by decide +kernel) (by decide +kernel) ?_
        exact j_iret (st := []) F Rt rfl (by decide +kernel) ⟨hρ17, _, rfl, (congrArg Prod.fst (Option.some.inj h)).symm, (congrArg Prod.snd (Option.some.inj h)).symm⟩
      · rw [if_neg c] at h
        refine j_iload F (pc := 27) (i := 5) (by decide +kernel) rfl ?_
        refine j_i2l F (pc := 29) (by decide +kernel) ?_
        refine j_lconst F (pc := 30) (n := 0) (v := 0) (by decide +kernel) (by decide +kernel) ?_
        refine j_lconst F (pc := 31) (n := 1) (v := 1) (by decide +kernel) (by decide +kernel) ?_
        obtain ⟨r22, μ23, hc25, h⟩ := z_b2_some h
        refine j_callSi F (pc := 32) (idx := 138) (As := [.long (x5).toInt64, .long (0 : Int64), .long (1 : Int64)]) (st := []) (t_X5_in (G := E.1) hρ17  hc25) q_X5_in m_1050 m_1049 rfl (by decide) (Nat.le_of_ble_eq_true rfl) rfl (by decide +kernel) (fun s28 ν26 hq27 hp => ?_)
        obtain ⟨rfl, rfl⟩ := hp
        have hρ24 : μ23.2.2 = ρ := hq27.trans hρ17
        refine j_if_ne F (pc := 35) (off := 7) (tgt := 42) (by decide +kernel) (by decide) (fun c => ?_) (fun c => ?_)
        · rw [if_neg c] at h
          refine j_aload_n F (pc := 42) (q := 0) (by decide +kernel) rfl ?_
          refine j_iload_n F (pc := 43) (q := 1) (by decide +kernel) rfl ?_
          refine j_iload_n F (pc := 44) (q := 2) (by decide +kernel) rfl ?_
          refine j_iload_n F (pc := 45) (q := 3) (by decide +kernel) rfl ?_
          obtain ⟨μ30, hc32, h⟩ := z_b1_some h
          refine j_callVv F (pc := 46) (idx := 340) (As := [.int x1, .int x2, .int x3]) (st := []) (t_X5_payOut (G := E.1) hρ24 hk hc32) q_X5_payOut v_X5_payOut m_1256 (hk.s c_98) rfl rfl (by decide) (Nat.le_of_ble_eq_true rfl) rfl (by decide +kernel) (fun ν33 hq34 hp => ?_)
          subst hp
          have hρ31 : μ30.2.2 = ρ := hq34.trans hρ24
          refine j_aload_n F (pc := 49) (q := 0) (by decide +kernel) rfl ?_
          refine j_iload F (pc := 50) (i := 4) (by decide +kernel) rfl ?_
          obtain ⟨r35, μ36, hc38, h⟩ := z_b2_some h
          refine j_callVi F (pc := 52) (idx := 343) (As := [.int x4]) (st := []) (t_X5_having (G := E.1) hρ31 hk hc38) q_X5_having v_X5_having m_1292 (hk.s c_98) rfl rfl (by decide) (Nat.le_of_ble_eq_true rfl) rfl (by decide +kernel) (fun s41 ν39 hq40 hp => ?_)
          obtain ⟨rfl, rfl⟩ := hp
          have hρ37 : μ36.2.2 = ρ := hq40.trans hρ31
          refine j_istore F (pc := 55) (i := 6) (L' := [some (.ref 98), some (.int x1), some (.int x2), some (.int x3), some (.int x4), some (.int x5), some (.int r35), none, none, none, none]) (by decide +kernel) (by decide) rfl rfl ?_
          refine j_iconst F (pc := 57) (n := -1) (v := -1) (by decide +kernel) (by decide +kernel) ?_
          refine j_istore F (pc := 58) (i := 7) (L' := [some (.ref 98), some (.int x1), some (.int x2), some (.int x3), some (.int x4), some (.int x5), some (.int r35), some (.int (-1 : Int32)), none, none, none]) (by decide +kernel) (by decide) rfl rfl ?_
          refine j_iconst F (pc := 60) (n := 0) (v := 0) (by decide +kernel) (by decide +kernel) ?_
          refine j_istore F (pc := 61) (i := 8) (L' := [some (.ref 98), some (.int x1), some (.int x2), some (.int x3), some (.int x4), some (.int x5), some (.int r35), some (.int (-1 : Int32)), some (.int (0 : Int32)), none, none]) (by decide +kernel) (by decide) rfl rfl ?_
          refine j_iconst F (pc := 63) (n := 0) (v := 0) (by decide +kernel) (by decide +kernel) ?_
          refine j_istore F (pc := 64) (i := 9) (L' := [some (.ref 98), some (.int x1), some (.int x2), some (.int x3), some (.int x4), some (.int x5), some (.int r35), some (.int (-1 : Int32)), some (.int (0 : Int32)), some (.int (0 : Int32)), none]) (by decide +kernel) (by decide) rfl rfl ?_
          refine u_X5_clear_66 F Rt hk  z_N _ _ _ _ _ _ _ _ _ _ hρ37 h
        · rw [if_pos c] at h
          refine j_sipush F (pc := 38) (n := -1002) (v := -1002) (by decide +kernel) (by decide +kernel) ?_
          exact j_iret (st := []) F Rt rfl (by decide +kernel) ⟨hρ24, _, rfl, (congrArg Prod.fst (Option.some.inj h)).symm, (congrArg Prod.snd (Option.some.inj h)).symm⟩
    · rw [if_pos c] at h
      refine j_sipush F (pc := 15) (n := -1001) (v := -1001) (by decide +kernel) (by decide +kernel) ?_
      exact j_iret (st := []) F Rt rfl (by decide +kernel) ⟨hρ10, _, rfl, (congrArg Prod.fst (Option.some.inj h)).symm, (congrArg Prod.snd (Option.some.inj h)).symm⟩
