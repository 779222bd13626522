/-! functions and contracts, written by wip/whole/dec.py -/
def g_X5_ring_44  (k_13 : Int32 → Int32 → Int32 → Int32 → z_M → Option (Int32 × z_M)) (x1 : Int32) (x3 : Int32) (x4 : Int32) (xs0 : Int32) (μ : z_M) : Option (Int32 × z_M) :=
  (z_lt (xs0 ||| (0 : Int32)) fun x_1 => (k_13 (x1) (x_1) (x3) ((x4 + (1 : Int32))) μ))
def g_X5_ring_13  (k_4 : Int32 → Int32 → Int32 → z_M → Option (Int32 × z_M)) : Nat → Int32 → Int32 → Int32 → Int32 → z_M → Option (Int32 × z_M)
  | 0, _, _, _, _, _ => none
  | n + 1, x1, x2, x3, x4, μ => (if (8 : Int32) ≤ x4 then (k_4 (x1) (x2) ((x3 + (1 : Int32))) μ) else (if x3 = x4 then (g_X5_ring_44  (fun (y5 : Int32) (y6 : Int32) (y7 : Int32) (y8 : Int32) (μ3 : z_M) => (g_X5_ring_13  k_4 n (y5) (y6) (y7) (y8) μ3)) (x1) (x3) (x4) (x2) μ) else (z_b2 (f_X5_areAlike (x1) (x3) (x4) μ) fun r9 μ10 => (if r9 = 0 then (g_X5_ring_44  (fun (y18 : Int32) (y19 : Int32) (y20 : Int32) (y21 : Int32) (μ16 : z_M) => (g_X5_ring_13  k_4 n (y18) (y19) (y20) (y21) μ16)) (x1) (x3) (x4) (x2) μ10) else (z_lt (x2 ||| ((1 : Int32) <<< (x3 &&& 31))) fun x_22 => (g_X5_ring_13  k_4 n (x1) (x_22) (x3) ((x4 + (1 : Int32))) μ10))))))
def g_X5_ring_4   : Nat → Int32 → Int32 → Int32 → z_M → Option (Int32 × z_M)
  | 0, _, _, _, _ => none
  | n + 1, x1, x2, x3, μ => (if (8 : Int32) ≤ x3 then (some (x2, μ)) else (g_X5_ring_13  (fun (y26 : Int32) (y27 : Int32) (y28 : Int32) (μ24 : z_M) => (g_X5_ring_4   n (y26) (y27) (y28) μ24)) z_N (x1) (x2) (x3) ((0 : Int32)) μ))
def f_X5_ring (x1 : Int32) (μ : z_M) : Option (Int32 × z_M) :=
  (g_X5_ring_4   z_N (x1) ((0 : Int32)) ((0 : Int32)) μ)
set_option maxHeartbeats 4000000 in
set_option maxRecDepth 100000 in
theorem u_X5_ring_44 {E : z_E} {ρ : Nat → Nat → Option Nat} {r : Int32} {μr : z_M} (F : z_F E RX5 cX5_ring 5 1) (Rt : z_R E (some .int) (fun v μ1 => μ1.2.2 = ρ ∧ ∃ r1, v = some (.int r1) ∧ r = r1 ∧ μr = μ1))  (hk : z_ok (z_sh E.1) ρ) {k_13 : Int32 → Int32 → Int32 → Int32 → z_M → Option (Int32 × z_M)} (hc_13 : ∀ (y1 : Int32) (y2 : Int32) (y3 : Int32) (y4 : Int32) (μ1 : z_M), μ1.2.2 = ρ → k_13 y1 y2 y3 y4 μ1 = some (r, μr) → z_J E 5 13 [some (.ref 98), some (.int y1), some (.int y2), some (.int y3), some (.int y4)] [] μ1) : ∀ (x1 : Int32) (x3 : Int32) (x4 : Int32) (xs0 : Int32) (μ : z_M), μ.2.2 = ρ → g_X5_ring_44  k_13 x1 x3 x4 xs0 μ = some (r, μr) → z_J E 5 44 [some (.ref 98), some (.int x1), none, some (.int x3), some (.int x4)] [.int xs0] μ := by
  intro x1 x3 x4 xs0 μ hρ h
  unfold g_X5_ring_44 at h
  refine j_iconst F (pc := 44) (n := 0) (v := 0) (by decide +kernel) (by decide +kernel) ?_
  refine j_ior F (pc := 45) (by decide +kernel) ?_
  obtain ⟨x_1, e2, h⟩ := z_lt_some h
  rw [← e2]
  refine j_istore_n F (pc := 46) (q := 2) (L' := [some (.ref 98), some (.int x1), some (.int x_1), some (.int x3), some (.int x4)]) (by decide +kernel) (by decide) rfl rfl ?_
  refine j_iinc F (pc := 47) (i := 4) (n := 1) (v := 1) (L' := [some (.ref 98), some (.int x1), some (.int x_1), some (.int x3), some (.int (x4 + (1 : Int32)))]) (by decide +kernel) rfl (by decide +kernel) (by decide) rfl rfl ?_
  refine j_goto F (pc := 50) (off := -37) (tgt := 13) (by decide +kernel) (by decide) ?_
  exact hc_13 _ _ _ _ _ hρ h
set_option maxHeartbeats 4000000 in
set_option maxRecDepth 100000 in
theorem u_X5_ring_13 {E : z_E} {ρ : Nat → Nat → Option Nat} {r : Int32} {μr : z_M} (F : z_F E RX5 cX5_ring 5 1) (Rt : z_R E (some .int) (fun v μ1 => μ1.2.2 = ρ ∧ ∃ r1, v = some (.int r1) ∧ r = r1 ∧ μr = μ1))  (hk : z_ok (z_sh E.1) ρ) {k_4 : Int32 → Int32 → Int32 → z_M → Option (Int32 × z_M)} (hc_4 : ∀ (y1 : Int32) (y2 : Int32) (y3 : Int32) (μ1 : z_M), μ1.2.2 = ρ → k_4 y1 y2 y3 μ1 = some (r, μr) → z_J E 5 4 [some (.ref 98), some (.int y1), some (.int y2), some (.int y3), none] [] μ1) : ∀ (n : Nat) (x1 : Int32) (x2 : Int32) (x3 : Int32) (x4 : Int32) (μ : z_M), μ.2.2 = ρ → g_X5_ring_13  k_4 n x1 x2 x3 x4 μ = some (r, μr) → z_J E 5 13 [some (.ref 98), some (.int x1), some (.int x2), some (.int x3), some (.int x4)] [] μ := by
  intro n
  induction n with
  | zero =>
    intro x1 x2 x3 x4 μ hρ h
    rw [g_X5_ring_13] at h
    cases h
  | succ n ih =>
    intro x1 x2 x3 x4 μ hρ h
    rw [g_X5_ring_13] at h
    refine j_iload F (pc := 13) (i := 4) (by decide +kernel) rfl ?_
    refine j_bipush F (pc := 15) (n := 8) (v := 8) (by decide +kernel) (by decide +kernel) ?_
    refine j_icmp_ge F (pc := 17) (off := 36) (tgt := 53) (by decide +kernel) (by decide) (fun c => ?_) (fun c => ?_)
    · rw [if_pos c] at h
      refine j_iinc F (pc := 53) (i := 3) (n := 1) (v := 1) (L' := [some (.ref 98), some (.int x1), some (.int x2), some (.int (x3 + (1 : Int32))), some (.int x4)]) (by decide +kernel) rfl (by decide +kernel) (by decide) rfl rfl ?_
      refine j_goto F (pc := 56) (off := -52) (tgt := 4) (by decide +kernel) (by decide) ?_
      refine j_mk F [true, true, true, true, false] (L' := [some (.ref 98), some (.int x1), some (.int x2), some (.int (x3 + (1 : Int32))), none]) rfl ?_
      exact hc_4 _ _ _ _ hρ h
    · rw [if_neg c] at h
      refine j_iload_n F (pc := 20) (q := 2) (by decide +kernel) rfl ?_
      refine j_iload_n F (pc := 21) (q := 3) (by decide +kernel) rfl ?_
      refine j_iload F (pc := 22) (i := 4) (by decide +kernel) rfl ?_
      refine j_icmp_eq F (pc := 24) (off := 20) (tgt := 44) (by decide +kernel) (by decide) (fun c => ?_) (fun c => ?_)
      · rw [if_pos c] at h
        refine j_mk F [true, true, false, true, true] (L' := [some (.ref 98), some (.int x1), none, some (.int x3), some (.int x4)]) rfl ?_
        refine u_X5_ring_44 F Rt hk (fun y5 y6 y7 y8 μ3 hρ4 h => ?_) _ _ _ _ _ hρ h
        exact ih _ _ _ _ _ hρ4 h
      · rw [if_neg c] at h
        refine j_aload_n F (pc := 27) (q := 0) (by decide +kernel) rfl ?_
        refine j_iload_n F (pc := 28) (q := 1) (by decide +kernel) rfl ?_
        refine j_iload_n F (pc := 29) (q := 3) (by decide +kernel) rfl ?_
        refine j_iload F (pc := 30) (i := 4) (by decide +kernel) rfl ?_
        obtain ⟨r9, μ10, hc12, h⟩ := z_b2_some h
        refine j_callVi F (pc := 32) (idx := 253) (As := [.int x1, .int x3, .int x4]) (st := [.int x2]) (t_X5_areAlike (G := E.1) hρ hk hc12) q_X5_areAlike v_X5_areAlike m_887 (hk.s c_98) rfl rfl (by decide) (Nat.le_of_ble_eq_true rfl) rfl (by decide +kernel) (fun s15 ν13 hq14 hp => ?_)
        obtain ⟨rfl, rfl⟩ := hp
        have hρ11 : μ10.2.2 = ρ := hq14.trans hρ
        refine j_if_eq F (pc := 35) (off := 9) (tgt := 44) (by decide +kernel) (by decide) (fun c => ?_) (fun c => ?_)
        · rw [if_pos c] at h
          refine j_mk F [true, true, false, true, true] (L' := [some (.ref 98), some (.int x1), none, some (.int x3), some (.int x4)]) rfl ?_
          refine u_X5_ring_44 F Rt hk (fun y18 y19 y20 y21 μ16 hρ17 h => ?_) _ _ _ _ _ hρ11 h
          exact ih _ _ _ _ _ hρ17 h
        · rw [if_neg c] at h
          refine j_iconst F (pc := 38) (n := 1) (v := 1) (by decide +kernel) (by decide +kernel) ?_
          refine j_iload_n F (pc := 39) (q := 3) (by decide +kernel) rfl ?_
          refine j_ishl F (pc := 40) (by decide +kernel) ?_
          refine j_goto F (pc := 41) (off := 4) (tgt := 45) (by decide +kernel) (by decide) ?_
          refine j_ior F (pc := 45) (by decide +kernel) ?_
          obtain ⟨x_22, e23, h⟩ := z_lt_some h
          rw [← e23]
          refine j_istore_n F (pc := 46) (q := 2) (L' := [some (.ref 98), some (.int x1), some (.int x_22), some (.int x3), some (.int x4)]) (by decide +kernel) (by decide) rfl rfl ?_
          refine j_iinc F (pc := 47) (i := 4) (n := 1) (v := 1) (L' := [some (.ref 98), some (.int x1), some (.int x_22), some (.int x3), some (.int (x4 + (1 : Int32)))]) (by decide +kernel) rfl (by decide +kernel) (by decide) rfl rfl ?_
          refine j_goto F (pc := 50) (off := -37) (tgt := 13) (by decide +kernel) (by decide) ?_
          exact ih _ _ _ _ _ hρ11 h
set_option maxHeartbeats 4000000 in
set_option maxRecDepth 100000 in
theorem u_X5_ring_4 {E : z_E} {ρ : Nat → Nat → Option Nat} {r : Int32} {μr : z_M} (F : z_F E RX5 cX5_ring 5 1) (Rt : z_R E (some .int) (fun v μ1 => μ1.2.2 = ρ ∧ ∃ r1, v = some (.int r1) ∧ r = r1 ∧ μr = μ1))  (hk : z_ok (z_sh E.1) ρ) : ∀ (n : Nat) (x1 : Int32) (x2 : Int32) (x3 : Int32) (μ : z_M), μ.2.2 = ρ → g_X5_ring_4   n x1 x2 x3 μ = some (r, μr) → z_J E 5 4 [some (.ref 98), some (.int x1), some (.int x2), some (.int x3), none] [] μ := by
  intro n
  induction n with
  | zero =>
    intro x1 x2 x3 μ hρ h
    rw [g_X5_ring_4] at h
    cases h
  | succ n ih =>
    intro x1 x2 x3 μ hρ h
    rw [g_X5_ring_4] at h
    refine j_iload_n F (pc := 4) (q := 3) (by decide +kernel) rfl ?_
    refine j_bipush F (pc := 5) (n := 8) (v := 8) (by decide +kernel) (by decide +kernel) ?_
    refine j_icmp_ge F (pc := 7) (off := 52) (tgt := 59) (by decide +kernel) (by decide) (fun c => ?_) (fun c => ?_)
    · rw [if_pos c] at h
      refine j_iload_n F (pc := 59) (q := 2) (by decide +kernel) rfl ?_
      exact j_iret (st := []) F Rt rfl (by decide +kernel) ⟨hρ, _, rfl, (congrArg Prod.fst (Option.some.inj h)).symm, (congrArg Prod.snd (Option.some.inj h)).symm⟩
    · rw [if_neg c] at h
      refine j_iconst F (pc := 10) (n := 0) (v := 0) (by decide +kernel) (by decide +kernel) ?_
      refine j_istore F (pc := 11) (i := 4) (L' := [some (.ref 98), some (.int x1), some (.int x2), some (.int x3), some (.int (0 : Int32))]) (by decide +kernel) (by decide) rfl rfl ?_
      refine u_X5_ring_13 F Rt hk (fun y26 y27 y28 μ24 hρ25 h => ?_) z_N _ _ _ _ _ hρ h
      exact ih _ _ _ _ hρ25 h
set_option maxHeartbeats 4000000 in
set_option maxRecDepth 100000 in
theorem t_X5_ring {G : z_Gl} {ρ : Nat → Nat → Option Nat} {μ : z_M} {r : Int32} {μr : z_M} {x1 : Int32} (hρ : μ.2.2 = ρ) (hk : z_ok (z_sh G) ρ) (h : f_X5_ring x1 μ = some (r, μr)) : z_Ci G yX5_ring cX5_ring 5 (some .int) 1 [.ref 98, .int x1] μ (fun r1 μ1 => r = r1 ∧ μr = μ1) := by
  unfold z_Ci
  refine z_intro (by decide +kernel) (Nat.le_of_ble_eq_true rfl) (fun E hE F Rt => ?_)
  subst hE
  have F : z_F E RX5 cX5_ring 5 1 := F
  rw [hρ] at Rt
  unfold f_X5_ring at h
  show z_J E 5 0 [some (.ref 98), some (.int x1), none, none, none] [] μ
  refine j_iconst F (pc := 0) (n := 0) (v := 0) (by decide +kernel) (by decide +kernel) ?_
  refine j_istore_n F (pc := 1) (q := 2) (L' := [some (.ref 98), some (.int x1), some (.int (0 : Int32)), none, none]) (by decide +kernel) (by decide) rfl rfl ?_
  refine j_iconst F (pc := 2) (n := 0) (v := 0) (by decide +kernel) (by decide +kernel) ?_
  refine j_istore_n F (pc := 3) (q := 3) (L' := [some (.ref 98), some (.int x1), some (.int (0 : Int32)), some (.int (0 : Int32)), none]) (by decide +kernel) (by decide) rfl rfl ?_
  refine u_X5_ring_4 F Rt hk  z_N _ _ _ _ hρ h
/-- LastLentModel.kind -/
def f_X5_kind (x1 : Int32) (x2 : Int32) (x3 : Int32) (μ : z_M) : Option (Int32 × z_M) :=
  (z_b2 (f_X5_isLand (x1) μ) fun r1 μ2 => (if r1 = 0 then (some ((-1001 : Int32), μ2)) else (z_b2 (f_X5_isKind (x2) μ2) fun r8 μ9 => (if r8 = 0 then (some ((-1001 : Int32), μ9)) else (z_lt (((8 : Int32) * x1) + x2) fun x_15 => (if x3 = 0 then (if z_in x_15 32 then (some ((μ9.1 113 x_15.toNatClampNeg), μ9)) else none) else (if x3 = 1 then (if z_in x_15 32 then (some ((μ9.1 99 x_15.toNatClampNeg), μ9)) else none) else (if x3 = 2 then (if z_in x_15 32 then (some ((μ9.1 100 x_15.toNatClampNeg), μ9)) else none) else (if x3 = 3 then (if z_in x_15 32 then (some ((μ9.1 101 x_15.toNatClampNeg), μ9)) else none) else (if x3 = 4 then (if z_in x_15 32 then (some ((if (μ9.1 102 x_15.toNatClampNeg) = 0 then (0 : Int32) else (1 : Int32)), μ9)) else none) else (if x3 = 5 then (z_b2 (f_X5_ring (x1) μ9) fun r17 μ18 => (some (((r17 >>> (x2 &&& 31)) &&& (1 : Int32)), μ18))) else (some ((-1002 : Int32), μ9)))))))))))))
set_option maxHeartbeats 4000000 in
set_option maxRecDepth 100000 in
theorem t_X5_kind {G : z_Gl} {ρ : Nat → Nat → Option Nat} {μ : z_M} {r : Int32} {μr : z_M} {x1 : Int32} {x2 : Int32} {x3 : Int32} (hρ : μ.2.2 = ρ) (hk : z_ok (z_sh G) ρ) (h : f_X5_kind x1 x2 x3 μ = some (r, μr)) : z_Ci G yX5_kind cX5_kind 5 (some .int) 2 [.ref 98, .int x1, .int x2, .int x3] μ (fun r1 μ1 => r = r1 ∧ μr = μ1) := by
  unfold z_Ci
  refine z_intro (by decide +kernel) (Nat.le_of_ble_eq_true rfl) (fun E hE F Rt => ?_)
  subst hE
  have F : z_F E RX5 cX5_kind 5 2 := F
  rw [hρ] at Rt
  unfold f_X5_kind at h
  show z_J E 5 0 [some (.ref 98), some (.int x1), some (.int x2), some (.int x3), none] [] μ
  refine j_iload_n F (pc := 0) (q := 1) (by decide +kernel) rfl ?_
  obtain ⟨r1, μ2, hc4, h⟩ := z_b2_some h
  refine j_callSi F (pc := 1) (idx := 246) (As := [.int x1]) (st := []) (t_X5_isLand (G := E.1) hρ  hc4) q_X5_isLand m_1058 m_1057 rfl (by decide) (Nat.le_of_ble_eq_true rfl) rfl (by decide +kernel) (fun s7 ν5 hq6 hp => ?_)
  obtain ⟨rfl, rfl⟩ := hp
  have hρ3 : μ2.2.2 = ρ := hq6.trans hρ
  refine j_if_eq F (pc := 4) (off := 10) (tgt := 14) (by decide +kernel) (by decide) (fun c => ?_) (fun c => ?_)
  · rw [if_pos c] at h
    refine j_sipush F (pc := 14) (n := -1001) (v := -1001) (by decide +kernel) (by decide +kernel) ?_
    exact j_iret (st := []) F Rt rfl (by decide +kernel) ⟨hρ3, _, rfl, (congrArg Prod.fst (Option.some.inj h)).symm, (congrArg Prod.snd (Option.some.inj h)).symm⟩
  · rw [if_neg c] at h
    refine j_iload_n F (pc := 7) (q := 2) (by decide +kernel) rfl ?_
    obtain ⟨r8, μ9, hc11, h⟩ := z_b2_some h
    refine j_callSi F (pc := 8) (idx := 260) (As := [.int x2]) (st := []) (t_X5_isKind (G := E.1) hρ3  hc11) q_X5_isKind m_1140 m_1139 rfl (by decide) (Nat.le_of_ble_eq_true rfl) rfl (by decide +kernel) (fun s14 ν12 hq13 hp => ?_)
    obtain ⟨rfl, rfl⟩ := hp
    have hρ10 : μ9.2.2 = ρ := hq13.trans hρ3
    refine j_if_ne F (pc := 11) (off := 7) (tgt := 18) (by decide +kernel) (by decide) (fun c => ?_) (fun c => ?_)
    · rw [if_neg c] at h
      refine j_bipush F (pc := 18) (n := 8) (v := 8) (by decide +kernel) (by decide +kernel) ?_
      refine j_iload_n F (pc := 20) (q := 1) (by decide +kernel) rfl ?_
      refine j_imul F (pc := 21) (by decide +kernel) ?_
      refine j_iload_n F (pc := 22) (q := 2) (by decide +kernel) rfl ?_
      refine j_iadd F (pc := 23) (by decide +kernel) ?_
      obtain ⟨x_15, e16, h⟩ := z_lt_some h
      rw [← e16]
      refine j_istore F (pc := 24) (i := 4) (L' := [some (.ref 98), some (.int x1), some (.int x2), some (.int x3), some (.int x_15)]) (by decide +kernel) (by decide) rfl rfl ?_
      refine j_iload_n F (pc := 26) (q := 3) (by decide +kernel) rfl ?_
      by_cases c0 : x3 = 0
      · rw [if_pos c0] at h
        refine j_tableIn F (pc := 27) (dflt := 95) (lo := 0) (hi := 5) (offs := #[37, 45, 53, 61, 69, 85]) (len := 37) (off := 37) (tgt := 64) (by decide +kernel) (by rw [c0]; decide) (by rw [c0]; decide) (by rw [c0]; decide +kernel) (by decide) ?_
        refine j_aload_n F (pc := 64) (q := 0) (by decide +kernel) rfl ?_
        refine j_getR F (pc := 65) (hk.r hρ10 r_98_23) fl_X5_57 (hk.s c_98) rfl (by decide +kernel) ?_
        refine j_iload F (pc := 68) (i := 4) (by decide +kernel) rfl ?_
        obtain ⟨hg, h⟩ := z_ifs h
        refine j_iald F (pc := 70) (hk.s c_113) hg (by decide +kernel) ?_
        exact j_iret (st := []) F Rt rfl (by decide +kernel) ⟨hρ10, _, rfl, (congrArg Prod.fst (Option.some.inj h)).symm, (congrArg Prod.snd (Option.some.inj h)).symm⟩
      rw [if_neg c0] at h
      by_cases c1 : x3 = 1
      · rw [if_pos c1] at h
        refine j_tableIn F (pc := 27) (dflt := 95) (lo := 0) (hi := 5) (offs := #[37, 45, 53, 61, 69, 85]) (len := 37) (off := 45) (tgt := 72) (by decide +kernel) (by rw [c1]; decide) (by rw [c1]; decide) (by rw [c1]; decide +kernel) (by decide) ?_
        refine j_aload_n F (pc := 72) (q := 0) (by decide +kernel) rfl ?_
        refine j_getR F (pc := 73) (hk.r hρ10 r_98_0) fl_X5_7 (hk.s c_98) rfl (by decide +kernel) ?_
        refine j_iload F (pc := 76) (i := 4) (by decide +kernel) rfl ?_
        obtain ⟨hg, h⟩ := z_ifs h
        refine j_iald F (pc := 78) (hk.s c_99) hg (by decide +kernel) ?_
        exact j_iret (st := []) F Rt rfl (by decide +kernel) ⟨hρ10, _, rfl, (congrArg Prod.fst (Option.some.inj h)).symm, (congrArg Prod.snd (Option.some.inj h)).symm⟩
      rw [if_neg c1] at h
      by_cases c2 : x3 = 2
      · rw [if_pos c2] at h
        refine j_tableIn F (pc := 27) (dflt := 95) (lo := 0) (hi := 5) (offs := #[37, 45, 53, 61, 69, 85]) (len := 37) (off := 53) (tgt := 80) (by decide +kernel) (by rw [c2]; decide) (by rw [c2]; decide) (by rw [c2]; decide +kernel) (by decide) ?_
        refine j_aload_n F (pc := 80) (q := 0) (by decide +kernel) rfl ?_
        refine j_getR F (pc := 81) (hk.r hρ10 r_98_1) fl_X5_13 (hk.s c_98) rfl (by decide +kernel) ?_
        refine j_iload F (pc := 84) (i := 4) (by decide +kernel) rfl ?_
        obtain ⟨hg, h⟩ := z_ifs h
        refine j_iald F (pc := 86) (hk.s c_100) hg (by decide +kernel) ?_
        exact j_iret (st := []) F Rt rfl (by decide +kernel) ⟨hρ10, _, rfl, (congrArg Prod.fst (Option.some.inj h)).symm, (congrArg Prod.snd (Option.some.inj h)).symm⟩
      rw [if_neg c2] at h
      by_cases c3 : x3 = 3
      · rw [if_pos c3] at h
        refine j_tableIn F (pc := 27) (dflt := 95) (lo := 0) (hi := 5) (offs := #[37, 45, 53, 61, 69, 85]) (len := 37) (off := 61) (tgt := 88) (by decide +kernel) (by rw [c3]; decide) (by rw [c3]; decide) (by rw [c3]; decide +kernel) (by decide) ?_
        refine j_aload_n F (pc := 88) (q := 0) (by decide +kernel) rfl ?_
        refine j_getR F (pc := 89) (hk.r hρ10 r_98_2) fl_X5_16 (hk.s c_98) rfl (by decide +kernel) ?_
        refine j_iload F (pc := 92) (i := 4) (by decide +kernel) rfl ?_
        obtain ⟨hg, h⟩ := z_ifs h
        refine j_iald F (pc := 94) (hk.s c_101) hg (by decide +kernel) ?_
        exact j_iret (st := []) F Rt rfl (by decide +kernel) ⟨hρ10, _, rfl, (congrArg Prod.fst (Option.some.inj h)).symm, (congrArg Prod.snd (Option.some.inj h)).symm⟩
      rw [if_neg c3] at h
      by_cases c4 : x3 = 4
      · rw [if_pos c4] at h
        refine j_tableIn F (pc := 27) (dflt := 95) (lo := 0) (hi := 5) (offs := #[37, 45, 53, 61, 69, 85]) (len := 37) (off := 69) (tgt := 96) (by decide +kernel) (by rw [c4]; decide) (by rw [c4]; decide) (by rw [c4]; decide +kernel) (by decide) ?_
        refine j_aload_n F (pc := 96) (q := 0) (by decide +kernel) rfl ?_
        refine j_getR F (pc := 97) (hk.r hρ10 r_98_3) fl_X5_19 (hk.s c_98) rfl (by decide +kernel) ?_
        refine j_iload F (pc := 100) (i := 4) (by decide +kernel) rfl ?_
        obtain ⟨hg, h⟩ := z_ifs h
        refine j_zald F (pc := 102) (hk.s c_102) hg (by decide +kernel) ?_
        suffices hj : z_J E 5 111 [some (.ref 98), some (.int x1), some (.int x2), some (.int x3), some (.int x_15)] (.int (if (μ9.1 102 x_15.toNatClampNeg) = 0 then (0 : Int32) else (1 : Int32)) :: []) μ9 by
          refine j_if_eq F (pc := 103) (off := 7) (tgt := 110) (by decide +kernel) (by decide) (fun c0 => ?_) (fun c0 => ?_)
          · rw [if_pos c0] at hj
            refine j_iconst F (pc := 110) (n := 0) (v := 0) (by decide +kernel) (by decide +kernel) ?_
            exact hj
          · rw [if_neg c0] at hj
            refine j_iconst F (pc := 106) (n := 1) (v := 1) (by decide +kernel) (by decide +kernel) ?_
            refine j_goto F (pc := 107) (off := 4) (tgt := 111) (by decide +kernel) (by decide) ?_
            exact hj
        exact j_iret (st := []) F Rt rfl (by decide +kernel) ⟨hρ10, _, rfl, (congrArg Prod.fst (Option.some.inj h)).symm, (congrArg Prod.snd (Option.some.inj h)).symm⟩
      rw [if_neg c4] at h
      by_cases c5 : x3 = 5
      · rw [if_pos c5] at h
        refine j_tableIn F (pc := 27) (dflt := 95) (lo := 0) (hi := 5) (offs := #[37, 45, 53, 61, 69, 85]) (len := 37) (off := 85) (tgt := 112) (by decide +kernel) (by rw [c5]; decide) (by rw [c5]; decide) (by rw [c5]; decide +kernel) (by decide) ?_
        refine j_aload_n F (pc := 112) (q := 0) (by decide +kernel) rfl ?_
        refine j_iload_n F (pc := 113) (q := 1) (by decide +kernel) rfl ?_
        obtain ⟨r17, μ18, hc20, h⟩ := z_b2_some h
        refine j_callVi F (pc := 114) (idx := 263) (As := [.int x1]) (st := []) (t_X5_ring (G := E.1) hρ10 hk hc20) q_X5_ring v_X5_ring m_1143 (hk.s c_98) rfl rfl (by decide) (Nat.le_of_ble_eq_true rfl) rfl (by decide +kernel) (fun s23 ν21 hq22 hp => ?_)
        obtain ⟨rfl, rfl⟩ := hp
        have hρ19 : μ18.2.2 = ρ := hq22.trans hρ10
        refine j_iload_n F (pc := 117) (q := 2) (by decide +kernel) rfl ?_
        refine j_ishr F (pc := 118) (by decide +kernel) ?_
        refine j_iconst F (pc := 119) (n := 1) (v := 1) (by decide +kernel) (by decide +kernel) ?_
        refine j_iand F (pc := 120) (by decide +kernel) ?_
        exact j_iret (st := []) F Rt rfl (by decide +kernel) ⟨hρ19, _, rfl, (congrArg Prod.fst (Option.some.inj h)).symm, (congrArg Prod.snd (Option.some.inj h)).symm⟩
      rw [if_neg c5] at h
      refine j_tableOut F (pc := 27) (dflt := 95) (lo := 0) (hi := 5) (offs := #[37, 45, 53, 61, 69, 85]) (len := 37) (tgt := 122) (by decide +kernel) (by have d0 := lv_neT (k := 0) (a := 0) c0 (by decide); have d1 := lv_neT (k := 1) (a := 1) c1 (by decide); have d2 := lv_neT (k := 2) (a := 2) c2 (by decide); have d3 := lv_neT (k := 3) (a := 3) c3 (by decide); have d4 := lv_neT (k := 4) (a := 4) c4 (by decide); have d5 := lv_neT (k := 5) (a := 5) c5 (by decide); omega) (by decide) ?_
      refine j_sipush F (pc := 122) (n := -1002) (v := -1002) (by decide +kernel) (by decide +kernel) ?_
      exact j_iret (st := []) F Rt rfl (by decide +kernel) ⟨hρ10, _, rfl, (congrArg Prod.fst (Option.some.inj h)).symm, (congrArg Prod.snd (Option.some.inj h)).symm⟩
    · rw [if_pos c] at h
      refine j_sipush F (pc := 14) (n := -1001) (v := -1001) (by decide +kernel) (by decide +kernel) ?_
      exact j_iret (st := []) F Rt rfl (by decide +kernel) ⟨hρ10, _, rfl, (congrArg Prod.fst (Option.some.inj h)).symm, (congrArg Prod.snd (Option.some.inj h)).symm⟩
/-- LastLentModel.rule -/
def f_X5_rule (x1 : Int32) (x2 : Int32) (μ : z_M) : Option (Int32 × z_M) :=
  (z_b2 (f_X5_isLand (x1) μ) fun r1 μ2 => (if r1 = 0 then (some ((-1001 : Int32), μ2)) else (if x2 = (5 : Int32) then (z_b2 (f_X5_ring (x1) μ2) fun r15 μ16 => (some (r15, μ16))) else (z_b2 (f_X5_in ((x2).toInt64) ((0 : Int64)) ((4 : Int64)) μ2) fun r8 μ9 => (if r8 = 0 then (some ((-1002 : Int32), μ9)) else (if z_in (((5 : Int32) * x1) + x2) 20 then (some ((μ9.1 104 (((5 : Int32) * x1) + x2).toNatClampNeg), μ9)) else none))))))
set_option maxHeartbeats 4000000 in
set_option maxRecDepth 100000 in
theorem t_X5_rule {G : z_Gl} {ρ : Nat → Nat → Option Nat} {μ : z_M} {r : Int32} {μr : z_M} {x1 : Int32} {x2 : Int32} (hρ : μ.2.2 = ρ) (hk : z_ok (z_sh G) ρ) (h : f_X5_rule x1 x2 μ = some (r, μr)) : z_Ci G yX5_rule cX5_rule 3 (some .int) 2 [.ref 98, .int x1, .int x2] μ (fun r1 μ1 => r = r1 ∧ μr = μ1) := by
  unfold z_Ci
  refine z_intro (by decide +kernel) (Nat.le_of_ble_eq_true rfl) (fun E hE F Rt => ?_)
  subst hE
  have F : z_F E RX5 cX5_rule 3 2 := F
  rw [hρ] at Rt
  unfold f_X5_rule at h
  show z_J E 3 0 [some (.ref 98), some (.int x1), some (.int x2)] [] μ
  refine j_iload_n F (pc := 0) (q := 1) (by decide +kernel) rfl ?_
  obtain ⟨r1, μ2, hc4, h⟩ := z_b2_some h
  refine j_callSi F (pc := 1) (idx := 246) (As := [.int x1]) (st := []) (t_X5_isLand (G := E.1) hρ  hc4) q_X5_isLand m_1058 m_1057 rfl (by decide) (Nat.le_of_ble_eq_true rfl) rfl (by decide +kernel) (fun s7 ν5 hq6 hp => ?_)
  obtain ⟨rfl, rfl⟩ := hp
  have hρ3 : μ2.2.2 = ρ := hq6.trans hρ
  refine j_if_ne F (pc := 4) (off := 7) (tgt := 11) (by decide +kernel) (by decide) (fun c => ?_) (fun c => ?_)
  · rw [if_neg c] at h
    refine j_iload_n F (pc := 11) (q := 2) (by decide +kernel) rfl ?_
    refine j_iconst F (pc := 12) (n := 5) (v := 5) (by decide +kernel) (by decide +kernel) ?_
    refine j_icmp_ne F (pc := 13) (off := 11) (tgt := 24) (by decide +kernel) (by decide) (fun c => ?_) (fun c => ?_)
    · rw [if_neg c] at h
      refine j_iload_n F (pc := 24) (q := 2) (by decide +kernel) rfl ?_
      refine j_i2l F (pc := 25) (by decide +kernel) ?_
      refine j_lconst F (pc := 26) (n := 0) (v := 0) (by decide +kernel) (by decide +kernel) ?_
      refine j_ldc2 F (pc := 27) m_1151 (by decide +kernel) ?_
      obtain ⟨r8, μ9, hc11, h⟩ := z_b2_some h
      refine j_callSi F (pc := 30) (idx := 138) (As := [.long (x2).toInt64, .long (0 : Int64), .long (4 : Int64)]) (st := []) (t_X5_in (G := E.1) hρ3  hc11) q_X5_in m_1050 m_1049 rfl (by decide) (Nat.le_of_ble_eq_true rfl) rfl (by decide +kernel) (fun s14 ν12 hq13 hp => ?_)
      obtain ⟨rfl, rfl⟩ := hp
      have hρ10 : μ9.2.2 = ρ := hq13.trans hρ3
      refine j_if_eq F (pc := 33) (off := 16) (tgt := 49) (by decide +kernel) (by decide) (fun c => ?_) (fun c => ?_)
      · rw [if_pos c] at h
        refine j_sipush F (pc := 49) (n := -1002) (v := -1002) (by decide +kernel) (by decide +kernel) ?_
        exact j_iret (st := []) F Rt rfl (by decide +kernel) ⟨hρ10, _, rfl, (congrArg Prod.fst (Option.some.inj h)).symm, (congrArg Prod.snd (Option.some.inj h)).symm⟩
      · rw [if_neg c] at h
        refine j_aload_n F (pc := 36) (q := 0) (by decide +kernel) rfl ?_
        refine j_getR F (pc := 37) (hk.r hρ10 r_98_5) fl_X5_26 (hk.s c_98) rfl (by decide +kernel) ?_
        refine j_iconst F (pc := 40) (n := 5) (v := 5) (by decide +kernel) (by decide +kernel) ?_
        refine j_iload_n F (pc := 41) (q := 1) (by decide +kernel) rfl ?_
        refine j_imul F (pc := 42) (by decide +kernel) ?_
        refine j_iload_n F (pc := 43) (q := 2) (by decide +kernel) rfl ?_
        refine j_iadd F (pc := 44) (by decide +kernel) ?_
        obtain ⟨hg, h⟩ := z_ifs h
        refine j_iald F (pc := 45) (hk.s c_104) hg (by decide +kernel) ?_
        refine j_goto F (pc := 46) (off := 6) (tgt := 52) (by decide +kernel) (by decide) ?_
        exact j_iret (st := []) F Rt rfl (by decide +kernel) ⟨hρ10, _, rfl, (congrArg Prod.fst (Option.some.inj h)).symm, (congrArg Prod.snd (Option.some.inj h)).symm⟩
    · rw [if_pos c] at h
      refine j_aload_n F (pc := 16) (q := 0) (by decide +kernel) rfl ?_
      refine j_iload_n F (pc := 17) (q := 1) (by decide +kernel) rfl ?_
      obtain ⟨r15, μ16, hc18, h⟩ := z_b2_some h
      refine j_callVi F (pc := 18) (idx := 263) (As := [.int x1]) (st := []) (t_X5_ring (G := E.1) hρ3 hk hc18) q_X5_ring v_X5_ring m_1143 (hk.s c_98) rfl rfl (by decide) (Nat.le_of_ble_eq_true rfl) rfl (by decide +kernel) (fun s21 ν19 hq20 hp => ?_)
      obtain ⟨rfl, rfl⟩ := hp
      have hρ17 : μ16.2.2 = ρ := hq20.trans hρ3
      refine j_goto F (pc := 21) (off := 31) (tgt := 52) (by decide +kernel) (by decide) ?_
      exact j_iret (st := []) F Rt rfl (by decide +kernel) ⟨hρ17, _, rfl, (congrArg Prod.fst (Option.some.inj h)).symm, (congrArg Prod.snd (Option.some.inj h)).symm⟩
  · rw [if_pos c] at h
    refine j_sipush F (pc := 7) (n := -1001) (v := -1001) (by decide +kernel) (by decide +kernel) ?_
    exact j_iret (st := []) F Rt rfl (by decide +kernel) ⟨hρ3, _, rfl, (congrArg Prod.fst (Option.some.inj h)).symm, (congrArg Prod.snd (Option.some.inj h)).symm⟩
/-- LastLentModel.goes -/
def f_X5_goes (x1 : Int32) (x2 : Int32) (x3 : Int32) (μ : z_M) : Option (Int32 × z_M) :=
  (z_b2 (f_X5_isLand (x1) μ) fun r1 μ2 => (if r1 = 0 then (some ((-1001 : Int32), μ2)) else (z_b2 (f_X5_isKind (x2) μ2) fun r8 μ9 => (if r8 = 0 then (some ((-1001 : Int32), μ9)) else (z_b2 (f_X5_isKind (x3) μ9) fun r15 μ16 => (if r15 = 0 then (some ((-1001 : Int32), μ16)) else (if z_in ((((64 : Int32) * x1) + ((8 : Int32) * x2)) + x3) 256 then (some ((if (μ16.1 103 ((((64 : Int32) * x1) + ((8 : Int32) * x2)) + x3).toNatClampNeg) = 0 then (0 : Int32) else (1 : Int32)), μ16)) else none)))))))
set_option maxHeartbeats 4000000 in
set_option maxRecDepth 100000 in
theorem t_X5_goes {G : z_Gl} {ρ : Nat → Nat → Option Nat} {μ : z_M} {r : Int32} {μr : z_M} {x1 : Int32} {x2 : Int32} {x3 : Int32} (hρ : μ.2.2 = ρ) (hk : z_ok (z_sh G) ρ) (h : f_X5_goes x1 x2 x3 μ = some (r, μr)) : z_Ci G yX5_goes cX5_goes 4 (some .int) 2 [.ref 98, .int x1, .int x2, .int x3] μ (fun r1 μ1 => r = r1 ∧ μr = μ1) := by
  unfold z_Ci
  refine z_intro (by decide +kernel) (Nat.le_of_ble_eq_true rfl) (fun E hE F Rt => ?_)
  subst hE
  have F : z_F E RX5 cX5_goes 4 2 := F
  rw [hρ] at Rt
  unfold f_X5_goes at h
  show z_J E 4 0 [some (.ref 98), some (.int x1), some (.int x2), some (.int x3)] [] μ
  refine j_iload_n F (pc := 0) (q := 1) (by decide +kernel) rfl ?_
  obtain ⟨r1, μ2, hc4, h⟩ := z_b2_some h
  refine j_callSi F (pc := 1) (idx := 246) (As := [.int x1]) (st := []) (t_X5_isLand (G := E.1) hρ  hc4) q_X5_isLand m_1058 m_1057 rfl (by decide) (Nat.le_of_ble_eq_true rfl) rfl (by decide +kernel) (fun s7 ν5 hq6 hp => ?_)
  obtain ⟨rfl, rfl⟩ := hp
  have hρ3 : μ2.2.2 = ρ := hq6.trans hρ
  refine j_if_eq F (pc := 4) (off := 17) (tgt := 21) (by decide +kernel) (by decide) (fun c => ?_) (fun c => ?_)
  · rw [if_pos c] at h
    refine j_sipush F (pc := 21) (n := -1001) (v := -1001) (by decide +kernel) (by decide +kernel) ?_
    exact j_iret (st := []) F Rt rfl (by decide +kernel) ⟨hρ3, _, rfl, (congrArg Prod.fst (Option.some.inj h)).symm, (congrArg Prod.snd (Option.some.inj h)).symm⟩
  · rw [if_neg c] at h
    refine j_iload_n F (pc := 7) (q := 2) (by decide +kernel) rfl ?_
    obtain ⟨r8, μ9, hc11, h⟩ := z_b2_some h
    refine j_callSi F (pc := 8) (idx := 260) (As := [.int x2]) (st := []) (t_X5_isKind (G := E.1) hρ3  hc11) q_X5_isKind m_1140 m_1139 rfl (by decide) (Nat.le_of_ble_eq_true rfl) rfl (by decide +kernel) (fun s14 ν12 hq13 hp => ?_)
    obtain ⟨rfl, rfl⟩ := hp
    have hρ10 : μ9.2.2 = ρ := hq13.trans hρ3
    refine j_if_eq F (pc := 11) (off := 10) (tgt := 21) (by decide +kernel) (by decide) (fun c => ?_) (fun c => ?_)
    · rw [if_pos c] at h
      refine j_sipush F (pc := 21) (n := -1001) (v := -1001) (by decide +kernel) (by decide +kernel) ?_
      exact j_iret (st := []) F Rt rfl (by decide +kernel) ⟨hρ10, _, rfl, (congrArg Prod.fst (Option.some.inj h)).symm, (congrArg Prod.snd (Option.some.inj h)).symm⟩
    · rw [if_neg c] at h
      refine j_iload_n F (pc := 14) (q := 3) (by decide +kernel) rfl ?_
      obtain ⟨r15, μ16, hc18, h⟩ := z_b2_some h
      refine j_callSi F (pc := 15) (idx := 260) (As := [.int x3]) (st := []) (t_X5_isKind (G := E.1) hρ10  hc18) q_X5_isKind m_1140 m_1139 rfl (by decide) (Nat.le_of_ble_eq_true rfl) rfl (by decide +kernel) (fun s21 ν19 hq20 hp => ?_)
      obtain ⟨rfl, rfl⟩ := hp
      have hρ17 : μ16.2.2 = ρ := hq20.trans hρ10
      refine j_if_ne F (pc := 18) (off := 7) (tgt := 25) (by decide +kernel) (by decide) (fun c => ?_) (fun c => ?_)
      · rw [if_neg c] at h
        refine j_aload_n F (pc := 25) (q := 0) (by decide +kernel) rfl ?_
        refine j_getR F (pc := 26) (hk.r hρ17 r_98_4) fl_X5_23 (hk.s c_98) rfl (by decide +kernel) ?_
        refine j_bipush F (pc := 29) (n := 64) (v := 64) (by decide +kernel) (by decide +kernel) ?_
        refine j_iload_n F (pc := 31) (q := 1) (by decide +kernel) rfl ?_
        refine j_imul F (pc := 32) (by decide +kernel) ?_
        refine j_bipush F (pc := 33) (n := 8) (v := 8) (by decide +kernel) (by decide +kernel) ?_
        refine j_iload_n F (pc := 35) (q := 2) (by decide +kernel) rfl ?_
        refine j_imul F (pc := 36) (by decide +kernel) ?_
        refine j_iadd F (pc := 37) (by decide +kernel) ?_
        refine j_iload_n F (pc := 38) (q := 3) (by decide +kernel) rfl ?_
        refine j_iadd F (pc := 39) (by decide +kernel) ?_
        obtain ⟨hg, h⟩ := z_ifs h
        refine j_zald F (pc := 40) (hk.s c_103) hg (by decide +kernel) ?_
        suffices hj : z_J E 4 49 [some (.ref 98), some (.int x1), some (.int x2), some (.int x3)] (.int (if (μ16.1 103 ((((64 : Int32) * x1) + ((8 : Int32) * x2)) + x3).toNatClampNeg) = 0 then (0 : Int32) else (1 : Int32)) :: []) μ16 by
          refine j_if_eq F (pc := 41) (off := 7) (tgt := 48) (by decide +kernel) (by decide) (fun c0 => ?_) (fun c0 => ?_)
          · rw [if_pos c0] at hj
            refine j_iconst F (pc := 48) (n := 0) (v := 0) (by decide +kernel) (by decide +kernel) ?_
            exact hj
          · rw [if_neg c0] at hj
            refine j_iconst F (pc := 44) (n := 1) (v := 1) (by decide +kernel) (by decide +kernel) ?_
            refine j_goto F (pc := 45) (off := 4) (tgt := 49) (by decide +kernel) (by decide) ?_
            exact hj
        exact j_iret (st := []) F Rt rfl (by decide +kernel) ⟨hρ17, _, rfl, (congrArg Prod.fst (Option.some.inj h)).symm, (congrArg Prod.snd (Option.some.inj h)).symm⟩
      · rw [if_pos c] at h
        refine j_sipush F (pc := 21) (n := -1001) (v := -1001) (by decide +kernel) (by decide +kernel) ?_
        exact j_iret (st := []) F Rt rfl (by decide +kernel) ⟨hρ17, _, rfl, (congrArg Prod.fst (Option.some.inj h)).symm, (congrArg Prod.snd (Option.some.inj h)).symm⟩
/-- LastLentModel.isDay -/
def f_X5_isDay (x0 : Int32) (μ : z_M) : Option (Int32 × z_M) :=
  (z_b2 (f_X5_in ((x0).toInt64) ((0 : Int64)) ((999 : Int64)) μ) fun r1 μ2 => (if r1 = 0 ∨ r1 = 1 then some (r1, μ2) else none))
set_option maxHeartbeats 4000000 in
set_option maxRecDepth 100000 in
theorem t_X5_isDay {G : z_Gl} {ρ : Nat → Nat → Option Nat} {μ : z_M} {r : Int32} {μr : z_M} {x0 : Int32} (hρ : μ.2.2 = ρ)  (h : f_X5_isDay x0 μ = some (r, μr)) : z_Ci G yX5_isDay cX5_isDay 1 (some .boolean) 1 [.int x0] μ (fun r1 μ1 => r = r1 ∧ μr = μ1) := by
  unfold z_Ci
  refine z_intro (by decide +kernel) (Nat.le_of_ble_eq_true rfl) (fun E hE F Rt => ?_)
  subst hE
  have F : z_F E RX5 cX5_isDay 1 1 := F
  rw [hρ] at Rt
  unfold f_X5_isDay at h
  show z_J E 1 0 [some (.int x0)] [] μ
  refine j_iload_n F (pc := 0) (q := 0) (by decide +kernel) rfl ?_
  refine j_i2l F (pc := 1) (by decide +kernel) ?_
  refine j_lconst F (pc := 2) (n := 0) (v := 0) (by decide +kernel) (by decide +kernel) ?_
  refine j_ldc2 F (pc := 3) m_1163 (by decide +kernel) ?_
  obtain ⟨r1, μ2, hc4, h⟩ := z_b2_some h
  refine j_callSi F (pc := 6) (idx := 138) (As := [.long (x0).toInt64, .long (0 : Int64), .long (999 : Int64)]) (st := []) (t_X5_in (G := E.1) hρ  hc4) q_X5_in m_1050 m_1049 rfl (by decide) (Nat.le_of_ble_eq_true rfl) rfl (by decide +kernel) (fun s7 ν5 hq6 hp => ?_)
  obtain ⟨rfl, rfl⟩ := hp
  have hρ3 : μ2.2.2 = ρ := hq6.trans hρ
  obtain ⟨hg, h⟩ := z_ifs h
  exact j_iret (st := []) F Rt (z_nb hg) (by decide +kernel) ⟨hρ3, _, rfl, (congrArg Prod.fst (Option.some.inj h)).symm, (congrArg Prod.snd (Option.some.inj h)).symm⟩
def g_X5_voyage_49   (x1 : Int32) (x2 : Int32) (μ : z_M) : Option (Int32 × z_M) :=
  (if (μ.1 98 24) = (6 : Int32) then (some ((-1004 : Int32), μ)) else (if z_in (μ.1 98 24) 7 then (z_st (z_si μ 114 (μ.1 98 24).toNatClampNeg x1) fun μ15 => (if z_in (μ15.1 98 24) 7 then (z_st (z_si μ15 115 (μ15.1 98 24).toNatClampNeg x2) fun μ18 => (z_st (z_si μ18 98 24 ((μ18.1 98 24) + (1 : Int32))) fun μ21 => (some (((μ21.1 98 24) - (1 : Int32)), μ21)))) else none)) else none))
def f_X5_voyage (x1 : Int32) (x2 : Int32) (μ : z_M) : Option (Int32 × z_M) :=
  (z_b2 (f_X5_isDay (x1) μ) fun r1 μ2 => (if r1 = 0 then (some ((-1002 : Int32), μ2)) else (z_b2 (f_X5_isDay (x2) μ2) fun r8 μ9 => (if r8 = 0 then (some ((-1002 : Int32), μ9)) else (if x1 ≤ x2 then (if (μ9.1 98 24) ≤ 0 then (g_X5_voyage_49   (x1) (x2) μ9) else (if z_in ((μ9.1 98 24) - (1 : Int32)) 7 then (if (μ9.1 115 ((μ9.1 98 24) - (1 : Int32)).toNatClampNeg) < x1 then (g_X5_voyage_49   (x1) (x2) μ9) else (some ((-1003 : Int32), μ9))) else none)) else (some ((-1002 : Int32), μ9)))))))
set_option maxHeartbeats 4000000 in
set_option maxRecDepth 100000 in
theorem u_X5_voyage_49 {E : z_E} {ρ : Nat → Nat → Option Nat} {r : Int32} {μr : z_M} (F : z_F E RX5 cX5_voyage 3 2) (Rt : z_R E (some .int) (fun v μ1 => μ1.2.2 = ρ ∧ ∃ r1, v = some (.int r1) ∧ r = r1 ∧ μr = μ1))  (hk : z_ok (z_sh E.1) ρ) : ∀ (x1 : Int32) (x2 : Int32) (μ : z_M), μ.2.2 = ρ → g_X5_voyage_49   x1 x2 μ = some (r, μr) → z_J E 3 49 [some (.ref 98), some (.int x1), some (.int x2)] [] μ := by
  intro x1 x2 μ hρ h
  unfold g_X5_voyage_49 at h
  refine j_aload_n F (pc := 49) (q := 0) (by decide +kernel) rfl ?_
  refine j_getI F (pc := 50) fl_X5_274 (hk.s c_98) rfl (by decide +kernel) ?_
  refine j_bipush F (pc := 53) (n := 6) (v := 6) (by decide +kernel) (by decide +kernel) ?_
  refine j_icmp_ne F (pc := 55) (off := 7) (tgt := 62) (by decide +kernel) (by decide) (fun c => ?_) (fun c => ?_)
  · rw [if_neg c] at h
    refine j_aload_n F (pc := 62) (q := 0) (by decide +kernel) rfl ?_
    refine j_getR F (pc := 63) (hk.r hρ r_98_25) fl_X5_60 (hk.s c_98) rfl (by decide +kernel) ?_
    refine j_aload_n F (pc := 66) (q := 0) (by decide +kernel) rfl ?_
    refine j_getI F (pc := 67) fl_X5_274 (hk.s c_98) rfl (by decide +kernel) ?_
    refine j_iload_n F (pc := 70) (q := 1) (by decide +kernel) rfl ?_
    obtain ⟨hg, h⟩ := z_ifs h
    refine j_iast F (pc := 71) (hk.s c_114) hg (by decide +kernel) ?_
    obtain ⟨μ15, e17, h⟩ := z_st_some h
    rw [← e17]
    have hρ16 : μ15.2.2 = ρ := by rw [e17]; exact hρ
    refine j_aload_n F (pc := 72) (q := 0) (by decide +kernel) rfl ?_
    refine j_getR F (pc := 73) (hk.r hρ16 r_98_26) fl_X5_63 (hk.s c_98) rfl (by decide +kernel) ?_
    refine j_aload_n F (pc := 76) (q := 0) (by decide +kernel) rfl ?_
    refine j_getI F (pc := 77) fl_X5_274 (hk.s c_98) rfl (by decide +kernel) ?_
    refine j_iload_n F (pc := 80) (q := 2) (by decide +kernel) rfl ?_
    obtain ⟨hg, h⟩ := z_ifs h
    refine j_iast F (pc := 81) (hk.s c_115) hg (by decide +kernel) ?_
    obtain ⟨μ18, e20, h⟩ := z_st_some h
    rw [← e20]
    have hρ19 : μ18.2.2 = ρ := by rw [e20]; exact hρ16
    refine j_aload_n F (pc := 82) (q := 0) (by decide +kernel) rfl ?_
    refine j_dup F (pc := 83) (by decide +kernel) rfl ?_
    refine j_getI F (pc := 84) fl_X5_274 (hk.s c_98) rfl (by decide +kernel) ?_
    refine j_iconst F (pc := 87) (n := 1) (v := 1) (by decide +kernel) (by decide +kernel) ?_
    refine j_iadd F (pc := 88) (by decide +kernel) ?_
    refine j_putI F (pc := 89) fl_X5_274 fp_X5_24 (hk.s c_98) rfl (by decide +kernel) ?_
    obtain ⟨μ21, e23, h⟩ := z_st_some h
    rw [← e23]
    have hρ22 : μ21.2.2 = ρ := by rw [e23]; exact hρ19
    refine j_aload_n F (pc := 92) (q := 0) (by decide +kernel) rfl ?_
    refine j_getI F (pc := 93) fl_X5_274 (hk.s c_98) rfl (by decide +kernel) ?_
    refine j_iconst F (pc := 96) (n := 1) (v := 1) (by decide +kernel) (by decide +kernel) ?_
    refine j_isub F (pc := 97) (by decide +kernel) ?_
    exact j_iret (st := []) F Rt rfl (by decide +kernel) ⟨hρ22, _, rfl, (congrArg Prod.fst (Option.some.inj h)).symm, (congrArg Prod.snd (Option.some.inj h)).symm⟩
  · rw [if_pos c] at h
    refine j_sipush F (pc := 58) (n := -1004) (v := -1004) (by decide +kernel) (by decide +kernel) ?_
    exact j_iret (st := []) F Rt rfl (by decide +kernel) ⟨hρ, _, rfl, (congrArg Prod.fst (Option.some.inj h)).symm, (congrArg Prod.snd (Option.some.inj h)).symm⟩
set_option maxHeartbeats 4000000 in
set_option maxRecDepth 100000 in
theorem t_X5_voyage {G : z_Gl} {ρ : Nat → Nat → Option Nat} {μ : z_M} {r : Int32} {μr : z_M} {x1 : Int32} {x2 : Int32} (hρ : μ.2.2 = ρ) (hk : z_ok (z_sh G) ρ) (h : f_X5_voyage x1 x2 μ = some (r, μr)) : z_Ci G yX5_voyage cX5_voyage 3 (some .int) 2 [.ref 98, .int x1, .int x2] μ (fun r1 μ1 => r = r1 ∧ μr = μ1) := by
  unfold z_Ci
  refine z_intro (by decide +kernel) (Nat.le_of_ble_eq_true rfl) (fun E hE F Rt => ?_)
  subst hE
  have F : z_F E RX5 cX5_voyage 3 2 := F
  rw [hρ] at Rt
  unfold f_X5_voyage at h
  show z_J E 3 0 [some (.ref 98), some (.int x1), some (.int x2)] [] μ
  refine j_iload_n F (pc := 0) (q := 1) (by decide +kernel) rfl ?_
  obtain ⟨r1, μ2, hc4, h⟩ := z_b2_some h
  refine j_callSi F (pc := 1) (idx := 271) (As := [.int x1]) (st := []) (t_X5_isDay (G := E.1) hρ  hc4) q_X5_isDay m_1161 m_1160 rfl (by decide) (Nat.le_of_ble_eq_true rfl) rfl (by decide +kernel) (fun s7 ν5 hq6 hp => ?_)
  obtain ⟨rfl, rfl⟩ := hp
  have hρ3 : μ2.2.2 = ρ := hq6.trans hρ
  refine j_if_eq F (pc := 4) (off := 15) (tgt := 19) (by decide +kernel) (by decide) (fun c => ?_) (fun c => ?_)
  · rw [if_pos c] at h
    refine j_sipush F (pc := 19) (n := -1002) (v := -1002) (by decide +kernel) (by decide +kernel) ?_
    exact j_iret (st := []) F Rt rfl (by decide +kernel) ⟨hρ3, _, rfl, (congrArg Prod.fst (Option.some.inj h)).symm, (congrArg Prod.snd (Option.some.inj h)).symm⟩
  · rw [if_neg c] at h
    refine j_iload_n F (pc := 7) (q := 2) (by decide +kernel) rfl ?_
    obtain ⟨r8, μ9, hc11, h⟩ := z_b2_some h
    refine j_callSi F (pc := 8) (idx := 271) (As := [.int x2]) (st := []) (t_X5_isDay (G := E.1) hρ3  hc11) q_X5_isDay m_1161 m_1160 rfl (by decide) (Nat.le_of_ble_eq_true rfl) rfl (by decide +kernel) (fun s14 ν12 hq13 hp => ?_)
    obtain ⟨rfl, rfl⟩ := hp
    have hρ10 : μ9.2.2 = ρ := hq13.trans hρ3
    refine j_if_eq F (pc := 11) (off := 8) (tgt := 19) (by decide +kernel) (by decide) (fun c => ?_) (fun c => ?_)
    · rw [if_pos c] at h
      refine j_sipush F (pc := 19) (n := -1002) (v := -1002) (by decide +kernel) (by decide +kernel) ?_
      exact j_iret (st := []) F Rt rfl (by decide +kernel) ⟨hρ10, _, rfl, (congrArg Prod.fst (Option.some.inj h)).symm, (congrArg Prod.snd (Option.some.inj h)).symm⟩
    · rw [if_neg c] at h
      refine j_iload_n F (pc := 14) (q := 2) (by decide +kernel) rfl ?_
      refine j_iload_n F (pc := 15) (q := 1) (by decide +kernel) rfl ?_
      refine j_icmp_ge F (pc := 16) (off := 7) (tgt := 23) (by decide +kernel) (by decide) (fun c => ?_) (fun c => ?_)
      · rw [if_pos c] at h
        refine j_aload_n F (pc := 23) (q := 0) (by decide +kernel) rfl ?_
        refine j_getI F (pc := 24) fl_X5_274 (hk.s c_98) rfl (by decide +kernel) ?_
        refine j_if_le F (pc := 27) (off := 22) (tgt := 49) (by decide +kernel) (by decide) (fun c => ?_) (fun c => ?_)
        · rw [if_pos c] at h
          refine u_X5_voyage_49 F Rt hk  _ _ _ hρ10 h
        · rw [if_neg c] at h
          refine j_iload_n F (pc := 30) (q := 1) (by decide +kernel) rfl ?_
          refine j_aload_n F (pc := 31) (q := 0) (by decide +kernel) rfl ?_
          refine j_getR F (pc := 32) (hk.r hρ10 r_98_26) fl_X5_63 (hk.s c_98) rfl (by decide +kernel) ?_
          refine j_aload_n F (pc := 35) (q := 0) (by decide +kernel) rfl ?_
          refine j_getI F (pc := 36) fl_X5_274 (hk.s c_98) rfl (by decide +kernel) ?_
          refine j_iconst F (pc := 39) (n := 1) (v := 1) (by decide +kernel) (by decide +kernel) ?_
          refine j_isub F (pc := 40) (by decide +kernel) ?_
          obtain ⟨hg, h⟩ := z_ifs h
          refine j_iald F (pc := 41) (hk.s c_115) hg (by decide +kernel) ?_
          refine j_icmp_gt F (pc := 42) (off := 7) (tgt := 49) (by decide +kernel) (by decide) (fun c => ?_) (fun c => ?_)
          · rw [if_pos c] at h
            refine u_X5_voyage_49 F Rt hk  _ _ _ hρ10 h
          · rw [if_neg c] at h
            refine j_sipush F (pc := 45) (n := -1003) (v := -1003) (by decide +kernel) (by decide +kernel) ?_
            exact j_iret (st := []) F Rt rfl (by decide +kernel) ⟨hρ10, _, rfl, (congrArg Prod.fst (Option.some.inj h)).symm, (congrArg Prod.snd (Option.some.inj h)).symm⟩
      · rw [if_neg c] at h
        refine j_sipush F (pc := 19) (n := -1002) (v := -1002) (by decide +kernel) (by decide +kernel) ?_
        exact j_iret (st := []) F Rt rfl (by decide +kernel) ⟨hρ10, _, rfl, (congrArg Prod.fst (Option.some.inj h)).symm, (congrArg Prod.snd (Option.some.inj h)).symm⟩
/-- LastLentModel.isHolder -/
def f_X5_isHolder (x0 : Int32) (μ : z_M) : Option (Int32 × z_M) :=
  (z_b2 (f_X5_in ((x0).toInt64) ((0 : Int64)) ((5 : Int64)) μ) fun r1 μ2 => (if r1 = 0 ∨ r1 = 1 then some (r1, μ2) else none))
set_option maxHeartbeats 4000000 in
set_option maxRecDepth 100000 in
theorem t_X5_isHolder {G : z_Gl} {ρ : Nat → Nat → Option Nat} {μ : z_M} {r : Int32} {μr : z_M} {x0 : Int32} (hρ : μ.2.2 = ρ)  (h : f_X5_isHolder x0 μ = some (r, μr)) : z_Ci G yX5_isHolder cX5_isHolder 1 (some .boolean) 1 [.int x0] μ (fun r1 μ1 => r = r1 ∧ μr = μ1) := by
  unfold z_Ci
  refine z_intro (by decide +kernel) (Nat.le_of_ble_eq_true rfl) (fun E hE F Rt => ?_)
  subst hE
  have F : z_F E RX5 cX5_isHolder 1 1 := F
  rw [hρ] at Rt
  unfold f_X5_isHolder at h
  show z_J E 1 0 [some (.int x0)] [] μ
  refine j_iload_n F (pc := 0) (q := 0) (by decide +kernel) rfl ?_
  refine j_i2l F (pc := 1) (by decide +kernel) ?_
  refine j_lconst F (pc := 2) (n := 0) (v := 0) (by decide +kernel) (by decide +kernel) ?_
  refine j_ldc2 F (pc := 3) m_1171 (by decide +kernel) ?_
  obtain ⟨r1, μ2, hc4, h⟩ := z_b2_some h
  refine j_callSi F (pc := 6) (idx := 138) (As := [.long (x0).toInt64, .long (0 : Int64), .long (5 : Int64)]) (st := []) (t_X5_in (G := E.1) hρ  hc4) q_X5_in m_1050 m_1049 rfl (by decide) (Nat.le_of_ble_eq_true rfl) rfl (by decide +kernel) (fun s7 ν5 hq6 hp => ?_)
  obtain ⟨rfl, rfl⟩ := hp
  have hρ3 : μ2.2.2 = ρ := hq6.trans hρ
  obtain ⟨hg, h⟩ := z_ifs h
  exact j_iret (st := []) F Rt (z_nb hg) (by decide +kernel) ⟨hρ3, _, rfl, (congrArg Prod.fst (Option.some.inj h)).symm, (congrArg Prod.snd (Option.some.inj h)).symm⟩
/-- LastLentModel.putClaim -/
def f_X5_putClaim (x1 : Int32) (x2 : Int32) (x3 : Int32) (x4 : Int32) (x5 : Int32) (x6 : Int32) (μ : z_M) : Option z_M :=
  (if z_in (μ.1 98 27) 15 then (z_st (z_si μ 116 (μ.1 98 27).toNatClampNeg x1) fun μ1 => (if z_in (μ1.1 98 27) 15 then (z_st (z_si μ1 117 (μ1.1 98 27).toNatClampNeg x2) fun μ4 => (if z_in (μ4.1 98 27) 15 then (z_st (z_si μ4 118 (μ4.1 98 27).toNatClampNeg x3) fun μ7 => (if z_in (μ7.1 98 27) 15 then (z_st (z_si μ7 119 (μ7.1 98 27).toNatClampNeg x4) fun μ10 => (if z_in (μ10.1 98 27) 15 then (z_st (z_si μ10 120 (μ10.1 98 27).toNatClampNeg (x5 &&& 1)) fun μ13 => (if z_in (μ13.1 98 27) 15 then (z_st (z_si μ13 121 (μ13.1 98 27).toNatClampNeg x6) fun μ16 => (if z_in (μ16.1 98 27) 15 then (z_st (z_si μ16 122 (μ16.1 98 27).toNatClampNeg (-1 : Int32)) fun μ19 => (if z_in (μ19.1 98 27) 15 then (z_st (z_si μ19 123 (μ19.1 98 27).toNatClampNeg ((0 : Int32) &&& 1)) fun μ22 => (z_st (z_si μ22 98 27 ((μ22.1 98 27) + (1 : Int32))) fun μ25 => (some μ25))) else none)) else none)) else none)) else none)) else none)) else none)) else none)) else none)
set_option maxHeartbeats 4000000 in
set_option maxRecDepth 100000 in
theorem t_X5_putClaim {G : z_Gl} {ρ : Nat → Nat → Option Nat} {μ : z_M} {μr : z_M} {x1 : Int32} {x2 : Int32} {x3 : Int32} {x4 : Int32} {x5 : Int32} {x6 : Int32} (hρ : μ.2.2 = ρ) (hk : z_ok (z_sh G) ρ) (h : f_X5_putClaim x1 x2 x3 x4 x5 x6 μ = some μr) : z_Cv G yX5_putClaim cX5_putClaim 7 none 0 [.ref 98, .int x1, .int x2, .int x3, .int x4, .int x5, .int x6] μ (fun μ1 => μr = μ1) := by
  unfold z_Cv
  refine z_intro (by decide +kernel) (Nat.le_of_ble_eq_true rfl) (fun E hE F Rt => ?_)
  subst hE
  have F : z_F E RX5 cX5_putClaim 7 0 := F
  rw [hρ] at Rt
  unfold f_X5_putClaim at h
  show z_J E 7 0 [some (.ref 98), some (.int x1), some (.int x2), some (.int x3), some (.int x4), some (.int x5), some (.int x6)] [] μ
  refine j_aload_n F (pc := 0) (q := 0) (by decide +kernel) rfl ?_
  refine j_getR F (pc := 1) (hk.r hρ r_98_28) fl_X5_66 (hk.s c_98) rfl (by decide +kernel) ?_
  refine j_aload_n F (pc := 4) (q := 0) (by decide +kernel) rfl ?_
  refine j_getI F (pc := 5) fl_X5_268 (hk.s c_98) rfl (by decide +kernel) ?_
  refine j_iload_n F (pc := 8) (q := 1) (by decide +kernel) rfl ?_
  obtain ⟨hg, h⟩ := z_ifs h
  refine j_iast F (pc := 9) (hk.s c_116) hg (by decide +kernel) ?_
  obtain ⟨μ1, e3, h⟩ := z_st_some h
  rw [← e3]
  have hρ2 : μ1.2.2 = ρ := by rw [e3]; exact hρ
  refine j_aload_n F (pc := 10) (q := 0) (by decide +kernel) rfl ?_
  refine j_getR F (pc := 11) (hk.r hρ2 r_98_29) fl_X5_69 (hk.s c_98) rfl (by decide +kernel) ?_
  refine j_aload_n F (pc := 14) (q := 0) (by decide +kernel) rfl ?_
  refine j_getI F (pc := 15) fl_X5_268 (hk.s c_98) rfl (by decide +kernel) ?_
  refine j_iload_n F (pc := 18) (q := 2) (by decide +kernel) rfl ?_
  obtain ⟨hg, h⟩ := z_ifs h
  refine j_iast F (pc := 19) (hk.s c_117) hg (by decide +kernel) ?_
  obtain ⟨μ4, e6, h⟩ := z_st_some h
  rw [← e6]
  have hρ5 : μ4.2.2 = ρ := by rw [e6]; exact hρ2
  refine j_aload_n F (pc := 20) (q := 0) (by decide +kernel) rfl ?_
  refine j_getR F (pc := 21) (hk.r hρ5 r_98_30) fl_X5_72 (hk.s c_98) rfl (by decide +kernel) ?_
  refine j_aload_n F (pc := 24) (q := 0) (by decide +kernel) rfl ?_
  refine j_getI F (pc := 25) fl_X5_268 (hk.s c_98) rfl (by decide +kernel) ?_
  refine j_iload_n F (pc := 28) (q := 3) (by decide +kernel) rfl ?_
  obtain ⟨hg, h⟩ := z_ifs h
  refine j_iast F (pc := 29) (hk.s c_118) hg (by decide +kernel) ?_
  obtain ⟨μ7, e9, h⟩ := z_st_some h
  rw [← e9]
  have hρ8 : μ7.2.2 = ρ := by rw [e9]; exact hρ5
  refine j_aload_n F (pc := 30) (q := 0) (by decide +kernel) rfl ?_
  refine j_getR F (pc := 31) (hk.r hρ8 r_98_31) fl_X5_75 (hk.s c_98) rfl (by decide +kernel) ?_
  refine j_aload_n F (pc := 34) (q := 0) (by decide +kernel) rfl ?_
  refine j_getI F (pc := 35) fl_X5_268 (hk.s c_98) rfl (by decide +kernel) ?_
  refine j_iload F (pc := 38) (i := 4) (by decide +kernel) rfl ?_
  obtain ⟨hg, h⟩ := z_ifs h
  refine j_iast F (pc := 40) (hk.s c_119) hg (by decide +kernel) ?_
  obtain ⟨μ10, e12, h⟩ := z_st_some h
  rw [← e12]
  have hρ11 : μ10.2.2 = ρ := by rw [e12]; exact hρ8
  refine j_aload_n F (pc := 41) (q := 0) (by decide +kernel) rfl ?_
  refine j_getR F (pc := 42) (hk.r hρ11 r_98_32) fl_X5_78 (hk.s c_98) rfl (by decide +kernel) ?_
  refine j_aload_n F (pc := 45) (q := 0) (by decide +kernel) rfl ?_
  refine j_getI F (pc := 46) fl_X5_268 (hk.s c_98) rfl (by decide +kernel) ?_
  refine j_iload F (pc := 49) (i := 5) (by decide +kernel) rfl ?_
  obtain ⟨hg, h⟩ := z_ifs h
  refine j_zast F (pc := 51) (hk.s c_120) hg (by decide +kernel) ?_
  obtain ⟨μ13, e15, h⟩ := z_st_some h
  rw [← e15]
  have hρ14 : μ13.2.2 = ρ := by rw [e15]; exact hρ11
  refine j_aload_n F (pc := 52) (q := 0) (by decide +kernel) rfl ?_
  refine j_getR F (pc := 53) (hk.r hρ14 r_98_33) fl_X5_81 (hk.s c_98) rfl (by decide +kernel) ?_
  refine j_aload_n F (pc := 56) (q := 0) (by decide +kernel) rfl ?_
  refine j_getI F (pc := 57) fl_X5_268 (hk.s c_98) rfl (by decide +kernel) ?_
  refine j_iload F (pc := 60) (i := 6) (by decide +kernel) rfl ?_
  obtain ⟨hg, h⟩ := z_ifs h
  refine j_iast F (pc := 62) (hk.s c_121) hg (by decide +kernel) ?_
  obtain ⟨μ16, e18, h⟩ := z_st_some h
  rw [← e18]
  have hρ17 : μ16.2.2 = ρ := by rw [e18]; exact hρ14
  refine j_aload_n F (pc := 63) (q := 0) (by decide +kernel) rfl ?_
  refine j_getR F (pc := 64) (hk.r hρ17 r_98_34) fl_X5_84 (hk.s c_98) rfl (by decide +kernel) ?_
  refine j_aload_n F (pc := 67) (q := 0) (by decide +kernel) rfl ?_
  refine j_getI F (pc := 68) fl_X5_268 (hk.s c_98) rfl (by decide +kernel) ?_
  refine j_iconst F (pc := 71) (n := -1) (v := -1) (by decide +kernel) (by decide +kernel) ?_
  obtain ⟨hg, h⟩ := z_ifs h
  refine j_iast F (pc := 72) (hk.s c_122) hg (by decide +kernel) ?_
  obtain ⟨μ19, e21, h⟩ := z_st_some h
  rw [← e21]
  have hρ20 : μ19.2.2 = ρ := by rw [e21]; exact hρ17
  refine j_aload_n F (pc := 73) (q := 0) (by decide +kernel) rfl ?_
  refine j_getR F (pc := 74) (hk.r hρ20 r_98_35) fl_X5_87 (hk.s c_98) rfl (by decide +kernel) ?_
  refine j_aload_n F (pc := 77) (q := 0) (by decide +kernel) rfl ?_
  refine j_getI F (pc := 78) fl_X5_268 (hk.s c_98) rfl (by decide +kernel) ?_
  refine j_iconst F (pc := 81) (n := 0) (v := 0) (by decide +kernel) (by decide +kernel) ?_
  obtain ⟨hg, h⟩ := z_ifs h
  refine j_zast F (pc := 82) (hk.s c_123) hg (by decide +kernel) ?_
  obtain ⟨μ22, e24, h⟩ := z_st_some h
  rw [← e24]
  have hρ23 : μ22.2.2 = ρ := by rw [e24]; exact hρ20
  refine j_aload_n F (pc := 83) (q := 0) (by decide +kernel) rfl ?_
  refine j_dup F (pc := 84) (by decide +kernel) rfl ?_
  refine j_getI F (pc := 85) fl_X5_268 (hk.s c_98) rfl (by decide +kernel) ?_
  refine j_iconst F (pc := 88) (n := 1) (v := 1) (by decide +kernel) (by decide +kernel) ?_
  refine j_iadd F (pc := 89) (by decide +kernel) ?_
  refine j_putI F (pc := 90) fl_X5_268 fp_X5_27 (hk.s c_98) rfl (by decide +kernel) ?_
  obtain ⟨μ25, e27, h⟩ := z_st_some h
  rw [← e27]
  have hρ26 : μ25.2.2 = ρ := by rw [e27]; exact hρ23
  exact j_vret (st := []) F Rt (by decide +kernel) ⟨hρ26, rfl, (Option.some.inj h).symm⟩
/-- LastLentModel.claim -/
def f_X5_claim (x1 : Int32) (x2 : Int32) (x3 : Int32) (x4 : Int32) (x5 : Int32) (x6 : Int32) (μ : z_M) : Option (Int32 × z_M) :=
  (z_b2 (f_X5_isKind (x1) μ) fun r1 μ2 => (if r1 = 0 then (some ((-1001 : Int32), μ2)) else (z_b2 (f_X5_isHolder (x2) μ2) fun r8 μ9 => (if r8 = 0 then (some ((-1001 : Int32), μ9)) else (z_b2 (f_X5_in ((x6).toInt64) ((0 : Int64)) ((7 : Int64)) μ9) fun r15 μ16 => (if r15 = 0 then (some ((-1001 : Int32), μ16)) else (z_b2 (f_X5_isDay (x3) μ16) fun r22 μ23 => (if r22 = 0 then (some ((-1002 : Int32), μ23)) else (z_b2 (f_X5_in ((x4).toInt64) ((1 : Int64)) ((999 : Int64)) μ23) fun r29 μ30 => (if r29 = 0 then (some ((-1002 : Int32), μ30)) else (if (μ30.1 98 27) = (14 : Int32) then (some ((-1004 : Int32), μ30)) else (z_b1 (f_X5_putClaim (x1) (x2) (x3) (x4) (x5) (x6) μ30) fun μ37 => (some (((μ37.1 98 27) - (1 : Int32)), μ37))))))))))))))
set_option maxHeartbeats 4000000 in
set_option maxRecDepth 100000 in
theorem t_X5_claim {G : z_Gl} {ρ : Nat → Nat → Option Nat} {μ : z_M} {r : Int32} {μr : z_M} {x1 : Int32} {x2 : Int32} {x3 : Int32} {x4 : Int32} {x5 : Int32} {x6 : Int32} (hρ : μ.2.2 = ρ) (hk : z_ok (z_sh G) ρ) (h : f_X5_claim x1 x2 x3 x4 x5 x6 μ = some (r, μr)) : z_Ci G yX5_claim cX5_claim 7 (some .int) 2 [.ref 98, .int x1, .int x2, .int x3, .int x4, .int x5, .int x6] μ (fun r1 μ1 => r = r1 ∧ μr = μ1) := by
  unfold z_Ci
  refine z_intro (by decide +kernel) (Nat.le_of_ble_eq_true rfl) (fun E hE F Rt => ?_)
  subst hE
  have F : z_F E RX5 cX5_claim 7 2 := F
  rw [hρ] at Rt
  unfold f_X5_claim at h
  show z_J E 7 0 [some (.ref 98), some (.int x1), some (.int x2), some (.int x3), some (.int x4), some (.int x5), some (.int x6)] [] μ
  refine j_iload_n F (pc := 0) (q := 1) (by decide +kernel) rfl ?_
  obtain ⟨r1, μ2, hc4, h⟩ := z_b2_some h
  refine j_callSi F (pc := 1) (idx := 260) (As := [.int x1]) (st := []) (t_X5_isKind (G := E.1) hρ  hc4) q_X5_isKind m_1140 m_1139 rfl (by decide) (Nat.le_of_ble_eq_true rfl) rfl (by decide +kernel) (fun s7 ν5 hq6 hp => ?_)
  obtain ⟨rfl, rfl⟩ := hp
  have hρ3 : μ2.2.2 = ρ := hq6.trans hρ
  refine j_if_eq F (pc := 4) (off := 23) (tgt := 27) (by decide +kernel) (by decide) (fun c => ?_) (fun c => ?_)
  · rw [if_pos c] at h
    refine j_sipush F (pc := 27) (n := -1001) (v := -1001) (by decide +kernel) (by decide +kernel) ?_
    exact j_iret (st := []) F Rt rfl (by decide +kernel) ⟨hρ3, _, rfl, (congrArg Prod.fst (Option.some.inj h)).symm, (congrArg Prod.snd (Option.some.inj h)).symm⟩
  · rw [if_neg c] at h
    refine j_iload_n F (pc := 7) (q := 2) (by decide +kernel) rfl ?_
    obtain ⟨r8, μ9, hc11, h⟩ := z_b2_some h
    refine j_callSi F (pc := 8) (idx := 277) (As := [.int x2]) (st := []) (t_X5_isHolder (G := E.1) hρ3  hc11) q_X5_isHolder m_1169 m_1168 rfl (by decide) (Nat.le_of_ble_eq_true rfl) rfl (by decide +kernel) (fun s14 ν12 hq13 hp => ?_)
    obtain ⟨rfl, rfl⟩ := hp
    have hρ10 : μ9.2.2 = ρ := hq13.trans hρ3
    refine j_if_eq F (pc := 11) (off := 16) (tgt := 27) (by decide +kernel) (by decide) (fun c => ?_) (fun c => ?_)
    · rw [if_pos c] at h
      refine j_sipush F (pc := 27) (n := -1001) (v := -1001) (by decide +kernel) (by decide +kernel) ?_
      exact j_iret (st := []) F Rt rfl (by decide +kernel) ⟨hρ10, _, rfl, (congrArg Prod.fst (Option.some.inj h)).symm, (congrArg Prod.snd (Option.some.inj h)).symm⟩
    · rw [if_neg c] at h
      refine j_iload F (pc := 14) (i := 6) (by decide +kernel) rfl ?_
      refine j_i2l F (pc := 16) (by decide +kernel) ?_
      refine j_lconst F (pc := 17) (n := 0) (v := 0) (by decide +kernel) (by decide +kernel) ?_
      refine j_ldc2 F (pc := 18) m_1142 (by decide +kernel) ?_
      obtain ⟨r15, μ16, hc18, h⟩ := z_b2_some h
      refine j_callSi F (pc := 21) (idx := 138) (As := [.long (x6).toInt64, .long (0 : Int64), .long (7 : Int64)]) (st := []) (t_X5_in (G := E.1) hρ10  hc18) q_X5_in m_1050 m_1049 rfl (by decide) (Nat.le_of_ble_eq_true rfl) rfl (by decide +kernel) (fun s21 ν19 hq20 hp => ?_)
      obtain ⟨rfl, rfl⟩ := hp
      have hρ17 : μ16.2.2 = ρ := hq20.trans hρ10
      refine j_if_ne F (pc := 24) (off := 7) (tgt := 31) (by decide +kernel) (by decide) (fun c => ?_) (fun c => ?_)
      · rw [if_neg c] at h
        refine j_iload_n F (pc := 31) (q := 3) (by decide +kernel) rfl ?_
        obtain ⟨r22, μ23, hc25, h⟩ := z_b2_some h
        refine j_callSi F (pc := 32) (idx := 271) (As := [.int x3]) (st := []) (t_X5_isDay (G := E.1) hρ17  hc25) q_X5_isDay m_1161 m_1160 rfl (by decide) (Nat.le_of_ble_eq_true rfl) rfl (by decide +kernel) (fun s28 ν26 hq27 hp => ?_)
        obtain ⟨rfl, rfl⟩ := hp
        have hρ24 : μ23.2.2 = ρ := hq27.trans hρ17
        refine j_if_eq F (pc := 35) (off := 16) (tgt := 51) (by decide +kernel) (by decide) (fun c => ?_) (fun c => ?_)
        · rw [if_pos c] at h
          refine j_sipush F (pc := 51) (n := -1002) (v := -1002) (by decide +kernel) (by decide +kernel) ?_
          exact j_iret (st := []) F Rt rfl (by decide +kernel) ⟨hρ24, _, rfl, (congrArg Prod.fst (Option.some.inj h)).symm, (congrArg Prod.snd (Option.some.inj h)).symm⟩
        · rw [if_neg c] at h
          refine j_iload F (pc := 38) (i := 4) (by decide +kernel) rfl ?_
          refine j_i2l F (pc := 40) (by decide +kernel) ?_
          refine j_lconst F (pc := 41) (n := 1) (v := 1) (by decide +kernel) (by decide +kernel) ?_
          refine j_ldc2 F (pc := 42) m_1163 (by decide +kernel) ?_
          obtain ⟨r29, μ30, hc32, h⟩ := z_b2_some h
          refine j_callSi F (pc := 45) (idx := 138) (As := [.long (x4).toInt64, .long (1 : Int64), .long (999 : Int64)]) (st := []) (t_X5_in (G := E.1) hρ24  hc32) q_X5_in m_1050 m_1049 rfl (by decide) (Nat.le_of_ble_eq_true rfl) rfl (by decide +kernel) (fun s35 ν33 hq34 hp => ?_)
          obtain ⟨rfl, rfl⟩ := hp
          have hρ31 : μ30.2.2 = ρ := hq34.trans hρ24
          refine j_if_ne F (pc := 48) (off := 7) (tgt := 55) (by decide +kernel) (by decide) (fun c => ?_) (fun c => ?_)
          · rw [if_neg c] at h
            refine j_aload_n F (pc := 55) (q := 0) (by decide +kernel) rfl ?_
            refine j_getI F (pc := 56) fl_X5_268 (hk.s c_98) rfl (by decide +kernel) ?_
            refine j_bipush F (pc := 59) (n := 14) (v := 14) (by decide +kernel) (by decide +kernel) ?_
            refine j_icmp_ne F (pc := 61) (off := 7) (tgt := 68) (by decide +kernel) (by decide) (fun c => ?_) (fun c => ?_)
            · rw [if_neg c] at h
              refine j_aload_n F (pc := 68) (q := 0) (by decide +kernel) rfl ?_
              refine j_iload_n F (pc := 69) (q := 1) (by decide +kernel) rfl ?_
              refine j_iload_n F (pc := 70) (q := 2) (by decide +kernel) rfl ?_
              refine j_iload_n F (pc := 71) (q := 3) (by decide +kernel) rfl ?_
              refine j_iload F (pc := 72) (i := 4) (by decide +kernel) rfl ?_
              refine j_iload F (pc := 74) (i := 5) (by decide +kernel) rfl ?_
              refine j_iload F (pc := 76) (i := 6) (by decide +kernel) rfl ?_
              obtain ⟨μ37, hc39, h⟩ := z_b1_some h
              refine j_callVv F (pc := 78) (idx := 280) (As := [.int x1, .int x2, .int x3, .int x4, .int x5, .int x6]) (st := []) (t_X5_putClaim (G := E.1) hρ31 hk hc39) q_X5_putClaim v_X5_putClaim m_1172 (hk.s c_98) rfl rfl (by decide) (Nat.le_of_ble_eq_true rfl) rfl (by decide +kernel) (fun ν40 hq41 hp => ?_)
              subst hp
              have hρ38 : μ37.2.2 = ρ := hq41.trans hρ31
              refine j_aload_n F (pc := 81) (q := 0) (by decide +kernel) rfl ?_
              refine j_getI F (pc := 82) fl_X5_268 (hk.s c_98) rfl (by decide +kernel) ?_
              refine j_iconst F (pc := 85) (n := 1) (v := 1) (by decide +kernel) (by decide +kernel) ?_
              refine j_isub F (pc := 86) (by decide +kernel) ?_
              exact j_iret (st := []) F Rt rfl (by decide +kernel) ⟨hρ38, _, rfl, (congrArg Prod.fst (Option.some.inj h)).symm, (congrArg Prod.snd (Option.some.inj h)).symm⟩
            · rw [if_pos c] at h
              refine j_sipush F (pc := 64) (n := -1004) (v := -1004) (by decide +kernel) (by decide +kernel) ?_
              exact j_iret (st := []) F Rt rfl (by decide +kernel) ⟨hρ31, _, rfl, (congrArg Prod.fst (Option.some.inj h)).symm, (congrArg Prod.snd (Option.some.inj h)).symm⟩
          · rw [if_pos c] at h
            refine j_sipush F (pc := 51) (n := -1002) (v := -1002) (by decide +kernel) (by decide +kernel) ?_
            exact j_iret (st := []) F Rt rfl (by decide +kernel) ⟨hρ31, _, rfl, (congrArg Prod.fst (Option.some.inj h)).symm, (congrArg Prod.snd (Option.some.inj h)).symm⟩
      · rw [if_pos c] at h
        refine j_sipush F (pc := 27) (n := -1001) (v := -1001) (by decide +kernel) (by decide +kernel) ?_
        exact j_iret (st := []) F Rt rfl (by decide +kernel) ⟨hρ17, _, rfl, (congrArg Prod.fst (Option.some.inj h)).symm, (congrArg Prod.snd (Option.some.inj h)).symm⟩
/-- LastLentModel.isClaim -/
def f_X5_isClaim (x1 : Int32) (μ : z_M) : Option (Int32 × z_M) :=
  (z_b2 (f_X5_in ((x1).toInt64) ((0 : Int64)) ((((μ.1 98 27) - (1 : Int32))).toInt64) μ) fun r1 μ2 => (if r1 = 0 ∨ r1 = 1 then some (r1, μ2) else none))
set_option maxHeartbeats 4000000 in
set_option maxRecDepth 100000 in
theorem t_X5_isClaim {G : z_Gl} {ρ : Nat → Nat → Option Nat} {μ : z_M} {r : Int32} {μr : z_M} {x1 : Int32} (hρ : μ.2.2 = ρ) (hk : z_ok (z_sh G) ρ) (h : f_X5_isClaim x1 μ = some (r, μr)) : z_Ci G yX5_isClaim cX5_isClaim 2 (some .boolean) 1 [.ref 98, .int x1] μ (fun r1 μ1 => r = r1 ∧ μr = μ1) := by
  unfold z_Ci
  refine z_intro (by decide +kernel) (Nat.le_of_ble_eq_true rfl) (fun E hE F Rt => ?_)
  subst hE
  have F : z_F E RX5 cX5_isClaim 2 1 := F
  rw [hρ] at Rt
  unfold f_X5_isClaim at h
  show z_J E 2 0 [some (.ref 98), some (.int x1)] [] μ
  refine j_iload_n F (pc := 0) (q := 1) (by decide +kernel) rfl ?_
  refine j_i2l F (pc := 1) (by decide +kernel) ?_
  refine j_lconst F (pc := 2) (n := 0) (v := 0) (by decide +kernel) (by decide +kernel) ?_
  refine j_aload_n F (pc := 3) (q := 0) (by decide +kernel) rfl ?_
  refine j_getI F (pc := 4) fl_X5_268 (hk.s c_98) rfl (by decide +kernel) ?_
  refine j_iconst F (pc := 7) (n := 1) (v := 1) (by decide +kernel) (by decide +kernel) ?_
  refine j_isub F (pc := 8) (by decide +kernel) ?_
  refine j_i2l F (pc := 9) (by decide +kernel) ?_
  obtain ⟨r1, μ2, hc4, h⟩ := z_b2_some h
  refine j_callSi F (pc := 10) (idx := 138) (As := [.long (x1).toInt64, .long (0 : Int64), .long (((μ.1 98 27) - (1 : Int32))).toInt64]) (st := []) (t_X5_in (G := E.1) hρ  hc4) q_X5_in m_1050 m_1049 rfl (by decide) (Nat.le_of_ble_eq_true rfl) rfl (by decide +kernel) (fun s7 ν5 hq6 hp => ?_)
  obtain ⟨rfl, rfl⟩ := hp
  have hρ3 : μ2.2.2 = ρ := hq6.trans hρ
  obtain ⟨hg, h⟩ := z_ifs h
  exact j_iret (st := []) F Rt (z_nb hg) (by decide +kernel) ⟨hρ3, _, rfl, (congrArg Prod.fst (Option.some.inj h)).symm, (congrArg Prod.snd (Option.some.inj h)).symm⟩
/-- LastLentModel.ask -/
def f_X5_ask (x1 : Int32) (x2 : Int32) (μ : z_M) : Option (Int32 × z_M) :=
  (z_b2 (f_X5_isClaim (x1) μ) fun r1 μ2 => (if r1 = 0 then (some ((-1001 : Int32), μ2)) else (z_b2 (f_X5_in ((x2).toInt64) ((-1 : Int64)) ((999 : Int64)) μ2) fun r8 μ9 => (if r8 = 0 then (some ((-1002 : Int32), μ9)) else (if z_in x1 15 then (z_lt (μ9.1 122 x1.toNatClampNeg) fun x_15 => (if z_in x1 15 then (z_st (z_si μ9 122 x1.toNatClampNeg x2) fun μ17 => (some (x_15, μ17))) else none)) else none)))))
set_option maxHeartbeats 4000000 in
set_option maxRecDepth 100000 in
theorem t_X5_ask {G : z_Gl} {ρ : Nat → Nat → Option Nat} {μ : z_M} {r : Int32} {μr : z_M} {x1 : Int32} {x2 : Int32} (hρ : μ.2.2 = ρ) (hk : z_ok (z_sh G) ρ) (h : f_X5_ask x1 x2 μ = some (r, μr)) : z_Ci G yX5_ask cX5_ask 4 (some .int) 2 [.ref 98, .int x1, .int x2] μ (fun r1 μ1 => r = r1 ∧ μr = μ1) := by
  unfold z_Ci
  refine z_intro (by decide +kernel) (Nat.le_of_ble_eq_true rfl) (fun E hE F Rt => ?_)
  subst hE
  have F : z_F E RX5 cX5_ask 4 2 := F
  rw [hρ] at Rt
  unfold f_X5_ask at h
  show z_J E 4 0 [some (.ref 98), some (.int x1), some (.int x2), none] [] μ
  refine j_aload_n F (pc := 0) (q := 0) (by decide +kernel) rfl ?_
  refine j_iload_n F (pc := 1) (q := 1) (by decide +kernel) rfl ?_
  obtain ⟨r1, μ2, hc4, h⟩ := z_b2_some h
  refine j_callVi F (pc := 2) (idx := 284) (As := [.int x1]) (st := []) (t_X5_isClaim (G := E.1) hρ hk hc4) q_X5_isClaim v_X5_isClaim m_1180 (hk.s c_98) rfl rfl (by decide) (Nat.le_of_ble_eq_true rfl) rfl (by decide +kernel) (fun s7 ν5 hq6 hp => ?_)
  obtain ⟨rfl, rfl⟩ := hp
  have hρ3 : μ2.2.2 = ρ := hq6.trans hρ
  refine j_if_ne F (pc := 5) (off := 7) (tgt := 12) (by decide +kernel) (by decide) (fun c => ?_) (fun c => ?_)
  · rw [if_neg c] at h
    refine j_iload_n F (pc := 12) (q := 2) (by decide +kernel) rfl ?_
    refine j_i2l F (pc := 13) (by decide +kernel) ?_
    refine j_ldc2 F (pc := 14) m_1184 (by decide +kernel) ?_
    refine j_ldc2 F (pc := 17) m_1163 (by decide +kernel) ?_
    obtain ⟨r8, μ9, hc11, h⟩ := z_b2_some h
    refine j_callSi F (pc := 20) (idx := 138) (As := [.long (x2).toInt64, .long (-1 : Int64), .long (999 : Int64)]) (st := []) (t_X5_in (G := E.1) hρ3  hc11) q_X5_in m_1050 m_1049 rfl (by decide) (Nat.le_of_ble_eq_true rfl) rfl (by decide +kernel) (fun s14 ν12 hq13 hp => ?_)
    obtain ⟨rfl, rfl⟩ := hp
    have hρ10 : μ9.2.2 = ρ := hq13.trans hρ3
    refine j_if_ne F (pc := 23) (off := 7) (tgt := 30) (by decide +kernel) (by decide) (fun c => ?_) (fun c => ?_)
    · rw [if_neg c] at h
      refine j_aload_n F (pc := 30) (q := 0) (by decide +kernel) rfl ?_
      refine j_getR F (pc := 31) (hk.r hρ10 r_98_34) fl_X5_84 (hk.s c_98) rfl (by decide +kernel) ?_
      refine j_iload_n F (pc := 34) (q := 1) (by decide +kernel) rfl ?_
      obtain ⟨hg, h⟩ := z_ifs h
      refine j_iald F (pc := 35) (hk.s c_122) hg (by decide +kernel) ?_
      obtain ⟨x_15, e16, h⟩ := z_lt_some h
      rw [← e16]
      refine j_istore_n F (pc := 36) (q := 3) (L' := [some (.ref 98), some (.int x1), some (.int x2), some (.int x_15)]) (by decide +kernel) (by decide) rfl rfl ?_
      refine j_aload_n F (pc := 37) (q := 0) (by decide +kernel) rfl ?_
      refine j_getR F (pc := 38) (hk.r hρ10 r_98_34) fl_X5_84 (hk.s c_98) rfl (by decide +kernel) ?_
      refine j_iload_n F (pc := 41) (q := 1) (by decide +kernel) rfl ?_
      refine j_iload_n F (pc := 42) (q := 2) (by decide +kernel) rfl ?_
      obtain ⟨hg, h⟩ := z_ifs h
      refine j_iast F (pc := 43) (hk.s c_122) hg (by decide +kernel) ?_
      obtain ⟨μ17, e19, h⟩ := z_st_some h
      rw [← e19]
      have hρ18 : μ17.2.2 = ρ := by rw [e19]; exact hρ10
      refine j_iload_n F (pc := 44) (q := 3) (by decide +kernel) rfl ?_
      exact j_iret (st := []) F Rt rfl (by decide +kernel) ⟨hρ18, _, rfl, (congrArg Prod.fst (Option.some.inj h)).symm, (congrArg Prod.snd (Option.some.inj h)).symm⟩
    · rw [if_pos c] at h
      refine j_sipush F (pc := 26) (n := -1002) (v := -1002) (by decide +kernel) (by decide +kernel) ?_
      exact j_iret (st := []) F Rt rfl (by decide +kernel) ⟨hρ10, _, rfl, (congrArg Prod.fst (Option.some.inj h)).symm, (congrArg Prod.snd (Option.some.inj h)).symm⟩
  · rw [if_pos c] at h
    refine j_sipush F (pc := 8) (n := -1001) (v := -1001) (by decide +kernel) (by decide +kernel) ?_
    exact j_iret (st := []) F Rt rfl (by decide +kernel) ⟨hρ3, _, rfl, (congrArg Prod.fst (Option.some.inj h)).symm, (congrArg Prod.snd (Option.some.inj h)).symm⟩
/-- LastLentModel.isFund -/
def f_X5_isFund (x0 : Int32) (μ : z_M) : Option (Int32 × z_M) :=
  (z_b2 (f_X5_in ((x0).toInt64) ((0 : Int64)) ((4 : Int64)) μ) fun r1 μ2 => (if r1 = 0 ∨ r1 = 1 then some (r1, μ2) else none))
set_option maxHeartbeats 4000000 in
set_option maxRecDepth 100000 in
theorem t_X5_isFund {G : z_Gl} {ρ : Nat → Nat → Option Nat} {μ : z_M} {r : Int32} {μr : z_M} {x0 : Int32} (hρ : μ.2.2 = ρ)  (h : f_X5_isFund x0 μ = some (r, μr)) : z_Ci G yX5_isFund cX5_isFund 1 (some .boolean) 1 [.int x0] μ (fun r1 μ1 => r = r1 ∧ μr = μ1) := by
  unfold z_Ci
  refine z_intro (by decide +kernel) (Nat.le_of_ble_eq_true rfl) (fun E hE F Rt => ?_)
  subst hE
  have F : z_F E RX5 cX5_isFund 1 1 := F
  rw [hρ] at Rt
  unfold f_X5_isFund at h
  show z_J E 1 0 [some (.int x0)] [] μ
  refine j_iload_n F (pc := 0) (q := 0) (by decide +kernel) rfl ?_
  refine j_i2l F (pc := 1) (by decide +kernel) ?_
  refine j_lconst F (pc := 2) (n := 0) (v := 0) (by decide +kernel) (by decide +kernel) ?_
  refine j_ldc2 F (pc := 3) m_1151 (by decide +kernel) ?_
  obtain ⟨r1, μ2, hc4, h⟩ := z_b2_some h
  refine j_callSi F (pc := 6) (idx := 138) (As := [.long (x0).toInt64, .long (0 : Int64), .long (4 : Int64)]) (st := []) (t_X5_in (G := E.1) hρ  hc4) q_X5_in m_1050 m_1049 rfl (by decide) (Nat.le_of_ble_eq_true rfl) rfl (by decide +kernel) (fun s7 ν5 hq6 hp => ?_)
  obtain ⟨rfl, rfl⟩ := hp
  have hρ3 : μ2.2.2 = ρ := hq6.trans hρ
  obtain ⟨hg, h⟩ := z_ifs h
  exact j_iret (st := []) F Rt (z_nb hg) (by decide +kernel) ⟨hρ3, _, rfl, (congrArg Prod.fst (Option.some.inj h)).symm, (congrArg Prod.snd (Option.some.inj h)).symm⟩
/-- LastLentModel.fund -/
def f_X5_fund (x1 : Int32) (x2 : Int32) (μ : z_M) : Option (Int32 × z_M) :=
  (z_b2 (f_X5_isFund (x1) μ) fun r1 μ2 => (if r1 = 0 then (some ((-1001 : Int32), μ2)) else (z_b2 (f_X5_in ((x2).toInt64) ((0 : Int64)) ((9999 : Int64)) μ2) fun r8 μ9 => (if r8 = 0 then (some ((-1002 : Int32), μ9)) else (if z_in x1 5 then (z_lt (μ9.1 124 x1.toNatClampNeg) fun x_15 => (if z_in x1 5 then (z_st (z_si μ9 124 x1.toNatClampNeg x2) fun μ17 => (some (x_15, μ17))) else none)) else none)))))
set_option maxHeartbeats 4000000 in
set_option maxRecDepth 100000 in
theorem t_X5_fund {G : z_Gl} {ρ : Nat → Nat → Option Nat} {μ : z_M} {r : Int32} {μr : z_M} {x1 : Int32} {x2 : Int32} (hρ : μ.2.2 = ρ) (hk : z_ok (z_sh G) ρ) (h : f_X5_fund x1 x2 μ = some (r, μr)) : z_Ci G yX5_fund cX5_fund 4 (some .int) 2 [.ref 98, .int x1, .int x2] μ (fun r1 μ1 => r = r1 ∧ μr = μ1) := by
  unfold z_Ci
  refine z_intro (by decide +kernel) (Nat.le_of_ble_eq_true rfl) (fun E hE F Rt => ?_)
  subst hE
  have F : z_F E RX5 cX5_fund 4 2 := F
  rw [hρ] at Rt
  unfold f_X5_fund at h
  show z_J E 4 0 [some (.ref 98), some (.int x1), some (.int x2), none] [] μ
  refine j_iload_n F (pc := 0) (q := 1) (by decide +kernel) rfl ?_
  obtain ⟨r1, μ2, hc4, h⟩ := z_b2_some h
  refine j_callSi F (pc := 1) (idx := 289) (As := [.int x1]) (st := []) (t_X5_isFund (G := E.1) hρ  hc4) q_X5_isFund m_1190 m_1189 rfl (by decide) (Nat.le_of_ble_eq_true rfl) rfl (by decide +kernel) (fun s7 ν5 hq6 hp => ?_)
  obtain ⟨rfl, rfl⟩ := hp
  have hρ3 : μ2.2.2 = ρ := hq6.trans hρ
  refine j_if_ne F (pc := 4) (off := 7) (tgt := 11) (by decide +kernel) (by decide) (fun c => ?_) (fun c => ?_)
  · rw [if_neg c] at h
    refine j_iload_n F (pc := 11) (q := 2) (by decide +kernel) rfl ?_
    refine j_i2l F (pc := 12) (by decide +kernel) ?_
    refine j_lconst F (pc := 13) (n := 0) (v := 0) (by decide +kernel) (by decide +kernel) ?_
    refine j_ldc2 F (pc := 14) m_1192 (by decide +kernel) ?_
    obtain ⟨r8, μ9, hc11, h⟩ := z_b2_some h
    refine j_callSi F (pc := 17) (idx := 138) (As := [.long (x2).toInt64, .long (0 : Int64), .long (9999 : Int64)]) (st := []) (t_X5_in (G := E.1) hρ3  hc11) q_X5_in m_1050 m_1049 rfl (by decide) (Nat.le_of_ble_eq_true rfl) rfl (by decide +kernel) (fun s14 ν12 hq13 hp => ?_)
    obtain ⟨rfl, rfl⟩ := hp
    have hρ10 : μ9.2.2 = ρ := hq13.trans hρ3
    refine j_if_ne F (pc := 20) (off := 7) (tgt := 27) (by decide +kernel) (by decide) (fun c => ?_) (fun c => ?_)
    · rw [if_neg c] at h
      refine j_aload_n F (pc := 27) (q := 0) (by decide +kernel) rfl ?_
      refine j_getR F (pc := 28) (hk.r hρ10 r_98_36) fl_X5_90 (hk.s c_98) rfl (by decide +kernel) ?_
      refine j_iload_n F (pc := 31) (q := 1) (by decide +kernel) rfl ?_
      obtain ⟨hg, h⟩ := z_ifs h
      refine j_iald F (pc := 32) (hk.s c_124) hg (by decide +kernel) ?_
      obtain ⟨x_15, e16, h⟩ := z_lt_some h
      rw [← e16]
      refine j_istore_n F (pc := 33) (q := 3) (L' := [some (.ref 98), some (.int x1), some (.int x2), some (.int x_15)]) (by decide +kernel) (by decide) rfl rfl ?_
      refine j_aload_n F (pc := 34) (q := 0) (by decide +kernel) rfl ?_
      refine j_getR F (pc := 35) (hk.r hρ10 r_98_36) fl_X5_90 (hk.s c_98) rfl (by decide +kernel) ?_
      refine j_iload_n F (pc := 38) (q := 1) (by decide +kernel) rfl ?_
      refine j_iload_n F (pc := 39) (q := 2) (by decide +kernel) rfl ?_
      obtain ⟨hg, h⟩ := z_ifs h
      refine j_iast F (pc := 40) (hk.s c_124) hg (by decide +kernel) ?_
      obtain ⟨μ17, e19, h⟩ := z_st_some h
      rw [← e19]
      have hρ18 : μ17.2.2 = ρ := by rw [e19]; exact hρ10
      refine j_iload_n F (pc := 41) (q := 3) (by decide +kernel) rfl ?_
      exact j_iret (st := []) F Rt rfl (by decide +kernel) ⟨hρ18, _, rfl, (congrArg Prod.fst (Option.some.inj h)).symm, (congrArg Prod.snd (Option.some.inj h)).symm⟩
    · rw [if_pos c] at h
      refine j_sipush F (pc := 23) (n := -1002) (v := -1002) (by decide +kernel) (by decide +kernel) ?_
      exact j_iret (st := []) F Rt rfl (by decide +kernel) ⟨hρ10, _, rfl, (congrArg Prod.fst (Option.some.inj h)).symm, (congrArg Prod.snd (Option.some.inj h)).symm⟩
  · rw [if_pos c] at h
    refine j_sipush F (pc := 7) (n := -1001) (v := -1001) (by decide +kernel) (by decide +kernel) ?_
    exact j_iret (st := []) F Rt rfl (by decide +kernel) ⟨hρ3, _, rfl, (congrArg Prod.fst (Option.some.inj h)).symm, (congrArg Prod.snd (Option.some.inj h)).symm⟩
/-- LastLentModel.isCargo -/
def f_X5_isCargo (x0 : Int32) (μ : z_M) : Option (Int32 × z_M) :=
  (z_b2 (f_X5_in ((x0).toInt64) ((0 : Int64)) ((2 : Int64)) μ) fun r1 μ2 => (if r1 = 0 ∨ r1 = 1 then some (r1, μ2) else none))
set_option maxHeartbeats 4000000 in
set_option maxRecDepth 100000 in
theorem t_X5_isCargo {G : z_Gl} {ρ : Nat → Nat → Option Nat} {μ : z_M} {r : Int32} {μr : z_M} {x0 : Int32} (hρ : μ.2.2 = ρ)  (h : f_X5_isCargo x0 μ = some (r, μr)) : z_Ci G yX5_isCargo cX5_isCargo 1 (some .boolean) 1 [.int x0] μ (fun r1 μ1 => r = r1 ∧ μr = μ1) := by
  unfold z_Ci
  refine z_intro (by decide +kernel) (Nat.le_of_ble_eq_true rfl) (fun E hE F Rt => ?_)
  subst hE
  have F : z_F E RX5 cX5_isCargo 1 1 := F
  rw [hρ] at Rt
  unfold f_X5_isCargo at h
  show z_J E 1 0 [some (.int x0)] [] μ
  refine j_iload_n F (pc := 0) (q := 0) (by decide +kernel) rfl ?_
  refine j_i2l F (pc := 1) (by decide +kernel) ?_
  refine j_lconst F (pc := 2) (n := 0) (v := 0) (by decide +kernel) (by decide +kernel) ?_
  refine j_ldc2 F (pc := 3) m_1200 (by decide +kernel) ?_
  obtain ⟨r1, μ2, hc4, h⟩ := z_b2_some h
  refine j_callSi F (pc := 6) (idx := 138) (As := [.long (x0).toInt64, .long (0 : Int64), .long (2 : Int64)]) (st := []) (t_X5_in (G := E.1) hρ  hc4) q_X5_in m_1050 m_1049 rfl (by decide) (Nat.le_of_ble_eq_true rfl) rfl (by decide +kernel) (fun s7 ν5 hq6 hp => ?_)
  obtain ⟨rfl, rfl⟩ := hp
  have hρ3 : μ2.2.2 = ρ := hq6.trans hρ
  obtain ⟨hg, h⟩ := z_ifs h
  exact j_iret (st := []) F Rt (z_nb hg) (by decide +kernel) ⟨hρ3, _, rfl, (congrArg Prod.fst (Option.some.inj h)).symm, (congrArg Prod.snd (Option.some.inj h)).symm⟩
/-- LastLentModel.owner -/
def f_X5_owner (x1 : Int32) (x2 : Int32) (μ : z_M) : Option (Int32 × z_M) :=
  (z_b2 (f_X5_isCargo (x1) μ) fun r1 μ2 => (if r1 = 0 then (some ((-1001 : Int32), μ2)) else (z_b2 (f_X5_isHolder (x2) μ2) fun r8 μ9 => (if r8 = 0 then (some ((-1001 : Int32), μ9)) else (if z_in x1 3 then (z_lt (μ9.1 125 x1.toNatClampNeg) fun x_15 => (if z_in x1 3 then (z_st (z_si μ9 125 x1.toNatClampNeg x2) fun μ17 => (some (x_15, μ17))) else none)) else none)))))
set_option maxHeartbeats 4000000 in
set_option maxRecDepth 100000 in
theorem t_X5_owner {G : z_Gl} {ρ : Nat → Nat → Option Nat} {μ : z_M} {r : Int32} {μr : z_M} {x1 : Int32} {x2 : Int32} (hρ : μ.2.2 = ρ) (hk : z_ok (z_sh G) ρ) (h : f_X5_owner x1 x2 μ = some (r, μr)) : z_Ci G yX5_owner cX5_owner 4 (some .int) 2 [.ref 98, .int x1, .int x2] μ (fun r1 μ1 => r = r1 ∧ μr = μ1) := by
  unfold z_Ci
  refine z_intro (by decide +kernel) (Nat.le_of_ble_eq_true rfl) (fun E hE F Rt => ?_)
  subst hE
  have F : z_F E RX5 cX5_owner 4 2 := F
  rw [hρ] at Rt
  unfold f_X5_owner at h
  show z_J E 4 0 [some (.ref 98), some (.int x1), some (.int x2), none] [] μ
  refine j_iload_n F (pc := 0) (q := 1) (by decide +kernel) rfl ?_
  obtain ⟨r1, μ2, hc4, h⟩ := z_b2_some h
  refine j_callSi F (pc := 1) (idx := 296) (As := [.int x1]) (st := []) (t_X5_isCargo (G := E.1) hρ  hc4) q_X5_isCargo m_1198 m_1197 rfl (by decide) (Nat.le_of_ble_eq_true rfl) rfl (by decide +kernel) (fun s7 ν5 hq6 hp => ?_)
  obtain ⟨rfl, rfl⟩ := hp
  have hρ3 : μ2.2.2 = ρ := hq6.trans hρ
  refine j_if_eq F (pc := 4) (off := 10) (tgt := 14) (by decide +kernel) (by decide) (fun c => ?_) (fun c => ?_)
  · rw [if_pos c] at h
    refine j_sipush F (pc := 14) (n := -1001) (v := -1001) (by decide +kernel) (by decide +kernel) ?_
    exact j_iret (st := []) F Rt rfl (by decide +kernel) ⟨hρ3, _, rfl, (congrArg Prod.fst (Option.some.inj h)).symm, (congrArg Prod.snd (Option.some.inj h)).symm⟩
  · rw [if_neg c] at h
    refine j_iload_n F (pc := 7) (q := 2) (by decide +kernel) rfl ?_
    obtain ⟨r8, μ9, hc11, h⟩ := z_b2_some h
    refine j_callSi F (pc := 8) (idx := 277) (As := [.int x2]) (st := []) (t_X5_isHolder (G := E.1) hρ3  hc11) q_X5_isHolder m_1169 m_1168 rfl (by decide) (Nat.le_of_ble_eq_true rfl) rfl (by decide +kernel) (fun s14 ν12 hq13 hp => ?_)
    obtain ⟨rfl, rfl⟩ := hp
    have hρ10 : μ9.2.2 = ρ := hq13.trans hρ3
    refine j_if_ne F (pc := 11) (off := 7) (tgt := 18) (by decide +kernel) (by decide) (fun c => ?_) (fun c => ?_)
    · rw [if_neg c] at h
      refine j_aload_n F (pc := 18) (q := 0) (by decide +kernel) rfl ?_
      refine j_getR F (pc := 19) (hk.r hρ10 r_98_37) fl_X5_93 (hk.s c_98) rfl (by decide +kernel) ?_
      refine j_iload_n F (pc := 22) (q := 1) (by decide +kernel) rfl ?_
      obtain ⟨hg, h⟩ := z_ifs h
      refine j_iald F (pc := 23) (hk.s c_125) hg (by decide +kernel) ?_
      obtain ⟨x_15, e16, h⟩ := z_lt_some h
      rw [← e16]
      refine j_istore_n F (pc := 24) (q := 3) (L' := [some (.ref 98), some (.int x1), some (.int x2), some (.int x_15)]) (by decide +kernel) (by decide) rfl rfl ?_
      refine j_aload_n F (pc := 25) (q := 0) (by decide +kernel) rfl ?_
      refine j_getR F (pc := 26) (hk.r hρ10 r_98_37) fl_X5_93 (hk.s c_98) rfl (by decide +kernel) ?_
      refine j_iload_n F (pc := 29) (q := 1) (by decide +kernel) rfl ?_
      refine j_iload_n F (pc := 30) (q := 2) (by decide +kernel) rfl ?_
      obtain ⟨hg, h⟩ := z_ifs h
      refine j_iast F (pc := 31) (hk.s c_125) hg (by decide +kernel) ?_
      obtain ⟨μ17, e19, h⟩ := z_st_some h
      rw [← e19]
      have hρ18 : μ17.2.2 = ρ := by rw [e19]; exact hρ10
      refine j_iload_n F (pc := 32) (q := 3) (by decide +kernel) rfl ?_
      exact j_iret (st := []) F Rt rfl (by decide +kernel) ⟨hρ18, _, rfl, (congrArg Prod.fst (Option.some.inj h)).symm, (congrArg Prod.snd (Option.some.inj h)).symm⟩
    · rw [if_pos c] at h
      refine j_sipush F (pc := 14) (n := -1001) (v := -1001) (by decide +kernel) (by decide +kernel) ?_
      exact j_iret (st := []) F Rt rfl (by decide +kernel) ⟨hρ10, _, rfl, (congrArg Prod.fst (Option.some.inj h)).symm, (congrArg Prod.snd (Option.some.inj h)).symm⟩
/-- LastLentModel.pass -/
def f_X5_pass (x1 : Int32) (x2 : Int32) (μ : z_M) : Option (Int32 × z_M) :=
  (z_b2 (f_X5_isClaim (x1) μ) fun r1 μ2 => (if r1 = 0 then (some ((-1001 : Int32), μ2)) else (z_b2 (f_X5_isHolder (x2) μ2) fun r8 μ9 => (if r8 = 0 then (some ((-1001 : Int32), μ9)) else (if z_in x1 15 then (z_lt (μ9.1 117 x1.toNatClampNeg) fun x_15 => (if z_in x1 15 then (z_st (z_si μ9 117 x1.toNatClampNeg x2) fun μ17 => (some (x_15, μ17))) else none)) else none)))))
set_option maxHeartbeats 4000000 in
set_option maxRecDepth 100000 in
theorem t_X5_pass {G : z_Gl} {ρ : Nat → Nat → Option Nat} {μ : z_M} {r : Int32} {μr : z_M} {x1 : Int32} {x2 : Int32} (hρ : μ.2.2 = ρ) (hk : z_ok (z_sh G) ρ) (h : f_X5_pass x1 x2 μ = some (r, μr)) : z_Ci G yX5_pass cX5_pass 4 (some .int) 2 [.ref 98, .int x1, .int x2] μ (fun r1 μ1 => r = r1 ∧ μr = μ1) := by
  unfold z_Ci
  refine z_intro (by decide +kernel) (Nat.le_of_ble_eq_true rfl) (fun E hE F Rt => ?_)
  subst hE
  have F : z_F E RX5 cX5_pass 4 2 := F
  rw [hρ] at Rt
  unfold f_X5_pass at h
  show z_J E 4 0 [some (.ref 98), some (.int x1), some (.int x2), none] [] μ
  refine j_aload_n F (pc := 0) (q := 0) (by decide +kernel) rfl ?_
  refine j_iload_n F (pc := 1) (q := 1) (by decide +kernel) rfl ?_
  obtain ⟨r1, μ2, hc4, h⟩ := z_b2_some h
  refine j_callVi F (pc := 2) (idx := 284) (As := [.int x1]) (st := []) (t_X5_isClaim (G := E.1) hρ hk hc4) q_X5_isClaim v_X5_isClaim m_1180 (hk.s c_98) rfl rfl (by decide) (Nat.le_of_ble_eq_true rfl) rfl (by decide +kernel) (fun s7 ν5 hq6 hp => ?_)
  obtain ⟨rfl, rfl⟩ := hp
  have hρ3 : μ2.2.2 = ρ := hq6.trans hρ
  refine j_if_eq F (pc := 5) (off := 10) (tgt := 15) (by decide +kernel) (by decide) (fun c => ?_) (fun c => ?_)
  · rw [if_pos c] at h
    refine j_sipush F (pc := 15) (n := -1001) (v := -1001) (by decide +kernel) (by decide +kernel) ?_
    exact j_iret (st := []) F Rt rfl (by decide +kernel) ⟨hρ3, _, rfl, (congrArg Prod.fst (Option.some.inj h)).symm, (congrArg Prod.snd (Option.some.inj h)).symm⟩
  · rw [if_neg c] at h
    refine j_iload_n F (pc := 8) (q := 2) (by decide +kernel) rfl ?_
    obtain ⟨r8, μ9, hc11, h⟩ := z_b2_some h
    refine j_callSi F (pc := 9) (idx := 277) (As := [.int x2]) (st := []) (t_X5_isHolder (G := E.1) hρ3  hc11) q_X5_isHolder m_1169 m_1168 rfl (by decide) (Nat.le_of_ble_eq_true rfl) rfl (by decide +kernel) (fun s14 ν12 hq13 hp => ?_)
    obtain ⟨rfl, rfl⟩ := hp
    have hρ10 : μ9.2.2 = ρ := hq13.trans hρ3
    refine j_if_ne F (pc := 12) (off := 7) (tgt := 19) (by decide +kernel) (by decide) (fun c => ?_) (fun c => ?_)
    · rw [if_neg c] at h
      refine j_aload_n F (pc := 19) (q := 0) (by decide +kernel) rfl ?_
      refine j_getR F (pc := 20) (hk.r hρ10 r_98_29) fl_X5_69 (hk.s c_98) rfl (by decide +kernel) ?_
      refine j_iload_n F (pc := 23) (q := 1) (by decide +kernel) rfl ?_
      obtain ⟨hg, h⟩ := z_ifs h
      refine j_iald F (pc := 24) (hk.s c_117) hg (by decide +kernel) ?_
      obtain ⟨x_15, e16, h⟩ := z_lt_some h
      rw [← e16]
      refine j_istore_n F (pc := 25) (q := 3) (L' := [some (.ref 98), some (.int x1), some (.int x2), some (.int x_15)]) (by decide +kernel) (by decide) rfl rfl ?_
      refine j_aload_n F (pc := 26) (q := 0) (by decide +kernel) rfl ?_
      refine j_getR F (pc := 27) (hk.r hρ10 r_98_29) fl_X5_69 (hk.s c_98) rfl (by decide +kernel) ?_
      refine j_iload_n F (pc := 30) (q := 1) (by decide +kernel) rfl ?_
      refine j_iload_n F (pc := 31) (q := 2) (by decide +kernel) rfl ?_
      obtain ⟨hg, h⟩ := z_ifs h
      refine j_iast F (pc := 32) (hk.s c_117) hg (by decide +kernel) ?_
      obtain ⟨μ17, e19, h⟩ := z_st_some h
      rw [← e19]
      have hρ18 : μ17.2.2 = ρ := by rw [e19]; exact hρ10
      refine j_iload_n F (pc := 33) (q := 3) (by decide +kernel) rfl ?_
      exact j_iret (st := []) F Rt rfl (by decide +kernel) ⟨hρ18, _, rfl, (congrArg Prod.fst (Option.some.inj h)).symm, (congrArg Prod.snd (Option.some.inj h)).symm⟩
    · rw [if_pos c] at h
      refine j_sipush F (pc := 15) (n := -1001) (v := -1001) (by decide +kernel) (by decide +kernel) ?_
      exact j_iret (st := []) F Rt rfl (by decide +kernel) ⟨hρ10, _, rfl, (congrArg Prod.fst (Option.some.inj h)).symm, (congrArg Prod.snd (Option.some.inj h)).symm⟩
def g_X5_voyageOf_4   : Nat → Int32 → Int32 → Int32 → z_M → Option (Int32 × z_M)
  | 0, _, _, _, _ => none
  | n + 1, x1, x2, x3, μ => (if (μ.1 98 24) ≤ x3 then (some (x2, μ)) else (if z_in x3 7 then (if z_in x1 15 then (z_lt (if (μ.1 118 x1.toNatClampNeg) < (μ.1 114 x3.toNatClampNeg) then x2 else x3) fun x_1 => (g_X5_voyageOf_4   n (x1) (x_1) ((x3 + (1 : Int32))) μ)) else none) else none))
def f_X5_voyageOf (x1 : Int32) (μ : z_M) : Option (Int32 × z_M) :=
  (g_X5_voyageOf_4   z_N (x1) ((-1 : Int32)) ((0 : Int32)) μ)
set_option maxHeartbeats 4000000 in
set_option maxRecDepth 100000 in
theorem u_X5_voyageOf_4 {E : z_E} {ρ : Nat → Nat → Option Nat} {r : Int32} {μr : z_M} (F : z_F E RX5 cX5_voyageOf 4 0) (Rt : z_R E (some .int) (fun v μ1 => μ1.2.2 = ρ ∧ ∃ r1, v = some (.int r1) ∧ r = r1 ∧ μr = μ1))  (hk : z_ok (z_sh E.1) ρ) : ∀ (n : Nat) (x1 : Int32) (x2 : Int32) (x3 : Int32) (μ : z_M), μ.2.2 = ρ → g_X5_voyageOf_4   n x1 x2 x3 μ = some (r, μr) → z_J E 4 4 [some (.ref 98), some (.int x1), some (.int x2), some (.int x3)] [] μ := by
  intro n
  induction n with
  | zero =>
    intro x1 x2 x3 μ hρ h
    rw [g_X5_voyageOf_4] at h
    cases h
  | succ n ih =>
    intro x1 x2 x3 μ hρ h
    rw [g_X5_voyageOf_4] at h
    refine j_iload_n F (pc := 4) (q := 3) (by decide +kernel) rfl ?_
    refine j_aload_n F (pc := 5) (q := 0) (by decide +kernel) rfl ?_
    refine j_getI F (pc := 6) fl_X5_274 (hk.s c_98) rfl (by decide +kernel) ?_
    refine j_icmp_ge F (pc := 9) (off := 30) (tgt := 39) (by decide +kernel) (by decide) (fun c => ?_) (fun c => ?_)
    · rw [if_pos c] at h
      refine j_iload_n F (pc := 39) (q := 2) (by decide +kernel) rfl ?_
      exact j_iret (st := []) F Rt rfl (by decide +kernel) ⟨hρ, _, rfl, (congrArg Prod.fst (Option.some.inj h)).symm, (congrArg Prod.snd (Option.some.inj h)).symm⟩
    · rw [if_neg c] at h
      refine j_aload_n F (pc := 12) (q := 0) (by decide +kernel) rfl ?_
      refine j_getR F (pc := 13) (hk.r hρ r_98_25) fl_X5_60 (hk.s c_98) rfl (by decide +kernel) ?_
      refine j_iload_n F (pc := 16) (q := 3) (by decide +kernel) rfl ?_
      obtain ⟨hg, h⟩ := z_ifs h
      refine j_iald F (pc := 17) (hk.s c_114) hg (by decide +kernel) ?_
      refine j_aload_n F (pc := 18) (q := 0) (by decide +kernel) rfl ?_
      refine j_getR F (pc := 19) (hk.r hρ r_98_30) fl_X5_72 (hk.s c_98) rfl (by decide +kernel) ?_
      refine j_iload_n F (pc := 22) (q := 1) (by decide +kernel) rfl ?_
      obtain ⟨hg, h⟩ := z_ifs h
      refine j_iald F (pc := 23) (hk.s c_118) hg (by decide +kernel) ?_
      suffices hj : z_J E 4 32 [some (.ref 98), some (.int x1), some (.int x2), some (.int x3)] (.int (if (μ.1 118 x1.toNatClampNeg) < (μ.1 114 x3.toNatClampNeg) then x2 else x3) :: []) μ by
        refine j_icmp_gt F (pc := 24) (off := 7) (tgt := 31) (by decide +kernel) (by decide) (fun c0 => ?_) (fun c0 => ?_)
        · rw [if_pos c0] at hj
          refine j_iload_n F (pc := 31) (q := 2) (by decide +kernel) rfl ?_
          exact hj
        · rw [if_neg c0] at hj
          refine j_iload_n F (pc := 27) (q := 3) (by decide +kernel) rfl ?_
          refine j_goto F (pc := 28) (off := 4) (tgt := 32) (by decide +kernel) (by decide) ?_
          exact hj
      obtain ⟨x_1, e2, h⟩ := z_lt_some h
      rw [← e2]
      refine j_istore_n F (pc := 32) (q := 2) (L' := [some (.ref 98), some (.int x1), some (.int x_1), some (.int x3)]) (by decide +kernel) (by decide) rfl rfl ?_
      refine j_iinc F (pc := 33) (i := 3) (n := 1) (v := 1) (L' := [some (.ref 98), some (.int x1), some (.int x_1), some (.int (x3 + (1 : Int32)))]) (by decide +kernel) rfl (by decide +kernel) (by decide) rfl rfl ?_
      refine j_goto F (pc := 36) (off := -32) (tgt := 4) (by decide +kernel) (by decide) ?_
      exact ih _ _ _ _ hρ h
set_option maxHeartbeats 4000000 in
set_option maxRecDepth 100000 in
theorem t_X5_voyageOf {G : z_Gl} {ρ : Nat → Nat → Option Nat} {μ : z_M} {r : Int32} {μr : z_M} {x1 : Int32} (hρ : μ.2.2 = ρ) (hk : z_ok (z_sh G) ρ) (h : f_X5_voyageOf x1 μ = some (r, μr)) : z_Ci G yX5_voyageOf cX5_voyageOf 4 (some .int) 0 [.ref 98, .int x1] μ (fun r1 μ1 => r = r1 ∧ μr = μ1) := by
  unfold z_Ci
  refine z_intro (by decide +kernel) (Nat.le_of_ble_eq_true rfl) (fun E hE F Rt => ?_)
  subst hE
  have F : z_F E RX5 cX5_voyageOf 4 0 := F
  rw [hρ] at Rt
  unfold f_X5_voyageOf at h
  show z_J E 4 0 [some (.ref 98), some (.int x1), none, none] [] μ
  refine j_iconst F (pc := 0) (n := -1) (v := -1) (by decide +kernel) (by decide +kernel) ?_
  refine j_istore_n F (pc := 1) (q := 2) (L' := [some (.ref 98), some (.int x1), some (.int (-1 : Int32)), none]) (by decide +kernel) (by decide) rfl rfl ?_
  refine j_iconst F (pc := 2) (n := 0) (v := 0) (by decide +kernel) (by decide +kernel) ?_
  refine j_istore_n F (pc := 3) (q := 3) (L' := [some (.ref 98), some (.int x1), some (.int (-1 : Int32)), some (.int (0 : Int32))]) (by decide +kernel) (by decide) rfl rfl ?_
  refine u_X5_voyageOf_4 F Rt hk  z_N _ _ _ _ hρ h
/-- LastLentModel.told -/
def f_X5_told (x1 : Int32) (x2 : Int32) (μ : z_M) : Option (Int32 × z_M) :=
  (z_b2 (f_X5_isClaim (x1) μ) fun r1 μ2 => (if r1 = 0 then (some ((-1001 : Int32), μ2)) else (if x2 = 0 then (if z_in x1 15 then (some ((μ2.1 116 x1.toNatClampNeg), μ2)) else none) else (if x2 = 1 then (if z_in x1 15 then (some ((μ2.1 117 x1.toNatClampNeg), μ2)) else none) else (if x2 = 2 then (if z_in x1 15 then (some ((μ2.1 118 x1.toNatClampNeg), μ2)) else none) else (if x2 = 3 then (if z_in x1 15 then (some ((μ2.1 119 x1.toNatClampNeg), μ2)) else none) else (if x2 = 4 then (if z_in x1 15 then (some ((if (μ2.1 120 x1.toNatClampNeg) = 0 then (0 : Int32) else (1 : Int32)), μ2)) else none) else (if x2 = 5 then (if z_in x1 15 then (some ((μ2.1 121 x1.toNatClampNeg), μ2)) else none) else (if x2 = 6 then (if z_in x1 15 then (some ((μ2.1 122 x1.toNatClampNeg), μ2)) else none) else (if x2 = 7 then (z_b2 (f_X5_voyageOf (x1) μ2) fun r8 μ9 => (some (r8, μ9))) else (some ((-1002 : Int32), μ2))))))))))))
set_option maxHeartbeats 4000000 in
set_option maxRecDepth 100000 in
theorem t_X5_told {G : z_Gl} {ρ : Nat → Nat → Option Nat} {μ : z_M} {r : Int32} {μr : z_M} {x1 : Int32} {x2 : Int32} (hρ : μ.2.2 = ρ) (hk : z_ok (z_sh G) ρ) (h : f_X5_told x1 x2 μ = some (r, μr)) : z_Ci G yX5_told cX5_told 3 (some .int) 2 [.ref 98, .int x1, .int x2] μ (fun r1 μ1 => r = r1 ∧ μr = μ1) := by
  unfold z_Ci
  refine z_intro (by decide +kernel) (Nat.le_of_ble_eq_true rfl) (fun E hE F Rt => ?_)
  subst hE
  have F : z_F E RX5 cX5_told 3 2 := F
  rw [hρ] at Rt
  unfold f_X5_told at h
  show z_J E 3 0 [some (.ref 98), some (.int x1), some (.int x2)] [] μ
  refine j_aload_n F (pc := 0) (q := 0) (by decide +kernel) rfl ?_
  refine j_iload_n F (pc := 1) (q := 1) (by decide +kernel) rfl ?_
  obtain ⟨r1, μ2, hc4, h⟩ := z_b2_some h
  refine j_callVi F (pc := 2) (idx := 284) (As := [.int x1]) (st := []) (t_X5_isClaim (G := E.1) hρ hk hc4) q_X5_isClaim v_X5_isClaim m_1180 (hk.s c_98) rfl rfl (by decide) (Nat.le_of_ble_eq_true rfl) rfl (by decide +kernel) (fun s7 ν5 hq6 hp => ?_)
  obtain ⟨rfl, rfl⟩ := hp
  have hρ3 : μ2.2.2 = ρ := hq6.trans hρ
  refine j_if_ne F (pc := 5) (off := 7) (tgt := 12) (by decide +kernel) (by decide) (fun c => ?_) (fun c => ?_)
  · rw [if_neg c] at h
    refine j_iload_n F (pc := 12) (q := 2) (by decide +kernel) rfl ?_
    by_cases c0 : x2 = 0
    · rw [if_pos c0] at h
      refine j_tableIn F (pc := 13) (dflt := 110) (lo := 0) (hi := 7) (offs := #[47, 54, 61, 68, 75, 90, 97, 104]) (len := 47) (off := 47) (tgt := 60) (by decide +kernel) (by rw [c0]; decide) (by rw [c0]; decide) (by rw [c0]; decide +kernel) (by decide) ?_
      refine j_aload_n F (pc := 60) (q := 0) (by decide +kernel) rfl ?_
      refine j_getR F (pc := 61) (hk.r hρ3 r_98_28) fl_X5_66 (hk.s c_98) rfl (by decide +kernel) ?_
      refine j_iload_n F (pc := 64) (q := 1) (by decide +kernel) rfl ?_
      obtain ⟨hg, h⟩ := z_ifs h
      refine j_iald F (pc := 65) (hk.s c_116) hg (by decide +kernel) ?_
      exact j_iret (st := []) F Rt rfl (by decide +kernel) ⟨hρ3, _, rfl, (congrArg Prod.fst (Option.some.inj h)).symm, (congrArg Prod.snd (Option.some.inj h)).symm⟩
    rw [if_neg c0] at h
    by_cases c1 : x2 = 1
    · rw [if_pos c1] at h
      refine j_tableIn F (pc := 13) (dflt := 110) (lo := 0) (hi := 7) (offs := #[47, 54, 61, 68, 75, 90, 97, 104]) (len := 47) (off := 54) (tgt := 67) (by decide +kernel) (by rw [c1]; decide) (by rw [c1]; decide) (by rw [c1]; decide +kernel) (by decide) ?_
      refine j_aload_n F (pc := 67) (q := 0) (by decide +kernel) rfl ?_
      refine j_getR F (pc := 68) (hk.r hρ3 r_98_29) fl_X5_69 (hk.s c_98) rfl (by decide +kernel) ?_
      refine j_iload_n F (pc := 71) (q := 1) (by decide +kernel) rfl ?_
      obtain ⟨hg, h⟩ := z_ifs h
      refine j_iald F (pc := 72) (hk.s c_117) hg (by decide +kernel) ?_
      exact j_iret (st := []) F Rt rfl (by decide +kernel) ⟨hρ3, _, rfl, (congrArg Prod.fst (Option.some.inj h)).symm, (congrArg Prod.snd (Option.some.inj h)).symm⟩
    rw [if_neg c1] at h
    by_cases c2 : x2 = 2
    · rw [if_pos c2] at h
      refine j_tableIn F (pc := 13) (dflt := 110) (lo := 0) (hi := 7) (offs := #[47, 54, 61, 68, 75, 90, 97, 104]) (len := 47) (off := 61) (tgt := 74) (by decide +kernel) (by rw [c2]; decide) (by rw [c2]; decide) (by rw [c2]; decide +kernel) (by decide) ?_
      refine j_aload_n F (pc := 74) (q := 0) (by decide +kernel) rfl ?_
      refine j_getR F (pc := 75) (hk.r hρ3 r_98_30) fl_X5_72 (hk.s c_98) rfl (by decide +kernel) ?_
      refine j_iload_n F (pc := 78) (q := 1) (by decide +kernel) rfl ?_
      obtain ⟨hg, h⟩ := z_ifs h
      refine j_iald F (pc := 79) (hk.s c_118) hg (by decide +kernel) ?_
      exact j_iret (st := []) F Rt rfl (by decide +kernel) ⟨hρ3, _, rfl, (congrArg Prod.fst (Option.some.inj h)).symm, (congrArg Prod.snd (Option.some.inj h)).symm⟩
    rw [if_neg c2] at h
    by_cases c3 : x2 = 3
    · rw [if_pos c3] at h
      refine j_tableIn F (pc := 13) (dflt := 110) (lo := 0) (hi := 7) (offs := #[47, 54, 61, 68, 75, 90, 97, 104]) (len := 47) (off := 68) (tgt := 81) (by decide +kernel) (by rw [c3]; decide) (by rw [c3]; decide) (by rw [c3]; decide +kernel) (by decide) ?_
      refine j_aload_n F (pc := 81) (q := 0) (by decide +kernel) rfl ?_
      refine j_getR F (pc := 82) (hk.r hρ3 r_98_31) fl_X5_75 (hk.s c_98) rfl (by decide +kernel) ?_
      refine j_iload_n F (pc := 85) (q := 1) (by decide +kernel) rfl ?_
      obtain ⟨hg, h⟩ := z_ifs h
      refine j_iald F (pc := 86) (hk.s c_119) hg (by decide +kernel) ?_
      exact j_iret (st := []) F Rt rfl (by decide +kernel) ⟨hρ3, _, rfl, (congrArg Prod.fst (Option.some.inj h)).symm, (congrArg Prod.snd (Option.some.inj h)).symm⟩
    rw [if_neg c3] at h
    by_cases c4 : x2 = 4
    · rw [if_pos c4] at h
      refine j_tableIn F (pc := 13) (dflt := 110) (lo := 0) (hi := 7) (offs := #[47, 54, 61, 68, 75, 90, 97, 104]) (len := 47) (off := 75) (tgt := 88) (by decide +kernel) (by rw [c4]; decide) (by rw [c4]; decide) (by rw [c4]; decide +kernel) (by decide) ?_
      refine j_aload_n F (pc := 88) (q := 0) (by decide +kernel) rfl ?_
      refine j_getR F (pc := 89) (hk.r hρ3 r_98_32) fl_X5_78 (hk.s c_98) rfl (by decide +kernel) ?_
      refine j_iload_n F (pc := 92) (q := 1) (by decide +kernel) rfl ?_
      obtain ⟨hg, h⟩ := z_ifs h
      refine j_zald F (pc := 93) (hk.s c_120) hg (by decide +kernel) ?_
      suffices hj : z_J E 3 102 [some (.ref 98), some (.int x1), some (.int x2)] (.int (if (μ2.1 120 x1.toNatClampNeg) = 0 then (0 : Int32) else (1 : Int32)) :: []) μ2 by
        refine j_if_eq F (pc := 94) (off := 7) (tgt := 101) (by decide +kernel) (by decide) (fun c0 => ?_) (fun c0 => ?_)
        · rw [if_pos c0] at hj
          refine j_iconst F (pc := 101) (n := 0) (v := 0) (by decide +kernel) (by decide +kernel) ?_
          exact hj
        · rw [if_neg c0] at hj
          refine j_iconst F (pc := 97) (n := 1) (v := 1) (by decide +kernel) (by decide +kernel) ?_
          refine j_goto F (pc := 98) (off := 4) (tgt := 102) (by decide +kernel) (by decide) ?_
          exact hj
      exact j_iret (st := []) F Rt rfl (by decide +kernel) ⟨hρ3, _, rfl, (congrArg Prod.fst (Option.some.inj h)).symm, (congrArg Prod.snd (Option.some.inj h)).symm⟩
    rw [if_neg c4] at h
    by_cases c5 : x2 = 5
    · rw [if_pos c5] at h
      refine j_tableIn F (pc := 13) (dflt := 110) (lo := 0) (hi := 7) (offs := #[47, 54, 61, 68, 75, 90, 97, 104]) (len := 47) (off := 90) (tgt := 103) (by decide +kernel) (by rw [c5]; decide) (by rw [c5]; decide) (by rw [c5]; decide +kernel) (by decide) ?_
      refine j_aload_n F (pc := 103) (q := 0) (by decide +kernel) rfl ?_
      refine j_getR F (pc := 104) (hk.r hρ3 r_98_33) fl_X5_81 (hk.s c_98) rfl (by decide +kernel) ?_
      refine j_iload_n F (pc := 107) (q := 1) (by decide +kernel) rfl ?_
      obtain ⟨hg, h⟩ := z_ifs h
      refine j_iald F (pc := 108) (hk.s c_121) hg (by decide +kernel) ?_
      exact j_iret (st := []) F Rt rfl (by decide +kernel) ⟨hρ3, _, rfl, (congrArg Prod.fst (Option.some.inj h)).symm, (congrArg Prod.snd (Option.some.inj h)).symm⟩
    rw [if_neg c5] at h
    by_cases c6 : x2 = 6
    · rw [if_pos c6] at h
      refine j_tableIn F (pc := 13) (dflt := 110) (lo := 0) (hi := 7) (offs := #[47, 54, 61, 68, 75, 90, 97, 104]) (len := 47) (off := 97) (tgt := 110) (by decide +kernel) (by rw [c6]; decide) (by rw [c6]; decide) (by rw [c6]; decide +kernel) (by decide) ?_
      refine j_aload_n F (pc := 110) (q := 0) (by decide +kernel) rfl ?_
      refine j_getR F (pc := 111) (hk.r hρ3 r_98_34) fl_X5_84 (hk.s c_98) rfl (by decide +kernel) ?_
      refine j_iload_n F (pc := 114) (q := 1) (by decide +kernel) rfl ?_
      obtain ⟨hg, h⟩ := z_ifs h
      refine j_iald F (pc := 115) (hk.s c_122) hg (by decide +kernel) ?_
      exact j_iret (st := []) F Rt rfl (by decide +kernel) ⟨hρ3, _, rfl, (congrArg Prod.fst (Option.some.inj h)).symm, (congrArg Prod.snd (Option.some.inj h)).symm⟩
    rw [if_neg c6] at h
    by_cases c7 : x2 = 7
    · rw [if_pos c7] at h
      refine j_tableIn F (pc := 13) (dflt := 110) (lo := 0) (hi := 7) (offs := #[47, 54, 61, 68, 75, 90, 97, 104]) (len := 47) (off := 104) (tgt := 117) (by decide +kernel) (by rw [c7]; decide) (by rw [c7]; decide) (by rw [c7]; decide +kernel) (by decide) ?_
      refine j_aload_n F (pc := 117) (q := 0) (by decide +kernel) rfl ?_
      refine j_iload_n F (pc := 118) (q := 1) (by decide +kernel) rfl ?_
      obtain ⟨r8, μ9, hc11, h⟩ := z_b2_some h
      refine j_callVi F (pc := 119) (idx := 299) (As := [.int x1]) (st := []) (t_X5_voyageOf (G := E.1) hρ3 hk hc11) q_X5_voyageOf v_X5_voyageOf m_1209 (hk.s c_98) rfl rfl (by decide) (Nat.le_of_ble_eq_true rfl) rfl (by decide +kernel) (fun s14 ν12 hq13 hp => ?_)
      obtain ⟨rfl, rfl⟩ := hp
      have hρ10 : μ9.2.2 = ρ := hq13.trans hρ3
      exact j_iret (st := []) F Rt rfl (by decide +kernel) ⟨hρ10, _, rfl, (congrArg Prod.fst (Option.some.inj h)).symm, (congrArg Prod.snd (Option.some.inj h)).symm⟩
    rw [if_neg c7] at h
    refine j_tableOut F (pc := 13) (dflt := 110) (lo := 0) (hi := 7) (offs := #[47, 54, 61, 68, 75, 90, 97, 104]) (len := 47) (tgt := 123) (by decide +kernel) (by have d0 := lv_neT (k := 0) (a := 0) c0 (by decide); have d1 := lv_neT (k := 1) (a := 1) c1 (by decide); have d2 := lv_neT (k := 2) (a := 2) c2 (by decide); have d3 := lv_neT (k := 3) (a := 3) c3 (by decide); have d4 := lv_neT (k := 4) (a := 4) c4 (by decide); have d5 := lv_neT (k := 5) (a := 5) c5 (by decide); have d6 := lv_neT (k := 6) (a := 6) c6 (by decide); have d7 := lv_neT (k := 7) (a := 7) c7 (by decide); omega) (by decide) ?_
    refine j_sipush F (pc := 123) (n := -1002) (v := -1002) (by decide +kernel) (by decide +kernel) ?_
    exact j_iret (st := []) F Rt rfl (by decide +kernel) ⟨hρ3, _, rfl, (congrArg Prod.fst (Option.some.inj h)).symm, (congrArg Prod.snd (Option.some.inj h)).symm⟩
  · rw [if_pos c] at h
    refine j_sipush F (pc := 8) (n := -1001) (v := -1001) (by decide +kernel) (by decide +kernel) ?_
    exact j_iret (st := []) F Rt rfl (by decide +kernel) ⟨hρ3, _, rfl, (congrArg Prod.fst (Option.some.inj h)).symm, (congrArg Prod.snd (Option.some.inj h)).symm⟩
def g_X5_count_35   : Nat → Int32 → Int32 → Int32 → Int32 → z_M → Option (Int32 × z_M)
  | 0, _, _, _, _, _ => none
  | n + 1, x1, x2, x3, x4, μ => (if (5 : Int32) ≤ x4 then (if x1 = 0 then (some ((μ.1 98 24), μ)) else (if x1 = 1 then (some ((μ.1 98 27), μ)) else (if x1 = 2 then (some ((μ.1 98 13), μ)) else (if x1 = 3 then (some (x2, μ)) else (if x1 = 4 then (some (x3, μ)) else (some ((-1002 : Int32), μ))))))) else (if z_in x4 5 then (z_lt (x3 + (μ.1 124 x4.toNatClampNeg)) fun x_1 => (g_X5_count_35   n (x1) (x2) (x_1) ((x4 + (1 : Int32))) μ)) else none))
def g_X5_count_7   : Nat → Int32 → Int32 → Int32 → Int32 → z_M → Option (Int32 × z_M)
  | 0, _, _, _, _, _ => none
  | n + 1, x1, x2, x3, x4, μ => (if (μ.1 98 27) ≤ x4 then (g_X5_count_35   z_N (x1) (x2) (x3) ((0 : Int32)) μ) else (if z_in x4 15 then (z_lt (x2 + (μ.1 119 x4.toNatClampNeg)) fun x_3 => (g_X5_count_7   n (x1) (x_3) (x3) ((x4 + (1 : Int32))) μ)) else none))
def f_X5_count (x1 : Int32) (μ : z_M) : Option (Int32 × z_M) :=
  (g_X5_count_7   z_N (x1) ((0 : Int32)) ((0 : Int32)) ((0 : Int32)) μ)
set_option maxHeartbeats 4000000 in
set_option maxRecDepth 100000 in
theorem u_X5_count_35 {E : z_E} {ρ : Nat → Nat → Option Nat} {r : Int32} {μr : z_M} (F : z_F E RX5 cX5_count 5 0) (Rt : z_R E (some .int) (fun v μ1 => μ1.2.2 = ρ ∧ ∃ r1, v = some (.int r1) ∧ r = r1 ∧ μr = μ1))  (hk : z_ok (z_sh E.1) ρ) : ∀ (n : Nat) (x1 : Int32) (x2 : Int32) (x3 : Int32) (x4 : Int32) (μ : z_M), μ.2.2 = ρ → g_X5_count_35   n x1 x2 x3 x4 μ = some (r, μr) → z_J E 5 35 [some (.ref 98), some (.int x1), some (.int x2), some (.int x3), some (.int x4)] [] μ := by
  intro n
  induction n with
  | zero =>
    intro x1 x2 x3 x4 μ hρ h
    rw [g_X5_count_35] at h
    cases h
  | succ n ih =>
    intro x1 x2 x3 x4 μ hρ h
    rw [g_X5_count_35] at h
    refine j_iload F (pc := 35) (i := 4) (by decide +kernel) rfl ?_
    refine j_iconst F (pc := 37) (n := 5) (v := 5) (by decide +kernel) (by decide +kernel) ?_
    refine j_icmp_ge F (pc := 38) (off := 19) (tgt := 57) (by decide +kernel) (by decide) (fun c => ?_) (fun c => ?_)
    · rw [if_pos c] at h
      refine j_iload_n F (pc := 57) (q := 1) (by decide +kernel) rfl ?_
      by_cases c0 : x1 = 0
      · rw [if_pos c0] at h
        refine j_tableIn F (pc := 58) (dflt := 53) (lo := 0) (hi := 4) (offs := #[34, 39, 44, 49, 51]) (len := 34) (off := 34) (tgt := 92) (by decide +kernel) (by rw [c0]; decide) (by rw [c0]; decide) (by rw [c0]; decide +kernel) (by decide) ?_
        refine j_aload_n F (pc := 92) (q := 0) (by decide +kernel) rfl ?_
        refine j_getI F (pc := 93) fl_X5_274 (hk.s c_98) rfl (by decide +kernel) ?_
        exact j_iret (st := []) F Rt rfl (by decide +kernel) ⟨hρ, _, rfl, (congrArg Prod.fst (Option.some.inj h)).symm, (congrArg Prod.snd (Option.some.inj h)).symm⟩
      rw [if_neg c0] at h
      by_cases c1 : x1 = 1
      · rw [if_pos c1] at h
        refine j_tableIn F (pc := 58) (dflt := 53) (lo := 0) (hi := 4) (offs := #[34, 39, 44, 49, 51]) (len := 34) (off := 39) (tgt := 97) (by decide +kernel) (by rw [c1]; decide) (by rw [c1]; decide) (by rw [c1]; decide +kernel) (by decide) ?_
        refine j_aload_n F (pc := 97) (q := 0) (by decide +kernel) rfl ?_
        refine j_getI F (pc := 98) fl_X5_268 (hk.s c_98) rfl (by decide +kernel) ?_
        exact j_iret (st := []) F Rt rfl (by decide +kernel) ⟨hρ, _, rfl, (congrArg Prod.fst (Option.some.inj h)).symm, (congrArg Prod.snd (Option.some.inj h)).symm⟩
      rw [if_neg c1] at h
      by_cases c2 : x1 = 2
      · rw [if_pos c2] at h
        refine j_tableIn F (pc := 58) (dflt := 53) (lo := 0) (hi := 4) (offs := #[34, 39, 44, 49, 51]) (len := 34) (off := 44) (tgt := 102) (by decide +kernel) (by rw [c2]; decide) (by rw [c2]; decide) (by rw [c2]; decide +kernel) (by decide) ?_
        refine j_aload_n F (pc := 102) (q := 0) (by decide +kernel) rfl ?_
        refine j_getI F (pc := 103) fl_X5_153 (hk.s c_98) rfl (by decide +kernel) ?_
        exact j_iret (st := []) F Rt rfl (by decide +kernel) ⟨hρ, _, rfl, (congrArg Prod.fst (Option.some.inj h)).symm, (congrArg Prod.snd (Option.some.inj h)).symm⟩
      rw [if_neg c2] at h
      by_cases c3 : x1 = 3
      · rw [if_pos c3] at h
        refine j_tableIn F (pc := 58) (dflt := 53) (lo := 0) (hi := 4) (offs := #[34, 39, 44, 49, 51]) (len := 34) (off := 49) (tgt := 107) (by decide +kernel) (by rw [c3]; decide) (by rw [c3]; decide) (by rw [c3]; decide +kernel) (by decide) ?_
        refine j_iload_n F (pc := 107) (q := 2) (by decide +kernel) rfl ?_
        exact j_iret (st := []) F Rt rfl (by decide +kernel) ⟨hρ, _, rfl, (congrArg Prod.fst (Option.some.inj h)).symm, (congrArg Prod.snd (Option.some.inj h)).symm⟩
      rw [if_neg c3] at h
      by_cases c4 : x1 = 4
      · rw [if_pos c4] at h
        refine j_tableIn F (pc := 58) (dflt := 53) (lo := 0) (hi := 4) (offs := #[34, 39, 44, 49, 51]) (len := 34) (off := 51) (tgt := 109) (by decide +kernel) (by rw [c4]; decide) (by rw [c4]; decide) (by rw [c4]; decide +kernel) (by decide) ?_
        refine j_iload_n F (pc := 109) (q := 3) (by decide +kernel) rfl ?_
        exact j_iret (st := []) F Rt rfl (by decide +kernel) ⟨hρ, _, rfl, (congrArg Prod.fst (Option.some.inj h)).symm, (congrArg Prod.snd (Option.some.inj h)).symm⟩
      rw [if_neg c4] at h
      refine j_tableOut F (pc := 58) (dflt := 53) (lo := 0) (hi := 4) (offs := #[34, 39, 44, 49, 51]) (len := 34) (tgt := 111) (by decide +kernel) (by have d0 := lv_neT (k := 0) (a := 0) c0 (by decide); have d1 := lv_neT (k := 1) (a := 1) c1 (by decide); have d2 := lv_neT (k := 2) (a := 2) c2 (by decide); have d3 := lv_neT (k := 3) (a := 3) c3 (by decide); have d4 := lv_neT (k := 4) (a := 4) c4 (by decide); omega) (by decide) ?_
      refine j_sipush F (pc := 111) (n := -1002) (v := -1002) (by decide +kernel) (by decide +kernel) ?_
      exact j_iret (st := []) F Rt rfl (by decide +kernel) ⟨hρ, _, rfl, (congrArg Prod.fst (Option.some.inj h)).symm, (congrArg Prod.snd (Option.some.inj h)).symm⟩
    · rw [if_neg c] at h
      refine j_iload_n F (pc := 41) (q := 3) (by decide +kernel) rfl ?_
      refine j_aload_n F (pc := 42) (q := 0) (by decide +kernel) rfl ?_
      refine j_getR F (pc := 43) (hk.r hρ r_98_36) fl_X5_90 (hk.s c_98) rfl (by decide +kernel) ?_
      refine j_iload F (pc := 46) (i := 4) (by decide +kernel) rfl ?_
      obtain ⟨hg, h⟩ := z_ifs h
      refine j_iald F (pc := 48) (hk.s c_124) hg (by decide +kernel) ?_
      refine j_iadd F (pc := 49) (by decide +kernel) ?_
      obtain ⟨x_1, e2, h⟩ := z_lt_some h
      rw [← e2]
      refine j_istore_n F (pc := 50) (q := 3) (L' := [some (.ref 98), some (.int x1), some (.int x2), some (.int x_1), some (.int x4)]) (by decide +kernel) (by decide) rfl rfl ?_
      refine j_iinc F (pc := 51) (i := 4) (n := 1) (v := 1) (L' := [some (.ref 98), some (.int x1), some (.int x2), some (.int x_1), some (.int (x4 + (1 : Int32)))]) (by decide +kernel) rfl (by decide +kernel) (by decide) rfl rfl ?_
      refine j_goto F (pc := 54) (off := -19) (tgt := 35) (by decide +kernel) (by decide) ?_
      exact ih _ _ _ _ _ hρ h
set_option maxHeartbeats 4000000 in
set_option maxRecDepth 100000 in
theorem u_X5_count_7 {E : z_E} {ρ : Nat → Nat → Option Nat} {r : Int32} {μr : z_M} (F : z_F E RX5 cX5_count 5 0) (Rt : z_R E (some .int) (fun v μ1 => μ1.2.2 = ρ ∧ ∃ r1, v = some (.int r1) ∧ r = r1 ∧ μr = μ1))  (hk : z_ok (z_sh E.1) ρ) : ∀ (n : Nat) (x1 : Int32) (x2 : Int32) (x3 : Int32) (x4 : Int32) (μ : z_M), μ.2.2 = ρ → g_X5_count_7   n x1 x2 x3 x4 μ = some (r, μr) → z_J E 5 7 [some (.ref 98), some (.int x1), some (.int x2), some (.int x3), some (.int x4)] [] μ := by
  intro n
  induction n with
  | zero =>
    intro x1 x2 x3 x4 μ hρ h
    rw [g_X5_count_7] at h
    cases h
  | succ n ih =>
    intro x1 x2 x3 x4 μ hρ h
    rw [g_X5_count_7] at h
    refine j_iload F (pc := 7) (i := 4) (by decide +kernel) rfl ?_
    refine j_aload_n F (pc := 9) (q := 0) (by decide +kernel) rfl ?_
    refine j_getI F (pc := 10) fl_X5_268 (hk.s c_98) rfl (by decide +kernel) ?_
    refine j_icmp_ge F (pc := 13) (off := 19) (tgt := 32) (by decide +kernel) (by decide) (fun c => ?_) (fun c => ?_)
    · rw [if_pos c] at h
      refine j_iconst F (pc := 32) (n := 0) (v := 0) (by decide +kernel) (by decide +kernel) ?_
      refine j_istore F (pc := 33) (i := 4) (L' := [some (.ref 98), some (.int x1), some (.int x2), some (.int x3), some (.int (0 : Int32))]) (by decide +kernel) (by decide) rfl rfl ?_
      refine u_X5_count_35 F Rt hk  z_N _ _ _ _ _ hρ h
    · rw [if_neg c] at h
      refine j_iload_n F (pc := 16) (q := 2) (by decide +kernel) rfl ?_
      refine j_aload_n F (pc := 17) (q := 0) (by decide +kernel) rfl ?_
      refine j_getR F (pc := 18) (hk.r hρ r_98_31) fl_X5_75 (hk.s c_98) rfl (by decide +kernel) ?_
      refine j_iload F (pc := 21) (i := 4) (by decide +kernel) rfl ?_
      obtain ⟨hg, h⟩ := z_ifs h
      refine j_iald F (pc := 23) (hk.s c_119) hg (by decide +kernel) ?_
      refine j_iadd F (pc := 24) (by decide +kernel) ?_
      obtain ⟨x_3, e4, h⟩ := z_lt_some h
      rw [← e4]
      refine j_istore_n F (pc := 25) (q := 2) (L' := [some (.ref 98), some (.int x1), some (.int x_3), some (.int x3), some (.int x4)]) (by decide +kernel) (by decide) rfl rfl ?_
      refine j_iinc F (pc := 26) (i := 4) (n := 1) (v := 1) (L' := [some (.ref 98), some (.int x1), some (.int x_3), some (.int x3), some (.int (x4 + (1 : Int32)))]) (by decide +kernel) rfl (by decide +kernel) (by decide) rfl rfl ?_
      refine j_goto F (pc := 29) (off := -22) (tgt := 7) (by decide +kernel) (by decide) ?_
      exact ih _ _ _ _ _ hρ h
set_option maxHeartbeats 4000000 in
set_option maxRecDepth 100000 in
theorem t_X5_count {G : z_Gl} {ρ : Nat → Nat → Option Nat} {μ : z_M} {r : Int32} {μr : z_M} {x1 : Int32} (hρ : μ.2.2 = ρ) (hk : z_ok (z_sh G) ρ) (h : f_X5_count x1 μ = some (r, μr)) : z_Ci G yX5_count cX5_count 5 (some .int) 0 [.ref 98, .int x1] μ (fun r1 μ1 => r = r1 ∧ μr = μ1) := by
  unfold z_Ci
  refine z_intro (by decide +kernel) (Nat.le_of_ble_eq_true rfl) (fun E hE F Rt => ?_)
  subst hE
  have F : z_F E RX5 cX5_count 5 0 := F
  rw [hρ] at Rt
  unfold f_X5_count at h
  show z_J E 5 0 [some (.ref 98), some (.int x1), none, none, none] [] μ
  refine j_iconst F (pc := 0) (n := 0) (v := 0) (by decide +kernel) (by decide +kernel) ?_
  refine j_istore_n F (pc := 1) (q := 2) (L' := [some (.ref 98), some (.int x1), some (.int (0 : Int32)), none, none]) (by decide +kernel) (by decide) rfl rfl ?_
  refine j_iconst F (pc := 2) (n := 0) (v := 0) (by decide +kernel) (by decide +kernel) ?_
  refine j_istore_n F (pc := 3) (q := 3) (L' := [some (.ref 98), some (.int x1), some (.int (0 : Int32)), some (.int (0 : Int32)), none]) (by decide +kernel) (by decide) rfl rfl ?_
  refine j_iconst F (pc := 4) (n := 0) (v := 0) (by decide +kernel) (by decide +kernel) ?_
  refine j_istore F (pc := 5) (i := 4) (L' := [some (.ref 98), some (.int x1), some (.int (0 : Int32)), some (.int (0 : Int32)), some (.int (0 : Int32))]) (by decide +kernel) (by decide) rfl rfl ?_
  refine u_X5_count_7 F Rt hk  z_N _ _ _ _ _ hρ h
