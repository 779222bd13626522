/-! functions and contracts, written by wip/whole/dec.py -/
def g_X1_kindsThatDie_4 (o0 : Nat)  : Nat → Int32 → Int32 → z_M → Option (Int32 × z_M)
  | 0, _, _, _ => none
  | n + 1, x1, x2, μ => (if (8 : Int32) ≤ x2 then (some (x1, μ)) else (if z_in x2 8 then (if (μ.1 (o0 + 2) x2.toNatClampNeg) = 0 then (g_X1_kindsThatDie_4 o0  n (x1) ((x2 + (1 : Int32))) μ) else (z_lt (x1 ||| ((1 : Int32) <<< (x2 &&& 31))) fun x_1 => (g_X1_kindsThatDie_4 o0  n (x_1) ((x2 + (1 : Int32))) μ))) else none))
def f_X1_kindsThatDie (o0 : Nat) (μ : z_M) : Option (Int32 × z_M) :=
  (g_X1_kindsThatDie_4 o0  z_N ((0 : Int32)) ((0 : Int32)) μ)
set_option maxHeartbeats 4000000 in
set_option maxRecDepth 100000 in
theorem u_X1_kindsThatDie_4 {E : z_E} {ρ : Nat → Nat → Option Nat} {r : Int32} {μr : z_M} (F : z_F E RX1 cX1_kindsThatDie 3 0) (Rt : z_R E (some .int) (fun v μ1 => μ1.2.2 = ρ ∧ ∃ r1, v = some (.int r1) ∧ r = r1 ∧ μr = μ1)) {o0 : Nat} (hb0 : z_blk z_lawS z_lawR (z_sh E.1) ρ o0) : ∀ (n : Nat) (x1 : Int32) (x2 : Int32) (μ : z_M), μ.2.2 = ρ → g_X1_kindsThatDie_4 o0  n x1 x2 μ = some (r, μr) → z_J E 3 4 [some (.ref o0), some (.int x1), some (.int x2)] [] μ := by
  intro n
  induction n with
  | zero =>
    intro x1 x2 μ hρ h
    rw [g_X1_kindsThatDie_4] at h
    cases h
  | succ n ih =>
    intro x1 x2 μ hρ h
    rw [g_X1_kindsThatDie_4] at h
    refine j_iload_n F (pc := 4) (q := 2) (by decide +kernel) rfl ?_
    refine j_bipush F (pc := 5) (n := 8) (v := 8) (by decide +kernel) (by decide +kernel) ?_
    refine j_icmp_ge F (pc := 7) (off := 24) (tgt := 31) (by decide +kernel) (by decide) (fun c => ?_) (fun c => ?_)
    · rw [if_pos c] at h
      refine j_iload_n F (pc := 31) (q := 1) (by decide +kernel) rfl ?_
      exact j_iret (st := []) F Rt rfl (by decide +kernel) ⟨hρ, _, rfl, (congrArg Prod.fst (Option.some.inj h)).symm, (congrArg Prod.snd (Option.some.inj h)).symm⟩
    · rw [if_neg c] at h
      refine j_aload_n F (pc := 10) (q := 0) (by decide +kernel) rfl ?_
      refine j_getR F (pc := 11) (hb0.r hρ 1 rfl) fl_X1_145 (hb0.1 0 _ rfl) rfl (by decide +kernel) ?_
      refine j_iload_n F (pc := 14) (q := 2) (by decide +kernel) rfl ?_
      obtain ⟨hg, h⟩ := z_ifs h
      refine j_iald F (pc := 15) (hb0.1 2 _ rfl) hg (by decide +kernel) ?_
      refine j_if_eq F (pc := 16) (off := 9) (tgt := 25) (by decide +kernel) (by decide) (fun c => ?_) (fun c => ?_)
      · rw [if_pos c] at h
        refine j_iinc F (pc := 25) (i := 2) (n := 1) (v := 1) (L' := [some (.ref o0), some (.int x1), some (.int (x2 + (1 : Int32)))]) (by decide +kernel) rfl (by decide +kernel) (by decide) rfl rfl ?_
        refine j_goto F (pc := 28) (off := -24) (tgt := 4) (by decide +kernel) (by decide) ?_
        exact ih _ _ _ hρ h
      · rw [if_neg c] at h
        refine j_iload_n F (pc := 19) (q := 1) (by decide +kernel) rfl ?_
        refine j_iconst F (pc := 20) (n := 1) (v := 1) (by decide +kernel) (by decide +kernel) ?_
        refine j_iload_n F (pc := 21) (q := 2) (by decide +kernel) rfl ?_
        refine j_ishl F (pc := 22) (by decide +kernel) ?_
        refine j_ior F (pc := 23) (by decide +kernel) ?_
        obtain ⟨x_1, e2, h⟩ := z_lt_some h
        rw [← e2]
        refine j_istore_n F (pc := 24) (q := 1) (L' := [some (.ref o0), some (.int x_1), some (.int x2)]) (by decide +kernel) (by decide) rfl rfl ?_
        refine j_iinc F (pc := 25) (i := 2) (n := 1) (v := 1) (L' := [some (.ref o0), some (.int x_1), some (.int (x2 + (1 : Int32)))]) (by decide +kernel) rfl (by decide +kernel) (by decide) rfl rfl ?_
        refine j_goto F (pc := 28) (off := -24) (tgt := 4) (by decide +kernel) (by decide) ?_
        exact ih _ _ _ hρ h
set_option maxHeartbeats 4000000 in
set_option maxRecDepth 100000 in
theorem t_X1_kindsThatDie {G : z_Gl} {ρ : Nat → Nat → Option Nat} {μ : z_M} {r : Int32} {μr : z_M} {o0 : Nat} (hρ : μ.2.2 = ρ) (hb0 : z_blk z_lawS z_lawR (z_sh G) ρ o0) (h : f_X1_kindsThatDie o0 μ = some (r, μr)) : z_Ci G yX1_kindsThatDie cX1_kindsThatDie 3 (some .int) 0 [.ref o0] μ (fun r1 μ1 => r = r1 ∧ μr = μ1) := by
  unfold z_Ci
  refine z_intro (by decide +kernel) (Nat.le_of_ble_eq_true rfl) (fun E hE F Rt => ?_)
  subst hE
  have F : z_F E RX1 cX1_kindsThatDie 3 0 := F
  rw [hρ] at Rt
  unfold f_X1_kindsThatDie at h
  show z_J E 3 0 [some (.ref o0), none, none] [] μ
  refine j_iconst F (pc := 0) (n := 0) (v := 0) (by decide +kernel) (by decide +kernel) ?_
  refine j_istore_n F (pc := 1) (q := 1) (L' := [some (.ref o0), some (.int (0 : Int32)), none]) (by decide +kernel) (by decide) rfl rfl ?_
  refine j_iconst F (pc := 2) (n := 0) (v := 0) (by decide +kernel) (by decide +kernel) ?_
  refine j_istore_n F (pc := 3) (q := 2) (L' := [some (.ref o0), some (.int (0 : Int32)), some (.int (0 : Int32))]) (by decide +kernel) (by decide) rfl rfl ?_
  refine u_X1_kindsThatDie_4 F Rt hb0  z_N _ _ _ hρ h
def g_X1_readNumber_84    (μ : z_M) : Option (Int32 × z_M) :=
  (z_b2 (f_X1_refuse ((2 : Int32)) μ) fun r9 μ10 => (some ((-1 : Int32), μ10)))
def g_X1_readNumber_66   (x1 : Int32) (x2 : Int32) (μ : z_M) : Option (Int32 × z_M) :=
  (if (3 : Int32) < ((μ.1 2 6) - (μ.1 2 5)) then (g_X1_readNumber_84    μ) else (if x1 ≤ x2 then (some (x2, μ)) else (g_X1_readNumber_84    μ)))
def g_X1_readNumber_27   : Nat → Int32 → Int32 → Int32 → z_M → Option (Int32 × z_M)
  | 0, _, _, _, _ => none
  | n + 1, x1, x2, x3, μ => (if (μ.1 2 6) ≤ x3 then (g_X1_readNumber_66   (x1) (x2) μ) else (if ((μ.1 2 5) + (3 : Int32)) ≤ x3 then (g_X1_readNumber_66   (x1) (x2) μ) else (if z_in x3 240 then (z_lt (((x2 * (10 : Int32)) + (μ.1 3 x3.toNatClampNeg)) - (48 : Int32)) fun x_16 => (g_X1_readNumber_27   n (x1) (x_16) ((x3 + (1 : Int32))) μ)) else none)))
def f_X1_readNumber (x1 : Int32) (μ : z_M) : Option (Int32 × z_M) :=
  (z_b1 (f_X1_nextToken  μ) fun μ2 => (if (μ2.1 2 4) = (2 : Int32) then (z_lt (μ2.1 2 5) fun x_7 => (g_X1_readNumber_27   z_N (x1) ((0 : Int32)) (x_7) μ2)) else (z_b2 (f_X1_refuse ((1 : Int32)) μ2) fun r18 μ19 => (some ((-1 : Int32), μ19)))))
set_option maxHeartbeats 4000000 in
set_option maxRecDepth 100000 in
theorem u_X1_readNumber_84 {E : z_E} {ρ : Nat → Nat → Option Nat} {r : Int32} {μr : z_M} (F : z_F E RX1 cX1_readNumber 4 2) (Rt : z_R E (some .int) (fun v μ1 => μ1.2.2 = ρ ∧ ∃ r1, v = some (.int r1) ∧ r = r1 ∧ μr = μ1))  (hk : z_ok (z_sh E.1) ρ) : ∀  (μ : z_M), μ.2.2 = ρ → g_X1_readNumber_84    μ = some (r, μr) → z_J E 4 84 [some (.ref 2), none, none, none] [] μ := by
  intro  μ hρ h
  unfold g_X1_readNumber_84 at h
  refine j_aload_n F (pc := 84) (q := 0) (by decide +kernel) rfl ?_
  refine j_iconst F (pc := 85) (n := 2) (v := 2) (by decide +kernel) (by decide +kernel) ?_
  obtain ⟨r9, μ10, hc12, h⟩ := z_b2_some h
  refine j_callVi F (pc := 86) (idx := 62) (As := [.int (2 : Int32)]) (st := []) (t_X1_refuse (G := E.1) hρ hk hc12) q_X1_refuse v_X1_refuse m_465 (hk.s c_2) rfl rfl (by decide) (Nat.le_of_ble_eq_true rfl) rfl (by decide +kernel) (fun s15 ν13 hq14 hp => ?_)
  obtain ⟨rfl, rfl⟩ := hp
  have hρ11 : μ10.2.2 = ρ := hq14.trans hρ
  refine j_pop F (pc := 89) (by decide +kernel) rfl ?_
  refine j_iconst F (pc := 90) (n := -1) (v := -1) (by decide +kernel) (by decide +kernel) ?_
  exact j_iret (st := []) F Rt rfl (by decide +kernel) ⟨hρ11, _, rfl, (congrArg Prod.fst (Option.some.inj h)).symm, (congrArg Prod.snd (Option.some.inj h)).symm⟩
set_option maxHeartbeats 4000000 in
set_option maxRecDepth 100000 in
theorem u_X1_readNumber_66 {E : z_E} {ρ : Nat → Nat → Option Nat} {r : Int32} {μr : z_M} (F : z_F E RX1 cX1_readNumber 4 2) (Rt : z_R E (some .int) (fun v μ1 => μ1.2.2 = ρ ∧ ∃ r1, v = some (.int r1) ∧ r = r1 ∧ μr = μ1))  (hk : z_ok (z_sh E.1) ρ) : ∀ (x1 : Int32) (x2 : Int32) (μ : z_M), μ.2.2 = ρ → g_X1_readNumber_66   x1 x2 μ = some (r, μr) → z_J E 4 66 [some (.ref 2), some (.int x1), some (.int x2), none] [] μ := by
  intro x1 x2 μ hρ h
  unfold g_X1_readNumber_66 at h
  refine j_aload_n F (pc := 66) (q := 0) (by decide +kernel) rfl ?_
  refine j_getI F (pc := 67) fl_X1_30 (hk.s c_2) rfl (by decide +kernel) ?_
  refine j_aload_n F (pc := 70) (q := 0) (by decide +kernel) rfl ?_
  refine j_getI F (pc := 71) fl_X1_154 (hk.s c_2) rfl (by decide +kernel) ?_
  refine j_isub F (pc := 74) (by decide +kernel) ?_
  refine j_iconst F (pc := 75) (n := 3) (v := 3) (by decide +kernel) (by decide +kernel) ?_
  refine j_icmp_gt F (pc := 76) (off := 8) (tgt := 84) (by decide +kernel) (by decide) (fun c => ?_) (fun c => ?_)
  · rw [if_pos c] at h
    refine j_mk F [true, false, false, false] (L' := [some (.ref 2), none, none, none]) rfl ?_
    refine u_X1_readNumber_84 F Rt hk   _ hρ h
  · rw [if_neg c] at h
    refine j_iload_n F (pc := 79) (q := 2) (by decide +kernel) rfl ?_
    refine j_iload_n F (pc := 80) (q := 1) (by decide +kernel) rfl ?_
    refine j_icmp_ge F (pc := 81) (off := 11) (tgt := 92) (by decide +kernel) (by decide) (fun c => ?_) (fun c => ?_)
    · rw [if_pos c] at h
      refine j_iload_n F (pc := 92) (q := 2) (by decide +kernel) rfl ?_
      exact j_iret (st := []) F Rt rfl (by decide +kernel) ⟨hρ, _, rfl, (congrArg Prod.fst (Option.some.inj h)).symm, (congrArg Prod.snd (Option.some.inj h)).symm⟩
    · rw [if_neg c] at h
      refine j_mk F [true, false, false, false] (L' := [some (.ref 2), none, none, none]) rfl ?_
      refine u_X1_readNumber_84 F Rt hk   _ hρ h
set_option maxHeartbeats 4000000 in
set_option maxRecDepth 100000 in
theorem u_X1_readNumber_27 {E : z_E} {ρ : Nat → Nat → Option Nat} {r : Int32} {μr : z_M} (F : z_F E RX1 cX1_readNumber 4 2) (Rt : z_R E (some .int) (fun v μ1 => μ1.2.2 = ρ ∧ ∃ r1, v = some (.int r1) ∧ r = r1 ∧ μr = μ1))  (hk : z_ok (z_sh E.1) ρ) : ∀ (n : Nat) (x1 : Int32) (x2 : Int32) (x3 : Int32) (μ : z_M), μ.2.2 = ρ → g_X1_readNumber_27   n x1 x2 x3 μ = some (r, μr) → z_J E 4 27 [some (.ref 2), some (.int x1), some (.int x2), some (.int x3)] [] μ := by
  intro n
  induction n with
  | zero =>
    intro x1 x2 x3 μ hρ h
    rw [g_X1_readNumber_27] at h
    cases h
  | succ n ih =>
    intro x1 x2 x3 μ hρ h
    rw [g_X1_readNumber_27] at h
    refine j_iload_n F (pc := 27) (q := 3) (by decide +kernel) rfl ?_
    refine j_aload_n F (pc := 28) (q := 0) (by decide +kernel) rfl ?_
    refine j_getI F (pc := 29) fl_X1_30 (hk.s c_2) rfl (by decide +kernel) ?_
    refine j_icmp_ge F (pc := 32) (off := 34) (tgt := 66) (by decide +kernel) (by decide) (fun c => ?_) (fun c => ?_)
    · rw [if_pos c] at h
      refine j_mk F [true, true, true, false] (L' := [some (.ref 2), some (.int x1), some (.int x2), none]) rfl ?_
      refine u_X1_readNumber_66 F Rt hk  _ _ _ hρ h
    · rw [if_neg c] at h
      refine j_iload_n F (pc := 35) (q := 3) (by decide +kernel) rfl ?_
      refine j_aload_n F (pc := 36) (q := 0) (by decide +kernel) rfl ?_
      refine j_getI F (pc := 37) fl_X1_154 (hk.s c_2) rfl (by decide +kernel) ?_
      refine j_iconst F (pc := 40) (n := 3) (v := 3) (by decide +kernel) (by decide +kernel) ?_
      refine j_iadd F (pc := 41) (by decide +kernel) ?_
      refine j_icmp_ge F (pc := 42) (off := 24) (tgt := 66) (by decide +kernel) (by decide) (fun c => ?_) (fun c => ?_)
      · rw [if_pos c] at h
        refine j_mk F [true, true, true, false] (L' := [some (.ref 2), some (.int x1), some (.int x2), none]) rfl ?_
        refine u_X1_readNumber_66 F Rt hk  _ _ _ hρ h
      · rw [if_neg c] at h
        refine j_iload_n F (pc := 45) (q := 2) (by decide +kernel) rfl ?_
        refine j_bipush F (pc := 46) (n := 10) (v := 10) (by decide +kernel) (by decide +kernel) ?_
        refine j_imul F (pc := 48) (by decide +kernel) ?_
        refine j_aload_n F (pc := 49) (q := 0) (by decide +kernel) rfl ?_
        refine j_getR F (pc := 50) (hk.r hρ r_2_0) fl_X1_9 (hk.s c_2) rfl (by decide +kernel) ?_
        refine j_iload_n F (pc := 53) (q := 3) (by decide +kernel) rfl ?_
        obtain ⟨hg, h⟩ := z_ifs h
        refine j_iald F (pc := 54) (hk.s c_3) hg (by decide +kernel) ?_
        refine j_iadd F (pc := 55) (by decide +kernel) ?_
        refine j_bipush F (pc := 56) (n := 48) (v := 48) (by decide +kernel) (by decide +kernel) ?_
        refine j_isub F (pc := 58) (by decide +kernel) ?_
        obtain ⟨x_16, e17, h⟩ := z_lt_some h
        rw [← e17]
        refine j_istore_n F (pc := 59) (q := 2) (L' := [some (.ref 2), some (.int x1), some (.int x_16), some (.int x3)]) (by decide +kernel) (by decide) rfl rfl ?_
        refine j_iinc F (pc := 60) (i := 3) (n := 1) (v := 1) (L' := [some (.ref 2), some (.int x1), some (.int x_16), some (.int (x3 + (1 : Int32)))]) (by decide +kernel) rfl (by decide +kernel) (by decide) rfl rfl ?_
        refine j_goto F (pc := 63) (off := -36) (tgt := 27) (by decide +kernel) (by decide) ?_
        exact ih _ _ _ _ hρ h
set_option maxHeartbeats 4000000 in
set_option maxRecDepth 100000 in
theorem t_X1_readNumber {G : z_Gl} {ρ : Nat → Nat → Option Nat} {μ : z_M} {r : Int32} {μr : z_M} {x1 : Int32} (hρ : μ.2.2 = ρ) (hk : z_ok (z_sh G) ρ) (h : f_X1_readNumber x1 μ = some (r, μr)) : z_Ci G yX1_readNumber cX1_readNumber 4 (some .int) 2 [.ref 2, .int x1] μ (fun r1 μ1 => r = r1 ∧ μr = μ1) := by
  unfold z_Ci
  refine z_intro (by decide +kernel) (Nat.le_of_ble_eq_true rfl) (fun E hE F Rt => ?_)
  subst hE
  have F : z_F E RX1 cX1_readNumber 4 2 := F
  rw [hρ] at Rt
  unfold f_X1_readNumber at h
  show z_J E 4 0 [some (.ref 2), some (.int x1), none, none] [] μ
  refine j_aload_n F (pc := 0) (q := 0) (by decide +kernel) rfl ?_
  obtain ⟨μ2, hc4, h⟩ := z_b1_some h
  refine j_callVv F (pc := 1) (idx := 39) (As := []) (st := []) (t_X1_nextToken (G := E.1) hρ hk hc4) q_X1_nextToken v_X1_nextToken m_394 (hk.s c_2) rfl rfl (by decide) (Nat.le_of_ble_eq_true rfl) rfl (by decide +kernel) (fun ν5 hq6 hp => ?_)
  subst hp
  have hρ3 : μ2.2.2 = ρ := hq6.trans hρ
  refine j_aload_n F (pc := 4) (q := 0) (by decide +kernel) rfl ?_
  refine j_getI F (pc := 5) fl_X1_42 (hk.s c_2) rfl (by decide +kernel) ?_
  refine j_iconst F (pc := 8) (n := 2) (v := 2) (by decide +kernel) (by decide +kernel) ?_
  refine j_icmp_eq F (pc := 9) (off := 11) (tgt := 20) (by decide +kernel) (by decide) (fun c => ?_) (fun c => ?_)
  · rw [if_pos c] at h
    refine j_iconst F (pc := 20) (n := 0) (v := 0) (by decide +kernel) (by decide +kernel) ?_
    refine j_istore_n F (pc := 21) (q := 2) (L' := [some (.ref 2), some (.int x1), some (.int (0 : Int32)), none]) (by decide +kernel) (by decide) rfl rfl ?_
    refine j_aload_n F (pc := 22) (q := 0) (by decide +kernel) rfl ?_
    refine j_getI F (pc := 23) fl_X1_154 (hk.s c_2) rfl (by decide +kernel) ?_
    obtain ⟨x_7, e8, h⟩ := z_lt_some h
    rw [← e8]
    refine j_istore_n F (pc := 26) (q := 3) (L' := [some (.ref 2), some (.int x1), some (.int (0 : Int32)), some (.int x_7)]) (by decide +kernel) (by decide) rfl rfl ?_
    refine u_X1_readNumber_27 F Rt hk  z_N _ _ _ _ hρ3 h
  · rw [if_neg c] at h
    refine j_aload_n F (pc := 12) (q := 0) (by decide +kernel) rfl ?_
    refine j_iconst F (pc := 13) (n := 1) (v := 1) (by decide +kernel) (by decide +kernel) ?_
    obtain ⟨r18, μ19, hc21, h⟩ := z_b2_some h
    refine j_callVi F (pc := 14) (idx := 62) (As := [.int (1 : Int32)]) (st := []) (t_X1_refuse (G := E.1) hρ3 hk hc21) q_X1_refuse v_X1_refuse m_465 (hk.s c_2) rfl rfl (by decide) (Nat.le_of_ble_eq_true rfl) rfl (by decide +kernel) (fun s24 ν22 hq23 hp => ?_)
    obtain ⟨rfl, rfl⟩ := hp
    have hρ20 : μ19.2.2 = ρ := hq23.trans hρ3
    refine j_pop F (pc := 17) (by decide +kernel) rfl ?_
    refine j_iconst F (pc := 18) (n := -1) (v := -1) (by decide +kernel) (by decide +kernel) ?_
    exact j_iret (st := []) F Rt rfl (by decide +kernel) ⟨hρ20, _, rfl, (congrArg Prod.fst (Option.some.inj h)).symm, (congrArg Prod.snd (Option.some.inj h)).symm⟩
/-- LastLent$LawText.readDies -/
def f_X1_readDies (o1 : Nat) (μ : z_M) : Option (Int32 × z_M) :=
  (z_b2 (f_X1_kindsThatDie (o1) μ) fun r1 μ2 => (z_b2 (f_X1_readKind (r1) μ2) fun r8 μ9 => (if r8 = (-1 : Int32) then (some ((0 : Int32), μ9)) else (z_b2 (f_X1_readNumber ((1 : Int32)) μ9) fun r15 μ16 => (if r15 = (-1 : Int32) then (some ((0 : Int32), μ16)) else (if z_in r8 8 then (z_st (z_si μ16 (o1 + 2) r8.toNatClampNeg r15) fun μ22 => (some ((1 : Int32), μ22))) else none))))))
set_option maxHeartbeats 4000000 in
set_option maxRecDepth 100000 in
theorem t_X1_readDies {G : z_Gl} {ρ : Nat → Nat → Option Nat} {μ : z_M} {r : Int32} {μr : z_M} {o1 : Nat} (hρ : μ.2.2 = ρ) (hk : z_ok (z_sh G) ρ) (hb1 : z_blk z_lawS z_lawR (z_sh G) ρ o1) (h : f_X1_readDies o1 μ = some (r, μr)) : z_Ci G yX1_readDies cX1_readDies 4 (some .boolean) 8 [.ref 2, .ref o1] μ (fun r1 μ1 => r = r1 ∧ μr = μ1) := by
  unfold z_Ci
  refine z_intro (by decide +kernel) (Nat.le_of_ble_eq_true rfl) (fun E hE F Rt => ?_)
  subst hE
  have F : z_F E RX1 cX1_readDies 4 8 := F
  rw [hρ] at Rt
  unfold f_X1_readDies at h
  show z_J E 4 0 [some (.ref 2), some (.ref o1), none, none] [] μ
  refine j_aload_n F (pc := 0) (q := 0) (by decide +kernel) rfl ?_
  refine j_aload_n F (pc := 1) (q := 1) (by decide +kernel) rfl ?_
  obtain ⟨r1, μ2, hc4, h⟩ := z_b2_some h
  refine j_callSi F (pc := 2) (idx := 139) (As := [.ref o1]) (st := [.ref 2]) (t_X1_kindsThatDie (G := E.1) hρ hb1 hc4) q_X1_kindsThatDie m_520 m_519 rfl (by decide) (Nat.le_of_ble_eq_true rfl) rfl (by decide +kernel) (fun s7 ν5 hq6 hp => ?_)
  obtain ⟨rfl, rfl⟩ := hp
  have hρ3 : μ2.2.2 = ρ := hq6.trans hρ
  obtain ⟨r8, μ9, hc11, h⟩ := z_b2_some h
  refine j_callVi F (pc := 5) (idx := 108) (As := [.int r1]) (st := []) (t_X1_readKind (G := E.1) hρ3 hk hc11) q_X1_readKind v_X1_readKind m_484 (hk.s c_2) rfl rfl (by decide) (Nat.le_of_ble_eq_true rfl) rfl (by decide +kernel) (fun s14 ν12 hq13 hp => ?_)
  obtain ⟨rfl, rfl⟩ := hp
  have hρ10 : μ9.2.2 = ρ := hq13.trans hρ3
  refine j_istore_n F (pc := 8) (q := 2) (L' := [some (.ref 2), some (.ref o1), some (.int r8), none]) (by decide +kernel) (by decide) rfl rfl ?_
  refine j_iload_n F (pc := 9) (q := 2) (by decide +kernel) rfl ?_
  refine j_iconst F (pc := 10) (n := -1) (v := -1) (by decide +kernel) (by decide +kernel) ?_
  refine j_icmp_ne F (pc := 11) (off := 5) (tgt := 16) (by decide +kernel) (by decide) (fun c => ?_) (fun c => ?_)
  · rw [if_neg c] at h
    refine j_aload_n F (pc := 16) (q := 0) (by decide +kernel) rfl ?_
    refine j_iconst F (pc := 17) (n := 1) (v := 1) (by decide +kernel) (by decide +kernel) ?_
    obtain ⟨r15, μ16, hc18, h⟩ := z_b2_some h
    refine j_callVi F (pc := 18) (idx := 142) (As := [.int (1 : Int32)]) (st := []) (t_X1_readNumber (G := E.1) hρ10 hk hc18) q_X1_readNumber v_X1_readNumber m_522 (hk.s c_2) rfl rfl (by decide) (Nat.le_of_ble_eq_true rfl) rfl (by decide +kernel) (fun s21 ν19 hq20 hp => ?_)
    obtain ⟨rfl, rfl⟩ := hp
    have hρ17 : μ16.2.2 = ρ := hq20.trans hρ10
    refine j_istore_n F (pc := 21) (q := 3) (L' := [some (.ref 2), some (.ref o1), some (.int r8), some (.int r15)]) (by decide +kernel) (by decide) rfl rfl ?_
    refine j_iload_n F (pc := 22) (q := 3) (by decide +kernel) rfl ?_
    refine j_iconst F (pc := 23) (n := -1) (v := -1) (by decide +kernel) (by decide +kernel) ?_
    refine j_icmp_ne F (pc := 24) (off := 5) (tgt := 29) (by decide +kernel) (by decide) (fun c => ?_) (fun c => ?_)
    · rw [if_neg c] at h
      refine j_aload_n F (pc := 29) (q := 1) (by decide +kernel) rfl ?_
      refine j_getR F (pc := 30) (hb1.r hρ17 1 rfl) fl_X1_145 (hb1.1 0 _ rfl) rfl (by decide +kernel) ?_
      refine j_iload_n F (pc := 33) (q := 2) (by decide +kernel) rfl ?_
      refine j_iload_n F (pc := 34) (q := 3) (by decide +kernel) rfl ?_
      obtain ⟨hg, h⟩ := z_ifs h
      refine j_iast F (pc := 35) (hb1.1 2 _ rfl) hg (by decide +kernel) ?_
      obtain ⟨μ22, e24, h⟩ := z_st_some h
      rw [← e24]
      have hρ23 : μ22.2.2 = ρ := by rw [e24]; exact hρ17
      refine j_iconst F (pc := 36) (n := 1) (v := 1) (by decide +kernel) (by decide +kernel) ?_
      exact j_iret (st := []) F Rt rfl (by decide +kernel) ⟨hρ23, _, rfl, (congrArg Prod.fst (Option.some.inj h)).symm, (congrArg Prod.snd (Option.some.inj h)).symm⟩
    · rw [if_pos c] at h
      refine j_iconst F (pc := 27) (n := 0) (v := 0) (by decide +kernel) (by decide +kernel) ?_
      exact j_iret (st := []) F Rt rfl (by decide +kernel) ⟨hρ17, _, rfl, (congrArg Prod.fst (Option.some.inj h)).symm, (congrArg Prod.snd (Option.some.inj h)).symm⟩
  · rw [if_pos c] at h
    refine j_iconst F (pc := 14) (n := 0) (v := 0) (by decide +kernel) (by decide +kernel) ?_
    exact j_iret (st := []) F Rt rfl (by decide +kernel) ⟨hρ10, _, rfl, (congrArg Prod.fst (Option.some.inj h)).symm, (congrArg Prod.snd (Option.some.inj h)).symm⟩
/-- LastLent$LawText.readLeave -/
def f_X1_readLeave (o1 : Nat) (μ : z_M) : Option (Int32 × z_M) :=
  (z_b2 (f_X1_readKind ((μ.1 o1 6)) μ) fun r1 μ2 => (if r1 = (-1 : Int32) then (some ((0 : Int32), μ2)) else (z_st (z_si μ2 o1 6 ((μ2.1 o1 6) ||| ((1 : Int32) <<< (r1 &&& 31)))) fun μ8 => (some ((1 : Int32), μ8)))))
set_option maxHeartbeats 4000000 in
set_option maxRecDepth 100000 in
theorem t_X1_readLeave {G : z_Gl} {ρ : Nat → Nat → Option Nat} {μ : z_M} {r : Int32} {μr : z_M} {o1 : Nat} (hρ : μ.2.2 = ρ) (hk : z_ok (z_sh G) ρ) (hb1 : z_blk z_lawS z_lawR (z_sh G) ρ o1) (h : f_X1_readLeave o1 μ = some (r, μr)) : z_Ci G yX1_readLeave cX1_readLeave 3 (some .boolean) 8 [.ref 2, .ref o1] μ (fun r1 μ1 => r = r1 ∧ μr = μ1) := by
  unfold z_Ci
  refine z_intro (by decide +kernel) (Nat.le_of_ble_eq_true rfl) (fun E hE F Rt => ?_)
  subst hE
  have F : z_F E RX1 cX1_readLeave 3 8 := F
  rw [hρ] at Rt
  unfold f_X1_readLeave at h
  show z_J E 3 0 [some (.ref 2), some (.ref o1), none] [] μ
  refine j_aload_n F (pc := 0) (q := 0) (by decide +kernel) rfl ?_
  refine j_aload_n F (pc := 1) (q := 1) (by decide +kernel) rfl ?_
  refine j_getI F (pc := 2) fl_X1_148 (hb1.1 0 _ rfl) rfl (by decide +kernel) ?_
  obtain ⟨r1, μ2, hc4, h⟩ := z_b2_some h
  refine j_callVi F (pc := 5) (idx := 108) (As := [.int (μ.1 o1 6)]) (st := []) (t_X1_readKind (G := E.1) hρ hk hc4) q_X1_readKind v_X1_readKind m_484 (hk.s c_2) rfl rfl (by decide) (Nat.le_of_ble_eq_true rfl) rfl (by decide +kernel) (fun s7 ν5 hq6 hp => ?_)
  obtain ⟨rfl, rfl⟩ := hp
  have hρ3 : μ2.2.2 = ρ := hq6.trans hρ
  refine j_istore_n F (pc := 8) (q := 2) (L' := [some (.ref 2), some (.ref o1), some (.int r1)]) (by decide +kernel) (by decide) rfl rfl ?_
  refine j_iload_n F (pc := 9) (q := 2) (by decide +kernel) rfl ?_
  refine j_iconst F (pc := 10) (n := -1) (v := -1) (by decide +kernel) (by decide +kernel) ?_
  refine j_icmp_ne F (pc := 11) (off := 5) (tgt := 16) (by decide +kernel) (by decide) (fun c => ?_) (fun c => ?_)
  · rw [if_neg c] at h
    refine j_aload_n F (pc := 16) (q := 1) (by decide +kernel) rfl ?_
    refine j_dup F (pc := 17) (by decide +kernel) rfl ?_
    refine j_getI F (pc := 18) fl_X1_148 (hb1.1 0 _ rfl) rfl (by decide +kernel) ?_
    refine j_iconst F (pc := 21) (n := 1) (v := 1) (by decide +kernel) (by decide +kernel) ?_
    refine j_iload_n F (pc := 22) (q := 2) (by decide +kernel) rfl ?_
    refine j_ishl F (pc := 23) (by decide +kernel) ?_
    refine j_ior F (pc := 24) (by decide +kernel) ?_
    refine j_putI F (pc := 25) fl_X1_148 fp_X0_6 (hb1.1 0 _ rfl) rfl (by decide +kernel) ?_
    obtain ⟨μ8, e10, h⟩ := z_st_some h
    rw [← e10]
    have hρ9 : μ8.2.2 = ρ := by rw [e10]; exact hρ3
    refine j_iconst F (pc := 28) (n := 1) (v := 1) (by decide +kernel) (by decide +kernel) ?_
    exact j_iret (st := []) F Rt rfl (by decide +kernel) ⟨hρ9, _, rfl, (congrArg Prod.fst (Option.some.inj h)).symm, (congrArg Prod.snd (Option.some.inj h)).symm⟩
  · rw [if_pos c] at h
    refine j_iconst F (pc := 14) (n := 0) (v := 0) (by decide +kernel) (by decide +kernel) ?_
    exact j_iret (st := []) F Rt rfl (by decide +kernel) ⟨hρ3, _, rfl, (congrArg Prod.fst (Option.some.inj h)).symm, (congrArg Prod.snd (Option.some.inj h)).symm⟩
/-- LastLent$LawText.readCosts -/
def f_X1_readCosts (o1 : Nat) (μ : z_M) : Option (Int32 × z_M) :=
  (z_b2 (f_X1_readNumber ((0 : Int32)) μ) fun r1 μ2 => (if r1 = (-1 : Int32) then (some ((0 : Int32), μ2)) else (z_st (z_si μ2 o1 10 r1) fun μ8 => (some ((1 : Int32), μ8)))))
set_option maxHeartbeats 4000000 in
set_option maxRecDepth 100000 in
theorem t_X1_readCosts {G : z_Gl} {ρ : Nat → Nat → Option Nat} {μ : z_M} {r : Int32} {μr : z_M} {o1 : Nat} (hρ : μ.2.2 = ρ) (hk : z_ok (z_sh G) ρ) (hb1 : z_blk z_lawS z_lawR (z_sh G) ρ o1) (h : f_X1_readCosts o1 μ = some (r, μr)) : z_Ci G yX1_readCosts cX1_readCosts 3 (some .boolean) 3 [.ref 2, .ref o1] μ (fun r1 μ1 => r = r1 ∧ μr = μ1) := by
  unfold z_Ci
  refine z_intro (by decide +kernel) (Nat.le_of_ble_eq_true rfl) (fun E hE F Rt => ?_)
  subst hE
  have F : z_F E RX1 cX1_readCosts 3 3 := F
  rw [hρ] at Rt
  unfold f_X1_readCosts at h
  show z_J E 3 0 [some (.ref 2), some (.ref o1), none] [] μ
  refine j_aload_n F (pc := 0) (q := 0) (by decide +kernel) rfl ?_
  refine j_iconst F (pc := 1) (n := 0) (v := 0) (by decide +kernel) (by decide +kernel) ?_
  obtain ⟨r1, μ2, hc4, h⟩ := z_b2_some h
  refine j_callVi F (pc := 2) (idx := 142) (As := [.int (0 : Int32)]) (st := []) (t_X1_readNumber (G := E.1) hρ hk hc4) q_X1_readNumber v_X1_readNumber m_522 (hk.s c_2) rfl rfl (by decide) (Nat.le_of_ble_eq_true rfl) rfl (by decide +kernel) (fun s7 ν5 hq6 hp => ?_)
  obtain ⟨rfl, rfl⟩ := hp
  have hρ3 : μ2.2.2 = ρ := hq6.trans hρ
  refine j_istore_n F (pc := 5) (q := 2) (L' := [some (.ref 2), some (.ref o1), some (.int r1)]) (by decide +kernel) (by decide) rfl rfl ?_
  refine j_iload_n F (pc := 6) (q := 2) (by decide +kernel) rfl ?_
  refine j_iconst F (pc := 7) (n := -1) (v := -1) (by decide +kernel) (by decide +kernel) ?_
  refine j_icmp_ne F (pc := 8) (off := 5) (tgt := 13) (by decide +kernel) (by decide) (fun c => ?_) (fun c => ?_)
  · rw [if_neg c] at h
    refine j_aload_n F (pc := 13) (q := 1) (by decide +kernel) rfl ?_
    refine j_iload_n F (pc := 14) (q := 2) (by decide +kernel) rfl ?_
    refine j_putI F (pc := 15) fl_X1_151 fp_X0_10 (hb1.1 0 _ rfl) rfl (by decide +kernel) ?_
    obtain ⟨μ8, e10, h⟩ := z_st_some h
    rw [← e10]
    have hρ9 : μ8.2.2 = ρ := by rw [e10]; exact hρ3
    refine j_iconst F (pc := 18) (n := 1) (v := 1) (by decide +kernel) (by decide +kernel) ?_
    exact j_iret (st := []) F Rt rfl (by decide +kernel) ⟨hρ9, _, rfl, (congrArg Prod.fst (Option.some.inj h)).symm, (congrArg Prod.snd (Option.some.inj h)).symm⟩
  · rw [if_pos c] at h
    refine j_iconst F (pc := 11) (n := 0) (v := 0) (by decide +kernel) (by decide +kernel) ?_
    exact j_iret (st := []) F Rt rfl (by decide +kernel) ⟨hρ3, _, rfl, (congrArg Prod.fst (Option.some.inj h)).symm, (congrArg Prod.snd (Option.some.inj h)).symm⟩
/-- LastLent$LawText.readBody -/
def f_X1_readBody (x1 : Int32) (o2 : Nat) (μ : z_M) : Option (Int32 × z_M) :=
  (if x1 = 0 then (z_b2 (f_X1_readRides (o2) μ) fun r1 μ2 => (if r1 = 0 ∨ r1 = 1 then some (r1, μ2) else none)) else (if x1 = 1 then (z_b2 (f_X1_readAhead (o2) μ) fun r8 μ9 => (if r8 = 0 ∨ r8 = 1 then some (r8, μ9) else none)) else (if x1 = 2 then (z_b2 (f_X1_readFirst (o2) μ) fun r15 μ16 => (if r15 = 0 ∨ r15 = 1 then some (r15, μ16) else none)) else (if x1 = 3 then (z_b2 (f_X1_readBehind (o2) μ) fun r22 μ23 => (if r22 = 0 ∨ r22 = 1 then some (r22, μ23) else none)) else (if x1 = 4 then (z_st (z_si μ o2 11 (1 : Int32)) fun μ29 => (some ((1 : Int32), μ29))) else (if x1 = 5 then (z_b2 (f_X1_readWithin (o2) μ) fun r32 μ33 => (if r32 = 0 ∨ r32 = 1 then some (r32, μ33) else none)) else (if x1 = 6 then (z_b2 (f_X1_readDies (o2) μ) fun r39 μ40 => (if r39 = 0 ∨ r39 = 1 then some (r39, μ40) else none)) else (if x1 = 7 then (z_b2 (f_X1_readLeave (o2) μ) fun r46 μ47 => (if r46 = 0 ∨ r46 = 1 then some (r46, μ47) else none)) else (if x1 = 8 then (z_st (z_si μ o2 12 (1 : Int32)) fun μ53 => (some ((1 : Int32), μ53))) else (if x1 = 9 then (z_b2 (f_X1_readCosts (o2) μ) fun r56 μ57 => (if r56 = 0 ∨ r56 = 1 then some (r56, μ57) else none)) else (some ((0 : Int32), μ))))))))))))
set_option maxHeartbeats 4000000 in
set_option maxRecDepth 100000 in
theorem t_X1_readBody {G : z_Gl} {ρ : Nat → Nat → Option Nat} {μ : z_M} {r : Int32} {μr : z_M} {x1 : Int32} {o2 : Nat} (hρ : μ.2.2 = ρ) (hk : z_ok (z_sh G) ρ) (hb2 : z_blk z_lawS z_lawR (z_sh G) ρ o2) (h : f_X1_readBody x1 o2 μ = some (r, μr)) : z_Ci G yX1_readBody cX1_readBody 3 (some .boolean) 9 [.ref 2, .int x1, .ref o2] μ (fun r1 μ1 => r = r1 ∧ μr = μ1) := by
  unfold z_Ci
  refine z_intro (by decide +kernel) (Nat.le_of_ble_eq_true rfl) (fun E hE F Rt => ?_)
  subst hE
  have F : z_F E RX1 cX1_readBody 3 9 := F
  rw [hρ] at Rt
  unfold f_X1_readBody at h
  show z_J E 3 0 [some (.ref 2), some (.int x1), some (.ref o2)] [] μ
  refine j_iload_n F (pc := 0) (q := 1) (by decide +kernel) rfl ?_
  by_cases c0 : x1 = 0
  · rw [if_pos c0] at h
    refine j_tableIn F (pc := 1) (dflt := 117) (lo := 0) (hi := 9) (offs := #[55, 61, 67, 73, 79, 86, 92, 98, 104, 111]) (len := 55) (off := 55) (tgt := 56) (by decide +kernel) (by rw [c0]; decide) (by rw [c0]; decide) (by rw [c0]; decide +kernel) (by decide) ?_
    refine j_aload_n F (pc := 56) (q := 0) (by decide +kernel) rfl ?_
    refine j_aload_n F (pc := 57) (q := 2) (by decide +kernel) rfl ?_
    obtain ⟨r1, μ2, hc4, h⟩ := z_b2_some h
    refine j_callVi F (pc := 58) (idx := 76) (As := [.ref o2]) (st := []) (t_X1_readRides (G := E.1) hρ hk hb2 hc4) q_X1_readRides v_X1_readRides m_480 (hk.s c_2) rfl rfl (by decide) (Nat.le_of_ble_eq_true rfl) rfl (by decide +kernel) (fun s7 ν5 hq6 hp => ?_)
    obtain ⟨rfl, rfl⟩ := hp
    have hρ3 : μ2.2.2 = ρ := hq6.trans hρ
    obtain ⟨hg, h⟩ := z_ifs h
    exact j_iret (st := []) F Rt (z_nb hg) (by decide +kernel) ⟨hρ3, _, rfl, (congrArg Prod.fst (Option.some.inj h)).symm, (congrArg Prod.snd (Option.some.inj h)).symm⟩
  rw [if_neg c0] at h
  by_cases c1 : x1 = 1
  · rw [if_pos c1] at h
    refine j_tableIn F (pc := 1) (dflt := 117) (lo := 0) (hi := 9) (offs := #[55, 61, 67, 73, 79, 86, 92, 98, 104, 111]) (len := 55) (off := 61) (tgt := 62) (by decide +kernel) (by rw [c1]; decide) (by rw [c1]; decide) (by rw [c1]; decide +kernel) (by decide) ?_
    refine j_aload_n F (pc := 62) (q := 0) (by decide +kernel) rfl ?_
    refine j_aload_n F (pc := 63) (q := 2) (by decide +kernel) rfl ?_
    obtain ⟨r8, μ9, hc11, h⟩ := z_b2_some h
    refine j_callVi F (pc := 64) (idx := 80) (As := [.ref o2]) (st := []) (t_X1_readAhead (G := E.1) hρ hk hb2 hc11) q_X1_readAhead v_X1_readAhead m_498 (hk.s c_2) rfl rfl (by decide) (Nat.le_of_ble_eq_true rfl) rfl (by decide +kernel) (fun s14 ν12 hq13 hp => ?_)
    obtain ⟨rfl, rfl⟩ := hp
    have hρ10 : μ9.2.2 = ρ := hq13.trans hρ
    obtain ⟨hg, h⟩ := z_ifs h
    exact j_iret (st := []) F Rt (z_nb hg) (by decide +kernel) ⟨hρ10, _, rfl, (congrArg Prod.fst (Option.some.inj h)).symm, (congrArg Prod.snd (Option.some.inj h)).symm⟩
  rw [if_neg c1] at h
  by_cases c2 : x1 = 2
  · rw [if_pos c2] at h
    refine j_tableIn F (pc := 1) (dflt := 117) (lo := 0) (hi := 9) (offs := #[55, 61, 67, 73, 79, 86, 92, 98, 104, 111]) (len := 55) (off := 67) (tgt := 68) (by decide +kernel) (by rw [c2]; decide) (by rw [c2]; decide) (by rw [c2]; decide +kernel) (by decide) ?_
    refine j_aload_n F (pc := 68) (q := 0) (by decide +kernel) rfl ?_
    refine j_aload_n F (pc := 69) (q := 2) (by decide +kernel) rfl ?_
    obtain ⟨r15, μ16, hc18, h⟩ := z_b2_some h
    refine j_callVi F (pc := 70) (idx := 83) (As := [.ref o2]) (st := []) (t_X1_readFirst (G := E.1) hρ hk hb2 hc18) q_X1_readFirst v_X1_readFirst m_502 (hk.s c_2) rfl rfl (by decide) (Nat.le_of_ble_eq_true rfl) rfl (by decide +kernel) (fun s21 ν19 hq20 hp => ?_)
    obtain ⟨rfl, rfl⟩ := hp
    have hρ17 : μ16.2.2 = ρ := hq20.trans hρ
    obtain ⟨hg, h⟩ := z_ifs h
    exact j_iret (st := []) F Rt (z_nb hg) (by decide +kernel) ⟨hρ17, _, rfl, (congrArg Prod.fst (Option.some.inj h)).symm, (congrArg Prod.snd (Option.some.inj h)).symm⟩
  rw [if_neg c2] at h
  by_cases c3 : x1 = 3
  · rw [if_pos c3] at h
    refine j_tableIn F (pc := 1) (dflt := 117) (lo := 0) (hi := 9) (offs := #[55, 61, 67, 73, 79, 86, 92, 98, 104, 111]) (len := 55) (off := 73) (tgt := 74) (by decide +kernel) (by rw [c3]; decide) (by rw [c3]; decide) (by rw [c3]; decide +kernel) (by decide) ?_
    refine j_aload_n F (pc := 74) (q := 0) (by decide +kernel) rfl ?_
    refine j_aload_n F (pc := 75) (q := 2) (by decide +kernel) rfl ?_
    obtain ⟨r22, μ23, hc25, h⟩ := z_b2_some h
    refine j_callVi F (pc := 76) (idx := 86) (As := [.ref o2]) (st := []) (t_X1_readBehind (G := E.1) hρ hk hb2 hc25) q_X1_readBehind v_X1_readBehind m_506 (hk.s c_2) rfl rfl (by decide) (Nat.le_of_ble_eq_true rfl) rfl (by decide +kernel) (fun s28 ν26 hq27 hp => ?_)
    obtain ⟨rfl, rfl⟩ := hp
    have hρ24 : μ23.2.2 = ρ := hq27.trans hρ
    obtain ⟨hg, h⟩ := z_ifs h
    exact j_iret (st := []) F Rt (z_nb hg) (by decide +kernel) ⟨hρ24, _, rfl, (congrArg Prod.fst (Option.some.inj h)).symm, (congrArg Prod.snd (Option.some.inj h)).symm⟩
  rw [if_neg c3] at h
  by_cases c4 : x1 = 4
  · rw [if_pos c4] at h
    refine j_tableIn F (pc := 1) (dflt := 117) (lo := 0) (hi := 9) (offs := #[55, 61, 67, 73, 79, 86, 92, 98, 104, 111]) (len := 55) (off := 79) (tgt := 80) (by decide +kernel) (by rw [c4]; decide) (by rw [c4]; decide) (by rw [c4]; decide +kernel) (by decide) ?_
    refine j_aload_n F (pc := 80) (q := 2) (by decide +kernel) rfl ?_
    refine j_iconst F (pc := 81) (n := 1) (v := 1) (by decide +kernel) (by decide +kernel) ?_
    refine j_putZ F (pc := 82) (Or.inr rfl) fl_X1_89 fp_X0_11 (hb2.1 0 _ rfl) rfl (by decide +kernel) ?_
    obtain ⟨μ29, e31, h⟩ := z_st_some h
    rw [← e31]
    have hρ30 : μ29.2.2 = ρ := by rw [e31]; exact hρ
    refine j_iconst F (pc := 85) (n := 1) (v := 1) (by decide +kernel) (by decide +kernel) ?_
    exact j_iret (st := []) F Rt rfl (by decide +kernel) ⟨hρ30, _, rfl, (congrArg Prod.fst (Option.some.inj h)).symm, (congrArg Prod.snd (Option.some.inj h)).symm⟩
  rw [if_neg c4] at h
  by_cases c5 : x1 = 5
  · rw [if_pos c5] at h
    refine j_tableIn F (pc := 1) (dflt := 117) (lo := 0) (hi := 9) (offs := #[55, 61, 67, 73, 79, 86, 92, 98, 104, 111]) (len := 55) (off := 86) (tgt := 87) (by decide +kernel) (by rw [c5]; decide) (by rw [c5]; decide) (by rw [c5]; decide +kernel) (by decide) ?_
    refine j_aload_n F (pc := 87) (q := 0) (by decide +kernel) rfl ?_
    refine j_aload_n F (pc := 88) (q := 2) (by decide +kernel) rfl ?_
    obtain ⟨r32, μ33, hc35, h⟩ := z_b2_some h
    refine j_callVi F (pc := 89) (idx := 93) (As := [.ref o2]) (st := []) (t_X1_readWithin (G := E.1) hρ hk hb2 hc35) q_X1_readWithin v_X1_readWithin m_510 (hk.s c_2) rfl rfl (by decide) (Nat.le_of_ble_eq_true rfl) rfl (by decide +kernel) (fun s38 ν36 hq37 hp => ?_)
    obtain ⟨rfl, rfl⟩ := hp
    have hρ34 : μ33.2.2 = ρ := hq37.trans hρ
    obtain ⟨hg, h⟩ := z_ifs h
    exact j_iret (st := []) F Rt (z_nb hg) (by decide +kernel) ⟨hρ34, _, rfl, (congrArg Prod.fst (Option.some.inj h)).symm, (congrArg Prod.snd (Option.some.inj h)).symm⟩
  rw [if_neg c5] at h
  by_cases c6 : x1 = 6
  · rw [if_pos c6] at h
    refine j_tableIn F (pc := 1) (dflt := 117) (lo := 0) (hi := 9) (offs := #[55, 61, 67, 73, 79, 86, 92, 98, 104, 111]) (len := 55) (off := 92) (tgt := 93) (by decide +kernel) (by rw [c6]; decide) (by rw [c6]; decide) (by rw [c6]; decide +kernel) (by decide) ?_
    refine j_aload_n F (pc := 93) (q := 0) (by decide +kernel) rfl ?_
    refine j_aload_n F (pc := 94) (q := 2) (by decide +kernel) rfl ?_
    obtain ⟨r39, μ40, hc42, h⟩ := z_b2_some h
    refine j_callVi F (pc := 95) (idx := 96) (As := [.ref o2]) (st := []) (t_X1_readDies (G := E.1) hρ hk hb2 hc42) q_X1_readDies v_X1_readDies m_515 (hk.s c_2) rfl rfl (by decide) (Nat.le_of_ble_eq_true rfl) rfl (by decide +kernel) (fun s45 ν43 hq44 hp => ?_)
    obtain ⟨rfl, rfl⟩ := hp
    have hρ41 : μ40.2.2 = ρ := hq44.trans hρ
    obtain ⟨hg, h⟩ := z_ifs h
    exact j_iret (st := []) F Rt (z_nb hg) (by decide +kernel) ⟨hρ41, _, rfl, (congrArg Prod.fst (Option.some.inj h)).symm, (congrArg Prod.snd (Option.some.inj h)).symm⟩
  rw [if_neg c6] at h
  by_cases c7 : x1 = 7
  · rw [if_pos c7] at h
    refine j_tableIn F (pc := 1) (dflt := 117) (lo := 0) (hi := 9) (offs := #[55, 61, 67, 73, 79, 86, 92, 98, 104, 111]) (len := 55) (off := 98) (tgt := 99) (by decide +kernel) (by rw [c7]; decide) (by rw [c7]; decide) (by rw [c7]; decide +kernel) (by decide) ?_
    refine j_aload_n F (pc := 99) (q := 0) (by decide +kernel) rfl ?_
    refine j_aload_n F (pc := 100) (q := 2) (by decide +kernel) rfl ?_
    obtain ⟨r46, μ47, hc49, h⟩ := z_b2_some h
    refine j_callVi F (pc := 101) (idx := 99) (As := [.ref o2]) (st := []) (t_X1_readLeave (G := E.1) hρ hk hb2 hc49) q_X1_readLeave v_X1_readLeave m_526 (hk.s c_2) rfl rfl (by decide) (Nat.le_of_ble_eq_true rfl) rfl (by decide +kernel) (fun s52 ν50 hq51 hp => ?_)
    obtain ⟨rfl, rfl⟩ := hp
    have hρ48 : μ47.2.2 = ρ := hq51.trans hρ
    obtain ⟨hg, h⟩ := z_ifs h
    exact j_iret (st := []) F Rt (z_nb hg) (by decide +kernel) ⟨hρ48, _, rfl, (congrArg Prod.fst (Option.some.inj h)).symm, (congrArg Prod.snd (Option.some.inj h)).symm⟩
  rw [if_neg c7] at h
  by_cases c8 : x1 = 8
  · rw [if_pos c8] at h
    refine j_tableIn F (pc := 1) (dflt := 117) (lo := 0) (hi := 9) (offs := #[55, 61, 67, 73, 79, 86, 92, 98, 104, 111]) (len := 55) (off := 104) (tgt := 105) (by decide +kernel) (by rw [c8]; decide) (by rw [c8]; decide) (by rw [c8]; decide +kernel) (by decide) ?_
    refine j_aload_n F (pc := 105) (q := 2) (by decide +kernel) rfl ?_
    refine j_iconst F (pc := 106) (n := 1) (v := 1) (by decide +kernel) (by decide +kernel) ?_
    refine j_putZ F (pc := 107) (Or.inr rfl) fl_X1_102 fp_X0_12 (hb2.1 0 _ rfl) rfl (by decide +kernel) ?_
    obtain ⟨μ53, e55, h⟩ := z_st_some h
    rw [← e55]
    have hρ54 : μ53.2.2 = ρ := by rw [e55]; exact hρ
    refine j_iconst F (pc := 110) (n := 1) (v := 1) (by decide +kernel) (by decide +kernel) ?_
    exact j_iret (st := []) F Rt rfl (by decide +kernel) ⟨hρ54, _, rfl, (congrArg Prod.fst (Option.some.inj h)).symm, (congrArg Prod.snd (Option.some.inj h)).symm⟩
  rw [if_neg c8] at h
  by_cases c9 : x1 = 9
  · rw [if_pos c9] at h
    refine j_tableIn F (pc := 1) (dflt := 117) (lo := 0) (hi := 9) (offs := #[55, 61, 67, 73, 79, 86, 92, 98, 104, 111]) (len := 55) (off := 111) (tgt := 112) (by decide +kernel) (by rw [c9]; decide) (by rw [c9]; decide) (by rw [c9]; decide +kernel) (by decide) ?_
    refine j_aload_n F (pc := 112) (q := 0) (by decide +kernel) rfl ?_
    refine j_aload_n F (pc := 113) (q := 2) (by decide +kernel) rfl ?_
    obtain ⟨r56, μ57, hc59, h⟩ := z_b2_some h
    refine j_callVi F (pc := 114) (idx := 105) (As := [.ref o2]) (st := []) (t_X1_readCosts (G := E.1) hρ hk hb2 hc59) q_X1_readCosts v_X1_readCosts m_530 (hk.s c_2) rfl rfl (by decide) (Nat.le_of_ble_eq_true rfl) rfl (by decide +kernel) (fun s62 ν60 hq61 hp => ?_)
    obtain ⟨rfl, rfl⟩ := hp
    have hρ58 : μ57.2.2 = ρ := hq61.trans hρ
    obtain ⟨hg, h⟩ := z_ifs h
    exact j_iret (st := []) F Rt (z_nb hg) (by decide +kernel) ⟨hρ58, _, rfl, (congrArg Prod.fst (Option.some.inj h)).symm, (congrArg Prod.snd (Option.some.inj h)).symm⟩
  rw [if_neg c9] at h
  refine j_tableOut F (pc := 1) (dflt := 117) (lo := 0) (hi := 9) (offs := #[55, 61, 67, 73, 79, 86, 92, 98, 104, 111]) (len := 55) (tgt := 118) (by decide +kernel) (by have d0 := lv_neT (k := 0) (a := 0) c0 (by decide); have d1 := lv_neT (k := 1) (a := 1) c1 (by decide); have d2 := lv_neT (k := 2) (a := 2) c2 (by decide); have d3 := lv_neT (k := 3) (a := 3) c3 (by decide); have d4 := lv_neT (k := 4) (a := 4) c4 (by decide); have d5 := lv_neT (k := 5) (a := 5) c5 (by decide); have d6 := lv_neT (k := 6) (a := 6) c6 (by decide); have d7 := lv_neT (k := 7) (a := 7) c7 (by decide); have d8 := lv_neT (k := 8) (a := 8) c8 (by decide); have d9 := lv_neT (k := 9) (a := 9) c9 (by decide); omega) (by decide) ?_
  refine j_iconst F (pc := 118) (n := 0) (v := 0) (by decide +kernel) (by decide +kernel) ?_
  exact j_iret (st := []) F Rt rfl (by decide +kernel) ⟨hρ, _, rfl, (congrArg Prod.fst (Option.some.inj h)).symm, (congrArg Prod.snd (Option.some.inj h)).symm⟩
def g_X1_readClose_26    (μ : z_M) : Option z_M :=
  (z_b2 (f_X1_refuse ((1 : Int32)) μ) fun r7 μ8 => (some μ8))
def f_X1_readClose  (μ : z_M) : Option z_M :=
  (z_b1 (f_X1_nextToken  μ) fun μ2 => (if (μ2.1 2 4) = (3 : Int32) then (if z_in (μ2.1 2 5) 240 then (if (μ2.1 3 (μ2.1 2 5).toNatClampNeg) = (59 : Int32) then (some μ2) else (g_X1_readClose_26    μ2)) else none) else (g_X1_readClose_26    μ2)))
set_option maxHeartbeats 4000000 in
set_option maxRecDepth 100000 in
theorem u_X1_readClose_26 {E : z_E} {ρ : Nat → Nat → Option Nat} {μr : z_M} (F : z_F E RX1 cX1_readClose 1 2) (Rt : z_R E none (fun v μ1 => μ1.2.2 = ρ ∧ v = none ∧ μr = μ1))  (hk : z_ok (z_sh E.1) ρ) : ∀  (μ : z_M), μ.2.2 = ρ → g_X1_readClose_26    μ = some μr → z_J E 1 26 [some (.ref 2)] [] μ := by
  intro  μ hρ h
  unfold g_X1_readClose_26 at h
  refine j_aload_n F (pc := 26) (q := 0) (by decide +kernel) rfl ?_
  refine j_iconst F (pc := 27) (n := 1) (v := 1) (by decide +kernel) (by decide +kernel) ?_
  obtain ⟨r7, μ8, hc10, h⟩ := z_b2_some h
  refine j_callVi F (pc := 28) (idx := 62) (As := [.int (1 : Int32)]) (st := []) (t_X1_refuse (G := E.1) hρ hk hc10) q_X1_refuse v_X1_refuse m_465 (hk.s c_2) rfl rfl (by decide) (Nat.le_of_ble_eq_true rfl) rfl (by decide +kernel) (fun s13 ν11 hq12 hp => ?_)
  obtain ⟨rfl, rfl⟩ := hp
  have hρ9 : μ8.2.2 = ρ := hq12.trans hρ
  refine j_pop F (pc := 31) (by decide +kernel) rfl ?_
  exact j_vret (st := []) F Rt (by decide +kernel) ⟨hρ9, rfl, (Option.some.inj h).symm⟩
set_option maxHeartbeats 4000000 in
set_option maxRecDepth 100000 in
theorem t_X1_readClose {G : z_Gl} {ρ : Nat → Nat → Option Nat} {μ : z_M} {μr : z_M}  (hρ : μ.2.2 = ρ) (hk : z_ok (z_sh G) ρ) (h : f_X1_readClose  μ = some μr) : z_Cv G yX1_readClose cX1_readClose 1 none 2 [.ref 2] μ (fun μ1 => μr = μ1) := by
  unfold z_Cv
  refine z_intro (by decide +kernel) (Nat.le_of_ble_eq_true rfl) (fun E hE F Rt => ?_)
  subst hE
  have F : z_F E RX1 cX1_readClose 1 2 := F
  rw [hρ] at Rt
  unfold f_X1_readClose at h
  show z_J E 1 0 [some (.ref 2)] [] μ
  refine j_aload_n F (pc := 0) (q := 0) (by decide +kernel) rfl ?_
  obtain ⟨μ2, hc4, h⟩ := z_b1_some h
  refine j_callVv F (pc := 1) (idx := 39) (As := []) (st := []) (t_X1_nextToken (G := E.1) hρ hk hc4) q_X1_nextToken v_X1_nextToken m_394 (hk.s c_2) rfl rfl (by decide) (Nat.le_of_ble_eq_true rfl) rfl (by decide +kernel) (fun ν5 hq6 hp => ?_)
  subst hp
  have hρ3 : μ2.2.2 = ρ := hq6.trans hρ
  refine j_aload_n F (pc := 4) (q := 0) (by decide +kernel) rfl ?_
  refine j_getI F (pc := 5) fl_X1_42 (hk.s c_2) rfl (by decide +kernel) ?_
  refine j_iconst F (pc := 8) (n := 3) (v := 3) (by decide +kernel) (by decide +kernel) ?_
  refine j_icmp_ne F (pc := 9) (off := 17) (tgt := 26) (by decide +kernel) (by decide) (fun c => ?_) (fun c => ?_)
  · rw [if_neg c] at h
    refine u_X1_readClose_26 F Rt hk   _ hρ3 h
  · rw [if_pos c] at h
    refine j_aload_n F (pc := 12) (q := 0) (by decide +kernel) rfl ?_
    refine j_getR F (pc := 13) (hk.r hρ3 r_2_0) fl_X1_9 (hk.s c_2) rfl (by decide +kernel) ?_
    refine j_aload_n F (pc := 16) (q := 0) (by decide +kernel) rfl ?_
    refine j_getI F (pc := 17) fl_X1_154 (hk.s c_2) rfl (by decide +kernel) ?_
    obtain ⟨hg, h⟩ := z_ifs h
    refine j_iald F (pc := 20) (hk.s c_3) hg (by decide +kernel) ?_
    refine j_bipush F (pc := 21) (n := 59) (v := 59) (by decide +kernel) (by decide +kernel) ?_
    refine j_icmp_eq F (pc := 23) (off := 9) (tgt := 32) (by decide +kernel) (by decide) (fun c => ?_) (fun c => ?_)
    · rw [if_pos c] at h
      exact j_vret (st := []) F Rt (by decide +kernel) ⟨hρ3, rfl, (Option.some.inj h).symm⟩
    · rw [if_neg c] at h
      refine u_X1_readClose_26 F Rt hk   _ hρ3 h
def g_X1_readInto_80 (o1 : Nat) (k_35 : Int32 → z_M → Option (Int32 × z_M)) (x2 : Int32) (μ : z_M) : Option (Int32 × z_M) :=
  (z_b1 (f_X1_nextToken  μ) fun μ45 => (k_35 ((x2 + (1 : Int32))) μ45))
def g_X1_readInto_35 (o1 : Nat)  : Nat → Int32 → z_M → Option (Int32 × z_M)
  | 0, _, _ => none
  | n + 1, x2, μ => (if (μ.1 2 4) = 0 then (z_st (z_si μ 2 1 (0 : Int32)) fun μ28 => (some (x2, μ28))) else (if (μ.1 2 2) = 0 then (if (240 : Int32) ≤ x2 then (z_st (z_si μ 2 1 (0 : Int32)) fun μ34 => (some (x2, μ34))) else (z_b2 (f_X1_beginClause (o1) μ) fun r37 μ38 => (if r37 = (-1 : Int32) then (g_X1_readInto_80 o1 (fun (y52 : Int32) (μ50 : z_M) => (g_X1_readInto_35 o1  n (y52) μ50)) (x2) μ38) else (z_b2 (f_X1_readBody (r37) (o1) μ38) fun r53 μ54 => (if r53 = 0 then (g_X1_readInto_80 o1 (fun (y62 : Int32) (μ60 : z_M) => (g_X1_readInto_35 o1  n (y62) μ60)) (x2) μ54) else (z_b1 (f_X1_readClose  μ54) fun μ64 => (g_X1_readInto_80 o1 (fun (y71 : Int32) (μ69 : z_M) => (g_X1_readInto_35 o1  n (y71) μ69)) (x2) μ64))))))) else (z_st (z_si μ 2 1 (0 : Int32)) fun μ31 => (some (x2, μ31)))))
def f_X1_readInto (o1 : Nat) (μ : z_M) : Option (Int32 × z_M) :=
  (z_b1 (f_X0_tellNothing (o1) μ) fun μ2 => (z_st (z_si μ2 2 2 (0 : Int32)) fun μ7 => (z_st (z_si μ7 2 3 (-1 : Int32)) fun μ10 => (z_st (z_si μ10 2 6 (0 : Int32)) fun μ13 => (z_st (z_si μ13 2 7 (0 : Int32)) fun μ16 => (z_st (z_si μ16 2 8 (0 : Int32)) fun μ19 => (z_b1 (f_X1_nextToken  μ19) fun μ23 => (g_X1_readInto_35 o1  z_N ((0 : Int32)) μ23))))))))
set_option maxHeartbeats 4000000 in
set_option maxRecDepth 100000 in
theorem u_X1_readInto_80 {E : z_E} {ρ : Nat → Nat → Option Nat} {r : Int32} {μr : z_M} (F : z_F E RX1 cX1_readInto 4 10) (Rt : z_R E (some .int) (fun v μ1 => μ1.2.2 = ρ ∧ ∃ r1, v = some (.int r1) ∧ r = r1 ∧ μr = μ1)) {o1 : Nat} (hk : z_ok (z_sh E.1) ρ) (hb1 : z_blk z_lawS z_lawR (z_sh E.1) ρ o1) {k_35 : Int32 → z_M → Option (Int32 × z_M)} (hc_35 : ∀ (y2 : Int32) (μ1 : z_M), μ1.2.2 = ρ → k_35 y2 μ1 = some (r, μr) → z_J E 4 35 [some (.ref 2), some (.ref o1), some (.int y2), none] [] μ1) : ∀ (x2 : Int32) (μ : z_M), μ.2.2 = ρ → g_X1_readInto_80 o1 k_35 x2 μ = some (r, μr) → z_J E 4 80 [some (.ref 2), some (.ref o1), some (.int x2), none] [] μ := by
  intro x2 μ hρ h
  unfold g_X1_readInto_80 at h
  refine j_iinc F (pc := 80) (i := 2) (n := 1) (v := 1) (L' := [some (.ref 2), some (.ref o1), some (.int (x2 + (1 : Int32))), none]) (by decide +kernel) rfl (by decide +kernel) (by decide) rfl rfl ?_
  refine j_aload_n F (pc := 83) (q := 0) (by decide +kernel) rfl ?_
  obtain ⟨μ45, hc47, h⟩ := z_b1_some h
  refine j_callVv F (pc := 84) (idx := 39) (As := []) (st := []) (t_X1_nextToken (G := E.1) hρ hk hc47) q_X1_nextToken v_X1_nextToken m_394 (hk.s c_2) rfl rfl (by decide) (Nat.le_of_ble_eq_true rfl) rfl (by decide +kernel) (fun ν48 hq49 hp => ?_)
  subst hp
  have hρ46 : μ45.2.2 = ρ := hq49.trans hρ
  refine j_goto F (pc := 87) (off := -52) (tgt := 35) (by decide +kernel) (by decide) ?_
  exact hc_35 _ _ hρ46 h
set_option maxHeartbeats 4000000 in
set_option maxRecDepth 100000 in
theorem u_X1_readInto_35 {E : z_E} {ρ : Nat → Nat → Option Nat} {r : Int32} {μr : z_M} (F : z_F E RX1 cX1_readInto 4 10) (Rt : z_R E (some .int) (fun v μ1 => μ1.2.2 = ρ ∧ ∃ r1, v = some (.int r1) ∧ r = r1 ∧ μr = μ1)) {o1 : Nat} (hk : z_ok (z_sh E.1) ρ) (hb1 : z_blk z_lawS z_lawR (z_sh E.1) ρ o1) : ∀ (n : Nat) (x2 : Int32) (μ : z_M), μ.2.2 = ρ → g_X1_readInto_35 o1  n x2 μ = some (r, μr) → z_J E 4 35 [some (.ref 2), some (.ref o1), some (.int x2), none] [] μ := by
  intro n
  induction n with
  | zero =>
    intro x2 μ hρ h
    rw [g_X1_readInto_35] at h
    cases h
  | succ n ih =>
    intro x2 μ hρ h
    rw [g_X1_readInto_35] at h
    refine j_aload_n F (pc := 35) (q := 0) (by decide +kernel) rfl ?_
    refine j_getI F (pc := 36) fl_X1_42 (hk.s c_2) rfl (by decide +kernel) ?_
    refine j_if_eq F (pc := 39) (off := 51) (tgt := 90) (by decide +kernel) (by decide) (fun c => ?_) (fun c => ?_)
    · rw [if_pos c] at h
      refine j_aload_n F (pc := 90) (q := 0) (by decide +kernel) rfl ?_
      refine j_iconst F (pc := 91) (n := 0) (v := 0) (by decide +kernel) (by decide +kernel) ?_
      refine j_putI F (pc := 92) fl_X1_22 fp_X1_1 (hk.s c_2) rfl (by decide +kernel) ?_
      obtain ⟨μ28, e30, h⟩ := z_st_some h
      rw [← e30]
      have hρ29 : μ28.2.2 = ρ := by rw [e30]; exact hρ
      refine j_iload_n F (pc := 95) (q := 2) (by decide +kernel) rfl ?_
      exact j_iret (st := []) F Rt rfl (by decide +kernel) ⟨hρ29, _, rfl, (congrArg Prod.fst (Option.some.inj h)).symm, (congrArg Prod.snd (Option.some.inj h)).symm⟩
    · rw [if_neg c] at h
      refine j_aload_n F (pc := 42) (q := 0) (by decide +kernel) rfl ?_
      refine j_getI F (pc := 43) fl_X1_15 (hk.s c_2) rfl (by decide +kernel) ?_
      refine j_if_ne F (pc := 46) (off := 44) (tgt := 90) (by decide +kernel) (by decide) (fun c => ?_) (fun c => ?_)
      · rw [if_neg c] at h
        refine j_aload_n F (pc := 90) (q := 0) (by decide +kernel) rfl ?_
        refine j_iconst F (pc := 91) (n := 0) (v := 0) (by decide +kernel) (by decide +kernel) ?_
        refine j_putI F (pc := 92) fl_X1_22 fp_X1_1 (hk.s c_2) rfl (by decide +kernel) ?_
        obtain ⟨μ31, e33, h⟩ := z_st_some h
        rw [← e33]
        have hρ32 : μ31.2.2 = ρ := by rw [e33]; exact hρ
        refine j_iload_n F (pc := 95) (q := 2) (by decide +kernel) rfl ?_
        exact j_iret (st := []) F Rt rfl (by decide +kernel) ⟨hρ32, _, rfl, (congrArg Prod.fst (Option.some.inj h)).symm, (congrArg Prod.snd (Option.some.inj h)).symm⟩
      · rw [if_pos c] at h
        refine j_iload_n F (pc := 49) (q := 2) (by decide +kernel) rfl ?_
        refine j_sipush F (pc := 50) (n := 240) (v := 240) (by decide +kernel) (by decide +kernel) ?_
        refine j_icmp_ge F (pc := 53) (off := 37) (tgt := 90) (by decide +kernel) (by decide) (fun c => ?_) (fun c => ?_)
        · rw [if_pos c] at h
          refine j_aload_n F (pc := 90) (q := 0) (by decide +kernel) rfl ?_
          refine j_iconst F (pc := 91) (n := 0) (v := 0) (by decide +kernel) (by decide +kernel) ?_
          refine j_putI F (pc := 92) fl_X1_22 fp_X1_1 (hk.s c_2) rfl (by decide +kernel) ?_
          obtain ⟨μ34, e36, h⟩ := z_st_some h
          rw [← e36]
          have hρ35 : μ34.2.2 = ρ := by rw [e36]; exact hρ
          refine j_iload_n F (pc := 95) (q := 2) (by decide +kernel) rfl ?_
          exact j_iret (st := []) F Rt rfl (by decide +kernel) ⟨hρ35, _, rfl, (congrArg Prod.fst (Option.some.inj h)).symm, (congrArg Prod.snd (Option.some.inj h)).symm⟩
        · rw [if_neg c] at h
          refine j_aload_n F (pc := 56) (q := 0) (by decide +kernel) rfl ?_
          refine j_aload_n F (pc := 57) (q := 1) (by decide +kernel) rfl ?_
          obtain ⟨r37, μ38, hc40, h⟩ := z_b2_some h
          refine j_callVi F (pc := 58) (idx := 45) (As := [.ref o1]) (st := []) (t_X1_beginClause (G := E.1) hρ hk hb1 hc40) q_X1_beginClause v_X1_beginClause m_404 (hk.s c_2) rfl rfl (by decide) (Nat.le_of_ble_eq_true rfl) rfl (by decide +kernel) (fun s43 ν41 hq42 hp => ?_)
          obtain ⟨rfl, rfl⟩ := hp
          have hρ39 : μ38.2.2 = ρ := hq42.trans hρ
          refine j_istore_n F (pc := 61) (q := 3) (L' := [some (.ref 2), some (.ref o1), some (.int x2), some (.int r37)]) (by decide +kernel) (by decide) rfl rfl ?_
          refine j_iload_n F (pc := 62) (q := 3) (by decide +kernel) rfl ?_
          refine j_iconst F (pc := 63) (n := -1) (v := -1) (by decide +kernel) (by decide +kernel) ?_
          refine j_icmp_eq F (pc := 64) (off := 16) (tgt := 80) (by decide +kernel) (by decide) (fun c => ?_) (fun c => ?_)
          · rw [if_pos c] at h
            refine j_mk F [true, true, true, false] (L' := [some (.ref 2), some (.ref o1), some (.int x2), none]) rfl ?_
            refine u_X1_readInto_80 F Rt hk hb1 (fun y52 μ50 hρ51 h => ?_) _ _ hρ39 h
            exact ih _ _ hρ51 h
          · rw [if_neg c] at h
            refine j_aload_n F (pc := 67) (q := 0) (by decide +kernel) rfl ?_
            refine j_iload_n F (pc := 68) (q := 3) (by decide +kernel) rfl ?_
            refine j_aload_n F (pc := 69) (q := 1) (by decide +kernel) rfl ?_
            obtain ⟨r53, μ54, hc56, h⟩ := z_b2_some h
            refine j_callVi F (pc := 70) (idx := 49) (As := [.int r37, .ref o1]) (st := []) (t_X1_readBody (G := E.1) hρ39 hk hb1 hc56) q_X1_readBody v_X1_readBody m_476 (hk.s c_2) rfl rfl (by decide) (Nat.le_of_ble_eq_true rfl) rfl (by decide +kernel) (fun s59 ν57 hq58 hp => ?_)
            obtain ⟨rfl, rfl⟩ := hp
            have hρ55 : μ54.2.2 = ρ := hq58.trans hρ39
            refine j_if_eq F (pc := 73) (off := 7) (tgt := 80) (by decide +kernel) (by decide) (fun c => ?_) (fun c => ?_)
            · rw [if_pos c] at h
              refine j_mk F [true, true, true, false] (L' := [some (.ref 2), some (.ref o1), some (.int x2), none]) rfl ?_
              refine u_X1_readInto_80 F Rt hk hb1 (fun y62 μ60 hρ61 h => ?_) _ _ hρ55 h
              exact ih _ _ hρ61 h
            · rw [if_neg c] at h
              refine j_aload_n F (pc := 76) (q := 0) (by decide +kernel) rfl ?_
              obtain ⟨μ64, hc66, h⟩ := z_b1_some h
              refine j_callVv F (pc := 77) (idx := 53) (As := []) (st := []) (t_X1_readClose (G := E.1) hρ55 hk hc66) q_X1_readClose v_X1_readClose m_534 (hk.s c_2) rfl rfl (by decide) (Nat.le_of_ble_eq_true rfl) rfl (by decide +kernel) (fun ν67 hq68 hp => ?_)
              subst hp
              have hρ65 : μ64.2.2 = ρ := hq68.trans hρ55
              refine j_mk F [true, true, true, false] (L' := [some (.ref 2), some (.ref o1), some (.int x2), none]) rfl ?_
              refine u_X1_readInto_80 F Rt hk hb1 (fun y71 μ69 hρ70 h => ?_) _ _ hρ65 h
              exact ih _ _ hρ70 h
set_option maxHeartbeats 4000000 in
set_option maxRecDepth 100000 in
theorem t_X1_readInto {G : z_Gl} {ρ : Nat → Nat → Option Nat} {μ : z_M} {r : Int32} {μr : z_M} {o1 : Nat} (hρ : μ.2.2 = ρ) (hk : z_ok (z_sh G) ρ) (hb1 : z_blk z_lawS z_lawR (z_sh G) ρ o1) (h : f_X1_readInto o1 μ = some (r, μr)) : z_Ci G yX1_readInto cX1_readInto 4 (some .int) 10 [.ref 2, .ref o1] μ (fun r1 μ1 => r = r1 ∧ μr = μ1) := by
  unfold z_Ci
  refine z_intro (by decide +kernel) (Nat.le_of_ble_eq_true rfl) (fun E hE F Rt => ?_)
  subst hE
  have F : z_F E RX1 cX1_readInto 4 10 := F
  rw [hρ] at Rt
  unfold f_X1_readInto at h
  show z_J E 4 0 [some (.ref 2), some (.ref o1), none, none] [] μ
  refine j_aload_n F (pc := 0) (q := 1) (by decide +kernel) rfl ?_
  obtain ⟨μ2, hc4, h⟩ := z_b1_some h
  refine j_callVv F (pc := 1) (idx := 25) (As := []) (st := []) (t_X0_tellNothing (G := E.1) hρ hb1 hc4) q_X0_tellNothing v_X0_tellNothing m_393 (hb1.1 0 _ rfl) rfl rfl (by decide) (Nat.le_of_ble_eq_true rfl) rfl (by decide +kernel) (fun ν5 hq6 hp => ?_)
  subst hp
  have hρ3 : μ2.2.2 = ρ := hq6.trans hρ
  refine j_aload_n F (pc := 4) (q := 0) (by decide +kernel) rfl ?_
  refine j_iconst F (pc := 5) (n := 0) (v := 0) (by decide +kernel) (by decide +kernel) ?_
  refine j_putI F (pc := 6) fl_X1_15 fp_X1_2 (hk.s c_2) rfl (by decide +kernel) ?_
  obtain ⟨μ7, e9, h⟩ := z_st_some h
  rw [← e9]
  have hρ8 : μ7.2.2 = ρ := by rw [e9]; exact hρ3
  refine j_aload_n F (pc := 9) (q := 0) (by decide +kernel) rfl ?_
  refine j_iconst F (pc := 10) (n := -1) (v := -1) (by decide +kernel) (by decide +kernel) ?_
  refine j_putI F (pc := 11) fl_X1_19 fp_X1_3 (hk.s c_2) rfl (by decide +kernel) ?_
  obtain ⟨μ10, e12, h⟩ := z_st_some h
  rw [← e12]
  have hρ11 : μ10.2.2 = ρ := by rw [e12]; exact hρ8
  refine j_aload_n F (pc := 14) (q := 0) (by decide +kernel) rfl ?_
  refine j_iconst F (pc := 15) (n := 0) (v := 0) (by decide +kernel) (by decide +kernel) ?_
  refine j_putI F (pc := 16) fl_X1_30 fp_X1_6 (hk.s c_2) rfl (by decide +kernel) ?_
  obtain ⟨μ13, e15, h⟩ := z_st_some h
  rw [← e15]
  have hρ14 : μ13.2.2 = ρ := by rw [e15]; exact hρ11
  refine j_aload_n F (pc := 19) (q := 0) (by decide +kernel) rfl ?_
  refine j_iconst F (pc := 20) (n := 0) (v := 0) (by decide +kernel) (by decide +kernel) ?_
  refine j_putI F (pc := 21) fl_X1_33 fp_X1_7 (hk.s c_2) rfl (by decide +kernel) ?_
  obtain ⟨μ16, e18, h⟩ := z_st_some h
  rw [← e18]
  have hρ17 : μ16.2.2 = ρ := by rw [e18]; exact hρ14
  refine j_aload_n F (pc := 24) (q := 0) (by decide +kernel) rfl ?_
  refine j_iconst F (pc := 25) (n := 0) (v := 0) (by decide +kernel) (by decide +kernel) ?_
  refine j_putI F (pc := 26) fl_X1_36 fp_X1_8 (hk.s c_2) rfl (by decide +kernel) ?_
  obtain ⟨μ19, e21, h⟩ := z_st_some h
  rw [← e21]
  have hρ20 : μ19.2.2 = ρ := by rw [e21]; exact hρ17
  refine j_iconst F (pc := 29) (n := 0) (v := 0) (by decide +kernel) (by decide +kernel) ?_
  refine j_istore_n F (pc := 30) (q := 2) (L' := [some (.ref 2), some (.ref o1), some (.int (0 : Int32)), none]) (by decide +kernel) (by decide) rfl rfl ?_
  refine j_aload_n F (pc := 31) (q := 0) (by decide +kernel) rfl ?_
  obtain ⟨μ23, hc25, h⟩ := z_b1_some h
  refine j_callVv F (pc := 32) (idx := 39) (As := []) (st := []) (t_X1_nextToken (G := E.1) hρ20 hk hc25) q_X1_nextToken v_X1_nextToken m_394 (hk.s c_2) rfl rfl (by decide) (Nat.le_of_ble_eq_true rfl) rfl (by decide +kernel) (fun ν26 hq27 hp => ?_)
  subst hp
  have hρ24 : μ23.2.2 = ρ := hq27.trans hρ20
  refine u_X1_readInto_35 F Rt hk hb1  z_N _ _ hρ24 h
def g_X0_followSteps_10 (o : Nat) (k_2 : Int32 → z_M → Option z_M) : Nat → Int32 → Int32 → z_M → Option z_M
  | 0, _, _, _ => none
  | n + 1, x1, x2, μ => (if (8 : Int32) ≤ x2 then (k_2 ((x1 + (1 : Int32))) μ) else (if z_in x2 8 then (z_b2 (f_X4_bit ((μ.1 (o + 3) x2.toNatClampNeg)) (x1) μ) fun r1 μ2 => (if r1 = (1 : Int32) then (if z_in x2 8 then (if z_in x1 8 then (if z_in x2 8 then (z_st (z_si μ2 (o + 3) x2.toNatClampNeg ((μ2.1 (o + 3) x2.toNatClampNeg) ||| (μ2.1 (o + 3) x1.toNatClampNeg))) fun μ8 => (g_X0_followSteps_10 o k_2 n (x1) ((x2 + (1 : Int32))) μ8)) else none) else none) else none) else (g_X0_followSteps_10 o k_2 n (x1) ((x2 + (1 : Int32))) μ2))) else none))
def g_X0_followSteps_2 (o : Nat)  : Nat → Int32 → z_M → Option z_M
  | 0, _, _ => none
  | n + 1, x1, μ => (if (8 : Int32) ≤ x1 then (some μ) else (g_X0_followSteps_10 o (fun (y13 : Int32) (μ11 : z_M) => (g_X0_followSteps_2 o  n (y13) μ11)) z_N (x1) ((0 : Int32)) μ))
def f_X0_followSteps (o : Nat) (μ : z_M) : Option z_M :=
  (g_X0_followSteps_2 o  z_N ((0 : Int32)) μ)
set_option maxHeartbeats 4000000 in
set_option maxRecDepth 100000 in
theorem u_X0_followSteps_10 {E : z_E} {ρ : Nat → Nat → Option Nat} {μr : z_M} (F : z_F E RX0 cX0_followSteps 3 1) (Rt : z_R E none (fun v μ1 => μ1.2.2 = ρ ∧ v = none ∧ μr = μ1)) {o : Nat} (hb : z_blk z_lawS z_lawR (z_sh E.1) ρ o) {k_2 : Int32 → z_M → Option z_M} (hc_2 : ∀ (y1 : Int32) (μ1 : z_M), μ1.2.2 = ρ → k_2 y1 μ1 = some μr → z_J E 3 2 [some (.ref o), some (.int y1), none] [] μ1) : ∀ (n : Nat) (x1 : Int32) (x2 : Int32) (μ : z_M), μ.2.2 = ρ → g_X0_followSteps_10 o k_2 n x1 x2 μ = some μr → z_J E 3 10 [some (.ref o), some (.int x1), some (.int x2)] [] μ := by
  intro n
  induction n with
  | zero =>
    intro x1 x2 μ hρ h
    rw [g_X0_followSteps_10] at h
    cases h
  | succ n ih =>
    intro x1 x2 μ hρ h
    rw [g_X0_followSteps_10] at h
    refine j_iload_n F (pc := 10) (q := 2) (by decide +kernel) rfl ?_
    refine j_bipush F (pc := 11) (n := 8) (v := 8) (by decide +kernel) (by decide +kernel) ?_
    refine j_icmp_ge F (pc := 13) (off := 38) (tgt := 51) (by decide +kernel) (by decide) (fun c => ?_) (fun c => ?_)
    · rw [if_pos c] at h
      refine j_iinc F (pc := 51) (i := 1) (n := 1) (v := 1) (L' := [some (.ref o), some (.int (x1 + (1 : Int32))), some (.int x2)]) (by decide +kernel) rfl (by decide +kernel) (by decide) rfl rfl ?_
      refine j_goto F (pc := 54) (off := -52) (tgt := 2) (by decide +kernel) (by decide) ?_
      refine j_mk F [true, true, false] (L' := [some (.ref o), some (.int (x1 + (1 : Int32))), none]) rfl ?_
      exact hc_2 _ _ hρ h
    · rw [if_neg c] at h
      refine j_aload_n F (pc := 16) (q := 0) (by decide +kernel) rfl ?_
      refine j_getR F (pc := 17) (hb.r hρ 2 rfl) fl_X0_18 (hb.1 0 _ rfl) rfl (by decide +kernel) ?_
      refine j_iload_n F (pc := 20) (q := 2) (by decide +kernel) rfl ?_
      obtain ⟨hg, h⟩ := z_ifs h
      refine j_iald F (pc := 21) (hb.1 3 _ rfl) hg (by decide +kernel) ?_
      refine j_iload_n F (pc := 22) (q := 1) (by decide +kernel) rfl ?_
      obtain ⟨r1, μ2, hc4, h⟩ := z_b2_some h
      refine j_callNi F (pc := 23) (idx := 59) (As := [.int (μ.1 (o + 3) x2.toNatClampNeg), .int x1]) (st := []) (t_X4_bit (G := E.1) hρ  hc4) q_X4_bit m_474 (by decide +kernel) rfl (by decide) (Nat.le_of_ble_eq_true rfl) rfl (by decide +kernel) (fun s7 ν5 hq6 hp => ?_)
      obtain ⟨rfl, rfl⟩ := hp
      have hρ3 : μ2.2.2 = ρ := hq6.trans hρ
      refine j_iconst F (pc := 26) (n := 1) (v := 1) (by decide +kernel) (by decide +kernel) ?_
      refine j_icmp_ne F (pc := 27) (off := 18) (tgt := 45) (by decide +kernel) (by decide) (fun c => ?_) (fun c => ?_)
      · rw [if_neg c] at h
        refine j_iinc F (pc := 45) (i := 2) (n := 1) (v := 1) (L' := [some (.ref o), some (.int x1), some (.int (x2 + (1 : Int32)))]) (by decide +kernel) rfl (by decide +kernel) (by decide) rfl rfl ?_
        refine j_goto F (pc := 48) (off := -38) (tgt := 10) (by decide +kernel) (by decide) ?_
        exact ih _ _ _ hρ3 h
      · rw [if_pos c] at h
        refine j_aload_n F (pc := 30) (q := 0) (by decide +kernel) rfl ?_
        refine j_getR F (pc := 31) (hb.r hρ3 2 rfl) fl_X0_18 (hb.1 0 _ rfl) rfl (by decide +kernel) ?_
        refine j_iload_n F (pc := 34) (q := 2) (by decide +kernel) rfl ?_
        refine j_dup2 F (pc := 35) (by decide +kernel) rfl rfl ?_
        obtain ⟨hg, h⟩ := z_ifs h
        refine j_iald F (pc := 36) (hb.1 3 _ rfl) hg (by decide +kernel) ?_
        refine j_aload_n F (pc := 37) (q := 0) (by decide +kernel) rfl ?_
        refine j_getR F (pc := 38) (hb.r hρ3 2 rfl) fl_X0_18 (hb.1 0 _ rfl) rfl (by decide +kernel) ?_
        refine j_iload_n F (pc := 41) (q := 1) (by decide +kernel) rfl ?_
        obtain ⟨hg, h⟩ := z_ifs h
        refine j_iald F (pc := 42) (hb.1 3 _ rfl) hg (by decide +kernel) ?_
        refine j_ior F (pc := 43) (by decide +kernel) ?_
        obtain ⟨hg, h⟩ := z_ifs h
        refine j_iast F (pc := 44) (hb.1 3 _ rfl) hg (by decide +kernel) ?_
        obtain ⟨μ8, e10, h⟩ := z_st_some h
        rw [← e10]
        have hρ9 : μ8.2.2 = ρ := by rw [e10]; exact hρ3
        refine j_iinc F (pc := 45) (i := 2) (n := 1) (v := 1) (L' := [some (.ref o), some (.int x1), some (.int (x2 + (1 : Int32)))]) (by decide +kernel) rfl (by decide +kernel) (by decide) rfl rfl ?_
        refine j_goto F (pc := 48) (off := -38) (tgt := 10) (by decide +kernel) (by decide) ?_
        exact ih _ _ _ hρ9 h
set_option maxHeartbeats 4000000 in
set_option maxRecDepth 100000 in
theorem u_X0_followSteps_2 {E : z_E} {ρ : Nat → Nat → Option Nat} {μr : z_M} (F : z_F E RX0 cX0_followSteps 3 1) (Rt : z_R E none (fun v μ1 => μ1.2.2 = ρ ∧ v = none ∧ μr = μ1)) {o : Nat} (hb : z_blk z_lawS z_lawR (z_sh E.1) ρ o) : ∀ (n : Nat) (x1 : Int32) (μ : z_M), μ.2.2 = ρ → g_X0_followSteps_2 o  n x1 μ = some μr → z_J E 3 2 [some (.ref o), some (.int x1), none] [] μ := by
  intro n
  induction n with
  | zero =>
    intro x1 μ hρ h
    rw [g_X0_followSteps_2] at h
    cases h
  | succ n ih =>
    intro x1 μ hρ h
    rw [g_X0_followSteps_2] at h
    refine j_iload_n F (pc := 2) (q := 1) (by decide +kernel) rfl ?_
    refine j_bipush F (pc := 3) (n := 8) (v := 8) (by decide +kernel) (by decide +kernel) ?_
    refine j_icmp_ge F (pc := 5) (off := 52) (tgt := 57) (by decide +kernel) (by decide) (fun c => ?_) (fun c => ?_)
    · rw [if_pos c] at h
      exact j_vret (st := []) F Rt (by decide +kernel) ⟨hρ, rfl, (Option.some.inj h).symm⟩
    · rw [if_neg c] at h
      refine j_iconst F (pc := 8) (n := 0) (v := 0) (by decide +kernel) (by decide +kernel) ?_
      refine j_istore_n F (pc := 9) (q := 2) (L' := [some (.ref o), some (.int x1), some (.int (0 : Int32))]) (by decide +kernel) (by decide) rfl rfl ?_
      refine u_X0_followSteps_10 F Rt hb (fun y13 μ11 hρ12 h => ?_) z_N _ _ _ hρ h
      exact ih _ _ hρ12 h
set_option maxHeartbeats 4000000 in
set_option maxRecDepth 100000 in
theorem t_X0_followSteps {G : z_Gl} {ρ : Nat → Nat → Option Nat} {μ : z_M} {μr : z_M} {o : Nat} (hρ : μ.2.2 = ρ) (hb : z_blk z_lawS z_lawR (z_sh G) ρ o) (h : f_X0_followSteps o μ = some μr) : z_Cv G yX0_followSteps cX0_followSteps 3 none 1 [.ref o] μ (fun μ1 => μr = μ1) := by
  unfold z_Cv
  refine z_intro (by decide +kernel) (Nat.le_of_ble_eq_true rfl) (fun E hE F Rt => ?_)
  subst hE
  have F : z_F E RX0 cX0_followSteps 3 1 := F
  rw [hρ] at Rt
  unfold f_X0_followSteps at h
  show z_J E 3 0 [some (.ref o), none, none] [] μ
  refine j_iconst F (pc := 0) (n := 0) (v := 0) (by decide +kernel) (by decide +kernel) ?_
  refine j_istore_n F (pc := 1) (q := 1) (L' := [some (.ref o), some (.int (0 : Int32)), none]) (by decide +kernel) (by decide) rfl rfl ?_
  refine u_X0_followSteps_2 F Rt hb  z_N _ _ hρ h
def g_X0_raiseRanks_10 (o : Nat) (k_2 : Int32 → z_M → Option z_M) : Nat → Int32 → Int32 → z_M → Option z_M
  | 0, _, _, _ => none
  | n + 1, x1, x2, μ => (if (8 : Int32) ≤ x2 then (k_2 ((x1 + (1 : Int32))) μ) else (if z_in x2 8 then (z_b2 (f_X4_bit ((μ.1 (o + 3) x2.toNatClampNeg)) (x1) μ) fun r1 μ2 => (if r1 = (1 : Int32) then (if z_in x1 8 then (z_b2 (f_X4_bit ((μ2.1 (o + 3) x1.toNatClampNeg)) (x2) μ2) fun r8 μ9 => (if r8 = 0 then (if z_in x1 8 then (if z_in x2 8 then (if z_in x1 8 then (z_st (z_si μ9 (o + 4) x1.toNatClampNeg (if (μ9.1 (o + 4) x1.toNatClampNeg) < ((μ9.1 (o + 4) x2.toNatClampNeg) + (1 : Int32)) then ((μ9.1 (o + 4) x2.toNatClampNeg) + (1 : Int32)) else (μ9.1 (o + 4) x1.toNatClampNeg))) fun μ15 => (g_X0_raiseRanks_10 o k_2 n (x1) ((x2 + (1 : Int32))) μ15)) else none) else none) else none) else (g_X0_raiseRanks_10 o k_2 n (x1) ((x2 + (1 : Int32))) μ9))) else none) else (g_X0_raiseRanks_10 o k_2 n (x1) ((x2 + (1 : Int32))) μ2))) else none))
def g_X0_raiseRanks_2 (o : Nat)  : Nat → Int32 → z_M → Option z_M
  | 0, _, _ => none
  | n + 1, x1, μ => (if (8 : Int32) ≤ x1 then (some μ) else (g_X0_raiseRanks_10 o (fun (y20 : Int32) (μ18 : z_M) => (g_X0_raiseRanks_2 o  n (y20) μ18)) z_N (x1) ((0 : Int32)) μ))
def f_X0_raiseRanks (o : Nat) (μ : z_M) : Option z_M :=
  (g_X0_raiseRanks_2 o  z_N ((0 : Int32)) μ)
set_option maxHeartbeats 4000000 in
set_option maxRecDepth 100000 in
theorem u_X0_raiseRanks_10 {E : z_E} {ρ : Nat → Nat → Option Nat} {μr : z_M} (F : z_F E RX0 cX0_raiseRanks 3 1) (Rt : z_R E none (fun v μ1 => μ1.2.2 = ρ ∧ v = none ∧ μr = μ1)) {o : Nat} (hb : z_blk z_lawS z_lawR (z_sh E.1) ρ o) {k_2 : Int32 → z_M → Option z_M} (hc_2 : ∀ (y1 : Int32) (μ1 : z_M), μ1.2.2 = ρ → k_2 y1 μ1 = some μr → z_J E 3 2 [some (.ref o), some (.int y1), none] [] μ1) : ∀ (n : Nat) (x1 : Int32) (x2 : Int32) (μ : z_M), μ.2.2 = ρ → g_X0_raiseRanks_10 o k_2 n x1 x2 μ = some μr → z_J E 3 10 [some (.ref o), some (.int x1), some (.int x2)] [] μ := by
  intro n
  induction n with
  | zero =>
    intro x1 x2 μ hρ h
    rw [g_X0_raiseRanks_10] at h
    cases h
  | succ n ih =>
    intro x1 x2 μ hρ h
    rw [g_X0_raiseRanks_10] at h
    refine j_iload_n F (pc := 10) (q := 2) (by decide +kernel) rfl ?_
    refine j_bipush F (pc := 11) (n := 8) (v := 8) (by decide +kernel) (by decide +kernel) ?_
    refine j_icmp_ge F (pc := 13) (off := 59) (tgt := 72) (by decide +kernel) (by decide) (fun c => ?_) (fun c => ?_)
    · rw [if_pos c] at h
      refine j_iinc F (pc := 72) (i := 1) (n := 1) (v := 1) (L' := [some (.ref o), some (.int (x1 + (1 : Int32))), some (.int x2)]) (by decide +kernel) rfl (by decide +kernel) (by decide) rfl rfl ?_
      refine j_goto F (pc := 75) (off := -73) (tgt := 2) (by decide +kernel) (by decide) ?_
      refine j_mk F [true, true, false] (L' := [some (.ref o), some (.int (x1 + (1 : Int32))), none]) rfl ?_
      exact hc_2 _ _ hρ h
    · rw [if_neg c] at h
      refine j_aload_n F (pc := 16) (q := 0) (by decide +kernel) rfl ?_
      refine j_getR F (pc := 17) (hb.r hρ 2 rfl) fl_X0_18 (hb.1 0 _ rfl) rfl (by decide +kernel) ?_
      refine j_iload_n F (pc := 20) (q := 2) (by decide +kernel) rfl ?_
      obtain ⟨hg, h⟩ := z_ifs h
      refine j_iald F (pc := 21) (hb.1 3 _ rfl) hg (by decide +kernel) ?_
      refine j_iload_n F (pc := 22) (q := 1) (by decide +kernel) rfl ?_
      obtain ⟨r1, μ2, hc4, h⟩ := z_b2_some h
      refine j_callNi F (pc := 23) (idx := 59) (As := [.int (μ.1 (o + 3) x2.toNatClampNeg), .int x1]) (st := []) (t_X4_bit (G := E.1) hρ  hc4) q_X4_bit m_474 (by decide +kernel) rfl (by decide) (Nat.le_of_ble_eq_true rfl) rfl (by decide +kernel) (fun s7 ν5 hq6 hp => ?_)
      obtain ⟨rfl, rfl⟩ := hp
      have hρ3 : μ2.2.2 = ρ := hq6.trans hρ
      refine j_iconst F (pc := 26) (n := 1) (v := 1) (by decide +kernel) (by decide +kernel) ?_
      refine j_icmp_ne F (pc := 27) (off := 39) (tgt := 66) (by decide +kernel) (by decide) (fun c => ?_) (fun c => ?_)
      · rw [if_neg c] at h
        refine j_iinc F (pc := 66) (i := 2) (n := 1) (v := 1) (L' := [some (.ref o), some (.int x1), some (.int (x2 + (1 : Int32)))]) (by decide +kernel) rfl (by decide +kernel) (by decide) rfl rfl ?_
        refine j_goto F (pc := 69) (off := -59) (tgt := 10) (by decide +kernel) (by decide) ?_
        exact ih _ _ _ hρ3 h
      · rw [if_pos c] at h
        refine j_aload_n F (pc := 30) (q := 0) (by decide +kernel) rfl ?_
        refine j_getR F (pc := 31) (hb.r hρ3 2 rfl) fl_X0_18 (hb.1 0 _ rfl) rfl (by decide +kernel) ?_
        refine j_iload_n F (pc := 34) (q := 1) (by decide +kernel) rfl ?_
        obtain ⟨hg, h⟩ := z_ifs h
        refine j_iald F (pc := 35) (hb.1 3 _ rfl) hg (by decide +kernel) ?_
        refine j_iload_n F (pc := 36) (q := 2) (by decide +kernel) rfl ?_
        obtain ⟨r8, μ9, hc11, h⟩ := z_b2_some h
        refine j_callNi F (pc := 37) (idx := 59) (As := [.int (μ2.1 (o + 3) x1.toNatClampNeg), .int x2]) (st := []) (t_X4_bit (G := E.1) hρ3  hc11) q_X4_bit m_474 (by decide +kernel) rfl (by decide) (Nat.le_of_ble_eq_true rfl) rfl (by decide +kernel) (fun s14 ν12 hq13 hp => ?_)
        obtain ⟨rfl, rfl⟩ := hp
        have hρ10 : μ9.2.2 = ρ := hq13.trans hρ3
        refine j_if_ne F (pc := 40) (off := 26) (tgt := 66) (by decide +kernel) (by decide) (fun c => ?_) (fun c => ?_)
        · rw [if_neg c] at h
          refine j_iinc F (pc := 66) (i := 2) (n := 1) (v := 1) (L' := [some (.ref o), some (.int x1), some (.int (x2 + (1 : Int32)))]) (by decide +kernel) rfl (by decide +kernel) (by decide) rfl rfl ?_
          refine j_goto F (pc := 69) (off := -59) (tgt := 10) (by decide +kernel) (by decide) ?_
          exact ih _ _ _ hρ10 h
        · rw [if_pos c] at h
          refine j_aload_n F (pc := 43) (q := 0) (by decide +kernel) rfl ?_
          refine j_getR F (pc := 44) (hb.r hρ10 3 rfl) fl_X0_21 (hb.1 0 _ rfl) rfl (by decide +kernel) ?_
          refine j_iload_n F (pc := 47) (q := 1) (by decide +kernel) rfl ?_
          refine j_aload_n F (pc := 48) (q := 0) (by decide +kernel) rfl ?_
          refine j_getR F (pc := 49) (hb.r hρ10 3 rfl) fl_X0_21 (hb.1 0 _ rfl) rfl (by decide +kernel) ?_
          refine j_iload_n F (pc := 52) (q := 1) (by decide +kernel) rfl ?_
          obtain ⟨hg, h⟩ := z_ifs h
          refine j_iald F (pc := 53) (hb.1 4 _ rfl) hg (by decide +kernel) ?_
          refine j_aload_n F (pc := 54) (q := 0) (by decide +kernel) rfl ?_
          refine j_getR F (pc := 55) (hb.r hρ10 3 rfl) fl_X0_21 (hb.1 0 _ rfl) rfl (by decide +kernel) ?_
          refine j_iload_n F (pc := 58) (q := 2) (by decide +kernel) rfl ?_
          obtain ⟨hg, h⟩ := z_ifs h
          refine j_iald F (pc := 59) (hb.1 4 _ rfl) hg (by decide +kernel) ?_
          refine j_iconst F (pc := 60) (n := 1) (v := 1) (by decide +kernel) (by decide +kernel) ?_
          refine j_iadd F (pc := 61) (by decide +kernel) ?_
          refine j_mmax F (pc := 62) ⟨m_551, m_552, m_88, m_553⟩ (by decide) (Nat.le_of_ble_eq_true rfl) (by decide +kernel) ?_
          obtain ⟨hg, h⟩ := z_ifs h
          refine j_iast F (pc := 65) (hb.1 4 _ rfl) hg (by decide +kernel) ?_
          obtain ⟨μ15, e17, h⟩ := z_st_some h
          rw [← e17]
          have hρ16 : μ15.2.2 = ρ := by rw [e17]; exact hρ10
          refine j_iinc F (pc := 66) (i := 2) (n := 1) (v := 1) (L' := [some (.ref o), some (.int x1), some (.int (x2 + (1 : Int32)))]) (by decide +kernel) rfl (by decide +kernel) (by decide) rfl rfl ?_
          refine j_goto F (pc := 69) (off := -59) (tgt := 10) (by decide +kernel) (by decide) ?_
          exact ih _ _ _ hρ16 h
set_option maxHeartbeats 4000000 in
set_option maxRecDepth 100000 in
theorem u_X0_raiseRanks_2 {E : z_E} {ρ : Nat → Nat → Option Nat} {μr : z_M} (F : z_F E RX0 cX0_raiseRanks 3 1) (Rt : z_R E none (fun v μ1 => μ1.2.2 = ρ ∧ v = none ∧ μr = μ1)) {o : Nat} (hb : z_blk z_lawS z_lawR (z_sh E.1) ρ o) : ∀ (n : Nat) (x1 : Int32) (μ : z_M), μ.2.2 = ρ → g_X0_raiseRanks_2 o  n x1 μ = some μr → z_J E 3 2 [some (.ref o), some (.int x1), none] [] μ := by
  intro n
  induction n with
  | zero =>
    intro x1 μ hρ h
    rw [g_X0_raiseRanks_2] at h
    cases h
  | succ n ih =>
    intro x1 μ hρ h
    rw [g_X0_raiseRanks_2] at h
    refine j_iload_n F (pc := 2) (q := 1) (by decide +kernel) rfl ?_
    refine j_bipush F (pc := 3) (n := 8) (v := 8) (by decide +kernel) (by decide +kernel) ?_
    refine j_icmp_ge F (pc := 5) (off := 73) (tgt := 78) (by decide +kernel) (by decide) (fun c => ?_) (fun c => ?_)
    · rw [if_pos c] at h
      exact j_vret (st := []) F Rt (by decide +kernel) ⟨hρ, rfl, (Option.some.inj h).symm⟩
    · rw [if_neg c] at h
      refine j_iconst F (pc := 8) (n := 0) (v := 0) (by decide +kernel) (by decide +kernel) ?_
      refine j_istore_n F (pc := 9) (q := 2) (L' := [some (.ref o), some (.int x1), some (.int (0 : Int32))]) (by decide +kernel) (by decide) rfl rfl ?_
      refine u_X0_raiseRanks_10 F Rt hb (fun y20 μ18 hρ19 h => ?_) z_N _ _ _ hρ h
      exact ih _ _ hρ19 h
set_option maxHeartbeats 4000000 in
set_option maxRecDepth 100000 in
theorem t_X0_raiseRanks {G : z_Gl} {ρ : Nat → Nat → Option Nat} {μ : z_M} {μr : z_M} {o : Nat} (hρ : μ.2.2 = ρ) (hb : z_blk z_lawS z_lawR (z_sh G) ρ o) (h : f_X0_raiseRanks o μ = some μr) : z_Cv G yX0_raiseRanks cX0_raiseRanks 3 none 1 [.ref o] μ (fun μ1 => μr = μ1) := by
  unfold z_Cv
  refine z_intro (by decide +kernel) (Nat.le_of_ble_eq_true rfl) (fun E hE F Rt => ?_)
  subst hE
  have F : z_F E RX0 cX0_raiseRanks 3 1 := F
  rw [hρ] at Rt
  unfold f_X0_raiseRanks at h
  show z_J E 3 0 [some (.ref o), none, none] [] μ
  refine j_iconst F (pc := 0) (n := 0) (v := 0) (by decide +kernel) (by decide +kernel) ?_
  refine j_istore_n F (pc := 1) (q := 1) (L' := [some (.ref o), some (.int (0 : Int32)), none]) (by decide +kernel) (by decide) rfl rfl ?_
  refine u_X0_raiseRanks_2 F Rt hb  z_N _ _ hρ h
def g_X0_settle_41 (o : Nat)  : Nat → Int32 → z_M → Option z_M
  | 0, _, _ => none
  | n + 1, x1, μ => (if (8 : Int32) ≤ x1 then (some μ) else (z_b1 (f_X0_raiseRanks (o) μ) fun μ8 => (g_X0_settle_41 o  n ((x1 + (1 : Int32))) μ8)))
def g_X0_settle_6 (o : Nat)  : Nat → Int32 → z_M → Option z_M
  | 0, _, _ => none
  | n + 1, x1, μ => (if (8 : Int32) ≤ x1 then (g_X0_settle_41 o  z_N ((0 : Int32)) μ) else (if z_in x1 8 then (z_b2 (f_X4_bit ((μ.1 (o + 3) x1.toNatClampNeg)) (x1) μ) fun r13 μ14 => (z_st (z_si μ14 o 7 ((μ.1 o 7) ||| (r13 <<< (x1 &&& 31)))) fun μ20 => (g_X0_settle_6 o  n ((x1 + (1 : Int32))) μ20))) else none))
def f_X0_settle (o : Nat) (μ : z_M) : Option z_M :=
  (z_b1 (f_X0_followSteps (o) μ) fun μ2 => (g_X0_settle_6 o  z_N ((0 : Int32)) μ2))
set_option maxHeartbeats 4000000 in
set_option maxRecDepth 100000 in
theorem u_X0_settle_41 {E : z_E} {ρ : Nat → Nat → Option Nat} {μr : z_M} (F : z_F E RX0 cX0_settle 2 2) (Rt : z_R E none (fun v μ1 => μ1.2.2 = ρ ∧ v = none ∧ μr = μ1)) {o : Nat} (hb : z_blk z_lawS z_lawR (z_sh E.1) ρ o) : ∀ (n : Nat) (x1 : Int32) (μ : z_M), μ.2.2 = ρ → g_X0_settle_41 o  n x1 μ = some μr → z_J E 2 41 [some (.ref o), some (.int x1)] [] μ := by
  intro n
  induction n with
  | zero =>
    intro x1 μ hρ h
    rw [g_X0_settle_41] at h
    cases h
  | succ n ih =>
    intro x1 μ hρ h
    rw [g_X0_settle_41] at h
    refine j_iload_n F (pc := 41) (q := 1) (by decide +kernel) rfl ?_
    refine j_bipush F (pc := 42) (n := 8) (v := 8) (by decide +kernel) (by decide +kernel) ?_
    refine j_icmp_ge F (pc := 44) (off := 13) (tgt := 57) (by decide +kernel) (by decide) (fun c => ?_) (fun c => ?_)
    · rw [if_pos c] at h
      exact j_vret (st := []) F Rt (by decide +kernel) ⟨hρ, rfl, (Option.some.inj h).symm⟩
    · rw [if_neg c] at h
      refine j_aload_n F (pc := 47) (q := 0) (by decide +kernel) rfl ?_
      obtain ⟨μ8, hc10, h⟩ := z_b1_some h
      refine j_callVv F (pc := 48) (idx := 63) (As := []) (st := []) (t_X0_raiseRanks (G := E.1) hρ hb hc10) q_X0_raiseRanks v_X0_raiseRanks m_547 (hb.1 0 _ rfl) rfl rfl (by decide) (Nat.le_of_ble_eq_true rfl) rfl (by decide +kernel) (fun ν11 hq12 hp => ?_)
      subst hp
      have hρ9 : μ8.2.2 = ρ := hq12.trans hρ
      refine j_iinc F (pc := 51) (i := 1) (n := 1) (v := 1) (L' := [some (.ref o), some (.int (x1 + (1 : Int32)))]) (by decide +kernel) rfl (by decide +kernel) (by decide) rfl rfl ?_
      refine j_goto F (pc := 54) (off := -13) (tgt := 41) (by decide +kernel) (by decide) ?_
      exact ih _ _ hρ9 h
set_option maxHeartbeats 4000000 in
set_option maxRecDepth 100000 in
theorem u_X0_settle_6 {E : z_E} {ρ : Nat → Nat → Option Nat} {μr : z_M} (F : z_F E RX0 cX0_settle 2 2) (Rt : z_R E none (fun v μ1 => μ1.2.2 = ρ ∧ v = none ∧ μr = μ1)) {o : Nat} (hb : z_blk z_lawS z_lawR (z_sh E.1) ρ o) : ∀ (n : Nat) (x1 : Int32) (μ : z_M), μ.2.2 = ρ → g_X0_settle_6 o  n x1 μ = some μr → z_J E 2 6 [some (.ref o), some (.int x1)] [] μ := by
  intro n
  induction n with
  | zero =>
    intro x1 μ hρ h
    rw [g_X0_settle_6] at h
    cases h
  | succ n ih =>
    intro x1 μ hρ h
    rw [g_X0_settle_6] at h
    refine j_iload_n F (pc := 6) (q := 1) (by decide +kernel) rfl ?_
    refine j_bipush F (pc := 7) (n := 8) (v := 8) (by decide +kernel) (by decide +kernel) ?_
    refine j_icmp_ge F (pc := 9) (off := 30) (tgt := 39) (by decide +kernel) (by decide) (fun c => ?_) (fun c => ?_)
    · rw [if_pos c] at h
      refine j_iconst F (pc := 39) (n := 0) (v := 0) (by decide +kernel) (by decide +kernel) ?_
      refine j_istore_n F (pc := 40) (q := 1) (L' := [some (.ref o), some (.int (0 : Int32))]) (by decide +kernel) (by decide) rfl rfl ?_
      refine u_X0_settle_41 F Rt hb  z_N _ _ hρ h
    · rw [if_neg c] at h
      refine j_aload_n F (pc := 12) (q := 0) (by decide +kernel) rfl ?_
      refine j_dup F (pc := 13) (by decide +kernel) rfl ?_
      refine j_getI F (pc := 14) fl_X0_37 (hb.1 0 _ rfl) rfl (by decide +kernel) ?_
      refine j_aload_n F (pc := 17) (q := 0) (by decide +kernel) rfl ?_
      refine j_getR F (pc := 18) (hb.r hρ 2 rfl) fl_X0_18 (hb.1 0 _ rfl) rfl (by decide +kernel) ?_
      refine j_iload_n F (pc := 21) (q := 1) (by decide +kernel) rfl ?_
      obtain ⟨hg, h⟩ := z_ifs h
      refine j_iald F (pc := 22) (hb.1 3 _ rfl) hg (by decide +kernel) ?_
      refine j_iload_n F (pc := 23) (q := 1) (by decide +kernel) rfl ?_
      obtain ⟨r13, μ14, hc16, h⟩ := z_b2_some h
      refine j_callNi F (pc := 24) (idx := 59) (As := [.int (μ.1 (o + 3) x1.toNatClampNeg), .int x1]) (st := [.int (μ.1 o 7), .ref o]) (t_X4_bit (G := E.1) hρ  hc16) q_X4_bit m_474 (by decide +kernel) rfl (by decide) (Nat.le_of_ble_eq_true rfl) rfl (by decide +kernel) (fun s19 ν17 hq18 hp => ?_)
      obtain ⟨rfl, rfl⟩ := hp
      have hρ15 : μ14.2.2 = ρ := hq18.trans hρ
      refine j_iload_n F (pc := 27) (q := 1) (by decide +kernel) rfl ?_
      refine j_ishl F (pc := 28) (by decide +kernel) ?_
      refine j_ior F (pc := 29) (by decide +kernel) ?_
      refine j_putI F (pc := 30) fl_X0_37 fp_X0_7 (hb.1 0 _ rfl) rfl (by decide +kernel) ?_
      obtain ⟨μ20, e22, h⟩ := z_st_some h
      rw [← e22]
      have hρ21 : μ20.2.2 = ρ := by rw [e22]; exact hρ15
      refine j_iinc F (pc := 33) (i := 1) (n := 1) (v := 1) (L' := [some (.ref o), some (.int (x1 + (1 : Int32)))]) (by decide +kernel) rfl (by decide +kernel) (by decide) rfl rfl ?_
      refine j_goto F (pc := 36) (off := -30) (tgt := 6) (by decide +kernel) (by decide) ?_
      exact ih _ _ hρ21 h
set_option maxHeartbeats 4000000 in
set_option maxRecDepth 100000 in
theorem t_X0_settle {G : z_Gl} {ρ : Nat → Nat → Option Nat} {μ : z_M} {μr : z_M} {o : Nat} (hρ : μ.2.2 = ρ) (hb : z_blk z_lawS z_lawR (z_sh G) ρ o) (h : f_X0_settle o μ = some μr) : z_Cv G yX0_settle cX0_settle 2 none 2 [.ref o] μ (fun μ1 => μr = μ1) := by
  unfold z_Cv
  refine z_intro (by decide +kernel) (Nat.le_of_ble_eq_true rfl) (fun E hE F Rt => ?_)
  subst hE
  have F : z_F E RX0 cX0_settle 2 2 := F
  rw [hρ] at Rt
  unfold f_X0_settle at h
  show z_J E 2 0 [some (.ref o), none] [] μ
  refine j_aload_n F (pc := 0) (q := 0) (by decide +kernel) rfl ?_
  obtain ⟨μ2, hc4, h⟩ := z_b1_some h
  refine j_callVv F (pc := 1) (idx := 56) (As := []) (st := []) (t_X0_followSteps (G := E.1) hρ hb hc4) q_X0_followSteps v_X0_followSteps m_542 (hb.1 0 _ rfl) rfl rfl (by decide) (Nat.le_of_ble_eq_true rfl) rfl (by decide +kernel) (fun ν5 hq6 hp => ?_)
  subst hp
  have hρ3 : μ2.2.2 = ρ := hq6.trans hρ
  refine j_iconst F (pc := 4) (n := 0) (v := 0) (by decide +kernel) (by decide +kernel) ?_
  refine j_istore_n F (pc := 5) (q := 1) (L' := [some (.ref o), some (.int (0 : Int32))]) (by decide +kernel) (by decide) rfl rfl ?_
  refine u_X0_settle_6 F Rt hb  z_N _ _ hρ3 h
/-- LastLent.law -/
def f_X4_law (x1 : Int32) (μ : z_M) : Option (Int32 × z_M) :=
  (z_b2 (f_X4_isLand (x1) μ) fun r1 μ2 => (if r1 = 0 then (some ((-1001 : Int32), μ2)) else ((μ2.2.2 0 9).bind fun r8 => (z_b2 (f_X1_readInto (r8) μ2) fun r11 μ12 => (if (μ12.1 2 2) = 0 then ((μ12.2.2 0 9).bind fun r18 => (z_b1 (f_X0_settle (r18) μ12) fun μ22 => (if z_in x1 4 then ((μ22.2.2 1 x1.toNatClampNeg).bind fun r27 => ((μ22.2.2 0 9).bind fun r30 => (if z_in x1 4 then (z_st (z_sr μ22 1 x1.toNatClampNeg (some r30)) fun μ33 => (z_st (z_sr μ33 0 9 (some r27)) fun μ35 => (some (r11, μ35)))) else none))) else none))) else (some (((-10 : Int32) - (μ12.1 2 2)), μ12)))))))
set_option maxHeartbeats 4000000 in
set_option maxRecDepth 100000 in
theorem t_X4_law {G : z_Gl} {ρ : Nat → Nat → Option Nat} {μ : z_M} {r : Int32} {μr : z_M} {x1 : Int32} (hρ : μ.2.2 = ρ) (hk : z_ok (z_sh G) ρ) (h : f_X4_law x1 μ = some (r, μr)) : z_C0 G yX4_law cX4_law 4 (some .int) 11 [.ref 0, .int x1] μ (fun v μ1 => v = some (.int r) ∧ μr = μ1) := by
  refine z_intro (by decide +kernel) (Nat.le_of_ble_eq_true rfl) (fun E hE F Rt => ?_)
  subst hE
  have F : z_F E RX4 cX4_law 4 11 := F
  unfold f_X4_law at h
  show z_J E 4 0 [some (.ref 0), some (.int x1), none, none] [] μ
  refine j_iload_n F (pc := 0) (q := 1) (by decide +kernel) rfl ?_
  obtain ⟨r1, μ2, hc4, h⟩ := z_b2_some h
  refine j_callSi F (pc := 1) (idx := 67) (As := [.int x1]) (st := []) (t_X4_isLand (G := E.1) hρ  hc4) q_X4_isLand m_387 m_386 rfl (by decide) (Nat.le_of_ble_eq_true rfl) rfl (by decide +kernel) (fun s7 ν5 hq6 hp => ?_)
  obtain ⟨rfl, rfl⟩ := hp
  have hρ3 : μ2.2.2 = ρ := hq6.trans hρ
  refine j_if_ne F (pc := 4) (off := 7) (tgt := 11) (by decide +kernel) (by decide) (fun c => ?_) (fun c => ?_)
  · rw [if_neg c] at h
    refine j_aload_n F (pc := 11) (q := 0) (by decide +kernel) rfl ?_
    refine j_getR F (pc := 12) (hk.r hρ3 r_0_1) fl_X4_18 (hk.s c_0) rfl (by decide +kernel) ?_
    refine j_aload_n F (pc := 15) (q := 0) (by decide +kernel) rfl ?_
    obtain ⟨r8, hr9, h⟩ := Option.bind_eq_some_iff.mp h
    have hb10 := hk.draft hρ3 hr9
    refine j_getR F (pc := 16) hr9 fl_X4_55 (hk.s c_0) rfl (by decide +kernel) ?_
    obtain ⟨r11, μ12, hc14, h⟩ := z_b2_some h
    refine j_callVi F (pc := 19) (idx := 71) (As := [.ref r8]) (st := []) (t_X1_readInto (G := E.1) hρ3 hk hb10 hc14) q_X1_readInto v_X1_readInto m_389 (hk.s c_2) rfl rfl (by decide) (Nat.le_of_ble_eq_true rfl) rfl (by decide +kernel) (fun s17 ν15 hq16 hp => ?_)
    obtain ⟨rfl, rfl⟩ := hp
    have hρ13 : μ12.2.2 = ρ := hq16.trans hρ3
    refine j_istore_n F (pc := 22) (q := 2) (L' := [some (.ref 0), some (.int x1), some (.int r11), none]) (by decide +kernel) (by decide) rfl rfl ?_
    refine j_aload_n F (pc := 23) (q := 0) (by decide +kernel) rfl ?_
    refine j_getR F (pc := 24) (hk.r hρ13 r_0_1) fl_X4_18 (hk.s c_0) rfl (by decide +kernel) ?_
    refine j_getI F (pc := 27) fl_X4_75 (hk.s c_2) rfl (by decide +kernel) ?_
    refine j_if_eq F (pc := 30) (off := 14) (tgt := 44) (by decide +kernel) (by decide) (fun c => ?_) (fun c => ?_)
    · rw [if_pos c] at h
      refine j_aload_n F (pc := 44) (q := 0) (by decide +kernel) rfl ?_
      obtain ⟨r18, hr19, h⟩ := Option.bind_eq_some_iff.mp h
      have hb20 := hk.draft hρ13 hr19
      refine j_getR F (pc := 45) hr19 fl_X4_55 (hk.s c_0) rfl (by decide +kernel) ?_
      obtain ⟨μ22, hc24, h⟩ := z_b1_some h
      refine j_callVv F (pc := 48) (idx := 78) (As := []) (st := []) (t_X0_settle (G := E.1) hρ13 hb20 hc24) q_X0_settle v_X0_settle m_538 (hb20.1 0 _ rfl) rfl rfl (by decide) (Nat.le_of_ble_eq_true rfl) rfl (by decide +kernel) (fun ν25 hq26 hp => ?_)
      subst hp
      have hρ23 : μ22.2.2 = ρ := hq26.trans hρ13
      refine j_aload_n F (pc := 51) (q := 0) (by decide +kernel) rfl ?_
      refine j_getR F (pc := 52) (hk.r hρ23 r_0_0) fl_X4_11 (hk.s c_0) rfl (by decide +kernel) ?_
      refine j_iload_n F (pc := 55) (q := 1) (by decide +kernel) rfl ?_
      obtain ⟨hg, h⟩ := z_ifs h
      obtain ⟨r27, hr28, h⟩ := Option.bind_eq_some_iff.mp h
      have hb29 := hk.lawsAt hρ23 hr28
      refine j_aald F (pc := 56) (hk.s c_1) (by decide) hg hr28 (by decide +kernel) ?_
      refine j_astore_n F (pc := 57) (q := 3) (L' := [some (.ref 0), some (.int x1), some (.int r11), some (.ref r27)]) (by decide +kernel) (by decide) rfl rfl ?_
      refine j_aload_n F (pc := 58) (q := 0) (by decide +kernel) rfl ?_
      refine j_getR F (pc := 59) (hk.r hρ23 r_0_0) fl_X4_11 (hk.s c_0) rfl (by decide +kernel) ?_
      refine j_iload_n F (pc := 62) (q := 1) (by decide +kernel) rfl ?_
      refine j_aload_n F (pc := 63) (q := 0) (by decide +kernel) rfl ?_
      obtain ⟨r30, hr31, h⟩ := Option.bind_eq_some_iff.mp h
      have hb32 := hk.draft hρ23 hr31
      refine j_getR F (pc := 64) hr31 fl_X4_55 (hk.s c_0) rfl (by decide +kernel) ?_
      obtain ⟨hg, h⟩ := z_ifs h
      refine j_aast F (pc := 67) (RX0, TX0, 13) (hk.s c_1) (Or.inl ⟨rfl, rfl⟩) hg (hb32.1 0 _ rfl) (by decide +kernel) ?_
      obtain ⟨μ33, e34, h⟩ := z_st_some h
      rw [← e34]
      refine j_aload_n F (pc := 68) (q := 0) (by decide +kernel) rfl ?_
      refine j_aload_n F (pc := 69) (q := 3) (by decide +kernel) rfl ?_
      refine j_putR F (pc := 70) (Or.inl ⟨_, rfl⟩) fl_X4_55 fp_X4_9 (hk.s c_0) rfl (by decide +kernel) ?_
      obtain ⟨μ35, e37, h⟩ := z_st_some h
      rw [← e37]
      refine j_iload_n F (pc := 73) (q := 2) (by decide +kernel) rfl ?_
      exact j_iret (st := []) F Rt rfl (by decide +kernel) ⟨congrArg (fun q => some (Value.int q.1)) (Option.some.inj h), (congrArg Prod.snd (Option.some.inj h)).symm⟩
    · rw [if_neg c] at h
      refine j_bipush F (pc := 33) (n := -10) (v := -10) (by decide +kernel) (by decide +kernel) ?_
      refine j_aload_n F (pc := 35) (q := 0) (by decide +kernel) rfl ?_
      refine j_getR F (pc := 36) (hk.r hρ13 r_0_1) fl_X4_18 (hk.s c_0) rfl (by decide +kernel) ?_
      refine j_getI F (pc := 39) fl_X4_75 (hk.s c_2) rfl (by decide +kernel) ?_
      refine j_isub F (pc := 42) (by decide +kernel) ?_
      exact j_iret (st := []) F Rt rfl (by decide +kernel) ⟨congrArg (fun q => some (Value.int q.1)) (Option.some.inj h), (congrArg Prod.snd (Option.some.inj h)).symm⟩
  · rw [if_pos c] at h
    refine j_sipush F (pc := 7) (n := -1001) (v := -1001) (by decide +kernel) (by decide +kernel) ?_
    exact j_iret (st := []) F Rt rfl (by decide +kernel) ⟨congrArg (fun q => some (Value.int q.1)) (Option.some.inj h), (congrArg Prod.snd (Option.some.inj h)).symm⟩
/-- LastLent.fault -/
def f_X4_fault  (μ : z_M) : Option (Int32 × z_M) :=
  (some ((μ.1 2 3), μ))
set_option maxHeartbeats 4000000 in
set_option maxRecDepth 100000 in
theorem t_X4_fault {G : z_Gl} {ρ : Nat → Nat → Option Nat} {μ : z_M} {r : Int32} {μr : z_M}  (hρ : μ.2.2 = ρ) (hk : z_ok (z_sh G) ρ) (h : f_X4_fault  μ = some (r, μr)) : z_Ci G yX4_fault cX4_fault 1 (some .int) 0 [.ref 0] μ (fun r1 μ1 => r = r1 ∧ μr = μ1) := by
  unfold z_Ci
  refine z_intro (by decide +kernel) (Nat.le_of_ble_eq_true rfl) (fun E hE F Rt => ?_)
  subst hE
  have F : z_F E RX4 cX4_fault 1 0 := F
  rw [hρ] at Rt
  unfold f_X4_fault at h
  show z_J E 1 0 [some (.ref 0)] [] μ
  refine j_aload_n F (pc := 0) (q := 0) (by decide +kernel) rfl ?_
  refine j_getR F (pc := 1) (hk.r hρ r_0_1) fl_X4_18 (hk.s c_0) rfl (by decide +kernel) ?_
  refine j_getI F (pc := 4) fl_X4_81 (hk.s c_2) rfl (by decide +kernel) ?_
  exact j_iret (st := []) F Rt rfl (by decide +kernel) ⟨hρ, _, rfl, (congrArg Prod.fst (Option.some.inj h)).symm, (congrArg Prod.snd (Option.some.inj h)).symm⟩
/-- LastLent.isKind -/
def f_X4_isKind (x0 : Int32) (μ : z_M) : Option (Int32 × z_M) :=
  (some ((if x0 < 0 then (0 : Int32) else (if (8 : Int32) ≤ x0 then (0 : Int32) else (1 : Int32))), μ))
set_option maxHeartbeats 4000000 in
set_option maxRecDepth 100000 in
theorem t_X4_isKind {G : z_Gl} {ρ : Nat → Nat → Option Nat} {μ : z_M} {r : Int32} {μr : z_M} {x0 : Int32} (hρ : μ.2.2 = ρ)  (h : f_X4_isKind x0 μ = some (r, μr)) : z_Ci G yX4_isKind cX4_isKind 1 (some .boolean) 0 [.int x0] μ (fun r1 μ1 => r = r1 ∧ μr = μ1) := by
  unfold z_Ci
  refine z_intro (by decide +kernel) (Nat.le_of_ble_eq_true rfl) (fun E hE F Rt => ?_)
  subst hE
  have F : z_F E RX4 cX4_isKind 1 0 := F
  rw [hρ] at Rt
  unfold f_X4_isKind at h
  show z_J E 1 0 [some (.int x0)] [] μ
  refine j_iload_n F (pc := 0) (q := 0) (by decide +kernel) rfl ?_
  suffices hj : z_J E 1 15 [some (.int x0)] (.int (if x0 < 0 then (0 : Int32) else (if (8 : Int32) ≤ x0 then (0 : Int32) else (1 : Int32))) :: []) μ by
    refine j_if_lt F (pc := 1) (off := 13) (tgt := 14) (by decide +kernel) (by decide) (fun c0 => ?_) (fun c0 => ?_)
    · rw [if_pos c0] at hj
      refine j_iconst F (pc := 14) (n := 0) (v := 0) (by decide +kernel) (by decide +kernel) ?_
      exact hj
    · rw [if_neg c0] at hj
      refine j_iload_n F (pc := 4) (q := 0) (by decide +kernel) rfl ?_
      refine j_bipush F (pc := 5) (n := 8) (v := 8) (by decide +kernel) (by decide +kernel) ?_
      refine j_icmp_ge F (pc := 7) (off := 7) (tgt := 14) (by decide +kernel) (by decide) (fun c1 => ?_) (fun c1 => ?_)
      · rw [if_pos c1] at hj
        refine j_iconst F (pc := 14) (n := 0) (v := 0) (by decide +kernel) (by decide +kernel) ?_
        exact hj
      · rw [if_neg c1] at hj
        refine j_iconst F (pc := 10) (n := 1) (v := 1) (by decide +kernel) (by decide +kernel) ?_
        refine j_goto F (pc := 11) (off := 4) (tgt := 15) (by decide +kernel) (by decide) ?_
        exact hj
  exact j_iret (st := []) F Rt (z_nb (by repeat' (first | exact Or.inl rfl | exact Or.inr rfl | split))) (by decide +kernel) ⟨hρ, _, rfl, (congrArg Prod.fst (Option.some.inj h)).symm, (congrArg Prod.snd (Option.some.inj h)).symm⟩
/-- LastLent.kind -/
def f_X4_kind (x1 : Int32) (x2 : Int32) (x3 : Int32) (μ : z_M) : Option (Int32 × z_M) :=
  (z_b2 (f_X4_isLand (x1) μ) fun r1 μ2 => (if r1 = 0 then (some ((-1001 : Int32), μ2)) else (z_b2 (f_X4_isKind (x2) μ2) fun r8 μ9 => (if r8 = 0 then (some ((-1001 : Int32), μ9)) else (if z_in x1 4 then ((μ9.2.2 1 x1.toNatClampNeg).bind fun r15 => (if x3 = 0 then (if z_in x2 8 then (some ((μ9.1 (r15 + 4) x2.toNatClampNeg), μ9)) else none) else (if x3 = 1 then (if z_in x2 8 then (some ((μ9.1 (r15 + 1) x2.toNatClampNeg), μ9)) else none) else (if x3 = 2 then (z_b2 (f_X4_bit ((μ9.1 r15 4)) (x2) μ9) fun r18 μ19 => (z_b2 (f_X4_bit ((μ19.1 r15 5)) (x2) μ19) fun r25 μ26 => (some ((r18 - r25), μ26)))) else (if x3 = 3 then (if z_in x2 8 then (some ((μ9.1 (r15 + 2) x2.toNatClampNeg), μ9)) else none) else (if x3 = 4 then (z_b2 (f_X4_bit ((μ9.1 r15 6)) (x2) μ9) fun r32 μ33 => (some (r32, μ33))) else (if x3 = 5 then (z_b2 (f_X4_bit ((μ9.1 r15 7)) (x2) μ9) fun r39 μ40 => (some (r39, μ40))) else (some ((-1002 : Int32), μ9))))))))) else none)))))
set_option maxHeartbeats 4000000 in
set_option maxRecDepth 100000 in
theorem t_X4_kind {G : z_Gl} {ρ : Nat → Nat → Option Nat} {μ : z_M} {r : Int32} {μr : z_M} {x1 : Int32} {x2 : Int32} {x3 : Int32} (hρ : μ.2.2 = ρ) (hk : z_ok (z_sh G) ρ) (h : f_X4_kind x1 x2 x3 μ = some (r, μr)) : z_Ci G yX4_kind cX4_kind 5 (some .int) 1 [.ref 0, .int x1, .int x2, .int x3] μ (fun r1 μ1 => r = r1 ∧ μr = μ1) := by
  unfold z_Ci
  refine z_intro (by decide +kernel) (Nat.le_of_ble_eq_true rfl) (fun E hE F Rt => ?_)
  subst hE
  have F : z_F E RX4 cX4_kind 5 1 := F
  rw [hρ] at Rt
  unfold f_X4_kind at h
  show z_J E 5 0 [some (.ref 0), some (.int x1), some (.int x2), some (.int x3), none] [] μ
  refine j_iload_n F (pc := 0) (q := 1) (by decide +kernel) rfl ?_
  obtain ⟨r1, μ2, hc4, h⟩ := z_b2_some h
  refine j_callSi F (pc := 1) (idx := 67) (As := [.int x1]) (st := []) (t_X4_isLand (G := E.1) hρ  hc4) q_X4_isLand m_387 m_386 rfl (by decide) (Nat.le_of_ble_eq_true rfl) rfl (by decide +kernel) (fun s7 ν5 hq6 hp => ?_)
  obtain ⟨rfl, rfl⟩ := hp
  have hρ3 : μ2.2.2 = ρ := hq6.trans hρ
  refine j_if_eq F (pc := 4) (off := 10) (tgt := 14) (by decide +kernel) (by decide) (fun c => ?_) (fun c => ?_)
  · rw [if_pos c] at h
    refine j_sipush F (pc := 14) (n := -1001) (v := -1001) (by decide +kernel) (by decide +kernel) ?_
    exact j_iret (st := []) F Rt rfl (by decide +kernel) ⟨hρ3, _, rfl, (congrArg Prod.fst (Option.some.inj h)).symm, (congrArg Prod.snd (Option.some.inj h)).symm⟩
  · rw [if_neg c] at h
    refine j_iload_n F (pc := 7) (q := 2) (by decide +kernel) rfl ?_
    obtain ⟨r8, μ9, hc11, h⟩ := z_b2_some h
    refine j_callSi F (pc := 8) (idx := 84) (As := [.int x2]) (st := []) (t_X4_isKind (G := E.1) hρ3  hc11) q_X4_isKind m_564 m_563 rfl (by decide) (Nat.le_of_ble_eq_true rfl) rfl (by decide +kernel) (fun s14 ν12 hq13 hp => ?_)
    obtain ⟨rfl, rfl⟩ := hp
    have hρ10 : μ9.2.2 = ρ := hq13.trans hρ3
    refine j_if_ne F (pc := 11) (off := 7) (tgt := 18) (by decide +kernel) (by decide) (fun c => ?_) (fun c => ?_)
    · rw [if_neg c] at h
      refine j_aload_n F (pc := 18) (q := 0) (by decide +kernel) rfl ?_
      refine j_getR F (pc := 19) (hk.r hρ10 r_0_0) fl_X4_11 (hk.s c_0) rfl (by decide +kernel) ?_
      refine j_iload_n F (pc := 22) (q := 1) (by decide +kernel) rfl ?_
      obtain ⟨hg, h⟩ := z_ifs h
      obtain ⟨r15, hr16, h⟩ := Option.bind_eq_some_iff.mp h
      have hb17 := hk.lawsAt hρ10 hr16
      refine j_aald F (pc := 23) (hk.s c_1) (by decide) hg hr16 (by decide +kernel) ?_
      refine j_astore F (pc := 24) (i := 4) (L' := [some (.ref 0), some (.int x1), some (.int x2), some (.int x3), some (.ref r15)]) (by decide +kernel) (by decide) rfl rfl ?_
      refine j_iload_n F (pc := 26) (q := 3) (by decide +kernel) rfl ?_
      by_cases c0 : x3 = 0
      · rw [if_pos c0] at h
        refine j_tableIn F (pc := 27) (dflt := 101) (lo := 0) (hi := 5) (offs := #[37, 45, 53, 73, 81, 91]) (len := 37) (off := 37) (tgt := 64) (by decide +kernel) (by rw [c0]; decide) (by rw [c0]; decide) (by rw [c0]; decide +kernel) (by decide) ?_
        refine j_aload F (pc := 64) (i := 4) (by decide +kernel) rfl ?_
        refine j_getR F (pc := 66) (hb17.r hρ10 3 rfl) fl_X4_87 (hb17.1 0 _ rfl) rfl (by decide +kernel) ?_
        refine j_iload_n F (pc := 69) (q := 2) (by decide +kernel) rfl ?_
        obtain ⟨hg, h⟩ := z_ifs h
        refine j_iald F (pc := 70) (hb17.1 4 _ rfl) hg (by decide +kernel) ?_
        exact j_iret (st := []) F Rt rfl (by decide +kernel) ⟨hρ10, _, rfl, (congrArg Prod.fst (Option.some.inj h)).symm, (congrArg Prod.snd (Option.some.inj h)).symm⟩
      rw [if_neg c0] at h
      by_cases c1 : x3 = 1
      · rw [if_pos c1] at h
        refine j_tableIn F (pc := 27) (dflt := 101) (lo := 0) (hi := 5) (offs := #[37, 45, 53, 73, 81, 91]) (len := 37) (off := 45) (tgt := 72) (by decide +kernel) (by rw [c1]; decide) (by rw [c1]; decide) (by rw [c1]; decide +kernel) (by decide) ?_
        refine j_aload F (pc := 72) (i := 4) (by decide +kernel) rfl ?_
        refine j_getR F (pc := 74) (hb17.r hρ10 0 rfl) fl_X4_90 (hb17.1 0 _ rfl) rfl (by decide +kernel) ?_
        refine j_iload_n F (pc := 77) (q := 2) (by decide +kernel) rfl ?_
        obtain ⟨hg, h⟩ := z_ifs h
        refine j_iald F (pc := 78) (hb17.1 1 _ rfl) hg (by decide +kernel) ?_
        exact j_iret (st := []) F Rt rfl (by decide +kernel) ⟨hρ10, _, rfl, (congrArg Prod.fst (Option.some.inj h)).symm, (congrArg Prod.snd (Option.some.inj h)).symm⟩
      rw [if_neg c1] at h
      by_cases c2 : x3 = 2
      · rw [if_pos c2] at h
        refine j_tableIn F (pc := 27) (dflt := 101) (lo := 0) (hi := 5) (offs := #[37, 45, 53, 73, 81, 91]) (len := 37) (off := 53) (tgt := 80) (by decide +kernel) (by rw [c2]; decide) (by rw [c2]; decide) (by rw [c2]; decide +kernel) (by decide) ?_
        refine j_aload F (pc := 80) (i := 4) (by decide +kernel) rfl ?_
        refine j_getI F (pc := 82) fl_X4_93 (hb17.1 0 _ rfl) rfl (by decide +kernel) ?_
        refine j_iload_n F (pc := 85) (q := 2) (by decide +kernel) rfl ?_
        obtain ⟨r18, μ19, hc21, h⟩ := z_b2_some h
        refine j_callSi F (pc := 86) (idx := 96) (As := [.int (μ9.1 r15 4), .int x2]) (st := []) (t_X4_bit (G := E.1) hρ10  hc21) q_X4_bit m_474 m_566 rfl (by decide) (Nat.le_of_ble_eq_true rfl) rfl (by decide +kernel) (fun s24 ν22 hq23 hp => ?_)
        obtain ⟨rfl, rfl⟩ := hp
        have hρ20 : μ19.2.2 = ρ := hq23.trans hρ10
        refine j_aload F (pc := 89) (i := 4) (by decide +kernel) rfl ?_
        refine j_getI F (pc := 91) fl_X4_100 (hb17.1 0 _ rfl) rfl (by decide +kernel) ?_
        refine j_iload_n F (pc := 94) (q := 2) (by decide +kernel) rfl ?_
        obtain ⟨r25, μ26, hc28, h⟩ := z_b2_some h
        refine j_callSi F (pc := 95) (idx := 96) (As := [.int (μ19.1 r15 5), .int x2]) (st := [.int r18]) (t_X4_bit (G := E.1) hρ20  hc28) q_X4_bit m_474 m_566 rfl (by decide) (Nat.le_of_ble_eq_true rfl) rfl (by decide +kernel) (fun s31 ν29 hq30 hp => ?_)
        obtain ⟨rfl, rfl⟩ := hp
        have hρ27 : μ26.2.2 = ρ := hq30.trans hρ20
        refine j_isub F (pc := 98) (by decide +kernel) ?_
        exact j_iret (st := []) F Rt rfl (by decide +kernel) ⟨hρ27, _, rfl, (congrArg Prod.fst (Option.some.inj h)).symm, (congrArg Prod.snd (Option.some.inj h)).symm⟩
      rw [if_neg c2] at h
      by_cases c3 : x3 = 3
      · rw [if_pos c3] at h
        refine j_tableIn F (pc := 27) (dflt := 101) (lo := 0) (hi := 5) (offs := #[37, 45, 53, 73, 81, 91]) (len := 37) (off := 73) (tgt := 100) (by decide +kernel) (by rw [c3]; decide) (by rw [c3]; decide) (by rw [c3]; decide +kernel) (by decide) ?_
        refine j_aload F (pc := 100) (i := 4) (by decide +kernel) rfl ?_
        refine j_getR F (pc := 102) (hb17.r hρ10 1 rfl) fl_X4_103 (hb17.1 0 _ rfl) rfl (by decide +kernel) ?_
        refine j_iload_n F (pc := 105) (q := 2) (by decide +kernel) rfl ?_
        obtain ⟨hg, h⟩ := z_ifs h
        refine j_iald F (pc := 106) (hb17.1 2 _ rfl) hg (by decide +kernel) ?_
        exact j_iret (st := []) F Rt rfl (by decide +kernel) ⟨hρ10, _, rfl, (congrArg Prod.fst (Option.some.inj h)).symm, (congrArg Prod.snd (Option.some.inj h)).symm⟩
      rw [if_neg c3] at h
      by_cases c4 : x3 = 4
      · rw [if_pos c4] at h
        refine j_tableIn F (pc := 27) (dflt := 101) (lo := 0) (hi := 5) (offs := #[37, 45, 53, 73, 81, 91]) (len := 37) (off := 81) (tgt := 108) (by decide +kernel) (by rw [c4]; decide) (by rw [c4]; decide) (by rw [c4]; decide +kernel) (by decide) ?_
        refine j_aload F (pc := 108) (i := 4) (by decide +kernel) rfl ?_
        refine j_getI F (pc := 110) fl_X4_106 (hb17.1 0 _ rfl) rfl (by decide +kernel) ?_
        refine j_iload_n F (pc := 113) (q := 2) (by decide +kernel) rfl ?_
        obtain ⟨r32, μ33, hc35, h⟩ := z_b2_some h
        refine j_callSi F (pc := 114) (idx := 96) (As := [.int (μ9.1 r15 6), .int x2]) (st := []) (t_X4_bit (G := E.1) hρ10  hc35) q_X4_bit m_474 m_566 rfl (by decide) (Nat.le_of_ble_eq_true rfl) rfl (by decide +kernel) (fun s38 ν36 hq37 hp => ?_)
        obtain ⟨rfl, rfl⟩ := hp
        have hρ34 : μ33.2.2 = ρ := hq37.trans hρ10
        exact j_iret (st := []) F Rt rfl (by decide +kernel) ⟨hρ34, _, rfl, (congrArg Prod.fst (Option.some.inj h)).symm, (congrArg Prod.snd (Option.some.inj h)).symm⟩
      rw [if_neg c4] at h
      by_cases c5 : x3 = 5
      · rw [if_pos c5] at h
        refine j_tableIn F (pc := 27) (dflt := 101) (lo := 0) (hi := 5) (offs := #[37, 45, 53, 73, 81, 91]) (len := 37) (off := 91) (tgt := 118) (by decide +kernel) (by rw [c5]; decide) (by rw [c5]; decide) (by rw [c5]; decide +kernel) (by decide) ?_
        refine j_aload F (pc := 118) (i := 4) (by decide +kernel) rfl ?_
        refine j_getI F (pc := 120) fl_X4_109 (hb17.1 0 _ rfl) rfl (by decide +kernel) ?_
        refine j_iload_n F (pc := 123) (q := 2) (by decide +kernel) rfl ?_
        obtain ⟨r39, μ40, hc42, h⟩ := z_b2_some h
        refine j_callSi F (pc := 124) (idx := 96) (As := [.int (μ9.1 r15 7), .int x2]) (st := []) (t_X4_bit (G := E.1) hρ10  hc42) q_X4_bit m_474 m_566 rfl (by decide) (Nat.le_of_ble_eq_true rfl) rfl (by decide +kernel) (fun s45 ν43 hq44 hp => ?_)
        obtain ⟨rfl, rfl⟩ := hp
        have hρ41 : μ40.2.2 = ρ := hq44.trans hρ10
        exact j_iret (st := []) F Rt rfl (by decide +kernel) ⟨hρ41, _, rfl, (congrArg Prod.fst (Option.some.inj h)).symm, (congrArg Prod.snd (Option.some.inj h)).symm⟩
      rw [if_neg c5] at h
      refine j_tableOut F (pc := 27) (dflt := 101) (lo := 0) (hi := 5) (offs := #[37, 45, 53, 73, 81, 91]) (len := 37) (tgt := 128) (by decide +kernel) (by have d0 := lv_neT (k := 0) (a := 0) c0 (by decide); have d1 := lv_neT (k := 1) (a := 1) c1 (by decide); have d2 := lv_neT (k := 2) (a := 2) c2 (by decide); have d3 := lv_neT (k := 3) (a := 3) c3 (by decide); have d4 := lv_neT (k := 4) (a := 4) c4 (by decide); have d5 := lv_neT (k := 5) (a := 5) c5 (by decide); omega) (by decide) ?_
      refine j_sipush F (pc := 128) (n := -1002) (v := -1002) (by decide +kernel) (by decide +kernel) ?_
      exact j_iret (st := []) F Rt rfl (by decide +kernel) ⟨hρ10, _, rfl, (congrArg Prod.fst (Option.some.inj h)).symm, (congrArg Prod.snd (Option.some.inj h)).symm⟩
    · rw [if_pos c] at h
      refine j_sipush F (pc := 14) (n := -1001) (v := -1001) (by decide +kernel) (by decide +kernel) ?_
      exact j_iret (st := []) F Rt rfl (by decide +kernel) ⟨hρ10, _, rfl, (congrArg Prod.fst (Option.some.inj h)).symm, (congrArg Prod.snd (Option.some.inj h)).symm⟩
/-- LastLent.rule -/
def f_X4_rule (x1 : Int32) (x2 : Int32) (μ : z_M) : Option (Int32 × z_M) :=
  (z_b2 (f_X4_isLand (x1) μ) fun r1 μ2 => (if r1 = 0 then (some ((-1001 : Int32), μ2)) else (if z_in x1 4 then ((μ2.2.2 1 x1.toNatClampNeg).bind fun r8 => (if x2 = 0 then (some ((if (μ2.1 r8 11) = 0 then (0 : Int32) else (1 : Int32)), μ2)) else (if x2 = 1 then (some ((μ2.1 r8 9), μ2)) else (if x2 = 2 then (some ((if (μ2.1 r8 12) = 0 then (0 : Int32) else (1 : Int32)), μ2)) else (if x2 = 3 then (some ((μ2.1 r8 10), μ2)) else (if x2 = 4 then (some ((μ2.1 r8 8), μ2)) else (if x2 = 5 then (some ((μ2.1 r8 7), μ2)) else (some ((-1002 : Int32), μ2))))))))) else none)))
set_option maxHeartbeats 4000000 in
set_option maxRecDepth 100000 in
theorem t_X4_rule {G : z_Gl} {ρ : Nat → Nat → Option Nat} {μ : z_M} {r : Int32} {μr : z_M} {x1 : Int32} {x2 : Int32} (hρ : μ.2.2 = ρ) (hk : z_ok (z_sh G) ρ) (h : f_X4_rule x1 x2 μ = some (r, μr)) : z_Ci G yX4_rule cX4_rule 4 (some .int) 1 [.ref 0, .int x1, .int x2] μ (fun r1 μ1 => r = r1 ∧ μr = μ1) := by
  unfold z_Ci
  refine z_intro (by decide +kernel) (Nat.le_of_ble_eq_true rfl) (fun E hE F Rt => ?_)
  subst hE
  have F : z_F E RX4 cX4_rule 4 1 := F
  rw [hρ] at Rt
  unfold f_X4_rule at h
  show z_J E 4 0 [some (.ref 0), some (.int x1), some (.int x2), none] [] μ
  refine j_iload_n F (pc := 0) (q := 1) (by decide +kernel) rfl ?_
  obtain ⟨r1, μ2, hc4, h⟩ := z_b2_some h
  refine j_callSi F (pc := 1) (idx := 67) (As := [.int x1]) (st := []) (t_X4_isLand (G := E.1) hρ  hc4) q_X4_isLand m_387 m_386 rfl (by decide) (Nat.le_of_ble_eq_true rfl) rfl (by decide +kernel) (fun s7 ν5 hq6 hp => ?_)
  obtain ⟨rfl, rfl⟩ := hp
  have hρ3 : μ2.2.2 = ρ := hq6.trans hρ
  refine j_if_ne F (pc := 4) (off := 7) (tgt := 11) (by decide +kernel) (by decide) (fun c => ?_) (fun c => ?_)
  · rw [if_neg c] at h
    refine j_aload_n F (pc := 11) (q := 0) (by decide +kernel) rfl ?_
    refine j_getR F (pc := 12) (hk.r hρ3 r_0_0) fl_X4_11 (hk.s c_0) rfl (by decide +kernel) ?_
    refine j_iload_n F (pc := 15) (q := 1) (by decide +kernel) rfl ?_
    obtain ⟨hg, h⟩ := z_ifs h
    obtain ⟨r8, hr9, h⟩ := Option.bind_eq_some_iff.mp h
    have hb10 := hk.lawsAt hρ3 hr9
    refine j_aald F (pc := 16) (hk.s c_1) (by decide) hg hr9 (by decide +kernel) ?_
    refine j_astore_n F (pc := 17) (q := 3) (L' := [some (.ref 0), some (.int x1), some (.int x2), some (.ref r8)]) (by decide +kernel) (by decide) rfl rfl ?_
    refine j_iload_n F (pc := 18) (q := 2) (by decide +kernel) rfl ?_
    by_cases c0 : x2 = 0
    · rw [if_pos c0] at h
      refine j_tableIn F (pc := 19) (dflt := 83) (lo := 0) (hi := 5) (offs := #[37, 50, 55, 68, 73, 78]) (len := 37) (off := 37) (tgt := 56) (by decide +kernel) (by rw [c0]; decide) (by rw [c0]; decide) (by rw [c0]; decide +kernel) (by decide) ?_
      refine j_aload_n F (pc := 56) (q := 3) (by decide +kernel) rfl ?_
      refine j_getI F (pc := 57) fl_X4_112 (hb10.1 0 _ rfl) rfl (by decide +kernel) ?_
      suffices hj : z_J E 4 68 [some (.ref 0), some (.int x1), some (.int x2), some (.ref r8)] (.int (if (μ2.1 r8 11) = 0 then (0 : Int32) else (1 : Int32)) :: []) μ2 by
        refine j_if_eq F (pc := 60) (off := 7) (tgt := 67) (by decide +kernel) (by decide) (fun c0 => ?_) (fun c0 => ?_)
        · rw [if_pos c0] at hj
          refine j_iconst F (pc := 67) (n := 0) (v := 0) (by decide +kernel) (by decide +kernel) ?_
          exact hj
        · rw [if_neg c0] at hj
          refine j_iconst F (pc := 63) (n := 1) (v := 1) (by decide +kernel) (by decide +kernel) ?_
          refine j_goto F (pc := 64) (off := 4) (tgt := 68) (by decide +kernel) (by decide) ?_
          exact hj
      exact j_iret (st := []) F Rt rfl (by decide +kernel) ⟨hρ3, _, rfl, (congrArg Prod.fst (Option.some.inj h)).symm, (congrArg Prod.snd (Option.some.inj h)).symm⟩
    rw [if_neg c0] at h
    by_cases c1 : x2 = 1
    · rw [if_pos c1] at h
      refine j_tableIn F (pc := 19) (dflt := 83) (lo := 0) (hi := 5) (offs := #[37, 50, 55, 68, 73, 78]) (len := 37) (off := 50) (tgt := 69) (by decide +kernel) (by rw [c1]; decide) (by rw [c1]; decide) (by rw [c1]; decide +kernel) (by decide) ?_
      refine j_aload_n F (pc := 69) (q := 3) (by decide +kernel) rfl ?_
      refine j_getI F (pc := 70) fl_X4_116 (hb10.1 0 _ rfl) rfl (by decide +kernel) ?_
      exact j_iret (st := []) F Rt rfl (by decide +kernel) ⟨hρ3, _, rfl, (congrArg Prod.fst (Option.some.inj h)).symm, (congrArg Prod.snd (Option.some.inj h)).symm⟩
    rw [if_neg c1] at h
    by_cases c2 : x2 = 2
    · rw [if_pos c2] at h
      refine j_tableIn F (pc := 19) (dflt := 83) (lo := 0) (hi := 5) (offs := #[37, 50, 55, 68, 73, 78]) (len := 37) (off := 55) (tgt := 74) (by decide +kernel) (by rw [c2]; decide) (by rw [c2]; decide) (by rw [c2]; decide +kernel) (by decide) ?_
      refine j_aload_n F (pc := 74) (q := 3) (by decide +kernel) rfl ?_
      refine j_getI F (pc := 75) fl_X4_119 (hb10.1 0 _ rfl) rfl (by decide +kernel) ?_
      suffices hj : z_J E 4 86 [some (.ref 0), some (.int x1), some (.int x2), some (.ref r8)] (.int (if (μ2.1 r8 12) = 0 then (0 : Int32) else (1 : Int32)) :: []) μ2 by
        refine j_if_eq F (pc := 78) (off := 7) (tgt := 85) (by decide +kernel) (by decide) (fun c0 => ?_) (fun c0 => ?_)
        · rw [if_pos c0] at hj
          refine j_iconst F (pc := 85) (n := 0) (v := 0) (by decide +kernel) (by decide +kernel) ?_
          exact hj
        · rw [if_neg c0] at hj
          refine j_iconst F (pc := 81) (n := 1) (v := 1) (by decide +kernel) (by decide +kernel) ?_
          refine j_goto F (pc := 82) (off := 4) (tgt := 86) (by decide +kernel) (by decide) ?_
          exact hj
      exact j_iret (st := []) F Rt rfl (by decide +kernel) ⟨hρ3, _, rfl, (congrArg Prod.fst (Option.some.inj h)).symm, (congrArg Prod.snd (Option.some.inj h)).symm⟩
    rw [if_neg c2] at h
    by_cases c3 : x2 = 3
    · rw [if_pos c3] at h
      refine j_tableIn F (pc := 19) (dflt := 83) (lo := 0) (hi := 5) (offs := #[37, 50, 55, 68, 73, 78]) (len := 37) (off := 68) (tgt := 87) (by decide +kernel) (by rw [c3]; decide) (by rw [c3]; decide) (by rw [c3]; decide +kernel) (by decide) ?_
      refine j_aload_n F (pc := 87) (q := 3) (by decide +kernel) rfl ?_
      refine j_getI F (pc := 88) fl_X4_122 (hb10.1 0 _ rfl) rfl (by decide +kernel) ?_
      exact j_iret (st := []) F Rt rfl (by decide +kernel) ⟨hρ3, _, rfl, (congrArg Prod.fst (Option.some.inj h)).symm, (congrArg Prod.snd (Option.some.inj h)).symm⟩
    rw [if_neg c3] at h
    by_cases c4 : x2 = 4
    · rw [if_pos c4] at h
      refine j_tableIn F (pc := 19) (dflt := 83) (lo := 0) (hi := 5) (offs := #[37, 50, 55, 68, 73, 78]) (len := 37) (off := 73) (tgt := 92) (by decide +kernel) (by rw [c4]; decide) (by rw [c4]; decide) (by rw [c4]; decide +kernel) (by decide) ?_
      refine j_aload_n F (pc := 92) (q := 3) (by decide +kernel) rfl ?_
      refine j_getI F (pc := 93) fl_X4_125 (hb10.1 0 _ rfl) rfl (by decide +kernel) ?_
      exact j_iret (st := []) F Rt rfl (by decide +kernel) ⟨hρ3, _, rfl, (congrArg Prod.fst (Option.some.inj h)).symm, (congrArg Prod.snd (Option.some.inj h)).symm⟩
    rw [if_neg c4] at h
    by_cases c5 : x2 = 5
    · rw [if_pos c5] at h
      refine j_tableIn F (pc := 19) (dflt := 83) (lo := 0) (hi := 5) (offs := #[37, 50, 55, 68, 73, 78]) (len := 37) (off := 78) (tgt := 97) (by decide +kernel) (by rw [c5]; decide) (by rw [c5]; decide) (by rw [c5]; decide +kernel) (by decide) ?_
      refine j_aload_n F (pc := 97) (q := 3) (by decide +kernel) rfl ?_
      refine j_getI F (pc := 98) fl_X4_109 (hb10.1 0 _ rfl) rfl (by decide +kernel) ?_
      exact j_iret (st := []) F Rt rfl (by decide +kernel) ⟨hρ3, _, rfl, (congrArg Prod.fst (Option.some.inj h)).symm, (congrArg Prod.snd (Option.some.inj h)).symm⟩
    rw [if_neg c5] at h
    refine j_tableOut F (pc := 19) (dflt := 83) (lo := 0) (hi := 5) (offs := #[37, 50, 55, 68, 73, 78]) (len := 37) (tgt := 102) (by decide +kernel) (by have d0 := lv_neT (k := 0) (a := 0) c0 (by decide); have d1 := lv_neT (k := 1) (a := 1) c1 (by decide); have d2 := lv_neT (k := 2) (a := 2) c2 (by decide); have d3 := lv_neT (k := 3) (a := 3) c3 (by decide); have d4 := lv_neT (k := 4) (a := 4) c4 (by decide); have d5 := lv_neT (k := 5) (a := 5) c5 (by decide); omega) (by decide) ?_
    refine j_sipush F (pc := 102) (n := -1002) (v := -1002) (by decide +kernel) (by decide +kernel) ?_
    exact j_iret (st := []) F Rt rfl (by decide +kernel) ⟨hρ3, _, rfl, (congrArg Prod.fst (Option.some.inj h)).symm, (congrArg Prod.snd (Option.some.inj h)).symm⟩
  · rw [if_pos c] at h
    refine j_sipush F (pc := 7) (n := -1001) (v := -1001) (by decide +kernel) (by decide +kernel) ?_
    exact j_iret (st := []) F Rt rfl (by decide +kernel) ⟨hρ3, _, rfl, (congrArg Prod.fst (Option.some.inj h)).symm, (congrArg Prod.snd (Option.some.inj h)).symm⟩
/-- LastLent.goes -/
def f_X4_goes (x1 : Int32) (x2 : Int32) (x3 : Int32) (μ : z_M) : Option (Int32 × z_M) :=
  (z_b2 (f_X4_isLand (x1) μ) fun r1 μ2 => (if r1 = 0 then (some ((-1001 : Int32), μ2)) else (z_b2 (f_X4_isKind (x2) μ2) fun r8 μ9 => (if r8 = 0 then (some ((-1001 : Int32), μ9)) else (z_b2 (f_X4_isKind (x3) μ9) fun r15 μ16 => (if r15 = 0 then (some ((-1001 : Int32), μ16)) else (if z_in x1 4 then ((μ16.2.2 1 x1.toNatClampNeg).bind fun r22 => (if z_in x2 8 then (z_b2 (f_X4_bit ((μ16.1 (r22 + 3) x2.toNatClampNeg)) (x3) μ16) fun r25 μ26 => (some (r25, μ26))) else none)) else none)))))))
set_option maxHeartbeats 4000000 in
set_option maxRecDepth 100000 in
theorem t_X4_goes {G : z_Gl} {ρ : Nat → Nat → Option Nat} {μ : z_M} {r : Int32} {μr : z_M} {x1 : Int32} {x2 : Int32} {x3 : Int32} (hρ : μ.2.2 = ρ) (hk : z_ok (z_sh G) ρ) (h : f_X4_goes x1 x2 x3 μ = some (r, μr)) : z_Ci G yX4_goes cX4_goes 4 (some .int) 1 [.ref 0, .int x1, .int x2, .int x3] μ (fun r1 μ1 => r = r1 ∧ μr = μ1) := by
  unfold z_Ci
  refine z_intro (by decide +kernel) (Nat.le_of_ble_eq_true rfl) (fun E hE F Rt => ?_)
  subst hE
  have F : z_F E RX4 cX4_goes 4 1 := F
  rw [hρ] at Rt
  unfold f_X4_goes at h
  show z_J E 4 0 [some (.ref 0), some (.int x1), some (.int x2), some (.int x3)] [] μ
  refine j_iload_n F (pc := 0) (q := 1) (by decide +kernel) rfl ?_
  obtain ⟨r1, μ2, hc4, h⟩ := z_b2_some h
  refine j_callSi F (pc := 1) (idx := 67) (As := [.int x1]) (st := []) (t_X4_isLand (G := E.1) hρ  hc4) q_X4_isLand m_387 m_386 rfl (by decide) (Nat.le_of_ble_eq_true rfl) rfl (by decide +kernel) (fun s7 ν5 hq6 hp => ?_)
  obtain ⟨rfl, rfl⟩ := hp
  have hρ3 : μ2.2.2 = ρ := hq6.trans hρ
  refine j_if_eq F (pc := 4) (off := 17) (tgt := 21) (by decide +kernel) (by decide) (fun c => ?_) (fun c => ?_)
  · rw [if_pos c] at h
    refine j_sipush F (pc := 21) (n := -1001) (v := -1001) (by decide +kernel) (by decide +kernel) ?_
    exact j_iret (st := []) F Rt rfl (by decide +kernel) ⟨hρ3, _, rfl, (congrArg Prod.fst (Option.some.inj h)).symm, (congrArg Prod.snd (Option.some.inj h)).symm⟩
  · rw [if_neg c] at h
    refine j_iload_n F (pc := 7) (q := 2) (by decide +kernel) rfl ?_
    obtain ⟨r8, μ9, hc11, h⟩ := z_b2_some h
    refine j_callSi F (pc := 8) (idx := 84) (As := [.int x2]) (st := []) (t_X4_isKind (G := E.1) hρ3  hc11) q_X4_isKind m_564 m_563 rfl (by decide) (Nat.le_of_ble_eq_true rfl) rfl (by decide +kernel) (fun s14 ν12 hq13 hp => ?_)
    obtain ⟨rfl, rfl⟩ := hp
    have hρ10 : μ9.2.2 = ρ := hq13.trans hρ3
    refine j_if_eq F (pc := 11) (off := 10) (tgt := 21) (by decide +kernel) (by decide) (fun c => ?_) (fun c => ?_)
    · rw [if_pos c] at h
      refine j_sipush F (pc := 21) (n := -1001) (v := -1001) (by decide +kernel) (by decide +kernel) ?_
      exact j_iret (st := []) F Rt rfl (by decide +kernel) ⟨hρ10, _, rfl, (congrArg Prod.fst (Option.some.inj h)).symm, (congrArg Prod.snd (Option.some.inj h)).symm⟩
    · rw [if_neg c] at h
      refine j_iload_n F (pc := 14) (q := 3) (by decide +kernel) rfl ?_
      obtain ⟨r15, μ16, hc18, h⟩ := z_b2_some h
      refine j_callSi F (pc := 15) (idx := 84) (As := [.int x3]) (st := []) (t_X4_isKind (G := E.1) hρ10  hc18) q_X4_isKind m_564 m_563 rfl (by decide) (Nat.le_of_ble_eq_true rfl) rfl (by decide +kernel) (fun s21 ν19 hq20 hp => ?_)
      obtain ⟨rfl, rfl⟩ := hp
      have hρ17 : μ16.2.2 = ρ := hq20.trans hρ10
      refine j_if_ne F (pc := 18) (off := 7) (tgt := 25) (by decide +kernel) (by decide) (fun c => ?_) (fun c => ?_)
      · rw [if_neg c] at h
        refine j_aload_n F (pc := 25) (q := 0) (by decide +kernel) rfl ?_
        refine j_getR F (pc := 26) (hk.r hρ17 r_0_0) fl_X4_11 (hk.s c_0) rfl (by decide +kernel) ?_
        refine j_iload_n F (pc := 29) (q := 1) (by decide +kernel) rfl ?_
        obtain ⟨hg, h⟩ := z_ifs h
        obtain ⟨r22, hr23, h⟩ := Option.bind_eq_some_iff.mp h
        have hb24 := hk.lawsAt hρ17 hr23
        refine j_aald F (pc := 30) (hk.s c_1) (by decide) hg hr23 (by decide +kernel) ?_
        refine j_getR F (pc := 31) (hb24.r hρ17 2 rfl) fl_X4_128 (hb24.1 0 _ rfl) rfl (by decide +kernel) ?_
        refine j_iload_n F (pc := 34) (q := 2) (by decide +kernel) rfl ?_
        obtain ⟨hg, h⟩ := z_ifs h
        refine j_iald F (pc := 35) (hb24.1 3 _ rfl) hg (by decide +kernel) ?_
        refine j_iload_n F (pc := 36) (q := 3) (by decide +kernel) rfl ?_
        obtain ⟨r25, μ26, hc28, h⟩ := z_b2_some h
        refine j_callSi F (pc := 37) (idx := 96) (As := [.int (μ16.1 (r22 + 3) x2.toNatClampNeg), .int x3]) (st := []) (t_X4_bit (G := E.1) hρ17  hc28) q_X4_bit m_474 m_566 rfl (by decide) (Nat.le_of_ble_eq_true rfl) rfl (by decide +kernel) (fun s31 ν29 hq30 hp => ?_)
        obtain ⟨rfl, rfl⟩ := hp
        have hρ27 : μ26.2.2 = ρ := hq30.trans hρ17
        exact j_iret (st := []) F Rt rfl (by decide +kernel) ⟨hρ27, _, rfl, (congrArg Prod.fst (Option.some.inj h)).symm, (congrArg Prod.snd (Option.some.inj h)).symm⟩
      · rw [if_pos c] at h
        refine j_sipush F (pc := 21) (n := -1001) (v := -1001) (by decide +kernel) (by decide +kernel) ?_
        exact j_iret (st := []) F Rt rfl (by decide +kernel) ⟨hρ17, _, rfl, (congrArg Prod.fst (Option.some.inj h)).symm, (congrArg Prod.snd (Option.some.inj h)).symm⟩
/-- LastLent.isDay -/
def f_X4_isDay (x0 : Int32) (μ : z_M) : Option (Int32 × z_M) :=
  (some ((if x0 < 0 then (0 : Int32) else (if (999 : Int32) < x0 then (0 : Int32) else (1 : Int32))), μ))
set_option maxHeartbeats 4000000 in
set_option maxRecDepth 100000 in
theorem t_X4_isDay {G : z_Gl} {ρ : Nat → Nat → Option Nat} {μ : z_M} {r : Int32} {μr : z_M} {x0 : Int32} (hρ : μ.2.2 = ρ)  (h : f_X4_isDay x0 μ = some (r, μr)) : z_Ci G yX4_isDay cX4_isDay 1 (some .boolean) 0 [.int x0] μ (fun r1 μ1 => r = r1 ∧ μr = μ1) := by
  unfold z_Ci
  refine z_intro (by decide +kernel) (Nat.le_of_ble_eq_true rfl) (fun E hE F Rt => ?_)
  subst hE
  have F : z_F E RX4 cX4_isDay 1 0 := F
  rw [hρ] at Rt
  unfold f_X4_isDay at h
  show z_J E 1 0 [some (.int x0)] [] μ
  refine j_iload_n F (pc := 0) (q := 0) (by decide +kernel) rfl ?_
  suffices hj : z_J E 1 16 [some (.int x0)] (.int (if x0 < 0 then (0 : Int32) else (if (999 : Int32) < x0 then (0 : Int32) else (1 : Int32))) :: []) μ by
    refine j_if_lt F (pc := 1) (off := 14) (tgt := 15) (by decide +kernel) (by decide) (fun c0 => ?_) (fun c0 => ?_)
    · rw [if_pos c0] at hj
      refine j_iconst F (pc := 15) (n := 0) (v := 0) (by decide +kernel) (by decide +kernel) ?_
      exact hj
    · rw [if_neg c0] at hj
      refine j_iload_n F (pc := 4) (q := 0) (by decide +kernel) rfl ?_
      refine j_sipush F (pc := 5) (n := 999) (v := 999) (by decide +kernel) (by decide +kernel) ?_
      refine j_icmp_gt F (pc := 8) (off := 7) (tgt := 15) (by decide +kernel) (by decide) (fun c1 => ?_) (fun c1 => ?_)
      · rw [if_pos c1] at hj
        refine j_iconst F (pc := 15) (n := 0) (v := 0) (by decide +kernel) (by decide +kernel) ?_
        exact hj
      · rw [if_neg c1] at hj
        refine j_iconst F (pc := 11) (n := 1) (v := 1) (by decide +kernel) (by decide +kernel) ?_
        refine j_goto F (pc := 12) (off := 4) (tgt := 16) (by decide +kernel) (by decide) ?_
        exact hj
  exact j_iret (st := []) F Rt (z_nb (by repeat' (first | exact Or.inl rfl | exact Or.inr rfl | split))) (by decide +kernel) ⟨hρ, _, rfl, (congrArg Prod.fst (Option.some.inj h)).symm, (congrArg Prod.snd (Option.some.inj h)).symm⟩
