/-! functions and contracts, written by wip/whole/dec.py -/
/-- LastLent$Ship.lastEnd -/
def f_X3_lastEnd (o : Nat) (μ : z_M) : Option (Int32 × z_M) :=
  (if (¬ ((μ.1 o 0) ≤ 0) → z_in ((μ.1 o 0) - (1 : Int32)) 6) then (some ((if (μ.1 o 0) ≤ 0 then (-1 : Int32) else (μ.1 (o + 2) ((μ.1 o 0) - (1 : Int32)).toNatClampNeg)), μ)) else none)
set_option maxHeartbeats 4000000 in
set_option maxRecDepth 100000 in
theorem t_X3_lastEnd {G : z_Gl} {ρ : Nat → Nat → Option Nat} {μ : z_M} {r : Int32} {μr : z_M} {o : Nat} (hρ : μ.2.2 = ρ) (hb : z_blk z_shipS z_shipR (z_sh G) ρ o) (h : f_X3_lastEnd o μ = some (r, μr)) : z_Ci G yX3_lastEnd cX3_lastEnd 1 (some .int) 0 [.ref o] μ (fun r1 μ1 => r = r1 ∧ μr = μ1) := by
  unfold z_Ci
  refine z_intro (by decide +kernel) (Nat.le_of_ble_eq_true rfl) (fun E hE F Rt => ?_)
  subst hE
  have F : z_F E RX3 cX3_lastEnd 1 0 := F
  rw [hρ] at Rt
  unfold f_X3_lastEnd at h
  show z_J E 1 0 [some (.ref o)] [] μ
  refine j_aload_n F (pc := 0) (q := 0) (by decide +kernel) rfl ?_
  refine j_getI F (pc := 1) fl_X3_42 (hb.1 0 _ rfl) rfl (by decide +kernel) ?_
  obtain ⟨hg, h⟩ := z_ifs h
  suffices hj : z_J E 1 22 [some (.ref o)] (.int (if (μ.1 o 0) ≤ 0 then (-1 : Int32) else (μ.1 (o + 2) ((μ.1 o 0) - (1 : Int32)).toNatClampNeg)) :: []) μ by
    refine j_if_le F (pc := 4) (off := 17) (tgt := 21) (by decide +kernel) (by decide) (fun c0 => ?_) (fun c0 => ?_)
    · rw [if_pos c0] at hj
      refine j_iconst F (pc := 21) (n := -1) (v := -1) (by decide +kernel) (by decide +kernel) ?_
      exact hj
    · rw [if_neg c0] at hj
      refine j_aload_n F (pc := 7) (q := 0) (by decide +kernel) rfl ?_
      refine j_getR F (pc := 8) (hb.r hρ 4 rfl) fl_X3_15 (hb.1 0 _ rfl) rfl (by decide +kernel) ?_
      refine j_aload_n F (pc := 11) (q := 0) (by decide +kernel) rfl ?_
      refine j_getI F (pc := 12) fl_X3_42 (hb.1 0 _ rfl) rfl (by decide +kernel) ?_
      refine j_iconst F (pc := 15) (n := 1) (v := 1) (by decide +kernel) (by decide +kernel) ?_
      refine j_isub F (pc := 16) (by decide +kernel) ?_
      refine j_iald F (pc := 17) (hb.1 2 _ rfl) (hg c0) (by decide +kernel) ?_
      refine j_goto F (pc := 18) (off := 4) (tgt := 22) (by decide +kernel) (by decide) ?_
      exact hj
  exact j_iret (st := []) F Rt rfl (by decide +kernel) ⟨hρ, _, rfl, (congrArg Prod.fst (Option.some.inj h)).symm, (congrArg Prod.snd (Option.some.inj h)).symm⟩
/-- LastLent$Ship.addVoyage -/
def f_X3_addVoyage (o : Nat) (x1 : Int32) (x2 : Int32) (μ : z_M) : Option (Int32 × z_M) :=
  (if (μ.1 o 0) < (6 : Int32) then (if z_in (μ.1 o 0) 6 then (z_st (z_si μ (o + 1) (μ.1 o 0).toNatClampNeg x1) fun μ1 => (if z_in (μ1.1 o 0) 6 then (z_st (z_si μ1 (o + 2) (μ1.1 o 0).toNatClampNeg x2) fun μ4 => (z_st (z_si μ4 o 0 ((μ4.1 o 0) + (1 : Int32))) fun μ7 => (some (((μ7.1 o 0) - (1 : Int32)), μ7)))) else none)) else none) else (some ((-1004 : Int32), μ)))
set_option maxHeartbeats 4000000 in
set_option maxRecDepth 100000 in
theorem t_X3_addVoyage {G : z_Gl} {ρ : Nat → Nat → Option Nat} {μ : z_M} {r : Int32} {μr : z_M} {o : Nat} {x1 : Int32} {x2 : Int32} (hρ : μ.2.2 = ρ) (hb : z_blk z_shipS z_shipR (z_sh G) ρ o) (h : f_X3_addVoyage o x1 x2 μ = some (r, μr)) : z_Ci G yX3_addVoyage cX3_addVoyage 3 (some .int) 0 [.ref o, .int x1, .int x2] μ (fun r1 μ1 => r = r1 ∧ μr = μ1) := by
  unfold z_Ci
  refine z_intro (by decide +kernel) (Nat.le_of_ble_eq_true rfl) (fun E hE F Rt => ?_)
  subst hE
  have F : z_F E RX3 cX3_addVoyage 3 0 := F
  rw [hρ] at Rt
  unfold f_X3_addVoyage at h
  show z_J E 3 0 [some (.ref o), some (.int x1), some (.int x2)] [] μ
  refine j_aload_n F (pc := 0) (q := 0) (by decide +kernel) rfl ?_
  refine j_getI F (pc := 1) fl_X3_42 (hb.1 0 _ rfl) rfl (by decide +kernel) ?_
  refine j_bipush F (pc := 4) (n := 6) (v := 6) (by decide +kernel) (by decide +kernel) ?_
  refine j_icmp_lt F (pc := 6) (off := 7) (tgt := 13) (by decide +kernel) (by decide) (fun c => ?_) (fun c => ?_)
  · rw [if_pos c] at h
    refine j_aload_n F (pc := 13) (q := 0) (by decide +kernel) rfl ?_
    refine j_getR F (pc := 14) (hb.r hρ 3 rfl) fl_X3_9 (hb.1 0 _ rfl) rfl (by decide +kernel) ?_
    refine j_aload_n F (pc := 17) (q := 0) (by decide +kernel) rfl ?_
    refine j_getI F (pc := 18) fl_X3_42 (hb.1 0 _ rfl) rfl (by decide +kernel) ?_
    refine j_iload_n F (pc := 21) (q := 1) (by decide +kernel) rfl ?_
    obtain ⟨hg, h⟩ := z_ifs h
    refine j_iast F (pc := 22) (hb.1 1 _ rfl) hg (by decide +kernel) ?_
    obtain ⟨μ1, e3, h⟩ := z_st_some h
    rw [← e3]
    have hρ2 : μ1.2.2 = ρ := by rw [e3]; exact hρ
    refine j_aload_n F (pc := 23) (q := 0) (by decide +kernel) rfl ?_
    refine j_getR F (pc := 24) (hb.r hρ2 4 rfl) fl_X3_15 (hb.1 0 _ rfl) rfl (by decide +kernel) ?_
    refine j_aload_n F (pc := 27) (q := 0) (by decide +kernel) rfl ?_
    refine j_getI F (pc := 28) fl_X3_42 (hb.1 0 _ rfl) rfl (by decide +kernel) ?_
    refine j_iload_n F (pc := 31) (q := 2) (by decide +kernel) rfl ?_
    obtain ⟨hg, h⟩ := z_ifs h
    refine j_iast F (pc := 32) (hb.1 2 _ rfl) hg (by decide +kernel) ?_
    obtain ⟨μ4, e6, h⟩ := z_st_some h
    rw [← e6]
    have hρ5 : μ4.2.2 = ρ := by rw [e6]; exact hρ2
    refine j_aload_n F (pc := 33) (q := 0) (by decide +kernel) rfl ?_
    refine j_dup F (pc := 34) (by decide +kernel) rfl ?_
    refine j_getI F (pc := 35) fl_X3_42 (hb.1 0 _ rfl) rfl (by decide +kernel) ?_
    refine j_iconst F (pc := 38) (n := 1) (v := 1) (by decide +kernel) (by decide +kernel) ?_
    refine j_iadd F (pc := 39) (by decide +kernel) ?_
    refine j_putI F (pc := 40) fl_X3_42 fp_X3_0 (hb.1 0 _ rfl) rfl (by decide +kernel) ?_
    obtain ⟨μ7, e9, h⟩ := z_st_some h
    rw [← e9]
    have hρ8 : μ7.2.2 = ρ := by rw [e9]; exact hρ5
    refine j_aload_n F (pc := 43) (q := 0) (by decide +kernel) rfl ?_
    refine j_getI F (pc := 44) fl_X3_42 (hb.1 0 _ rfl) rfl (by decide +kernel) ?_
    refine j_iconst F (pc := 47) (n := 1) (v := 1) (by decide +kernel) (by decide +kernel) ?_
    refine j_isub F (pc := 48) (by decide +kernel) ?_
    exact j_iret (st := []) F Rt rfl (by decide +kernel) ⟨hρ8, _, rfl, (congrArg Prod.fst (Option.some.inj h)).symm, (congrArg Prod.snd (Option.some.inj h)).symm⟩
  · rw [if_neg c] at h
    refine j_sipush F (pc := 9) (n := -1004) (v := -1004) (by decide +kernel) (by decide +kernel) ?_
    exact j_iret (st := []) F Rt rfl (by decide +kernel) ⟨hρ, _, rfl, (congrArg Prod.fst (Option.some.inj h)).symm, (congrArg Prod.snd (Option.some.inj h)).symm⟩
/-- LastLent.voyage -/
def f_X4_voyage (x1 : Int32) (x2 : Int32) (μ : z_M) : Option (Int32 × z_M) :=
  (z_b2 (f_X4_isDay (x1) μ) fun r1 μ2 => (if r1 = 0 then (some ((-1002 : Int32), μ2)) else (z_b2 (f_X4_isDay (x2) μ2) fun r8 μ9 => (if r8 = 0 then (some ((-1002 : Int32), μ9)) else (if x1 ≤ x2 then (z_b2 (f_X3_lastEnd (4) μ9) fun r15 μ16 => (if r15 < x1 then (z_b2 (f_X3_addVoyage (4) (x1) (x2) μ16) fun r22 μ23 => (some (r22, μ23))) else (some ((-1003 : Int32), μ16)))) else (some ((-1002 : Int32), μ9)))))))
set_option maxHeartbeats 4000000 in
set_option maxRecDepth 100000 in
theorem t_X4_voyage {G : z_Gl} {ρ : Nat → Nat → Option Nat} {μ : z_M} {r : Int32} {μr : z_M} {x1 : Int32} {x2 : Int32} (hρ : μ.2.2 = ρ) (hk : z_ok (z_sh G) ρ) (h : f_X4_voyage x1 x2 μ = some (r, μr)) : z_Ci G yX4_voyage cX4_voyage 3 (some .int) 1 [.ref 0, .int x1, .int x2] μ (fun r1 μ1 => r = r1 ∧ μr = μ1) := by
  unfold z_Ci
  refine z_intro (by decide +kernel) (Nat.le_of_ble_eq_true rfl) (fun E hE F Rt => ?_)
  subst hE
  have F : z_F E RX4 cX4_voyage 3 1 := F
  rw [hρ] at Rt
  unfold f_X4_voyage at h
  show z_J E 3 0 [some (.ref 0), some (.int x1), some (.int x2)] [] μ
  refine j_iload_n F (pc := 0) (q := 1) (by decide +kernel) rfl ?_
  obtain ⟨r1, μ2, hc4, h⟩ := z_b2_some h
  refine j_callSi F (pc := 1) (idx := 131) (As := [.int x1]) (st := []) (t_X4_isDay (G := E.1) hρ  hc4) q_X4_isDay m_580 m_579 rfl (by decide) (Nat.le_of_ble_eq_true rfl) rfl (by decide +kernel) (fun s7 ν5 hq6 hp => ?_)
  obtain ⟨rfl, rfl⟩ := hp
  have hρ3 : μ2.2.2 = ρ := hq6.trans hρ
  refine j_if_eq F (pc := 4) (off := 15) (tgt := 19) (by decide +kernel) (by decide) (fun c => ?_) (fun c => ?_)
  · rw [if_pos c] at h
    refine j_sipush F (pc := 19) (n := -1002) (v := -1002) (by decide +kernel) (by decide +kernel) ?_
    exact j_iret (st := []) F Rt rfl (by decide +kernel) ⟨hρ3, _, rfl, (congrArg Prod.fst (Option.some.inj h)).symm, (congrArg Prod.snd (Option.some.inj h)).symm⟩
  · rw [if_neg c] at h
    refine j_iload_n F (pc := 7) (q := 2) (by decide +kernel) rfl ?_
    obtain ⟨r8, μ9, hc11, h⟩ := z_b2_some h
    refine j_callSi F (pc := 8) (idx := 131) (As := [.int x2]) (st := []) (t_X4_isDay (G := E.1) hρ3  hc11) q_X4_isDay m_580 m_579 rfl (by decide) (Nat.le_of_ble_eq_true rfl) rfl (by decide +kernel) (fun s14 ν12 hq13 hp => ?_)
    obtain ⟨rfl, rfl⟩ := hp
    have hρ10 : μ9.2.2 = ρ := hq13.trans hρ3
    refine j_if_eq F (pc := 11) (off := 8) (tgt := 19) (by decide +kernel) (by decide) (fun c => ?_) (fun c => ?_)
    · rw [if_pos c] at h
      refine j_sipush F (pc := 19) (n := -1002) (v := -1002) (by decide +kernel) (by decide +kernel) ?_
      exact j_iret (st := []) F Rt rfl (by decide +kernel) ⟨hρ10, _, rfl, (congrArg Prod.fst (Option.some.inj h)).symm, (congrArg Prod.snd (Option.some.inj h)).symm⟩
    · rw [if_neg c] at h
      refine j_iload_n F (pc := 14) (q := 2) (by decide +kernel) rfl ?_
      refine j_iload_n F (pc := 15) (q := 1) (by decide +kernel) rfl ?_
      refine j_icmp_ge F (pc := 16) (off := 7) (tgt := 23) (by decide +kernel) (by decide) (fun c => ?_) (fun c => ?_)
      · rw [if_pos c] at h
        refine j_iload_n F (pc := 23) (q := 1) (by decide +kernel) rfl ?_
        refine j_aload_n F (pc := 24) (q := 0) (by decide +kernel) rfl ?_
        refine j_getR F (pc := 25) (hk.r hρ10 r_0_2) fl_X4_25 (hk.s c_0) rfl (by decide +kernel) ?_
        obtain ⟨r15, μ16, hc18, h⟩ := z_b2_some h
        refine j_callVi F (pc := 28) (idx := 134) (As := []) (st := [.int x1]) (t_X3_lastEnd (G := E.1) hρ10 (hk.shipB (by decide : 4 ∈ z_SHIPS)) hc18) q_X3_lastEnd v_X3_lastEnd m_582 ((hk.shipB (by decide : 4 ∈ z_SHIPS)).1 0 _ rfl) rfl rfl (by decide) (Nat.le_of_ble_eq_true rfl) rfl (by decide +kernel) (fun s21 ν19 hq20 hp => ?_)
        obtain ⟨rfl, rfl⟩ := hp
        have hρ17 : μ16.2.2 = ρ := hq20.trans hρ10
        refine j_icmp_gt F (pc := 31) (off := 7) (tgt := 38) (by decide +kernel) (by decide) (fun c => ?_) (fun c => ?_)
        · rw [if_pos c] at h
          refine j_aload_n F (pc := 38) (q := 0) (by decide +kernel) rfl ?_
          refine j_getR F (pc := 39) (hk.r hρ17 r_0_2) fl_X4_25 (hk.s c_0) rfl (by decide +kernel) ?_
          refine j_iload_n F (pc := 42) (q := 1) (by decide +kernel) rfl ?_
          refine j_iload_n F (pc := 43) (q := 2) (by decide +kernel) rfl ?_
          obtain ⟨r22, μ23, hc25, h⟩ := z_b2_some h
          refine j_callVi F (pc := 44) (idx := 138) (As := [.int x1, .int x2]) (st := []) (t_X3_addVoyage (G := E.1) hρ17 (hk.shipB (by decide : 4 ∈ z_SHIPS)) hc25) q_X3_addVoyage v_X3_addVoyage m_586 ((hk.shipB (by decide : 4 ∈ z_SHIPS)).1 0 _ rfl) rfl rfl (by decide) (Nat.le_of_ble_eq_true rfl) rfl (by decide +kernel) (fun s28 ν26 hq27 hp => ?_)
          obtain ⟨rfl, rfl⟩ := hp
          have hρ24 : μ23.2.2 = ρ := hq27.trans hρ17
          exact j_iret (st := []) F Rt rfl (by decide +kernel) ⟨hρ24, _, rfl, (congrArg Prod.fst (Option.some.inj h)).symm, (congrArg Prod.snd (Option.some.inj h)).symm⟩
        · rw [if_neg c] at h
          refine j_sipush F (pc := 34) (n := -1003) (v := -1003) (by decide +kernel) (by decide +kernel) ?_
          exact j_iret (st := []) F Rt rfl (by decide +kernel) ⟨hρ17, _, rfl, (congrArg Prod.fst (Option.some.inj h)).symm, (congrArg Prod.snd (Option.some.inj h)).symm⟩
      · rw [if_neg c] at h
        refine j_sipush F (pc := 19) (n := -1002) (v := -1002) (by decide +kernel) (by decide +kernel) ?_
        exact j_iret (st := []) F Rt rfl (by decide +kernel) ⟨hρ10, _, rfl, (congrArg Prod.fst (Option.some.inj h)).symm, (congrArg Prod.snd (Option.some.inj h)).symm⟩
/-- LastLent.isHolder -/
def f_X4_isHolder (x0 : Int32) (μ : z_M) : Option (Int32 × z_M) :=
  (some ((if x0 < 0 then (0 : Int32) else (if (6 : Int32) ≤ x0 then (0 : Int32) else (1 : Int32))), μ))
set_option maxHeartbeats 4000000 in
set_option maxRecDepth 100000 in
theorem t_X4_isHolder {G : z_Gl} {ρ : Nat → Nat → Option Nat} {μ : z_M} {r : Int32} {μr : z_M} {x0 : Int32} (hρ : μ.2.2 = ρ)  (h : f_X4_isHolder x0 μ = some (r, μr)) : z_Ci G yX4_isHolder cX4_isHolder 1 (some .boolean) 0 [.int x0] μ (fun r1 μ1 => r = r1 ∧ μr = μ1) := by
  unfold z_Ci
  refine z_intro (by decide +kernel) (Nat.le_of_ble_eq_true rfl) (fun E hE F Rt => ?_)
  subst hE
  have F : z_F E RX4 cX4_isHolder 1 0 := F
  rw [hρ] at Rt
  unfold f_X4_isHolder at h
  show z_J E 1 0 [some (.int x0)] [] μ
  refine j_iload_n F (pc := 0) (q := 0) (by decide +kernel) rfl ?_
  suffices hj : z_J E 1 15 [some (.int x0)] (.int (if x0 < 0 then (0 : Int32) else (if (6 : Int32) ≤ x0 then (0 : Int32) else (1 : Int32))) :: []) μ by
    refine j_if_lt F (pc := 1) (off := 13) (tgt := 14) (by decide +kernel) (by decide) (fun c0 => ?_) (fun c0 => ?_)
    · rw [if_pos c0] at hj
      refine j_iconst F (pc := 14) (n := 0) (v := 0) (by decide +kernel) (by decide +kernel) ?_
      exact hj
    · rw [if_neg c0] at hj
      refine j_iload_n F (pc := 4) (q := 0) (by decide +kernel) rfl ?_
      refine j_bipush F (pc := 5) (n := 6) (v := 6) (by decide +kernel) (by decide +kernel) ?_
      refine j_icmp_ge F (pc := 7) (off := 7) (tgt := 14) (by decide +kernel) (by decide) (fun c1 => ?_) (fun c1 => ?_)
      · rw [if_pos c1] at hj
        refine j_iconst F (pc := 14) (n := 0) (v := 0) (by decide +kernel) (by decide +kernel) ?_
        exact hj
      · rw [if_neg c1] at hj
        refine j_iconst F (pc := 10) (n := 1) (v := 1) (by decide +kernel) (by decide +kernel) ?_
        refine j_goto F (pc := 11) (off := 4) (tgt := 15) (by decide +kernel) (by decide) ?_
        exact hj
  exact j_iret (st := []) F Rt (z_nb (by repeat' (first | exact Or.inl rfl | exact Or.inr rfl | split))) (by decide +kernel) ⟨hρ, _, rfl, (congrArg Prod.fst (Option.some.inj h)).symm, (congrArg Prod.snd (Option.some.inj h)).symm⟩
/-- LastLent$Ship.addClaim -/
def f_X3_addClaim (o : Nat) (x1 : Int32) (x2 : Int32) (x3 : Int32) (x4 : Int32) (x5 : Int32) (x6 : Int32) (μ : z_M) : Option (Int32 × z_M) :=
  (if (μ.1 o 1) < (14 : Int32) then (if z_in (μ.1 o 1) 14 then (z_st (z_si μ (o + 3) (μ.1 o 1).toNatClampNeg x1) fun μ1 => (if z_in (μ1.1 o 1) 14 then (z_st (z_si μ1 (o + 4) (μ1.1 o 1).toNatClampNeg x2) fun μ4 => (if z_in (μ4.1 o 1) 14 then (z_st (z_si μ4 (o + 5) (μ4.1 o 1).toNatClampNeg x3) fun μ7 => (if z_in (μ7.1 o 1) 14 then (z_st (z_si μ7 (o + 6) (μ7.1 o 1).toNatClampNeg x4) fun μ10 => (z_st (z_si μ10 o 2 (if x5 = 0 then ((μ10.1 o 2) &&& (((1 : Int32) <<< ((μ10.1 o 1) &&& 31)) ^^^ (-1 : Int32))) else ((μ10.1 o 2) ||| ((1 : Int32) <<< ((μ10.1 o 1) &&& 31))))) fun μ13 => (if z_in (μ13.1 o 1) 14 then (z_st (z_si μ13 (o + 7) (μ13.1 o 1).toNatClampNeg x6) fun μ16 => (if z_in (μ16.1 o 1) 14 then (z_st (z_si μ16 (o + 8) (μ16.1 o 1).toNatClampNeg (-1 : Int32)) fun μ19 => (z_st (z_si μ19 o 1 ((μ19.1 o 1) + (1 : Int32))) fun μ22 => (some (((μ22.1 o 1) - (1 : Int32)), μ22)))) else none)) else none))) else none)) else none)) else none)) else none) else (some ((-1004 : Int32), μ)))
set_option maxHeartbeats 4000000 in
set_option maxRecDepth 100000 in
theorem t_X3_addClaim {G : z_Gl} {ρ : Nat → Nat → Option Nat} {μ : z_M} {r : Int32} {μr : z_M} {o : Nat} {x1 : Int32} {x2 : Int32} {x3 : Int32} {x4 : Int32} {x5 : Int32} {x6 : Int32} (hρ : μ.2.2 = ρ) (hb : z_blk z_shipS z_shipR (z_sh G) ρ o) (h : f_X3_addClaim o x1 x2 x3 x4 x5 x6 μ = some (r, μr)) : z_Ci G yX3_addClaim cX3_addClaim 7 (some .int) 0 [.ref o, .int x1, .int x2, .int x3, .int x4, .int x5, .int x6] μ (fun r1 μ1 => r = r1 ∧ μr = μ1) := by
  unfold z_Ci
  refine z_intro (by decide +kernel) (Nat.le_of_ble_eq_true rfl) (fun E hE F Rt => ?_)
  subst hE
  have F : z_F E RX3 cX3_addClaim 7 0 := F
  rw [hρ] at Rt
  unfold f_X3_addClaim at h
  show z_J E 7 0 [some (.ref o), some (.int x1), some (.int x2), some (.int x3), some (.int x4), some (.int x5), some (.int x6)] [] μ
  refine j_aload_n F (pc := 0) (q := 0) (by decide +kernel) rfl ?_
  refine j_getI F (pc := 1) fl_X3_46 (hb.1 0 _ rfl) rfl (by decide +kernel) ?_
  refine j_bipush F (pc := 4) (n := 14) (v := 14) (by decide +kernel) (by decide +kernel) ?_
  refine j_icmp_lt F (pc := 6) (off := 7) (tgt := 13) (by decide +kernel) (by decide) (fun c => ?_) (fun c => ?_)
  · rw [if_pos c] at h
    refine j_aload_n F (pc := 13) (q := 0) (by decide +kernel) rfl ?_
    refine j_getR F (pc := 14) (hb.r hρ 5 rfl) fl_X3_18 (hb.1 0 _ rfl) rfl (by decide +kernel) ?_
    refine j_aload_n F (pc := 17) (q := 0) (by decide +kernel) rfl ?_
    refine j_getI F (pc := 18) fl_X3_46 (hb.1 0 _ rfl) rfl (by decide +kernel) ?_
    refine j_iload_n F (pc := 21) (q := 1) (by decide +kernel) rfl ?_
    obtain ⟨hg, h⟩ := z_ifs h
    refine j_iast F (pc := 22) (hb.1 3 _ rfl) hg (by decide +kernel) ?_
    obtain ⟨μ1, e3, h⟩ := z_st_some h
    rw [← e3]
    have hρ2 : μ1.2.2 = ρ := by rw [e3]; exact hρ
    refine j_aload_n F (pc := 23) (q := 0) (by decide +kernel) rfl ?_
    refine j_getR F (pc := 24) (hb.r hρ2 6 rfl) fl_X3_21 (hb.1 0 _ rfl) rfl (by decide +kernel) ?_
    refine j_aload_n F (pc := 27) (q := 0) (by decide +kernel) rfl ?_
    refine j_getI F (pc := 28) fl_X3_46 (hb.1 0 _ rfl) rfl (by decide +kernel) ?_
    refine j_iload_n F (pc := 31) (q := 2) (by decide +kernel) rfl ?_
    obtain ⟨hg, h⟩ := z_ifs h
    refine j_iast F (pc := 32) (hb.1 4 _ rfl) hg (by decide +kernel) ?_
    obtain ⟨μ4, e6, h⟩ := z_st_some h
    rw [← e6]
    have hρ5 : μ4.2.2 = ρ := by rw [e6]; exact hρ2
    refine j_aload_n F (pc := 33) (q := 0) (by decide +kernel) rfl ?_
    refine j_getR F (pc := 34) (hb.r hρ5 7 rfl) fl_X3_24 (hb.1 0 _ rfl) rfl (by decide +kernel) ?_
    refine j_aload_n F (pc := 37) (q := 0) (by decide +kernel) rfl ?_
    refine j_getI F (pc := 38) fl_X3_46 (hb.1 0 _ rfl) rfl (by decide +kernel) ?_
    refine j_iload_n F (pc := 41) (q := 3) (by decide +kernel) rfl ?_
    obtain ⟨hg, h⟩ := z_ifs h
    refine j_iast F (pc := 42) (hb.1 5 _ rfl) hg (by decide +kernel) ?_
    obtain ⟨μ7, e9, h⟩ := z_st_some h
    rw [← e9]
    have hρ8 : μ7.2.2 = ρ := by rw [e9]; exact hρ5
    refine j_aload_n F (pc := 43) (q := 0) (by decide +kernel) rfl ?_
    refine j_getR F (pc := 44) (hb.r hρ8 8 rfl) fl_X3_27 (hb.1 0 _ rfl) rfl (by decide +kernel) ?_
    refine j_aload_n F (pc := 47) (q := 0) (by decide +kernel) rfl ?_
    refine j_getI F (pc := 48) fl_X3_46 (hb.1 0 _ rfl) rfl (by decide +kernel) ?_
    refine j_iload F (pc := 51) (i := 4) (by decide +kernel) rfl ?_
    obtain ⟨hg, h⟩ := z_ifs h
    refine j_iast F (pc := 53) (hb.1 6 _ rfl) hg (by decide +kernel) ?_
    obtain ⟨μ10, e12, h⟩ := z_st_some h
    rw [← e12]
    have hρ11 : μ10.2.2 = ρ := by rw [e12]; exact hρ8
    refine j_aload_n F (pc := 54) (q := 0) (by decide +kernel) rfl ?_
    refine j_iload F (pc := 55) (i := 5) (by decide +kernel) rfl ?_
    suffices hj : z_J E 7 87 [some (.ref o), some (.int x1), some (.int x2), some (.int x3), some (.int x4), some (.int x5), some (.int x6)] (.int (if x5 = 0 then ((μ10.1 o 2) &&& (((1 : Int32) <<< ((μ10.1 o 1) &&& 31)) ^^^ (-1 : Int32))) else ((μ10.1 o 2) ||| ((1 : Int32) <<< ((μ10.1 o 1) &&& 31)))) :: [.ref o]) μ10 by
      refine j_if_eq F (pc := 57) (off := 17) (tgt := 74) (by decide +kernel) (by decide) (fun c0 => ?_) (fun c0 => ?_)
      · rw [if_pos c0] at hj
        refine j_aload_n F (pc := 74) (q := 0) (by decide +kernel) rfl ?_
        refine j_getI F (pc := 75) fl_X3_49 (hb.1 0 _ rfl) rfl (by decide +kernel) ?_
        refine j_iconst F (pc := 78) (n := 1) (v := 1) (by decide +kernel) (by decide +kernel) ?_
        refine j_aload_n F (pc := 79) (q := 0) (by decide +kernel) rfl ?_
        refine j_getI F (pc := 80) fl_X3_46 (hb.1 0 _ rfl) rfl (by decide +kernel) ?_
        refine j_ishl F (pc := 83) (by decide +kernel) ?_
        refine j_iconst F (pc := 84) (n := -1) (v := -1) (by decide +kernel) (by decide +kernel) ?_
        refine j_ixor F (pc := 85) (by decide +kernel) ?_
        refine j_iand F (pc := 86) (by decide +kernel) ?_
        exact hj
      · rw [if_neg c0] at hj
        refine j_aload_n F (pc := 60) (q := 0) (by decide +kernel) rfl ?_
        refine j_getI F (pc := 61) fl_X3_49 (hb.1 0 _ rfl) rfl (by decide +kernel) ?_
        refine j_iconst F (pc := 64) (n := 1) (v := 1) (by decide +kernel) (by decide +kernel) ?_
        refine j_aload_n F (pc := 65) (q := 0) (by decide +kernel) rfl ?_
        refine j_getI F (pc := 66) fl_X3_46 (hb.1 0 _ rfl) rfl (by decide +kernel) ?_
        refine j_ishl F (pc := 69) (by decide +kernel) ?_
        refine j_ior F (pc := 70) (by decide +kernel) ?_
        refine j_goto F (pc := 71) (off := 16) (tgt := 87) (by decide +kernel) (by decide) ?_
        exact hj
    refine j_putI F (pc := 87) fl_X3_49 fp_X3_2 (hb.1 0 _ rfl) rfl (by decide +kernel) ?_
    obtain ⟨μ13, e15, h⟩ := z_st_some h
    rw [← e15]
    have hρ14 : μ13.2.2 = ρ := by rw [e15]; exact hρ11
    refine j_aload_n F (pc := 90) (q := 0) (by decide +kernel) rfl ?_
    refine j_getR F (pc := 91) (hb.r hρ14 9 rfl) fl_X3_30 (hb.1 0 _ rfl) rfl (by decide +kernel) ?_
    refine j_aload_n F (pc := 94) (q := 0) (by decide +kernel) rfl ?_
    refine j_getI F (pc := 95) fl_X3_46 (hb.1 0 _ rfl) rfl (by decide +kernel) ?_
    refine j_iload F (pc := 98) (i := 6) (by decide +kernel) rfl ?_
    obtain ⟨hg, h⟩ := z_ifs h
    refine j_iast F (pc := 100) (hb.1 7 _ rfl) hg (by decide +kernel) ?_
    obtain ⟨μ16, e18, h⟩ := z_st_some h
    rw [← e18]
    have hρ17 : μ16.2.2 = ρ := by rw [e18]; exact hρ14
    refine j_aload_n F (pc := 101) (q := 0) (by decide +kernel) rfl ?_
    refine j_getR F (pc := 102) (hb.r hρ17 10 rfl) fl_X3_33 (hb.1 0 _ rfl) rfl (by decide +kernel) ?_
    refine j_aload_n F (pc := 105) (q := 0) (by decide +kernel) rfl ?_
    refine j_getI F (pc := 106) fl_X3_46 (hb.1 0 _ rfl) rfl (by decide +kernel) ?_
    refine j_iconst F (pc := 109) (n := -1) (v := -1) (by decide +kernel) (by decide +kernel) ?_
    obtain ⟨hg, h⟩ := z_ifs h
    refine j_iast F (pc := 110) (hb.1 8 _ rfl) hg (by decide +kernel) ?_
    obtain ⟨μ19, e21, h⟩ := z_st_some h
    rw [← e21]
    have hρ20 : μ19.2.2 = ρ := by rw [e21]; exact hρ17
    refine j_aload_n F (pc := 111) (q := 0) (by decide +kernel) rfl ?_
    refine j_dup F (pc := 112) (by decide +kernel) rfl ?_
    refine j_getI F (pc := 113) fl_X3_46 (hb.1 0 _ rfl) rfl (by decide +kernel) ?_
    refine j_iconst F (pc := 116) (n := 1) (v := 1) (by decide +kernel) (by decide +kernel) ?_
    refine j_iadd F (pc := 117) (by decide +kernel) ?_
    refine j_putI F (pc := 118) fl_X3_46 fp_X3_1 (hb.1 0 _ rfl) rfl (by decide +kernel) ?_
    obtain ⟨μ22, e24, h⟩ := z_st_some h
    rw [← e24]
    have hρ23 : μ22.2.2 = ρ := by rw [e24]; exact hρ20
    refine j_aload_n F (pc := 121) (q := 0) (by decide +kernel) rfl ?_
    refine j_getI F (pc := 122) fl_X3_46 (hb.1 0 _ rfl) rfl (by decide +kernel) ?_
    refine j_iconst F (pc := 125) (n := 1) (v := 1) (by decide +kernel) (by decide +kernel) ?_
    refine j_isub F (pc := 126) (by decide +kernel) ?_
    exact j_iret (st := []) F Rt rfl (by decide +kernel) ⟨hρ23, _, rfl, (congrArg Prod.fst (Option.some.inj h)).symm, (congrArg Prod.snd (Option.some.inj h)).symm⟩
  · rw [if_neg c] at h
    refine j_sipush F (pc := 9) (n := -1004) (v := -1004) (by decide +kernel) (by decide +kernel) ?_
    exact j_iret (st := []) F Rt rfl (by decide +kernel) ⟨hρ, _, rfl, (congrArg Prod.fst (Option.some.inj h)).symm, (congrArg Prod.snd (Option.some.inj h)).symm⟩
/-- LastLent.claim -/
def f_X4_claim (x1 : Int32) (x2 : Int32) (x3 : Int32) (x4 : Int32) (x5 : Int32) (x6 : Int32) (μ : z_M) : Option (Int32 × z_M) :=
  (z_b2 (f_X4_isKind (x1) μ) fun r1 μ2 => (if r1 = 0 then (some ((-1001 : Int32), μ2)) else (z_b2 (f_X4_isHolder (x2) μ2) fun r8 μ9 => (if r8 = 0 then (some ((-1001 : Int32), μ9)) else (if x6 < 0 then (some ((-1001 : Int32), μ9)) else (if x6 < (8 : Int32) then (z_b2 (f_X4_isDay (x3) μ9) fun r15 μ16 => (if r15 = 0 then (some ((-1002 : Int32), μ16)) else (if x4 < (1 : Int32) then (some ((-1002 : Int32), μ16)) else (if x4 ≤ (999 : Int32) then (z_b2 (f_X3_addClaim (4) (x1) (x2) (x3) (x4) (x5) (x6) μ16) fun r22 μ23 => (some (r22, μ23))) else (some ((-1002 : Int32), μ16)))))) else (some ((-1001 : Int32), μ9))))))))
set_option maxHeartbeats 4000000 in
set_option maxRecDepth 100000 in
theorem t_X4_claim {G : z_Gl} {ρ : Nat → Nat → Option Nat} {μ : z_M} {r : Int32} {μr : z_M} {x1 : Int32} {x2 : Int32} {x3 : Int32} {x4 : Int32} {x5 : Int32} {x6 : Int32} (hρ : μ.2.2 = ρ) (hk : z_ok (z_sh G) ρ) (h : f_X4_claim x1 x2 x3 x4 x5 x6 μ = some (r, μr)) : z_Ci G yX4_claim cX4_claim 7 (some .int) 1 [.ref 0, .int x1, .int x2, .int x3, .int x4, .int x5, .int x6] μ (fun r1 μ1 => r = r1 ∧ μr = μ1) := by
  unfold z_Ci
  refine z_intro (by decide +kernel) (Nat.le_of_ble_eq_true rfl) (fun E hE F Rt => ?_)
  subst hE
  have F : z_F E RX4 cX4_claim 7 1 := F
  rw [hρ] at Rt
  unfold f_X4_claim at h
  show z_J E 7 0 [some (.ref 0), some (.int x1), some (.int x2), some (.int x3), some (.int x4), some (.int x5), some (.int x6)] [] μ
  refine j_iload_n F (pc := 0) (q := 1) (by decide +kernel) rfl ?_
  obtain ⟨r1, μ2, hc4, h⟩ := z_b2_some h
  refine j_callSi F (pc := 1) (idx := 84) (As := [.int x1]) (st := []) (t_X4_isKind (G := E.1) hρ  hc4) q_X4_isKind m_564 m_563 rfl (by decide) (Nat.le_of_ble_eq_true rfl) rfl (by decide +kernel) (fun s7 ν5 hq6 hp => ?_)
  obtain ⟨rfl, rfl⟩ := hp
  have hρ3 : μ2.2.2 = ρ := hq6.trans hρ
  refine j_if_eq F (pc := 4) (off := 22) (tgt := 26) (by decide +kernel) (by decide) (fun c => ?_) (fun c => ?_)
  · rw [if_pos c] at h
    refine j_sipush F (pc := 26) (n := -1001) (v := -1001) (by decide +kernel) (by decide +kernel) ?_
    exact j_iret (st := []) F Rt rfl (by decide +kernel) ⟨hρ3, _, rfl, (congrArg Prod.fst (Option.some.inj h)).symm, (congrArg Prod.snd (Option.some.inj h)).symm⟩
  · rw [if_neg c] at h
    refine j_iload_n F (pc := 7) (q := 2) (by decide +kernel) rfl ?_
    obtain ⟨r8, μ9, hc11, h⟩ := z_b2_some h
    refine j_callSi F (pc := 8) (idx := 141) (As := [.int x2]) (st := []) (t_X4_isHolder (G := E.1) hρ3  hc11) q_X4_isHolder m_595 m_594 rfl (by decide) (Nat.le_of_ble_eq_true rfl) rfl (by decide +kernel) (fun s14 ν12 hq13 hp => ?_)
    obtain ⟨rfl, rfl⟩ := hp
    have hρ10 : μ9.2.2 = ρ := hq13.trans hρ3
    refine j_if_eq F (pc := 11) (off := 15) (tgt := 26) (by decide +kernel) (by decide) (fun c => ?_) (fun c => ?_)
    · rw [if_pos c] at h
      refine j_sipush F (pc := 26) (n := -1001) (v := -1001) (by decide +kernel) (by decide +kernel) ?_
      exact j_iret (st := []) F Rt rfl (by decide +kernel) ⟨hρ10, _, rfl, (congrArg Prod.fst (Option.some.inj h)).symm, (congrArg Prod.snd (Option.some.inj h)).symm⟩
    · rw [if_neg c] at h
      refine j_iload F (pc := 14) (i := 6) (by decide +kernel) rfl ?_
      refine j_if_lt F (pc := 16) (off := 10) (tgt := 26) (by decide +kernel) (by decide) (fun c => ?_) (fun c => ?_)
      · rw [if_pos c] at h
        refine j_sipush F (pc := 26) (n := -1001) (v := -1001) (by decide +kernel) (by decide +kernel) ?_
        exact j_iret (st := []) F Rt rfl (by decide +kernel) ⟨hρ10, _, rfl, (congrArg Prod.fst (Option.some.inj h)).symm, (congrArg Prod.snd (Option.some.inj h)).symm⟩
      · rw [if_neg c] at h
        refine j_iload F (pc := 19) (i := 6) (by decide +kernel) rfl ?_
        refine j_bipush F (pc := 21) (n := 8) (v := 8) (by decide +kernel) (by decide +kernel) ?_
        refine j_icmp_lt F (pc := 23) (off := 7) (tgt := 30) (by decide +kernel) (by decide) (fun c => ?_) (fun c => ?_)
        · rw [if_pos c] at h
          refine j_iload_n F (pc := 30) (q := 3) (by decide +kernel) rfl ?_
          obtain ⟨r15, μ16, hc18, h⟩ := z_b2_some h
          refine j_callSi F (pc := 31) (idx := 131) (As := [.int x3]) (st := []) (t_X4_isDay (G := E.1) hρ10  hc18) q_X4_isDay m_580 m_579 rfl (by decide) (Nat.le_of_ble_eq_true rfl) rfl (by decide +kernel) (fun s21 ν19 hq20 hp => ?_)
          obtain ⟨rfl, rfl⟩ := hp
          have hρ17 : μ16.2.2 = ρ := hq20.trans hρ10
          refine j_if_eq F (pc := 34) (off := 17) (tgt := 51) (by decide +kernel) (by decide) (fun c => ?_) (fun c => ?_)
          · rw [if_pos c] at h
            refine j_sipush F (pc := 51) (n := -1002) (v := -1002) (by decide +kernel) (by decide +kernel) ?_
            exact j_iret (st := []) F Rt rfl (by decide +kernel) ⟨hρ17, _, rfl, (congrArg Prod.fst (Option.some.inj h)).symm, (congrArg Prod.snd (Option.some.inj h)).symm⟩
          · rw [if_neg c] at h
            refine j_iload F (pc := 37) (i := 4) (by decide +kernel) rfl ?_
            refine j_iconst F (pc := 39) (n := 1) (v := 1) (by decide +kernel) (by decide +kernel) ?_
            refine j_icmp_lt F (pc := 40) (off := 11) (tgt := 51) (by decide +kernel) (by decide) (fun c => ?_) (fun c => ?_)
            · rw [if_pos c] at h
              refine j_sipush F (pc := 51) (n := -1002) (v := -1002) (by decide +kernel) (by decide +kernel) ?_
              exact j_iret (st := []) F Rt rfl (by decide +kernel) ⟨hρ17, _, rfl, (congrArg Prod.fst (Option.some.inj h)).symm, (congrArg Prod.snd (Option.some.inj h)).symm⟩
            · rw [if_neg c] at h
              refine j_iload F (pc := 43) (i := 4) (by decide +kernel) rfl ?_
              refine j_sipush F (pc := 45) (n := 999) (v := 999) (by decide +kernel) (by decide +kernel) ?_
              refine j_icmp_le F (pc := 48) (off := 7) (tgt := 55) (by decide +kernel) (by decide) (fun c => ?_) (fun c => ?_)
              · rw [if_pos c] at h
                refine j_aload_n F (pc := 55) (q := 0) (by decide +kernel) rfl ?_
                refine j_getR F (pc := 56) (hk.r hρ17 r_0_2) fl_X4_25 (hk.s c_0) rfl (by decide +kernel) ?_
                refine j_iload_n F (pc := 59) (q := 1) (by decide +kernel) rfl ?_
                refine j_iload_n F (pc := 60) (q := 2) (by decide +kernel) rfl ?_
                refine j_iload_n F (pc := 61) (q := 3) (by decide +kernel) rfl ?_
                refine j_iload F (pc := 62) (i := 4) (by decide +kernel) rfl ?_
                refine j_iload F (pc := 64) (i := 5) (by decide +kernel) rfl ?_
                refine j_iload F (pc := 66) (i := 6) (by decide +kernel) rfl ?_
                obtain ⟨r22, μ23, hc25, h⟩ := z_b2_some h
                refine j_callVi F (pc := 68) (idx := 144) (As := [.int x1, .int x2, .int x3, .int x4, .int x5, .int x6]) (st := []) (t_X3_addClaim (G := E.1) hρ17 (hk.shipB (by decide : 4 ∈ z_SHIPS)) hc25) q_X3_addClaim v_X3_addClaim m_597 ((hk.shipB (by decide : 4 ∈ z_SHIPS)).1 0 _ rfl) rfl rfl (by decide) (Nat.le_of_ble_eq_true rfl) rfl (by decide +kernel) (fun s28 ν26 hq27 hp => ?_)
                obtain ⟨rfl, rfl⟩ := hp
                have hρ24 : μ23.2.2 = ρ := hq27.trans hρ17
                exact j_iret (st := []) F Rt rfl (by decide +kernel) ⟨hρ24, _, rfl, (congrArg Prod.fst (Option.some.inj h)).symm, (congrArg Prod.snd (Option.some.inj h)).symm⟩
              · rw [if_neg c] at h
                refine j_sipush F (pc := 51) (n := -1002) (v := -1002) (by decide +kernel) (by decide +kernel) ?_
                exact j_iret (st := []) F Rt rfl (by decide +kernel) ⟨hρ17, _, rfl, (congrArg Prod.fst (Option.some.inj h)).symm, (congrArg Prod.snd (Option.some.inj h)).symm⟩
        · rw [if_neg c] at h
          refine j_sipush F (pc := 26) (n := -1001) (v := -1001) (by decide +kernel) (by decide +kernel) ?_
          exact j_iret (st := []) F Rt rfl (by decide +kernel) ⟨hρ10, _, rfl, (congrArg Prod.fst (Option.some.inj h)).symm, (congrArg Prod.snd (Option.some.inj h)).symm⟩
/-- LastLent.isClaim -/
def f_X4_isClaim (x1 : Int32) (μ : z_M) : Option (Int32 × z_M) :=
  (some ((if x1 < 0 then (0 : Int32) else (if (μ.1 4 1) ≤ x1 then (0 : Int32) else (1 : Int32))), μ))
set_option maxHeartbeats 4000000 in
set_option maxRecDepth 100000 in
theorem t_X4_isClaim {G : z_Gl} {ρ : Nat → Nat → Option Nat} {μ : z_M} {r : Int32} {μr : z_M} {x1 : Int32} (hρ : μ.2.2 = ρ) (hk : z_ok (z_sh G) ρ) (h : f_X4_isClaim x1 μ = some (r, μr)) : z_Ci G yX4_isClaim cX4_isClaim 2 (some .boolean) 0 [.ref 0, .int x1] μ (fun r1 μ1 => r = r1 ∧ μr = μ1) := by
  unfold z_Ci
  refine z_intro (by decide +kernel) (Nat.le_of_ble_eq_true rfl) (fun E hE F Rt => ?_)
  subst hE
  have F : z_F E RX4 cX4_isClaim 2 0 := F
  rw [hρ] at Rt
  unfold f_X4_isClaim at h
  show z_J E 2 0 [some (.ref 0), some (.int x1)] [] μ
  refine j_iload_n F (pc := 0) (q := 1) (by decide +kernel) rfl ?_
  suffices hj : z_J E 2 20 [some (.ref 0), some (.int x1)] (.int (if x1 < 0 then (0 : Int32) else (if (μ.1 4 1) ≤ x1 then (0 : Int32) else (1 : Int32))) :: []) μ by
    refine j_if_lt F (pc := 1) (off := 18) (tgt := 19) (by decide +kernel) (by decide) (fun c0 => ?_) (fun c0 => ?_)
    · rw [if_pos c0] at hj
      refine j_iconst F (pc := 19) (n := 0) (v := 0) (by decide +kernel) (by decide +kernel) ?_
      exact hj
    · rw [if_neg c0] at hj
      refine j_iload_n F (pc := 4) (q := 1) (by decide +kernel) rfl ?_
      refine j_aload_n F (pc := 5) (q := 0) (by decide +kernel) rfl ?_
      refine j_getR F (pc := 6) (hk.r hρ r_0_2) fl_X4_25 (hk.s c_0) rfl (by decide +kernel) ?_
      refine j_getI F (pc := 9) fl_X4_191 ((hk.shipB (by decide : 4 ∈ z_SHIPS)).1 0 _ rfl) rfl (by decide +kernel) ?_
      refine j_icmp_ge F (pc := 12) (off := 7) (tgt := 19) (by decide +kernel) (by decide) (fun c1 => ?_) (fun c1 => ?_)
      · rw [if_pos c1] at hj
        refine j_iconst F (pc := 19) (n := 0) (v := 0) (by decide +kernel) (by decide +kernel) ?_
        exact hj
      · rw [if_neg c1] at hj
        refine j_iconst F (pc := 15) (n := 1) (v := 1) (by decide +kernel) (by decide +kernel) ?_
        refine j_goto F (pc := 16) (off := 4) (tgt := 20) (by decide +kernel) (by decide) ?_
        exact hj
  exact j_iret (st := []) F Rt (z_nb (by repeat' (first | exact Or.inl rfl | exact Or.inr rfl | split))) (by decide +kernel) ⟨hρ, _, rfl, (congrArg Prod.fst (Option.some.inj h)).symm, (congrArg Prod.snd (Option.some.inj h)).symm⟩
def g_X4_ask_28   (x1 : Int32) (x2 : Int32) (μ : z_M) : Option (Int32 × z_M) :=
  (if z_in x1 14 then (z_lt (μ.1 (4 + 8) x1.toNatClampNeg) fun x_8 => (if z_in x1 14 then (z_st (z_si μ (4 + 8) x1.toNatClampNeg x2) fun μ10 => (some (x_8, μ10))) else none)) else none)
def f_X4_ask (x1 : Int32) (x2 : Int32) (μ : z_M) : Option (Int32 × z_M) :=
  (z_b2 (f_X4_isClaim (x1) μ) fun r1 μ2 => (if r1 = 0 then (some ((-1001 : Int32), μ2)) else (if x2 = (-1 : Int32) then (g_X4_ask_28   (x1) (x2) μ2) else (z_b2 (f_X4_isDay (x2) μ2) fun r13 μ14 => (if r13 = 0 then (some ((-1002 : Int32), μ14)) else (g_X4_ask_28   (x1) (x2) μ14))))))
set_option maxHeartbeats 4000000 in
set_option maxRecDepth 100000 in
theorem u_X4_ask_28 {E : z_E} {ρ : Nat → Nat → Option Nat} {r : Int32} {μr : z_M} (F : z_F E RX4 cX4_ask 4 1) (Rt : z_R E (some .int) (fun v μ1 => μ1.2.2 = ρ ∧ ∃ r1, v = some (.int r1) ∧ r = r1 ∧ μr = μ1))  (hk : z_ok (z_sh E.1) ρ) : ∀ (x1 : Int32) (x2 : Int32) (μ : z_M), μ.2.2 = ρ → g_X4_ask_28   x1 x2 μ = some (r, μr) → z_J E 4 28 [some (.ref 0), some (.int x1), some (.int x2), none] [] μ := by
  intro x1 x2 μ hρ h
  unfold g_X4_ask_28 at h
  refine j_aload_n F (pc := 28) (q := 0) (by decide +kernel) rfl ?_
  refine j_getR F (pc := 29) (hk.r hρ r_0_2) fl_X4_25 (hk.s c_0) rfl (by decide +kernel) ?_
  refine j_getR F (pc := 32) ((hk.shipB (by decide : 4 ∈ z_SHIPS)).r hρ 10 rfl) fl_X4_151 ((hk.shipB (by decide : 4 ∈ z_SHIPS)).1 0 _ rfl) rfl (by decide +kernel) ?_
  refine j_iload_n F (pc := 35) (q := 1) (by decide +kernel) rfl ?_
  obtain ⟨hg, h⟩ := z_ifs h
  refine j_iald F (pc := 36) ((hk.shipB (by decide : 4 ∈ z_SHIPS)).1 8 _ rfl) hg (by decide +kernel) ?_
  obtain ⟨x_8, e9, h⟩ := z_lt_some h
  rw [← e9]
  refine j_istore_n F (pc := 37) (q := 3) (L' := [some (.ref 0), some (.int x1), some (.int x2), some (.int x_8)]) (by decide +kernel) (by decide) rfl rfl ?_
  refine j_aload_n F (pc := 38) (q := 0) (by decide +kernel) rfl ?_
  refine j_getR F (pc := 39) (hk.r hρ r_0_2) fl_X4_25 (hk.s c_0) rfl (by decide +kernel) ?_
  refine j_getR F (pc := 42) ((hk.shipB (by decide : 4 ∈ z_SHIPS)).r hρ 10 rfl) fl_X4_151 ((hk.shipB (by decide : 4 ∈ z_SHIPS)).1 0 _ rfl) rfl (by decide +kernel) ?_
  refine j_iload_n F (pc := 45) (q := 1) (by decide +kernel) rfl ?_
  refine j_iload_n F (pc := 46) (q := 2) (by decide +kernel) rfl ?_
  obtain ⟨hg, h⟩ := z_ifs h
  refine j_iast F (pc := 47) ((hk.shipB (by decide : 4 ∈ z_SHIPS)).1 8 _ rfl) hg (by decide +kernel) ?_
  obtain ⟨μ10, e12, h⟩ := z_st_some h
  rw [← e12]
  have hρ11 : μ10.2.2 = ρ := by rw [e12]; exact hρ
  refine j_iload_n F (pc := 48) (q := 3) (by decide +kernel) rfl ?_
  exact j_iret (st := []) F Rt rfl (by decide +kernel) ⟨hρ11, _, rfl, (congrArg Prod.fst (Option.some.inj h)).symm, (congrArg Prod.snd (Option.some.inj h)).symm⟩
set_option maxHeartbeats 4000000 in
set_option maxRecDepth 100000 in
theorem t_X4_ask {G : z_Gl} {ρ : Nat → Nat → Option Nat} {μ : z_M} {r : Int32} {μr : z_M} {x1 : Int32} {x2 : Int32} (hρ : μ.2.2 = ρ) (hk : z_ok (z_sh G) ρ) (h : f_X4_ask x1 x2 μ = some (r, μr)) : z_Ci G yX4_ask cX4_ask 4 (some .int) 1 [.ref 0, .int x1, .int x2] μ (fun r1 μ1 => r = r1 ∧ μr = μ1) := by
  unfold z_Ci
  refine z_intro (by decide +kernel) (Nat.le_of_ble_eq_true rfl) (fun E hE F Rt => ?_)
  subst hE
  have F : z_F E RX4 cX4_ask 4 1 := F
  rw [hρ] at Rt
  unfold f_X4_ask at h
  show z_J E 4 0 [some (.ref 0), some (.int x1), some (.int x2), none] [] μ
  refine j_aload_n F (pc := 0) (q := 0) (by decide +kernel) rfl ?_
  refine j_iload_n F (pc := 1) (q := 1) (by decide +kernel) rfl ?_
  obtain ⟨r1, μ2, hc4, h⟩ := z_b2_some h
  refine j_callVi F (pc := 2) (idx := 148) (As := [.int x1]) (st := []) (t_X4_isClaim (G := E.1) hρ hk hc4) q_X4_isClaim v_X4_isClaim m_605 (hk.s c_0) rfl rfl (by decide) (Nat.le_of_ble_eq_true rfl) rfl (by decide +kernel) (fun s7 ν5 hq6 hp => ?_)
  obtain ⟨rfl, rfl⟩ := hp
  have hρ3 : μ2.2.2 = ρ := hq6.trans hρ
  refine j_if_ne F (pc := 5) (off := 7) (tgt := 12) (by decide +kernel) (by decide) (fun c => ?_) (fun c => ?_)
  · rw [if_neg c] at h
    refine j_iload_n F (pc := 12) (q := 2) (by decide +kernel) rfl ?_
    refine j_iconst F (pc := 13) (n := -1) (v := -1) (by decide +kernel) (by decide +kernel) ?_
    refine j_icmp_eq F (pc := 14) (off := 14) (tgt := 28) (by decide +kernel) (by decide) (fun c => ?_) (fun c => ?_)
    · rw [if_pos c] at h
      refine u_X4_ask_28 F Rt hk  _ _ _ hρ3 h
    · rw [if_neg c] at h
      refine j_iload_n F (pc := 17) (q := 2) (by decide +kernel) rfl ?_
      obtain ⟨r13, μ14, hc16, h⟩ := z_b2_some h
      refine j_callSi F (pc := 18) (idx := 131) (As := [.int x2]) (st := []) (t_X4_isDay (G := E.1) hρ3  hc16) q_X4_isDay m_580 m_579 rfl (by decide) (Nat.le_of_ble_eq_true rfl) rfl (by decide +kernel) (fun s19 ν17 hq18 hp => ?_)
      obtain ⟨rfl, rfl⟩ := hp
      have hρ15 : μ14.2.2 = ρ := hq18.trans hρ3
      refine j_if_ne F (pc := 21) (off := 7) (tgt := 28) (by decide +kernel) (by decide) (fun c => ?_) (fun c => ?_)
      · rw [if_neg c] at h
        refine u_X4_ask_28 F Rt hk  _ _ _ hρ15 h
      · rw [if_pos c] at h
        refine j_sipush F (pc := 24) (n := -1002) (v := -1002) (by decide +kernel) (by decide +kernel) ?_
        exact j_iret (st := []) F Rt rfl (by decide +kernel) ⟨hρ15, _, rfl, (congrArg Prod.fst (Option.some.inj h)).symm, (congrArg Prod.snd (Option.some.inj h)).symm⟩
  · rw [if_pos c] at h
    refine j_sipush F (pc := 8) (n := -1001) (v := -1001) (by decide +kernel) (by decide +kernel) ?_
    exact j_iret (st := []) F Rt rfl (by decide +kernel) ⟨hρ3, _, rfl, (congrArg Prod.fst (Option.some.inj h)).symm, (congrArg Prod.snd (Option.some.inj h)).symm⟩
/-- LastLent.isFund -/
def f_X4_isFund (x0 : Int32) (μ : z_M) : Option (Int32 × z_M) :=
  (some ((if x0 < 0 then (0 : Int32) else (if (5 : Int32) ≤ x0 then (0 : Int32) else (1 : Int32))), μ))
set_option maxHeartbeats 4000000 in
set_option maxRecDepth 100000 in
theorem t_X4_isFund {G : z_Gl} {ρ : Nat → Nat → Option Nat} {μ : z_M} {r : Int32} {μr : z_M} {x0 : Int32} (hρ : μ.2.2 = ρ)  (h : f_X4_isFund x0 μ = some (r, μr)) : z_Ci G yX4_isFund cX4_isFund 1 (some .boolean) 0 [.int x0] μ (fun r1 μ1 => r = r1 ∧ μr = μ1) := by
  unfold z_Ci
  refine z_intro (by decide +kernel) (Nat.le_of_ble_eq_true rfl) (fun E hE F Rt => ?_)
  subst hE
  have F : z_F E RX4 cX4_isFund 1 0 := F
  rw [hρ] at Rt
  unfold f_X4_isFund at h
  show z_J E 1 0 [some (.int x0)] [] μ
  refine j_iload_n F (pc := 0) (q := 0) (by decide +kernel) rfl ?_
  suffices hj : z_J E 1 14 [some (.int x0)] (.int (if x0 < 0 then (0 : Int32) else (if (5 : Int32) ≤ x0 then (0 : Int32) else (1 : Int32))) :: []) μ by
    refine j_if_lt F (pc := 1) (off := 12) (tgt := 13) (by decide +kernel) (by decide) (fun c0 => ?_) (fun c0 => ?_)
    · rw [if_pos c0] at hj
      refine j_iconst F (pc := 13) (n := 0) (v := 0) (by decide +kernel) (by decide +kernel) ?_
      exact hj
    · rw [if_neg c0] at hj
      refine j_iload_n F (pc := 4) (q := 0) (by decide +kernel) rfl ?_
      refine j_iconst F (pc := 5) (n := 5) (v := 5) (by decide +kernel) (by decide +kernel) ?_
      refine j_icmp_ge F (pc := 6) (off := 7) (tgt := 13) (by decide +kernel) (by decide) (fun c1 => ?_) (fun c1 => ?_)
      · rw [if_pos c1] at hj
        refine j_iconst F (pc := 13) (n := 0) (v := 0) (by decide +kernel) (by decide +kernel) ?_
        exact hj
      · rw [if_neg c1] at hj
        refine j_iconst F (pc := 9) (n := 1) (v := 1) (by decide +kernel) (by decide +kernel) ?_
        refine j_goto F (pc := 10) (off := 4) (tgt := 14) (by decide +kernel) (by decide) ?_
        exact hj
  exact j_iret (st := []) F Rt (z_nb (by repeat' (first | exact Or.inl rfl | exact Or.inr rfl | split))) (by decide +kernel) ⟨hρ, _, rfl, (congrArg Prod.fst (Option.some.inj h)).symm, (congrArg Prod.snd (Option.some.inj h)).symm⟩
/-- LastLent.fund -/
def f_X4_fund (x1 : Int32) (x2 : Int32) (μ : z_M) : Option (Int32 × z_M) :=
  (z_b2 (f_X4_isFund (x1) μ) fun r1 μ2 => (if r1 = 0 then (some ((-1001 : Int32), μ2)) else (if x2 < 0 then (some ((-1002 : Int32), μ2)) else (if x2 ≤ (9999 : Int32) then (if z_in x1 5 then (z_lt (μ2.1 (4 + 9) x1.toNatClampNeg) fun x_8 => (if z_in x1 5 then (z_st (z_si μ2 (4 + 9) x1.toNatClampNeg x2) fun μ10 => (some (x_8, μ10))) else none)) else none) else (some ((-1002 : Int32), μ2))))))
set_option maxHeartbeats 4000000 in
set_option maxRecDepth 100000 in
theorem t_X4_fund {G : z_Gl} {ρ : Nat → Nat → Option Nat} {μ : z_M} {r : Int32} {μr : z_M} {x1 : Int32} {x2 : Int32} (hρ : μ.2.2 = ρ) (hk : z_ok (z_sh G) ρ) (h : f_X4_fund x1 x2 μ = some (r, μr)) : z_Ci G yX4_fund cX4_fund 4 (some .int) 1 [.ref 0, .int x1, .int x2] μ (fun r1 μ1 => r = r1 ∧ μr = μ1) := by
  unfold z_Ci
  refine z_intro (by decide +kernel) (Nat.le_of_ble_eq_true rfl) (fun E hE F Rt => ?_)
  subst hE
  have F : z_F E RX4 cX4_fund 4 1 := F
  rw [hρ] at Rt
  unfold f_X4_fund at h
  show z_J E 4 0 [some (.ref 0), some (.int x1), some (.int x2), none] [] μ
  refine j_iload_n F (pc := 0) (q := 1) (by decide +kernel) rfl ?_
  obtain ⟨r1, μ2, hc4, h⟩ := z_b2_some h
  refine j_callSi F (pc := 1) (idx := 154) (As := [.int x1]) (st := []) (t_X4_isFund (G := E.1) hρ  hc4) q_X4_isFund m_614 m_613 rfl (by decide) (Nat.le_of_ble_eq_true rfl) rfl (by decide +kernel) (fun s7 ν5 hq6 hp => ?_)
  obtain ⟨rfl, rfl⟩ := hp
  have hρ3 : μ2.2.2 = ρ := hq6.trans hρ
  refine j_if_ne F (pc := 4) (off := 7) (tgt := 11) (by decide +kernel) (by decide) (fun c => ?_) (fun c => ?_)
  · rw [if_neg c] at h
    refine j_iload_n F (pc := 11) (q := 2) (by decide +kernel) rfl ?_
    refine j_if_lt F (pc := 12) (off := 10) (tgt := 22) (by decide +kernel) (by decide) (fun c => ?_) (fun c => ?_)
    · rw [if_pos c] at h
      refine j_sipush F (pc := 22) (n := -1002) (v := -1002) (by decide +kernel) (by decide +kernel) ?_
      exact j_iret (st := []) F Rt rfl (by decide +kernel) ⟨hρ3, _, rfl, (congrArg Prod.fst (Option.some.inj h)).symm, (congrArg Prod.snd (Option.some.inj h)).symm⟩
    · rw [if_neg c] at h
      refine j_iload_n F (pc := 15) (q := 2) (by decide +kernel) rfl ?_
      refine j_sipush F (pc := 16) (n := 9999) (v := 9999) (by decide +kernel) (by decide +kernel) ?_
      refine j_icmp_le F (pc := 19) (off := 7) (tgt := 26) (by decide +kernel) (by decide) (fun c => ?_) (fun c => ?_)
      · rw [if_pos c] at h
        refine j_aload_n F (pc := 26) (q := 0) (by decide +kernel) rfl ?_
        refine j_getR F (pc := 27) (hk.r hρ3 r_0_2) fl_X4_25 (hk.s c_0) rfl (by decide +kernel) ?_
        refine j_getR F (pc := 30) ((hk.shipB (by decide : 4 ∈ z_SHIPS)).r hρ3 11 rfl) fl_X4_157 ((hk.shipB (by decide : 4 ∈ z_SHIPS)).1 0 _ rfl) rfl (by decide +kernel) ?_
        refine j_iload_n F (pc := 33) (q := 1) (by decide +kernel) rfl ?_
        obtain ⟨hg, h⟩ := z_ifs h
        refine j_iald F (pc := 34) ((hk.shipB (by decide : 4 ∈ z_SHIPS)).1 9 _ rfl) hg (by decide +kernel) ?_
        obtain ⟨x_8, e9, h⟩ := z_lt_some h
        rw [← e9]
        refine j_istore_n F (pc := 35) (q := 3) (L' := [some (.ref 0), some (.int x1), some (.int x2), some (.int x_8)]) (by decide +kernel) (by decide) rfl rfl ?_
        refine j_aload_n F (pc := 36) (q := 0) (by decide +kernel) rfl ?_
        refine j_getR F (pc := 37) (hk.r hρ3 r_0_2) fl_X4_25 (hk.s c_0) rfl (by decide +kernel) ?_
        refine j_getR F (pc := 40) ((hk.shipB (by decide : 4 ∈ z_SHIPS)).r hρ3 11 rfl) fl_X4_157 ((hk.shipB (by decide : 4 ∈ z_SHIPS)).1 0 _ rfl) rfl (by decide +kernel) ?_
        refine j_iload_n F (pc := 43) (q := 1) (by decide +kernel) rfl ?_
        refine j_iload_n F (pc := 44) (q := 2) (by decide +kernel) rfl ?_
        obtain ⟨hg, h⟩ := z_ifs h
        refine j_iast F (pc := 45) ((hk.shipB (by decide : 4 ∈ z_SHIPS)).1 9 _ rfl) hg (by decide +kernel) ?_
        obtain ⟨μ10, e12, h⟩ := z_st_some h
        rw [← e12]
        have hρ11 : μ10.2.2 = ρ := by rw [e12]; exact hρ3
        refine j_iload_n F (pc := 46) (q := 3) (by decide +kernel) rfl ?_
        exact j_iret (st := []) F Rt rfl (by decide +kernel) ⟨hρ11, _, rfl, (congrArg Prod.fst (Option.some.inj h)).symm, (congrArg Prod.snd (Option.some.inj h)).symm⟩
      · rw [if_neg c] at h
        refine j_sipush F (pc := 22) (n := -1002) (v := -1002) (by decide +kernel) (by decide +kernel) ?_
        exact j_iret (st := []) F Rt rfl (by decide +kernel) ⟨hρ3, _, rfl, (congrArg Prod.fst (Option.some.inj h)).symm, (congrArg Prod.snd (Option.some.inj h)).symm⟩
  · rw [if_pos c] at h
    refine j_sipush F (pc := 7) (n := -1001) (v := -1001) (by decide +kernel) (by decide +kernel) ?_
    exact j_iret (st := []) F Rt rfl (by decide +kernel) ⟨hρ3, _, rfl, (congrArg Prod.fst (Option.some.inj h)).symm, (congrArg Prod.snd (Option.some.inj h)).symm⟩
/-- LastLent.isCargo -/
def f_X4_isCargo (x0 : Int32) (μ : z_M) : Option (Int32 × z_M) :=
  (some ((if x0 < 0 then (0 : Int32) else (if (3 : Int32) ≤ x0 then (0 : Int32) else (1 : Int32))), μ))
set_option maxHeartbeats 4000000 in
set_option maxRecDepth 100000 in
theorem t_X4_isCargo {G : z_Gl} {ρ : Nat → Nat → Option Nat} {μ : z_M} {r : Int32} {μr : z_M} {x0 : Int32} (hρ : μ.2.2 = ρ)  (h : f_X4_isCargo x0 μ = some (r, μr)) : z_Ci G yX4_isCargo cX4_isCargo 1 (some .boolean) 0 [.int x0] μ (fun r1 μ1 => r = r1 ∧ μr = μ1) := by
  unfold z_Ci
  refine z_intro (by decide +kernel) (Nat.le_of_ble_eq_true rfl) (fun E hE F Rt => ?_)
  subst hE
  have F : z_F E RX4 cX4_isCargo 1 0 := F
  rw [hρ] at Rt
  unfold f_X4_isCargo at h
  show z_J E 1 0 [some (.int x0)] [] μ
  refine j_iload_n F (pc := 0) (q := 0) (by decide +kernel) rfl ?_
  suffices hj : z_J E 1 14 [some (.int x0)] (.int (if x0 < 0 then (0 : Int32) else (if (3 : Int32) ≤ x0 then (0 : Int32) else (1 : Int32))) :: []) μ by
    refine j_if_lt F (pc := 1) (off := 12) (tgt := 13) (by decide +kernel) (by decide) (fun c0 => ?_) (fun c0 => ?_)
    · rw [if_pos c0] at hj
      refine j_iconst F (pc := 13) (n := 0) (v := 0) (by decide +kernel) (by decide +kernel) ?_
      exact hj
    · rw [if_neg c0] at hj
      refine j_iload_n F (pc := 4) (q := 0) (by decide +kernel) rfl ?_
      refine j_iconst F (pc := 5) (n := 3) (v := 3) (by decide +kernel) (by decide +kernel) ?_
      refine j_icmp_ge F (pc := 6) (off := 7) (tgt := 13) (by decide +kernel) (by decide) (fun c1 => ?_) (fun c1 => ?_)
      · rw [if_pos c1] at hj
        refine j_iconst F (pc := 13) (n := 0) (v := 0) (by decide +kernel) (by decide +kernel) ?_
        exact hj
      · rw [if_neg c1] at hj
        refine j_iconst F (pc := 9) (n := 1) (v := 1) (by decide +kernel) (by decide +kernel) ?_
        refine j_goto F (pc := 10) (off := 4) (tgt := 14) (by decide +kernel) (by decide) ?_
        exact hj
  exact j_iret (st := []) F Rt (z_nb (by repeat' (first | exact Or.inl rfl | exact Or.inr rfl | split))) (by decide +kernel) ⟨hρ, _, rfl, (congrArg Prod.fst (Option.some.inj h)).symm, (congrArg Prod.snd (Option.some.inj h)).symm⟩
/-- LastLent.owner -/
def f_X4_owner (x1 : Int32) (x2 : Int32) (μ : z_M) : Option (Int32 × z_M) :=
  (z_b2 (f_X4_isCargo (x1) μ) fun r1 μ2 => (if r1 = 0 then (some ((-1001 : Int32), μ2)) else (z_b2 (f_X4_isHolder (x2) μ2) fun r8 μ9 => (if r8 = 0 then (some ((-1001 : Int32), μ9)) else (if z_in x1 3 then (z_lt (μ9.1 (4 + 10) x1.toNatClampNeg) fun x_15 => (if z_in x1 3 then (z_st (z_si μ9 (4 + 10) x1.toNatClampNeg x2) fun μ17 => (some (x_15, μ17))) else none)) else none)))))
set_option maxHeartbeats 4000000 in
set_option maxRecDepth 100000 in
theorem t_X4_owner {G : z_Gl} {ρ : Nat → Nat → Option Nat} {μ : z_M} {r : Int32} {μr : z_M} {x1 : Int32} {x2 : Int32} (hρ : μ.2.2 = ρ) (hk : z_ok (z_sh G) ρ) (h : f_X4_owner x1 x2 μ = some (r, μr)) : z_Ci G yX4_owner cX4_owner 4 (some .int) 1 [.ref 0, .int x1, .int x2] μ (fun r1 μ1 => r = r1 ∧ μr = μ1) := by
  unfold z_Ci
  refine z_intro (by decide +kernel) (Nat.le_of_ble_eq_true rfl) (fun E hE F Rt => ?_)
  subst hE
  have F : z_F E RX4 cX4_owner 4 1 := F
  rw [hρ] at Rt
  unfold f_X4_owner at h
  show z_J E 4 0 [some (.ref 0), some (.int x1), some (.int x2), none] [] μ
  refine j_iload_n F (pc := 0) (q := 1) (by decide +kernel) rfl ?_
  obtain ⟨r1, μ2, hc4, h⟩ := z_b2_some h
  refine j_callSi F (pc := 1) (idx := 160) (As := [.int x1]) (st := []) (t_X4_isCargo (G := E.1) hρ  hc4) q_X4_isCargo m_621 m_620 rfl (by decide) (Nat.le_of_ble_eq_true rfl) rfl (by decide +kernel) (fun s7 ν5 hq6 hp => ?_)
  obtain ⟨rfl, rfl⟩ := hp
  have hρ3 : μ2.2.2 = ρ := hq6.trans hρ
  refine j_if_eq F (pc := 4) (off := 10) (tgt := 14) (by decide +kernel) (by decide) (fun c => ?_) (fun c => ?_)
  · rw [if_pos c] at h
    refine j_sipush F (pc := 14) (n := -1001) (v := -1001) (by decide +kernel) (by decide +kernel) ?_
    exact j_iret (st := []) F Rt rfl (by decide +kernel) ⟨hρ3, _, rfl, (congrArg Prod.fst (Option.some.inj h)).symm, (congrArg Prod.snd (Option.some.inj h)).symm⟩
  · rw [if_neg c] at h
    refine j_iload_n F (pc := 7) (q := 2) (by decide +kernel) rfl ?_
    obtain ⟨r8, μ9, hc11, h⟩ := z_b2_some h
    refine j_callSi F (pc := 8) (idx := 141) (As := [.int x2]) (st := []) (t_X4_isHolder (G := E.1) hρ3  hc11) q_X4_isHolder m_595 m_594 rfl (by decide) (Nat.le_of_ble_eq_true rfl) rfl (by decide +kernel) (fun s14 ν12 hq13 hp => ?_)
    obtain ⟨rfl, rfl⟩ := hp
    have hρ10 : μ9.2.2 = ρ := hq13.trans hρ3
    refine j_if_ne F (pc := 11) (off := 7) (tgt := 18) (by decide +kernel) (by decide) (fun c => ?_) (fun c => ?_)
    · rw [if_neg c] at h
      refine j_aload_n F (pc := 18) (q := 0) (by decide +kernel) rfl ?_
      refine j_getR F (pc := 19) (hk.r hρ10 r_0_2) fl_X4_25 (hk.s c_0) rfl (by decide +kernel) ?_
      refine j_getR F (pc := 22) ((hk.shipB (by decide : 4 ∈ z_SHIPS)).r hρ10 12 rfl) fl_X4_163 ((hk.shipB (by decide : 4 ∈ z_SHIPS)).1 0 _ rfl) rfl (by decide +kernel) ?_
      refine j_iload_n F (pc := 25) (q := 1) (by decide +kernel) rfl ?_
      obtain ⟨hg, h⟩ := z_ifs h
      refine j_iald F (pc := 26) ((hk.shipB (by decide : 4 ∈ z_SHIPS)).1 10 _ rfl) hg (by decide +kernel) ?_
      obtain ⟨x_15, e16, h⟩ := z_lt_some h
      rw [← e16]
      refine j_istore_n F (pc := 27) (q := 3) (L' := [some (.ref 0), some (.int x1), some (.int x2), some (.int x_15)]) (by decide +kernel) (by decide) rfl rfl ?_
      refine j_aload_n F (pc := 28) (q := 0) (by decide +kernel) rfl ?_
      refine j_getR F (pc := 29) (hk.r hρ10 r_0_2) fl_X4_25 (hk.s c_0) rfl (by decide +kernel) ?_
      refine j_getR F (pc := 32) ((hk.shipB (by decide : 4 ∈ z_SHIPS)).r hρ10 12 rfl) fl_X4_163 ((hk.shipB (by decide : 4 ∈ z_SHIPS)).1 0 _ rfl) rfl (by decide +kernel) ?_
      refine j_iload_n F (pc := 35) (q := 1) (by decide +kernel) rfl ?_
      refine j_iload_n F (pc := 36) (q := 2) (by decide +kernel) rfl ?_
      obtain ⟨hg, h⟩ := z_ifs h
      refine j_iast F (pc := 37) ((hk.shipB (by decide : 4 ∈ z_SHIPS)).1 10 _ rfl) hg (by decide +kernel) ?_
      obtain ⟨μ17, e19, h⟩ := z_st_some h
      rw [← e19]
      have hρ18 : μ17.2.2 = ρ := by rw [e19]; exact hρ10
      refine j_iload_n F (pc := 38) (q := 3) (by decide +kernel) rfl ?_
      exact j_iret (st := []) F Rt rfl (by decide +kernel) ⟨hρ18, _, rfl, (congrArg Prod.fst (Option.some.inj h)).symm, (congrArg Prod.snd (Option.some.inj h)).symm⟩
    · rw [if_pos c] at h
      refine j_sipush F (pc := 14) (n := -1001) (v := -1001) (by decide +kernel) (by decide +kernel) ?_
      exact j_iret (st := []) F Rt rfl (by decide +kernel) ⟨hρ10, _, rfl, (congrArg Prod.fst (Option.some.inj h)).symm, (congrArg Prod.snd (Option.some.inj h)).symm⟩
/-- LastLent.pass -/
def f_X4_pass (x1 : Int32) (x2 : Int32) (μ : z_M) : Option (Int32 × z_M) :=
  (z_b2 (f_X4_isClaim (x1) μ) fun r1 μ2 => (if r1 = 0 then (some ((-1001 : Int32), μ2)) else (z_b2 (f_X4_isHolder (x2) μ2) fun r8 μ9 => (if r8 = 0 then (some ((-1001 : Int32), μ9)) else (if z_in x1 14 then (z_lt (μ9.1 (4 + 4) x1.toNatClampNeg) fun x_15 => (if z_in x1 14 then (z_st (z_si μ9 (4 + 4) x1.toNatClampNeg x2) fun μ17 => (some (x_15, μ17))) else none)) else none)))))
set_option maxHeartbeats 4000000 in
set_option maxRecDepth 100000 in
theorem t_X4_pass {G : z_Gl} {ρ : Nat → Nat → Option Nat} {μ : z_M} {r : Int32} {μr : z_M} {x1 : Int32} {x2 : Int32} (hρ : μ.2.2 = ρ) (hk : z_ok (z_sh G) ρ) (h : f_X4_pass x1 x2 μ = some (r, μr)) : z_Ci G yX4_pass cX4_pass 4 (some .int) 1 [.ref 0, .int x1, .int x2] μ (fun r1 μ1 => r = r1 ∧ μr = μ1) := by
  unfold z_Ci
  refine z_intro (by decide +kernel) (Nat.le_of_ble_eq_true rfl) (fun E hE F Rt => ?_)
  subst hE
  have F : z_F E RX4 cX4_pass 4 1 := F
  rw [hρ] at Rt
  unfold f_X4_pass at h
  show z_J E 4 0 [some (.ref 0), some (.int x1), some (.int x2), none] [] μ
  refine j_aload_n F (pc := 0) (q := 0) (by decide +kernel) rfl ?_
  refine j_iload_n F (pc := 1) (q := 1) (by decide +kernel) rfl ?_
  obtain ⟨r1, μ2, hc4, h⟩ := z_b2_some h
  refine j_callVi F (pc := 2) (idx := 148) (As := [.int x1]) (st := []) (t_X4_isClaim (G := E.1) hρ hk hc4) q_X4_isClaim v_X4_isClaim m_605 (hk.s c_0) rfl rfl (by decide) (Nat.le_of_ble_eq_true rfl) rfl (by decide +kernel) (fun s7 ν5 hq6 hp => ?_)
  obtain ⟨rfl, rfl⟩ := hp
  have hρ3 : μ2.2.2 = ρ := hq6.trans hρ
  refine j_if_eq F (pc := 5) (off := 10) (tgt := 15) (by decide +kernel) (by decide) (fun c => ?_) (fun c => ?_)
  · rw [if_pos c] at h
    refine j_sipush F (pc := 15) (n := -1001) (v := -1001) (by decide +kernel) (by decide +kernel) ?_
    exact j_iret (st := []) F Rt rfl (by decide +kernel) ⟨hρ3, _, rfl, (congrArg Prod.fst (Option.some.inj h)).symm, (congrArg Prod.snd (Option.some.inj h)).symm⟩
  · rw [if_neg c] at h
    refine j_iload_n F (pc := 8) (q := 2) (by decide +kernel) rfl ?_
    obtain ⟨r8, μ9, hc11, h⟩ := z_b2_some h
    refine j_callSi F (pc := 9) (idx := 141) (As := [.int x2]) (st := []) (t_X4_isHolder (G := E.1) hρ3  hc11) q_X4_isHolder m_595 m_594 rfl (by decide) (Nat.le_of_ble_eq_true rfl) rfl (by decide +kernel) (fun s14 ν12 hq13 hp => ?_)
    obtain ⟨rfl, rfl⟩ := hp
    have hρ10 : μ9.2.2 = ρ := hq13.trans hρ3
    refine j_if_ne F (pc := 12) (off := 7) (tgt := 19) (by decide +kernel) (by decide) (fun c => ?_) (fun c => ?_)
    · rw [if_neg c] at h
      refine j_aload_n F (pc := 19) (q := 0) (by decide +kernel) rfl ?_
      refine j_getR F (pc := 20) (hk.r hρ10 r_0_2) fl_X4_25 (hk.s c_0) rfl (by decide +kernel) ?_
      refine j_getR F (pc := 23) ((hk.shipB (by decide : 4 ∈ z_SHIPS)).r hρ10 6 rfl) fl_X4_166 ((hk.shipB (by decide : 4 ∈ z_SHIPS)).1 0 _ rfl) rfl (by decide +kernel) ?_
      refine j_iload_n F (pc := 26) (q := 1) (by decide +kernel) rfl ?_
      obtain ⟨hg, h⟩ := z_ifs h
      refine j_iald F (pc := 27) ((hk.shipB (by decide : 4 ∈ z_SHIPS)).1 4 _ rfl) hg (by decide +kernel) ?_
      obtain ⟨x_15, e16, h⟩ := z_lt_some h
      rw [← e16]
      refine j_istore_n F (pc := 28) (q := 3) (L' := [some (.ref 0), some (.int x1), some (.int x2), some (.int x_15)]) (by decide +kernel) (by decide) rfl rfl ?_
      refine j_aload_n F (pc := 29) (q := 0) (by decide +kernel) rfl ?_
      refine j_getR F (pc := 30) (hk.r hρ10 r_0_2) fl_X4_25 (hk.s c_0) rfl (by decide +kernel) ?_
      refine j_getR F (pc := 33) ((hk.shipB (by decide : 4 ∈ z_SHIPS)).r hρ10 6 rfl) fl_X4_166 ((hk.shipB (by decide : 4 ∈ z_SHIPS)).1 0 _ rfl) rfl (by decide +kernel) ?_
      refine j_iload_n F (pc := 36) (q := 1) (by decide +kernel) rfl ?_
      refine j_iload_n F (pc := 37) (q := 2) (by decide +kernel) rfl ?_
      obtain ⟨hg, h⟩ := z_ifs h
      refine j_iast F (pc := 38) ((hk.shipB (by decide : 4 ∈ z_SHIPS)).1 4 _ rfl) hg (by decide +kernel) ?_
      obtain ⟨μ17, e19, h⟩ := z_st_some h
      rw [← e19]
      have hρ18 : μ17.2.2 = ρ := by rw [e19]; exact hρ10
      refine j_iload_n F (pc := 39) (q := 3) (by decide +kernel) rfl ?_
      exact j_iret (st := []) F Rt rfl (by decide +kernel) ⟨hρ18, _, rfl, (congrArg Prod.fst (Option.some.inj h)).symm, (congrArg Prod.snd (Option.some.inj h)).symm⟩
    · rw [if_pos c] at h
      refine j_sipush F (pc := 15) (n := -1001) (v := -1001) (by decide +kernel) (by decide +kernel) ?_
      exact j_iret (st := []) F Rt rfl (by decide +kernel) ⟨hρ10, _, rfl, (congrArg Prod.fst (Option.some.inj h)).symm, (congrArg Prod.snd (Option.some.inj h)).symm⟩
def g_X3_voyageOf_4 (o : Nat)  : Nat → Int32 → Int32 → Int32 → z_M → Option (Int32 × z_M)
  | 0, _, _, _, _ => none
  | n + 1, x1, x2, x3, μ => (if (μ.1 o 0) ≤ x3 then (some (x2, μ)) else (if z_in x3 6 then (if z_in x1 14 then (if (μ.1 (o + 5) x1.toNatClampNeg) < (μ.1 (o + 1) x3.toNatClampNeg) then (g_X3_voyageOf_4 o  n (x1) (x2) ((x3 + (1 : Int32))) μ) else (g_X3_voyageOf_4 o  n (x1) (x3) ((x3 + (1 : Int32))) μ)) else none) else none))
def f_X3_voyageOf (o : Nat) (x1 : Int32) (μ : z_M) : Option (Int32 × z_M) :=
  (g_X3_voyageOf_4 o  z_N (x1) ((-1 : Int32)) ((0 : Int32)) μ)
set_option maxHeartbeats 4000000 in
set_option maxRecDepth 100000 in
theorem u_X3_voyageOf_4 {E : z_E} {ρ : Nat → Nat → Option Nat} {r : Int32} {μr : z_M} (F : z_F E RX3 cX3_voyageOf 4 0) (Rt : z_R E (some .int) (fun v μ1 => μ1.2.2 = ρ ∧ ∃ r1, v = some (.int r1) ∧ r = r1 ∧ μr = μ1)) {o : Nat} (hb : z_blk z_shipS z_shipR (z_sh E.1) ρ o) : ∀ (n : Nat) (x1 : Int32) (x2 : Int32) (x3 : Int32) (μ : z_M), μ.2.2 = ρ → g_X3_voyageOf_4 o  n x1 x2 x3 μ = some (r, μr) → z_J E 4 4 [some (.ref o), some (.int x1), some (.int x2), some (.int x3)] [] μ := by
  intro n
  induction n with
  | zero =>
    intro x1 x2 x3 μ hρ h
    rw [g_X3_voyageOf_4] at h
    cases h
  | succ n ih =>
    intro x1 x2 x3 μ hρ h
    rw [g_X3_voyageOf_4] at h
    refine j_iload_n F (pc := 4) (q := 3) (by decide +kernel) rfl ?_
    refine j_aload_n F (pc := 5) (q := 0) (by decide +kernel) rfl ?_
    refine j_getI F (pc := 6) fl_X3_42 (hb.1 0 _ rfl) rfl (by decide +kernel) ?_
    refine j_icmp_ge F (pc := 9) (off := 26) (tgt := 35) (by decide +kernel) (by decide) (fun c => ?_) (fun c => ?_)
    · rw [if_pos c] at h
      refine j_iload_n F (pc := 35) (q := 2) (by decide +kernel) rfl ?_
      exact j_iret (st := []) F Rt rfl (by decide +kernel) ⟨hρ, _, rfl, (congrArg Prod.fst (Option.some.inj h)).symm, (congrArg Prod.snd (Option.some.inj h)).symm⟩
    · rw [if_neg c] at h
      refine j_aload_n F (pc := 12) (q := 0) (by decide +kernel) rfl ?_
      refine j_getR F (pc := 13) (hb.r hρ 3 rfl) fl_X3_9 (hb.1 0 _ rfl) rfl (by decide +kernel) ?_
      refine j_iload_n F (pc := 16) (q := 3) (by decide +kernel) rfl ?_
      obtain ⟨hg, h⟩ := z_ifs h
      refine j_iald F (pc := 17) (hb.1 1 _ rfl) hg (by decide +kernel) ?_
      refine j_aload_n F (pc := 18) (q := 0) (by decide +kernel) rfl ?_
      refine j_getR F (pc := 19) (hb.r hρ 7 rfl) fl_X3_24 (hb.1 0 _ rfl) rfl (by decide +kernel) ?_
      refine j_iload_n F (pc := 22) (q := 1) (by decide +kernel) rfl ?_
      obtain ⟨hg, h⟩ := z_ifs h
      refine j_iald F (pc := 23) (hb.1 5 _ rfl) hg (by decide +kernel) ?_
      refine j_icmp_gt F (pc := 24) (off := 5) (tgt := 29) (by decide +kernel) (by decide) (fun c => ?_) (fun c => ?_)
      · rw [if_pos c] at h
        refine j_iinc F (pc := 29) (i := 3) (n := 1) (v := 1) (L' := [some (.ref o), some (.int x1), some (.int x2), some (.int (x3 + (1 : Int32)))]) (by decide +kernel) rfl (by decide +kernel) (by decide) rfl rfl ?_
        refine j_goto F (pc := 32) (off := -28) (tgt := 4) (by decide +kernel) (by decide) ?_
        exact ih _ _ _ _ hρ h
      · rw [if_neg c] at h
        refine j_iload_n F (pc := 27) (q := 3) (by decide +kernel) rfl ?_
        refine j_istore_n F (pc := 28) (q := 2) (L' := [some (.ref o), some (.int x1), some (.int x3), some (.int x3)]) (by decide +kernel) (by decide) rfl rfl ?_
        refine j_iinc F (pc := 29) (i := 3) (n := 1) (v := 1) (L' := [some (.ref o), some (.int x1), some (.int x3), some (.int (x3 + (1 : Int32)))]) (by decide +kernel) rfl (by decide +kernel) (by decide) rfl rfl ?_
        refine j_goto F (pc := 32) (off := -28) (tgt := 4) (by decide +kernel) (by decide) ?_
        exact ih _ _ _ _ hρ h
set_option maxHeartbeats 4000000 in
set_option maxRecDepth 100000 in
theorem t_X3_voyageOf {G : z_Gl} {ρ : Nat → Nat → Option Nat} {μ : z_M} {r : Int32} {μr : z_M} {o : Nat} {x1 : Int32} (hρ : μ.2.2 = ρ) (hb : z_blk z_shipS z_shipR (z_sh G) ρ o) (h : f_X3_voyageOf o x1 μ = some (r, μr)) : z_Ci G yX3_voyageOf cX3_voyageOf 4 (some .int) 0 [.ref o, .int x1] μ (fun r1 μ1 => r = r1 ∧ μr = μ1) := by
  unfold z_Ci
  refine z_intro (by decide +kernel) (Nat.le_of_ble_eq_true rfl) (fun E hE F Rt => ?_)
  subst hE
  have F : z_F E RX3 cX3_voyageOf 4 0 := F
  rw [hρ] at Rt
  unfold f_X3_voyageOf at h
  show z_J E 4 0 [some (.ref o), some (.int x1), none, none] [] μ
  refine j_iconst F (pc := 0) (n := -1) (v := -1) (by decide +kernel) (by decide +kernel) ?_
  refine j_istore_n F (pc := 1) (q := 2) (L' := [some (.ref o), some (.int x1), some (.int (-1 : Int32)), none]) (by decide +kernel) (by decide) rfl rfl ?_
  refine j_iconst F (pc := 2) (n := 0) (v := 0) (by decide +kernel) (by decide +kernel) ?_
  refine j_istore_n F (pc := 3) (q := 3) (L' := [some (.ref o), some (.int x1), some (.int (-1 : Int32)), some (.int (0 : Int32))]) (by decide +kernel) (by decide) rfl rfl ?_
  refine u_X3_voyageOf_4 F Rt hb  z_N _ _ _ _ hρ h
/-- LastLent.told -/
def f_X4_told (x1 : Int32) (x2 : Int32) (μ : z_M) : Option (Int32 × z_M) :=
  (z_b2 (f_X4_isClaim (x1) μ) fun r1 μ2 => (if r1 = 0 then (some ((-1001 : Int32), μ2)) else (if x2 = 0 then (if z_in x1 14 then (some ((μ2.1 (4 + 3) x1.toNatClampNeg), μ2)) else none) else (if x2 = 1 then (if z_in x1 14 then (some ((μ2.1 (4 + 4) x1.toNatClampNeg), μ2)) else none) else (if x2 = 2 then (if z_in x1 14 then (some ((μ2.1 (4 + 5) x1.toNatClampNeg), μ2)) else none) else (if x2 = 3 then (if z_in x1 14 then (some ((μ2.1 (4 + 6) x1.toNatClampNeg), μ2)) else none) else (if x2 = 4 then (z_b2 (f_X4_bit ((μ2.1 4 2)) (x1) μ2) fun r8 μ9 => (some (r8, μ9))) else (if x2 = 5 then (if z_in x1 14 then (some ((μ2.1 (4 + 7) x1.toNatClampNeg), μ2)) else none) else (if x2 = 6 then (if z_in x1 14 then (some ((μ2.1 (4 + 8) x1.toNatClampNeg), μ2)) else none) else (if x2 = 7 then (z_b2 (f_X3_voyageOf (4) (x1) μ2) fun r15 μ16 => (some (r15, μ16))) else (some ((-1002 : Int32), μ2))))))))))))
set_option maxHeartbeats 4000000 in
set_option maxRecDepth 100000 in
theorem t_X4_told {G : z_Gl} {ρ : Nat → Nat → Option Nat} {μ : z_M} {r : Int32} {μr : z_M} {x1 : Int32} {x2 : Int32} (hρ : μ.2.2 = ρ) (hk : z_ok (z_sh G) ρ) (h : f_X4_told x1 x2 μ = some (r, μr)) : z_Ci G yX4_told cX4_told 3 (some .int) 1 [.ref 0, .int x1, .int x2] μ (fun r1 μ1 => r = r1 ∧ μr = μ1) := by
  unfold z_Ci
  refine z_intro (by decide +kernel) (Nat.le_of_ble_eq_true rfl) (fun E hE F Rt => ?_)
  subst hE
  have F : z_F E RX4 cX4_told 3 1 := F
  rw [hρ] at Rt
  unfold f_X4_told at h
  show z_J E 3 0 [some (.ref 0), some (.int x1), some (.int x2)] [] μ
  refine j_aload_n F (pc := 0) (q := 0) (by decide +kernel) rfl ?_
  refine j_iload_n F (pc := 1) (q := 1) (by decide +kernel) rfl ?_
  obtain ⟨r1, μ2, hc4, h⟩ := z_b2_some h
  refine j_callVi F (pc := 2) (idx := 148) (As := [.int x1]) (st := []) (t_X4_isClaim (G := E.1) hρ hk hc4) q_X4_isClaim v_X4_isClaim m_605 (hk.s c_0) rfl rfl (by decide) (Nat.le_of_ble_eq_true rfl) rfl (by decide +kernel) (fun s7 ν5 hq6 hp => ?_)
  obtain ⟨rfl, rfl⟩ := hp
  have hρ3 : μ2.2.2 = ρ := hq6.trans hρ
  refine j_if_ne F (pc := 5) (off := 7) (tgt := 12) (by decide +kernel) (by decide) (fun c => ?_) (fun c => ?_)
  · rw [if_neg c] at h
    refine j_iload_n F (pc := 12) (q := 2) (by decide +kernel) rfl ?_
    by_cases c0 : x2 = 0
    · rw [if_pos c0] at h
      refine j_tableIn F (pc := 13) (dflt := 128) (lo := 0) (hi := 7) (offs := #[47, 57, 67, 77, 87, 99, 109, 119]) (len := 47) (off := 47) (tgt := 60) (by decide +kernel) (by rw [c0]; decide) (by rw [c0]; decide) (by rw [c0]; decide +kernel) (by decide) ?_
      refine j_aload_n F (pc := 60) (q := 0) (by decide +kernel) rfl ?_
      refine j_getR F (pc := 61) (hk.r hρ3 r_0_2) fl_X4_25 (hk.s c_0) rfl (by decide +kernel) ?_
      refine j_getR F (pc := 64) ((hk.shipB (by decide : 4 ∈ z_SHIPS)).r hρ3 5 rfl) fl_X4_169 ((hk.shipB (by decide : 4 ∈ z_SHIPS)).1 0 _ rfl) rfl (by decide +kernel) ?_
      refine j_iload_n F (pc := 67) (q := 1) (by decide +kernel) rfl ?_
      obtain ⟨hg, h⟩ := z_ifs h
      refine j_iald F (pc := 68) ((hk.shipB (by decide : 4 ∈ z_SHIPS)).1 3 _ rfl) hg (by decide +kernel) ?_
      exact j_iret (st := []) F Rt rfl (by decide +kernel) ⟨hρ3, _, rfl, (congrArg Prod.fst (Option.some.inj h)).symm, (congrArg Prod.snd (Option.some.inj h)).symm⟩
    rw [if_neg c0] at h
    by_cases c1 : x2 = 1
    · rw [if_pos c1] at h
      refine j_tableIn F (pc := 13) (dflt := 128) (lo := 0) (hi := 7) (offs := #[47, 57, 67, 77, 87, 99, 109, 119]) (len := 47) (off := 57) (tgt := 70) (by decide +kernel) (by rw [c1]; decide) (by rw [c1]; decide) (by rw [c1]; decide +kernel) (by decide) ?_
      refine j_aload_n F (pc := 70) (q := 0) (by decide +kernel) rfl ?_
      refine j_getR F (pc := 71) (hk.r hρ3 r_0_2) fl_X4_25 (hk.s c_0) rfl (by decide +kernel) ?_
      refine j_getR F (pc := 74) ((hk.shipB (by decide : 4 ∈ z_SHIPS)).r hρ3 6 rfl) fl_X4_166 ((hk.shipB (by decide : 4 ∈ z_SHIPS)).1 0 _ rfl) rfl (by decide +kernel) ?_
      refine j_iload_n F (pc := 77) (q := 1) (by decide +kernel) rfl ?_
      obtain ⟨hg, h⟩ := z_ifs h
      refine j_iald F (pc := 78) ((hk.shipB (by decide : 4 ∈ z_SHIPS)).1 4 _ rfl) hg (by decide +kernel) ?_
      exact j_iret (st := []) F Rt rfl (by decide +kernel) ⟨hρ3, _, rfl, (congrArg Prod.fst (Option.some.inj h)).symm, (congrArg Prod.snd (Option.some.inj h)).symm⟩
    rw [if_neg c1] at h
    by_cases c2 : x2 = 2
    · rw [if_pos c2] at h
      refine j_tableIn F (pc := 13) (dflt := 128) (lo := 0) (hi := 7) (offs := #[47, 57, 67, 77, 87, 99, 109, 119]) (len := 47) (off := 67) (tgt := 80) (by decide +kernel) (by rw [c2]; decide) (by rw [c2]; decide) (by rw [c2]; decide +kernel) (by decide) ?_
      refine j_aload_n F (pc := 80) (q := 0) (by decide +kernel) rfl ?_
      refine j_getR F (pc := 81) (hk.r hρ3 r_0_2) fl_X4_25 (hk.s c_0) rfl (by decide +kernel) ?_
      refine j_getR F (pc := 84) ((hk.shipB (by decide : 4 ∈ z_SHIPS)).r hρ3 7 rfl) fl_X4_172 ((hk.shipB (by decide : 4 ∈ z_SHIPS)).1 0 _ rfl) rfl (by decide +kernel) ?_
      refine j_iload_n F (pc := 87) (q := 1) (by decide +kernel) rfl ?_
      obtain ⟨hg, h⟩ := z_ifs h
      refine j_iald F (pc := 88) ((hk.shipB (by decide : 4 ∈ z_SHIPS)).1 5 _ rfl) hg (by decide +kernel) ?_
      exact j_iret (st := []) F Rt rfl (by decide +kernel) ⟨hρ3, _, rfl, (congrArg Prod.fst (Option.some.inj h)).symm, (congrArg Prod.snd (Option.some.inj h)).symm⟩
    rw [if_neg c2] at h
    by_cases c3 : x2 = 3
    · rw [if_pos c3] at h
      refine j_tableIn F (pc := 13) (dflt := 128) (lo := 0) (hi := 7) (offs := #[47, 57, 67, 77, 87, 99, 109, 119]) (len := 47) (off := 77) (tgt := 90) (by decide +kernel) (by rw [c3]; decide) (by rw [c3]; decide) (by rw [c3]; decide +kernel) (by decide) ?_
      refine j_aload_n F (pc := 90) (q := 0) (by decide +kernel) rfl ?_
      refine j_getR F (pc := 91) (hk.r hρ3 r_0_2) fl_X4_25 (hk.s c_0) rfl (by decide +kernel) ?_
      refine j_getR F (pc := 94) ((hk.shipB (by decide : 4 ∈ z_SHIPS)).r hρ3 8 rfl) fl_X4_175 ((hk.shipB (by decide : 4 ∈ z_SHIPS)).1 0 _ rfl) rfl (by decide +kernel) ?_
      refine j_iload_n F (pc := 97) (q := 1) (by decide +kernel) rfl ?_
      obtain ⟨hg, h⟩ := z_ifs h
      refine j_iald F (pc := 98) ((hk.shipB (by decide : 4 ∈ z_SHIPS)).1 6 _ rfl) hg (by decide +kernel) ?_
      exact j_iret (st := []) F Rt rfl (by decide +kernel) ⟨hρ3, _, rfl, (congrArg Prod.fst (Option.some.inj h)).symm, (congrArg Prod.snd (Option.some.inj h)).symm⟩
    rw [if_neg c3] at h
    by_cases c4 : x2 = 4
    · rw [if_pos c4] at h
      refine j_tableIn F (pc := 13) (dflt := 128) (lo := 0) (hi := 7) (offs := #[47, 57, 67, 77, 87, 99, 109, 119]) (len := 47) (off := 87) (tgt := 100) (by decide +kernel) (by rw [c4]; decide) (by rw [c4]; decide) (by rw [c4]; decide +kernel) (by decide) ?_
      refine j_aload_n F (pc := 100) (q := 0) (by decide +kernel) rfl ?_
      refine j_getR F (pc := 101) (hk.r hρ3 r_0_2) fl_X4_25 (hk.s c_0) rfl (by decide +kernel) ?_
      refine j_getI F (pc := 104) fl_X4_178 ((hk.shipB (by decide : 4 ∈ z_SHIPS)).1 0 _ rfl) rfl (by decide +kernel) ?_
      refine j_iload_n F (pc := 107) (q := 1) (by decide +kernel) rfl ?_
      obtain ⟨r8, μ9, hc11, h⟩ := z_b2_some h
      refine j_callSi F (pc := 108) (idx := 96) (As := [.int (μ2.1 4 2), .int x1]) (st := []) (t_X4_bit (G := E.1) hρ3  hc11) q_X4_bit m_474 m_566 rfl (by decide) (Nat.le_of_ble_eq_true rfl) rfl (by decide +kernel) (fun s14 ν12 hq13 hp => ?_)
      obtain ⟨rfl, rfl⟩ := hp
      have hρ10 : μ9.2.2 = ρ := hq13.trans hρ3
      exact j_iret (st := []) F Rt rfl (by decide +kernel) ⟨hρ10, _, rfl, (congrArg Prod.fst (Option.some.inj h)).symm, (congrArg Prod.snd (Option.some.inj h)).symm⟩
    rw [if_neg c4] at h
    by_cases c5 : x2 = 5
    · rw [if_pos c5] at h
      refine j_tableIn F (pc := 13) (dflt := 128) (lo := 0) (hi := 7) (offs := #[47, 57, 67, 77, 87, 99, 109, 119]) (len := 47) (off := 99) (tgt := 112) (by decide +kernel) (by rw [c5]; decide) (by rw [c5]; decide) (by rw [c5]; decide +kernel) (by decide) ?_
      refine j_aload_n F (pc := 112) (q := 0) (by decide +kernel) rfl ?_
      refine j_getR F (pc := 113) (hk.r hρ3 r_0_2) fl_X4_25 (hk.s c_0) rfl (by decide +kernel) ?_
      refine j_getR F (pc := 116) ((hk.shipB (by decide : 4 ∈ z_SHIPS)).r hρ3 9 rfl) fl_X4_181 ((hk.shipB (by decide : 4 ∈ z_SHIPS)).1 0 _ rfl) rfl (by decide +kernel) ?_
      refine j_iload_n F (pc := 119) (q := 1) (by decide +kernel) rfl ?_
      obtain ⟨hg, h⟩ := z_ifs h
      refine j_iald F (pc := 120) ((hk.shipB (by decide : 4 ∈ z_SHIPS)).1 7 _ rfl) hg (by decide +kernel) ?_
      exact j_iret (st := []) F Rt rfl (by decide +kernel) ⟨hρ3, _, rfl, (congrArg Prod.fst (Option.some.inj h)).symm, (congrArg Prod.snd (Option.some.inj h)).symm⟩
    rw [if_neg c5] at h
    by_cases c6 : x2 = 6
    · rw [if_pos c6] at h
      refine j_tableIn F (pc := 13) (dflt := 128) (lo := 0) (hi := 7) (offs := #[47, 57, 67, 77, 87, 99, 109, 119]) (len := 47) (off := 109) (tgt := 122) (by decide +kernel) (by rw [c6]; decide) (by rw [c6]; decide) (by rw [c6]; decide +kernel) (by decide) ?_
      refine j_aload_n F (pc := 122) (q := 0) (by decide +kernel) rfl ?_
      refine j_getR F (pc := 123) (hk.r hρ3 r_0_2) fl_X4_25 (hk.s c_0) rfl (by decide +kernel) ?_
      refine j_getR F (pc := 126) ((hk.shipB (by decide : 4 ∈ z_SHIPS)).r hρ3 10 rfl) fl_X4_151 ((hk.shipB (by decide : 4 ∈ z_SHIPS)).1 0 _ rfl) rfl (by decide +kernel) ?_
      refine j_iload_n F (pc := 129) (q := 1) (by decide +kernel) rfl ?_
      obtain ⟨hg, h⟩ := z_ifs h
      refine j_iald F (pc := 130) ((hk.shipB (by decide : 4 ∈ z_SHIPS)).1 8 _ rfl) hg (by decide +kernel) ?_
      exact j_iret (st := []) F Rt rfl (by decide +kernel) ⟨hρ3, _, rfl, (congrArg Prod.fst (Option.some.inj h)).symm, (congrArg Prod.snd (Option.some.inj h)).symm⟩
    rw [if_neg c6] at h
    by_cases c7 : x2 = 7
    · rw [if_pos c7] at h
      refine j_tableIn F (pc := 13) (dflt := 128) (lo := 0) (hi := 7) (offs := #[47, 57, 67, 77, 87, 99, 109, 119]) (len := 47) (off := 119) (tgt := 132) (by decide +kernel) (by rw [c7]; decide) (by rw [c7]; decide) (by rw [c7]; decide +kernel) (by decide) ?_
      refine j_aload_n F (pc := 132) (q := 0) (by decide +kernel) rfl ?_
      refine j_getR F (pc := 133) (hk.r hρ3 r_0_2) fl_X4_25 (hk.s c_0) rfl (by decide +kernel) ?_
      refine j_iload_n F (pc := 136) (q := 1) (by decide +kernel) rfl ?_
      obtain ⟨r15, μ16, hc18, h⟩ := z_b2_some h
      refine j_callVi F (pc := 137) (idx := 184) (As := [.int x1]) (st := []) (t_X3_voyageOf (G := E.1) hρ3 (hk.shipB (by decide : 4 ∈ z_SHIPS)) hc18) q_X3_voyageOf v_X3_voyageOf m_631 ((hk.shipB (by decide : 4 ∈ z_SHIPS)).1 0 _ rfl) rfl rfl (by decide) (Nat.le_of_ble_eq_true rfl) rfl (by decide +kernel) (fun s21 ν19 hq20 hp => ?_)
      obtain ⟨rfl, rfl⟩ := hp
      have hρ17 : μ16.2.2 = ρ := hq20.trans hρ3
      exact j_iret (st := []) F Rt rfl (by decide +kernel) ⟨hρ17, _, rfl, (congrArg Prod.fst (Option.some.inj h)).symm, (congrArg Prod.snd (Option.some.inj h)).symm⟩
    rw [if_neg c7] at h
    refine j_tableOut F (pc := 13) (dflt := 128) (lo := 0) (hi := 7) (offs := #[47, 57, 67, 77, 87, 99, 109, 119]) (len := 47) (tgt := 141) (by decide +kernel) (by have d0 := lv_neT (k := 0) (a := 0) c0 (by decide); have d1 := lv_neT (k := 1) (a := 1) c1 (by decide); have d2 := lv_neT (k := 2) (a := 2) c2 (by decide); have d3 := lv_neT (k := 3) (a := 3) c3 (by decide); have d4 := lv_neT (k := 4) (a := 4) c4 (by decide); have d5 := lv_neT (k := 5) (a := 5) c5 (by decide); have d6 := lv_neT (k := 6) (a := 6) c6 (by decide); have d7 := lv_neT (k := 7) (a := 7) c7 (by decide); omega) (by decide) ?_
    refine j_sipush F (pc := 141) (n := -1002) (v := -1002) (by decide +kernel) (by decide +kernel) ?_
    exact j_iret (st := []) F Rt rfl (by decide +kernel) ⟨hρ3, _, rfl, (congrArg Prod.fst (Option.some.inj h)).symm, (congrArg Prod.snd (Option.some.inj h)).symm⟩
  · rw [if_pos c] at h
    refine j_sipush F (pc := 8) (n := -1001) (v := -1001) (by decide +kernel) (by decide +kernel) ?_
    exact j_iret (st := []) F Rt rfl (by decide +kernel) ⟨hρ3, _, rfl, (congrArg Prod.fst (Option.some.inj h)).symm, (congrArg Prod.snd (Option.some.inj h)).symm⟩
def g_X4_sumOf_4 (a0 : Nat) (n0 : Nat)  : Nat → Int32 → Int32 → Int32 → z_M → Option (Int32 × z_M)
  | 0, _, _, _, _ => none
  | n + 1, x1, x2, x3, μ => (if x1 ≤ x3 then (some (x2, μ)) else (if (Int32.ofNat n0) ≤ x3 then (some (x2, μ)) else (if z_in x3 n0 then (z_lt (x2 + (μ.1 a0 x3.toNatClampNeg)) fun x_1 => (g_X4_sumOf_4 a0 n0  n (x1) (x_1) ((x3 + (1 : Int32))) μ)) else none)))
def f_X4_sumOf (a0 : Nat) (n0 : Nat) (x1 : Int32) (μ : z_M) : Option (Int32 × z_M) :=
  (g_X4_sumOf_4 a0 n0  z_N (x1) ((0 : Int32)) ((0 : Int32)) μ)
set_option maxHeartbeats 4000000 in
set_option maxRecDepth 100000 in
theorem u_X4_sumOf_4 {E : z_E} {ρ : Nat → Nat → Option Nat} {r : Int32} {μr : z_M} (F : z_F E RX4 cX4_sumOf 4 0) (Rt : z_R E (some .int) (fun v μ1 => μ1.2.2 = ρ ∧ ∃ r1, v = some (.int r1) ∧ r = r1 ∧ μr = μ1)) {a0 : Nat} {n0 : Nat} (ha0 : (z_sh E.1)[a0]? = some (.inl (0, n0))) : ∀ (n : Nat) (x1 : Int32) (x2 : Int32) (x3 : Int32) (μ : z_M), μ.2.2 = ρ → g_X4_sumOf_4 a0 n0  n x1 x2 x3 μ = some (r, μr) → z_J E 4 4 [some (.ref a0), some (.int x1), some (.int x2), some (.int x3)] [] μ := by
  intro n
  induction n with
  | zero =>
    intro x1 x2 x3 μ hρ h
    rw [g_X4_sumOf_4] at h
    cases h
  | succ n ih =>
    intro x1 x2 x3 μ hρ h
    rw [g_X4_sumOf_4] at h
    refine j_iload_n F (pc := 4) (q := 3) (by decide +kernel) rfl ?_
    refine j_iload_n F (pc := 5) (q := 1) (by decide +kernel) rfl ?_
    refine j_icmp_ge F (pc := 6) (off := 21) (tgt := 27) (by decide +kernel) (by decide) (fun c => ?_) (fun c => ?_)
    · rw [if_pos c] at h
      refine j_iload_n F (pc := 27) (q := 2) (by decide +kernel) rfl ?_
      exact j_iret (st := []) F Rt rfl (by decide +kernel) ⟨hρ, _, rfl, (congrArg Prod.fst (Option.some.inj h)).symm, (congrArg Prod.snd (Option.some.inj h)).symm⟩
    · rw [if_neg c] at h
      refine j_iload_n F (pc := 9) (q := 3) (by decide +kernel) rfl ?_
      refine j_aload_n F (pc := 10) (q := 0) (by decide +kernel) rfl ?_
      refine j_alen F (pc := 11) ha0 (by decide) rfl (by decide +kernel) ?_
      refine j_icmp_ge F (pc := 12) (off := 15) (tgt := 27) (by decide +kernel) (by decide) (fun c => ?_) (fun c => ?_)
      · rw [if_pos c] at h
        refine j_iload_n F (pc := 27) (q := 2) (by decide +kernel) rfl ?_
        exact j_iret (st := []) F Rt rfl (by decide +kernel) ⟨hρ, _, rfl, (congrArg Prod.fst (Option.some.inj h)).symm, (congrArg Prod.snd (Option.some.inj h)).symm⟩
      · rw [if_neg c] at h
        refine j_iload_n F (pc := 15) (q := 2) (by decide +kernel) rfl ?_
        refine j_aload_n F (pc := 16) (q := 0) (by decide +kernel) rfl ?_
        refine j_iload_n F (pc := 17) (q := 3) (by decide +kernel) rfl ?_
        obtain ⟨hg, h⟩ := z_ifs h
        refine j_iald F (pc := 18) ha0 hg (by decide +kernel) ?_
        refine j_iadd F (pc := 19) (by decide +kernel) ?_
        obtain ⟨x_1, e2, h⟩ := z_lt_some h
        rw [← e2]
        refine j_istore_n F (pc := 20) (q := 2) (L' := [some (.ref a0), some (.int x1), some (.int x_1), some (.int x3)]) (by decide +kernel) (by decide) rfl rfl ?_
        refine j_iinc F (pc := 21) (i := 3) (n := 1) (v := 1) (L' := [some (.ref a0), some (.int x1), some (.int x_1), some (.int (x3 + (1 : Int32)))]) (by decide +kernel) rfl (by decide +kernel) (by decide) rfl rfl ?_
        refine j_goto F (pc := 24) (off := -20) (tgt := 4) (by decide +kernel) (by decide) ?_
        exact ih _ _ _ _ hρ h
set_option maxHeartbeats 4000000 in
set_option maxRecDepth 100000 in
theorem t_X4_sumOf {G : z_Gl} {ρ : Nat → Nat → Option Nat} {μ : z_M} {r : Int32} {μr : z_M} {a0 : Nat} {n0 : Nat} {x1 : Int32} (hρ : μ.2.2 = ρ) (ha0 : (z_sh G)[a0]? = some (.inl (0, n0))) (h : f_X4_sumOf a0 n0 x1 μ = some (r, μr)) : z_Ci G yX4_sumOf cX4_sumOf 4 (some .int) 0 [.ref a0, .int x1] μ (fun r1 μ1 => r = r1 ∧ μr = μ1) := by
  unfold z_Ci
  refine z_intro (by decide +kernel) (Nat.le_of_ble_eq_true rfl) (fun E hE F Rt => ?_)
  subst hE
  have F : z_F E RX4 cX4_sumOf 4 0 := F
  rw [hρ] at Rt
  unfold f_X4_sumOf at h
  show z_J E 4 0 [some (.ref a0), some (.int x1), none, none] [] μ
  refine j_iconst F (pc := 0) (n := 0) (v := 0) (by decide +kernel) (by decide +kernel) ?_
  refine j_istore_n F (pc := 1) (q := 2) (L' := [some (.ref a0), some (.int x1), some (.int (0 : Int32)), none]) (by decide +kernel) (by decide) rfl rfl ?_
  refine j_iconst F (pc := 2) (n := 0) (v := 0) (by decide +kernel) (by decide +kernel) ?_
  refine j_istore_n F (pc := 3) (q := 3) (L' := [some (.ref a0), some (.int x1), some (.int (0 : Int32)), some (.int (0 : Int32))]) (by decide +kernel) (by decide) rfl rfl ?_
  refine u_X4_sumOf_4 F Rt ha0  z_N _ _ _ _ hρ h
/-- LastLent.count -/
def f_X4_count (x1 : Int32) (μ : z_M) : Option (Int32 × z_M) :=
  (if x1 = 0 then (some ((μ.1 4 0), μ)) else (if x1 = 1 then (some ((μ.1 4 1), μ)) else (if x1 = 2 then (some ((μ.1 2 1), μ)) else (if x1 = 3 then (z_b2 (f_X4_sumOf ((4 + 6)) (14) ((μ.1 4 1)) μ) fun r1 μ2 => (some (r1, μ2))) else (if x1 = 4 then (z_b2 (f_X4_sumOf ((4 + 9)) (5) ((5 : Int32)) μ) fun r8 μ9 => (some (r8, μ9))) else (some ((-1002 : Int32), μ)))))))
set_option maxHeartbeats 4000000 in
set_option maxRecDepth 100000 in
theorem t_X4_count {G : z_Gl} {ρ : Nat → Nat → Option Nat} {μ : z_M} {r : Int32} {μr : z_M} {x1 : Int32} (hρ : μ.2.2 = ρ) (hk : z_ok (z_sh G) ρ) (h : f_X4_count x1 μ = some (r, μr)) : z_Ci G yX4_count cX4_count 2 (some .int) 1 [.ref 0, .int x1] μ (fun r1 μ1 => r = r1 ∧ μr = μ1) := by
  unfold z_Ci
  refine z_intro (by decide +kernel) (Nat.le_of_ble_eq_true rfl) (fun E hE F Rt => ?_)
  subst hE
  have F : z_F E RX4 cX4_count 2 1 := F
  rw [hρ] at Rt
  unfold f_X4_count at h
  show z_J E 2 0 [some (.ref 0), some (.int x1)] [] μ
  refine j_iload_n F (pc := 0) (q := 1) (by decide +kernel) rfl ?_
  by_cases c0 : x1 = 0
  · rw [if_pos c0] at h
    refine j_tableIn F (pc := 1) (dflt := 89) (lo := 0) (hi := 4) (offs := #[35, 43, 51, 59, 77]) (len := 35) (off := 35) (tgt := 36) (by decide +kernel) (by rw [c0]; decide) (by rw [c0]; decide) (by rw [c0]; decide +kernel) (by decide) ?_
    refine j_aload_n F (pc := 36) (q := 0) (by decide +kernel) rfl ?_
    refine j_getR F (pc := 37) (hk.r hρ r_0_2) fl_X4_25 (hk.s c_0) rfl (by decide +kernel) ?_
    refine j_getI F (pc := 40) fl_X4_188 ((hk.shipB (by decide : 4 ∈ z_SHIPS)).1 0 _ rfl) rfl (by decide +kernel) ?_
    exact j_iret (st := []) F Rt rfl (by decide +kernel) ⟨hρ, _, rfl, (congrArg Prod.fst (Option.some.inj h)).symm, (congrArg Prod.snd (Option.some.inj h)).symm⟩
  rw [if_neg c0] at h
  by_cases c1 : x1 = 1
  · rw [if_pos c1] at h
    refine j_tableIn F (pc := 1) (dflt := 89) (lo := 0) (hi := 4) (offs := #[35, 43, 51, 59, 77]) (len := 35) (off := 43) (tgt := 44) (by decide +kernel) (by rw [c1]; decide) (by rw [c1]; decide) (by rw [c1]; decide +kernel) (by decide) ?_
    refine j_aload_n F (pc := 44) (q := 0) (by decide +kernel) rfl ?_
    refine j_getR F (pc := 45) (hk.r hρ r_0_2) fl_X4_25 (hk.s c_0) rfl (by decide +kernel) ?_
    refine j_getI F (pc := 48) fl_X4_191 ((hk.shipB (by decide : 4 ∈ z_SHIPS)).1 0 _ rfl) rfl (by decide +kernel) ?_
    exact j_iret (st := []) F Rt rfl (by decide +kernel) ⟨hρ, _, rfl, (congrArg Prod.fst (Option.some.inj h)).symm, (congrArg Prod.snd (Option.some.inj h)).symm⟩
  rw [if_neg c1] at h
  by_cases c2 : x1 = 2
  · rw [if_pos c2] at h
    refine j_tableIn F (pc := 1) (dflt := 89) (lo := 0) (hi := 4) (offs := #[35, 43, 51, 59, 77]) (len := 35) (off := 51) (tgt := 52) (by decide +kernel) (by rw [c2]; decide) (by rw [c2]; decide) (by rw [c2]; decide +kernel) (by decide) ?_
    refine j_aload_n F (pc := 52) (q := 0) (by decide +kernel) rfl ?_
    refine j_getR F (pc := 53) (hk.r hρ r_0_1) fl_X4_18 (hk.s c_0) rfl (by decide +kernel) ?_
    refine j_getI F (pc := 56) fl_X4_59 (hk.s c_2) rfl (by decide +kernel) ?_
    exact j_iret (st := []) F Rt rfl (by decide +kernel) ⟨hρ, _, rfl, (congrArg Prod.fst (Option.some.inj h)).symm, (congrArg Prod.snd (Option.some.inj h)).symm⟩
  rw [if_neg c2] at h
  by_cases c3 : x1 = 3
  · rw [if_pos c3] at h
    refine j_tableIn F (pc := 1) (dflt := 89) (lo := 0) (hi := 4) (offs := #[35, 43, 51, 59, 77]) (len := 35) (off := 59) (tgt := 60) (by decide +kernel) (by rw [c3]; decide) (by rw [c3]; decide) (by rw [c3]; decide +kernel) (by decide) ?_
    refine j_aload_n F (pc := 60) (q := 0) (by decide +kernel) rfl ?_
    refine j_getR F (pc := 61) (hk.r hρ r_0_2) fl_X4_25 (hk.s c_0) rfl (by decide +kernel) ?_
    refine j_getR F (pc := 64) ((hk.shipB (by decide : 4 ∈ z_SHIPS)).r hρ 8 rfl) fl_X4_175 ((hk.shipB (by decide : 4 ∈ z_SHIPS)).1 0 _ rfl) rfl (by decide +kernel) ?_
    refine j_aload_n F (pc := 67) (q := 0) (by decide +kernel) rfl ?_
    refine j_getR F (pc := 68) (hk.r hρ r_0_2) fl_X4_25 (hk.s c_0) rfl (by decide +kernel) ?_
    refine j_getI F (pc := 71) fl_X4_191 ((hk.shipB (by decide : 4 ∈ z_SHIPS)).1 0 _ rfl) rfl (by decide +kernel) ?_
    obtain ⟨r1, μ2, hc4, h⟩ := z_b2_some h
    refine j_callSi F (pc := 74) (idx := 194) (As := [.ref (4 + 6), .int (μ.1 4 1)]) (st := []) (t_X4_sumOf (G := E.1) hρ ((hk.shipB (by decide : 4 ∈ z_SHIPS)).1 6 _ rfl) hc4) q_X4_sumOf m_640 m_639 rfl (by decide) (Nat.le_of_ble_eq_true rfl) rfl (by decide +kernel) (fun s7 ν5 hq6 hp => ?_)
    obtain ⟨rfl, rfl⟩ := hp
    have hρ3 : μ2.2.2 = ρ := hq6.trans hρ
    exact j_iret (st := []) F Rt rfl (by decide +kernel) ⟨hρ3, _, rfl, (congrArg Prod.fst (Option.some.inj h)).symm, (congrArg Prod.snd (Option.some.inj h)).symm⟩
  rw [if_neg c3] at h
  by_cases c4 : x1 = 4
  · rw [if_pos c4] at h
    refine j_tableIn F (pc := 1) (dflt := 89) (lo := 0) (hi := 4) (offs := #[35, 43, 51, 59, 77]) (len := 35) (off := 77) (tgt := 78) (by decide +kernel) (by rw [c4]; decide) (by rw [c4]; decide) (by rw [c4]; decide +kernel) (by decide) ?_
    refine j_aload_n F (pc := 78) (q := 0) (by decide +kernel) rfl ?_
    refine j_getR F (pc := 79) (hk.r hρ r_0_2) fl_X4_25 (hk.s c_0) rfl (by decide +kernel) ?_
    refine j_getR F (pc := 82) ((hk.shipB (by decide : 4 ∈ z_SHIPS)).r hρ 11 rfl) fl_X4_157 ((hk.shipB (by decide : 4 ∈ z_SHIPS)).1 0 _ rfl) rfl (by decide +kernel) ?_
    refine j_iconst F (pc := 85) (n := 5) (v := 5) (by decide +kernel) (by decide +kernel) ?_
    obtain ⟨r8, μ9, hc11, h⟩ := z_b2_some h
    refine j_callSi F (pc := 86) (idx := 194) (As := [.ref (4 + 9), .int (5 : Int32)]) (st := []) (t_X4_sumOf (G := E.1) hρ ((hk.shipB (by decide : 4 ∈ z_SHIPS)).1 9 _ rfl) hc11) q_X4_sumOf m_640 m_639 rfl (by decide) (Nat.le_of_ble_eq_true rfl) rfl (by decide +kernel) (fun s14 ν12 hq13 hp => ?_)
    obtain ⟨rfl, rfl⟩ := hp
    have hρ10 : μ9.2.2 = ρ := hq13.trans hρ
    exact j_iret (st := []) F Rt rfl (by decide +kernel) ⟨hρ10, _, rfl, (congrArg Prod.fst (Option.some.inj h)).symm, (congrArg Prod.snd (Option.some.inj h)).symm⟩
  rw [if_neg c4] at h
  refine j_tableOut F (pc := 1) (dflt := 89) (lo := 0) (hi := 4) (offs := #[35, 43, 51, 59, 77]) (len := 35) (tgt := 90) (by decide +kernel) (by have d0 := lv_neT (k := 0) (a := 0) c0 (by decide); have d1 := lv_neT (k := 1) (a := 1) c1 (by decide); have d2 := lv_neT (k := 2) (a := 2) c2 (by decide); have d3 := lv_neT (k := 3) (a := 3) c3 (by decide); have d4 := lv_neT (k := 4) (a := 4) c4 (by decide); omega) (by decide) ?_
  refine j_sipush F (pc := 90) (n := -1002) (v := -1002) (by decide +kernel) (by decide +kernel) ?_
  exact j_iret (st := []) F Rt rfl (by decide +kernel) ⟨hρ, _, rfl, (congrArg Prod.fst (Option.some.inj h)).symm, (congrArg Prod.snd (Option.some.inj h)).symm⟩
/-- LastLent$Ship.lastUnbarred -/
def f_X3_lastUnbarred (o : Nat) (o1 : Nat) (x2 : Int32) (μ : z_M) : Option (Int32 × z_M) :=
  (if z_in x2 14 then (if z_in (μ.1 (o + 3) x2.toNatClampNeg) 8 then (z_lt (μ.1 (o1 + 2) (μ.1 (o + 3) x2.toNatClampNeg).toNatClampNeg) fun x_1 => (if z_in x2 14 then (z_lt ((μ.1 (o + 5) x2.toNatClampNeg) + x_1) fun x_3 => (if z_in x2 14 then (if (¬ ((μ.1 (o + 8) x2.toNatClampNeg) = (-1 : Int32)) → z_in x2 14) then (z_lt (if (μ.1 (o + 8) x2.toNatClampNeg) = (-1 : Int32) then (0 : Int32) else (if x_3 < (μ.1 (o + 8) x2.toNatClampNeg) then (0 : Int32) else (1 : Int32))) fun x_5 => (if x_1 = 0 then (some ((999 : Int32), μ)) else (if x_5 = 0 then (some ((if x_3 < (999 : Int32) then x_3 else (999 : Int32)), μ)) else (some ((999 : Int32), μ))))) else none) else none)) else none)) else none) else none)
set_option maxHeartbeats 4000000 in
set_option maxRecDepth 100000 in
theorem t_X3_lastUnbarred {G : z_Gl} {ρ : Nat → Nat → Option Nat} {μ : z_M} {r : Int32} {μr : z_M} {o : Nat} {o1 : Nat} {x2 : Int32} (hρ : μ.2.2 = ρ) (hb : z_blk z_shipS z_shipR (z_sh G) ρ o) (hb1 : z_blk z_lawS z_lawR (z_sh G) ρ o1) (h : f_X3_lastUnbarred o o1 x2 μ = some (r, μr)) : z_Ci G yX3_lastUnbarred cX3_lastUnbarred 6 (some .int) 1 [.ref o, .ref o1, .int x2] μ (fun r1 μ1 => r = r1 ∧ μr = μ1) := by
  unfold z_Ci
  refine z_intro (by decide +kernel) (Nat.le_of_ble_eq_true rfl) (fun E hE F Rt => ?_)
  subst hE
  have F : z_F E RX3 cX3_lastUnbarred 6 1 := F
  rw [hρ] at Rt
  unfold f_X3_lastUnbarred at h
  show z_J E 6 0 [some (.ref o), some (.ref o1), some (.int x2), none, none, none] [] μ
  refine j_aload_n F (pc := 0) (q := 1) (by decide +kernel) rfl ?_
  refine j_getR F (pc := 1) (hb1.r hρ 1 rfl) fl_X3_84 (hb1.1 0 _ rfl) rfl (by decide +kernel) ?_
  refine j_aload_n F (pc := 4) (q := 0) (by decide +kernel) rfl ?_
  refine j_getR F (pc := 5) (hb.r hρ 5 rfl) fl_X3_18 (hb.1 0 _ rfl) rfl (by decide +kernel) ?_
  refine j_iload_n F (pc := 8) (q := 2) (by decide +kernel) rfl ?_
  obtain ⟨hg, h⟩ := z_ifs h
  refine j_iald F (pc := 9) (hb.1 3 _ rfl) hg (by decide +kernel) ?_
  obtain ⟨hg, h⟩ := z_ifs h
  refine j_iald F (pc := 10) (hb1.1 2 _ rfl) hg (by decide +kernel) ?_
  obtain ⟨x_1, e2, h⟩ := z_lt_some h
  rw [← e2]
  refine j_istore_n F (pc := 11) (q := 3) (L' := [some (.ref o), some (.ref o1), some (.int x2), some (.int x_1), none, none]) (by decide +kernel) (by decide) rfl rfl ?_
  refine j_aload_n F (pc := 12) (q := 0) (by decide +kernel) rfl ?_
  refine j_getR F (pc := 13) (hb.r hρ 7 rfl) fl_X3_24 (hb.1 0 _ rfl) rfl (by decide +kernel) ?_
  refine j_iload_n F (pc := 16) (q := 2) (by decide +kernel) rfl ?_
  obtain ⟨hg, h⟩ := z_ifs h
  refine j_iald F (pc := 17) (hb.1 5 _ rfl) hg (by decide +kernel) ?_
  refine j_iload_n F (pc := 18) (q := 3) (by decide +kernel) rfl ?_
  refine j_iadd F (pc := 19) (by decide +kernel) ?_
  obtain ⟨x_3, e4, h⟩ := z_lt_some h
  rw [← e4]
  refine j_istore F (pc := 20) (i := 4) (L' := [some (.ref o), some (.ref o1), some (.int x2), some (.int x_1), some (.int x_3), none]) (by decide +kernel) (by decide) rfl rfl ?_
  refine j_aload_n F (pc := 22) (q := 0) (by decide +kernel) rfl ?_
  refine j_getR F (pc := 23) (hb.r hρ 10 rfl) fl_X3_33 (hb.1 0 _ rfl) rfl (by decide +kernel) ?_
  refine j_iload_n F (pc := 26) (q := 2) (by decide +kernel) rfl ?_
  obtain ⟨hg, h⟩ := z_ifs h
  refine j_iald F (pc := 27) (hb.1 8 _ rfl) hg (by decide +kernel) ?_
  refine j_iconst F (pc := 28) (n := -1) (v := -1) (by decide +kernel) (by decide +kernel) ?_
  obtain ⟨hg, h⟩ := z_ifs h
  suffices hj : z_J E 6 48 [some (.ref o), some (.ref o1), some (.int x2), some (.int x_1), some (.int x_3), none] (.int (if (μ.1 (o + 8) x2.toNatClampNeg) = (-1 : Int32) then (0 : Int32) else (if x_3 < (μ.1 (o + 8) x2.toNatClampNeg) then (0 : Int32) else (1 : Int32))) :: []) μ by
    refine j_icmp_eq F (pc := 29) (off := 18) (tgt := 47) (by decide +kernel) (by decide) (fun c0 => ?_) (fun c0 => ?_)
    · rw [if_pos c0] at hj
      refine j_iconst F (pc := 47) (n := 0) (v := 0) (by decide +kernel) (by decide +kernel) ?_
      exact hj
    · rw [if_neg c0] at hj
      refine j_aload_n F (pc := 32) (q := 0) (by decide +kernel) rfl ?_
      refine j_getR F (pc := 33) (hb.r hρ 10 rfl) fl_X3_33 (hb.1 0 _ rfl) rfl (by decide +kernel) ?_
      refine j_iload_n F (pc := 36) (q := 2) (by decide +kernel) rfl ?_
      refine j_iald F (pc := 37) (hb.1 8 _ rfl) (hg c0) (by decide +kernel) ?_
      refine j_iload F (pc := 38) (i := 4) (by decide +kernel) rfl ?_
      refine j_icmp_gt F (pc := 40) (off := 7) (tgt := 47) (by decide +kernel) (by decide) (fun c1 => ?_) (fun c1 => ?_)
      · rw [if_pos c1] at hj
        refine j_iconst F (pc := 47) (n := 0) (v := 0) (by decide +kernel) (by decide +kernel) ?_
        exact hj
      · rw [if_neg c1] at hj
        refine j_iconst F (pc := 43) (n := 1) (v := 1) (by decide +kernel) (by decide +kernel) ?_
        refine j_goto F (pc := 44) (off := 4) (tgt := 48) (by decide +kernel) (by decide) ?_
        exact hj
  obtain ⟨x_5, e6, h⟩ := z_lt_some h
  rw [← e6]
  refine j_istore F (pc := 48) (i := 5) (L' := [some (.ref o), some (.ref o1), some (.int x2), some (.int x_1), some (.int x_3), some (.int x_5)]) (by decide +kernel) (by decide) rfl rfl ?_
  refine j_iload_n F (pc := 50) (q := 3) (by decide +kernel) rfl ?_
  refine j_if_eq F (pc := 51) (off := 8) (tgt := 59) (by decide +kernel) (by decide) (fun c => ?_) (fun c => ?_)
  · rw [if_pos c] at h
    refine j_sipush F (pc := 59) (n := 999) (v := 999) (by decide +kernel) (by decide +kernel) ?_
    refine j_goto F (pc := 62) (off := 11) (tgt := 73) (by decide +kernel) (by decide) ?_
    exact j_iret (st := []) F Rt rfl (by decide +kernel) ⟨hρ, _, rfl, (congrArg Prod.fst (Option.some.inj h)).symm, (congrArg Prod.snd (Option.some.inj h)).symm⟩
  · rw [if_neg c] at h
    refine j_iload F (pc := 54) (i := 5) (by decide +kernel) rfl ?_
    refine j_if_eq F (pc := 56) (off := 9) (tgt := 65) (by decide +kernel) (by decide) (fun c => ?_) (fun c => ?_)
    · rw [if_pos c] at h
      refine j_sipush F (pc := 65) (n := 999) (v := 999) (by decide +kernel) (by decide +kernel) ?_
      refine j_iload F (pc := 68) (i := 4) (by decide +kernel) rfl ?_
      refine j_mmin F (pc := 70) ⟨m_654, m_655, m_88, m_656⟩ (by decide) (Nat.le_of_ble_eq_true rfl) (by decide +kernel) ?_
      exact j_iret (st := []) F Rt rfl (by decide +kernel) ⟨hρ, _, rfl, (congrArg Prod.fst (Option.some.inj h)).symm, (congrArg Prod.snd (Option.some.inj h)).symm⟩
    · rw [if_neg c] at h
      refine j_sipush F (pc := 59) (n := 999) (v := 999) (by decide +kernel) (by decide +kernel) ?_
      refine j_goto F (pc := 62) (off := 11) (tgt := 73) (by decide +kernel) (by decide) ?_
      exact j_iret (st := []) F Rt rfl (by decide +kernel) ⟨hρ, _, rfl, (congrArg Prod.fst (Option.some.inj h)).symm, (congrArg Prod.snd (Option.some.inj h)).symm⟩
/-- LastLent$Ship.lacksLeave -/
def f_X3_lacksLeave (o : Nat) (o1 : Nat) (x2 : Int32) (μ : z_M) : Option (Int32 × z_M) :=
  (if z_in x2 14 then (z_b2 (f_X4_bit ((μ.1 o1 6)) ((μ.1 (o + 3) x2.toNatClampNeg)) μ) fun r1 μ2 => (if r1 = (1 : Int32) then (z_b2 (f_X4_bit ((μ2.1 o 2)) (x2) μ2) fun r8 μ9 => (if r8 = 0 then (some ((1 : Int32), μ9)) else (some ((0 : Int32), μ9)))) else (some ((0 : Int32), μ2)))) else none)
set_option maxHeartbeats 4000000 in
set_option maxRecDepth 100000 in
theorem t_X3_lacksLeave {G : z_Gl} {ρ : Nat → Nat → Option Nat} {μ : z_M} {r : Int32} {μr : z_M} {o : Nat} {o1 : Nat} {x2 : Int32} (hρ : μ.2.2 = ρ) (hb : z_blk z_shipS z_shipR (z_sh G) ρ o) (hb1 : z_blk z_lawS z_lawR (z_sh G) ρ o1) (h : f_X3_lacksLeave o o1 x2 μ = some (r, μr)) : z_Ci G yX3_lacksLeave cX3_lacksLeave 3 (some .boolean) 1 [.ref o, .ref o1, .int x2] μ (fun r1 μ1 => r = r1 ∧ μr = μ1) := by
  unfold z_Ci
  refine z_intro (by decide +kernel) (Nat.le_of_ble_eq_true rfl) (fun E hE F Rt => ?_)
  subst hE
  have F : z_F E RX3 cX3_lacksLeave 3 1 := F
  rw [hρ] at Rt
  unfold f_X3_lacksLeave at h
  show z_J E 3 0 [some (.ref o), some (.ref o1), some (.int x2)] [] μ
  refine j_aload_n F (pc := 0) (q := 1) (by decide +kernel) rfl ?_
  refine j_getI F (pc := 1) fl_X3_90 (hb1.1 0 _ rfl) rfl (by decide +kernel) ?_
  refine j_aload_n F (pc := 4) (q := 0) (by decide +kernel) rfl ?_
  refine j_getR F (pc := 5) (hb.r hρ 5 rfl) fl_X3_18 (hb.1 0 _ rfl) rfl (by decide +kernel) ?_
  refine j_iload_n F (pc := 8) (q := 2) (by decide +kernel) rfl ?_
  obtain ⟨hg, h⟩ := z_ifs h
  refine j_iald F (pc := 9) (hb.1 3 _ rfl) hg (by decide +kernel) ?_
  obtain ⟨r1, μ2, hc4, h⟩ := z_b2_some h
  refine j_callNi F (pc := 10) (idx := 93) (As := [.int (μ.1 o1 6), .int (μ.1 (o + 3) x2.toNatClampNeg)]) (st := []) (t_X4_bit (G := E.1) hρ  hc4) q_X4_bit m_474 (by decide +kernel) rfl (by decide) (Nat.le_of_ble_eq_true rfl) rfl (by decide +kernel) (fun s7 ν5 hq6 hp => ?_)
  obtain ⟨rfl, rfl⟩ := hp
  have hρ3 : μ2.2.2 = ρ := hq6.trans hρ
  refine j_iconst F (pc := 13) (n := 1) (v := 1) (by decide +kernel) (by decide +kernel) ?_
  refine j_icmp_ne F (pc := 14) (off := 18) (tgt := 32) (by decide +kernel) (by decide) (fun c => ?_) (fun c => ?_)
  · rw [if_neg c] at h
    refine j_iconst F (pc := 32) (n := 0) (v := 0) (by decide +kernel) (by decide +kernel) ?_
    exact j_iret (st := []) F Rt rfl (by decide +kernel) ⟨hρ3, _, rfl, (congrArg Prod.fst (Option.some.inj h)).symm, (congrArg Prod.snd (Option.some.inj h)).symm⟩
  · rw [if_pos c] at h
    refine j_aload_n F (pc := 17) (q := 0) (by decide +kernel) rfl ?_
    refine j_getI F (pc := 18) fl_X3_49 (hb.1 0 _ rfl) rfl (by decide +kernel) ?_
    refine j_iload_n F (pc := 21) (q := 2) (by decide +kernel) rfl ?_
    obtain ⟨r8, μ9, hc11, h⟩ := z_b2_some h
    refine j_callNi F (pc := 22) (idx := 93) (As := [.int (μ2.1 o 2), .int x2]) (st := []) (t_X4_bit (G := E.1) hρ3  hc11) q_X4_bit m_474 (by decide +kernel) rfl (by decide) (Nat.le_of_ble_eq_true rfl) rfl (by decide +kernel) (fun s14 ν12 hq13 hp => ?_)
    obtain ⟨rfl, rfl⟩ := hp
    have hρ10 : μ9.2.2 = ρ := hq13.trans hρ3
    refine j_if_ne F (pc := 25) (off := 7) (tgt := 32) (by decide +kernel) (by decide) (fun c => ?_) (fun c => ?_)
    · rw [if_neg c] at h
      refine j_iconst F (pc := 32) (n := 0) (v := 0) (by decide +kernel) (by decide +kernel) ?_
      exact j_iret (st := []) F Rt rfl (by decide +kernel) ⟨hρ10, _, rfl, (congrArg Prod.fst (Option.some.inj h)).symm, (congrArg Prod.snd (Option.some.inj h)).symm⟩
    · rw [if_pos c] at h
      refine j_iconst F (pc := 28) (n := 1) (v := 1) (by decide +kernel) (by decide +kernel) ?_
      refine j_goto F (pc := 29) (off := 4) (tgt := 33) (by decide +kernel) (by decide) ?_
      exact j_iret (st := []) F Rt rfl (by decide +kernel) ⟨hρ10, _, rfl, (congrArg Prod.fst (Option.some.inj h)).symm, (congrArg Prod.snd (Option.some.inj h)).symm⟩
def g_X3_whyDead_53 (o : Nat) (o1 : Nat)  (x3 : Int32) (μ : z_M) : Option (Int32 × z_M) :=
  (z_b2 (f_X3_lacksLeave (o) (o1) (x3) μ) fun r8 μ9 => (some ((if r8 = 0 then (0 : Int32) else (4 : Int32)), μ9)))
def f_X3_whyDead (o : Nat) (o1 : Nat) (x2 : Int32) (x3 : Int32) (μ : z_M) : Option (Int32 × z_M) :=
  (if z_in x3 14 then (if (μ.1 (o + 5) x3.toNatClampNeg) ≤ x2 then (z_b2 (f_X3_lastUnbarred (o) (o1) (x3) μ) fun r1 μ2 => (if x2 ≤ r1 then (if (μ2.1 o1 12) = 0 then (g_X3_whyDead_53 o o1  (x3) μ2) else (if z_in x3 14 then (if (μ2.1 (o + 8) x3.toNatClampNeg) = (-1 : Int32) then (some ((3 : Int32), μ2)) else (if z_in x3 14 then (if (μ2.1 (o + 8) x3.toNatClampNeg) ≤ x2 then (g_X3_whyDead_53 o o1  (x3) μ2) else (some ((3 : Int32), μ2))) else none)) else none)) else (some ((2 : Int32), μ2)))) else (some ((1 : Int32), μ))) else none)
set_option maxHeartbeats 4000000 in
set_option maxRecDepth 100000 in
theorem u_X3_whyDead_53 {E : z_E} {ρ : Nat → Nat → Option Nat} {r : Int32} {μr : z_M} (F : z_F E RX3 cX3_whyDead 4 2) (Rt : z_R E (some .int) (fun v μ1 => μ1.2.2 = ρ ∧ ∃ r1, v = some (.int r1) ∧ r = r1 ∧ μr = μ1)) {o : Nat} {o1 : Nat} (hb : z_blk z_shipS z_shipR (z_sh E.1) ρ o) (hb1 : z_blk z_lawS z_lawR (z_sh E.1) ρ o1) : ∀ (x3 : Int32) (μ : z_M), μ.2.2 = ρ → g_X3_whyDead_53 o o1  x3 μ = some (r, μr) → z_J E 4 53 [some (.ref o), some (.ref o1), none, some (.int x3)] [] μ := by
  intro x3 μ hρ h
  unfold g_X3_whyDead_53 at h
  refine j_aload_n F (pc := 53) (q := 0) (by decide +kernel) rfl ?_
  refine j_aload_n F (pc := 54) (q := 1) (by decide +kernel) rfl ?_
  refine j_iload_n F (pc := 55) (q := 3) (by decide +kernel) rfl ?_
  obtain ⟨r8, μ9, hc11, h⟩ := z_b2_some h
  refine j_callVi F (pc := 56) (idx := 74) (As := [.ref o1, .int x3]) (st := []) (t_X3_lacksLeave (G := E.1) hρ hb hb1 hc11) q_X3_lacksLeave v_X3_lacksLeave m_657 (hb.1 0 _ rfl) rfl rfl (by decide) (Nat.le_of_ble_eq_true rfl) rfl (by decide +kernel) (fun s14 ν12 hq13 hp => ?_)
  obtain ⟨rfl, rfl⟩ := hp
  have hρ10 : μ9.2.2 = ρ := hq13.trans hρ
  suffices hj : z_J E 4 67 [some (.ref o), some (.ref o1), none, some (.int x3)] (.int (if r8 = 0 then (0 : Int32) else (4 : Int32)) :: []) μ9 by
    refine j_if_eq F (pc := 59) (off := 7) (tgt := 66) (by decide +kernel) (by decide) (fun c0 => ?_) (fun c0 => ?_)
    · rw [if_pos c0] at hj
      refine j_iconst F (pc := 66) (n := 0) (v := 0) (by decide +kernel) (by decide +kernel) ?_
      exact hj
    · rw [if_neg c0] at hj
      refine j_iconst F (pc := 62) (n := 4) (v := 4) (by decide +kernel) (by decide +kernel) ?_
      refine j_goto F (pc := 63) (off := 4) (tgt := 67) (by decide +kernel) (by decide) ?_
      exact hj
  exact j_iret (st := []) F Rt rfl (by decide +kernel) ⟨hρ10, _, rfl, (congrArg Prod.fst (Option.some.inj h)).symm, (congrArg Prod.snd (Option.some.inj h)).symm⟩
set_option maxHeartbeats 4000000 in
set_option maxRecDepth 100000 in
theorem t_X3_whyDead {G : z_Gl} {ρ : Nat → Nat → Option Nat} {μ : z_M} {r : Int32} {μr : z_M} {o : Nat} {o1 : Nat} {x2 : Int32} {x3 : Int32} (hρ : μ.2.2 = ρ) (hb : z_blk z_shipS z_shipR (z_sh G) ρ o) (hb1 : z_blk z_lawS z_lawR (z_sh G) ρ o1) (h : f_X3_whyDead o o1 x2 x3 μ = some (r, μr)) : z_Ci G yX3_whyDead cX3_whyDead 4 (some .int) 2 [.ref o, .ref o1, .int x2, .int x3] μ (fun r1 μ1 => r = r1 ∧ μr = μ1) := by
  unfold z_Ci
  refine z_intro (by decide +kernel) (Nat.le_of_ble_eq_true rfl) (fun E hE F Rt => ?_)
  subst hE
  have F : z_F E RX3 cX3_whyDead 4 2 := F
  rw [hρ] at Rt
  unfold f_X3_whyDead at h
  show z_J E 4 0 [some (.ref o), some (.ref o1), some (.int x2), some (.int x3)] [] μ
  refine j_aload_n F (pc := 0) (q := 0) (by decide +kernel) rfl ?_
  refine j_getR F (pc := 1) (hb.r hρ 7 rfl) fl_X3_24 (hb.1 0 _ rfl) rfl (by decide +kernel) ?_
  refine j_iload_n F (pc := 4) (q := 3) (by decide +kernel) rfl ?_
  obtain ⟨hg, h⟩ := z_ifs h
  refine j_iald F (pc := 5) (hb.1 5 _ rfl) hg (by decide +kernel) ?_
  refine j_iload_n F (pc := 6) (q := 2) (by decide +kernel) rfl ?_
  refine j_icmp_le F (pc := 7) (off := 5) (tgt := 12) (by decide +kernel) (by decide) (fun c => ?_) (fun c => ?_)
  · rw [if_pos c] at h
    refine j_iload_n F (pc := 12) (q := 2) (by decide +kernel) rfl ?_
    refine j_aload_n F (pc := 13) (q := 0) (by decide +kernel) rfl ?_
    refine j_aload_n F (pc := 14) (q := 1) (by decide +kernel) rfl ?_
    refine j_iload_n F (pc := 15) (q := 3) (by decide +kernel) rfl ?_
    obtain ⟨r1, μ2, hc4, h⟩ := z_b2_some h
    refine j_callVi F (pc := 16) (idx := 66) (As := [.ref o1, .int x3]) (st := [.int x2]) (t_X3_lastUnbarred (G := E.1) hρ hb hb1 hc4) q_X3_lastUnbarred v_X3_lastUnbarred m_650 (hb.1 0 _ rfl) rfl rfl (by decide) (Nat.le_of_ble_eq_true rfl) rfl (by decide +kernel) (fun s7 ν5 hq6 hp => ?_)
    obtain ⟨rfl, rfl⟩ := hp
    have hρ3 : μ2.2.2 = ρ := hq6.trans hρ
    refine j_icmp_le F (pc := 19) (off := 5) (tgt := 24) (by decide +kernel) (by decide) (fun c => ?_) (fun c => ?_)
    · rw [if_pos c] at h
      refine j_aload_n F (pc := 24) (q := 1) (by decide +kernel) rfl ?_
      refine j_getI F (pc := 25) fl_X3_70 (hb1.1 0 _ rfl) rfl (by decide +kernel) ?_
      refine j_if_eq F (pc := 28) (off := 25) (tgt := 53) (by decide +kernel) (by decide) (fun c => ?_) (fun c => ?_)
      · rw [if_pos c] at h
        refine j_mk F [true, true, false, true] (L' := [some (.ref o), some (.ref o1), none, some (.int x3)]) rfl ?_
        refine u_X3_whyDead_53 F Rt hb hb1  _ _ hρ3 h
      · rw [if_neg c] at h
        refine j_aload_n F (pc := 31) (q := 0) (by decide +kernel) rfl ?_
        refine j_getR F (pc := 32) (hb.r hρ3 10 rfl) fl_X3_33 (hb.1 0 _ rfl) rfl (by decide +kernel) ?_
        refine j_iload_n F (pc := 35) (q := 3) (by decide +kernel) rfl ?_
        obtain ⟨hg, h⟩ := z_ifs h
        refine j_iald F (pc := 36) (hb.1 8 _ rfl) hg (by decide +kernel) ?_
        refine j_iconst F (pc := 37) (n := -1) (v := -1) (by decide +kernel) (by decide +kernel) ?_
        refine j_icmp_eq F (pc := 38) (off := 13) (tgt := 51) (by decide +kernel) (by decide) (fun c => ?_) (fun c => ?_)
        · rw [if_pos c] at h
          refine j_iconst F (pc := 51) (n := 3) (v := 3) (by decide +kernel) (by decide +kernel) ?_
          exact j_iret (st := []) F Rt rfl (by decide +kernel) ⟨hρ3, _, rfl, (congrArg Prod.fst (Option.some.inj h)).symm, (congrArg Prod.snd (Option.some.inj h)).symm⟩
        · rw [if_neg c] at h
          refine j_aload_n F (pc := 41) (q := 0) (by decide +kernel) rfl ?_
          refine j_getR F (pc := 42) (hb.r hρ3 10 rfl) fl_X3_33 (hb.1 0 _ rfl) rfl (by decide +kernel) ?_
          refine j_iload_n F (pc := 45) (q := 3) (by decide +kernel) rfl ?_
          obtain ⟨hg, h⟩ := z_ifs h
          refine j_iald F (pc := 46) (hb.1 8 _ rfl) hg (by decide +kernel) ?_
          refine j_iload_n F (pc := 47) (q := 2) (by decide +kernel) rfl ?_
          refine j_icmp_le F (pc := 48) (off := 5) (tgt := 53) (by decide +kernel) (by decide) (fun c => ?_) (fun c => ?_)
          · rw [if_pos c] at h
            refine j_mk F [true, true, false, true] (L' := [some (.ref o), some (.ref o1), none, some (.int x3)]) rfl ?_
            refine u_X3_whyDead_53 F Rt hb hb1  _ _ hρ3 h
          · rw [if_neg c] at h
            refine j_iconst F (pc := 51) (n := 3) (v := 3) (by decide +kernel) (by decide +kernel) ?_
            exact j_iret (st := []) F Rt rfl (by decide +kernel) ⟨hρ3, _, rfl, (congrArg Prod.fst (Option.some.inj h)).symm, (congrArg Prod.snd (Option.some.inj h)).symm⟩
    · rw [if_neg c] at h
      refine j_iconst F (pc := 22) (n := 2) (v := 2) (by decide +kernel) (by decide +kernel) ?_
      exact j_iret (st := []) F Rt rfl (by decide +kernel) ⟨hρ3, _, rfl, (congrArg Prod.fst (Option.some.inj h)).symm, (congrArg Prod.snd (Option.some.inj h)).symm⟩
  · rw [if_neg c] at h
    refine j_iconst F (pc := 10) (n := 1) (v := 1) (by decide +kernel) (by decide +kernel) ?_
    exact j_iret (st := []) F Rt rfl (by decide +kernel) ⟨hρ, _, rfl, (congrArg Prod.fst (Option.some.inj h)).symm, (congrArg Prod.snd (Option.some.inj h)).symm⟩
/-- LastLent.lives -/
def f_X4_lives (x1 : Int32) (x2 : Int32) (x3 : Int32) (μ : z_M) : Option (Int32 × z_M) :=
  (z_b2 (f_X4_isLand (x1) μ) fun r1 μ2 => (if r1 = 0 then (some ((-1001 : Int32), μ2)) else (z_b2 (f_X4_isClaim (x3) μ2) fun r8 μ9 => (if r8 = 0 then (some ((-1001 : Int32), μ9)) else (z_b2 (f_X4_isDay (x2) μ9) fun r15 μ16 => (if r15 = 0 then (some ((-1002 : Int32), μ16)) else (if z_in x1 4 then ((μ16.2.2 1 x1.toNatClampNeg).bind fun r22 => (z_b2 (f_X3_whyDead (4) (r22) (x2) (x3) μ16) fun r25 μ26 => (some (r25, μ26)))) else none)))))))
set_option maxHeartbeats 4000000 in
set_option maxRecDepth 100000 in
theorem t_X4_lives {G : z_Gl} {ρ : Nat → Nat → Option Nat} {μ : z_M} {r : Int32} {μr : z_M} {x1 : Int32} {x2 : Int32} {x3 : Int32} (hρ : μ.2.2 = ρ) (hk : z_ok (z_sh G) ρ) (h : f_X4_lives x1 x2 x3 μ = some (r, μr)) : z_Ci G yX4_lives cX4_lives 4 (some .int) 3 [.ref 0, .int x1, .int x2, .int x3] μ (fun r1 μ1 => r = r1 ∧ μr = μ1) := by
  unfold z_Ci
  refine z_intro (by decide +kernel) (Nat.le_of_ble_eq_true rfl) (fun E hE F Rt => ?_)
  subst hE
  have F : z_F E RX4 cX4_lives 4 3 := F
  rw [hρ] at Rt
  unfold f_X4_lives at h
  show z_J E 4 0 [some (.ref 0), some (.int x1), some (.int x2), some (.int x3)] [] μ
  refine j_iload_n F (pc := 0) (q := 1) (by decide +kernel) rfl ?_
  obtain ⟨r1, μ2, hc4, h⟩ := z_b2_some h
  refine j_callSi F (pc := 1) (idx := 67) (As := [.int x1]) (st := []) (t_X4_isLand (G := E.1) hρ  hc4) q_X4_isLand m_387 m_386 rfl (by decide) (Nat.le_of_ble_eq_true rfl) rfl (by decide +kernel) (fun s7 ν5 hq6 hp => ?_)
  obtain ⟨rfl, rfl⟩ := hp
  have hρ3 : μ2.2.2 = ρ := hq6.trans hρ
  refine j_if_eq F (pc := 4) (off := 11) (tgt := 15) (by decide +kernel) (by decide) (fun c => ?_) (fun c => ?_)
  · rw [if_pos c] at h
    refine j_sipush F (pc := 15) (n := -1001) (v := -1001) (by decide +kernel) (by decide +kernel) ?_
    exact j_iret (st := []) F Rt rfl (by decide +kernel) ⟨hρ3, _, rfl, (congrArg Prod.fst (Option.some.inj h)).symm, (congrArg Prod.snd (Option.some.inj h)).symm⟩
  · rw [if_neg c] at h
    refine j_aload_n F (pc := 7) (q := 0) (by decide +kernel) rfl ?_
    refine j_iload_n F (pc := 8) (q := 3) (by decide +kernel) rfl ?_
    obtain ⟨r8, μ9, hc11, h⟩ := z_b2_some h
    refine j_callVi F (pc := 9) (idx := 148) (As := [.int x3]) (st := []) (t_X4_isClaim (G := E.1) hρ3 hk hc11) q_X4_isClaim v_X4_isClaim m_605 (hk.s c_0) rfl rfl (by decide) (Nat.le_of_ble_eq_true rfl) rfl (by decide +kernel) (fun s14 ν12 hq13 hp => ?_)
    obtain ⟨rfl, rfl⟩ := hp
    have hρ10 : μ9.2.2 = ρ := hq13.trans hρ3
    refine j_if_ne F (pc := 12) (off := 7) (tgt := 19) (by decide +kernel) (by decide) (fun c => ?_) (fun c => ?_)
    · rw [if_neg c] at h
      refine j_iload_n F (pc := 19) (q := 2) (by decide +kernel) rfl ?_
      obtain ⟨r15, μ16, hc18, h⟩ := z_b2_some h
      refine j_callSi F (pc := 20) (idx := 131) (As := [.int x2]) (st := []) (t_X4_isDay (G := E.1) hρ10  hc18) q_X4_isDay m_580 m_579 rfl (by decide) (Nat.le_of_ble_eq_true rfl) rfl (by decide +kernel) (fun s21 ν19 hq20 hp => ?_)
      obtain ⟨rfl, rfl⟩ := hp
      have hρ17 : μ16.2.2 = ρ := hq20.trans hρ10
      refine j_if_ne F (pc := 23) (off := 7) (tgt := 30) (by decide +kernel) (by decide) (fun c => ?_) (fun c => ?_)
      · rw [if_neg c] at h
        refine j_aload_n F (pc := 30) (q := 0) (by decide +kernel) rfl ?_
        refine j_getR F (pc := 31) (hk.r hρ17 r_0_2) fl_X4_25 (hk.s c_0) rfl (by decide +kernel) ?_
        refine j_aload_n F (pc := 34) (q := 0) (by decide +kernel) rfl ?_
        refine j_getR F (pc := 35) (hk.r hρ17 r_0_0) fl_X4_11 (hk.s c_0) rfl (by decide +kernel) ?_
        refine j_iload_n F (pc := 38) (q := 1) (by decide +kernel) rfl ?_
        obtain ⟨hg, h⟩ := z_ifs h
        obtain ⟨r22, hr23, h⟩ := Option.bind_eq_some_iff.mp h
        have hb24 := hk.lawsAt hρ17 hr23
        refine j_aald F (pc := 39) (hk.s c_1) (by decide) hg hr23 (by decide +kernel) ?_
        refine j_iload_n F (pc := 40) (q := 2) (by decide +kernel) rfl ?_
        refine j_iload_n F (pc := 41) (q := 3) (by decide +kernel) rfl ?_
        obtain ⟨r25, μ26, hc28, h⟩ := z_b2_some h
        refine j_callVi F (pc := 42) (idx := 198) (As := [.ref r22, .int x2, .int x3]) (st := []) (t_X3_whyDead (G := E.1) hρ17 (hk.shipB (by decide : 4 ∈ z_SHIPS)) hb24 hc28) q_X3_whyDead v_X3_whyDead m_646 ((hk.shipB (by decide : 4 ∈ z_SHIPS)).1 0 _ rfl) rfl rfl (by decide) (Nat.le_of_ble_eq_true rfl) rfl (by decide +kernel) (fun s31 ν29 hq30 hp => ?_)
        obtain ⟨rfl, rfl⟩ := hp
        have hρ27 : μ26.2.2 = ρ := hq30.trans hρ17
        exact j_iret (st := []) F Rt rfl (by decide +kernel) ⟨hρ27, _, rfl, (congrArg Prod.fst (Option.some.inj h)).symm, (congrArg Prod.snd (Option.some.inj h)).symm⟩
      · rw [if_pos c] at h
        refine j_sipush F (pc := 26) (n := -1002) (v := -1002) (by decide +kernel) (by decide +kernel) ?_
        exact j_iret (st := []) F Rt rfl (by decide +kernel) ⟨hρ17, _, rfl, (congrArg Prod.fst (Option.some.inj h)).symm, (congrArg Prod.snd (Option.some.inj h)).symm⟩
    · rw [if_pos c] at h
      refine j_sipush F (pc := 15) (n := -1001) (v := -1001) (by decide +kernel) (by decide +kernel) ?_
      exact j_iret (st := []) F Rt rfl (by decide +kernel) ⟨hρ10, _, rfl, (congrArg Prod.fst (Option.some.inj h)).symm, (congrArg Prod.snd (Option.some.inj h)).symm⟩
def g_X3_lastAlive_59 (o : Nat) (o1 : Nat)  (x2 : Int32) (xs0 : Int32) (μ : z_M) : Option (Int32 × z_M) :=
  (z_b2 (f_X3_lastUnbarred (o) (o1) (x2) μ) fun r8 μ9 => (some ((if r8 < xs0 then (-1 : Int32) else r8), μ9)))
def g_X3_lastAlive_28 (o : Nat) (o1 : Nat)  (x2 : Int32) (μ : z_M) : Option (Int32 × z_M) :=
  (if (μ.1 o1 12) = 0 then (if z_in x2 14 then (g_X3_lastAlive_59 o o1  (x2) ((μ.1 (o + 5) x2.toNatClampNeg)) μ) else none) else (if z_in x2 14 then (if z_in x2 14 then (g_X3_lastAlive_59 o o1  (x2) ((if (μ.1 (o + 5) x2.toNatClampNeg) < (μ.1 (o + 8) x2.toNatClampNeg) then (μ.1 (o + 8) x2.toNatClampNeg) else (μ.1 (o + 5) x2.toNatClampNeg))) μ) else none) else none))
def f_X3_lastAlive (o : Nat) (o1 : Nat) (x2 : Int32) (μ : z_M) : Option (Int32 × z_M) :=
  (z_b2 (f_X3_lacksLeave (o) (o1) (x2) μ) fun r1 μ2 => (if r1 = 0 then (if (μ2.1 o1 12) = 0 then (g_X3_lastAlive_28 o o1  (x2) μ2) else (if z_in x2 14 then (if (μ2.1 (o + 8) x2.toNatClampNeg) = (-1 : Int32) then (some ((-1 : Int32), μ2)) else (g_X3_lastAlive_28 o o1  (x2) μ2)) else none)) else (some ((-1 : Int32), μ2))))
set_option maxHeartbeats 4000000 in
set_option maxRecDepth 100000 in
theorem u_X3_lastAlive_59 {E : z_E} {ρ : Nat → Nat → Option Nat} {r : Int32} {μr : z_M} (F : z_F E RX3 cX3_lastAlive 5 2) (Rt : z_R E (some .int) (fun v μ1 => μ1.2.2 = ρ ∧ ∃ r1, v = some (.int r1) ∧ r = r1 ∧ μr = μ1)) {o : Nat} {o1 : Nat} (hb : z_blk z_shipS z_shipR (z_sh E.1) ρ o) (hb1 : z_blk z_lawS z_lawR (z_sh E.1) ρ o1) : ∀ (x2 : Int32) (xs0 : Int32) (μ : z_M), μ.2.2 = ρ → g_X3_lastAlive_59 o o1  x2 xs0 μ = some (r, μr) → z_J E 5 59 [some (.ref o), some (.ref o1), some (.int x2), none, none] [.int xs0] μ := by
  intro x2 xs0 μ hρ h
  unfold g_X3_lastAlive_59 at h
  refine j_istore_n F (pc := 59) (q := 3) (L' := [some (.ref o), some (.ref o1), some (.int x2), some (.int xs0), none]) (by decide +kernel) (by decide) rfl rfl ?_
  refine j_aload_n F (pc := 60) (q := 0) (by decide +kernel) rfl ?_
  refine j_aload_n F (pc := 61) (q := 1) (by decide +kernel) rfl ?_
  refine j_iload_n F (pc := 62) (q := 2) (by decide +kernel) rfl ?_
  obtain ⟨r8, μ9, hc11, h⟩ := z_b2_some h
  refine j_callVi F (pc := 63) (idx := 66) (As := [.ref o1, .int x2]) (st := []) (t_X3_lastUnbarred (G := E.1) hρ hb hb1 hc11) q_X3_lastUnbarred v_X3_lastUnbarred m_650 (hb.1 0 _ rfl) rfl rfl (by decide) (Nat.le_of_ble_eq_true rfl) rfl (by decide +kernel) (fun s14 ν12 hq13 hp => ?_)
  obtain ⟨rfl, rfl⟩ := hp
  have hρ10 : μ9.2.2 = ρ := hq13.trans hρ
  refine j_istore F (pc := 66) (i := 4) (L' := [some (.ref o), some (.ref o1), some (.int x2), some (.int xs0), some (.int r8)]) (by decide +kernel) (by decide) rfl rfl ?_
  refine j_iload_n F (pc := 68) (q := 3) (by decide +kernel) rfl ?_
  refine j_iload F (pc := 69) (i := 4) (by decide +kernel) rfl ?_
  suffices hj : z_J E 5 80 [some (.ref o), some (.ref o1), some (.int x2), some (.int xs0), some (.int r8)] (.int (if r8 < xs0 then (-1 : Int32) else r8) :: []) μ9 by
    refine j_icmp_gt F (pc := 71) (off := 8) (tgt := 79) (by decide +kernel) (by decide) (fun c0 => ?_) (fun c0 => ?_)
    · rw [if_pos c0] at hj
      refine j_iconst F (pc := 79) (n := -1) (v := -1) (by decide +kernel) (by decide +kernel) ?_
      exact hj
    · rw [if_neg c0] at hj
      refine j_iload F (pc := 74) (i := 4) (by decide +kernel) rfl ?_
      refine j_goto F (pc := 76) (off := 4) (tgt := 80) (by decide +kernel) (by decide) ?_
      exact hj
  exact j_iret (st := []) F Rt rfl (by decide +kernel) ⟨hρ10, _, rfl, (congrArg Prod.fst (Option.some.inj h)).symm, (congrArg Prod.snd (Option.some.inj h)).symm⟩
set_option maxHeartbeats 4000000 in
set_option maxRecDepth 100000 in
theorem u_X3_lastAlive_28 {E : z_E} {ρ : Nat → Nat → Option Nat} {r : Int32} {μr : z_M} (F : z_F E RX3 cX3_lastAlive 5 2) (Rt : z_R E (some .int) (fun v μ1 => μ1.2.2 = ρ ∧ ∃ r1, v = some (.int r1) ∧ r = r1 ∧ μr = μ1)) {o : Nat} {o1 : Nat} (hb : z_blk z_shipS z_shipR (z_sh E.1) ρ o) (hb1 : z_blk z_lawS z_lawR (z_sh E.1) ρ o1) : ∀ (x2 : Int32) (μ : z_M), μ.2.2 = ρ → g_X3_lastAlive_28 o o1  x2 μ = some (r, μr) → z_J E 5 28 [some (.ref o), some (.ref o1), some (.int x2), none, none] [] μ := by
  intro x2 μ hρ h
  unfold g_X3_lastAlive_28 at h
  refine j_aload_n F (pc := 28) (q := 1) (by decide +kernel) rfl ?_
  refine j_getI F (pc := 29) fl_X3_70 (hb1.1 0 _ rfl) rfl (by decide +kernel) ?_
  refine j_if_eq F (pc := 32) (off := 21) (tgt := 53) (by decide +kernel) (by decide) (fun c => ?_) (fun c => ?_)
  · rw [if_pos c] at h
    refine j_aload_n F (pc := 53) (q := 0) (by decide +kernel) rfl ?_
    refine j_getR F (pc := 54) (hb.r hρ 7 rfl) fl_X3_24 (hb.1 0 _ rfl) rfl (by decide +kernel) ?_
    refine j_iload_n F (pc := 57) (q := 2) (by decide +kernel) rfl ?_
    obtain ⟨hg, h⟩ := z_ifs h
    refine j_iald F (pc := 58) (hb.1 5 _ rfl) hg (by decide +kernel) ?_
    refine u_X3_lastAlive_59 F Rt hb hb1  _ _ _ hρ h
  · rw [if_neg c] at h
    refine j_aload_n F (pc := 35) (q := 0) (by decide +kernel) rfl ?_
    refine j_getR F (pc := 36) (hb.r hρ 7 rfl) fl_X3_24 (hb.1 0 _ rfl) rfl (by decide +kernel) ?_
    refine j_iload_n F (pc := 39) (q := 2) (by decide +kernel) rfl ?_
    obtain ⟨hg, h⟩ := z_ifs h
    refine j_iald F (pc := 40) (hb.1 5 _ rfl) hg (by decide +kernel) ?_
    refine j_aload_n F (pc := 41) (q := 0) (by decide +kernel) rfl ?_
    refine j_getR F (pc := 42) (hb.r hρ 10 rfl) fl_X3_33 (hb.1 0 _ rfl) rfl (by decide +kernel) ?_
    refine j_iload_n F (pc := 45) (q := 2) (by decide +kernel) rfl ?_
    obtain ⟨hg, h⟩ := z_ifs h
    refine j_iald F (pc := 46) (hb.1 8 _ rfl) hg (by decide +kernel) ?_
    refine j_mmax F (pc := 47) ⟨m_670, m_552, m_88, m_553⟩ (by decide) (Nat.le_of_ble_eq_true rfl) (by decide +kernel) ?_
    refine j_goto F (pc := 50) (off := 9) (tgt := 59) (by decide +kernel) (by decide) ?_
    refine u_X3_lastAlive_59 F Rt hb hb1  _ _ _ hρ h
set_option maxHeartbeats 4000000 in
set_option maxRecDepth 100000 in
theorem t_X3_lastAlive {G : z_Gl} {ρ : Nat → Nat → Option Nat} {μ : z_M} {r : Int32} {μr : z_M} {o : Nat} {o1 : Nat} {x2 : Int32} (hρ : μ.2.2 = ρ) (hb : z_blk z_shipS z_shipR (z_sh G) ρ o) (hb1 : z_blk z_lawS z_lawR (z_sh G) ρ o1) (h : f_X3_lastAlive o o1 x2 μ = some (r, μr)) : z_Ci G yX3_lastAlive cX3_lastAlive 5 (some .int) 2 [.ref o, .ref o1, .int x2] μ (fun r1 μ1 => r = r1 ∧ μr = μ1) := by
  unfold z_Ci
  refine z_intro (by decide +kernel) (Nat.le_of_ble_eq_true rfl) (fun E hE F Rt => ?_)
  subst hE
  have F : z_F E RX3 cX3_lastAlive 5 2 := F
  rw [hρ] at Rt
  unfold f_X3_lastAlive at h
  show z_J E 5 0 [some (.ref o), some (.ref o1), some (.int x2), none, none] [] μ
  refine j_aload_n F (pc := 0) (q := 0) (by decide +kernel) rfl ?_
  refine j_aload_n F (pc := 1) (q := 1) (by decide +kernel) rfl ?_
  refine j_iload_n F (pc := 2) (q := 2) (by decide +kernel) rfl ?_
  obtain ⟨r1, μ2, hc4, h⟩ := z_b2_some h
  refine j_callVi F (pc := 3) (idx := 74) (As := [.ref o1, .int x2]) (st := []) (t_X3_lacksLeave (G := E.1) hρ hb hb1 hc4) q_X3_lacksLeave v_X3_lacksLeave m_657 (hb.1 0 _ rfl) rfl rfl (by decide) (Nat.le_of_ble_eq_true rfl) rfl (by decide +kernel) (fun s7 ν5 hq6 hp => ?_)
  obtain ⟨rfl, rfl⟩ := hp
  have hρ3 : μ2.2.2 = ρ := hq6.trans hρ
  refine j_if_ne F (pc := 6) (off := 20) (tgt := 26) (by decide +kernel) (by decide) (fun c => ?_) (fun c => ?_)
  · rw [if_neg c] at h
    refine j_iconst F (pc := 26) (n := -1) (v := -1) (by decide +kernel) (by decide +kernel) ?_
    exact j_iret (st := []) F Rt rfl (by decide +kernel) ⟨hρ3, _, rfl, (congrArg Prod.fst (Option.some.inj h)).symm, (congrArg Prod.snd (Option.some.inj h)).symm⟩
  · rw [if_pos c] at h
    refine j_aload_n F (pc := 9) (q := 1) (by decide +kernel) rfl ?_
    refine j_getI F (pc := 10) fl_X3_70 (hb1.1 0 _ rfl) rfl (by decide +kernel) ?_
    refine j_if_eq F (pc := 13) (off := 15) (tgt := 28) (by decide +kernel) (by decide) (fun c => ?_) (fun c => ?_)
    · rw [if_pos c] at h
      refine u_X3_lastAlive_28 F Rt hb hb1  _ _ hρ3 h
    · rw [if_neg c] at h
      refine j_aload_n F (pc := 16) (q := 0) (by decide +kernel) rfl ?_
      refine j_getR F (pc := 17) (hb.r hρ3 10 rfl) fl_X3_33 (hb.1 0 _ rfl) rfl (by decide +kernel) ?_
      refine j_iload_n F (pc := 20) (q := 2) (by decide +kernel) rfl ?_
      obtain ⟨hg, h⟩ := z_ifs h
      refine j_iald F (pc := 21) (hb.1 8 _ rfl) hg (by decide +kernel) ?_
      refine j_iconst F (pc := 22) (n := -1) (v := -1) (by decide +kernel) (by decide +kernel) ?_
      refine j_icmp_ne F (pc := 23) (off := 5) (tgt := 28) (by decide +kernel) (by decide) (fun c => ?_) (fun c => ?_)
      · rw [if_neg c] at h
        refine u_X3_lastAlive_28 F Rt hb hb1  _ _ hρ3 h
      · rw [if_pos c] at h
        refine j_iconst F (pc := 26) (n := -1) (v := -1) (by decide +kernel) (by decide +kernel) ?_
        exact j_iret (st := []) F Rt rfl (by decide +kernel) ⟨hρ3, _, rfl, (congrArg Prod.fst (Option.some.inj h)).symm, (congrArg Prod.snd (Option.some.inj h)).symm⟩
