/-! functions and contracts, written by wip/whole/dec.py -/
/-- LastLent.isWay -/
def f_X4_isWay (x0 : Int32) (μ : z_M) : Option (Int32 × z_M) :=
  (some ((if x0 < 0 then (0 : Int32) else (if (2 : Int32) ≤ x0 then (0 : Int32) else (1 : Int32))), μ))
set_option maxHeartbeats 4000000 in
set_option maxRecDepth 100000 in
theorem t_X4_isWay {G : z_Gl} {ρ : Nat → Nat → Option Nat} {μ : z_M} {r : Int32} {μr : z_M} {x0 : Int32} (hρ : μ.2.2 = ρ)  (h : f_X4_isWay x0 μ = some (r, μr)) : z_Ci G yX4_isWay cX4_isWay 1 (some .boolean) 0 [.int x0] μ (fun r1 μ1 => r = r1 ∧ μr = μ1) := by
  unfold z_Ci
  refine z_intro (by decide +kernel) (Nat.le_of_ble_eq_true rfl) (fun E hE F Rt => ?_)
  subst hE
  have F : z_F E RX4 cX4_isWay 1 0 := F
  rw [hρ] at Rt
  unfold f_X4_isWay at h
  show z_J E 1 0 [some (.int x0)] [] μ
  refine j_iload_n F (pc := 0) (q := 0) (by decide +kernel) rfl ?_
  suffices hj : z_J E 1 14 [some (.int x0)] (.int (if x0 < 0 then (0 : Int32) else (if (2 : Int32) ≤ x0 then (0 : Int32) else (1 : Int32))) :: []) μ by
    refine j_if_lt F (pc := 1) (off := 12) (tgt := 13) (by decide +kernel) (by decide) (fun c0 => ?_) (fun c0 => ?_)
    · rw [if_pos c0] at hj
      refine j_iconst F (pc := 13) (n := 0) (v := 0) (by decide +kernel) (by decide +kernel) ?_
      exact hj
    · rw [if_neg c0] at hj
      refine j_iload_n F (pc := 4) (q := 0) (by decide +kernel) rfl ?_
      refine j_iconst F (pc := 5) (n := 2) (v := 2) (by decide +kernel) (by decide +kernel) ?_
      refine j_icmp_ge F (pc := 6) (off := 7) (tgt := 13) (by decide +kernel) (by decide) (fun c1 => ?_) (fun c1 => ?_)
      · rw [if_pos c1] at hj
        refine j_iconst F (pc := 13) (n := 0) (v := 0) (by decide +kernel) (by decide +kernel) ?_
        exact hj
      · rw [if_neg c1] at hj
        refine j_iconst F (pc := 9) (n := 1) (v := 1) (by decide +kernel) (by decide +kernel) ?_
        refine j_goto F (pc := 10) (off := 4) (tgt := 14) (by decide +kernel) (by decide) ?_
        exact hj
  exact j_iret (st := []) F Rt (z_nb (by repeat' (first | exact Or.inl rfl | exact Or.inr rfl | split))) (by decide +kernel) ⟨hρ, _, rfl, (congrArg Prod.fst (Option.some.inj h)).symm, (congrArg Prod.snd (Option.some.inj h)).symm⟩
/-- LastLent.copyRow -/
def f_X4_copyRow (a0 : Nat) (n0 : Nat) (a1 : Nat) (n1 : Nat) (μ : z_M) : Option z_M :=
  (if (¬ (0 : Int32) < 0) ∧ (¬ (0 : Int32) < 0) ∧ (¬ (if (Int32.ofNat n1) < (Int32.ofNat n0) then (Int32.ofNat n1) else (Int32.ofNat n0)) < 0) ∧ ((0 : Int32).toNatClampNeg + (if (Int32.ofNat n1) < (Int32.ofNat n0) then (Int32.ofNat n1) else (Int32.ofNat n0)).toNatClampNeg ≤ n0) ∧ ((0 : Int32).toNatClampNeg + (if (Int32.ofNat n1) < (Int32.ofNat n0) then (Int32.ofNat n1) else (Int32.ofNat n0)).toNatClampNeg ≤ n1) then (z_st (z_sw μ a1 (va_cpy (μ.1 a0) (μ.1 a1) (0 : Int32).toNatClampNeg (0 : Int32).toNatClampNeg (if (Int32.ofNat n1) < (Int32.ofNat n0) then (Int32.ofNat n1) else (Int32.ofNat n0)).toNatClampNeg)) fun μ1 => (some μ1)) else none)
set_option maxHeartbeats 4000000 in
set_option maxRecDepth 100000 in
theorem t_X4_copyRow {G : z_Gl} {ρ : Nat → Nat → Option Nat} {μ : z_M} {μr : z_M} {a0 : Nat} {n0 : Nat} {a1 : Nat} {n1 : Nat} (hρ : μ.2.2 = ρ) (ha0 : (z_sh G)[a0]? = some (.inl (0, n0))) (ha1 : (z_sh G)[a1]? = some (.inl (0, n1))) (h : f_X4_copyRow a0 n0 a1 n1 μ = some μr) : z_Cv G yX4_copyRow cX4_copyRow 2 none 1 [.ref a0, .ref a1] μ (fun μ1 => μr = μ1) := by
  unfold z_Cv
  refine z_intro (by decide +kernel) (Nat.le_of_ble_eq_true rfl) (fun E hE F Rt => ?_)
  subst hE
  have F : z_F E RX4 cX4_copyRow 2 1 := F
  rw [hρ] at Rt
  unfold f_X4_copyRow at h
  show z_J E 2 0 [some (.ref a0), some (.ref a1)] [] μ
  refine j_aload_n F (pc := 0) (q := 0) (by decide +kernel) rfl ?_
  refine j_iconst F (pc := 1) (n := 0) (v := 0) (by decide +kernel) (by decide +kernel) ?_
  refine j_aload_n F (pc := 2) (q := 1) (by decide +kernel) rfl ?_
  refine j_iconst F (pc := 3) (n := 0) (v := 0) (by decide +kernel) (by decide +kernel) ?_
  refine j_aload_n F (pc := 4) (q := 0) (by decide +kernel) rfl ?_
  refine j_alen F (pc := 5) ha0 (by decide) rfl (by decide +kernel) ?_
  refine j_aload_n F (pc := 6) (q := 1) (by decide +kernel) rfl ?_
  refine j_alen F (pc := 7) ha1 (by decide) rfl (by decide +kernel) ?_
  refine j_mmin F (pc := 8) ⟨m_725, m_655, m_88, m_656⟩ (by decide) (Nat.le_of_ble_eq_true rfl) (by decide +kernel) ?_
  obtain ⟨hg, h⟩ := z_ifs h
  refine j_acopy F (pc := 11) ⟨m_726, m_728, m_727, m_90⟩ (by decide) (Nat.le_of_ble_eq_true rfl) ha0 ha1 hg.1 hg.2.1 hg.2.2.1 hg.2.2.2.1 hg.2.2.2.2 (by decide +kernel) ?_
  obtain ⟨μ1, e3, h⟩ := z_st_some h
  rw [← e3]
  have hρ2 : μ1.2.2 = ρ := by rw [e3]; exact hρ
  exact j_vret (st := []) F Rt (by decide +kernel) ⟨hρ2, rfl, (Option.some.inj h).symm⟩
/-- LastLent$Ship.become -/
def f_X3_become (o : Nat) (o1 : Nat) (μ : z_M) : Option z_M :=
  (z_st (z_si μ o 0 (μ.1 o1 0)) fun μ1 => (z_st (z_si μ1 o 1 (μ1.1 o1 1)) fun μ4 => (z_st (z_si μ4 o 2 (μ4.1 o1 2)) fun μ7 => (z_b1 (f_X4_copyRow ((o1 + 1)) (6) ((o + 1)) (6) μ7) fun μ11 => (z_b1 (f_X4_copyRow ((o1 + 2)) (6) ((o + 2)) (6) μ11) fun μ17 => (z_b1 (f_X4_copyRow ((o1 + 3)) (14) ((o + 3)) (14) μ17) fun μ23 => (z_b1 (f_X4_copyRow ((o1 + 4)) (14) ((o + 4)) (14) μ23) fun μ29 => (z_b1 (f_X4_copyRow ((o1 + 5)) (14) ((o + 5)) (14) μ29) fun μ35 => (z_b1 (f_X4_copyRow ((o1 + 6)) (14) ((o + 6)) (14) μ35) fun μ41 => (z_b1 (f_X4_copyRow ((o1 + 7)) (14) ((o + 7)) (14) μ41) fun μ47 => (z_b1 (f_X4_copyRow ((o1 + 8)) (14) ((o + 8)) (14) μ47) fun μ53 => (z_b1 (f_X4_copyRow ((o1 + 9)) (5) ((o + 9)) (5) μ53) fun μ59 => (z_b1 (f_X4_copyRow ((o1 + 10)) (3) ((o + 10)) (3) μ59) fun μ65 => (some μ65))))))))))))))
set_option maxHeartbeats 4000000 in
set_option maxRecDepth 100000 in
theorem t_X3_become {G : z_Gl} {ρ : Nat → Nat → Option Nat} {μ : z_M} {μr : z_M} {o : Nat} {o1 : Nat} (hρ : μ.2.2 = ρ) (hb : z_blk z_shipS z_shipR (z_sh G) ρ o) (hb1 : z_blk z_shipS z_shipR (z_sh G) ρ o1) (h : f_X3_become o o1 μ = some μr) : z_Cv G yX3_become cX3_become 2 none 2 [.ref o, .ref o1] μ (fun μ1 => μr = μ1) := by
  unfold z_Cv
  refine z_intro (by decide +kernel) (Nat.le_of_ble_eq_true rfl) (fun E hE F Rt => ?_)
  subst hE
  have F : z_F E RX3 cX3_become 2 2 := F
  rw [hρ] at Rt
  unfold f_X3_become at h
  show z_J E 2 0 [some (.ref o), some (.ref o1)] [] μ
  refine j_aload_n F (pc := 0) (q := 0) (by decide +kernel) rfl ?_
  refine j_aload_n F (pc := 1) (q := 1) (by decide +kernel) rfl ?_
  refine j_getI F (pc := 2) fl_X3_42 (hb1.1 0 _ rfl) rfl (by decide +kernel) ?_
  refine j_putI F (pc := 5) fl_X3_42 fp_X3_0 (hb.1 0 _ rfl) rfl (by decide +kernel) ?_
  obtain ⟨μ1, e3, h⟩ := z_st_some h
  rw [← e3]
  have hρ2 : μ1.2.2 = ρ := by rw [e3]; exact hρ
  refine j_aload_n F (pc := 8) (q := 0) (by decide +kernel) rfl ?_
  refine j_aload_n F (pc := 9) (q := 1) (by decide +kernel) rfl ?_
  refine j_getI F (pc := 10) fl_X3_46 (hb1.1 0 _ rfl) rfl (by decide +kernel) ?_
  refine j_putI F (pc := 13) fl_X3_46 fp_X3_1 (hb.1 0 _ rfl) rfl (by decide +kernel) ?_
  obtain ⟨μ4, e6, h⟩ := z_st_some h
  rw [← e6]
  have hρ5 : μ4.2.2 = ρ := by rw [e6]; exact hρ2
  refine j_aload_n F (pc := 16) (q := 0) (by decide +kernel) rfl ?_
  refine j_aload_n F (pc := 17) (q := 1) (by decide +kernel) rfl ?_
  refine j_getI F (pc := 18) fl_X3_49 (hb1.1 0 _ rfl) rfl (by decide +kernel) ?_
  refine j_putI F (pc := 21) fl_X3_49 fp_X3_2 (hb.1 0 _ rfl) rfl (by decide +kernel) ?_
  obtain ⟨μ7, e9, h⟩ := z_st_some h
  rw [← e9]
  have hρ8 : μ7.2.2 = ρ := by rw [e9]; exact hρ5
  refine j_aload_n F (pc := 24) (q := 1) (by decide +kernel) rfl ?_
  refine j_getR F (pc := 25) (hb1.r hρ8 3 rfl) fl_X3_9 (hb1.1 0 _ rfl) rfl (by decide +kernel) ?_
  refine j_aload_n F (pc := 28) (q := 0) (by decide +kernel) rfl ?_
  refine j_getR F (pc := 29) (hb.r hρ8 3 rfl) fl_X3_9 (hb.1 0 _ rfl) rfl (by decide +kernel) ?_
  obtain ⟨μ11, hc13, h⟩ := z_b1_some h
  refine j_callNv F (pc := 32) (As := [.ref (o1 + 1), .ref (o + 1)]) (st := []) (t_X4_copyRow (G := E.1) hρ8 (hb1.1 1 _ rfl) (hb.1 1 _ rfl) hc13) q_X4_copyRow m_723 (by decide +kernel) rfl (by decide) (Nat.le_of_ble_eq_true rfl) rfl (by decide +kernel) (fun ν14 hq15 hp => ?_)
  subst hp
  have hρ12 : μ11.2.2 = ρ := hq15.trans hρ8
  refine j_aload_n F (pc := 35) (q := 1) (by decide +kernel) rfl ?_
  refine j_getR F (pc := 36) (hb1.r hρ12 4 rfl) fl_X3_15 (hb1.1 0 _ rfl) rfl (by decide +kernel) ?_
  refine j_aload_n F (pc := 39) (q := 0) (by decide +kernel) rfl ?_
  refine j_getR F (pc := 40) (hb.r hρ12 4 rfl) fl_X3_15 (hb.1 0 _ rfl) rfl (by decide +kernel) ?_
  obtain ⟨μ17, hc19, h⟩ := z_b1_some h
  refine j_callNv F (pc := 43) (As := [.ref (o1 + 2), .ref (o + 2)]) (st := []) (t_X4_copyRow (G := E.1) hρ12 (hb1.1 2 _ rfl) (hb.1 2 _ rfl) hc19) q_X4_copyRow m_723 (by decide +kernel) rfl (by decide) (Nat.le_of_ble_eq_true rfl) rfl (by decide +kernel) (fun ν20 hq21 hp => ?_)
  subst hp
  have hρ18 : μ17.2.2 = ρ := hq21.trans hρ12
  refine j_aload_n F (pc := 46) (q := 1) (by decide +kernel) rfl ?_
  refine j_getR F (pc := 47) (hb1.r hρ18 5 rfl) fl_X3_18 (hb1.1 0 _ rfl) rfl (by decide +kernel) ?_
  refine j_aload_n F (pc := 50) (q := 0) (by decide +kernel) rfl ?_
  refine j_getR F (pc := 51) (hb.r hρ18 5 rfl) fl_X3_18 (hb.1 0 _ rfl) rfl (by decide +kernel) ?_
  obtain ⟨μ23, hc25, h⟩ := z_b1_some h
  refine j_callNv F (pc := 54) (As := [.ref (o1 + 3), .ref (o + 3)]) (st := []) (t_X4_copyRow (G := E.1) hρ18 (hb1.1 3 _ rfl) (hb.1 3 _ rfl) hc25) q_X4_copyRow m_723 (by decide +kernel) rfl (by decide) (Nat.le_of_ble_eq_true rfl) rfl (by decide +kernel) (fun ν26 hq27 hp => ?_)
  subst hp
  have hρ24 : μ23.2.2 = ρ := hq27.trans hρ18
  refine j_aload_n F (pc := 57) (q := 1) (by decide +kernel) rfl ?_
  refine j_getR F (pc := 58) (hb1.r hρ24 6 rfl) fl_X3_21 (hb1.1 0 _ rfl) rfl (by decide +kernel) ?_
  refine j_aload_n F (pc := 61) (q := 0) (by decide +kernel) rfl ?_
  refine j_getR F (pc := 62) (hb.r hρ24 6 rfl) fl_X3_21 (hb.1 0 _ rfl) rfl (by decide +kernel) ?_
  obtain ⟨μ29, hc31, h⟩ := z_b1_some h
  refine j_callNv F (pc := 65) (As := [.ref (o1 + 4), .ref (o + 4)]) (st := []) (t_X4_copyRow (G := E.1) hρ24 (hb1.1 4 _ rfl) (hb.1 4 _ rfl) hc31) q_X4_copyRow m_723 (by decide +kernel) rfl (by decide) (Nat.le_of_ble_eq_true rfl) rfl (by decide +kernel) (fun ν32 hq33 hp => ?_)
  subst hp
  have hρ30 : μ29.2.2 = ρ := hq33.trans hρ24
  refine j_aload_n F (pc := 68) (q := 1) (by decide +kernel) rfl ?_
  refine j_getR F (pc := 69) (hb1.r hρ30 7 rfl) fl_X3_24 (hb1.1 0 _ rfl) rfl (by decide +kernel) ?_
  refine j_aload_n F (pc := 72) (q := 0) (by decide +kernel) rfl ?_
  refine j_getR F (pc := 73) (hb.r hρ30 7 rfl) fl_X3_24 (hb.1 0 _ rfl) rfl (by decide +kernel) ?_
  obtain ⟨μ35, hc37, h⟩ := z_b1_some h
  refine j_callNv F (pc := 76) (As := [.ref (o1 + 5), .ref (o + 5)]) (st := []) (t_X4_copyRow (G := E.1) hρ30 (hb1.1 5 _ rfl) (hb.1 5 _ rfl) hc37) q_X4_copyRow m_723 (by decide +kernel) rfl (by decide) (Nat.le_of_ble_eq_true rfl) rfl (by decide +kernel) (fun ν38 hq39 hp => ?_)
  subst hp
  have hρ36 : μ35.2.2 = ρ := hq39.trans hρ30
  refine j_aload_n F (pc := 79) (q := 1) (by decide +kernel) rfl ?_
  refine j_getR F (pc := 80) (hb1.r hρ36 8 rfl) fl_X3_27 (hb1.1 0 _ rfl) rfl (by decide +kernel) ?_
  refine j_aload_n F (pc := 83) (q := 0) (by decide +kernel) rfl ?_
  refine j_getR F (pc := 84) (hb.r hρ36 8 rfl) fl_X3_27 (hb.1 0 _ rfl) rfl (by decide +kernel) ?_
  obtain ⟨μ41, hc43, h⟩ := z_b1_some h
  refine j_callNv F (pc := 87) (As := [.ref (o1 + 6), .ref (o + 6)]) (st := []) (t_X4_copyRow (G := E.1) hρ36 (hb1.1 6 _ rfl) (hb.1 6 _ rfl) hc43) q_X4_copyRow m_723 (by decide +kernel) rfl (by decide) (Nat.le_of_ble_eq_true rfl) rfl (by decide +kernel) (fun ν44 hq45 hp => ?_)
  subst hp
  have hρ42 : μ41.2.2 = ρ := hq45.trans hρ36
  refine j_aload_n F (pc := 90) (q := 1) (by decide +kernel) rfl ?_
  refine j_getR F (pc := 91) (hb1.r hρ42 9 rfl) fl_X3_30 (hb1.1 0 _ rfl) rfl (by decide +kernel) ?_
  refine j_aload_n F (pc := 94) (q := 0) (by decide +kernel) rfl ?_
  refine j_getR F (pc := 95) (hb.r hρ42 9 rfl) fl_X3_30 (hb.1 0 _ rfl) rfl (by decide +kernel) ?_
  obtain ⟨μ47, hc49, h⟩ := z_b1_some h
  refine j_callNv F (pc := 98) (As := [.ref (o1 + 7), .ref (o + 7)]) (st := []) (t_X4_copyRow (G := E.1) hρ42 (hb1.1 7 _ rfl) (hb.1 7 _ rfl) hc49) q_X4_copyRow m_723 (by decide +kernel) rfl (by decide) (Nat.le_of_ble_eq_true rfl) rfl (by decide +kernel) (fun ν50 hq51 hp => ?_)
  subst hp
  have hρ48 : μ47.2.2 = ρ := hq51.trans hρ42
  refine j_aload_n F (pc := 101) (q := 1) (by decide +kernel) rfl ?_
  refine j_getR F (pc := 102) (hb1.r hρ48 10 rfl) fl_X3_33 (hb1.1 0 _ rfl) rfl (by decide +kernel) ?_
  refine j_aload_n F (pc := 105) (q := 0) (by decide +kernel) rfl ?_
  refine j_getR F (pc := 106) (hb.r hρ48 10 rfl) fl_X3_33 (hb.1 0 _ rfl) rfl (by decide +kernel) ?_
  obtain ⟨μ53, hc55, h⟩ := z_b1_some h
  refine j_callNv F (pc := 109) (As := [.ref (o1 + 8), .ref (o + 8)]) (st := []) (t_X4_copyRow (G := E.1) hρ48 (hb1.1 8 _ rfl) (hb.1 8 _ rfl) hc55) q_X4_copyRow m_723 (by decide +kernel) rfl (by decide) (Nat.le_of_ble_eq_true rfl) rfl (by decide +kernel) (fun ν56 hq57 hp => ?_)
  subst hp
  have hρ54 : μ53.2.2 = ρ := hq57.trans hρ48
  refine j_aload_n F (pc := 112) (q := 1) (by decide +kernel) rfl ?_
  refine j_getR F (pc := 113) (hb1.r hρ54 11 rfl) fl_X3_36 (hb1.1 0 _ rfl) rfl (by decide +kernel) ?_
  refine j_aload_n F (pc := 116) (q := 0) (by decide +kernel) rfl ?_
  refine j_getR F (pc := 117) (hb.r hρ54 11 rfl) fl_X3_36 (hb.1 0 _ rfl) rfl (by decide +kernel) ?_
  obtain ⟨μ59, hc61, h⟩ := z_b1_some h
  refine j_callNv F (pc := 120) (As := [.ref (o1 + 9), .ref (o + 9)]) (st := []) (t_X4_copyRow (G := E.1) hρ54 (hb1.1 9 _ rfl) (hb.1 9 _ rfl) hc61) q_X4_copyRow m_723 (by decide +kernel) rfl (by decide) (Nat.le_of_ble_eq_true rfl) rfl (by decide +kernel) (fun ν62 hq63 hp => ?_)
  subst hp
  have hρ60 : μ59.2.2 = ρ := hq63.trans hρ54
  refine j_aload_n F (pc := 123) (q := 1) (by decide +kernel) rfl ?_
  refine j_getR F (pc := 124) (hb1.r hρ60 12 rfl) fl_X3_39 (hb1.1 0 _ rfl) rfl (by decide +kernel) ?_
  refine j_aload_n F (pc := 127) (q := 0) (by decide +kernel) rfl ?_
  refine j_getR F (pc := 128) (hb.r hρ60 12 rfl) fl_X3_39 (hb.1 0 _ rfl) rfl (by decide +kernel) ?_
  obtain ⟨μ65, hc67, h⟩ := z_b1_some h
  refine j_callNv F (pc := 131) (As := [.ref (o1 + 10), .ref (o + 10)]) (st := []) (t_X4_copyRow (G := E.1) hρ60 (hb1.1 10 _ rfl) (hb.1 10 _ rfl) hc67) q_X4_copyRow m_723 (by decide +kernel) rfl (by decide) (Nat.le_of_ble_eq_true rfl) rfl (by decide +kernel) (fun ν68 hq69 hp => ?_)
  subst hp
  have hρ66 : μ65.2.2 = ρ := hq69.trans hρ60
  exact j_vret (st := []) F Rt (by decide +kernel) ⟨hρ66, rfl, (Option.some.inj h).symm⟩
/-- LastLent$Ship.takeAway -/
def f_X3_takeAway (o : Nat) (x1 : Int32) (μ : z_M) : Option z_M :=
  (if z_in x1 14 then (z_st (z_si μ (o + 6) x1.toNatClampNeg (0 : Int32)) fun μ1 => (some μ1)) else none)
set_option maxHeartbeats 4000000 in
set_option maxRecDepth 100000 in
theorem t_X3_takeAway {G : z_Gl} {ρ : Nat → Nat → Option Nat} {μ : z_M} {μr : z_M} {o : Nat} {x1 : Int32} (hρ : μ.2.2 = ρ) (hb : z_blk z_shipS z_shipR (z_sh G) ρ o) (h : f_X3_takeAway o x1 μ = some μr) : z_Cv G yX3_takeAway cX3_takeAway 2 none 0 [.ref o, .int x1] μ (fun μ1 => μr = μ1) := by
  unfold z_Cv
  refine z_intro (by decide +kernel) (Nat.le_of_ble_eq_true rfl) (fun E hE F Rt => ?_)
  subst hE
  have F : z_F E RX3 cX3_takeAway 2 0 := F
  rw [hρ] at Rt
  unfold f_X3_takeAway at h
  show z_J E 2 0 [some (.ref o), some (.int x1)] [] μ
  refine j_aload_n F (pc := 0) (q := 0) (by decide +kernel) rfl ?_
  refine j_getR F (pc := 1) (hb.r hρ 8 rfl) fl_X3_27 (hb.1 0 _ rfl) rfl (by decide +kernel) ?_
  refine j_iload_n F (pc := 4) (q := 1) (by decide +kernel) rfl ?_
  refine j_iconst F (pc := 5) (n := 0) (v := 0) (by decide +kernel) (by decide +kernel) ?_
  obtain ⟨hg, h⟩ := z_ifs h
  refine j_iast F (pc := 6) (hb.1 6 _ rfl) hg (by decide +kernel) ?_
  obtain ⟨μ1, e3, h⟩ := z_st_some h
  rw [← e3]
  have hρ2 : μ1.2.2 = ρ := by rw [e3]; exact hρ
  exact j_vret (st := []) F Rt (by decide +kernel) ⟨hρ2, rfl, (Option.some.inj h).symm⟩
/-- LastLent.isImage -/
def f_X4_isImage (x0 : Int32) (μ : z_M) : Option (Int32 × z_M) :=
  (some ((if x0 < 0 then (0 : Int32) else (if (2 : Int32) ≤ x0 then (0 : Int32) else (1 : Int32))), μ))
set_option maxHeartbeats 4000000 in
set_option maxRecDepth 100000 in
theorem t_X4_isImage {G : z_Gl} {ρ : Nat → Nat → Option Nat} {μ : z_M} {r : Int32} {μr : z_M} {x0 : Int32} (hρ : μ.2.2 = ρ)  (h : f_X4_isImage x0 μ = some (r, μr)) : z_Ci G yX4_isImage cX4_isImage 1 (some .boolean) 0 [.int x0] μ (fun r1 μ1 => r = r1 ∧ μr = μ1) := by
  unfold z_Ci
  refine z_intro (by decide +kernel) (Nat.le_of_ble_eq_true rfl) (fun E hE F Rt => ?_)
  subst hE
  have F : z_F E RX4 cX4_isImage 1 0 := F
  rw [hρ] at Rt
  unfold f_X4_isImage at h
  show z_J E 1 0 [some (.int x0)] [] μ
  refine j_iload_n F (pc := 0) (q := 0) (by decide +kernel) rfl ?_
  suffices hj : z_J E 1 14 [some (.int x0)] (.int (if x0 < 0 then (0 : Int32) else (if (2 : Int32) ≤ x0 then (0 : Int32) else (1 : Int32))) :: []) μ by
    refine j_if_lt F (pc := 1) (off := 12) (tgt := 13) (by decide +kernel) (by decide) (fun c0 => ?_) (fun c0 => ?_)
    · rw [if_pos c0] at hj
      refine j_iconst F (pc := 13) (n := 0) (v := 0) (by decide +kernel) (by decide +kernel) ?_
      exact hj
    · rw [if_neg c0] at hj
      refine j_iload_n F (pc := 4) (q := 0) (by decide +kernel) rfl ?_
      refine j_iconst F (pc := 5) (n := 2) (v := 2) (by decide +kernel) (by decide +kernel) ?_
      refine j_icmp_ge F (pc := 6) (off := 7) (tgt := 13) (by decide +kernel) (by decide) (fun c1 => ?_) (fun c1 => ?_)
      · rw [if_pos c1] at hj
        refine j_iconst F (pc := 13) (n := 0) (v := 0) (by decide +kernel) (by decide +kernel) ?_
        exact hj
      · rw [if_neg c1] at hj
        refine j_iconst F (pc := 9) (n := 1) (v := 1) (by decide +kernel) (by decide +kernel) ?_
        refine j_goto F (pc := 10) (off := 4) (tgt := 14) (by decide +kernel) (by decide) ?_
        exact hj
  exact j_iret (st := []) F Rt (z_nb (by repeat' (first | exact Or.inl rfl | exact Or.inr rfl | split))) (by decide +kernel) ⟨hρ, _, rfl, (congrArg Prod.fst (Option.some.inj h)).symm, (congrArg Prod.snd (Option.some.inj h)).symm⟩
