/-! THE LAW'S LOOP: written by wip/whole/law.py -/
set_option maxHeartbeats 4000000 in
set_option maxRecDepth 100000 in
theorem law_loop {E : z_E} {b Ls : Nat} {xs : Nat → Int32} {Inv : z_M → Prop} (hLs : Ls ≤ 5120) (F : z_F E RL cL_law 4 14) (S : z_SC E b Ls xs) (Z : z_LE E b) (hsh : z_sh E.1 = z_SH) (HS : zs_all Inv) : ∀ (n i : Nat) (μ : z_M), i ≤ Ls + 10 → Ls + 11 ≤ i + n → Inv μ → z_J E 4 18 [some (.ref 999), some (.ref 0), some (.ref 98), some (.int (nI i))] [] μ := by
  obtain ⟨h_ok, hs0, hs1, hs2, hs3, hs4, hs5, hs6, hs7, hs8, hs9, hs10, hs11, hs12, hs13, hs14, hs15, hs16, hs17, hs18, hs19, hs20, hs21, hs22, hs23, hs24, hs25, hs26, hs27, hs28, hs29, hs30⟩ := HS
  intro n
  induction n with
  | zero =>
    intro i μ h1 h2 hI
    omega
  | succ n ih =>
    intro i μ hi hn hI
    have hk : z_ok (z_sh E.1) μ.2.2 := by rw [hsh]; exact h_ok μ hI
    refine j_iload_n F (pc := 18) (q := 3) (by decide +kernel) rfl ?_
    refine j_aload_n F (pc := 19) (q := 0) (by decide +kernel) rfl ?_
    refine j_slenS F (pc := 20) S (by decide +kernel) ?_
    refine j_bipush F (pc := 21) (n := 10) (v := 10) (by decide +kernel) (by decide +kernel) ?_
    refine j_isub F (pc := 23) (by decide +kernel) ?_
    have hsub : (Int32.ofNat Ls - 10).toInt = (Ls : Int) - 10 := by
      have e10 : (10 : Int32) = nI 10 := by decide
      rw [e10]
      exact pk_sub_toInt (by omega) (by omega)
    have hiI : (nI i).toInt = (i : Int) := nI_toInt (by omega)
    refine j_icmp_gt F (pc := 24) (off := 1605) (tgt := 1629) (by decide +kernel) (by decide) (fun c => ?_) (fun c => ?_)
    · refine j_iconst F (pc := 1629) (n := 1) (v := 1) (by decide +kernel) (by decide +kernel) ?_
      exact j_lawret F Z (by decide +kernel)
    · have hle : i + 10 ≤ Ls := by
        have c2 : (nI i).toInt ≤ (Int32.ofNat Ls - 10).toInt := Int32.le_iff_toInt_le.mp (Int32.not_lt.mp c)
        omega
      have hix : ∀ j : Int32, 0 ≤ j → j < 10 → z_in (nI i + j) Ls := by
        intro j h0 h1
        obtain ⟨k, hk2, rfl⟩ := nI_of (x := j) (Int32.not_lt.mpr h0)
        have h3 : k < 10 := by
          have e10 : (10 : Int32) = nI 10 := by decide
          rw [e10] at h1
          exact (nI_ltI hk2 (by decide)).mp h1
        rw [nI_add]
        exact vp_in_nI (by omega) (by omega)
      have hnext : ∀ μ2, Inv μ2 → z_J E 4 1623 [some (.ref 999), some (.ref 0), some (.ref 98), some (.int (nI i))] [] μ2 := by
        intro μ2 hI2
        refine j_iinc F (pc := 1623) (i := 3) (n := 10) (v := 10) (L' := [some (.ref 999), some (.ref 0), some (.ref 98), some (.int (nI (i + 10)))]) (by decide +kernel) rfl (by decide +kernel) (by decide) rfl ?_ ?_
        · have e10 : (10 : Int32) = nI 10 := by decide
          have e11 : nI i + 10 = nI (i + 10) := by rw [e10, nI_add]
          show [some (Value.ref 999), some (.ref 0), some (.ref 98), some (.int (nI i + 10))] = _
          rw [e11]
        · refine j_goto F (pc := 1626) (off := -1608) (tgt := 18) (by decide +kernel) (by decide) ?_
          exact ih (i + 10) μ2 (by omega) (by omega) hI2
      refine j_aload_n F (pc := 27) (q := 0) (by decide +kernel) rfl ?_
      refine j_iload_n F (pc := 28) (q := 3) (by decide +kernel) rfl ?_
      refine j_sld F (pc := 29) S (vp_in_nI (by omega) (by omega)) (by decide +kernel) ?_
      refine j_bipush F (pc := 30) (n := 31) (v := 31) (by decide +kernel) (by decide +kernel) ?_
      refine j_iand F (pc := 32) (by decide +kernel) ?_
      generalize (xs (nI i).toNatClampNeg &&& 31) = x
      by_cases c0 : x = 0
      · refine j_tableIn F (pc := 33) (dflt := 1590) (lo := 0) (hi := 30) (offs := #[139, 202, 225, 238, 281, 314, 357, 390, 481, 514, 547, 580, 613, 646, 669, 712, 745, 788, 841, 894, 947, 1000, 1053, 1116, 1179, 1232, 1307, 1370, 1481, 1544, 1567]) (len := 139) (off := 139) (tgt := 172) (by decide +kernel) (by rw [c0]; decide) (by rw [c0]; decide) (by rw [c0]; decide +kernel) (by decide) ?_
        exact lawc_0 F S hsh hs0 hix hI hk hnext
      by_cases c1 : x = 1
      · refine j_tableIn F (pc := 33) (dflt := 1590) (lo := 0) (hi := 30) (offs := #[139, 202, 225, 238, 281, 314, 357, 390, 481, 514, 547, 580, 613, 646, 669, 712, 745, 788, 841, 894, 947, 1000, 1053, 1116, 1179, 1232, 1307, 1370, 1481, 1544, 1567]) (len := 139) (off := 202) (tgt := 235) (by decide +kernel) (by rw [c1]; decide) (by rw [c1]; decide) (by rw [c1]; decide +kernel) (by decide) ?_
        exact lawc_1 F S hsh hs1 hix hI hk hnext
      by_cases c2 : x = 2
      · refine j_tableIn F (pc := 33) (dflt := 1590) (lo := 0) (hi := 30) (offs := #[139, 202, 225, 238, 281, 314, 357, 390, 481, 514, 547, 580, 613, 646, 669, 712, 745, 788, 841, 894, 947, 1000, 1053, 1116, 1179, 1232, 1307, 1370, 1481, 1544, 1567]) (len := 139) (off := 225) (tgt := 258) (by decide +kernel) (by rw [c2]; decide) (by rw [c2]; decide) (by rw [c2]; decide +kernel) (by decide) ?_
        exact lawc_2 F S hsh hs2 hix hI hk hnext
      by_cases c3 : x = 3
      · refine j_tableIn F (pc := 33) (dflt := 1590) (lo := 0) (hi := 30) (offs := #[139, 202, 225, 238, 281, 314, 357, 390, 481, 514, 547, 580, 613, 646, 669, 712, 745, 788, 841, 894, 947, 1000, 1053, 1116, 1179, 1232, 1307, 1370, 1481, 1544, 1567]) (len := 139) (off := 238) (tgt := 271) (by decide +kernel) (by rw [c3]; decide) (by rw [c3]; decide) (by rw [c3]; decide +kernel) (by decide) ?_
        exact lawc_3 F S hsh hs3 hix hI hk hnext
      by_cases c4 : x = 4
      · refine j_tableIn F (pc := 33) (dflt := 1590) (lo := 0) (hi := 30) (offs := #[139, 202, 225, 238, 281, 314, 357, 390, 481, 514, 547, 580, 613, 646, 669, 712, 745, 788, 841, 894, 947, 1000, 1053, 1116, 1179, 1232, 1307, 1370, 1481, 1544, 1567]) (len := 139) (off := 281) (tgt := 314) (by decide +kernel) (by rw [c4]; decide) (by rw [c4]; decide) (by rw [c4]; decide +kernel) (by decide) ?_
        exact lawc_4 F S hsh hs4 hix hI hk hnext
      by_cases c5 : x = 5
      · refine j_tableIn F (pc := 33) (dflt := 1590) (lo := 0) (hi := 30) (offs := #[139, 202, 225, 238, 281, 314, 357, 390, 481, 514, 547, 580, 613, 646, 669, 712, 745, 788, 841, 894, 947, 1000, 1053, 1116, 1179, 1232, 1307, 1370, 1481, 1544, 1567]) (len := 139) (off := 314) (tgt := 347) (by decide +kernel) (by rw [c5]; decide) (by rw [c5]; decide) (by rw [c5]; decide +kernel) (by decide) ?_
        exact lawc_5 F S hsh hs5 hix hI hk hnext
      by_cases c6 : x = 6
      · refine j_tableIn F (pc := 33) (dflt := 1590) (lo := 0) (hi := 30) (offs := #[139, 202, 225, 238, 281, 314, 357, 390, 481, 514, 547, 580, 613, 646, 669, 712, 745, 788, 841, 894, 947, 1000, 1053, 1116, 1179, 1232, 1307, 1370, 1481, 1544, 1567]) (len := 139) (off := 357) (tgt := 390) (by decide +kernel) (by rw [c6]; decide) (by rw [c6]; decide) (by rw [c6]; decide +kernel) (by decide) ?_
        exact lawc_6 F S hsh hs6 hix hI hk hnext
      by_cases c7 : x = 7
      · refine j_tableIn F (pc := 33) (dflt := 1590) (lo := 0) (hi := 30) (offs := #[139, 202, 225, 238, 281, 314, 357, 390, 481, 514, 547, 580, 613, 646, 669, 712, 745, 788, 841, 894, 947, 1000, 1053, 1116, 1179, 1232, 1307, 1370, 1481, 1544, 1567]) (len := 139) (off := 390) (tgt := 423) (by decide +kernel) (by rw [c7]; decide) (by rw [c7]; decide) (by rw [c7]; decide +kernel) (by decide) ?_
        exact lawc_7 F S hsh hs7 hix hI hk hnext
      by_cases c8 : x = 8
      · refine j_tableIn F (pc := 33) (dflt := 1590) (lo := 0) (hi := 30) (offs := #[139, 202, 225, 238, 281, 314, 357, 390, 481, 514, 547, 580, 613, 646, 669, 712, 745, 788, 841, 894, 947, 1000, 1053, 1116, 1179, 1232, 1307, 1370, 1481, 1544, 1567]) (len := 139) (off := 481) (tgt := 514) (by decide +kernel) (by rw [c8]; decide) (by rw [c8]; decide) (by rw [c8]; decide +kernel) (by decide) ?_
        exact lawc_8 F S hsh hs8 hix hI hk hnext
      by_cases c9 : x = 9
      · refine j_tableIn F (pc := 33) (dflt := 1590) (lo := 0) (hi := 30) (offs := #[139, 202, 225, 238, 281, 314, 357, 390, 481, 514, 547, 580, 613, 646, 669, 712, 745, 788, 841, 894, 947, 1000, 1053, 1116, 1179, 1232, 1307, 1370, 1481, 1544, 1567]) (len := 139) (off := 514) (tgt := 547) (by decide +kernel) (by rw [c9]; decide) (by rw [c9]; decide) (by rw [c9]; decide +kernel) (by decide) ?_
        exact lawc_9 F S hsh hs9 hix hI hk hnext
      by_cases c10 : x = 10
      · refine j_tableIn F (pc := 33) (dflt := 1590) (lo := 0) (hi := 30) (offs := #[139, 202, 225, 238, 281, 314, 357, 390, 481, 514, 547, 580, 613, 646, 669, 712, 745, 788, 841, 894, 947, 1000, 1053, 1116, 1179, 1232, 1307, 1370, 1481, 1544, 1567]) (len := 139) (off := 547) (tgt := 580) (by decide +kernel) (by rw [c10]; decide) (by rw [c10]; decide) (by rw [c10]; decide +kernel) (by decide) ?_
        exact lawc_10 F S hsh hs10 hix hI hk hnext
      by_cases c11 : x = 11
      · refine j_tableIn F (pc := 33) (dflt := 1590) (lo := 0) (hi := 30) (offs := #[139, 202, 225, 238, 281, 314, 357, 390, 481, 514, 547, 580, 613, 646, 669, 712, 745, 788, 841, 894, 947, 1000, 1053, 1116, 1179, 1232, 1307, 1370, 1481, 1544, 1567]) (len := 139) (off := 580) (tgt := 613) (by decide +kernel) (by rw [c11]; decide) (by rw [c11]; decide) (by rw [c11]; decide +kernel) (by decide) ?_
        exact lawc_11 F S hsh hs11 hix hI hk hnext
      by_cases c12 : x = 12
      · refine j_tableIn F (pc := 33) (dflt := 1590) (lo := 0) (hi := 30) (offs := #[139, 202, 225, 238, 281, 314, 357, 390, 481, 514, 547, 580, 613, 646, 669, 712, 745, 788, 841, 894, 947, 1000, 1053, 1116, 1179, 1232, 1307, 1370, 1481, 1544, 1567]) (len := 139) (off := 613) (tgt := 646) (by decide +kernel) (by rw [c12]; decide) (by rw [c12]; decide) (by rw [c12]; decide +kernel) (by decide) ?_
        exact lawc_12 F S hsh hs12 hix hI hk hnext
      by_cases c13 : x = 13
      · refine j_tableIn F (pc := 33) (dflt := 1590) (lo := 0) (hi := 30) (offs := #[139, 202, 225, 238, 281, 314, 357, 390, 481, 514, 547, 580, 613, 646, 669, 712, 745, 788, 841, 894, 947, 1000, 1053, 1116, 1179, 1232, 1307, 1370, 1481, 1544, 1567]) (len := 139) (off := 646) (tgt := 679) (by decide +kernel) (by rw [c13]; decide) (by rw [c13]; decide) (by rw [c13]; decide +kernel) (by decide) ?_
        exact lawc_13 F S hsh hs13 hix hI hk hnext
      by_cases c14 : x = 14
      · refine j_tableIn F (pc := 33) (dflt := 1590) (lo := 0) (hi := 30) (offs := #[139, 202, 225, 238, 281, 314, 357, 390, 481, 514, 547, 580, 613, 646, 669, 712, 745, 788, 841, 894, 947, 1000, 1053, 1116, 1179, 1232, 1307, 1370, 1481, 1544, 1567]) (len := 139) (off := 669) (tgt := 702) (by decide +kernel) (by rw [c14]; decide) (by rw [c14]; decide) (by rw [c14]; decide +kernel) (by decide) ?_
        exact lawc_14 F S hsh hs14 hix hI hk hnext
      by_cases c15 : x = 15
      · refine j_tableIn F (pc := 33) (dflt := 1590) (lo := 0) (hi := 30) (offs := #[139, 202, 225, 238, 281, 314, 357, 390, 481, 514, 547, 580, 613, 646, 669, 712, 745, 788, 841, 894, 947, 1000, 1053, 1116, 1179, 1232, 1307, 1370, 1481, 1544, 1567]) (len := 139) (off := 712) (tgt := 745) (by decide +kernel) (by rw [c15]; decide) (by rw [c15]; decide) (by rw [c15]; decide +kernel) (by decide) ?_
        exact lawc_15 F S hsh hs15 hix hI hk hnext
      by_cases c16 : x = 16
      · refine j_tableIn F (pc := 33) (dflt := 1590) (lo := 0) (hi := 30) (offs := #[139, 202, 225, 238, 281, 314, 357, 390, 481, 514, 547, 580, 613, 646, 669, 712, 745, 788, 841, 894, 947, 1000, 1053, 1116, 1179, 1232, 1307, 1370, 1481, 1544, 1567]) (len := 139) (off := 745) (tgt := 778) (by decide +kernel) (by rw [c16]; decide) (by rw [c16]; decide) (by rw [c16]; decide +kernel) (by decide) ?_
        exact lawc_16 F S hsh hs16 hix hI hk hnext
      by_cases c17 : x = 17
      · refine j_tableIn F (pc := 33) (dflt := 1590) (lo := 0) (hi := 30) (offs := #[139, 202, 225, 238, 281, 314, 357, 390, 481, 514, 547, 580, 613, 646, 669, 712, 745, 788, 841, 894, 947, 1000, 1053, 1116, 1179, 1232, 1307, 1370, 1481, 1544, 1567]) (len := 139) (off := 788) (tgt := 821) (by decide +kernel) (by rw [c17]; decide) (by rw [c17]; decide) (by rw [c17]; decide +kernel) (by decide) ?_
        exact lawc_17 F S hsh hs17 hix hI hk hnext
      by_cases c18 : x = 18
      · refine j_tableIn F (pc := 33) (dflt := 1590) (lo := 0) (hi := 30) (offs := #[139, 202, 225, 238, 281, 314, 357, 390, 481, 514, 547, 580, 613, 646, 669, 712, 745, 788, 841, 894, 947, 1000, 1053, 1116, 1179, 1232, 1307, 1370, 1481, 1544, 1567]) (len := 139) (off := 841) (tgt := 874) (by decide +kernel) (by rw [c18]; decide) (by rw [c18]; decide) (by rw [c18]; decide +kernel) (by decide) ?_
        exact lawc_18 F S hsh hs18 hix hI hk hnext
      by_cases c19 : x = 19
      · refine j_tableIn F (pc := 33) (dflt := 1590) (lo := 0) (hi := 30) (offs := #[139, 202, 225, 238, 281, 314, 357, 390, 481, 514, 547, 580, 613, 646, 669, 712, 745, 788, 841, 894, 947, 1000, 1053, 1116, 1179, 1232, 1307, 1370, 1481, 1544, 1567]) (len := 139) (off := 894) (tgt := 927) (by decide +kernel) (by rw [c19]; decide) (by rw [c19]; decide) (by rw [c19]; decide +kernel) (by decide) ?_
        exact lawc_19 F S hsh hs19 hix hI hk hnext
      by_cases c20 : x = 20
      · refine j_tableIn F (pc := 33) (dflt := 1590) (lo := 0) (hi := 30) (offs := #[139, 202, 225, 238, 281, 314, 357, 390, 481, 514, 547, 580, 613, 646, 669, 712, 745, 788, 841, 894, 947, 1000, 1053, 1116, 1179, 1232, 1307, 1370, 1481, 1544, 1567]) (len := 139) (off := 947) (tgt := 980) (by decide +kernel) (by rw [c20]; decide) (by rw [c20]; decide) (by rw [c20]; decide +kernel) (by decide) ?_
        exact lawc_20 F S hsh hs20 hix hI hk hnext
      by_cases c21 : x = 21
      · refine j_tableIn F (pc := 33) (dflt := 1590) (lo := 0) (hi := 30) (offs := #[139, 202, 225, 238, 281, 314, 357, 390, 481, 514, 547, 580, 613, 646, 669, 712, 745, 788, 841, 894, 947, 1000, 1053, 1116, 1179, 1232, 1307, 1370, 1481, 1544, 1567]) (len := 139) (off := 1000) (tgt := 1033) (by decide +kernel) (by rw [c21]; decide) (by rw [c21]; decide) (by rw [c21]; decide +kernel) (by decide) ?_
        exact lawc_21 F S hsh hs21 hix hI hk hnext
      by_cases c22 : x = 22
      · refine j_tableIn F (pc := 33) (dflt := 1590) (lo := 0) (hi := 30) (offs := #[139, 202, 225, 238, 281, 314, 357, 390, 481, 514, 547, 580, 613, 646, 669, 712, 745, 788, 841, 894, 947, 1000, 1053, 1116, 1179, 1232, 1307, 1370, 1481, 1544, 1567]) (len := 139) (off := 1053) (tgt := 1086) (by decide +kernel) (by rw [c22]; decide) (by rw [c22]; decide) (by rw [c22]; decide +kernel) (by decide) ?_
        exact lawc_22 F S hsh hs22 hix hI hk hnext
      by_cases c23 : x = 23
      · refine j_tableIn F (pc := 33) (dflt := 1590) (lo := 0) (hi := 30) (offs := #[139, 202, 225, 238, 281, 314, 357, 390, 481, 514, 547, 580, 613, 646, 669, 712, 745, 788, 841, 894, 947, 1000, 1053, 1116, 1179, 1232, 1307, 1370, 1481, 1544, 1567]) (len := 139) (off := 1116) (tgt := 1149) (by decide +kernel) (by rw [c23]; decide) (by rw [c23]; decide) (by rw [c23]; decide +kernel) (by decide) ?_
        exact lawc_23 F S hsh hs23 hix hI hk hnext
      by_cases c24 : x = 24
      · refine j_tableIn F (pc := 33) (dflt := 1590) (lo := 0) (hi := 30) (offs := #[139, 202, 225, 238, 281, 314, 357, 390, 481, 514, 547, 580, 613, 646, 669, 712, 745, 788, 841, 894, 947, 1000, 1053, 1116, 1179, 1232, 1307, 1370, 1481, 1544, 1567]) (len := 139) (off := 1179) (tgt := 1212) (by decide +kernel) (by rw [c24]; decide) (by rw [c24]; decide) (by rw [c24]; decide +kernel) (by decide) ?_
        exact lawc_24 F S hsh hs24 hix hI hk hnext
      by_cases c25 : x = 25
      · refine j_tableIn F (pc := 33) (dflt := 1590) (lo := 0) (hi := 30) (offs := #[139, 202, 225, 238, 281, 314, 357, 390, 481, 514, 547, 580, 613, 646, 669, 712, 745, 788, 841, 894, 947, 1000, 1053, 1116, 1179, 1232, 1307, 1370, 1481, 1544, 1567]) (len := 139) (off := 1232) (tgt := 1265) (by decide +kernel) (by rw [c25]; decide) (by rw [c25]; decide) (by rw [c25]; decide +kernel) (by decide) ?_
        exact lawc_25 F S hsh hs25 hix hI hk hnext
      by_cases c26 : x = 26
      · refine j_tableIn F (pc := 33) (dflt := 1590) (lo := 0) (hi := 30) (offs := #[139, 202, 225, 238, 281, 314, 357, 390, 481, 514, 547, 580, 613, 646, 669, 712, 745, 788, 841, 894, 947, 1000, 1053, 1116, 1179, 1232, 1307, 1370, 1481, 1544, 1567]) (len := 139) (off := 1307) (tgt := 1340) (by decide +kernel) (by rw [c26]; decide) (by rw [c26]; decide) (by rw [c26]; decide +kernel) (by decide) ?_
        exact lawc_26 F S hsh hs26 hix hI hk hnext
      by_cases c27 : x = 27
      · refine j_tableIn F (pc := 33) (dflt := 1590) (lo := 0) (hi := 30) (offs := #[139, 202, 225, 238, 281, 314, 357, 390, 481, 514, 547, 580, 613, 646, 669, 712, 745, 788, 841, 894, 947, 1000, 1053, 1116, 1179, 1232, 1307, 1370, 1481, 1544, 1567]) (len := 139) (off := 1370) (tgt := 1403) (by decide +kernel) (by rw [c27]; decide) (by rw [c27]; decide) (by rw [c27]; decide +kernel) (by decide) ?_
        exact lawc_27 F S hsh hs27 hix hI hk hnext
      by_cases c28 : x = 28
      · refine j_tableIn F (pc := 33) (dflt := 1590) (lo := 0) (hi := 30) (offs := #[139, 202, 225, 238, 281, 314, 357, 390, 481, 514, 547, 580, 613, 646, 669, 712, 745, 788, 841, 894, 947, 1000, 1053, 1116, 1179, 1232, 1307, 1370, 1481, 1544, 1567]) (len := 139) (off := 1481) (tgt := 1514) (by decide +kernel) (by rw [c28]; decide) (by rw [c28]; decide) (by rw [c28]; decide +kernel) (by decide) ?_
        exact lawc_28 F S hsh hs28 hix hI hk hnext
      by_cases c29 : x = 29
      · refine j_tableIn F (pc := 33) (dflt := 1590) (lo := 0) (hi := 30) (offs := #[139, 202, 225, 238, 281, 314, 357, 390, 481, 514, 547, 580, 613, 646, 669, 712, 745, 788, 841, 894, 947, 1000, 1053, 1116, 1179, 1232, 1307, 1370, 1481, 1544, 1567]) (len := 139) (off := 1544) (tgt := 1577) (by decide +kernel) (by rw [c29]; decide) (by rw [c29]; decide) (by rw [c29]; decide +kernel) (by decide) ?_
        exact lawc_29 F S hsh hs29 hix hI hk hnext
      by_cases c30 : x = 30
      · refine j_tableIn F (pc := 33) (dflt := 1590) (lo := 0) (hi := 30) (offs := #[139, 202, 225, 238, 281, 314, 357, 390, 481, 514, 547, 580, 613, 646, 669, 712, 745, 788, 841, 894, 947, 1000, 1053, 1116, 1179, 1232, 1307, 1370, 1481, 1544, 1567]) (len := 139) (off := 1567) (tgt := 1600) (by decide +kernel) (by rw [c30]; decide) (by rw [c30]; decide) (by rw [c30]; decide +kernel) (by decide) ?_
        exact lawc_30 F S hsh hs30 hix hI hk hnext
      refine j_tableOut F (pc := 33) (dflt := 1590) (lo := 0) (hi := 30) (offs := #[139, 202, 225, 238, 281, 314, 357, 390, 481, 514, 547, 580, 613, 646, 669, 712, 745, 788, 841, 894, 947, 1000, 1053, 1116, 1179, 1232, 1307, 1370, 1481, 1544, 1567]) (len := 139) (tgt := 1623) (by decide +kernel) (by have d0 := lv_neT (k := 0) (a := 0) c0 (by decide); have d1 := lv_neT (k := 1) (a := 1) c1 (by decide); have d2 := lv_neT (k := 2) (a := 2) c2 (by decide); have d3 := lv_neT (k := 3) (a := 3) c3 (by decide); have d4 := lv_neT (k := 4) (a := 4) c4 (by decide); have d5 := lv_neT (k := 5) (a := 5) c5 (by decide); have d6 := lv_neT (k := 6) (a := 6) c6 (by decide); have d7 := lv_neT (k := 7) (a := 7) c7 (by decide); have d8 := lv_neT (k := 8) (a := 8) c8 (by decide); have d9 := lv_neT (k := 9) (a := 9) c9 (by decide); have d10 := lv_neT (k := 10) (a := 10) c10 (by decide); have d11 := lv_neT (k := 11) (a := 11) c11 (by decide); have d12 := lv_neT (k := 12) (a := 12) c12 (by decide); have d13 := lv_neT (k := 13) (a := 13) c13 (by decide); have d14 := lv_neT (k := 14) (a := 14) c14 (by decide); have d15 := lv_neT (k := 15) (a := 15) c15 (by decide); have d16 := lv_neT (k := 16) (a := 16) c16 (by decide); have d17 := lv_neT (k := 17) (a := 17) c17 (by decide); have d18 := lv_neT (k := 18) (a := 18) c18 (by decide); have d19 := lv_neT (k := 19) (a := 19) c19 (by decide); have d20 := lv_neT (k := 20) (a := 20) c20 (by decide); have d21 := lv_neT (k := 21) (a := 21) c21 (by decide); have d22 := lv_neT (k := 22) (a := 22) c22 (by decide); have d23 := lv_neT (k := 23) (a := 23) c23 (by decide); have d24 := lv_neT (k := 24) (a := 24) c24 (by decide); have d25 := lv_neT (k := 25) (a := 25) c25 (by decide); have d26 := lv_neT (k := 26) (a := 26) c26 (by decide); have d27 := lv_neT (k := 27) (a := 27) c27 (by decide); have d28 := lv_neT (k := 28) (a := 28) c28 (by decide); have d29 := lv_neT (k := 29) (a := 29) c29 (by decide); have d30 := lv_neT (k := 30) (a := 30) c30 (by decide); omega) (by decide) ?_
      exact hnext μ hI
