/-! WHAT WAS LEFT -/
theorem z_all_holds : zs_all Inv0 := ⟨fun μ h => by
  obtain ⟨A, -, hC, -⟩ := h
  exact hC.ok, s_0, s_1, s_2, s_3, s_4, s_5, s_6, s_7, s_8, s_9, s_10, s_11, s_12, s_13, s_14, s_15, s_16, s_17, s_18, s_19, s_20, s_21, s_22, s_23, s_24, s_25, s_26, s_27, s_28, s_29, s_30⟩
theorem z_goal_holds : z_goal := by
  obtain ⟨μ1, μ2, h1, h2, h3, h4⟩ := p_start
  exact ⟨Inv0, μ1, μ2, h1, h2, h3, h4, z_all_holds⟩
