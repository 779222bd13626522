/-! WHAT IS LEFT -/
theorem z_goal_holds : z_goal := sorry
