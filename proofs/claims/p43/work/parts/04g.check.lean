/-! the checks of the code (written by wip/p43/gencheck.py) -/
theorem z_142_0 : chk 142 k_142_0 [[1022, 1023, 1001], [], [1024, 1025, 1001, 1026], [], [], [1055], [], []] = true := by decide +kernel
theorem z_142_1 : chk 142 k_142_1 [[], [], [], [], [], [], [], []] = true := by decide +kernel
theorem z_142_2 : chk 142 k_142_2 [[], [], [], [], [], [], [], []] = true := by decide +kernel
theorem z_142_3 : chk 142 k_142_3 [[], [], [], [], [], [], [], []] = true := by decide +kernel
theorem z_142_4 : chk 142 k_142_4 [[4180, 4181, 1000, 4182], [], [], [], [], [], [], []] = true := by decide +kernel
theorem z_142_5 : chk 142 k_142_5 [[], [], [], [], [], [4176, 4177, 1000, 4178], [], []] = true := by decide +kernel
theorem z_142_6 : chk 142 k_142_6 [[], [], [], [], [], [], [], []] = true := by decide +kernel
theorem z_142_7 : chk 142 k_142_7 [[], [], [], [], [], [], [], []] = true := by decide +kernel
