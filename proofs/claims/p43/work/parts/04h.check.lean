/-! the checks of the code (written by wip/p43/gencheck.py) -/
theorem z_142_8 : chk 142 k_142_8 [[], [], [], [], [], [], [], []] = true := by decide +kernel
theorem z_142_9 : chk 142 k_142_9 [[], [], [], [], [4183, 4184, 1000, 4185], [], [], []] = true := by decide +kernel
theorem z_142_10 : chk 142 k_142_10 [[], [], [], [3196, 3197, 1000, 3198], [], [], [], []] = true := by decide +kernel
theorem z_142_11 : chk 142 k_142_11 [[], [], [4170, 4171, 1000, 4172], [], [], [], [], []] = true := by decide +kernel
theorem z_142_12 : chk 142 k_142_12 [[], [], [3109, 3110, 3111, 1001, 3112], [], [], [], [], []] = true := by decide +kernel
theorem z_142_13 : chk 142 k_142_13 [[3109, 3110, 3111, 1001, 3112], [], [], [], [], [], [3109, 3110, 3111, 1001, 3112], []] = true := by decide +kernel
theorem z_142_14 : chk 142 k_142_14 [[], [], [], [], [], [], [], []] = true := by decide +kernel
theorem z_142_15 : chk 142 k_142_15 [[], [], [], [], [], [], [], []] = true := by decide +kernel
