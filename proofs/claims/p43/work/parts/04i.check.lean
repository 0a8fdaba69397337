/-! the checks of the code (written by wip/p43/gencheck.py) -/
theorem z_142_16 : chk 142 k_142_16 [[], [], [], [], [], [], [], []] = true := by decide +kernel
theorem z_142_17 : chk 142 k_142_17 [[], [3109, 3110, 3111, 1001, 3112], [], [], [], [], [], []] = true := by decide +kernel
theorem z_142_18 : chk 142 k_142_18 [[], [], [], [], [], [], [], []] = true := by decide +kernel
theorem z_142_19 : chk 142 k_142_19 [[], [], [], [], [], [], [], []] = true := by decide +kernel
theorem z_142_20 : chk 142 k_142_20 [[], [], [], [], [], [2189, 2190, 2191, 1001, 2192], [], []] = true := by decide +kernel
theorem z_142_21 : chk 142 k_142_21 [[], [], [], [], [], [], [], []] = true := by decide +kernel
theorem z_142_22 : chk 142 k_142_22 [[], [], [], [], [], [2189, 2190, 2191, 1001, 2192], [], []] = true := by decide +kernel
theorem z_142_23 : chk 142 k_142_23 [[], [], [], [], [], [2189, 2190, 2191, 1001, 2192], [], []] = true := by decide +kernel
