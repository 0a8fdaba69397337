/-! the checks of the code (written by wip/p43/gencheck.py) -/
theorem z_142_24 : chk 142 k_142_24 [[], [], [], [], [2189, 2190, 2191, 1001, 2192], [], [], []] = true := by decide +kernel
theorem z_142_25 : chk 142 k_142_25 [[], [], [], [], [2189, 2190, 2191, 1001, 2192], [], [], []] = true := by decide +kernel
theorem z_142_26 : chk 142 k_142_26 [[], [], [], [], [], [], [], []] = true := by decide +kernel
theorem z_142_27 : chk 142 k_142_27 [[], [], [], [], [], [], [], []] = true := by decide +kernel
theorem z_142_28 : chk 142 k_142_28 [[], [], [], [], [], [], [], []] = true := by decide +kernel
theorem z_142_29 : chk 142 k_142_29 [[], [2189, 2190, 2191, 1001, 2192], [], [], [], [], [], []] = true := by decide +kernel
theorem z_142_30 : chk 142 k_142_30 [[], [], [], [], [], [2189, 2190, 2191, 1001, 2192], [], []] = true := by decide +kernel
theorem z_142_31 : chk 142 k_142_31 [[], [], [], [], [], [], [], []] = true := by decide +kernel
