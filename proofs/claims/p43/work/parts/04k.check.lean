/-! the checks of the code (written by wip/p43/gencheck.py) -/
theorem z_142_32 : chk 142 k_142_32 [[], [], [], [], [], [], [], [3150, 3151, 3152, 1001, 3153]] = true := by decide +kernel
theorem z_142_33 : chk 142 k_142_33 [[], [], [], [], [], [], [3134, 3135, 3136, 1001, 3137], []] = true := by decide +kernel
theorem z_142_34 : chk 142 k_142_34 [[], [], [], [], [], [], [], []] = true := by decide +kernel
theorem z_142_35 : chk 142 k_142_35 [[], [], [], [], [], [], [], []] = true := by decide +kernel
theorem z_142_36 : chk 142 k_142_36 [[], [], [], [], [], [], [], []] = true := by decide +kernel
theorem z_142_37 : chk 142 k_142_37 [[], [], [], [], [3186, 3187, 3188, 1001, 3189], [], [], []] = true := by decide +kernel
theorem z_142_38 : chk 142 k_142_38 [[], [], [], [3162, 3163, 3164, 1001, 3165], [], [], [], []] = true := by decide +kernel
theorem z_142_39 : chk 142 k_142_39 [[], [], [], [], [], [], [], []] = true := by decide +kernel
