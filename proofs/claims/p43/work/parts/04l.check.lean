/-! the checks of the code (written by wip/p43/gencheck.py) -/
theorem z_142_40 : chk 142 k_142_40 [[], [4186, 4187, 1000, 4188], [], [], [], [], [], [4224, 4225, 1000, 4226]] = true := by decide +kernel
theorem z_142_41 : chk 142 k_142_41 [[], [], [], [], [], [], [5051, 5052, 1000, 5053], []] = true := by decide +kernel
theorem z_142_42 : chk 142 k_142_42 [[], [], [], []] = true := by decide +kernel
