/-! Part 92o: the law's instructions -/
theorem dL_law_2910 : decode code 2910 = .ok (.goto 3, 3) := by decide +kernel
theorem dL_law_2913 : decode code 2913 = .ok (.iinc 5 6, 3) := by decide +kernel
theorem dL_law_2916 : decode code 2916 = .ok (.goto (-2888), 3) := by decide +kernel
theorem dL_law_2919 : decode code 2919 = .ok (.iconst 1, 1) := by decide +kernel
theorem dL_law_2920 : decode code 2920 = .ok (.ireturn, 1) := by decide +kernel
