/-! ===== cyclic groups over root 2: the reference's numbers (printed by wip/whole/genI8.py) ===== -/
theorem zh2_n1 : alJ 1 (cyA 1 7 zw2_n1 60) = true := by decide +kernel
theorem zh2_n2 : alJ 2 (cyA 2 7 zw2_n2 60) = true := by decide +kernel
theorem zh2_n6 : alJ 6 (cyA 6 31 zw2_n6 60) = true := by decide +kernel
theorem zh2_n3 : alJ 3 (cyA 3 7 zw2_n3 60) = true := by decide +kernel
theorem zh2_n4 : alJ 4 (cyA 4 17 zw2_n4 60) = true := by decide +kernel
theorem zh2_n8 : alJ 8 (cyA 8 17 zw2_n8 60) = true := by decide +kernel
