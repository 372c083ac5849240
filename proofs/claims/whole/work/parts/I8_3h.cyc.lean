/-! ===== cyclic groups over root 3: the reference's numbers (printed by wip/whole/genI8.py) ===== -/
theorem zh3_n1 : alJ 1 (cyA 1 11 zw3_n1 60) = true := by decide +kernel
theorem zh3_n2 : alJ 2 (cyA 2 11 zw3_n2 60) = true := by decide +kernel
theorem zh3_n6 : alJ 6 (cyA 6 13 zw3_n6 60) = true := by decide +kernel
theorem zh3_n3 : alJ 3 (cyA 3 13 zw3_n3 60) = true := by decide +kernel
theorem zh3_n4 : alJ 4 (cyA 4 13 zw3_n4 60) = true := by decide +kernel
theorem zh3_n12_0 : cyA 12 37 zw3_n12 60 0 = true := by decide +kernel
theorem zh3_n12_1 : cyA 12 37 zw3_n12 60 1 = true := by decide +kernel
theorem zh3_n12_2 : cyA 12 37 zw3_n12 60 2 = true := by decide +kernel
theorem zh3_n12_3 : cyA 12 37 zw3_n12 60 3 = true := by decide +kernel
theorem zh3_n12_4 : cyA 12 37 zw3_n12 60 4 = true := by decide +kernel
theorem zh3_n12_5 : cyA 12 37 zw3_n12 60 5 = true := by decide +kernel
theorem zh3_n12_6 : cyA 12 37 zw3_n12 60 6 = true := by decide +kernel
theorem zh3_n12_7 : cyA 12 37 zw3_n12 60 7 = true := by decide +kernel
theorem zh3_n12_8 : cyA 12 37 zw3_n12 60 8 = true := by decide +kernel
theorem zh3_n12_9 : cyA 12 37 zw3_n12 60 9 = true := by decide +kernel
theorem zh3_n12_10 : cyA 12 37 zw3_n12 60 10 = true := by decide +kernel
theorem zh3_n12_11 : cyA 12 37 zw3_n12 60 11 = true := by decide +kernel
theorem zh3_n12 : alJ 12 (cyA 12 37 zw3_n12 60) = true := alJ_in _ (fun x hx => by
  have : x = 0 ∨ x = 1 ∨ x = 2 ∨ x = 3 ∨ x = 4 ∨ x = 5 ∨ x = 6 ∨ x = 7 ∨ x = 8 ∨ x = 9 ∨ x = 10 ∨ x = 11 := by omega
  rcases this with rfl | rfl | rfl | rfl | rfl | rfl | rfl | rfl | rfl | rfl | rfl | rfl
  · exact zh3_n12_0
  · exact zh3_n12_1
  · exact zh3_n12_2
  · exact zh3_n12_3
  · exact zh3_n12_4
  · exact zh3_n12_5
  · exact zh3_n12_6
  · exact zh3_n12_7
  · exact zh3_n12_8
  · exact zh3_n12_9
  · exact zh3_n12_10
  · exact zh3_n12_11)
