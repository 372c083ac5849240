/-! ===== cyclic groups over root 5: the reference's numbers (printed by wip/whole/genI8.py) ===== -/
theorem zh5_n1 : alJ 1 (cyA 1 11 zw5_n1 60) = true := by decide +kernel
theorem zh5_n2 : alJ 2 (cyA 2 11 zw5_n2 60) = true := by decide +kernel
theorem zh5_n6 : alJ 6 (cyA 6 19 zw5_n6 60) = true := by decide +kernel
theorem zh5_n3 : alJ 3 (cyA 3 19 zw5_n3 60) = true := by decide +kernel
theorem zh5_n4 : alJ 4 (cyA 4 29 zw5_n4 60) = true := by decide +kernel
theorem zh5_n10_0 : cyA 10 31 zw5_n10 60 0 = true := by decide +kernel
theorem zh5_n10_1 : cyA 10 31 zw5_n10 60 1 = true := by decide +kernel
theorem zh5_n10_2 : cyA 10 31 zw5_n10 60 2 = true := by decide +kernel
theorem zh5_n10_3 : cyA 10 31 zw5_n10 60 3 = true := by decide +kernel
theorem zh5_n10_4 : cyA 10 31 zw5_n10 60 4 = true := by decide +kernel
theorem zh5_n10_5 : cyA 10 31 zw5_n10 60 5 = true := by decide +kernel
theorem zh5_n10_6 : cyA 10 31 zw5_n10 60 6 = true := by decide +kernel
theorem zh5_n10_7 : cyA 10 31 zw5_n10 60 7 = true := by decide +kernel
theorem zh5_n10_8 : cyA 10 31 zw5_n10 60 8 = true := by decide +kernel
theorem zh5_n10_9 : cyA 10 31 zw5_n10 60 9 = true := by decide +kernel
theorem zh5_n10 : alJ 10 (cyA 10 31 zw5_n10 60) = true := alJ_in _ (fun x hx => by
  have : x = 0 ∨ x = 1 ∨ x = 2 ∨ x = 3 ∨ x = 4 ∨ x = 5 ∨ x = 6 ∨ x = 7 ∨ x = 8 ∨ x = 9 := by omega
  rcases this with rfl | rfl | rfl | rfl | rfl | rfl | rfl | rfl | rfl | rfl
  · exact zh5_n10_0
  · exact zh5_n10_1
  · exact zh5_n10_2
  · exact zh5_n10_3
  · exact zh5_n10_4
  · exact zh5_n10_5
  · exact zh5_n10_6
  · exact zh5_n10_7
  · exact zh5_n10_8
  · exact zh5_n10_9)
theorem zh5_n5 : alJ 5 (cyA 5 11 zw5_n5 60) = true := by decide +kernel
