/-! ===== .. the reference's numbers take their rows apart, at all numberings (printed by wip/whole/genI6.py) ===== -/
theorem zp3_Q8 : ptJ (leafJ (djP zd3_Q8) (djR zd3_Q8) zw3_Q8 60) (djR zd3_Q8) (djR zd3_Q8 - 1) 1 1 0 = true := by decide +kernel
theorem zz3_Q8 {told els : List (List Int)} (hC : Clo 3 told els) (hi : isoS 3 els.length (gmt 3 els) (tra els) ((0, 0), (0, 0), (0, 0)) sg3_Q8 ss3_Q8) : GD 3 els ∧ CONN 3 els := std_types hC (by decide) hi rfl zk3_Q8 zt3_Q8 zr3_Q8 zv3_Q8 zp3_Q8
theorem zp3_Q12 : ptJ (leafJ (djP zd3_Q12) (djR zd3_Q12) zw3_Q12 60) (djR zd3_Q12) (djR zd3_Q12 - 1) 1 1 0 = true := by decide +kernel
theorem zz3_Q12 {told els : List (List Int)} (hC : Clo 3 told els) (hi : isoS 3 els.length (gmt 3 els) (tra els) ((2, 0), (0, 0), (0, 0)) sg3_Q12 ss3_Q12) : GD 3 els ∧ CONN 3 els := std_types hC (by decide) hi rfl zk3_Q12 zt3_Q12 zr3_Q12 zv3_Q12 zp3_Q12
theorem zp1_3_Q24 : ptJ (leafJ (djP zd3_Q24) (djR zd3_Q24) zw3_Q24 60) (djR zd3_Q24) 7 (1 + 1) (stJ 1 1) (0 + Nat.shiftLeft 1 (Nat.mul 4 1)) = true := by decide +kernel
theorem zp2_3_Q24 : ptJ (leafJ (djP zd3_Q24) (djR zd3_Q24) zw3_Q24 60) (djR zd3_Q24) 7 (1 + 1) (stJ 1 2) (0 + Nat.shiftLeft 2 (Nat.mul 4 1)) = true := by decide +kernel
theorem zp3_3_Q24 : ptJ (leafJ (djP zd3_Q24) (djR zd3_Q24) zw3_Q24 60) (djR zd3_Q24) 7 (1 + 1) (stJ 1 3) (0 + Nat.shiftLeft 3 (Nat.mul 4 1)) = true := by decide +kernel
theorem zp4_3_Q24 : ptJ (leafJ (djP zd3_Q24) (djR zd3_Q24) zw3_Q24 60) (djR zd3_Q24) 7 (1 + 1) (stJ 1 4) (0 + Nat.shiftLeft 4 (Nat.mul 4 1)) = true := by decide +kernel
theorem zp5_3_Q24 : ptJ (leafJ (djP zd3_Q24) (djR zd3_Q24) zw3_Q24 60) (djR zd3_Q24) 7 (1 + 1) (stJ 1 5) (0 + Nat.shiftLeft 5 (Nat.mul 4 1)) = true := by decide +kernel
theorem zp6_3_Q24 : ptJ (leafJ (djP zd3_Q24) (djR zd3_Q24) zw3_Q24 60) (djR zd3_Q24) 7 (1 + 1) (stJ 1 6) (0 + Nat.shiftLeft 6 (Nat.mul 4 1)) = true := by decide +kernel
theorem zp7_3_Q24 : ptJ (leafJ (djP zd3_Q24) (djR zd3_Q24) zw3_Q24 60) (djR zd3_Q24) 7 (1 + 1) (stJ 1 7) (0 + Nat.shiftLeft 7 (Nat.mul 4 1)) = true := by decide +kernel
theorem zp8_3_Q24 : ptJ (leafJ (djP zd3_Q24) (djR zd3_Q24) zw3_Q24 60) (djR zd3_Q24) 7 (1 + 1) (stJ 1 8) (0 + Nat.shiftLeft 8 (Nat.mul 4 1)) = true := by decide +kernel
theorem zp3_Q24 : ptJ (leafJ (djP zd3_Q24) (djR zd3_Q24) zw3_Q24 60) (djR zd3_Q24) (djR zd3_Q24 - 1) 1 1 0 = true := pt_split (f := 7) (fun x hx => by
  have h9 : x < 9 := hx
  have : x = 0 ∨ x = 1 ∨ x = 2 ∨ x = 3 ∨ x = 4 ∨ x = 5 ∨ x = 6 ∨ x = 7 ∨ x = 8 := by omega
  rcases this with rfl | rfl | rfl | rfl | rfl | rfl | rfl | rfl | rfl
  · exact .inl rfl
  · exact .inr zp1_3_Q24
  · exact .inr zp2_3_Q24
  · exact .inr zp3_3_Q24
  · exact .inr zp4_3_Q24
  · exact .inr zp5_3_Q24
  · exact .inr zp6_3_Q24
  · exact .inr zp7_3_Q24
  · exact .inr zp8_3_Q24)
theorem zz3_Q24 {told els : List (List Int)} (hC : Clo 3 told els) (hi : isoS 3 els.length (gmt 3 els) (tra els) ((0, 2), (0, 0), (0, 0)) sg3_Q24 ss3_Q24) : GD 3 els ∧ CONN 3 els := std_types hC (by decide) hi rfl zk3_Q24 zt3_Q24 zr3_Q24 zv3_Q24 zp3_Q24
theorem zp3_2T : ptJ (leafJ (djP zd3_2T) (djR zd3_2T) zw3_2T 60) (djR zd3_2T) (djR zd3_2T - 1) 1 1 0 = true := by decide +kernel
theorem zz3_2T {told els : List (List Int)} (hC : Clo 3 told els) (hi : isoS 3 els.length (gmt 3 els) (tra els) ((2, 0), (2, 0), (0, 0)) sg3_2T ss3_2T) : GD 3 els ∧ CONN 3 els := std_types hC (by decide) hi rfl zk3_2T zt3_2T zr3_2T zv3_2T zp3_2T
