/-! ===== .. the reference's numbers take their rows apart, at all numberings (printed by wip/whole/genI6.py) ===== -/
theorem zp2_Q8 : ptJ (leafJ (djP zd2_Q8) (djR zd2_Q8) zw2_Q8 60) (djR zd2_Q8) (djR zd2_Q8 - 1) 1 1 0 = true := by decide +kernel
theorem zz2_Q8 {told els : List (List Int)} (hC : Clo 2 told els) (hi : isoS 2 els.length (gmt 2 els) (tra els) ((0, 0), (0, 0), (0, 0)) sg2_Q8 ss2_Q8) : GD 2 els ∧ CONN 2 els := std_types hC (by decide) hi rfl zk2_Q8 zt2_Q8 zr2_Q8 zv2_Q8 zp2_Q8
theorem zp2_Q12 : ptJ (leafJ (djP zd2_Q12) (djR zd2_Q12) zw2_Q12 60) (djR zd2_Q12) (djR zd2_Q12 - 1) 1 1 0 = true := by decide +kernel
theorem zz2_Q12 {told els : List (List Int)} (hC : Clo 2 told els) (hi : isoS 2 els.length (gmt 2 els) (tra els) ((2, 0), (0, 0), (0, 0)) sg2_Q12 ss2_Q12) : GD 2 els ∧ CONN 2 els := std_types hC (by decide) hi rfl zk2_Q12 zt2_Q12 zr2_Q12 zv2_Q12 zp2_Q12
theorem zp2_Q16 : ptJ (leafJ (djP zd2_Q16) (djR zd2_Q16) zw2_Q16 60) (djR zd2_Q16) (djR zd2_Q16 - 1) 1 1 0 = true := by decide +kernel
theorem zz2_Q16 {told els : List (List Int)} (hC : Clo 2 told els) (hi : isoS 2 els.length (gmt 2 els) (tra els) ((0, 2), (0, 0), (0, 0)) sg2_Q16 ss2_Q16) : GD 2 els ∧ CONN 2 els := std_types hC (by decide) hi rfl zk2_Q16 zt2_Q16 zr2_Q16 zv2_Q16 zp2_Q16
theorem zp2_2T : ptJ (leafJ (djP zd2_2T) (djR zd2_2T) zw2_2T 60) (djR zd2_2T) (djR zd2_2T - 1) 1 1 0 = true := by decide +kernel
theorem zz2_2T {told els : List (List Int)} (hC : Clo 2 told els) (hi : isoS 2 els.length (gmt 2 els) (tra els) ((2, 0), (2, 0), (0, 0)) sg2_2T ss2_2T) : GD 2 els ∧ CONN 2 els := std_types hC (by decide) hi rfl zk2_2T zt2_2T zr2_2T zv2_2T zp2_2T
theorem zp1_2_2O : ptJ (leafJ (djP zd2_2O) (djR zd2_2O) zw2_2O 60) (djR zd2_2O) 6 (1 + 1) (stJ 1 1) (0 + Nat.shiftLeft 1 (Nat.mul 4 1)) = true := by decide +kernel
theorem zp2_2_2O : ptJ (leafJ (djP zd2_2O) (djR zd2_2O) zw2_2O 60) (djR zd2_2O) 6 (1 + 1) (stJ 1 2) (0 + Nat.shiftLeft 2 (Nat.mul 4 1)) = true := by decide +kernel
theorem zp3_2_2O : ptJ (leafJ (djP zd2_2O) (djR zd2_2O) zw2_2O 60) (djR zd2_2O) 6 (1 + 1) (stJ 1 3) (0 + Nat.shiftLeft 3 (Nat.mul 4 1)) = true := by decide +kernel
theorem zp4_2_2O : ptJ (leafJ (djP zd2_2O) (djR zd2_2O) zw2_2O 60) (djR zd2_2O) 6 (1 + 1) (stJ 1 4) (0 + Nat.shiftLeft 4 (Nat.mul 4 1)) = true := by decide +kernel
theorem zp5_2_2O : ptJ (leafJ (djP zd2_2O) (djR zd2_2O) zw2_2O 60) (djR zd2_2O) 6 (1 + 1) (stJ 1 5) (0 + Nat.shiftLeft 5 (Nat.mul 4 1)) = true := by decide +kernel
theorem zp6_2_2O : ptJ (leafJ (djP zd2_2O) (djR zd2_2O) zw2_2O 60) (djR zd2_2O) 6 (1 + 1) (stJ 1 6) (0 + Nat.shiftLeft 6 (Nat.mul 4 1)) = true := by decide +kernel
theorem zp7_2_2O : ptJ (leafJ (djP zd2_2O) (djR zd2_2O) zw2_2O 60) (djR zd2_2O) 6 (1 + 1) (stJ 1 7) (0 + Nat.shiftLeft 7 (Nat.mul 4 1)) = true := by decide +kernel
theorem zp2_2O : ptJ (leafJ (djP zd2_2O) (djR zd2_2O) zw2_2O 60) (djR zd2_2O) (djR zd2_2O - 1) 1 1 0 = true := pt_split (f := 6) (fun x hx => by
  have h9 : x < 8 := hx
  have : x = 0 ∨ x = 1 ∨ x = 2 ∨ x = 3 ∨ x = 4 ∨ x = 5 ∨ x = 6 ∨ x = 7 := by omega
  rcases this with rfl | rfl | rfl | rfl | rfl | rfl | rfl | rfl
  · exact .inl rfl
  · exact .inr zp1_2_2O
  · exact .inr zp2_2_2O
  · exact .inr zp3_2_2O
  · exact .inr zp4_2_2O
  · exact .inr zp5_2_2O
  · exact .inr zp6_2_2O
  · exact .inr zp7_2_2O)
theorem zz2_2O {told els : List (List Int)} (hC : Clo 2 told els) (hi : isoS 2 els.length (gmt 2 els) (tra els) ((0, 2), (2, 0), (0, 0)) sg2_2O ss2_2O) : GD 2 els ∧ CONN 2 els := std_types hC (by decide) hi rfl zk2_2O zt2_2O zr2_2O zv2_2O zp2_2O
