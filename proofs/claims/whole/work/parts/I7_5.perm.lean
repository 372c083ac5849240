/-! ===== .. the reference's numbers take their rows apart, at all numberings (printed by wip/whole/genI6.py) ===== -/
theorem zp5_Q8 : ptJ (leafJ (djP zd5_Q8) (djR zd5_Q8) zw5_Q8 60) (djR zd5_Q8) (djR zd5_Q8 - 1) 1 1 0 = true := by decide +kernel
theorem zz5_Q8 {told els : List (List Int)} (hC : Clo 5 told els) (hi : isoS 5 els.length (gmt 5 els) (tra els) ((0, 0), (0, 0), (0, 0)) sg5_Q8 ss5_Q8) : GD 5 els ∧ CONN 5 els := std_types hC (by decide) hi rfl zk5_Q8 zt5_Q8 zr5_Q8 zv5_Q8 zp5_Q8
theorem zp5_Q12 : ptJ (leafJ (djP zd5_Q12) (djR zd5_Q12) zw5_Q12 60) (djR zd5_Q12) (djR zd5_Q12 - 1) 1 1 0 = true := by decide +kernel
theorem zz5_Q12 {told els : List (List Int)} (hC : Clo 5 told els) (hi : isoS 5 els.length (gmt 5 els) (tra els) ((2, 0), (0, 0), (0, 0)) sg5_Q12 ss5_Q12) : GD 5 els ∧ CONN 5 els := std_types hC (by decide) hi rfl zk5_Q12 zt5_Q12 zr5_Q12 zv5_Q12 zp5_Q12
theorem zp1_5_Q20 : ptJ (leafJ (djP zd5_Q20) (djR zd5_Q20) zw5_Q20 60) (djR zd5_Q20) 6 (1 + 1) (stJ 1 1) (0 + Nat.shiftLeft 1 (Nat.mul 4 1)) = true := by decide +kernel
theorem zp2_5_Q20 : ptJ (leafJ (djP zd5_Q20) (djR zd5_Q20) zw5_Q20 60) (djR zd5_Q20) 6 (1 + 1) (stJ 1 2) (0 + Nat.shiftLeft 2 (Nat.mul 4 1)) = true := by decide +kernel
theorem zp3_5_Q20 : ptJ (leafJ (djP zd5_Q20) (djR zd5_Q20) zw5_Q20 60) (djR zd5_Q20) 6 (1 + 1) (stJ 1 3) (0 + Nat.shiftLeft 3 (Nat.mul 4 1)) = true := by decide +kernel
theorem zp4_5_Q20 : ptJ (leafJ (djP zd5_Q20) (djR zd5_Q20) zw5_Q20 60) (djR zd5_Q20) 6 (1 + 1) (stJ 1 4) (0 + Nat.shiftLeft 4 (Nat.mul 4 1)) = true := by decide +kernel
theorem zp5_5_Q20 : ptJ (leafJ (djP zd5_Q20) (djR zd5_Q20) zw5_Q20 60) (djR zd5_Q20) 6 (1 + 1) (stJ 1 5) (0 + Nat.shiftLeft 5 (Nat.mul 4 1)) = true := by decide +kernel
theorem zp6_5_Q20 : ptJ (leafJ (djP zd5_Q20) (djR zd5_Q20) zw5_Q20 60) (djR zd5_Q20) 6 (1 + 1) (stJ 1 6) (0 + Nat.shiftLeft 6 (Nat.mul 4 1)) = true := by decide +kernel
theorem zp7_5_Q20 : ptJ (leafJ (djP zd5_Q20) (djR zd5_Q20) zw5_Q20 60) (djR zd5_Q20) 6 (1 + 1) (stJ 1 7) (0 + Nat.shiftLeft 7 (Nat.mul 4 1)) = true := by decide +kernel
theorem zp5_Q20 : ptJ (leafJ (djP zd5_Q20) (djR zd5_Q20) zw5_Q20 60) (djR zd5_Q20) (djR zd5_Q20 - 1) 1 1 0 = true := pt_split (f := 6) (fun x hx => by
  have h9 : x < 8 := hx
  have : x = 0 ∨ x = 1 ∨ x = 2 ∨ x = 3 ∨ x = 4 ∨ x = 5 ∨ x = 6 ∨ x = 7 := by omega
  rcases this with rfl | rfl | rfl | rfl | rfl | rfl | rfl | rfl
  · exact .inl rfl
  · exact .inr zp1_5_Q20
  · exact .inr zp2_5_Q20
  · exact .inr zp3_5_Q20
  · exact .inr zp4_5_Q20
  · exact .inr zp5_5_Q20
  · exact .inr zp6_5_Q20
  · exact .inr zp7_5_Q20)
theorem zz5_Q20 {told els : List (List Int)} (hC : Clo 5 told els) (hi : isoS 5 els.length (gmt 5 els) (tra els) ((1, 1), (0, 0), (0, 0)) sg5_Q20 ss5_Q20) : GD 5 els ∧ CONN 5 els := std_types hC (by decide) hi rfl zk5_Q20 zt5_Q20 zr5_Q20 zv5_Q20 zp5_Q20
theorem zp5_2T : ptJ (leafJ (djP zd5_2T) (djR zd5_2T) zw5_2T 60) (djR zd5_2T) (djR zd5_2T - 1) 1 1 0 = true := by decide +kernel
theorem zz5_2T {told els : List (List Int)} (hC : Clo 5 told els) (hi : isoS 5 els.length (gmt 5 els) (tra els) ((2, 0), (2, 0), (0, 0)) sg5_2T ss5_2T) : GD 5 els ∧ CONN 5 els := std_types hC (by decide) hi rfl zk5_2T zt5_2T zr5_2T zv5_2T zp5_2T
theorem zp1_5_2I : ptJ (leafJ (djP zd5_2I) (djR zd5_2I) zw5_2I 60) (djR zd5_2I) 7 (1 + 1) (stJ 1 1) (0 + Nat.shiftLeft 1 (Nat.mul 4 1)) = true := by decide +kernel
theorem zp2_5_2I : ptJ (leafJ (djP zd5_2I) (djR zd5_2I) zw5_2I 60) (djR zd5_2I) 7 (1 + 1) (stJ 1 2) (0 + Nat.shiftLeft 2 (Nat.mul 4 1)) = true := by decide +kernel
theorem zp3_5_2I : ptJ (leafJ (djP zd5_2I) (djR zd5_2I) zw5_2I 60) (djR zd5_2I) 7 (1 + 1) (stJ 1 3) (0 + Nat.shiftLeft 3 (Nat.mul 4 1)) = true := by decide +kernel
theorem zp4_5_2I : ptJ (leafJ (djP zd5_2I) (djR zd5_2I) zw5_2I 60) (djR zd5_2I) 7 (1 + 1) (stJ 1 4) (0 + Nat.shiftLeft 4 (Nat.mul 4 1)) = true := by decide +kernel
theorem zp5_5_2I : ptJ (leafJ (djP zd5_2I) (djR zd5_2I) zw5_2I 60) (djR zd5_2I) 7 (1 + 1) (stJ 1 5) (0 + Nat.shiftLeft 5 (Nat.mul 4 1)) = true := by decide +kernel
theorem zp6_5_2I : ptJ (leafJ (djP zd5_2I) (djR zd5_2I) zw5_2I 60) (djR zd5_2I) 7 (1 + 1) (stJ 1 6) (0 + Nat.shiftLeft 6 (Nat.mul 4 1)) = true := by decide +kernel
theorem zp7_5_2I : ptJ (leafJ (djP zd5_2I) (djR zd5_2I) zw5_2I 60) (djR zd5_2I) 7 (1 + 1) (stJ 1 7) (0 + Nat.shiftLeft 7 (Nat.mul 4 1)) = true := by decide +kernel
theorem zp8_5_2I : ptJ (leafJ (djP zd5_2I) (djR zd5_2I) zw5_2I 60) (djR zd5_2I) 7 (1 + 1) (stJ 1 8) (0 + Nat.shiftLeft 8 (Nat.mul 4 1)) = true := by decide +kernel
theorem zp5_2I : ptJ (leafJ (djP zd5_2I) (djR zd5_2I) zw5_2I 60) (djR zd5_2I) (djR zd5_2I - 1) 1 1 0 = true := pt_split (f := 7) (fun x hx => by
  have h9 : x < 9 := hx
  have : x = 0 ∨ x = 1 ∨ x = 2 ∨ x = 3 ∨ x = 4 ∨ x = 5 ∨ x = 6 ∨ x = 7 ∨ x = 8 := by omega
  rcases this with rfl | rfl | rfl | rfl | rfl | rfl | rfl | rfl | rfl
  · exact .inl rfl
  · exact .inr zp1_5_2I
  · exact .inr zp2_5_2I
  · exact .inr zp3_5_2I
  · exact .inr zp4_5_2I
  · exact .inr zp5_5_2I
  · exact .inr zp6_5_2I
  · exact .inr zp7_5_2I
  · exact .inr zp8_5_2I)
theorem zz5_2I {told els : List (List Int)} (hC : Clo 5 told els) (hi : isoS 5 els.length (gmt 5 els) (tra els) ((1, 1), (2, 0), (0, 0)) sg5_2I ss5_2I) : GD 5 els ∧ CONN 5 els := std_types hC (by decide) hi rfl zk5_2I zt5_2I zr5_2I zv5_2I zp5_2I
