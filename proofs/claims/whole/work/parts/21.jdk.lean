/-! ===== decode rows and trees: 21.jdk ===== -/
section G21
variable {E : Ev} {σ : Sg} {rc rs : Nat} {Q : NO → Sg → Prop}
theorem dJ0_charAt_5068e_0 : decode cJ0_charAt_5068e 0 = .ok (.aload_n 0, 1) := by decide +kernel
theorem dJ0_charAt_5068e_1 : decode cJ0_charAt_5068e 1 = .ok (.invokevirtual 492, 3) := by decide +kernel
theorem dJ0_charAt_5068e_4 : decode cJ0_charAt_5068e 4 = .ok (.ifCond .eq 12, 3) := by decide +kernel
theorem dJ0_charAt_5068e_7 : decode cJ0_charAt_5068e 7 = .ok (.aload_n 0, 1) := by decide +kernel
theorem dJ0_charAt_5068e_8 : decode cJ0_charAt_5068e 8 = .ok (.getfield 9, 3) := by decide +kernel
theorem dJ0_charAt_5068e_11 : decode cJ0_charAt_5068e 11 = .ok (.iload_n 1, 1) := by decide +kernel
theorem dJ0_charAt_5068e_12 : decode cJ0_charAt_5068e 12 = .ok (.invokestatic 495, 3) := by decide +kernel
theorem dJ0_charAt_5068e_15 : decode cJ0_charAt_5068e 15 = .ok (.ireturn, 1) := by decide +kernel
theorem dJ0_charAt_5068e_16 : decode cJ0_charAt_5068e 16 = .ok (.aload_n 0, 1) := by decide +kernel
theorem dJ0_charAt_5068e_17 : decode cJ0_charAt_5068e 17 = .ok (.getfield 9, 3) := by decide +kernel
theorem dJ0_charAt_5068e_20 : decode cJ0_charAt_5068e 20 = .ok (.iload_n 1, 1) := by decide +kernel
theorem dJ0_charAt_5068e_21 : decode cJ0_charAt_5068e 21 = .ok (.invokestatic 498, 3) := by decide +kernel
theorem dJ0_charAt_5068e_24 : decode cJ0_charAt_5068e 24 = .ok (.ireturn, 1) := by decide +kernel
theorem B_J0_charAt_5068e_0 {a0 : Nat} {x1 : Int} (h : okT σ a0 ∧ CC E mJ0_isLatin1_aae02 [vr a0] σ (KI (fun r1 τ2 => inR r1 → ((r1 = 0 → okT τ2 a0 ∧ False) ∧ (¬ (r1 = 0) → okT τ2 a0 ∧ CC E mJ1_charAt_3b067 [vr (gR τ2 a0 0), vi x1] τ2 (KI (fun r5 τ6 => inR r5 → (0 ≤ r5 ∧ r5 ≤ 65535) ∧ Q (.inl (some (vi r5))) τ6) (fun _ _ => False))))) (fun _ _ => False))) : GG E mJ0_charAt_5068e 0 [some (vr a0), some (vi x1)] [] σ rc rs Q := by
  refine r_aload_n (pc := 0) dJ0_charAt_5068e_0 rfl rfl ?_
  refine c_VSI0N (M := mJ0_charAt_5068e) (M2 := mJ0_isLatin1_aae02) (pc := 1) (As := []) dJ0_charAt_5068e_1 K_J0_isLatin1_aae02 w_812 ⟨by decide, by decide⟩ (Nat.le_of_ble_eq_true rfl) rfl rfl rfl h.1 h.2 (fun r1 τ2 h8 hr9 => ?_) rfl
  replace h := h8 hr9
  refine r_if_eq (pc := 4) (tgt := 16) dJ0_charAt_5068e_4 (by decide) (fun c9 => ?_) (fun c9 => ?_)
  · replace h := h.1 c9
    refine r_aload_n (pc := 16) dJ0_charAt_5068e_16 rfl rfl ?_
    obtain ⟨o3, h⟩ := h
    refine r_getSR (pc := 17) dJ0_charAt_5068e_17 w_1888 o3.1 o3.2 ?_
    refine r_iload_n (pc := 20) dJ0_charAt_5068e_20 rfl rfl ?_
    exact h.elim
  · replace h := h.2 c9
    refine r_aload_n (pc := 7) dJ0_charAt_5068e_7 rfl rfl ?_
    obtain ⟨o4, h⟩ := h
    refine r_getSR (pc := 8) dJ0_charAt_5068e_8 w_1888 o4.1 o4.2 ?_
    refine r_iload_n (pc := 11) dJ0_charAt_5068e_11 rfl rfl ?_
    refine c_SI0N (M := mJ0_charAt_5068e) (M2 := mJ1_charAt_3b067) (pc := 12) (As := [vr (gR τ2 a0 0), vi x1]) dJ0_charAt_5068e_12 K_J1_charAt_3b067 w_816 ⟨by decide, by decide⟩ (Nat.le_of_ble_eq_true rfl) rfl rfl h (fun r5 τ6 h8 hr9 => ?_) rfl
    replace h := h8 hr9
    exact r_ireturn (pc := 15) (ty := .char) dJ0_charAt_5068e_15 (by decide +kernel) rfl (nar_char h.1) h.2
theorem C_J0_charAt_5068e {a0 : Nat} {x1 : Int} (h : GG E mJ0_charAt_5068e 0 [some (vr a0), some (vi x1)] [] σ 0 0 Q) : CC E mJ0_charAt_5068e [vr a0, vi x1] σ Q := CC.of (by decide +kernel) rfl (by decide +kernel) (fun h9 => nomatch h9) (Nat.le_of_ble_eq_true rfl) h
theorem dJ0_checkIndex_df160_0 : decode cJ0_checkIndex_df160 0 = .ok (.iload_n 0, 1) := by decide +kernel
theorem dJ0_checkIndex_df160_1 : decode cJ0_checkIndex_df160 1 = .ok (.iload_n 1, 1) := by decide +kernel
theorem dJ0_checkIndex_df160_2 : decode cJ0_checkIndex_df160 2 = .ok (.getstatic 1053, 3) := by decide +kernel
theorem dJ0_checkIndex_df160_5 : decode cJ0_checkIndex_df160 5 = .ok (.invokestatic 1059, 3) := by decide +kernel
theorem dJ0_checkIndex_df160_8 : decode cJ0_checkIndex_df160 8 = .ok (.pop, 1) := by decide +kernel
theorem dJ0_checkIndex_df160_9 : decode cJ0_checkIndex_df160 9 = .ok (.return_, 1) := by decide +kernel
theorem B_J0_checkIndex_df160_0 {x0 : Int} {x1 : Int} (h : CC E mJ3_checkIndex_8e157 [vi x0, vi x1, vr 14] σ (KI (fun r1 τ2 => inR r1 → Q (.inl none) τ2) (fun _ _ => False))) : GG E mJ0_checkIndex_df160 0 [some (vi x0), some (vi x1)] [] σ rc rs Q := by
  refine r_iload_n (pc := 0) dJ0_checkIndex_df160_0 rfl rfl ?_
  refine r_iload_n (pc := 1) dJ0_checkIndex_df160_1 rfl rfl ?_
  refine r_gets (pc := 2) (v := vr 14) dJ0_checkIndex_df160_2 (List.mem_of_getElem? (i := 5) rfl) w_822 trivial ?_
  refine c_SI0N (M := mJ0_checkIndex_df160) (M2 := mJ3_checkIndex_8e157) (pc := 5) (As := [vi x0, vi x1, vr 14]) dJ0_checkIndex_df160_5 K_J3_checkIndex_8e157 w_824 ⟨by decide, by decide⟩ (Nat.le_of_ble_eq_true rfl) rfl rfl h (fun r1 τ2 h8 hr9 => ?_) rfl
  replace h := h8 hr9
  refine r_pop (pc := 8) dJ0_checkIndex_df160_8 (fun _ h9 => nomatch h9) ?_
  exact r_return (pc := 9) dJ0_checkIndex_df160_9 (by decide +kernel) rfl h
theorem C_J0_checkIndex_df160 {x0 : Int} {x1 : Int} (h : GG E mJ0_checkIndex_df160 0 [some (vi x0), some (vi x1)] [] σ 0 0 Q) : CC E mJ0_checkIndex_df160 [vi x0, vi x1] σ Q := CC.of (by decide +kernel) rfl (by decide +kernel) (fun h9 => nomatch h9) (Nat.le_of_ble_eq_true rfl) h
theorem dJ0_coder_7d493_0 : decode cJ0_coder_7d493 0 = .ok (.getstatic 38, 3) := by decide +kernel
theorem dJ0_coder_7d493_3 : decode cJ0_coder_7d493 3 = .ok (.ifCond .eq 10, 3) := by decide +kernel
theorem dJ0_coder_7d493_6 : decode cJ0_coder_7d493 6 = .ok (.aload_n 0, 1) := by decide +kernel
theorem dJ0_coder_7d493_7 : decode cJ0_coder_7d493 7 = .ok (.getfield 15, 3) := by decide +kernel
theorem dJ0_coder_7d493_10 : decode cJ0_coder_7d493 10 = .ok (.goto 4, 3) := by decide +kernel
theorem dJ0_coder_7d493_13 : decode cJ0_coder_7d493 13 = .ok (.iconst 1, 1) := by decide +kernel
theorem dJ0_coder_7d493_14 : decode cJ0_coder_7d493 14 = .ok (.ireturn, 1) := by decide +kernel
theorem B_J0_coder_7d493_0 {a0 : Nat} (h : (((1 : Int) = 0 → (1 : Int) = 0 ∧ Q (.inl (some (vi 1))) σ) ∧ (¬ ((1 : Int) = 0) → okT σ a0 ∧ gI σ a0 1 = 0 ∧ Q (.inl (some (vi (gI σ a0 1)))) σ))) : GG E mJ0_coder_7d493 0 [some (vr a0)] [] σ rc rs Q := by
  refine r_gets (pc := 0) (v := vi 1) dJ0_coder_7d493_0 (List.mem_of_getElem? (i := 4) rfl) w_806 (show inR 1 from inRk rfl) ?_
  refine r_if_eq (pc := 3) (tgt := 13) dJ0_coder_7d493_3 (by decide) (fun c9 => ?_) (fun c9 => ?_)
  · replace h := h.1 c9
    refine r_iconst (pc := 13) dJ0_coder_7d493_13 (inRk rfl) ?_
    exact r_ireturn (pc := 14) (ty := .byte) dJ0_coder_7d493_14 (by decide +kernel) rfl (nar_byte h.1) h.2
  · replace h := h.2 c9
    refine r_aload_n (pc := 6) dJ0_coder_7d493_6 rfl rfl ?_
    obtain ⟨o1, h⟩ := h
    refine r_getSI (pc := 7) dJ0_coder_7d493_7 w_1889 o1.1 o1.2 ?_
    refine r_goto (pc := 10) (tgt := 14) dJ0_coder_7d493_10 (by decide) ?_
    exact r_ireturn (pc := 14) (ty := .byte) dJ0_coder_7d493_14 (by decide +kernel) rfl (nar_byte h.1) h.2
theorem C_J0_coder_7d493 {a0 : Nat} (h : GG E mJ0_coder_7d493 0 [some (vr a0)] [] σ 0 0 Q) : CC E mJ0_coder_7d493 [vr a0] σ Q := CC.of (by decide +kernel) rfl (by decide +kernel) (fun h9 => nomatch h9) (Nat.le_of_ble_eq_true rfl) h
theorem dJ0_isLatin1_aae02_0 : decode cJ0_isLatin1_aae02 0 = .ok (.getstatic 38, 3) := by decide +kernel
theorem dJ0_isLatin1_aae02_3 : decode cJ0_isLatin1_aae02 3 = .ok (.ifCond .eq 14, 3) := by decide +kernel
theorem dJ0_isLatin1_aae02_6 : decode cJ0_isLatin1_aae02 6 = .ok (.aload_n 0, 1) := by decide +kernel
theorem dJ0_isLatin1_aae02_7 : decode cJ0_isLatin1_aae02 7 = .ok (.getfield 15, 3) := by decide +kernel
theorem dJ0_isLatin1_aae02_10 : decode cJ0_isLatin1_aae02 10 = .ok (.ifCond .ne 7, 3) := by decide +kernel
theorem dJ0_isLatin1_aae02_13 : decode cJ0_isLatin1_aae02 13 = .ok (.iconst 1, 1) := by decide +kernel
theorem dJ0_isLatin1_aae02_14 : decode cJ0_isLatin1_aae02 14 = .ok (.goto 4, 3) := by decide +kernel
theorem dJ0_isLatin1_aae02_17 : decode cJ0_isLatin1_aae02 17 = .ok (.iconst 0, 1) := by decide +kernel
theorem dJ0_isLatin1_aae02_18 : decode cJ0_isLatin1_aae02 18 = .ok (.ireturn, 1) := by decide +kernel
theorem B_J0_isLatin1_aae02_0 {a0 : Nat} (h : (((1 : Int) = 0 → Q (.inl (some (vi 0))) σ) ∧ (¬ ((1 : Int) = 0) → okT σ a0 ∧ (((gI σ a0 1) ≠ 0 → Q (.inl (some (vi 0))) σ) ∧ ((gI σ a0 1) = 0 → Q (.inl (some (vi 1))) σ))))) : GG E mJ0_isLatin1_aae02 0 [some (vr a0)] [] σ rc rs Q := by
  refine r_gets (pc := 0) (v := vi 1) dJ0_isLatin1_aae02_0 (List.mem_of_getElem? (i := 4) rfl) w_806 (show inR 1 from inRk rfl) ?_
  refine r_if_eq (pc := 3) (tgt := 17) dJ0_isLatin1_aae02_3 (by decide) (fun c9 => ?_) (fun c9 => ?_)
  · replace h := h.1 c9
    refine r_iconst (pc := 17) dJ0_isLatin1_aae02_17 (inRk rfl) ?_
    exact r_ireturn (pc := 18) (ty := .boolean) dJ0_isLatin1_aae02_18 (by decide +kernel) rfl (nar_bool (by decide)) h
  · replace h := h.2 c9
    refine r_aload_n (pc := 6) dJ0_isLatin1_aae02_6 rfl rfl ?_
    obtain ⟨o1, h⟩ := h
    refine r_getSI (pc := 7) dJ0_isLatin1_aae02_7 w_1889 o1.1 o1.2 ?_
    refine r_if_ne (pc := 10) (tgt := 17) dJ0_isLatin1_aae02_10 (by decide) (fun c9 => ?_) (fun c9 => ?_)
    · replace h := h.1 c9
      refine r_iconst (pc := 17) dJ0_isLatin1_aae02_17 (inRk rfl) ?_
      exact r_ireturn (pc := 18) (ty := .boolean) dJ0_isLatin1_aae02_18 (by decide +kernel) rfl (nar_bool (by decide)) h
    · replace h := h.2 c9
      refine r_iconst (pc := 13) dJ0_isLatin1_aae02_13 (inRk rfl) ?_
      refine r_goto (pc := 14) (tgt := 18) dJ0_isLatin1_aae02_14 (by decide) ?_
      exact r_ireturn (pc := 18) (ty := .boolean) dJ0_isLatin1_aae02_18 (by decide +kernel) rfl (nar_bool (by decide)) h
theorem C_J0_isLatin1_aae02 {a0 : Nat} (h : GG E mJ0_isLatin1_aae02 0 [some (vr a0)] [] σ 0 0 Q) : CC E mJ0_isLatin1_aae02 [vr a0] σ Q := CC.of (by decide +kernel) rfl (by decide +kernel) (fun h9 => nomatch h9) (Nat.le_of_ble_eq_true rfl) h
theorem dJ0_length_8abf5_0 : decode cJ0_length_8abf5 0 = .ok (.aload_n 0, 1) := by decide +kernel
theorem dJ0_length_8abf5_1 : decode cJ0_length_8abf5 1 = .ok (.getfield 9, 3) := by decide +kernel
theorem dJ0_length_8abf5_4 : decode cJ0_length_8abf5 4 = .ok (.arraylength, 1) := by decide +kernel
theorem dJ0_length_8abf5_5 : decode cJ0_length_8abf5 5 = .ok (.aload_n 0, 1) := by decide +kernel
theorem dJ0_length_8abf5_6 : decode cJ0_length_8abf5 6 = .ok (.invokevirtual 335, 3) := by decide +kernel
theorem dJ0_length_8abf5_9 : decode cJ0_length_8abf5 9 = .ok (.ishr, 1) := by decide +kernel
theorem dJ0_length_8abf5_10 : decode cJ0_length_8abf5 10 = .ok (.ireturn, 1) := by decide +kernel
theorem B_J0_length_8abf5_0 {a0 : Nat} (h : okT σ a0 ∧ okN σ (gR σ a0 0) ∧ okT σ a0 ∧ CC E mJ0_coder_7d493 [vr a0] σ (KI (fun r3 τ4 => inR r3 → Q (.inl (some (vi (b_ishrq ((gS σ (gR σ a0 0)).2 : Int) r3)))) τ4) (fun _ _ => False))) : GG E mJ0_length_8abf5 0 [some (vr a0)] [] σ rc rs Q := by
  refine r_aload_n (pc := 0) dJ0_length_8abf5_0 rfl rfl ?_
  obtain ⟨o1, h⟩ := h
  refine r_getSR (pc := 1) dJ0_length_8abf5_1 w_1888 o1.1 o1.2 ?_
  obtain ⟨o2, h⟩ := h
  refine r_alen (pc := 4) dJ0_length_8abf5_4 o2.1 o2.2 ?_
  refine r_aload_n (pc := 5) dJ0_length_8abf5_5 rfl rfl ?_
  refine c_VSI0N (M := mJ0_length_8abf5) (M2 := mJ0_coder_7d493) (pc := 6) (As := []) dJ0_length_8abf5_6 K_J0_coder_7d493 w_802 ⟨by decide, by decide⟩ (Nat.le_of_ble_eq_true rfl) rfl rfl rfl h.1 h.2 (fun r3 τ4 h8 hr9 => ?_) rfl
  replace h := h8 hr9
  refine r_ishr (pc := 9) dJ0_length_8abf5_9 ?_
  exact r_ireturn (pc := 10) (ty := .int) dJ0_length_8abf5_10 (by decide +kernel) rfl (nar_i _) h
theorem C_J0_length_8abf5 {a0 : Nat} (h : GG E mJ0_length_8abf5 0 [some (vr a0)] [] σ 0 0 Q) : CC E mJ0_length_8abf5 [vr a0] σ Q := CC.of (by decide +kernel) rfl (by decide +kernel) (fun h9 => nomatch h9) (Nat.le_of_ble_eq_true rfl) h
theorem dJ1_charAt_3b067_0 : decode cJ1_charAt_3b067 0 = .ok (.iload_n 1, 1) := by decide +kernel
theorem dJ1_charAt_3b067_1 : decode cJ1_charAt_3b067 1 = .ok (.aload_n 0, 1) := by decide +kernel
theorem dJ1_charAt_3b067_2 : decode cJ1_charAt_3b067 2 = .ok (.arraylength, 1) := by decide +kernel
theorem dJ1_charAt_3b067_3 : decode cJ1_charAt_3b067 3 = .ok (.invokestatic 9, 3) := by decide +kernel
theorem dJ1_charAt_3b067_6 : decode cJ1_charAt_3b067 6 = .ok (.aload_n 0, 1) := by decide +kernel
theorem dJ1_charAt_3b067_7 : decode cJ1_charAt_3b067 7 = .ok (.iload_n 1, 1) := by decide +kernel
theorem dJ1_charAt_3b067_8 : decode cJ1_charAt_3b067 8 = .ok (.baload, 1) := by decide +kernel
theorem dJ1_charAt_3b067_9 : decode cJ1_charAt_3b067 9 = .ok (.sipush 255, 3) := by decide +kernel
theorem dJ1_charAt_3b067_12 : decode cJ1_charAt_3b067 12 = .ok (.iand, 1) := by decide +kernel
theorem dJ1_charAt_3b067_13 : decode cJ1_charAt_3b067 13 = .ok (.i2c, 1) := by decide +kernel
theorem dJ1_charAt_3b067_14 : decode cJ1_charAt_3b067 14 = .ok (.ireturn, 1) := by decide +kernel
theorem B_J1_charAt_3b067_0 {a0 : Nat} {x1 : Int} (h : okN σ a0 ∧ CC E mJ0_checkIndex_df160 [vi x1, vi ((gS σ a0).2 : Int)] σ (KV (fun τ3 => okA 21 τ3 a0 x1 ∧ (0 ≤ b_i2cq (b_iandq (gI τ3 a0 x1.toNat) 255) ∧ b_i2cq (b_iandq (gI τ3 a0 x1.toNat) 255) ≤ 65535) ∧ Q (.inl (some (vi (b_i2cq (b_iandq (gI τ3 a0 x1.toNat) 255))))) τ3) (fun _ _ => False))) : GG E mJ1_charAt_3b067 0 [some (vr a0), some (vi x1)] [] σ rc rs Q := by
  refine r_iload_n (pc := 0) dJ1_charAt_3b067_0 rfl rfl ?_
  refine r_aload_n (pc := 1) dJ1_charAt_3b067_1 rfl rfl ?_
  obtain ⟨o1, h⟩ := h
  refine r_alen (pc := 2) dJ1_charAt_3b067_2 o1.1 o1.2 ?_
  refine c_SV0N (M := mJ1_charAt_3b067) (M2 := mJ0_checkIndex_df160) (pc := 3) (As := [vi x1, vi ((gS σ a0).2 : Int)]) dJ1_charAt_3b067_3 K_J0_checkIndex_df160 w_819 ⟨by decide, by decide⟩ (Nat.le_of_ble_eq_true rfl) rfl rfl h (fun τ3 h8 => ?_) rfl
  replace h := h8
  refine r_aload_n (pc := 6) dJ1_charAt_3b067_6 rfl rfl ?_
  refine r_iload_n (pc := 7) dJ1_charAt_3b067_7 rfl rfl ?_
  obtain ⟨o4, h⟩ := h
  refine r_baload (pc := 8) dJ1_charAt_3b067_8 o4 ?_
  refine r_sipush (pc := 9) dJ1_charAt_3b067_9 (by decide) ?_
  refine r_iand (pc := 12) dJ1_charAt_3b067_12 ?_
  refine r_i2c (pc := 13) dJ1_charAt_3b067_13 ?_
  exact r_ireturn (pc := 14) (ty := .char) dJ1_charAt_3b067_14 (by decide +kernel) rfl (nar_char h.1) h.2
theorem C_J1_charAt_3b067 {a0 : Nat} {x1 : Int} (h : GG E mJ1_charAt_3b067 0 [some (vr a0), some (vi x1)] [] σ 0 0 Q) : CC E mJ1_charAt_3b067 [vr a0, vi x1] σ Q := CC.of (by decide +kernel) rfl (by decide +kernel) (fun h9 => nomatch h9) (Nat.le_of_ble_eq_true rfl) h
theorem dJ3_checkIndex_8e157_0 : decode cJ3_checkIndex_8e157 0 = .ok (.iload_n 0, 1) := by decide +kernel
theorem dJ3_checkIndex_8e157_1 : decode cJ3_checkIndex_8e157 1 = .ok (.ifCond .lt 8, 3) := by decide +kernel
theorem dJ3_checkIndex_8e157_4 : decode cJ3_checkIndex_8e157 4 = .ok (.iload_n 0, 1) := by decide +kernel
theorem dJ3_checkIndex_8e157_5 : decode cJ3_checkIndex_8e157 5 = .ok (.iload_n 1, 1) := by decide +kernel
theorem dJ3_checkIndex_8e157_6 : decode cJ3_checkIndex_8e157 6 = .ok (.if_icmp .lt 10, 3) := by decide +kernel
theorem dJ3_checkIndex_8e157_9 : decode cJ3_checkIndex_8e157 9 = .ok (.aload_n 2, 1) := by decide +kernel
theorem dJ3_checkIndex_8e157_10 : decode cJ3_checkIndex_8e157 10 = .ok (.iload_n 0, 1) := by decide +kernel
theorem dJ3_checkIndex_8e157_11 : decode cJ3_checkIndex_8e157 11 = .ok (.iload_n 1, 1) := by decide +kernel
theorem dJ3_checkIndex_8e157_12 : decode cJ3_checkIndex_8e157 12 = .ok (.invokestatic 95, 3) := by decide +kernel
theorem dJ3_checkIndex_8e157_15 : decode cJ3_checkIndex_8e157 15 = .ok (.athrow, 1) := by decide +kernel
theorem dJ3_checkIndex_8e157_16 : decode cJ3_checkIndex_8e157 16 = .ok (.iload_n 0, 1) := by decide +kernel
theorem dJ3_checkIndex_8e157_17 : decode cJ3_checkIndex_8e157 17 = .ok (.ireturn, 1) := by decide +kernel
theorem B_J3_checkIndex_8e157_0 {x0 : Int} {x1 : Int} {a2 : Nat} (h : ((x0 < 0 → False) ∧ (¬ (x0 < 0) → ((x0 < x1 → Q (.inl (some (vi x0))) σ) ∧ (¬ (x0 < x1) → False))))) : GG E mJ3_checkIndex_8e157 0 [some (vi x0), some (vi x1), some (vr a2)] [] σ rc rs Q := by
  refine r_iload_n (pc := 0) dJ3_checkIndex_8e157_0 rfl rfl ?_
  refine r_if_lt (pc := 1) (tgt := 9) dJ3_checkIndex_8e157_1 (by decide) (fun c9 => ?_) (fun c9 => ?_)
  · replace h := h.1 c9
    refine r_aload_n (pc := 9) dJ3_checkIndex_8e157_9 rfl rfl ?_
    refine r_iload_n (pc := 10) dJ3_checkIndex_8e157_10 rfl rfl ?_
    refine r_iload_n (pc := 11) dJ3_checkIndex_8e157_11 rfl rfl ?_
    exact h.elim
  · replace h := h.2 c9
    refine r_iload_n (pc := 4) dJ3_checkIndex_8e157_4 rfl rfl ?_
    refine r_iload_n (pc := 5) dJ3_checkIndex_8e157_5 rfl rfl ?_
    refine r_icmp_lt (pc := 6) (tgt := 16) dJ3_checkIndex_8e157_6 (by decide) (fun c9 => ?_) (fun c9 => ?_)
    · replace h := h.1 c9
      refine r_iload_n (pc := 16) dJ3_checkIndex_8e157_16 rfl rfl ?_
      exact r_ireturn (pc := 17) (ty := .int) dJ3_checkIndex_8e157_17 (by decide +kernel) rfl (nar_i _) h
    · replace h := h.2 c9
      refine r_aload_n (pc := 9) dJ3_checkIndex_8e157_9 rfl rfl ?_
      refine r_iload_n (pc := 10) dJ3_checkIndex_8e157_10 rfl rfl ?_
      refine r_iload_n (pc := 11) dJ3_checkIndex_8e157_11 rfl rfl ?_
      exact h.elim
theorem C_J3_checkIndex_8e157 {x0 : Int} {x1 : Int} {a2 : Nat} (h : GG E mJ3_checkIndex_8e157 0 [some (vi x0), some (vi x1), some (vr a2)] [] σ 0 0 Q) : CC E mJ3_checkIndex_8e157 [vi x0, vi x1, vr a2] σ Q := CC.of (by decide +kernel) rfl (by decide +kernel) (fun h9 => nomatch h9) (Nat.le_of_ble_eq_true rfl) h
theorem dJ9_floorMod_7cf53_0 : decode cJ9_floorMod_7cf53 0 = .ok (.iload_n 0, 1) := by decide +kernel
theorem dJ9_floorMod_7cf53_1 : decode cJ9_floorMod_7cf53 1 = .ok (.iload_n 1, 1) := by decide +kernel
theorem dJ9_floorMod_7cf53_2 : decode cJ9_floorMod_7cf53 2 = .ok (.irem, 1) := by decide +kernel
theorem dJ9_floorMod_7cf53_3 : decode cJ9_floorMod_7cf53 3 = .ok (.istore_n 2, 1) := by decide +kernel
theorem dJ9_floorMod_7cf53_4 : decode cJ9_floorMod_7cf53 4 = .ok (.iload_n 0, 1) := by decide +kernel
theorem dJ9_floorMod_7cf53_5 : decode cJ9_floorMod_7cf53 5 = .ok (.iload_n 1, 1) := by decide +kernel
theorem dJ9_floorMod_7cf53_6 : decode cJ9_floorMod_7cf53 6 = .ok (.ixor, 1) := by decide +kernel
theorem dJ9_floorMod_7cf53_7 : decode cJ9_floorMod_7cf53 7 = .ok (.ifCond .ge 11, 3) := by decide +kernel
theorem dJ9_floorMod_7cf53_10 : decode cJ9_floorMod_7cf53 10 = .ok (.iload_n 2, 1) := by decide +kernel
theorem dJ9_floorMod_7cf53_11 : decode cJ9_floorMod_7cf53 11 = .ok (.ifCond .eq 7, 3) := by decide +kernel
theorem dJ9_floorMod_7cf53_14 : decode cJ9_floorMod_7cf53 14 = .ok (.iload_n 2, 1) := by decide +kernel
theorem dJ9_floorMod_7cf53_15 : decode cJ9_floorMod_7cf53 15 = .ok (.iload_n 1, 1) := by decide +kernel
theorem dJ9_floorMod_7cf53_16 : decode cJ9_floorMod_7cf53 16 = .ok (.iadd, 1) := by decide +kernel
theorem dJ9_floorMod_7cf53_17 : decode cJ9_floorMod_7cf53 17 = .ok (.ireturn, 1) := by decide +kernel
theorem dJ9_floorMod_7cf53_18 : decode cJ9_floorMod_7cf53 18 = .ok (.iload_n 2, 1) := by decide +kernel
theorem dJ9_floorMod_7cf53_19 : decode cJ9_floorMod_7cf53 19 = .ok (.ireturn, 1) := by decide +kernel
theorem B_J9_floorMod_7cf53_0 {x0 : Int} {x1 : Int} (h : x1 ≠ 0 ∧ ((0 ≤ (b_ixorq x0 x1) → Q (.inl (some (vi (x0.tmod x1)))) σ) ∧ (¬ (0 ≤ (b_ixorq x0 x1)) → (((x0.tmod x1) = 0 → Q (.inl (some (vi (x0.tmod x1)))) σ) ∧ (¬ ((x0.tmod x1) = 0) → inR ((x0.tmod x1) + x1) ∧ Q (.inl (some (vi ((x0.tmod x1) + x1)))) σ))))) : GG E mJ9_floorMod_7cf53 0 [some (vi x0), some (vi x1), none] [] σ rc rs Q := by
  refine r_iload_n (pc := 0) dJ9_floorMod_7cf53_0 rfl rfl ?_
  refine r_iload_n (pc := 1) dJ9_floorMod_7cf53_1 rfl rfl ?_
  obtain ⟨o1, h⟩ := h
  refine r_irem (pc := 2) dJ9_floorMod_7cf53_2 o1 ?_
  refine r_istore_n (pc := 3) dJ9_floorMod_7cf53_3 rfl (by decide) (l2 := [some (vi x0), some (vi x1), some (vi (x0.tmod x1))]) rfl ?_
  refine r_iload_n (pc := 4) dJ9_floorMod_7cf53_4 rfl rfl ?_
  refine r_iload_n (pc := 5) dJ9_floorMod_7cf53_5 rfl rfl ?_
  refine r_ixor (pc := 6) dJ9_floorMod_7cf53_6 ?_
  refine r_if_ge (pc := 7) (tgt := 18) dJ9_floorMod_7cf53_7 (by decide) (fun c9 => ?_) (fun c9 => ?_)
  · replace h := h.1 c9
    refine r_iload_n (pc := 18) dJ9_floorMod_7cf53_18 rfl rfl ?_
    exact r_ireturn (pc := 19) (ty := .int) dJ9_floorMod_7cf53_19 (by decide +kernel) rfl (nar_i _) h
  · replace h := h.2 c9
    refine r_iload_n (pc := 10) dJ9_floorMod_7cf53_10 rfl rfl ?_
    refine r_if_eq (pc := 11) (tgt := 18) dJ9_floorMod_7cf53_11 (by decide) (fun c9 => ?_) (fun c9 => ?_)
    · replace h := h.1 c9
      refine r_iload_n (pc := 18) dJ9_floorMod_7cf53_18 rfl rfl ?_
      exact r_ireturn (pc := 19) (ty := .int) dJ9_floorMod_7cf53_19 (by decide +kernel) rfl (nar_i _) h
    · replace h := h.2 c9
      refine r_iload_n (pc := 14) dJ9_floorMod_7cf53_14 rfl rfl ?_
      refine r_iload_n (pc := 15) dJ9_floorMod_7cf53_15 rfl rfl ?_
      obtain ⟨o2, h⟩ := h
      refine r_iadd (pc := 16) dJ9_floorMod_7cf53_16 o2 ?_
      exact r_ireturn (pc := 17) (ty := .int) dJ9_floorMod_7cf53_17 (by decide +kernel) rfl (nar_i _) h
theorem C_J9_floorMod_7cf53 {x0 : Int} {x1 : Int} (h : GG E mJ9_floorMod_7cf53 0 [some (vi x0), some (vi x1), none] [] σ 0 0 Q) : CC E mJ9_floorMod_7cf53 [vi x0, vi x1] σ Q := CC.of (by decide +kernel) rfl (by decide +kernel) (fun h9 => nomatch h9) (Nat.le_of_ble_eq_true rfl) h
end G21
